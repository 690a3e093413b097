set_option maxHeartbeats 4000000 in
set_option maxRecDepth 100000 in
theorem w_X9_mixHouse_6 {p : Program} {l : Launch} {e : Env} {s : State} {m : MethodId} {args : Array Value} {below : List Frame} {meth : Method} {c : Code} {dC : Nat → ClassId} {dI : Nat → Nat → Nat} {cI cJ : ClassId} {A : Nat → Prop} (cx : CX RX9 cX9_mixHouse (some .long) 7 p s m args meth c (dC, dI) (TY cI cJ)) (hA : ∀ q, s.heap.size ≤ q → A q) {qa : Nat → Nat → Nat} {C : (Nat → Mem)} {L : MemL} {post : Int64 → Prop} : ∀ (n : Nat) (x3 : Int32) (x4 : Int64) (x6 : Int32) (H : Heap) (locs : List Loc) (ls : Array Slot), va_P (dC, dI) vwCl (wC cI cJ qa C L) H → va_D A (wC cI cJ qa C L) → va_S A s.heap H locs → lv_has ls 7 [(0, .ref (qa 0 0)), (3, .int x3), (4, .long x4), (6, .int x6)] → b_X9_mixHouse_6 C L post n x3 x4 x6 → W p l e ({ frames := 2, cells := 0, slots := 0, locals := 43 }) s m args below meth c H locs 0 0 (MQ below (va_Ql (S := Unit) (fun (r : Int64) (_u : Unit) => post r) (fun _u t => AT (dC, dI) (TY cI cJ) A (wC cI cJ qa C L) t) A) args s 0 0 A) (F0 m 6 ls []) := by
  obtain ⟨hx, hb, hr, hml, hown, hts, hlocks, hK⟩ := id cx
  have cx' : CX RX9 cX9_mixHouse (meth.sig.returnType) 7 p s m args meth c (dC, dI) (TY cI cJ) := ⟨hx, hb, rfl, hml, hown, hts, hlocks, hK⟩
  intro n
  induction n with
  | zero =>
    intro x3 x4 x6 H locs ls hP hD hS hl h
    exact False.elim h
  | succ n ih =>
    intro x3 x4 x6 H locs ls hP hD hS hl h
    unfold b_X9_mixHouse_6 at h
    refine lv_iload hx hb dX9_mixHouse_6 (lv_at hl 3 rfl) ?_
    refine lv_iconst (v := 2) hx hb dX9_mixHouse_8 (by decide) ?_
    refine lv_icmp_gt (tgt := 35) hx hb dX9_mixHouse_9 (by decide) (fun c_1 => ?_) (fun c_1 => ?_)
    · have h := h.1 c_1
      refine lv_ldc2 hx hb hown (hts _ kw_675) dX9_mixHouse_35 ?_
      refine lv_lload hx hb dX9_mixHouse_38 (lv_at hl 2 rfl) ?_
      refine lv_lmul hx hb dX9_mixHouse_40 ?_
      refine lv_aload_n hx hb dX9_mixHouse_41 rfl (lv_at hl 0 rfl) ?_
      refine lv_iload_n hx hb dX9_mixHouse_42 rfl (lv_at hl 1 rfl) ?_
      refine call_i (run_V (As := [.int x3]) (rest := [.long (31 * x4)]) cx' (c_X9_at l H.size qa C L x3 _ h) mv_X9_at kw_683 rfl rfl ⟨Nat.le_of_ble_eq_true rfl, Nat.le_of_ble_eq_true rfl⟩ hP hD rfl rfl rfl hl.1 rfl (Nat.le_of_ble_eq_true rfl) dX9_mixHouse_43 ⟨Nat.zero_le _, Nat.zero_le _⟩) hD hS hA (fun r_2 u9 H locs hP hD hS h => ?_)
      have hP : va_P (dC, dI) vwCl (wC cI cJ qa C L) H := hP
      have hD : va_D A (wC cI cJ qa C L) := hD
      refine lv_i2l (v := Int32.toInt64 r_2) hx hb dX9_mixHouse_46 rfl ?_
      refine lv_ladd hx hb dX9_mixHouse_47 ?_
      refine lv_topl (fun x4_3 ex4_3 => ?_)
      have h := h x4_3 ex4_3
      refine lv_lstore (lv' := [(4, .long x4_3), (0, .ref (qa 0 0)), (3, .int x3), (6, .int x6)]) hx hb dX9_mixHouse_48 hl (by decide) rfl (fun ls hl => ?_)
      refine lv_ldc2 hx hb hown (hts _ kw_675) dX9_mixHouse_50 ?_
      refine lv_lload hx hb dX9_mixHouse_53 (lv_at hl 0 rfl) ?_
      refine lv_lmul hx hb dX9_mixHouse_55 ?_
      refine lv_aload_n hx hb dX9_mixHouse_56 rfl (lv_at hl 1 rfl) ?_
      refine lv_iload_n hx hb dX9_mixHouse_57 rfl (lv_at hl 2 rfl) ?_
      refine lv_iconst (v := 0) hx hb dX9_mixHouse_58 (by decide) ?_
      refine call_i (run_V (As := [.int x3, .int 0]) (rest := [.long (31 * x4_3)]) cx' (c_X9_all l H.size qa C L x3 0 _ h) mv_X9_all kw_684 rfl rfl ⟨Nat.le_of_ble_eq_true rfl, Nat.le_of_ble_eq_true rfl⟩ hP hD rfl rfl rfl hl.1 rfl (Nat.le_of_ble_eq_true rfl) dX9_mixHouse_59 ⟨Nat.zero_le _, Nat.zero_le _⟩) hD hS hA (fun r_4 u9 H locs hP hD hS h => ?_)
      have hP : va_P (dC, dI) vwCl (wC cI cJ qa C L) H := hP
      have hD : va_D A (wC cI cJ qa C L) := hD
      refine lv_i2l (v := Int32.toInt64 r_4) hx hb dX9_mixHouse_62 rfl ?_
      refine lv_ladd hx hb dX9_mixHouse_63 ?_
      refine lv_topl (fun x4_5 ex4_5 => ?_)
      have h := h x4_5 ex4_5
      refine lv_lstore (lv' := [(4, .long x4_5), (0, .ref (qa 0 0)), (3, .int x3), (6, .int x6)]) hx hb dX9_mixHouse_64 hl (by decide) rfl (fun ls hl => ?_)
      refine lv_ldc2 hx hb hown (hts _ kw_675) dX9_mixHouse_66 ?_
      refine lv_lload hx hb dX9_mixHouse_69 (lv_at hl 0 rfl) ?_
      refine lv_lmul hx hb dX9_mixHouse_71 ?_
      refine lv_aload_n hx hb dX9_mixHouse_72 rfl (lv_at hl 1 rfl) ?_
      refine lv_iload_n hx hb dX9_mixHouse_73 rfl (lv_at hl 2 rfl) ?_
      refine lv_iconst (v := 1) hx hb dX9_mixHouse_74 (by decide) ?_
      refine call_i (run_V (As := [.int x3, .int 1]) (rest := [.long (31 * x4_5)]) cx' (c_X9_all l H.size qa C L x3 1 _ h) mv_X9_all kw_684 rfl rfl ⟨Nat.le_of_ble_eq_true rfl, Nat.le_of_ble_eq_true rfl⟩ hP hD rfl rfl rfl hl.1 rfl (Nat.le_of_ble_eq_true rfl) dX9_mixHouse_75 ⟨Nat.zero_le _, Nat.zero_le _⟩) hD hS hA (fun r_6 u9 H locs hP hD hS h => ?_)
      have hP : va_P (dC, dI) vwCl (wC cI cJ qa C L) H := hP
      have hD : va_D A (wC cI cJ qa C L) := hD
      refine lv_i2l (v := Int32.toInt64 r_6) hx hb dX9_mixHouse_78 rfl ?_
      refine lv_ladd hx hb dX9_mixHouse_79 ?_
      refine lv_topl (fun x4_7 ex4_7 => ?_)
      have h := h x4_7 ex4_7
      refine lv_lstore (lv' := [(4, .long x4_7), (0, .ref (qa 0 0)), (3, .int x3), (6, .int x6)]) hx hb dX9_mixHouse_80 hl (by decide) rfl (fun ls hl => ?_)
      refine lv_ldc2 hx hb hown (hts _ kw_675) dX9_mixHouse_82 ?_
      refine lv_lload hx hb dX9_mixHouse_85 (lv_at hl 0 rfl) ?_
      refine lv_lmul hx hb dX9_mixHouse_87 ?_
      refine lv_aload_n hx hb dX9_mixHouse_88 rfl (lv_at hl 1 rfl) ?_
      refine lv_iload_n hx hb dX9_mixHouse_89 rfl (lv_at hl 2 rfl) ?_
      refine call_i (run_V (As := [.int x3]) (rest := [.long (31 * x4_7)]) cx' (c_X9_price l H.size qa C L x3 _ h) mv_X9_price kw_685 rfl rfl ⟨Nat.le_of_ble_eq_true rfl, Nat.le_of_ble_eq_true rfl⟩ hP hD rfl rfl rfl hl.1 rfl (Nat.le_of_ble_eq_true rfl) dX9_mixHouse_90 ⟨Nat.zero_le _, Nat.zero_le _⟩) hD hS hA (fun r_8 u9 H locs hP hD hS h => ?_)
      have hP : va_P (dC, dI) vwCl (wC cI cJ qa C L) H := hP
      have hD : va_D A (wC cI cJ qa C L) := hD
      refine lv_i2l (v := Int32.toInt64 r_8) hx hb dX9_mixHouse_93 rfl ?_
      refine lv_ladd hx hb dX9_mixHouse_94 ?_
      exact rt_l (v := (31 * x4_7) + (Int32.toInt64 r_8)) (u := ()) cx hP hD hS h dX9_mixHouse_95
    have h := h.2 c_1
    refine lv_ldc2 hx hb hown (hts _ kw_675) dX9_mixHouse_12 ?_
    refine lv_lload hx hb dX9_mixHouse_15 (lv_at hl 2 rfl) ?_
    refine lv_lmul hx hb dX9_mixHouse_17 ?_
    refine lv_aload_n hx hb dX9_mixHouse_18 rfl (lv_at hl 0 rfl) ?_
    refine lv_iload_n hx hb dX9_mixHouse_19 rfl (lv_at hl 1 rfl) ?_
    refine lv_iload hx hb dX9_mixHouse_20 (lv_at hl 3 rfl) ?_
    refine call_i (run_V (As := [.int x3, .int x6]) (rest := [.long (31 * x4)]) cx' (c_X9_house l H.size qa C L x3 x6 _ h) mv_X9_house kw_682 rfl rfl ⟨Nat.le_of_ble_eq_true rfl, Nat.le_of_ble_eq_true rfl⟩ hP hD rfl rfl rfl hl.1 rfl (Nat.le_of_ble_eq_true rfl) dX9_mixHouse_22 ⟨Nat.zero_le _, Nat.zero_le _⟩) hD hS hA (fun r_9 u9 H locs hP hD hS h => ?_)
    have hP : va_P (dC, dI) vwCl (wC cI cJ qa C L) H := hP
    have hD : va_D A (wC cI cJ qa C L) := hD
    refine lv_i2l (v := Int32.toInt64 r_9) hx hb dX9_mixHouse_25 rfl ?_
    refine lv_ladd hx hb dX9_mixHouse_26 ?_
    refine lv_topl (fun x4_10 ex4_10 => ?_)
    have h := h x4_10 ex4_10
    refine lv_lstore (lv' := [(4, .long x4_10), (0, .ref (qa 0 0)), (3, .int x3), (6, .int x6)]) hx hb dX9_mixHouse_27 hl (by decide) rfl (fun ls hl => ?_)
    obtain ⟨x6_11, ex6_11⟩ : ∃ z : Int32, z = x6 + 1 := ⟨_, rfl⟩
    have h := h x6_11 ex6_11
    refine lv_iinc (v := x6_11) (lv' := [(6, .int x6_11), (4, .long x4_10), (0, .ref (qa 0 0)), (3, .int x3)]) hx hb dX9_mixHouse_29 hl (k := 3) rfl (by rw [ex6_11]; rfl) (by decide) rfl (fun ls hl => ?_)
    refine lv_goto (tgt := 6) hx hb dX9_mixHouse_32 (by decide) ?_
    exact ih x3 x4_10 x6_11 H locs ls hP hD hS (lv_sub hl [2, 3, 1, 0] rfl) h
set_option maxHeartbeats 4000000 in
set_option maxRecDepth 100000 in
theorem w_X9_mixHouse_0 {p : Program} {l : Launch} {e : Env} {s : State} {m : MethodId} {args : Array Value} {below : List Frame} {meth : Method} {c : Code} {dC : Nat → ClassId} {dI : Nat → Nat → Nat} {cI cJ : ClassId} {A : Nat → Prop} (cx : CX RX9 cX9_mixHouse (some .long) 7 p s m args meth c (dC, dI) (TY cI cJ)) (hA : ∀ q, s.heap.size ≤ q → A q) {qa : Nat → Nat → Nat} {C : (Nat → Mem)} {L : MemL} {post : Int64 → Prop} : ∀ (x1 : Int64) (x3 : Int32) (H : Heap) (locs : List Loc) (ls : Array Slot), va_P (dC, dI) vwCl (wC cI cJ qa C L) H → va_D A (wC cI cJ qa C L) → va_S A s.heap H locs → lv_has ls 7 [(0, .ref (qa 0 0)), (1, .long x1), (3, .int x3)] → b_X9_mixHouse_0 C L post x1 x3 → W p l e ({ frames := 2, cells := 0, slots := 0, locals := 43 }) s m args below meth c H locs 0 0 (MQ below (va_Ql (S := Unit) (fun (r : Int64) (_u : Unit) => post r) (fun _u t => AT (dC, dI) (TY cI cJ) A (wC cI cJ qa C L) t) A) args s 0 0 A) (F0 m 0 ls []) := by
  obtain ⟨hx, hb, hr, hml, hown, hts, hlocks, hK⟩ := id cx
  have cx' : CX RX9 cX9_mixHouse (meth.sig.returnType) 7 p s m args meth c (dC, dI) (TY cI cJ) := ⟨hx, hb, rfl, hml, hown, hts, hlocks, hK⟩
  intro x1 x3 H locs ls hP hD hS hl h
  unfold b_X9_mixHouse_0 at h
  refine lv_lload_n hx hb dX9_mixHouse_0 rfl (lv_at hl 1 rfl) ?_
  refine lv_lstore (lv' := [(4, .long x1), (0, .ref (qa 0 0)), (1, .long x1), (3, .int x3)]) hx hb dX9_mixHouse_1 hl (by decide) rfl (fun ls hl => ?_)
  refine lv_iconst (v := 0) hx hb dX9_mixHouse_3 (by decide) ?_
  refine lv_istore (lv' := [(6, .int 0), (4, .long x1), (0, .ref (qa 0 0)), (1, .long x1), (3, .int x3)]) hx hb dX9_mixHouse_4 hl (by decide) rfl (fun ls hl => ?_)
  obtain ⟨n_1, h⟩ := h
  exact w_X9_mixHouse_6 cx hA n_1 x3 x1 0 H locs ls hP hD hS (lv_sub hl [2, 4, 1, 0] rfl) h
set_option maxRecDepth 100000 in
theorem c_X9_mixHouse (l : Launch) {dC : Nat → ClassId} {dI : Nat → Nat → Nat} {cI cJ : ClassId} (sz : Nat) (qa : Nat → Nat → Nat) (C : Nat → Mem) (L : MemL) (x1 : Int64) (x3 : Int32) (post : Int64 → Prop) (h : wp_X9_mixHouse C L x1 x3 post) : Met l yX9_mixHouse (Cond.code yX9_mixHouse cX9_mixHouse 7 (some .long) :: gt) ({ frames := 2, cells := 0, slots := 0, locals := 43 }) (va_Pc [.ref (qa 0 0), .long x1, .int x3] (PRE (dC, dI) (TY cI cJ) (wC cI cJ qa C L) sz)) (va_Ql (S := Unit) (fun (r : Int64) (_u : Unit) => post r) (fun _u t => AT (dC, dI) (TY cI cJ) (va_A (wC cI cJ qa C L) sz) (wC cI cJ qa C L) t) (va_A (wC cI cJ qa C L) sz)) 0 0 (va_A (wC cI cJ qa C L) sz) :=
  met_of (own := RX9) (Qf := fun A => va_Ql (S := Unit) (fun (r : Int64) (_u : Unit) => post r) (fun _u t => AT (dC, dI) (TY cI cJ) A (wC cI cJ qa C L) t) A) (by decide) rfl (Nat.le_of_ble_eq_true rfl) rfl (fun p e s m below meth c A cx hA ls hP hD hS hl => w_X9_mixHouse_0 cx hA x1 x3 _ _ ls hP hD hS hl h)
theorem mv_X9_mixHouse : MV yX9_mixHouse cX9_mixHouse 7 (some .long) 2 := ⟨⟨kw_681, kw_1, by decide +kernel⟩, kw_680, ksel_16⟩
set_option maxHeartbeats 4000000 in
set_option maxRecDepth 100000 in
theorem w_X9_mixPlans_153 {p : Program} {l : Launch} {e : Env} {s : State} {m : MethodId} {args : Array Value} {below : List Frame} {meth : Method} {c : Code} {dC : Nat → ClassId} {dI : Nat → Nat → Nat} {cI cJ : ClassId} {A : Nat → Prop} (cx : CX RX9 cX9_mixPlans (some .long) 7 p s m args meth c (dC, dI) (TY cI cJ)) (hA : ∀ q, s.heap.size ≤ q → A q) {qa : Nat → Nat → Nat} {post : Int64 → (Nat → Mem) → MemL → Prop} : ∀ (x3 : Int32) (x4 : Int64) (C : (Nat → Mem)) (L : MemL) (H : Heap) (locs : List Loc) (ls : Array Slot), va_P (dC, dI) vwCl (wC cI cJ qa C L) H → va_D A (wC cI cJ qa C L) → va_S A s.heap H locs → lv_has ls 7 [(0, .ref (qa 0 0)), (3, .int x3), (4, .long x4)] → b_X9_mixPlans_153 post x3 x4 C L → W p l e ({ frames := 5, cells := 0, slots := 0, locals := 124 }) s m args below meth c H locs 0 0 (MQ below (va_Ql (S := (Nat → Mem) × MemL) (fun (r : Int64) (u : (Nat → Mem) × MemL) => post r u.1 u.2) (fun u t => AT (dC, dI) (TY cI cJ) A (wC cI cJ qa (u.1) (u.2)) t) A) args s 0 0 A) (F0 m 153 ls []) := by
  obtain ⟨hx, hb, hr, hml, hown, hts, hlocks, hK⟩ := id cx
  have cx' : CX RX9 cX9_mixPlans (meth.sig.returnType) 7 p s m args meth c (dC, dI) (TY cI cJ) := ⟨hx, hb, rfl, hml, hown, hts, hlocks, hK⟩
  intro x3 x4 C L H locs ls hP hD hS hl h
  unfold b_X9_mixPlans_153 at h
  refine lv_ldc2 hx hb hown (hts _ kw_675) dX9_mixPlans_153 ?_
  refine lv_lload hx hb dX9_mixPlans_156 (lv_at hl 2 rfl) ?_
  refine lv_lmul hx hb dX9_mixPlans_158 ?_
  refine lv_aload_n hx hb dX9_mixPlans_159 rfl (lv_at hl 0 rfl) ?_
  refine lv_iload_n hx hb dX9_mixPlans_160 rfl (lv_at hl 1 rfl) ?_
  refine lv_iconst (v := 0) hx hb dX9_mixPlans_161 (by decide) ?_
  refine call_i (run_V (As := [.int x3, .int 0]) (rest := [.long (31 * x4)]) cx' (c_X9_soup l H.size qa C L x3 0 _ h) mv_X9_soup kw_691 rfl rfl ⟨Nat.le_of_ble_eq_true rfl, Nat.le_of_ble_eq_true rfl⟩ hP hD rfl rfl rfl hl.1 rfl (Nat.le_of_ble_eq_true rfl) dX9_mixPlans_162 ⟨Nat.zero_le _, Nat.zero_le _⟩) hD hS hA (fun r_1 u9 H locs hP hD hS h => ?_)
  obtain ⟨C_2, L_3⟩ := u9
  have hP : va_P (dC, dI) vwCl (wC cI cJ qa C_2 L_3) H := hP
  have hD : va_D A (wC cI cJ qa C_2 L_3) := hD
  refine lv_i2l (v := Int32.toInt64 r_1) hx hb dX9_mixPlans_165 rfl ?_
  refine lv_ladd hx hb dX9_mixPlans_166 ?_
  exact rt_l (v := (31 * x4) + (Int32.toInt64 r_1)) (u := (C_2, L_3)) cx hP hD hS h dX9_mixPlans_167
set_option maxHeartbeats 4000000 in
set_option maxRecDepth 100000 in
theorem w_X9_mixPlans_0 {p : Program} {l : Launch} {e : Env} {s : State} {m : MethodId} {args : Array Value} {below : List Frame} {meth : Method} {c : Code} {dC : Nat → ClassId} {dI : Nat → Nat → Nat} {cI cJ : ClassId} {A : Nat → Prop} (cx : CX RX9 cX9_mixPlans (some .long) 7 p s m args meth c (dC, dI) (TY cI cJ)) (hA : ∀ q, s.heap.size ≤ q → A q) {qa : Nat → Nat → Nat} {post : Int64 → (Nat → Mem) → MemL → Prop} : ∀ (x1 : Int64) (x3 : Int32) (C : (Nat → Mem)) (L : MemL) (H : Heap) (locs : List Loc) (ls : Array Slot), va_P (dC, dI) vwCl (wC cI cJ qa C L) H → va_D A (wC cI cJ qa C L) → va_S A s.heap H locs → lv_has ls 7 [(0, .ref (qa 0 0)), (1, .long x1), (3, .int x3)] → b_X9_mixPlans_0 post x1 x3 C L → W p l e ({ frames := 5, cells := 0, slots := 0, locals := 124 }) s m args below meth c H locs 0 0 (MQ below (va_Ql (S := (Nat → Mem) × MemL) (fun (r : Int64) (u : (Nat → Mem) × MemL) => post r u.1 u.2) (fun u t => AT (dC, dI) (TY cI cJ) A (wC cI cJ qa (u.1) (u.2)) t) A) args s 0 0 A) (F0 m 0 ls []) := by
  obtain ⟨hx, hb, hr, hml, hown, hts, hlocks, hK⟩ := id cx
  have cx' : CX RX9 cX9_mixPlans (meth.sig.returnType) 7 p s m args meth c (dC, dI) (TY cI cJ) := ⟨hx, hb, rfl, hml, hown, hts, hlocks, hK⟩
  intro x1 x3 C L H locs ls hP hD hS hl h
  unfold b_X9_mixPlans_0 at h
  refine lv_lload_n hx hb dX9_mixPlans_0 rfl (lv_at hl 1 rfl) ?_
  refine lv_lstore (lv' := [(4, .long x1), (0, .ref (qa 0 0)), (1, .long x1), (3, .int x3)]) hx hb dX9_mixPlans_1 hl (by decide) rfl (fun ls hl => ?_)
  refine lv_aload_n hx hb dX9_mixPlans_3 rfl (lv_at hl 1 rfl) ?_
  refine lv_iload_n hx hb dX9_mixPlans_4 rfl (lv_at hl 3 rfl) ?_
  refine call_v (run_V (As := [.int x3]) (rest := []) cx' (c_X9_planPlace l H.size qa C L x3 _ h) mv_X9_planPlace kw_455 rfl rfl ⟨Nat.le_of_ble_eq_true rfl, Nat.le_of_ble_eq_true rfl⟩ hP hD rfl rfl rfl hl.1 rfl (Nat.le_of_ble_eq_true rfl) dX9_mixPlans_5 ⟨Nat.zero_le _, Nat.zero_le _⟩) hD hS hA (fun u9 H locs hP hD hS h => ?_)
  obtain ⟨C_1, L_2⟩ := u9
  have hP : va_P (dC, dI) vwCl (wC cI cJ qa C_1 L_2) H := hP
  have hD : va_D A (wC cI cJ qa C_1 L_2) := hD
  refine lv_ldc2 hx hb hown (hts _ kw_675) dX9_mixPlans_8 ?_
  refine lv_lload hx hb dX9_mixPlans_11 (lv_at hl 0 rfl) ?_
  refine lv_lmul hx hb dX9_mixPlans_13 ?_
  refine lv_aload_n hx hb dX9_mixPlans_14 rfl (lv_at hl 1 rfl) ?_
  refine gf_v (k := 10) (v := .ref (qa 11 0)) cx' hP 0 i_X9 rfl rfl (by decide) kw_274 rfl rfl dX9_mixPlans_15 ?_
  refine gf_v (k := 0) (v := .int (C_1 11 0 0)) cx' hP 39 i_X3 rfl rfl (by decide) kw_253 rfl rfl dX9_mixPlans_18 ?_
  refine lv_i2l (v := Int32.toInt64 (C_1 11 0 0)) hx hb dX9_mixPlans_21 rfl ?_
  refine lv_ladd hx hb dX9_mixPlans_22 ?_
  refine lv_topl (fun x4_3 ex4_3 => ?_)
  have h := h x4_3 ex4_3
  refine lv_lstore (lv' := [(4, .long x4_3), (0, .ref (qa 0 0)), (1, .long x1), (3, .int x3)]) hx hb dX9_mixPlans_23 hl (by decide) rfl (fun ls hl => ?_)
  refine lv_ldc2 hx hb hown (hts _ kw_675) dX9_mixPlans_25 ?_
  refine lv_lload hx hb dX9_mixPlans_28 (lv_at hl 0 rfl) ?_
  refine lv_lmul hx hb dX9_mixPlans_30 ?_
  refine lv_aload_n hx hb dX9_mixPlans_31 rfl (lv_at hl 1 rfl) ?_
  refine gf_v (k := 10) (v := .ref (qa 11 0)) cx' hP 0 i_X9 rfl rfl (by decide) kw_274 rfl rfl dX9_mixPlans_32 ?_
  refine gf_v (k := 1) (v := .int (C_1 11 0 1)) cx' hP 39 i_X3 rfl rfl (by decide) kw_255 rfl rfl dX9_mixPlans_35 ?_
  refine lv_i2l (v := Int32.toInt64 (C_1 11 0 1)) hx hb dX9_mixPlans_38 rfl ?_
  refine lv_ladd hx hb dX9_mixPlans_39 ?_
  refine lv_topl (fun x4_4 ex4_4 => ?_)
  have h := h x4_4 ex4_4
  refine lv_lstore (lv' := [(4, .long x4_4), (0, .ref (qa 0 0)), (1, .long x1), (3, .int x3)]) hx hb dX9_mixPlans_40 hl (by decide) rfl (fun ls hl => ?_)
  refine lv_aload_n hx hb dX9_mixPlans_42 rfl (lv_at hl 1 rfl) ?_
  refine lv_iload_n hx hb dX9_mixPlans_43 rfl (lv_at hl 3 rfl) ?_
  refine call_v (run_V (As := [.int x3]) (rest := []) cx' (c_X9_planKind l H.size qa C_1 L_2 x3 _ h) mv_X9_planKind kw_488 rfl rfl ⟨Nat.le_of_ble_eq_true rfl, Nat.le_of_ble_eq_true rfl⟩ hP hD rfl rfl rfl hl.1 rfl (Nat.le_of_ble_eq_true rfl) dX9_mixPlans_44 ⟨Nat.zero_le _, Nat.zero_le _⟩) hD hS hA (fun u9 H locs hP hD hS h => ?_)
  obtain ⟨C_5, L_6⟩ := u9
  have hP : va_P (dC, dI) vwCl (wC cI cJ qa C_5 L_6) H := hP
  have hD : va_D A (wC cI cJ qa C_5 L_6) := hD
  refine lv_ldc2 hx hb hown (hts _ kw_675) dX9_mixPlans_47 ?_
  refine lv_lload hx hb dX9_mixPlans_50 (lv_at hl 0 rfl) ?_
  refine lv_lmul hx hb dX9_mixPlans_52 ?_
  refine lv_aload_n hx hb dX9_mixPlans_53 rfl (lv_at hl 1 rfl) ?_
  refine gf_v (k := 10) (v := .ref (qa 11 0)) cx' hP 0 i_X9 rfl rfl (by decide) kw_274 rfl rfl dX9_mixPlans_54 ?_
  refine gf_v (k := 0) (v := .int (C_5 11 0 0)) cx' hP 39 i_X3 rfl rfl (by decide) kw_253 rfl rfl dX9_mixPlans_57 ?_
  refine lv_i2l (v := Int32.toInt64 (C_5 11 0 0)) hx hb dX9_mixPlans_60 rfl ?_
  refine lv_ladd hx hb dX9_mixPlans_61 ?_
  refine lv_topl (fun x4_7 ex4_7 => ?_)
  have h := h x4_7 ex4_7
  refine lv_lstore (lv' := [(4, .long x4_7), (0, .ref (qa 0 0)), (1, .long x1), (3, .int x3)]) hx hb dX9_mixPlans_62 hl (by decide) rfl (fun ls hl => ?_)
  refine lv_ldc2 hx hb hown (hts _ kw_675) dX9_mixPlans_64 ?_
  refine lv_lload hx hb dX9_mixPlans_67 (lv_at hl 0 rfl) ?_
  refine lv_lmul hx hb dX9_mixPlans_69 ?_
  refine lv_aload_n hx hb dX9_mixPlans_70 rfl (lv_at hl 1 rfl) ?_
  refine gf_v (k := 10) (v := .ref (qa 11 0)) cx' hP 0 i_X9 rfl rfl (by decide) kw_274 rfl rfl dX9_mixPlans_71 ?_
  refine gf_v (k := 1) (v := .int (C_5 11 0 1)) cx' hP 39 i_X3 rfl rfl (by decide) kw_255 rfl rfl dX9_mixPlans_74 ?_
  refine lv_i2l (v := Int32.toInt64 (C_5 11 0 1)) hx hb dX9_mixPlans_77 rfl ?_
  refine lv_ladd hx hb dX9_mixPlans_78 ?_
  refine lv_topl (fun x4_8 ex4_8 => ?_)
  have h := h x4_8 ex4_8
  refine lv_lstore (lv' := [(4, .long x4_8), (0, .ref (qa 0 0)), (1, .long x1), (3, .int x3)]) hx hb dX9_mixPlans_79 hl (by decide) rfl (fun ls hl => ?_)
  refine lv_aload_n hx hb dX9_mixPlans_81 rfl (lv_at hl 1 rfl) ?_
  refine gf_v (k := 3) (v := .ref (qa 4 0)) cx' hP 0 i_X9 rfl rfl (by decide) kw_267 rfl rfl dX9_mixPlans_82 ?_
  refine gf_v (k := 4) (v := .int (C_5 4 0 4)) cx' hP 10 i_X2 rfl rfl (by decide) kw_104 rfl rfl dX9_mixPlans_85 ?_
  refine lv_if_ne (tgt := 118) hx hb dX9_mixPlans_88 (by decide) (fun c_9 => ?_) (fun c_9 => ?_)
  · have h := h.1 c_9
    refine lv_aload_n hx hb dX9_mixPlans_118 rfl (lv_at hl 1 rfl) ?_
    refine lv_iload_n hx hb dX9_mixPlans_119 rfl (lv_at hl 3 rfl) ?_
    refine lv_iconst (v := 0) hx hb dX9_mixPlans_120 (by decide) ?_
    refine call_i (run_V (As := [.int x3, .int 0]) (rest := []) cx' (c_X9_fewestEmpty l H.size qa C_5 L_6 x3 0 _ h) mv_X9_fewestEmpty kw_496 rfl rfl ⟨Nat.le_of_ble_eq_true rfl, Nat.le_of_ble_eq_true rfl⟩ hP hD rfl rfl rfl hl.1 rfl (Nat.le_of_ble_eq_true rfl) dX9_mixPlans_121 ⟨Nat.zero_le _, Nat.zero_le _⟩) hD hS hA (fun r_10 u9 H locs hP hD hS h => ?_)
    obtain ⟨C_11, L_12⟩ := u9
    have hP : va_P (dC, dI) vwCl (wC cI cJ qa C_11 L_12) H := hP
    have hD : va_D A (wC cI cJ qa C_11 L_12) := hD
    refine lv_istore (lv' := [(6, .int r_10), (4, .long x4_8), (0, .ref (qa 0 0)), (1, .long x1), (3, .int x3)]) hx hb dX9_mixPlans_124 hl (by decide) rfl (fun ls hl => ?_)
    refine lv_ldc2 hx hb hown (hts _ kw_675) dX9_mixPlans_126 ?_
    refine lv_lload hx hb dX9_mixPlans_129 (lv_at hl 1 rfl) ?_
    refine lv_lmul hx hb dX9_mixPlans_131 ?_
    refine lv_iload hx hb dX9_mixPlans_132 (lv_at hl 0 rfl) ?_
    refine callN_i (run_S (As := [.int r_10]) (rest := [.long (31 * x4_8)]) (wc := []) cx' (c_X9_howMany l H.size r_10 _ h) ms_X9_howMany kw_506 rfl rfl ⟨Nat.le_of_ble_eq_true rfl, Nat.le_of_ble_eq_true rfl⟩ nilP nilD (A := A) rfl hl.1 rfl (Nat.le_of_ble_eq_true rfl) dX9_mixPlans_134 ⟨Nat.zero_le _, Nat.zero_le _⟩) hP hS hA (fun r_13 H locs hP hS h => ?_)
    refine lv_i2l (v := Int32.toInt64 r_13) hx hb dX9_mixPlans_137 rfl ?_
    refine lv_ladd hx hb dX9_mixPlans_138 ?_
    refine lv_topl (fun x4_14 ex4_14 => ?_)
    have h := h x4_14 ex4_14
    refine lv_lstore (lv' := [(4, .long x4_14), (6, .int r_10), (0, .ref (qa 0 0)), (1, .long x1), (3, .int x3)]) hx hb dX9_mixPlans_139 hl (by decide) rfl (fun ls hl => ?_)
    refine lv_ldc2 hx hb hown (hts _ kw_675) dX9_mixPlans_141 ?_
    refine lv_lload hx hb dX9_mixPlans_144 (lv_at hl 0 rfl) ?_
    refine lv_lmul hx hb dX9_mixPlans_146 ?_
    refine lv_iload hx hb dX9_mixPlans_147 (lv_at hl 1 rfl) ?_
    refine lv_i2l (v := Int32.toInt64 r_10) hx hb dX9_mixPlans_149 rfl ?_
    refine lv_ladd hx hb dX9_mixPlans_150 ?_
    refine lv_topl (fun x4_15 ex4_15 => ?_)
    have h := h x4_15 ex4_15
    refine lv_lstore (lv' := [(4, .long x4_15), (6, .int r_10), (0, .ref (qa 0 0)), (1, .long x1), (3, .int x3)]) hx hb dX9_mixPlans_151 hl (by decide) rfl (fun ls hl => ?_)
    exact w_X9_mixPlans_153 cx hA x3 x4_15 C_11 L_12 H locs ls hP hD hS (lv_sub hl [2, 4, 0] rfl) h
  have h := h.2 c_9
  refine lv_ldc2 hx hb hown (hts _ kw_675) dX9_mixPlans_91 ?_
  refine lv_lload hx hb dX9_mixPlans_94 (lv_at hl 0 rfl) ?_
  refine lv_lmul hx hb dX9_mixPlans_96 ?_
  refine lv_ldc2 hx hb hown (hts _ kw_690) dX9_mixPlans_97 ?_
  refine lv_ladd hx hb dX9_mixPlans_100 ?_
  refine lv_topl (fun x4_16 ex4_16 => ?_)
  have h := h x4_16 ex4_16
  refine lv_lstore (lv' := [(4, .long x4_16), (0, .ref (qa 0 0)), (1, .long x1), (3, .int x3)]) hx hb dX9_mixPlans_101 hl (by decide) rfl (fun ls hl => ?_)
  refine lv_ldc2 hx hb hown (hts _ kw_675) dX9_mixPlans_103 ?_
  refine lv_lload hx hb dX9_mixPlans_106 (lv_at hl 0 rfl) ?_
  refine lv_lmul hx hb dX9_mixPlans_108 ?_
  refine lv_ldc2 hx hb hown (hts _ kw_690) dX9_mixPlans_109 ?_
  refine lv_ladd hx hb dX9_mixPlans_112 ?_
  refine lv_topl (fun x4_17 ex4_17 => ?_)
  have h := h x4_17 ex4_17
  refine lv_lstore (lv' := [(4, .long x4_17), (0, .ref (qa 0 0)), (1, .long x1), (3, .int x3)]) hx hb dX9_mixPlans_113 hl (by decide) rfl (fun ls hl => ?_)
  refine lv_goto (tgt := 153) hx hb dX9_mixPlans_115 (by decide) ?_
  exact w_X9_mixPlans_153 cx hA x3 x4_17 C_5 L_6 H locs ls hP hD hS (lv_sub hl [1, 3, 0] rfl) h
set_option maxRecDepth 100000 in
theorem c_X9_mixPlans (l : Launch) {dC : Nat → ClassId} {dI : Nat → Nat → Nat} {cI cJ : ClassId} (sz : Nat) (qa : Nat → Nat → Nat) (C : Nat → Mem) (L : MemL) (x1 : Int64) (x3 : Int32) (post : Int64 → (Nat → Mem) → MemL → Prop) (h : wp_X9_mixPlans C L x1 x3 post) : Met l yX9_mixPlans (Cond.code yX9_mixPlans cX9_mixPlans 7 (some .long) :: gt) ({ frames := 5, cells := 0, slots := 0, locals := 124 }) (va_Pc [.ref (qa 0 0), .long x1, .int x3] (PRE (dC, dI) (TY cI cJ) (wC cI cJ qa C L) sz)) (va_Ql (S := (Nat → Mem) × MemL) (fun (r : Int64) (u : (Nat → Mem) × MemL) => post r u.1 u.2) (fun u t => AT (dC, dI) (TY cI cJ) (va_A (wC cI cJ qa C L) sz) (wC cI cJ qa (u.1) (u.2)) t) (va_A (wC cI cJ qa C L) sz)) 0 0 (va_A (wC cI cJ qa C L) sz) :=
  met_of (own := RX9) (Qf := fun A => va_Ql (S := (Nat → Mem) × MemL) (fun (r : Int64) (u : (Nat → Mem) × MemL) => post r u.1 u.2) (fun u t => AT (dC, dI) (TY cI cJ) A (wC cI cJ qa (u.1) (u.2)) t) A) (by decide) rfl (Nat.le_of_ble_eq_true rfl) rfl (fun p e s m below meth c A cx hA ls hP hD hS hl => w_X9_mixPlans_0 cx hA x1 x3 C L _ _ ls hP hD hS hl h)
theorem mv_X9_mixPlans : MV yX9_mixPlans cX9_mixPlans 7 (some .long) 2 := ⟨⟨kw_689, kw_1, by decide +kernel⟩, kw_688, ksel_17⟩
set_option maxHeartbeats 4000000 in
set_option maxRecDepth 100000 in
theorem w_X9_mixRoads_0 {p : Program} {l : Launch} {e : Env} {s : State} {m : MethodId} {args : Array Value} {below : List Frame} {meth : Method} {c : Code} {dC : Nat → ClassId} {dI : Nat → Nat → Nat} {cI cJ : ClassId} {A : Nat → Prop} (cx : CX RX9 cX9_mixRoads (some .long) 6 p s m args meth c (dC, dI) (TY cI cJ)) (hA : ∀ q, s.heap.size ≤ q → A q) {qa : Nat → Nat → Nat} {post : Int64 → (Nat → Mem) → MemL → Prop} : ∀ (x1 : Int64) (x3 : Int32) (C : (Nat → Mem)) (L : MemL) (H : Heap) (locs : List Loc) (ls : Array Slot), va_P (dC, dI) vwCl (wC cI cJ qa C L) H → va_D A (wC cI cJ qa C L) → va_S A s.heap H locs → lv_has ls 6 [(0, .ref (qa 0 0)), (1, .long x1), (3, .int x3)] → b_X9_mixRoads_0 post x1 x3 C L → W p l e ({ frames := 3, cells := 0, slots := 0, locals := 75 }) s m args below meth c H locs 0 0 (MQ below (va_Ql (S := (Nat → Mem) × MemL) (fun (r : Int64) (u : (Nat → Mem) × MemL) => post r u.1 u.2) (fun u t => AT (dC, dI) (TY cI cJ) A (wC cI cJ qa (u.1) (u.2)) t) A) args s 0 0 A) (F0 m 0 ls []) := by
  obtain ⟨hx, hb, hr, hml, hown, hts, hlocks, hK⟩ := id cx
  have cx' : CX RX9 cX9_mixRoads (meth.sig.returnType) 6 p s m args meth c (dC, dI) (TY cI cJ) := ⟨hx, hb, rfl, hml, hown, hts, hlocks, hK⟩
  intro x1 x3 C L H locs ls hP hD hS hl h
  unfold b_X9_mixRoads_0 at h
  refine lv_lload_n hx hb dX9_mixRoads_0 rfl (lv_at hl 1 rfl) ?_
  refine lv_lstore (lv' := [(4, .long x1), (0, .ref (qa 0 0)), (1, .long x1), (3, .int x3)]) hx hb dX9_mixRoads_1 hl (by decide) rfl (fun ls hl => ?_)
  refine lv_ldc2 hx hb hown (hts _ kw_675) dX9_mixRoads_3 ?_
  refine lv_lload hx hb dX9_mixRoads_6 (lv_at hl 0 rfl) ?_
  refine lv_lmul hx hb dX9_mixRoads_8 ?_
  refine lv_aload_n hx hb dX9_mixRoads_9 rfl (lv_at hl 1 rfl) ?_
  refine lv_iconst (v := 5) hx hb dX9_mixRoads_10 (by decide) ?_
  refine lv_iload_n hx hb dX9_mixRoads_11 rfl (lv_at hl 3 rfl) ?_
  refine lv_bipush (v := 9) hx hb dX9_mixRoads_12 (by decide) ?_
  refine lv_iconst (v := 0) hx hb dX9_mixRoads_14 (by decide) ?_
  refine call_l (run_V (As := [.int 5, .int x3, .int 9, .int 0]) (rest := [.long (31 * x1)]) cx' (c_X9_road l H.size qa C L 5 x3 9 0 _ h) mv_X9_road kw_696 rfl rfl ⟨Nat.le_of_ble_eq_true rfl, Nat.le_of_ble_eq_true rfl⟩ hP hD rfl rfl rfl hl.1 rfl (Nat.le_of_ble_eq_true rfl) dX9_mixRoads_15 ⟨Nat.zero_le _, Nat.zero_le _⟩) hD hS hA (fun r_1 u9 H locs hP hD hS h => ?_)
  obtain ⟨C_2, L_3⟩ := u9
  have hP : va_P (dC, dI) vwCl (wC cI cJ qa C_2 L_3) H := hP
  have hD : va_D A (wC cI cJ qa C_2 L_3) := hD
  refine lv_ladd hx hb dX9_mixRoads_18 ?_
  refine lv_topl (fun x4_4 ex4_4 => ?_)
  have h := h x4_4 ex4_4
  refine lv_lstore (lv' := [(4, .long x4_4), (0, .ref (qa 0 0)), (1, .long x1), (3, .int x3)]) hx hb dX9_mixRoads_19 hl (by decide) rfl (fun ls hl => ?_)
  refine lv_ldc2 hx hb hown (hts _ kw_675) dX9_mixRoads_21 ?_
  refine lv_lload hx hb dX9_mixRoads_24 (lv_at hl 0 rfl) ?_
  refine lv_lmul hx hb dX9_mixRoads_26 ?_
  refine lv_aload_n hx hb dX9_mixRoads_27 rfl (lv_at hl 1 rfl) ?_
  refine lv_iconst (v := 5) hx hb dX9_mixRoads_28 (by decide) ?_
  refine lv_iload_n hx hb dX9_mixRoads_29 rfl (lv_at hl 3 rfl) ?_
  refine lv_bipush (v := 9) hx hb dX9_mixRoads_30 (by decide) ?_
  refine lv_iconst (v := 1) hx hb dX9_mixRoads_32 (by decide) ?_
  refine call_l (run_V (As := [.int 5, .int x3, .int 9, .int 1]) (rest := [.long (31 * x4_4)]) cx' (c_X9_road l H.size qa C_2 L_3 5 x3 9 1 _ h) mv_X9_road kw_696 rfl rfl ⟨Nat.le_of_ble_eq_true rfl, Nat.le_of_ble_eq_true rfl⟩ hP hD rfl rfl rfl hl.1 rfl (Nat.le_of_ble_eq_true rfl) dX9_mixRoads_33 ⟨Nat.zero_le _, Nat.zero_le _⟩) hD hS hA (fun r_5 u9 H locs hP hD hS h => ?_)
  obtain ⟨C_6, L_7⟩ := u9
  have hP : va_P (dC, dI) vwCl (wC cI cJ qa C_6 L_7) H := hP
  have hD : va_D A (wC cI cJ qa C_6 L_7) := hD
  refine lv_ladd hx hb dX9_mixRoads_36 ?_
  refine lv_topl (fun x4_8 ex4_8 => ?_)
  have h := h x4_8 ex4_8
  refine lv_lstore (lv' := [(4, .long x4_8), (0, .ref (qa 0 0)), (1, .long x1), (3, .int x3)]) hx hb dX9_mixRoads_37 hl (by decide) rfl (fun ls hl => ?_)
  refine lv_ldc2 hx hb hown (hts _ kw_675) dX9_mixRoads_39 ?_
  refine lv_lload hx hb dX9_mixRoads_42 (lv_at hl 0 rfl) ?_
  refine lv_lmul hx hb dX9_mixRoads_44 ?_
  refine lv_aload_n hx hb dX9_mixRoads_45 rfl (lv_at hl 1 rfl) ?_
  refine lv_bipush (v := 7) hx hb dX9_mixRoads_46 (by decide) ?_
  refine lv_bipush (v := 30) hx hb dX9_mixRoads_48 (by decide) ?_
  refine lv_iload_n hx hb dX9_mixRoads_50 rfl (lv_at hl 3 rfl) ?_
  refine lv_iconst (v := 0) hx hb dX9_mixRoads_51 (by decide) ?_
  refine call_i (run_V (As := [.int 7, .int 30, .int x3, .int 0]) (rest := [.long (31 * x4_8)]) cx' (c_X9_season l H.size qa C_6 L_7 7 30 x3 0 _ h) mv_X9_season kw_697 rfl rfl ⟨Nat.le_of_ble_eq_true rfl, Nat.le_of_ble_eq_true rfl⟩ hP hD rfl rfl rfl hl.1 rfl (Nat.le_of_ble_eq_true rfl) dX9_mixRoads_52 ⟨Nat.zero_le _, Nat.zero_le _⟩) hD hS hA (fun r_9 u9 H locs hP hD hS h => ?_)
  have hP : va_P (dC, dI) vwCl (wC cI cJ qa C_6 L_7) H := hP
  have hD : va_D A (wC cI cJ qa C_6 L_7) := hD
  refine lv_i2l (v := Int32.toInt64 r_9) hx hb dX9_mixRoads_55 rfl ?_
  refine lv_ladd hx hb dX9_mixRoads_56 ?_
  refine lv_topl (fun x4_10 ex4_10 => ?_)
  have h := h x4_10 ex4_10
  refine lv_lstore (lv' := [(4, .long x4_10), (0, .ref (qa 0 0)), (1, .long x1), (3, .int x3)]) hx hb dX9_mixRoads_57 hl (by decide) rfl (fun ls hl => ?_)
  refine lv_ldc2 hx hb hown (hts _ kw_675) dX9_mixRoads_59 ?_
  refine lv_lload hx hb dX9_mixRoads_62 (lv_at hl 0 rfl) ?_
  refine lv_lmul hx hb dX9_mixRoads_64 ?_
  refine lv_aload_n hx hb dX9_mixRoads_65 rfl (lv_at hl 1 rfl) ?_
  refine lv_bipush (v := 7) hx hb dX9_mixRoads_66 (by decide) ?_
  refine lv_bipush (v := 30) hx hb dX9_mixRoads_68 (by decide) ?_
  refine lv_iload_n hx hb dX9_mixRoads_70 rfl (lv_at hl 3 rfl) ?_
  refine lv_iconst (v := 1) hx hb dX9_mixRoads_71 (by decide) ?_
  refine call_i (run_V (As := [.int 7, .int 30, .int x3, .int 1]) (rest := [.long (31 * x4_10)]) cx' (c_X9_season l H.size qa C_6 L_7 7 30 x3 1 _ h) mv_X9_season kw_697 rfl rfl ⟨Nat.le_of_ble_eq_true rfl, Nat.le_of_ble_eq_true rfl⟩ hP hD rfl rfl rfl hl.1 rfl (Nat.le_of_ble_eq_true rfl) dX9_mixRoads_72 ⟨Nat.zero_le _, Nat.zero_le _⟩) hD hS hA (fun r_11 u9 H locs hP hD hS h => ?_)
  have hP : va_P (dC, dI) vwCl (wC cI cJ qa C_6 L_7) H := hP
  have hD : va_D A (wC cI cJ qa C_6 L_7) := hD
  refine lv_i2l (v := Int32.toInt64 r_11) hx hb dX9_mixRoads_75 rfl ?_
  refine lv_ladd hx hb dX9_mixRoads_76 ?_
  exact rt_l (v := (31 * x4_10) + (Int32.toInt64 r_11)) (u := (C_6, L_7)) cx hP hD hS h dX9_mixRoads_77
set_option maxRecDepth 100000 in
theorem c_X9_mixRoads (l : Launch) {dC : Nat → ClassId} {dI : Nat → Nat → Nat} {cI cJ : ClassId} (sz : Nat) (qa : Nat → Nat → Nat) (C : Nat → Mem) (L : MemL) (x1 : Int64) (x3 : Int32) (post : Int64 → (Nat → Mem) → MemL → Prop) (h : wp_X9_mixRoads C L x1 x3 post) : Met l yX9_mixRoads (Cond.code yX9_mixRoads cX9_mixRoads 6 (some .long) :: gt) ({ frames := 3, cells := 0, slots := 0, locals := 75 }) (va_Pc [.ref (qa 0 0), .long x1, .int x3] (PRE (dC, dI) (TY cI cJ) (wC cI cJ qa C L) sz)) (va_Ql (S := (Nat → Mem) × MemL) (fun (r : Int64) (u : (Nat → Mem) × MemL) => post r u.1 u.2) (fun u t => AT (dC, dI) (TY cI cJ) (va_A (wC cI cJ qa C L) sz) (wC cI cJ qa (u.1) (u.2)) t) (va_A (wC cI cJ qa C L) sz)) 0 0 (va_A (wC cI cJ qa C L) sz) :=
  met_of (own := RX9) (Qf := fun A => va_Ql (S := (Nat → Mem) × MemL) (fun (r : Int64) (u : (Nat → Mem) × MemL) => post r u.1 u.2) (fun u t => AT (dC, dI) (TY cI cJ) A (wC cI cJ qa (u.1) (u.2)) t) A) (by decide) rfl (Nat.le_of_ble_eq_true rfl) rfl (fun p e s m below meth c A cx hA ls hP hD hS hl => w_X9_mixRoads_0 cx hA x1 x3 C L _ _ ls hP hD hS hl h)
theorem mv_X9_mixRoads : MV yX9_mixRoads cX9_mixRoads 6 (some .long) 2 := ⟨⟨kw_695, kw_1, by decide +kernel⟩, kw_694, ksel_18⟩
set_option maxHeartbeats 4000000 in
set_option maxRecDepth 100000 in
theorem w_X9_digest_99 {p : Program} {l : Launch} {e : Env} {s : State} {m : MethodId} {args : Array Value} {below : List Frame} {meth : Method} {c : Code} {dC : Nat → ClassId} {dI : Nat → Nat → Nat} {cI cJ : ClassId} {A : Nat → Prop} (cx : CX RX9 cX9_digest (some .long) 4 p s m args meth c (dC, dI) (TY cI cJ)) (hA : ∀ q, s.heap.size ≤ q → A q) {qa : Nat → Nat → Nat} {post : Int64 → (Nat → Mem) → MemL → Prop} : ∀ (n : Nat) (x1 : Int64) (x3 : Int32) (C : (Nat → Mem)) (L : MemL) (H : Heap) (locs : List Loc) (ls : Array Slot), va_P (dC, dI) vwCl (wC cI cJ qa C L) H → va_D A (wC cI cJ qa C L) → va_S A s.heap H locs → lv_has ls 4 [(0, .ref (qa 0 0)), (1, .long x1), (3, .int x3)] → b_X9_digest_99 post n x1 x3 C L → W p l e ({ frames := 6, cells := 0, slots := 0, locals := 150 }) s m args below meth c H locs 0 0 (MQ below (va_Ql (S := (Nat → Mem) × MemL) (fun (r : Int64) (u : (Nat → Mem) × MemL) => post r u.1 u.2) (fun u t => AT (dC, dI) (TY cI cJ) A (wC cI cJ qa (u.1) (u.2)) t) A) args s 0 0 A) (F0 m 99 ls []) := by
  obtain ⟨hx, hb, hr, hml, hown, hts, hlocks, hK⟩ := id cx
  have cx' : CX RX9 cX9_digest (meth.sig.returnType) 4 p s m args meth c (dC, dI) (TY cI cJ) := ⟨hx, hb, rfl, hml, hown, hts, hlocks, hK⟩
  intro n
  induction n with
  | zero =>
    intro x1 x3 C L H locs ls hP hD hS hl h
    exact False.elim h
  | succ n ih =>
    intro x1 x3 C L H locs ls hP hD hS hl h
    unfold b_X9_digest_99 at h
    refine lv_iload_n hx hb dX9_digest_99 rfl (lv_at hl 2 rfl) ?_
    refine lv_aload_n hx hb dX9_digest_100 rfl (lv_at hl 0 rfl) ?_
    refine gf_v (k := 3) (v := .ref (qa 4 0)) cx' hP 0 i_X9 rfl rfl (by decide) kw_267 rfl rfl dX9_digest_101 ?_
    refine gf_v (k := 4) (v := .int (C 4 0 4)) cx' hP 10 i_X2 rfl rfl (by decide) kw_104 rfl rfl dX9_digest_104 ?_
    refine lv_icmp_ge (tgt := 123) hx hb dX9_digest_107 (by decide) (fun c_1 => ?_) (fun c_1 => ?_)
    · have h := h.1 c_1
      refine lv_ldc2 hx hb hown (hts _ kw_675) dX9_digest_123 ?_
      refine lv_lload_n hx hb dX9_digest_126 rfl (lv_at hl 1 rfl) ?_
      refine lv_lmul hx hb dX9_digest_127 ?_
      refine lv_aload_n hx hb dX9_digest_128 rfl (lv_at hl 0 rfl) ?_
      refine call_i (run_V (As := []) (rest := [.long (31 * x1)]) cx' (c_X9_poor l H.size qa C L _ h) mv_X9_poor kw_706 rfl rfl ⟨Nat.le_of_ble_eq_true rfl, Nat.le_of_ble_eq_true rfl⟩ hP hD rfl rfl rfl hl.1 rfl (Nat.le_of_ble_eq_true rfl) dX9_digest_129 ⟨Nat.zero_le _, Nat.zero_le _⟩) hD hS hA (fun r_2 u9 H locs hP hD hS h => ?_)
      have hP : va_P (dC, dI) vwCl (wC cI cJ qa C L) H := hP
      have hD : va_D A (wC cI cJ qa C L) := hD
      refine lv_i2l (v := Int32.toInt64 r_2) hx hb dX9_digest_132 rfl ?_
      refine lv_ladd hx hb dX9_digest_133 ?_
      refine lv_topl (fun x1_3 ex1_3 => ?_)
      have h := h x1_3 ex1_3
      refine lv_lstore_n (lv' := [(1, .long x1_3), (0, .ref (qa 0 0)), (3, .int x3)]) hx hb dX9_digest_134 rfl hl (by decide) rfl (fun ls hl => ?_)
      refine lv_ldc2 hx hb hown (hts _ kw_675) dX9_digest_135 ?_
      refine lv_lload_n hx hb dX9_digest_138 rfl (lv_at hl 0 rfl) ?_
      refine lv_lmul hx hb dX9_digest_139 ?_
      refine lv_aload_n hx hb dX9_digest_140 rfl (lv_at hl 1 rfl) ?_
      refine call_i (run_V (As := []) (rest := [.long (31 * x1_3)]) cx' (c_X9_passed l H.size qa C L _ h) mv_X9_passed kw_707 rfl rfl ⟨Nat.le_of_ble_eq_true rfl, Nat.le_of_ble_eq_true rfl⟩ hP hD rfl rfl rfl hl.1 rfl (Nat.le_of_ble_eq_true rfl) dX9_digest_141 ⟨Nat.zero_le _, Nat.zero_le _⟩) hD hS hA (fun r_4 u9 H locs hP hD hS h => ?_)
      have hP : va_P (dC, dI) vwCl (wC cI cJ qa C L) H := hP
      have hD : va_D A (wC cI cJ qa C L) := hD
      refine lv_i2l (v := Int32.toInt64 r_4) hx hb dX9_digest_144 rfl ?_
      refine lv_ladd hx hb dX9_digest_145 ?_
      refine lv_topl (fun x1_5 ex1_5 => ?_)
      have h := h x1_5 ex1_5
      refine lv_lstore_n (lv' := [(1, .long x1_5), (0, .ref (qa 0 0)), (3, .int x3)]) hx hb dX9_digest_146 rfl hl (by decide) rfl (fun ls hl => ?_)
      refine lv_ldc2 hx hb hown (hts _ kw_675) dX9_digest_147 ?_
      refine lv_lload_n hx hb dX9_digest_150 rfl (lv_at hl 0 rfl) ?_
      refine lv_lmul hx hb dX9_digest_151 ?_
      refine lv_aload_n hx hb dX9_digest_152 rfl (lv_at hl 1 rfl) ?_
      refine call_i (run_V (As := []) (rest := [.long (31 * x1_5)]) cx' (c_X9_twice l H.size qa C L _ h) mv_X9_twice kw_569 rfl rfl ⟨Nat.le_of_ble_eq_true rfl, Nat.le_of_ble_eq_true rfl⟩ hP hD rfl rfl rfl hl.1 rfl (Nat.le_of_ble_eq_true rfl) dX9_digest_153 ⟨Nat.zero_le _, Nat.zero_le _⟩) hD hS hA (fun r_6 u9 H locs hP hD hS h => ?_)
      have hP : va_P (dC, dI) vwCl (wC cI cJ qa C L) H := hP
      have hD : va_D A (wC cI cJ qa C L) := hD
      refine lv_i2l (v := Int32.toInt64 r_6) hx hb dX9_digest_156 rfl ?_
      refine lv_ladd hx hb dX9_digest_157 ?_
      refine lv_topl (fun x1_7 ex1_7 => ?_)
      have h := h x1_7 ex1_7
      refine lv_lstore_n (lv' := [(1, .long x1_7), (0, .ref (qa 0 0)), (3, .int x3)]) hx hb dX9_digest_158 rfl hl (by decide) rfl (fun ls hl => ?_)
      refine lv_ldc2 hx hb hown (hts _ kw_675) dX9_digest_159 ?_
      refine lv_lload_n hx hb dX9_digest_162 rfl (lv_at hl 0 rfl) ?_
      refine lv_lmul hx hb dX9_digest_163 ?_
      refine lv_aload_n hx hb dX9_digest_164 rfl (lv_at hl 1 rfl) ?_
      refine call_i (run_V (As := []) (rest := [.long (31 * x1_7)]) cx' (c_X9_ask l H.size qa C L _ h) mv_X9_ask kw_708 rfl rfl ⟨Nat.le_of_ble_eq_true rfl, Nat.le_of_ble_eq_true rfl⟩ hP hD rfl rfl rfl hl.1 rfl (Nat.le_of_ble_eq_true rfl) dX9_digest_165 ⟨Nat.zero_le _, Nat.zero_le _⟩) hD hS hA (fun r_8 u9 H locs hP hD hS h => ?_)
      have hP : va_P (dC, dI) vwCl (wC cI cJ qa C L) H := hP
      have hD : va_D A (wC cI cJ qa C L) := hD
      refine lv_i2l (v := Int32.toInt64 r_8) hx hb dX9_digest_168 rfl ?_
      refine lv_ladd hx hb dX9_digest_169 ?_
      exact rt_l (v := (31 * x1_7) + (Int32.toInt64 r_8)) (u := (C, L)) cx hP hD hS h dX9_digest_170
    have h := h.2 c_1
    refine lv_aload_n hx hb dX9_digest_110 rfl (lv_at hl 0 rfl) ?_
    refine lv_lload_n hx hb dX9_digest_111 rfl (lv_at hl 1 rfl) ?_
    refine lv_iload_n hx hb dX9_digest_112 rfl (lv_at hl 2 rfl) ?_
    refine call_l (run_V (As := [.long x1, .int x3]) (rest := []) cx' (c_X9_mixGuest l H.size qa C L x1 x3 _ h) mv_X9_mixGuest kw_698 rfl rfl ⟨Nat.le_of_ble_eq_true rfl, Nat.le_of_ble_eq_true rfl⟩ hP hD rfl rfl rfl hl.1 rfl (Nat.le_of_ble_eq_true rfl) dX9_digest_113 ⟨Nat.zero_le _, Nat.zero_le _⟩) hD hS hA (fun r_9 u9 H locs hP hD hS h => ?_)
    obtain ⟨C_10, L_11⟩ := u9
    have hP : va_P (dC, dI) vwCl (wC cI cJ qa C_10 L_11) H := hP
    have hD : va_D A (wC cI cJ qa C_10 L_11) := hD
    refine lv_lstore_n (lv' := [(1, .long r_9), (0, .ref (qa 0 0)), (3, .int x3)]) hx hb dX9_digest_116 rfl hl (by decide) rfl (fun ls hl => ?_)
    obtain ⟨x3_12, ex3_12⟩ : ∃ z : Int32, z = x3 + 1 := ⟨_, rfl⟩
    have h := h x3_12 ex3_12
    refine lv_iinc (v := x3_12) (lv' := [(3, .int x3_12), (1, .long r_9), (0, .ref (qa 0 0))]) hx hb dX9_digest_117 hl (k := 2) rfl (by rw [ex3_12]; rfl) (by decide) rfl (fun ls hl => ?_)
    refine lv_goto (tgt := 99) hx hb dX9_digest_120 (by decide) ?_
    exact ih r_9 x3_12 C_10 L_11 H locs ls hP hD hS (lv_sub hl [2, 1, 0] rfl) h
set_option maxHeartbeats 4000000 in
set_option maxRecDepth 100000 in
theorem w_X9_digest_59 {p : Program} {l : Launch} {e : Env} {s : State} {m : MethodId} {args : Array Value} {below : List Frame} {meth : Method} {c : Code} {dC : Nat → ClassId} {dI : Nat → Nat → Nat} {cI cJ : ClassId} {A : Nat → Prop} (cx : CX RX9 cX9_digest (some .long) 4 p s m args meth c (dC, dI) (TY cI cJ)) (hA : ∀ q, s.heap.size ≤ q → A q) {qa : Nat → Nat → Nat} {post : Int64 → (Nat → Mem) → MemL → Prop} : ∀ (n : Nat) (x1 : Int64) (x3 : Int32) (C : (Nat → Mem)) (L : MemL) (H : Heap) (locs : List Loc) (ls : Array Slot), va_P (dC, dI) vwCl (wC cI cJ qa C L) H → va_D A (wC cI cJ qa C L) → va_S A s.heap H locs → lv_has ls 4 [(0, .ref (qa 0 0)), (1, .long x1), (3, .int x3)] → b_X9_digest_59 post n x1 x3 C L → W p l e ({ frames := 6, cells := 0, slots := 0, locals := 150 }) s m args below meth c H locs 0 0 (MQ below (va_Ql (S := (Nat → Mem) × MemL) (fun (r : Int64) (u : (Nat → Mem) × MemL) => post r u.1 u.2) (fun u t => AT (dC, dI) (TY cI cJ) A (wC cI cJ qa (u.1) (u.2)) t) A) args s 0 0 A) (F0 m 59 ls []) := by
  obtain ⟨hx, hb, hr, hml, hown, hts, hlocks, hK⟩ := id cx
  have cx' : CX RX9 cX9_digest (meth.sig.returnType) 4 p s m args meth c (dC, dI) (TY cI cJ) := ⟨hx, hb, rfl, hml, hown, hts, hlocks, hK⟩
  intro n
  induction n with
  | zero =>
    intro x1 x3 C L H locs ls hP hD hS hl h
    exact False.elim h
  | succ n ih =>
    intro x1 x3 C L H locs ls hP hD hS hl h
    unfold b_X9_digest_59 at h
    refine lv_iload_n hx hb dX9_digest_59 rfl (lv_at hl 2 rfl) ?_
    refine lv_aload_n hx hb dX9_digest_60 rfl (lv_at hl 0 rfl) ?_
    refine gf_v (k := 2) (v := .ref (qa 3 0)) cx' hP 0 i_X9 rfl rfl (by decide) kw_266 rfl rfl dX9_digest_61 ?_
    refine gf_v (k := 4) (v := .int (C 3 0 4)) cx' hP 5 i_X4 rfl rfl (by decide) kw_64 rfl rfl dX9_digest_64 ?_
    refine lv_icmp_ge (tgt := 97) hx hb dX9_digest_67 (by decide) (fun c_1 => ?_) (fun c_1 => ?_)
    · have h := h.1 c_1
      refine lv_iconst (v := 0) hx hb dX9_digest_97 (by decide) ?_
      refine lv_istore_n (lv' := [(3, .int 0), (0, .ref (qa 0 0)), (1, .long x1)]) hx hb dX9_digest_98 rfl hl (by decide) rfl (fun ls hl => ?_)
      obtain ⟨n_2, h⟩ := h
      exact w_X9_digest_99 cx hA n_2 x1 0 C L H locs ls hP hD hS (lv_sub hl [1, 2, 0] rfl) h
    have h := h.2 c_1
    refine lv_aload_n hx hb dX9_digest_70 rfl (lv_at hl 0 rfl) ?_
    refine lv_lload_n hx hb dX9_digest_71 rfl (lv_at hl 1 rfl) ?_
    refine lv_iload_n hx hb dX9_digest_72 rfl (lv_at hl 2 rfl) ?_
    refine call_l (run_V (As := [.long x1, .int x3]) (rest := []) cx' (c_X9_mixHouse l H.size qa C L x1 x3 _ h) mv_X9_mixHouse kw_678 rfl rfl ⟨Nat.le_of_ble_eq_true rfl, Nat.le_of_ble_eq_true rfl⟩ hP hD rfl rfl rfl hl.1 rfl (Nat.le_of_ble_eq_true rfl) dX9_digest_73 ⟨Nat.zero_le _, Nat.zero_le _⟩) hD hS hA (fun r_3 u9 H locs hP hD hS h => ?_)
    have hP : va_P (dC, dI) vwCl (wC cI cJ qa C L) H := hP
    have hD : va_D A (wC cI cJ qa C L) := hD
    refine lv_lstore_n (lv' := [(1, .long r_3), (0, .ref (qa 0 0)), (3, .int x3)]) hx hb dX9_digest_76 rfl hl (by decide) rfl (fun ls hl => ?_)
    refine lv_aload_n hx hb dX9_digest_77 rfl (lv_at hl 1 rfl) ?_
    refine lv_lload_n hx hb dX9_digest_78 rfl (lv_at hl 0 rfl) ?_
    refine lv_iload_n hx hb dX9_digest_79 rfl (lv_at hl 2 rfl) ?_
    refine call_l (run_V (As := [.long r_3, .int x3]) (rest := []) cx' (c_X9_mixPlans l H.size qa C L r_3 x3 _ h) mv_X9_mixPlans kw_686 rfl rfl ⟨Nat.le_of_ble_eq_true rfl, Nat.le_of_ble_eq_true rfl⟩ hP hD rfl rfl rfl hl.1 rfl (Nat.le_of_ble_eq_true rfl) dX9_digest_80 ⟨Nat.zero_le _, Nat.zero_le _⟩) hD hS hA (fun r_4 u9 H locs hP hD hS h => ?_)
    obtain ⟨C_5, L_6⟩ := u9
    have hP : va_P (dC, dI) vwCl (wC cI cJ qa C_5 L_6) H := hP
    have hD : va_D A (wC cI cJ qa C_5 L_6) := hD
    refine lv_lstore_n (lv' := [(1, .long r_4), (0, .ref (qa 0 0)), (3, .int x3)]) hx hb dX9_digest_83 rfl hl (by decide) rfl (fun ls hl => ?_)
    refine lv_aload_n hx hb dX9_digest_84 rfl (lv_at hl 1 rfl) ?_
    refine lv_lload_n hx hb dX9_digest_85 rfl (lv_at hl 0 rfl) ?_
    refine lv_iload_n hx hb dX9_digest_86 rfl (lv_at hl 2 rfl) ?_
    refine call_l (run_V (As := [.long r_4, .int x3]) (rest := []) cx' (c_X9_mixRoads l H.size qa C_5 L_6 r_4 x3 _ h) mv_X9_mixRoads kw_692 rfl rfl ⟨Nat.le_of_ble_eq_true rfl, Nat.le_of_ble_eq_true rfl⟩ hP hD rfl rfl rfl hl.1 rfl (Nat.le_of_ble_eq_true rfl) dX9_digest_87 ⟨Nat.zero_le _, Nat.zero_le _⟩) hD hS hA (fun r_7 u9 H locs hP hD hS h => ?_)
    obtain ⟨C_8, L_9⟩ := u9
    have hP : va_P (dC, dI) vwCl (wC cI cJ qa C_8 L_9) H := hP
    have hD : va_D A (wC cI cJ qa C_8 L_9) := hD
    refine lv_lstore_n (lv' := [(1, .long r_7), (0, .ref (qa 0 0)), (3, .int x3)]) hx hb dX9_digest_90 rfl hl (by decide) rfl (fun ls hl => ?_)
    obtain ⟨x3_10, ex3_10⟩ : ∃ z : Int32, z = x3 + 1 := ⟨_, rfl⟩
    have h := h x3_10 ex3_10
    refine lv_iinc (v := x3_10) (lv' := [(3, .int x3_10), (1, .long r_7), (0, .ref (qa 0 0))]) hx hb dX9_digest_91 hl (k := 2) rfl (by rw [ex3_10]; rfl) (by decide) rfl (fun ls hl => ?_)
    refine lv_goto (tgt := 59) hx hb dX9_digest_94 (by decide) ?_
    exact ih r_7 x3_10 C_8 L_9 H locs ls hP hD hS (lv_sub hl [2, 1, 0] rfl) h
set_option maxHeartbeats 4000000 in
set_option maxRecDepth 100000 in
theorem w_X9_digest_6 {p : Program} {l : Launch} {e : Env} {s : State} {m : MethodId} {args : Array Value} {below : List Frame} {meth : Method} {c : Code} {dC : Nat → ClassId} {dI : Nat → Nat → Nat} {cI cJ : ClassId} {A : Nat → Prop} (cx : CX RX9 cX9_digest (some .long) 4 p s m args meth c (dC, dI) (TY cI cJ)) (hA : ∀ q, s.heap.size ≤ q → A q) {qa : Nat → Nat → Nat} {post : Int64 → (Nat → Mem) → MemL → Prop} : ∀ (n : Nat) (x1 : Int64) (x3 : Int32) (C : (Nat → Mem)) (L : MemL) (H : Heap) (locs : List Loc) (ls : Array Slot), va_P (dC, dI) vwCl (wC cI cJ qa C L) H → va_D A (wC cI cJ qa C L) → va_S A s.heap H locs → lv_has ls 4 [(0, .ref (qa 0 0)), (1, .long x1), (3, .int x3)] → b_X9_digest_6 post n x1 x3 C L → W p l e ({ frames := 6, cells := 0, slots := 0, locals := 150 }) s m args below meth c H locs 0 0 (MQ below (va_Ql (S := (Nat → Mem) × MemL) (fun (r : Int64) (u : (Nat → Mem) × MemL) => post r u.1 u.2) (fun u t => AT (dC, dI) (TY cI cJ) A (wC cI cJ qa (u.1) (u.2)) t) A) args s 0 0 A) (F0 m 6 ls []) := by
  obtain ⟨hx, hb, hr, hml, hown, hts, hlocks, hK⟩ := id cx
  have cx' : CX RX9 cX9_digest (meth.sig.returnType) 4 p s m args meth c (dC, dI) (TY cI cJ) := ⟨hx, hb, rfl, hml, hown, hts, hlocks, hK⟩
  intro n
  induction n with
  | zero =>
    intro x1 x3 C L H locs ls hP hD hS hl h
    exact False.elim h
  | succ n ih =>
    intro x1 x3 C L H locs ls hP hD hS hl h
    unfold b_X9_digest_6 at h
    refine lv_iload_n hx hb dX9_digest_6 rfl (lv_at hl 2 rfl) ?_
    refine lv_bipush (v := 7) hx hb dX9_digest_7 (by decide) ?_
    refine lv_icmp_gt (tgt := 31) hx hb dX9_digest_9 (by decide) (fun c_1 => ?_) (fun c_1 => ?_)
    · have h := h.1 c_1
      refine lv_ldc2 hx hb hown (hts _ kw_675) dX9_digest_31 ?_
      refine lv_lload_n hx hb dX9_digest_34 rfl (lv_at hl 1 rfl) ?_
      refine lv_lmul hx hb dX9_digest_35 ?_
      refine lv_aload_n hx hb dX9_digest_36 rfl (lv_at hl 0 rfl) ?_
      refine lv_iconst (v := 0) hx hb dX9_digest_37 (by decide) ?_
      refine call_i (run_V (As := [.int 0]) (rest := [.long (31 * x1)]) cx' (c_X9_fault l H.size qa C L 0 _ h) mv_X9_fault kw_677 rfl rfl ⟨Nat.le_of_ble_eq_true rfl, Nat.le_of_ble_eq_true rfl⟩ hP hD rfl rfl rfl hl.1 rfl (Nat.le_of_ble_eq_true rfl) dX9_digest_38 ⟨Nat.zero_le _, Nat.zero_le _⟩) hD hS hA (fun r_2 u9 H locs hP hD hS h => ?_)
      have hP : va_P (dC, dI) vwCl (wC cI cJ qa C L) H := hP
      have hD : va_D A (wC cI cJ qa C L) := hD
      refine lv_i2l (v := Int32.toInt64 r_2) hx hb dX9_digest_41 rfl ?_
      refine lv_ladd hx hb dX9_digest_42 ?_
      refine lv_topl (fun x1_3 ex1_3 => ?_)
      have h := h x1_3 ex1_3
      refine lv_lstore_n (lv' := [(1, .long x1_3), (0, .ref (qa 0 0)), (3, .int x3)]) hx hb dX9_digest_43 rfl hl (by decide) rfl (fun ls hl => ?_)
      refine lv_ldc2 hx hb hown (hts _ kw_675) dX9_digest_44 ?_
      refine lv_lload_n hx hb dX9_digest_47 rfl (lv_at hl 0 rfl) ?_
      refine lv_lmul hx hb dX9_digest_48 ?_
      refine lv_aload_n hx hb dX9_digest_49 rfl (lv_at hl 1 rfl) ?_
      refine lv_iconst (v := 1) hx hb dX9_digest_50 (by decide) ?_
      refine call_i (run_V (As := [.int 1]) (rest := [.long (31 * x1_3)]) cx' (c_X9_fault l H.size qa C L 1 _ h) mv_X9_fault kw_677 rfl rfl ⟨Nat.le_of_ble_eq_true rfl, Nat.le_of_ble_eq_true rfl⟩ hP hD rfl rfl rfl hl.1 rfl (Nat.le_of_ble_eq_true rfl) dX9_digest_51 ⟨Nat.zero_le _, Nat.zero_le _⟩) hD hS hA (fun r_4 u9 H locs hP hD hS h => ?_)
      have hP : va_P (dC, dI) vwCl (wC cI cJ qa C L) H := hP
      have hD : va_D A (wC cI cJ qa C L) := hD
      refine lv_i2l (v := Int32.toInt64 r_4) hx hb dX9_digest_54 rfl ?_
      refine lv_ladd hx hb dX9_digest_55 ?_
      refine lv_topl (fun x1_5 ex1_5 => ?_)
      have h := h x1_5 ex1_5
      refine lv_lstore_n (lv' := [(1, .long x1_5), (0, .ref (qa 0 0)), (3, .int x3)]) hx hb dX9_digest_56 rfl hl (by decide) rfl (fun ls hl => ?_)
      refine lv_iconst (v := 0) hx hb dX9_digest_57 (by decide) ?_
      refine lv_istore_n (lv' := [(3, .int 0), (1, .long x1_5), (0, .ref (qa 0 0))]) hx hb dX9_digest_58 rfl hl (by decide) rfl (fun ls hl => ?_)
      obtain ⟨n_6, h⟩ := h
      exact w_X9_digest_59 cx hA n_6 x1_5 0 C L H locs ls hP hD hS (lv_sub hl [2, 1, 0] rfl) h
    have h := h.2 c_1
    refine lv_ldc2 hx hb hown (hts _ kw_675) dX9_digest_12 ?_
    refine lv_lload_n hx hb dX9_digest_15 rfl (lv_at hl 1 rfl) ?_
    refine lv_lmul hx hb dX9_digest_16 ?_
    refine lv_aload_n hx hb dX9_digest_17 rfl (lv_at hl 0 rfl) ?_
    refine lv_iload_n hx hb dX9_digest_18 rfl (lv_at hl 2 rfl) ?_
    refine call_i (run_V (As := [.int x3]) (rest := [.long (31 * x1)]) cx' (c_X9_count l H.size qa C L x3 _ h) mv_X9_count kw_676 rfl rfl ⟨Nat.le_of_ble_eq_true rfl, Nat.le_of_ble_eq_true rfl⟩ hP hD rfl rfl rfl hl.1 rfl (Nat.le_of_ble_eq_true rfl) dX9_digest_19 ⟨Nat.zero_le _, Nat.zero_le _⟩) hD hS hA (fun r_7 u9 H locs hP hD hS h => ?_)
    have hP : va_P (dC, dI) vwCl (wC cI cJ qa C L) H := hP
    have hD : va_D A (wC cI cJ qa C L) := hD
    refine lv_i2l (v := Int32.toInt64 r_7) hx hb dX9_digest_22 rfl ?_
    refine lv_ladd hx hb dX9_digest_23 ?_
    refine lv_topl (fun x1_8 ex1_8 => ?_)
    have h := h x1_8 ex1_8
    refine lv_lstore_n (lv' := [(1, .long x1_8), (0, .ref (qa 0 0)), (3, .int x3)]) hx hb dX9_digest_24 rfl hl (by decide) rfl (fun ls hl => ?_)
    obtain ⟨x3_9, ex3_9⟩ : ∃ z : Int32, z = x3 + 1 := ⟨_, rfl⟩
    have h := h x3_9 ex3_9
    refine lv_iinc (v := x3_9) (lv' := [(3, .int x3_9), (1, .long x1_8), (0, .ref (qa 0 0))]) hx hb dX9_digest_25 hl (k := 2) rfl (by rw [ex3_9]; rfl) (by decide) rfl (fun ls hl => ?_)
    refine lv_goto (tgt := 6) hx hb dX9_digest_28 (by decide) ?_
    exact ih x1_8 x3_9 C L H locs ls hP hD hS (lv_sub hl [2, 1, 0] rfl) h
set_option maxHeartbeats 4000000 in
set_option maxRecDepth 100000 in
theorem w_X9_digest_0 {p : Program} {l : Launch} {e : Env} {s : State} {m : MethodId} {args : Array Value} {below : List Frame} {meth : Method} {c : Code} {dC : Nat → ClassId} {dI : Nat → Nat → Nat} {cI cJ : ClassId} {A : Nat → Prop} (cx : CX RX9 cX9_digest (some .long) 4 p s m args meth c (dC, dI) (TY cI cJ)) (hA : ∀ q, s.heap.size ≤ q → A q) {qa : Nat → Nat → Nat} {post : Int64 → (Nat → Mem) → MemL → Prop} : ∀ (C : (Nat → Mem)) (L : MemL) (H : Heap) (locs : List Loc) (ls : Array Slot), va_P (dC, dI) vwCl (wC cI cJ qa C L) H → va_D A (wC cI cJ qa C L) → va_S A s.heap H locs → lv_has ls 4 [(0, .ref (qa 0 0))] → b_X9_digest_0 post C L → W p l e ({ frames := 6, cells := 0, slots := 0, locals := 150 }) s m args below meth c H locs 0 0 (MQ below (va_Ql (S := (Nat → Mem) × MemL) (fun (r : Int64) (u : (Nat → Mem) × MemL) => post r u.1 u.2) (fun u t => AT (dC, dI) (TY cI cJ) A (wC cI cJ qa (u.1) (u.2)) t) A) args s 0 0 A) (F0 m 0 ls []) := by
  obtain ⟨hx, hb, hr, hml, hown, hts, hlocks, hK⟩ := id cx
  have cx' : CX RX9 cX9_digest (meth.sig.returnType) 4 p s m args meth c (dC, dI) (TY cI cJ) := ⟨hx, hb, rfl, hml, hown, hts, hlocks, hK⟩
  intro C L H locs ls hP hD hS hl h
  unfold b_X9_digest_0 at h
  refine lv_ldc2 hx hb hown (hts _ kw_674) dX9_digest_0 ?_
  refine lv_lstore_n (lv' := [(1, .long 17), (0, .ref (qa 0 0))]) hx hb dX9_digest_3 rfl hl (by decide) rfl (fun ls hl => ?_)
  refine lv_iconst (v := 0) hx hb dX9_digest_4 (by decide) ?_
  refine lv_istore_n (lv' := [(3, .int 0), (1, .long 17), (0, .ref (qa 0 0))]) hx hb dX9_digest_5 rfl hl (by decide) rfl (fun ls hl => ?_)
  obtain ⟨n_1, h⟩ := h
  exact w_X9_digest_6 cx hA n_1 17 0 C L H locs ls hP hD hS (lv_sub hl [2, 1, 0] rfl) h
set_option maxRecDepth 100000 in
theorem c_X9_digest (l : Launch) {dC : Nat → ClassId} {dI : Nat → Nat → Nat} {cI cJ : ClassId} (sz : Nat) (qa : Nat → Nat → Nat) (C : Nat → Mem) (L : MemL) (post : Int64 → (Nat → Mem) → MemL → Prop) (h : wp_X9_digest C L post) : Met l yX9_digest (Cond.code yX9_digest cX9_digest 4 (some .long) :: gt) ({ frames := 6, cells := 0, slots := 0, locals := 150 }) (va_Pc [.ref (qa 0 0)] (PRE (dC, dI) (TY cI cJ) (wC cI cJ qa C L) sz)) (va_Ql (S := (Nat → Mem) × MemL) (fun (r : Int64) (u : (Nat → Mem) × MemL) => post r u.1 u.2) (fun u t => AT (dC, dI) (TY cI cJ) (va_A (wC cI cJ qa C L) sz) (wC cI cJ qa (u.1) (u.2)) t) (va_A (wC cI cJ qa C L) sz)) 0 0 (va_A (wC cI cJ qa C L) sz) :=
  met_of (own := RX9) (Qf := fun A => va_Ql (S := (Nat → Mem) × MemL) (fun (r : Int64) (u : (Nat → Mem) × MemL) => post r u.1 u.2) (fun u t => AT (dC, dI) (TY cI cJ) A (wC cI cJ qa (u.1) (u.2)) t) A) (by decide) rfl (Nat.le_of_ble_eq_true rfl) rfl (fun p e s m below meth c A cx hA ls hP hD hS hl => w_X9_digest_0 cx hA C L _ _ ls hP hD hS hl h)
theorem mv_X9_digest : MV yX9_digest cX9_digest 4 (some .long) 0 := ⟨⟨kw_673, kw_1, by decide +kernel⟩, kw_671, kw_672⟩
