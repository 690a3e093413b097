set_option maxHeartbeats 4000000 in
set_option maxRecDepth 100000 in
theorem w_X9_planKind_20 {p : Program} {l : Launch} {e : Env} {s : State} {m : MethodId} {args : Array Value} {below : List Frame} {meth : Method} {c : Code} {dC : Nat → ClassId} {dI : Nat → Nat → Nat} {cI cJ : ClassId} {A : Nat → Prop} (cx : CX RX9 cX9_planKind none 3 p s m args meth c (dC, dI) (TY cI cJ)) (hA : ∀ q, s.heap.size ≤ q → A q) {qa : Nat → Nat → Nat} {post : (Nat → Mem) → MemL → Prop} : ∀ (n : Nat) (x1 : Int32) (x2 : Int32) (C : (Nat → Mem)) (L : MemL) (H : Heap) (locs : List Loc) (ls : Array Slot), va_P (dC, dI) vwCl (wC cI cJ qa C L) H → va_D A (wC cI cJ qa C L) → va_S A s.heap H locs → lv_has ls 3 [(0, .ref (qa 0 0)), (1, .int x1), (2, .int x2)] → b_X9_planKind_20 post n x1 x2 C L → W p l e ({ frames := 4, cells := 0, slots := 0, locals := 102 }) s m args below meth c H locs 0 0 (MQ below (va_Qv (S := (Nat → Mem) × MemL) (fun (u : (Nat → Mem) × MemL) => post u.1 u.2) (fun u t => AT (dC, dI) (TY cI cJ) A (wC cI cJ qa (u.1) (u.2)) t) A) args s 0 0 A) (F0 m 20 ls []) := by
  obtain ⟨hx, hb, hr, hml, hown, hts, hlocks, hK⟩ := id cx
  have cx' : CX RX9 cX9_planKind (meth.sig.returnType) 3 p s m args meth c (dC, dI) (TY cI cJ) := ⟨hx, hb, rfl, hml, hown, hts, hlocks, hK⟩
  intro n
  induction n with
  | zero =>
    intro x1 x2 C L H locs ls hP hD hS hl h
    exact False.elim h
  | succ n ih =>
    intro x1 x2 C L H locs ls hP hD hS hl h
    unfold b_X9_planKind_20 at h
    refine lv_iload_n hx hb dX9_planKind_20 rfl (lv_at hl 2 rfl) ?_
    refine lv_iconst (v := 3) hx hb dX9_planKind_21 (by decide) ?_
    refine lv_icmp_gt (tgt := 47) hx hb dX9_planKind_22 (by decide) (fun c_1 => ?_) (fun c_1 => ?_)
    · have h := h.1 c_1
      exact rt_v (u := (C, L)) cx hP hD hS h dX9_planKind_47
    have h := h.2 c_1
    refine lv_aload_n hx hb dX9_planKind_25 rfl (lv_at hl 0 rfl) ?_
    refine gf_v (k := 8) (v := .ref (qa 9 0)) cx' hP 0 i_X9 rfl rfl (by decide) kw_272 rfl rfl dX9_planKind_26 ?_
    refine gf_v (k := 0) (v := .ref (qa 9 1)) cx' hP 32 i_X4 rfl rfl (by decide) kw_53 rfl rfl dX9_planKind_29 ?_
    refine lv_iload_n hx hb dX9_planKind_32 rfl (lv_at hl 1 rfl) ?_
    refine lv_iload_n hx hb dX9_planKind_33 rfl (lv_at hl 2 rfl) ?_
    obtain ⟨C_2, eC_2⟩ : ∃ z : Nat → Mem, z = up3 C 9 (up2 (C 9) 1 (Int32.toNatClampNeg x1) x2) := ⟨_, rfl⟩
    have h1 := h.1
    have h := h.2 C_2 eC_2
    refine st_i hx hb hK hP hD hS 33 0 (wC cI cJ qa C_2 L) rfl rfl h1 dX9_planKind_34 (by subst eC_2; rfl) (fun H locs hP hD hS => ?_)
    refine lv_aload_n hx hb dX9_planKind_35 rfl (lv_at hl 0 rfl) ?_
    refine lv_iload_n hx hb dX9_planKind_36 rfl (lv_at hl 2 rfl) ?_
    refine lv_iload_n hx hb dX9_planKind_37 rfl (lv_at hl 1 rfl) ?_
    refine call_v (run_V (As := [.int x2, .int x1]) (rest := []) cx' (c_X9_weighTrial l H.size qa C_2 L x2 x1 _ h) mv_X9_weighTrial kw_475 rfl rfl ⟨Nat.le_of_ble_eq_true rfl, Nat.le_of_ble_eq_true rfl⟩ hP hD rfl rfl rfl hl.1 rfl (Nat.le_of_ble_eq_true rfl) dX9_planKind_38 ⟨Nat.zero_le _, Nat.zero_le _⟩) hD hS hA (fun u9 H locs hP hD hS h => ?_)
    obtain ⟨C_3, L_4⟩ := u9
    have hP : va_P (dC, dI) vwCl (wC cI cJ qa C_3 L_4) H := hP
    have hD : va_D A (wC cI cJ qa C_3 L_4) := hD
    obtain ⟨x2_5, ex2_5⟩ : ∃ z : Int32, z = x2 + 1 := ⟨_, rfl⟩
    have h := h x2_5 ex2_5
    refine lv_iinc (v := x2_5) (lv' := [(2, .int x2_5), (0, .ref (qa 0 0)), (1, .int x1)]) hx hb dX9_planKind_41 hl (k := 2) rfl (by rw [ex2_5]; rfl) (by decide) rfl (fun ls hl => ?_)
    refine lv_goto (tgt := 20) hx hb dX9_planKind_44 (by decide) ?_
    exact ih x1 x2_5 C_3 L_4 H locs ls hP hD hS (lv_sub hl [1, 2, 0] rfl) h
set_option maxHeartbeats 4000000 in
set_option maxRecDepth 100000 in
theorem w_X9_planKind_0 {p : Program} {l : Launch} {e : Env} {s : State} {m : MethodId} {args : Array Value} {below : List Frame} {meth : Method} {c : Code} {dC : Nat → ClassId} {dI : Nat → Nat → Nat} {cI cJ : ClassId} {A : Nat → Prop} (cx : CX RX9 cX9_planKind none 3 p s m args meth c (dC, dI) (TY cI cJ)) (hA : ∀ q, s.heap.size ≤ q → A q) {qa : Nat → Nat → Nat} {post : (Nat → Mem) → MemL → Prop} : ∀ (x1 : Int32) (C : (Nat → Mem)) (L : MemL) (H : Heap) (locs : List Loc) (ls : Array Slot), va_P (dC, dI) vwCl (wC cI cJ qa C L) H → va_D A (wC cI cJ qa C L) → va_S A s.heap H locs → lv_has ls 3 [(0, .ref (qa 0 0)), (1, .int x1)] → b_X9_planKind_0 post x1 C L → W p l e ({ frames := 4, cells := 0, slots := 0, locals := 102 }) s m args below meth c H locs 0 0 (MQ below (va_Qv (S := (Nat → Mem) × MemL) (fun (u : (Nat → Mem) × MemL) => post u.1 u.2) (fun u t => AT (dC, dI) (TY cI cJ) A (wC cI cJ qa (u.1) (u.2)) t) A) args s 0 0 A) (F0 m 0 ls []) := by
  obtain ⟨hx, hb, hr, hml, hown, hts, hlocks, hK⟩ := id cx
  have cx' : CX RX9 cX9_planKind (meth.sig.returnType) 3 p s m args meth c (dC, dI) (TY cI cJ) := ⟨hx, hb, rfl, hml, hown, hts, hlocks, hK⟩
  intro x1 C L H locs ls hP hD hS hl h
  unfold b_X9_planKind_0 at h
  refine lv_aload_n hx hb dX9_planKind_0 rfl (lv_at hl 0 rfl) ?_
  refine gf_v (k := 8) (v := .ref (qa 9 0)) cx' hP 0 i_X9 rfl rfl (by decide) kw_272 rfl rfl dX9_planKind_1 ?_
  refine lv_aload_n hx hb dX9_planKind_4 rfl (lv_at hl 0 rfl) ?_
  refine gf_v (k := 2) (v := .ref (qa 3 0)) cx' hP 0 i_X9 rfl rfl (by decide) kw_266 rfl rfl dX9_planKind_5 ?_
  refine callP_v (wc := ww_X4_X4 cI cJ (qa 9) (C 9) (qa 3) (C 3)) (wr_C_3_9 cI cJ qa C L) (fun (u : Mem) => wC cI cJ qa (up3 C 9 (u)) L) [32, 33, 34, 35, 36, 5, 6, 7, 8, 9] [0, 1, 2, 3, 4, 10, 11, 12, 13, 14, 15, 16, 17, 18, 19, 20, 21, 22, 23, 24, 25, 26, 27, 28, 29, 30, 31, 37, 38, 39] [0, 1, 2, 3, 4, 35, 36, 37, 38, 39, 5, 6, 7, 8, 9, 10, 11, 12, 13, 14, 15, 16, 17, 18, 19, 20, 21, 22, 23, 24, 25, 26, 30, 31, 32, 33, 34, 27, 28, 29] rfl rfl rfl (by decide) (fun _ => rfl) rfl hP hD hS hA (fun hPc hDc => run_V (As := [.ref (qa 3 0)]) (rest := []) cx' (c_X4_takeFrom l H.size (qa 9) (C 9) (qa 3) (C 3) _ h) mv_X4_takeFrom kw_459 rfl rfl ⟨Nat.le_of_ble_eq_true rfl, Nat.le_of_ble_eq_true rfl⟩ hPc hDc rfl rfl rfl hl.1 rfl (Nat.le_of_ble_eq_true rfl) dX9_planKind_8 ⟨Nat.zero_le _, Nat.zero_le _⟩) rfl (fun u9 H locs hP hD hS h => ?_)
  obtain ⟨u_1, rfl⟩ : ∃ z, z = u9 := ⟨_, rfl⟩
  obtain ⟨C_2, eC_2⟩ : ∃ z : Nat → Mem, z = up3 C 9 u_1 := ⟨_, rfl⟩
  have h := h C_2 eC_2
  have hP : va_P (dC, dI) vwCl (wC cI cJ qa C_2 L) H := by subst eC_2; exact hP
  have hD : va_D A (wC cI cJ qa C_2 L) := by subst eC_2; exact hD
  refine lv_aload_n hx hb dX9_planKind_11 rfl (lv_at hl 0 rfl) ?_
  refine gf_v (k := 10) (v := .ref (qa 11 0)) cx' hP 0 i_X9 rfl rfl (by decide) kw_274 rfl rfl dX9_planKind_12 ?_
  refine callP_v (wc := ww_X3 cI cJ (qa 11) (C_2 11)) (wr_C_11 cI cJ qa C_2 L) (fun (u : Mem) => wC cI cJ qa (up3 C_2 11 (u)) L) [39] [0, 1, 2, 3, 4, 5, 6, 7, 8, 9, 10, 11, 12, 13, 14, 15, 16, 17, 18, 19, 20, 21, 22, 23, 24, 25, 26, 27, 28, 29, 30, 31, 32, 33, 34, 35, 36, 37, 38] [0, 1, 2, 3, 4, 5, 6, 7, 8, 9, 10, 11, 12, 13, 14, 15, 16, 17, 18, 19, 20, 21, 22, 23, 24, 25, 26, 27, 28, 29, 30, 31, 32, 33, 34, 35, 36, 37, 38, 39] rfl rfl rfl (by decide) (fun _ => rfl) rfl hP hD hS hA (fun hPc hDc => run_V (As := []) (rest := []) cx' (c_X3_clear l H.size (qa 11) (C_2 11) _ h) mv_X3_clear kw_463 rfl rfl ⟨Nat.le_of_ble_eq_true rfl, Nat.le_of_ble_eq_true rfl⟩ hPc hDc rfl rfl rfl hl.1 rfl (Nat.le_of_ble_eq_true rfl) dX9_planKind_15 ⟨Nat.zero_le _, Nat.zero_le _⟩) rfl (fun u9 H locs hP hD hS h => ?_)
  obtain ⟨u_3, rfl⟩ : ∃ z, z = u9 := ⟨_, rfl⟩
  obtain ⟨C_4, eC_4⟩ : ∃ z : Nat → Mem, z = up3 C_2 11 u_3 := ⟨_, rfl⟩
  have h := h C_4 eC_4
  have hP : va_P (dC, dI) vwCl (wC cI cJ qa C_4 L) H := by subst eC_4; exact hP
  have hD : va_D A (wC cI cJ qa C_4 L) := by subst eC_4; exact hD
  refine lv_iconst (v := 0) hx hb dX9_planKind_18 (by decide) ?_
  refine lv_istore_n (lv' := [(2, .int 0), (0, .ref (qa 0 0)), (1, .int x1)]) hx hb dX9_planKind_19 rfl hl (by decide) rfl (fun ls hl => ?_)
  obtain ⟨n_5, h⟩ := h
  exact w_X9_planKind_20 cx hA n_5 x1 0 C_4 L H locs ls hP hD hS (lv_sub hl [1, 2, 0] rfl) h
set_option maxRecDepth 100000 in
theorem c_X9_planKind (l : Launch) {dC : Nat → ClassId} {dI : Nat → Nat → Nat} {cI cJ : ClassId} (sz : Nat) (qa : Nat → Nat → Nat) (C : Nat → Mem) (L : MemL) (x1 : Int32) (post : (Nat → Mem) → MemL → Prop) (h : wp_X9_planKind C L x1 post) : Met l yX9_planKind (Cond.code yX9_planKind cX9_planKind 3 none :: gt) ({ frames := 4, cells := 0, slots := 0, locals := 102 }) (va_Pc [.ref (qa 0 0), .int x1] (PRE (dC, dI) (TY cI cJ) (wC cI cJ qa C L) sz)) (va_Qv (S := (Nat → Mem) × MemL) (fun (u : (Nat → Mem) × MemL) => post u.1 u.2) (fun u t => AT (dC, dI) (TY cI cJ) (va_A (wC cI cJ qa C L) sz) (wC cI cJ qa (u.1) (u.2)) t) (va_A (wC cI cJ qa C L) sz)) 0 0 (va_A (wC cI cJ qa C L) sz) :=
  met_of (own := RX9) (Qf := fun A => va_Qv (S := (Nat → Mem) × MemL) (fun (u : (Nat → Mem) × MemL) => post u.1 u.2) (fun u t => AT (dC, dI) (TY cI cJ) A (wC cI cJ qa (u.1) (u.2)) t) A) (by decide) rfl (Nat.le_of_ble_eq_true rfl) rfl (fun p e s m below meth c A cx hA ls hP hD hS hl => w_X9_planKind_0 cx hA x1 C L _ _ ls hP hD hS hl h)
theorem mv_X9_planKind : MV yX9_planKind cX9_planKind 3 none 1 := ⟨⟨kw_491, kw_1, by decide +kernel⟩, kw_490, ksel_6⟩
set_option maxHeartbeats 4000000 in
set_option maxRecDepth 100000 in
theorem w_X9_cook_0 {p : Program} {l : Launch} {e : Env} {s : State} {m : MethodId} {args : Array Value} {below : List Frame} {meth : Method} {c : Code} {dC : Nat → ClassId} {dI : Nat → Nat → Nat} {cI cJ : ClassId} {A : Nat → Prop} (cx : CX RX9 cX9_cook (some .int) 3 p s m args meth c (dC, dI) (TY cI cJ)) (hA : ∀ q, s.heap.size ≤ q → A q) {qa : Nat → Nat → Nat} {post : Int32 → (Nat → Mem) → MemL → Prop} : ∀ (x1 : Int32) (x2 : Int32) (C : (Nat → Mem)) (L : MemL) (H : Heap) (locs : List Loc) (ls : Array Slot), va_P (dC, dI) vwCl (wC cI cJ qa C L) H → va_D A (wC cI cJ qa C L) → va_S A s.heap H locs → lv_has ls 3 [(0, .ref (qa 0 0)), (1, .int x1), (2, .int x2)] → b_X9_cook_0 post x1 x2 C L → W p l e ({ frames := 5, cells := 0, slots := 0, locals := 124 }) s m args below meth c H locs 0 0 (MQ below (va_Qi (S := (Nat → Mem) × MemL) (fun (r : Int32) (u : (Nat → Mem) × MemL) => post r u.1 u.2) (fun u t => AT (dC, dI) (TY cI cJ) A (wC cI cJ qa (u.1) (u.2)) t) A) args s 0 0 A) (F0 m 0 ls []) := by
  obtain ⟨hx, hb, hr, hml, hown, hts, hlocks, hK⟩ := id cx
  have cx' : CX RX9 cX9_cook (meth.sig.returnType) 3 p s m args meth c (dC, dI) (TY cI cJ) := ⟨hx, hb, rfl, hml, hown, hts, hlocks, hK⟩
  intro x1 x2 C L H locs ls hP hD hS hl h
  unfold b_X9_cook_0 at h
  refine lv_aload_n hx hb dX9_cook_0 rfl (lv_at hl 0 rfl) ?_
  refine lv_iload_n hx hb dX9_cook_1 rfl (lv_at hl 1 rfl) ?_
  refine call_i (run_V (As := [.int x1]) (rest := []) cx' (c_X9_isHouse l H.size qa C L x1 _ h) mv_X9_isHouse kw_403 rfl rfl ⟨Nat.le_of_ble_eq_true rfl, Nat.le_of_ble_eq_true rfl⟩ hP hD rfl rfl rfl hl.1 rfl (Nat.le_of_ble_eq_true rfl) dX9_cook_2 ⟨Nat.zero_le _, Nat.zero_le _⟩) hD hS hA (fun r_1 u9 H locs hP hD hS h => ?_)
  have hP : va_P (dC, dI) vwCl (wC cI cJ qa C L) H := hP
  have hD : va_D A (wC cI cJ qa C L) := hD
  refine lv_if_eq (tgt := 15) hx hb dX9_cook_5 (by decide) (fun c_2 => ?_) (fun c_2 => ?_)
  · have h := h.1 c_2
    refine lv_bipush (v := (-2)) hx hb dX9_cook_15 (by decide) ?_
    exact rt_i (v := (-2)) (u := (C, L)) cx hP hD hS h dX9_cook_17
  have h := h.2 c_2
  refine lv_iload_n hx hb dX9_cook_8 rfl (lv_at hl 2 rfl) ?_
  refine callN_i (run_S (As := [.int x2]) (rest := []) (wc := []) cx' (c_X9_isBit l H.size x2 _ h) ms_X9_isBit kw_305 rfl rfl ⟨Nat.le_of_ble_eq_true rfl, Nat.le_of_ble_eq_true rfl⟩ nilP nilD (A := A) rfl hl.1 rfl (Nat.le_of_ble_eq_true rfl) dX9_cook_9 ⟨Nat.zero_le _, Nat.zero_le _⟩) hP hS hA (fun r_3 H locs hP hS h => ?_)
  refine lv_if_ne (tgt := 18) hx hb dX9_cook_12 (by decide) (fun c_4 => ?_) (fun c_4 => ?_)
  · have h := h.1 c_4
    refine lv_aload_n hx hb dX9_cook_18 rfl (lv_at hl 0 rfl) ?_
    refine lv_iload_n hx hb dX9_cook_19 rfl (lv_at hl 1 rfl) ?_
    refine call_v (run_V (As := [.int x1]) (rest := []) cx' (c_X9_planKind l H.size qa C L x1 _ h) mv_X9_planKind kw_488 rfl rfl ⟨Nat.le_of_ble_eq_true rfl, Nat.le_of_ble_eq_true rfl⟩ hP hD rfl rfl rfl hl.1 rfl (Nat.le_of_ble_eq_true rfl) dX9_cook_20 ⟨Nat.zero_le _, Nat.zero_le _⟩) hD hS hA (fun u9 H locs hP hD hS h => ?_)
    obtain ⟨C_5, L_6⟩ := u9
    have hP : va_P (dC, dI) vwCl (wC cI cJ qa C_5 L_6) H := hP
    have hD : va_D A (wC cI cJ qa C_5 L_6) := hD
    refine lv_iload_n hx hb dX9_cook_23 rfl (lv_at hl 2 rfl) ?_
    refine dia_i (ls := ls) (c0 := x2 = 0) (a := C_5 11 0 0) (b := C_5 11 0 1) (J := 44) (rest := []) (fun K => ?_) (fun v_8 ev_8 => ?_)
    · refine lv_if_ne (tgt := 37) hx hb dX9_cook_24 (by decide) (fun c_7 => ?_) (fun c_7 => ?_)
      · refine lv_aload_n hx hb dX9_cook_37 rfl (lv_at hl 0 rfl) ?_
        refine gf_v (k := 10) (v := .ref (qa 11 0)) cx' hP 0 i_X9 rfl rfl (by decide) kw_274 rfl rfl dX9_cook_38 ?_
        refine gf_v (k := 1) (v := .int (C_5 11 0 1)) cx' hP 39 i_X3 rfl rfl (by decide) kw_255 rfl rfl dX9_cook_41 ?_
        exact K _ (Or.inr ⟨c_7, rfl⟩)
      · refine lv_aload_n hx hb dX9_cook_27 rfl (lv_at hl 0 rfl) ?_
        refine gf_v (k := 10) (v := .ref (qa 11 0)) cx' hP 0 i_X9 rfl rfl (by decide) kw_274 rfl rfl dX9_cook_28 ?_
        refine gf_v (k := 0) (v := .int (C_5 11 0 0)) cx' hP 39 i_X3 rfl rfl (by decide) kw_253 rfl rfl dX9_cook_31 ?_
        refine lv_goto (tgt := 44) hx hb dX9_cook_34 (by decide) ?_
        exact K _ (Or.inl ⟨c_7, rfl⟩)
    have h := h v_8 ev_8
    exact rt_i (v := v_8) (u := (C_5, L_6)) cx hP hD hS h dX9_cook_44
  have h := h.2 c_4
  refine lv_bipush (v := (-2)) hx hb dX9_cook_15 (by decide) ?_
  exact rt_i (v := (-2)) (u := (C, L)) cx hP hD hS h dX9_cook_17
set_option maxRecDepth 100000 in
theorem c_X9_cook (l : Launch) {dC : Nat → ClassId} {dI : Nat → Nat → Nat} {cI cJ : ClassId} (sz : Nat) (qa : Nat → Nat → Nat) (C : Nat → Mem) (L : MemL) (x1 : Int32) (x2 : Int32) (post : Int32 → (Nat → Mem) → MemL → Prop) (h : wp_X9_cook C L x1 x2 post) : Met l yX9_cook (Cond.code yX9_cook cX9_cook 3 (some .int) :: gt) ({ frames := 5, cells := 0, slots := 0, locals := 124 }) (va_Pc [.ref (qa 0 0), .int x1, .int x2] (PRE (dC, dI) (TY cI cJ) (wC cI cJ qa C L) sz)) (va_Qi (S := (Nat → Mem) × MemL) (fun (r : Int32) (u : (Nat → Mem) × MemL) => post r u.1 u.2) (fun u t => AT (dC, dI) (TY cI cJ) (va_A (wC cI cJ qa C L) sz) (wC cI cJ qa (u.1) (u.2)) t) (va_A (wC cI cJ qa C L) sz)) 0 0 (va_A (wC cI cJ qa C L) sz) :=
  met_of (own := RX9) (Qf := fun A => va_Qi (S := (Nat → Mem) × MemL) (fun (r : Int32) (u : (Nat → Mem) × MemL) => post r u.1 u.2) (fun u t => AT (dC, dI) (TY cI cJ) A (wC cI cJ qa (u.1) (u.2)) t) A) (by decide) rfl (Nat.le_of_ble_eq_true rfl) rfl (fun p e s m below meth c A cx hA ls hP hD hS hl => w_X9_cook_0 cx hA x1 x2 C L _ _ ls hP hD hS hl h)
theorem mv_X9_cook : MV yX9_cook cX9_cook 3 (some .int) 2 := ⟨⟨kw_487, kw_1, by decide +kernel⟩, kw_485, kw_486⟩
set_option maxHeartbeats 4000000 in
set_option maxRecDepth 100000 in
theorem w_X9_fewestEmpty_94 {p : Program} {l : Launch} {e : Env} {s : State} {m : MethodId} {args : Array Value} {below : List Frame} {meth : Method} {c : Code} {dC : Nat → ClassId} {dI : Nat → Nat → Nat} {cI cJ : ClassId} {A : Nat → Prop} (cx : CX RX9 cX9_fewestEmpty (some .int) 7 p s m args meth c (dC, dI) (TY cI cJ)) (hA : ∀ q, s.heap.size ≤ q → A q) {qa : Nat → Nat → Nat} {post : Int32 → (Nat → Mem) → MemL → Prop} {k20 : Int32 → Int32 → Int32 → Int32 → Int32 → (Nat → Mem) → MemL → Prop} (hk20 : ∀ (x1 : Int32) (x2 : Int32) (x3 : Int32) (x4 : Int32) (x5 : Int32) (C : (Nat → Mem)) (L : MemL) (H : Heap) (locs : List Loc) (ls : Array Slot), va_P (dC, dI) vwCl (wC cI cJ qa C L) H → va_D A (wC cI cJ qa C L) → va_S A s.heap H locs → lv_has ls 7 [(0, .ref (qa 0 0)), (1, .int x1), (2, .int x2), (3, .int x3), (4, .int x4), (5, .int x5)] → k20 x1 x2 x3 x4 x5 C L → W p l e ({ frames := 3, cells := 0, slots := 0, locals := 77 }) s m args below meth c H locs 0 0 (MQ below (va_Qi (S := (Nat → Mem) × MemL) (fun (r : Int32) (u : (Nat → Mem) × MemL) => post r u.1 u.2) (fun u t => AT (dC, dI) (TY cI cJ) A (wC cI cJ qa (u.1) (u.2)) t) A) args s 0 0 A) (F0 m 20 ls [])) : ∀ (x1 : Int32) (x2 : Int32) (x3 : Int32) (x4 : Int32) (x5 : Int32) (C : (Nat → Mem)) (L : MemL) (H : Heap) (locs : List Loc) (ls : Array Slot), va_P (dC, dI) vwCl (wC cI cJ qa C L) H → va_D A (wC cI cJ qa C L) → va_S A s.heap H locs → lv_has ls 7 [(0, .ref (qa 0 0)), (1, .int x1), (2, .int x2), (3, .int x3), (4, .int x4), (5, .int x5)] → b_X9_fewestEmpty_94 post k20 x1 x2 x3 x4 x5 C L → W p l e ({ frames := 3, cells := 0, slots := 0, locals := 77 }) s m args below meth c H locs 0 0 (MQ below (va_Qi (S := (Nat → Mem) × MemL) (fun (r : Int32) (u : (Nat → Mem) × MemL) => post r u.1 u.2) (fun u t => AT (dC, dI) (TY cI cJ) A (wC cI cJ qa (u.1) (u.2)) t) A) args s 0 0 A) (F0 m 94 ls []) := by
  obtain ⟨hx, hb, hr, hml, hown, hts, hlocks, hK⟩ := id cx
  have cx' : CX RX9 cX9_fewestEmpty (meth.sig.returnType) 7 p s m args meth c (dC, dI) (TY cI cJ) := ⟨hx, hb, rfl, hml, hown, hts, hlocks, hK⟩
  intro x1 x2 x3 x4 x5 C L H locs ls hP hD hS hl h
  unfold b_X9_fewestEmpty_94 at h
  obtain ⟨x5_1, ex5_1⟩ : ∃ z : Int32, z = x5 + 1 := ⟨_, rfl⟩
  have h := h x5_1 ex5_1
  refine lv_iinc (v := x5_1) (lv' := [(5, .int x5_1), (0, .ref (qa 0 0)), (1, .int x1), (2, .int x2), (3, .int x3), (4, .int x4)]) hx hb dX9_fewestEmpty_94 hl (k := 5) rfl (by rw [ex5_1]; rfl) (by decide) rfl (fun ls hl => ?_)
  refine lv_goto (tgt := 20) hx hb dX9_fewestEmpty_97 (by decide) ?_
  exact hk20 x1 x2 x3 x4 x5_1 C L H locs ls hP hD hS (lv_sub hl [1, 2, 3, 4, 5, 0] rfl) h
set_option maxHeartbeats 4000000 in
set_option maxRecDepth 100000 in
theorem w_X9_fewestEmpty_20 {p : Program} {l : Launch} {e : Env} {s : State} {m : MethodId} {args : Array Value} {below : List Frame} {meth : Method} {c : Code} {dC : Nat → ClassId} {dI : Nat → Nat → Nat} {cI cJ : ClassId} {A : Nat → Prop} (cx : CX RX9 cX9_fewestEmpty (some .int) 7 p s m args meth c (dC, dI) (TY cI cJ)) (hA : ∀ q, s.heap.size ≤ q → A q) {qa : Nat → Nat → Nat} {post : Int32 → (Nat → Mem) → MemL → Prop} : ∀ (n : Nat) (x1 : Int32) (x2 : Int32) (x3 : Int32) (x4 : Int32) (x5 : Int32) (C : (Nat → Mem)) (L : MemL) (H : Heap) (locs : List Loc) (ls : Array Slot), va_P (dC, dI) vwCl (wC cI cJ qa C L) H → va_D A (wC cI cJ qa C L) → va_S A s.heap H locs → lv_has ls 7 [(0, .ref (qa 0 0)), (1, .int x1), (2, .int x2), (3, .int x3), (4, .int x4), (5, .int x5)] → b_X9_fewestEmpty_20 post n x1 x2 x3 x4 x5 C L → W p l e ({ frames := 3, cells := 0, slots := 0, locals := 77 }) s m args below meth c H locs 0 0 (MQ below (va_Qi (S := (Nat → Mem) × MemL) (fun (r : Int32) (u : (Nat → Mem) × MemL) => post r u.1 u.2) (fun u t => AT (dC, dI) (TY cI cJ) A (wC cI cJ qa (u.1) (u.2)) t) A) args s 0 0 A) (F0 m 20 ls []) := by
  obtain ⟨hx, hb, hr, hml, hown, hts, hlocks, hK⟩ := id cx
  have cx' : CX RX9 cX9_fewestEmpty (meth.sig.returnType) 7 p s m args meth c (dC, dI) (TY cI cJ) := ⟨hx, hb, rfl, hml, hown, hts, hlocks, hK⟩
  intro n
  induction n with
  | zero =>
    intro x1 x2 x3 x4 x5 C L H locs ls hP hD hS hl h
    exact False.elim h
  | succ n ih =>
    intro x1 x2 x3 x4 x5 C L H locs ls hP hD hS hl h
    unfold b_X9_fewestEmpty_20 at h
    refine lv_iload hx hb dX9_fewestEmpty_20 (lv_at hl 5 rfl) ?_
    refine lv_iconst (v := 1) hx hb dX9_fewestEmpty_22 (by decide) ?_
    refine lv_aload_n hx hb dX9_fewestEmpty_23 rfl (lv_at hl 0 rfl) ?_
    refine gf_v (k := 2) (v := .ref (qa 3 0)) cx' hP 0 i_X9 rfl rfl (by decide) kw_266 rfl rfl dX9_fewestEmpty_24 ?_
    refine gf_v (k := 4) (v := .int (C 3 0 4)) cx' hP 5 i_X4 rfl rfl (by decide) kw_64 rfl rfl dX9_fewestEmpty_27 ?_
    refine lv_ishl hx hb dX9_fewestEmpty_30 ?_
    refine lv_icmp_ge (tgt := 100) hx hb dX9_fewestEmpty_31 (by decide) (fun c_1 => ?_) (fun c_1 => ?_)
    · have h := h.1 c_1
      refine lv_iload_n hx hb dX9_fewestEmpty_100 rfl (lv_at hl 3 rfl) ?_
      exact rt_i (v := x3) (u := (C, L)) cx hP hD hS h dX9_fewestEmpty_101
    have h := h.2 c_1
    refine lv_iload hx hb dX9_fewestEmpty_34 (lv_at hl 5 rfl) ?_
    refine callN_i (run_S (As := [.int x5]) (rest := []) (wc := []) cx' (c_J6_bitCount_0f7a4 l H.size x5 _ h) ms_J6_bitCount_0f7a4 kw_500 rfl rfl ⟨Nat.le_of_ble_eq_true rfl, Nat.le_of_ble_eq_true rfl⟩ nilP nilD (A := A) rfl hl.1 rfl (Nat.le_of_ble_eq_true rfl) dX9_fewestEmpty_36 ⟨Nat.zero_le _, Nat.zero_le _⟩) hP hS hA (fun r_2 H locs hP hS h => ?_)
    refine lv_istore (lv' := [(6, .int r_2), (0, .ref (qa 0 0)), (1, .int x1), (2, .int x2), (3, .int x3), (4, .int x4), (5, .int x5)]) hx hb dX9_fewestEmpty_39 hl (by decide) rfl (fun ls hl => ?_)
    refine lv_iload hx hb dX9_fewestEmpty_41 (lv_at hl 0 rfl) ?_
    refine lv_iload hx hb dX9_fewestEmpty_43 (lv_at hl 5 rfl) ?_
    refine lv_icmp_lt (tgt := 51) hx hb dX9_fewestEmpty_45 (by decide) (fun c_3 => ?_) (fun c_3 => ?_)
    · have h := h.1 c_3
      refine lv_aload_n hx hb dX9_fewestEmpty_51 rfl (lv_at hl 1 rfl) ?_
      refine gf_v (k := 8) (v := .ref (qa 9 0)) cx' hP 0 i_X9 rfl rfl (by decide) kw_272 rfl rfl dX9_fewestEmpty_52 ?_
      refine lv_iload hx hb dX9_fewestEmpty_55 (lv_at hl 6 rfl) ?_
      obtain ⟨C_4, eC_4⟩ : ∃ z : Nat → Mem, z = up3 C 9 (up2 (C 9) 0 6 x5) := ⟨_, rfl⟩
      have h := h C_4 eC_4
      refine pf_v (k := 6) (tf := .int) cx' hP hD hS 32 (wC cI cJ qa C_4 L) i_X4 tyX4 tyX4_ok nmX4 rfl rfl (by decide) kw_68 rfl rfl rfl rfl rfl (Nat.le_of_ble_eq_true rfl) dX9_fewestEmpty_57 (by subst eC_4; rfl) (fun H locs hP hD hS => ?_)
      refine lv_aload_n hx hb dX9_fewestEmpty_60 rfl (lv_at hl 1 rfl) ?_
      refine gf_v (k := 9) (v := .ref (qa 10 0)) cx' hP 0 i_X9 rfl rfl (by decide) kw_273 rfl rfl dX9_fewestEmpty_61 ?_
      refine lv_aload_n hx hb dX9_fewestEmpty_64 rfl (lv_at hl 1 rfl) ?_
      refine gf_v (k := 8) (v := .ref (qa 9 0)) cx' hP 0 i_X9 rfl rfl (by decide) kw_272 rfl rfl dX9_fewestEmpty_65 ?_
      refine lv_aload_n hx hb dX9_fewestEmpty_68 rfl (lv_at hl 1 rfl) ?_
      refine gf_v (k := 3) (v := .ref (qa 4 0)) cx' hP 0 i_X9 rfl rfl (by decide) kw_267 rfl rfl dX9_fewestEmpty_69 ?_
      refine lv_iload_n hx hb dX9_fewestEmpty_72 rfl (lv_at hl 3 rfl) ?_
      refine callP_v (wc := ww_X8_X4_X2 cI cJ (qa 10) (C_4 10) (qa 9) (C_4 9) (qa 4) (C_4 4)) (wr_C_4_9_10 cI cJ qa C_4 L) (fun (u : Mem) => wC cI cJ qa (up3 C_4 10 (u)) L) [37, 38, 32, 33, 34, 35, 36, 10, 11, 12, 13, 14] [0, 1, 2, 3, 4, 5, 6, 7, 8, 9, 15, 16, 17, 18, 19, 20, 21, 22, 23, 24, 25, 26, 27, 28, 29, 30, 31, 39] [0, 1, 2, 3, 4, 5, 6, 7, 8, 9, 35, 36, 37, 38, 39, 10, 11, 12, 13, 14, 15, 16, 17, 18, 19, 20, 21, 22, 23, 24, 25, 26, 30, 31, 32, 33, 34, 28, 29, 27] rfl rfl rfl (by decide) (fun _ => rfl) rfl hP hD hS hA (fun hPc hDc => run_V (As := [.ref (qa 9 0), .ref (qa 4 0), .int x2]) (rest := []) cx' (c_X8_go l H.size (qa 10) (C_4 10) (qa 9) (C_4 9) (qa 4) (C_4 4) x2 _ h) mv_X8_go kw_479 rfl rfl ⟨Nat.le_of_ble_eq_true rfl, Nat.le_of_ble_eq_true rfl⟩ hPc hDc rfl rfl rfl hl.1 rfl (Nat.le_of_ble_eq_true rfl) dX9_fewestEmpty_73 ⟨Nat.zero_le _, Nat.zero_le _⟩) rfl (fun u9 H locs hP hD hS h => ?_)
      obtain ⟨u_5, rfl⟩ : ∃ z, z = u9 := ⟨_, rfl⟩
      obtain ⟨C_6, eC_6⟩ : ∃ z : Nat → Mem, z = up3 C_4 10 u_5 := ⟨_, rfl⟩
      have h := h C_6 eC_6
      have hP : va_P (dC, dI) vwCl (wC cI cJ qa C_6 L) H := by subst eC_6; exact hP
      have hD : va_D A (wC cI cJ qa C_6 L) := by subst eC_6; exact hD
      refine lv_aload_n hx hb dX9_fewestEmpty_76 rfl (lv_at hl 1 rfl) ?_
      refine gf_v (k := 9) (v := .ref (qa 10 0)) cx' hP 0 i_X9 rfl rfl (by decide) kw_273 rfl rfl dX9_fewestEmpty_77 ?_
      refine gf_v (k := 1) (v := .int (C_6 10 0 1)) cx' hP 37 i_X8 rfl rfl (by decide) kw_221 rfl rfl dX9_fewestEmpty_80 ?_
      refine lv_iload_n hx hb dX9_fewestEmpty_83 rfl (lv_at hl 2 rfl) ?_
      refine lv_icmp_ne (tgt := 94) hx hb dX9_fewestEmpty_84 (by decide) (fun c_7 => ?_) (fun c_7 => ?_)
      · have h := h.1 c_7
        exact w_X9_fewestEmpty_94 cx hA ih x1 x2 x3 x4 x5 C_6 L H locs ls hP hD hS (lv_sub hl [1, 2, 3, 4, 5, 6] rfl) h
      have h := h.2 c_7
      refine lv_iload hx hb dX9_fewestEmpty_87 (lv_at hl 6 rfl) ?_
      refine lv_istore_n (lv' := [(3, .int x5), (6, .int r_2), (0, .ref (qa 0 0)), (1, .int x1), (2, .int x2), (4, .int x4), (5, .int x5)]) hx hb dX9_fewestEmpty_89 rfl hl (by decide) rfl (fun ls hl => ?_)
      refine lv_iload hx hb dX9_fewestEmpty_90 (lv_at hl 1 rfl) ?_
      refine lv_istore (lv' := [(4, .int r_2), (3, .int x5), (6, .int r_2), (0, .ref (qa 0 0)), (1, .int x1), (2, .int x2), (5, .int x5)]) hx hb dX9_fewestEmpty_92 hl (by decide) rfl (fun ls hl => ?_)
      exact w_X9_fewestEmpty_94 cx hA ih x1 x2 x5 r_2 x5 C_6 L H locs ls hP hD hS (lv_sub hl [3, 4, 5, 1, 0, 6] rfl) h
    have h := h.2 c_3
    refine lv_goto (tgt := 94) hx hb dX9_fewestEmpty_48 (by decide) ?_
    exact w_X9_fewestEmpty_94 cx hA ih x1 x2 x3 x4 x5 C L H locs ls hP hD hS (lv_sub hl [1, 2, 3, 4, 5, 6] rfl) h
set_option maxHeartbeats 4000000 in
set_option maxRecDepth 100000 in
theorem w_X9_fewestEmpty_0 {p : Program} {l : Launch} {e : Env} {s : State} {m : MethodId} {args : Array Value} {below : List Frame} {meth : Method} {c : Code} {dC : Nat → ClassId} {dI : Nat → Nat → Nat} {cI cJ : ClassId} {A : Nat → Prop} (cx : CX RX9 cX9_fewestEmpty (some .int) 7 p s m args meth c (dC, dI) (TY cI cJ)) (hA : ∀ q, s.heap.size ≤ q → A q) {qa : Nat → Nat → Nat} {post : Int32 → (Nat → Mem) → MemL → Prop} : ∀ (x1 : Int32) (x2 : Int32) (C : (Nat → Mem)) (L : MemL) (H : Heap) (locs : List Loc) (ls : Array Slot), va_P (dC, dI) vwCl (wC cI cJ qa C L) H → va_D A (wC cI cJ qa C L) → va_S A s.heap H locs → lv_has ls 7 [(0, .ref (qa 0 0)), (1, .int x1), (2, .int x2)] → b_X9_fewestEmpty_0 post x1 x2 C L → W p l e ({ frames := 3, cells := 0, slots := 0, locals := 77 }) s m args below meth c H locs 0 0 (MQ below (va_Qi (S := (Nat → Mem) × MemL) (fun (r : Int32) (u : (Nat → Mem) × MemL) => post r u.1 u.2) (fun u t => AT (dC, dI) (TY cI cJ) A (wC cI cJ qa (u.1) (u.2)) t) A) args s 0 0 A) (F0 m 0 ls []) := by
  obtain ⟨hx, hb, hr, hml, hown, hts, hlocks, hK⟩ := id cx
  have cx' : CX RX9 cX9_fewestEmpty (meth.sig.returnType) 7 p s m args meth c (dC, dI) (TY cI cJ) := ⟨hx, hb, rfl, hml, hown, hts, hlocks, hK⟩
  intro x1 x2 C L H locs ls hP hD hS hl h
  unfold b_X9_fewestEmpty_0 at h
  refine lv_aload_n hx hb dX9_fewestEmpty_0 rfl (lv_at hl 0 rfl) ?_
  refine gf_v (k := 8) (v := .ref (qa 9 0)) cx' hP 0 i_X9 rfl rfl (by decide) kw_272 rfl rfl dX9_fewestEmpty_1 ?_
  refine lv_aload_n hx hb dX9_fewestEmpty_4 rfl (lv_at hl 0 rfl) ?_
  refine gf_v (k := 2) (v := .ref (qa 3 0)) cx' hP 0 i_X9 rfl rfl (by decide) kw_266 rfl rfl dX9_fewestEmpty_5 ?_
  refine callP_v (wc := ww_X4_X4 cI cJ (qa 9) (C 9) (qa 3) (C 3)) (wr_C_3_9 cI cJ qa C L) (fun (u : Mem) => wC cI cJ qa (up3 C 9 (u)) L) [32, 33, 34, 35, 36, 5, 6, 7, 8, 9] [0, 1, 2, 3, 4, 10, 11, 12, 13, 14, 15, 16, 17, 18, 19, 20, 21, 22, 23, 24, 25, 26, 27, 28, 29, 30, 31, 37, 38, 39] [0, 1, 2, 3, 4, 35, 36, 37, 38, 39, 5, 6, 7, 8, 9, 10, 11, 12, 13, 14, 15, 16, 17, 18, 19, 20, 21, 22, 23, 24, 25, 26, 30, 31, 32, 33, 34, 27, 28, 29] rfl rfl rfl (by decide) (fun _ => rfl) rfl hP hD hS hA (fun hPc hDc => run_V (As := [.ref (qa 3 0)]) (rest := []) cx' (c_X4_takeFrom l H.size (qa 9) (C 9) (qa 3) (C 3) _ h) mv_X4_takeFrom kw_459 rfl rfl ⟨Nat.le_of_ble_eq_true rfl, Nat.le_of_ble_eq_true rfl⟩ hPc hDc rfl rfl rfl hl.1 rfl (Nat.le_of_ble_eq_true rfl) dX9_fewestEmpty_8 ⟨Nat.zero_le _, Nat.zero_le _⟩) rfl (fun u9 H locs hP hD hS h => ?_)
  obtain ⟨u_1, rfl⟩ : ∃ z, z = u9 := ⟨_, rfl⟩
  obtain ⟨C_2, eC_2⟩ : ∃ z : Nat → Mem, z = up3 C 9 u_1 := ⟨_, rfl⟩
  have h := h C_2 eC_2
  have hP : va_P (dC, dI) vwCl (wC cI cJ qa C_2 L) H := by subst eC_2; exact hP
  have hD : va_D A (wC cI cJ qa C_2 L) := by subst eC_2; exact hD
  refine lv_iconst (v := (-1)) hx hb dX9_fewestEmpty_11 (by decide) ?_
  refine lv_istore_n (lv' := [(3, .int (-1)), (0, .ref (qa 0 0)), (1, .int x1), (2, .int x2)]) hx hb dX9_fewestEmpty_12 rfl hl (by decide) rfl (fun ls hl => ?_)
  refine lv_bipush (v := 9) hx hb dX9_fewestEmpty_13 (by decide) ?_
  refine lv_istore (lv' := [(4, .int 9), (3, .int (-1)), (0, .ref (qa 0 0)), (1, .int x1), (2, .int x2)]) hx hb dX9_fewestEmpty_15 hl (by decide) rfl (fun ls hl => ?_)
  refine lv_iconst (v := 0) hx hb dX9_fewestEmpty_17 (by decide) ?_
  refine lv_istore (lv' := [(5, .int 0), (4, .int 9), (3, .int (-1)), (0, .ref (qa 0 0)), (1, .int x1), (2, .int x2)]) hx hb dX9_fewestEmpty_18 hl (by decide) rfl (fun ls hl => ?_)
  obtain ⟨n_3, h⟩ := h
  exact w_X9_fewestEmpty_20 cx hA n_3 x1 x2 (-1) 9 0 C_2 L H locs ls hP hD hS (lv_sub hl [3, 4, 5, 2, 1, 0] rfl) h
set_option maxRecDepth 100000 in
theorem c_X9_fewestEmpty (l : Launch) {dC : Nat → ClassId} {dI : Nat → Nat → Nat} {cI cJ : ClassId} (sz : Nat) (qa : Nat → Nat → Nat) (C : Nat → Mem) (L : MemL) (x1 : Int32) (x2 : Int32) (post : Int32 → (Nat → Mem) → MemL → Prop) (h : wp_X9_fewestEmpty C L x1 x2 post) : Met l yX9_fewestEmpty (Cond.code yX9_fewestEmpty cX9_fewestEmpty 7 (some .int) :: gt) ({ frames := 3, cells := 0, slots := 0, locals := 77 }) (va_Pc [.ref (qa 0 0), .int x1, .int x2] (PRE (dC, dI) (TY cI cJ) (wC cI cJ qa C L) sz)) (va_Qi (S := (Nat → Mem) × MemL) (fun (r : Int32) (u : (Nat → Mem) × MemL) => post r u.1 u.2) (fun u t => AT (dC, dI) (TY cI cJ) (va_A (wC cI cJ qa C L) sz) (wC cI cJ qa (u.1) (u.2)) t) (va_A (wC cI cJ qa C L) sz)) 0 0 (va_A (wC cI cJ qa C L) sz) :=
  met_of (own := RX9) (Qf := fun A => va_Qi (S := (Nat → Mem) × MemL) (fun (r : Int32) (u : (Nat → Mem) × MemL) => post r u.1 u.2) (fun u t => AT (dC, dI) (TY cI cJ) A (wC cI cJ qa (u.1) (u.2)) t) A) (by decide) rfl (Nat.le_of_ble_eq_true rfl) rfl (fun p e s m below meth c A cx hA ls hP hD hS hl => w_X9_fewestEmpty_0 cx hA x1 x2 C L _ _ ls hP hD hS hl h)
theorem mv_X9_fewestEmpty : MV yX9_fewestEmpty cX9_fewestEmpty 7 (some .int) 2 := ⟨⟨kw_499, kw_1, by decide +kernel⟩, kw_498, ksel_7⟩
set_option maxHeartbeats 4000000 in
set_option maxRecDepth 100000 in
theorem w_X9_howMany_0 {p : Program} {l : Launch} {e : Env} {s : State} {m : MethodId} {args : Array Value} {below : List Frame} {meth : Method} {c : Code} {dC : Nat → ClassId} {dI : Nat → Nat → Nat} {cI cJ : ClassId} {A : Nat → Prop} (cx : CX RX9 cX9_howMany (some .int) 1 p s m args meth c (dC, dI) (TY cI cJ)) (hA : ∀ q, s.heap.size ≤ q → A q) {post : Int32 → Prop} : ∀ (x0 : Int32) (H : Heap) (locs : List Loc) (ls : Array Slot), va_P (dC, dI) vwCl ([]) H → va_D A ([]) → va_S A s.heap H locs → lv_has ls 1 [(0, .int x0)] → b_X9_howMany_0 post x0 → W p l e ({ frames := 1, cells := 0, slots := 0, locals := 20 }) s m args below meth c H locs 0 0 (MQ below (va_Qi (S := Unit) (fun (r : Int32) (_u : Unit) => post r) (fun _u t => AT (dC, dI) (TY cI cJ) A ([]) t) A) args s 0 0 A) (F0 m 0 ls []) := by
  obtain ⟨hx, hb, hr, hml, hown, hts, hlocks, hK⟩ := id cx
  have cx' : CX RX9 cX9_howMany (meth.sig.returnType) 1 p s m args meth c (dC, dI) (TY cI cJ) := ⟨hx, hb, rfl, hml, hown, hts, hlocks, hK⟩
  intro x0 H locs ls hP hD hS hl h
  unfold b_X9_howMany_0 at h
  refine lv_iload_n hx hb dX9_howMany_0 rfl (lv_at hl 0 rfl) ?_
  refine lv_iconst (v := (-1)) hx hb dX9_howMany_1 (by decide) ?_
  refine lv_icmp_ne (tgt := 9) hx hb dX9_howMany_2 (by decide) (fun c_1 => ?_) (fun c_1 => ?_)
  · have h := h.1 c_1
    refine lv_iload_n hx hb dX9_howMany_9 rfl (lv_at hl 0 rfl) ?_
    refine callN_i (run_S (As := [.int x0]) (rest := []) (wc := []) cx' (c_J6_bitCount_0f7a4 l H.size x0 _ h) ms_J6_bitCount_0f7a4 kw_500 rfl rfl ⟨Nat.le_of_ble_eq_true rfl, Nat.le_of_ble_eq_true rfl⟩ nilP nilD (A := A) rfl hl.1 rfl (Nat.le_of_ble_eq_true rfl) dX9_howMany_10 ⟨Nat.zero_le _, Nat.zero_le _⟩) hP hS hA (fun r_2 H locs hP hS h => ?_)
    exact rt_i (v := r_2) (u := ()) cx hP hD hS h dX9_howMany_13
  have h := h.2 c_1
  refine lv_iconst (v := (-1)) hx hb dX9_howMany_5 (by decide) ?_
  refine lv_goto (tgt := 13) hx hb dX9_howMany_6 (by decide) ?_
  exact rt_i (v := (-1)) (u := ()) cx hP hD hS h dX9_howMany_13
set_option maxRecDepth 100000 in
theorem c_X9_howMany (l : Launch) {dC : Nat → ClassId} {dI : Nat → Nat → Nat} {cI cJ : ClassId} (sz : Nat) (x0 : Int32) (post : Int32 → Prop) (h : wp_X9_howMany x0 post) : Met l yX9_howMany (Cond.code yX9_howMany cX9_howMany 1 (some .int) :: gt) ({ frames := 1, cells := 0, slots := 0, locals := 20 }) (va_Pc [.int x0] (PRE (dC, dI) (TY cI cJ) ([]) sz)) (va_Qi (S := Unit) (fun (r : Int32) (_u : Unit) => post r) (fun _u t => AT (dC, dI) (TY cI cJ) (va_A ([]) sz) ([]) t) (va_A ([]) sz)) 0 0 (va_A ([]) sz) :=
  met_of (own := RX9) (Qf := fun A => va_Qi (S := Unit) (fun (r : Int32) (_u : Unit) => post r) (fun _u t => AT (dC, dI) (TY cI cJ) A ([]) t) A) (by decide) rfl (Nat.le_of_ble_eq_true rfl) rfl (fun p e s m below meth c A cx hA ls hP hD hS hl => w_X9_howMany_0 cx hA x0 _ _ ls hP hD hS hl h)
theorem ms_X9_howMany : MS yX9_howMany cX9_howMany 1 (some .int) 1 := ⟨⟨kw_508, kw_1, by decide +kernel⟩, kw_507⟩
set_option maxHeartbeats 4000000 in
set_option maxRecDepth 100000 in
theorem w_X9_fast_0 {p : Program} {l : Launch} {e : Env} {s : State} {m : MethodId} {args : Array Value} {below : List Frame} {meth : Method} {c : Code} {dC : Nat → ClassId} {dI : Nat → Nat → Nat} {cI cJ : ClassId} {A : Nat → Prop} (cx : CX RX9 cX9_fast (some .int) 5 p s m args meth c (dC, dI) (TY cI cJ)) (hA : ∀ q, s.heap.size ≤ q → A q) {qa : Nat → Nat → Nat} {post : Int32 → (Nat → Mem) → MemL → Prop} : ∀ (x1 : Int32) (x2 : Int32) (x3 : Int32) (C : (Nat → Mem)) (L : MemL) (H : Heap) (locs : List Loc) (ls : Array Slot), va_P (dC, dI) vwCl (wC cI cJ qa C L) H → va_D A (wC cI cJ qa C L) → va_S A s.heap H locs → lv_has ls 5 [(0, .ref (qa 0 0)), (1, .int x1), (2, .int x2), (3, .int x3)] → b_X9_fast_0 post x1 x2 x3 C L → W p l e ({ frames := 4, cells := 0, slots := 0, locals := 103 }) s m args below meth c H locs 0 0 (MQ below (va_Qi (S := (Nat → Mem) × MemL) (fun (r : Int32) (u : (Nat → Mem) × MemL) => post r u.1 u.2) (fun u t => AT (dC, dI) (TY cI cJ) A (wC cI cJ qa (u.1) (u.2)) t) A) args s 0 0 A) (F0 m 0 ls []) := by
  obtain ⟨hx, hb, hr, hml, hown, hts, hlocks, hK⟩ := id cx
  have cx' : CX RX9 cX9_fast (meth.sig.returnType) 5 p s m args meth c (dC, dI) (TY cI cJ) := ⟨hx, hb, rfl, hml, hown, hts, hlocks, hK⟩
  intro x1 x2 x3 C L H locs ls hP hD hS hl h
  unfold b_X9_fast_0 at h
  refine lv_aload_n hx hb dX9_fast_0 rfl (lv_at hl 0 rfl) ?_
  refine lv_iload_n hx hb dX9_fast_1 rfl (lv_at hl 1 rfl) ?_
  refine call_i (run_V (As := [.int x1]) (rest := []) cx' (c_X9_isHouse l H.size qa C L x1 _ h) mv_X9_isHouse kw_403 rfl rfl ⟨Nat.le_of_ble_eq_true rfl, Nat.le_of_ble_eq_true rfl⟩ hP hD rfl rfl rfl hl.1 rfl (Nat.le_of_ble_eq_true rfl) dX9_fast_2 ⟨Nat.zero_le _, Nat.zero_le _⟩) hD hS hA (fun r_1 u9 H locs hP hD hS h => ?_)
  have hP : va_P (dC, dI) vwCl (wC cI cJ qa C L) H := hP
  have hD : va_D A (wC cI cJ qa C L) := hD
  refine lv_if_eq (tgt := 23) hx hb dX9_fast_5 (by decide) (fun c_2 => ?_) (fun c_2 => ?_)
  · have h := h.1 c_2
    refine lv_bipush (v := (-2)) hx hb dX9_fast_23 (by decide) ?_
    exact rt_i (v := (-2)) (u := (C, L)) cx hP hD hS h dX9_fast_25
  have h := h.2 c_2
  refine lv_aload_n hx hb dX9_fast_8 rfl (lv_at hl 0 rfl) ?_
  refine lv_iload_n hx hb dX9_fast_9 rfl (lv_at hl 2 rfl) ?_
  refine call_i (run_V (As := [.int x2]) (rest := []) cx' (c_X9_isGuest l H.size qa C L x2 _ h) mv_X9_isGuest kw_411 rfl rfl ⟨Nat.le_of_ble_eq_true rfl, Nat.le_of_ble_eq_true rfl⟩ hP hD rfl rfl rfl hl.1 rfl (Nat.le_of_ble_eq_true rfl) dX9_fast_10 ⟨Nat.zero_le _, Nat.zero_le _⟩) hD hS hA (fun r_3 u9 H locs hP hD hS h => ?_)
  have hP : va_P (dC, dI) vwCl (wC cI cJ qa C L) H := hP
  have hD : va_D A (wC cI cJ qa C L) := hD
  refine lv_if_eq (tgt := 23) hx hb dX9_fast_13 (by decide) (fun c_4 => ?_) (fun c_4 => ?_)
  · have h := h.1 c_4
    refine lv_bipush (v := (-2)) hx hb dX9_fast_23 (by decide) ?_
    exact rt_i (v := (-2)) (u := (C, L)) cx hP hD hS h dX9_fast_25
  have h := h.2 c_4
  refine lv_iload_n hx hb dX9_fast_16 rfl (lv_at hl 3 rfl) ?_
  refine callN_i (run_S (As := [.int x3]) (rest := []) (wc := []) cx' (c_X9_isBit l H.size x3 _ h) ms_X9_isBit kw_305 rfl rfl ⟨Nat.le_of_ble_eq_true rfl, Nat.le_of_ble_eq_true rfl⟩ nilP nilD (A := A) rfl hl.1 rfl (Nat.le_of_ble_eq_true rfl) dX9_fast_17 ⟨Nat.zero_le _, Nat.zero_le _⟩) hP hS hA (fun r_5 H locs hP hS h => ?_)
  refine lv_if_ne (tgt := 26) hx hb dX9_fast_20 (by decide) (fun c_6 => ?_) (fun c_6 => ?_)
  · have h := h.1 c_6
    refine lv_aload_n hx hb dX9_fast_26 rfl (lv_at hl 0 rfl) ?_
    refine lv_iload_n hx hb dX9_fast_27 rfl (lv_at hl 1 rfl) ?_
    refine lv_iload_n hx hb dX9_fast_28 rfl (lv_at hl 2 rfl) ?_
    refine call_i (run_V (As := [.int x1, .int x2]) (rest := []) cx' (c_X9_fewestEmpty l H.size qa C L x1 x2 _ h) mv_X9_fewestEmpty kw_496 rfl rfl ⟨Nat.le_of_ble_eq_true rfl, Nat.le_of_ble_eq_true rfl⟩ hP hD rfl rfl rfl hl.1 rfl (Nat.le_of_ble_eq_true rfl) dX9_fast_29 ⟨Nat.zero_le _, Nat.zero_le _⟩) hD hS hA (fun r_7 u9 H locs hP hD hS h => ?_)
    obtain ⟨C_8, L_9⟩ := u9
    have hP : va_P (dC, dI) vwCl (wC cI cJ qa C_8 L_9) H := hP
    have hD : va_D A (wC cI cJ qa C_8 L_9) := hD
    refine lv_istore (lv' := [(4, .int r_7), (0, .ref (qa 0 0)), (1, .int x1), (2, .int x2), (3, .int x3)]) hx hb dX9_fast_32 hl (by decide) rfl (fun ls hl => ?_)
    refine lv_iload_n hx hb dX9_fast_34 rfl (lv_at hl 4 rfl) ?_
    refine lv_if_ne (tgt := 46) hx hb dX9_fast_35 (by decide) (fun c_10 => ?_) (fun c_10 => ?_)
    · have h := h.1 c_10
      refine lv_iload hx hb dX9_fast_46 (lv_at hl 0 rfl) ?_
      exact rt_i (v := r_7) (u := (C_8, L_9)) cx hP hD hS h dX9_fast_48
    have h := h.2 c_10
    refine lv_iload hx hb dX9_fast_38 (lv_at hl 0 rfl) ?_
    refine callN_i (run_S (As := [.int r_7]) (rest := []) (wc := []) cx' (c_X9_howMany l H.size r_7 _ h) ms_X9_howMany kw_506 rfl rfl ⟨Nat.le_of_ble_eq_true rfl, Nat.le_of_ble_eq_true rfl⟩ nilP nilD (A := A) rfl hl.1 rfl (Nat.le_of_ble_eq_true rfl) dX9_fast_40 ⟨Nat.zero_le _, Nat.zero_le _⟩) hP hS hA (fun r_11 H locs hP hS h => ?_)
    refine lv_goto (tgt := 48) hx hb dX9_fast_43 (by decide) ?_
    exact rt_i (v := r_11) (u := (C_8, L_9)) cx hP hD hS h dX9_fast_48
  have h := h.2 c_6
  refine lv_bipush (v := (-2)) hx hb dX9_fast_23 (by decide) ?_
  exact rt_i (v := (-2)) (u := (C, L)) cx hP hD hS h dX9_fast_25
set_option maxRecDepth 100000 in
theorem c_X9_fast (l : Launch) {dC : Nat → ClassId} {dI : Nat → Nat → Nat} {cI cJ : ClassId} (sz : Nat) (qa : Nat → Nat → Nat) (C : Nat → Mem) (L : MemL) (x1 : Int32) (x2 : Int32) (x3 : Int32) (post : Int32 → (Nat → Mem) → MemL → Prop) (h : wp_X9_fast C L x1 x2 x3 post) : Met l yX9_fast (Cond.code yX9_fast cX9_fast 5 (some .int) :: gt) ({ frames := 4, cells := 0, slots := 0, locals := 103 }) (va_Pc [.ref (qa 0 0), .int x1, .int x2, .int x3] (PRE (dC, dI) (TY cI cJ) (wC cI cJ qa C L) sz)) (va_Qi (S := (Nat → Mem) × MemL) (fun (r : Int32) (u : (Nat → Mem) × MemL) => post r u.1 u.2) (fun u t => AT (dC, dI) (TY cI cJ) (va_A (wC cI cJ qa C L) sz) (wC cI cJ qa (u.1) (u.2)) t) (va_A (wC cI cJ qa C L) sz)) 0 0 (va_A (wC cI cJ qa C L) sz) :=
  met_of (own := RX9) (Qf := fun A => va_Qi (S := (Nat → Mem) × MemL) (fun (r : Int32) (u : (Nat → Mem) × MemL) => post r u.1 u.2) (fun u t => AT (dC, dI) (TY cI cJ) A (wC cI cJ qa (u.1) (u.2)) t) A) (by decide) rfl (Nat.le_of_ble_eq_true rfl) rfl (fun p e s m below meth c A cx hA ls hP hD hS hl => w_X9_fast_0 cx hA x1 x2 x3 C L _ _ ls hP hD hS hl h)
theorem mv_X9_fast : MV yX9_fast cX9_fast 5 (some .int) 3 := ⟨⟨kw_495, kw_1, by decide +kernel⟩, kw_493, kw_494⟩
set_option maxHeartbeats 4000000 in
set_option maxRecDepth 100000 in
theorem w_X9_soup_32 {p : Program} {l : Launch} {e : Env} {s : State} {m : MethodId} {args : Array Value} {below : List Frame} {meth : Method} {c : Code} {dC : Nat → ClassId} {dI : Nat → Nat → Nat} {cI cJ : ClassId} {A : Nat → Prop} (cx : CX RX9 cX9_soup (some .int) 4 p s m args meth c (dC, dI) (TY cI cJ)) (hA : ∀ q, s.heap.size ≤ q → A q) {qa : Nat → Nat → Nat} {post : Int32 → (Nat → Mem) → MemL → Prop} : ∀ (n : Nat) (x1 : Int32) (x2 : Int32) (x3 : Int32) (C : (Nat → Mem)) (L : MemL) (H : Heap) (locs : List Loc) (ls : Array Slot), va_P (dC, dI) vwCl (wC cI cJ qa C L) H → va_D A (wC cI cJ qa C L) → va_S A s.heap H locs → lv_has ls 4 [(0, .ref (qa 0 0)), (1, .int x1), (2, .int x2), (3, .int x3)] → b_X9_soup_32 post n x1 x2 x3 C L → W p l e ({ frames := 3, cells := 0, slots := 0, locals := 77 }) s m args below meth c H locs 0 0 (MQ below (va_Qi (S := (Nat → Mem) × MemL) (fun (r : Int32) (u : (Nat → Mem) × MemL) => post r u.1 u.2) (fun u t => AT (dC, dI) (TY cI cJ) A (wC cI cJ qa (u.1) (u.2)) t) A) args s 0 0 A) (F0 m 32 ls []) := by
  obtain ⟨hx, hb, hr, hml, hown, hts, hlocks, hK⟩ := id cx
  have cx' : CX RX9 cX9_soup (meth.sig.returnType) 4 p s m args meth c (dC, dI) (TY cI cJ) := ⟨hx, hb, rfl, hml, hown, hts, hlocks, hK⟩
  intro n
  induction n with
  | zero =>
    intro x1 x2 x3 C L H locs ls hP hD hS hl h
    exact False.elim h
  | succ n ih =>
    intro x1 x2 x3 C L H locs ls hP hD hS hl h
    unfold b_X9_soup_32 at h
    refine lv_iload_n hx hb dX9_soup_32 rfl (lv_at hl 3 rfl) ?_
    refine lv_bipush (v := 9) hx hb dX9_soup_33 (by decide) ?_
    refine lv_icmp_gt (tgt := 83) hx hb dX9_soup_35 (by decide) (fun c_1 => ?_) (fun c_1 => ?_)
    · have h := h.1 c_1
      refine lv_iconst (v := (-1)) hx hb dX9_soup_83 (by decide) ?_
      exact rt_i (v := (-1)) (u := (C, L)) cx hP hD hS h dX9_soup_84
    have h := h.2 c_1
    refine lv_aload_n hx hb dX9_soup_38 rfl (lv_at hl 0 rfl) ?_
    refine gf_v (k := 8) (v := .ref (qa 9 0)) cx' hP 0 i_X9 rfl rfl (by decide) kw_272 rfl rfl dX9_soup_39 ?_
    refine gf_v (k := 1) (v := .ref (qa 9 2)) cx' hP 32 i_X4 rfl rfl (by decide) kw_56 rfl rfl dX9_soup_42 ?_
    refine lv_iload_n hx hb dX9_soup_45 rfl (lv_at hl 1 rfl) ?_
    refine lv_iload_n hx hb dX9_soup_46 rfl (lv_at hl 3 rfl) ?_
    obtain ⟨C_2, eC_2⟩ : ∃ z : Nat → Mem, z = up3 C 9 (up2 (C 9) 2 (Int32.toNatClampNeg x1) x3) := ⟨_, rfl⟩
    have h1 := h.1
    have h := h.2 C_2 eC_2
    refine st_i hx hb hK hP hD hS 34 0 (wC cI cJ qa C_2 L) rfl rfl h1 dX9_soup_47 (by subst eC_2; rfl) (fun H locs hP hD hS => ?_)
    refine lv_aload_n hx hb dX9_soup_48 rfl (lv_at hl 0 rfl) ?_
    refine gf_v (k := 9) (v := .ref (qa 10 0)) cx' hP 0 i_X9 rfl rfl (by decide) kw_273 rfl rfl dX9_soup_49 ?_
    refine lv_aload_n hx hb dX9_soup_52 rfl (lv_at hl 0 rfl) ?_
    refine gf_v (k := 8) (v := .ref (qa 9 0)) cx' hP 0 i_X9 rfl rfl (by decide) kw_272 rfl rfl dX9_soup_53 ?_
    refine lv_aload_n hx hb dX9_soup_56 rfl (lv_at hl 0 rfl) ?_
    refine gf_v (k := 3) (v := .ref (qa 4 0)) cx' hP 0 i_X9 rfl rfl (by decide) kw_267 rfl rfl dX9_soup_57 ?_
    refine lv_iload_n hx hb dX9_soup_60 rfl (lv_at hl 2 rfl) ?_
    refine callP_v (wc := ww_X8_X4_X2 cI cJ (qa 10) (C_2 10) (qa 9) (C_2 9) (qa 4) (C_2 4)) (wr_C_4_9_10 cI cJ qa C_2 L) (fun (u : Mem) => wC cI cJ qa (up3 C_2 10 (u)) L) [37, 38, 32, 33, 34, 35, 36, 10, 11, 12, 13, 14] [0, 1, 2, 3, 4, 5, 6, 7, 8, 9, 15, 16, 17, 18, 19, 20, 21, 22, 23, 24, 25, 26, 27, 28, 29, 30, 31, 39] [0, 1, 2, 3, 4, 5, 6, 7, 8, 9, 35, 36, 37, 38, 39, 10, 11, 12, 13, 14, 15, 16, 17, 18, 19, 20, 21, 22, 23, 24, 25, 26, 30, 31, 32, 33, 34, 28, 29, 27] rfl rfl rfl (by decide) (fun _ => rfl) rfl hP hD hS hA (fun hPc hDc => run_V (As := [.ref (qa 9 0), .ref (qa 4 0), .int x2]) (rest := []) cx' (c_X8_go l H.size (qa 10) (C_2 10) (qa 9) (C_2 9) (qa 4) (C_2 4) x2 _ h) mv_X8_go kw_479 rfl rfl ⟨Nat.le_of_ble_eq_true rfl, Nat.le_of_ble_eq_true rfl⟩ hPc hDc rfl rfl rfl hl.1 rfl (Nat.le_of_ble_eq_true rfl) dX9_soup_61 ⟨Nat.zero_le _, Nat.zero_le _⟩) rfl (fun u9 H locs hP hD hS h => ?_)
    obtain ⟨u_3, rfl⟩ : ∃ z, z = u9 := ⟨_, rfl⟩
    obtain ⟨C_4, eC_4⟩ : ∃ z : Nat → Mem, z = up3 C_2 10 u_3 := ⟨_, rfl⟩
    have h := h C_4 eC_4
    have hP : va_P (dC, dI) vwCl (wC cI cJ qa C_4 L) H := by subst eC_4; exact hP
    have hD : va_D A (wC cI cJ qa C_4 L) := by subst eC_4; exact hD
    refine lv_aload_n hx hb dX9_soup_64 rfl (lv_at hl 0 rfl) ?_
    refine gf_v (k := 9) (v := .ref (qa 10 0)) cx' hP 0 i_X9 rfl rfl (by decide) kw_273 rfl rfl dX9_soup_65 ?_
    refine gf_v (k := 1) (v := .int (C_4 10 0 1)) cx' hP 37 i_X8 rfl rfl (by decide) kw_221 rfl rfl dX9_soup_68 ?_
    refine lv_iload_n hx hb dX9_soup_71 rfl (lv_at hl 1 rfl) ?_
    refine lv_icmp_ne (tgt := 77) hx hb dX9_soup_72 (by decide) (fun c_5 => ?_) (fun c_5 => ?_)
    · have h := h.1 c_5
      obtain ⟨x3_6, ex3_6⟩ : ∃ z : Int32, z = x3 + 1 := ⟨_, rfl⟩
      have h := h x3_6 ex3_6
      refine lv_iinc (v := x3_6) (lv' := [(3, .int x3_6), (0, .ref (qa 0 0)), (1, .int x1), (2, .int x2)]) hx hb dX9_soup_77 hl (k := 3) rfl (by rw [ex3_6]; rfl) (by decide) rfl (fun ls hl => ?_)
      refine lv_goto (tgt := 32) hx hb dX9_soup_80 (by decide) ?_
      exact ih x1 x2 x3_6 C_4 L H locs ls hP hD hS (lv_sub hl [1, 2, 3, 0] rfl) h
    have h := h.2 c_5
    refine lv_iload_n hx hb dX9_soup_75 rfl (lv_at hl 3 rfl) ?_
    exact rt_i (v := x3) (u := (C_4, L)) cx hP hD hS h dX9_soup_76
set_option maxHeartbeats 4000000 in
set_option maxRecDepth 100000 in
theorem w_X9_soup_0 {p : Program} {l : Launch} {e : Env} {s : State} {m : MethodId} {args : Array Value} {below : List Frame} {meth : Method} {c : Code} {dC : Nat → ClassId} {dI : Nat → Nat → Nat} {cI cJ : ClassId} {A : Nat → Prop} (cx : CX RX9 cX9_soup (some .int) 4 p s m args meth c (dC, dI) (TY cI cJ)) (hA : ∀ q, s.heap.size ≤ q → A q) {qa : Nat → Nat → Nat} {post : Int32 → (Nat → Mem) → MemL → Prop} : ∀ (x1 : Int32) (x2 : Int32) (C : (Nat → Mem)) (L : MemL) (H : Heap) (locs : List Loc) (ls : Array Slot), va_P (dC, dI) vwCl (wC cI cJ qa C L) H → va_D A (wC cI cJ qa C L) → va_S A s.heap H locs → lv_has ls 4 [(0, .ref (qa 0 0)), (1, .int x1), (2, .int x2)] → b_X9_soup_0 post x1 x2 C L → W p l e ({ frames := 3, cells := 0, slots := 0, locals := 77 }) s m args below meth c H locs 0 0 (MQ below (va_Qi (S := (Nat → Mem) × MemL) (fun (r : Int32) (u : (Nat → Mem) × MemL) => post r u.1 u.2) (fun u t => AT (dC, dI) (TY cI cJ) A (wC cI cJ qa (u.1) (u.2)) t) A) args s 0 0 A) (F0 m 0 ls []) := by
  obtain ⟨hx, hb, hr, hml, hown, hts, hlocks, hK⟩ := id cx
  have cx' : CX RX9 cX9_soup (meth.sig.returnType) 4 p s m args meth c (dC, dI) (TY cI cJ) := ⟨hx, hb, rfl, hml, hown, hts, hlocks, hK⟩
  intro x1 x2 C L H locs ls hP hD hS hl h
  unfold b_X9_soup_0 at h
  refine lv_aload_n hx hb dX9_soup_0 rfl (lv_at hl 0 rfl) ?_
  refine lv_iload_n hx hb dX9_soup_1 rfl (lv_at hl 1 rfl) ?_
  refine call_i (run_V (As := [.int x1]) (rest := []) cx' (c_X9_isHouse l H.size qa C L x1 _ h) mv_X9_isHouse kw_403 rfl rfl ⟨Nat.le_of_ble_eq_true rfl, Nat.le_of_ble_eq_true rfl⟩ hP hD rfl rfl rfl hl.1 rfl (Nat.le_of_ble_eq_true rfl) dX9_soup_2 ⟨Nat.zero_le _, Nat.zero_le _⟩) hD hS hA (fun r_1 u9 H locs hP hD hS h => ?_)
  have hP : va_P (dC, dI) vwCl (wC cI cJ qa C L) H := hP
  have hD : va_D A (wC cI cJ qa C L) := hD
  refine lv_if_eq (tgt := 16) hx hb dX9_soup_5 (by decide) (fun c_2 => ?_) (fun c_2 => ?_)
  · have h := h.1 c_2
    refine lv_bipush (v := (-2)) hx hb dX9_soup_16 (by decide) ?_
    exact rt_i (v := (-2)) (u := (C, L)) cx hP hD hS h dX9_soup_18
  have h := h.2 c_2
  refine lv_aload_n hx hb dX9_soup_8 rfl (lv_at hl 0 rfl) ?_
  refine lv_iload_n hx hb dX9_soup_9 rfl (lv_at hl 2 rfl) ?_
  refine call_i (run_V (As := [.int x2]) (rest := []) cx' (c_X9_isGuest l H.size qa C L x2 _ h) mv_X9_isGuest kw_411 rfl rfl ⟨Nat.le_of_ble_eq_true rfl, Nat.le_of_ble_eq_true rfl⟩ hP hD rfl rfl rfl hl.1 rfl (Nat.le_of_ble_eq_true rfl) dX9_soup_10 ⟨Nat.zero_le _, Nat.zero_le _⟩) hD hS hA (fun r_3 u9 H locs hP hD hS h => ?_)
  have hP : va_P (dC, dI) vwCl (wC cI cJ qa C L) H := hP
  have hD : va_D A (wC cI cJ qa C L) := hD
  refine lv_if_ne (tgt := 19) hx hb dX9_soup_13 (by decide) (fun c_4 => ?_) (fun c_4 => ?_)
  · have h := h.1 c_4
    refine lv_aload_n hx hb dX9_soup_19 rfl (lv_at hl 0 rfl) ?_
    refine gf_v (k := 8) (v := .ref (qa 9 0)) cx' hP 0 i_X9 rfl rfl (by decide) kw_272 rfl rfl dX9_soup_20 ?_
    refine lv_aload_n hx hb dX9_soup_23 rfl (lv_at hl 0 rfl) ?_
    refine gf_v (k := 2) (v := .ref (qa 3 0)) cx' hP 0 i_X9 rfl rfl (by decide) kw_266 rfl rfl dX9_soup_24 ?_
    refine callP_v (wc := ww_X4_X4 cI cJ (qa 9) (C 9) (qa 3) (C 3)) (wr_C_3_9 cI cJ qa C L) (fun (u : Mem) => wC cI cJ qa (up3 C 9 (u)) L) [32, 33, 34, 35, 36, 5, 6, 7, 8, 9] [0, 1, 2, 3, 4, 10, 11, 12, 13, 14, 15, 16, 17, 18, 19, 20, 21, 22, 23, 24, 25, 26, 27, 28, 29, 30, 31, 37, 38, 39] [0, 1, 2, 3, 4, 35, 36, 37, 38, 39, 5, 6, 7, 8, 9, 10, 11, 12, 13, 14, 15, 16, 17, 18, 19, 20, 21, 22, 23, 24, 25, 26, 30, 31, 32, 33, 34, 27, 28, 29] rfl rfl rfl (by decide) (fun _ => rfl) rfl hP hD hS hA (fun hPc hDc => run_V (As := [.ref (qa 3 0)]) (rest := []) cx' (c_X4_takeFrom l H.size (qa 9) (C 9) (qa 3) (C 3) _ h) mv_X4_takeFrom kw_459 rfl rfl ⟨Nat.le_of_ble_eq_true rfl, Nat.le_of_ble_eq_true rfl⟩ hPc hDc rfl rfl rfl hl.1 rfl (Nat.le_of_ble_eq_true rfl) dX9_soup_27 ⟨Nat.zero_le _, Nat.zero_le _⟩) rfl (fun u9 H locs hP hD hS h => ?_)
    obtain ⟨u_5, rfl⟩ : ∃ z, z = u9 := ⟨_, rfl⟩
    obtain ⟨C_6, eC_6⟩ : ∃ z : Nat → Mem, z = up3 C 9 u_5 := ⟨_, rfl⟩
    have h := h C_6 eC_6
    have hP : va_P (dC, dI) vwCl (wC cI cJ qa C_6 L) H := by subst eC_6; exact hP
    have hD : va_D A (wC cI cJ qa C_6 L) := by subst eC_6; exact hD
    refine lv_iconst (v := 1) hx hb dX9_soup_30 (by decide) ?_
    refine lv_istore_n (lv' := [(3, .int 1), (0, .ref (qa 0 0)), (1, .int x1), (2, .int x2)]) hx hb dX9_soup_31 rfl hl (by decide) rfl (fun ls hl => ?_)
    obtain ⟨n_7, h⟩ := h
    exact w_X9_soup_32 cx hA n_7 x1 x2 1 C_6 L H locs ls hP hD hS (lv_sub hl [1, 2, 3, 0] rfl) h
  have h := h.2 c_4
  refine lv_bipush (v := (-2)) hx hb dX9_soup_16 (by decide) ?_
  exact rt_i (v := (-2)) (u := (C, L)) cx hP hD hS h dX9_soup_18
set_option maxRecDepth 100000 in
theorem c_X9_soup (l : Launch) {dC : Nat → ClassId} {dI : Nat → Nat → Nat} {cI cJ : ClassId} (sz : Nat) (qa : Nat → Nat → Nat) (C : Nat → Mem) (L : MemL) (x1 : Int32) (x2 : Int32) (post : Int32 → (Nat → Mem) → MemL → Prop) (h : wp_X9_soup C L x1 x2 post) : Met l yX9_soup (Cond.code yX9_soup cX9_soup 4 (some .int) :: gt) ({ frames := 3, cells := 0, slots := 0, locals := 77 }) (va_Pc [.ref (qa 0 0), .int x1, .int x2] (PRE (dC, dI) (TY cI cJ) (wC cI cJ qa C L) sz)) (va_Qi (S := (Nat → Mem) × MemL) (fun (r : Int32) (u : (Nat → Mem) × MemL) => post r u.1 u.2) (fun u t => AT (dC, dI) (TY cI cJ) (va_A (wC cI cJ qa C L) sz) (wC cI cJ qa (u.1) (u.2)) t) (va_A (wC cI cJ qa C L) sz)) 0 0 (va_A (wC cI cJ qa C L) sz) :=
  met_of (own := RX9) (Qf := fun A => va_Qi (S := (Nat → Mem) × MemL) (fun (r : Int32) (u : (Nat → Mem) × MemL) => post r u.1 u.2) (fun u t => AT (dC, dI) (TY cI cJ) A (wC cI cJ qa (u.1) (u.2)) t) A) (by decide) rfl (Nat.le_of_ble_eq_true rfl) rfl (fun p e s m below meth c A cx hA ls hP hD hS hl => w_X9_soup_0 cx hA x1 x2 C L _ _ ls hP hD hS hl h)
theorem mv_X9_soup : MV yX9_soup cX9_soup 4 (some .int) 2 := ⟨⟨kw_512, kw_1, by decide +kernel⟩, kw_510, kw_511⟩
set_option maxHeartbeats 4000000 in
set_option maxRecDepth 100000 in
theorem w_X9_seen_0 {p : Program} {l : Launch} {e : Env} {s : State} {m : MethodId} {args : Array Value} {below : List Frame} {meth : Method} {c : Code} {dC : Nat → ClassId} {dI : Nat → Nat → Nat} {cI cJ : ClassId} {A : Nat → Prop} (cx : CX RX9 cX9_seen (some .int) 3 p s m args meth c (dC, dI) (TY cI cJ)) (hA : ∀ q, s.heap.size ≤ q → A q) {qa : Nat → Nat → Nat} {post : Int32 → (Nat → Mem) → MemL → Prop} : ∀ (x1 : Int32) (x2 : Int32) (C : (Nat → Mem)) (L : MemL) (H : Heap) (locs : List Loc) (ls : Array Slot), va_P (dC, dI) vwCl (wC cI cJ qa C L) H → va_D A (wC cI cJ qa C L) → va_S A s.heap H locs → lv_has ls 3 [(0, .ref (qa 0 0)), (1, .int x1), (2, .int x2)] → b_X9_seen_0 post x1 x2 C L → W p l e ({ frames := 1, cells := 0, slots := 0, locals := 22 }) s m args below meth c H locs 0 0 (MQ below (va_Qi (S := (Nat → Mem) × MemL) (fun (r : Int32) (u : (Nat → Mem) × MemL) => post r u.1 u.2) (fun u t => AT (dC, dI) (TY cI cJ) A (wC cI cJ qa (u.1) (u.2)) t) A) args s 0 0 A) (F0 m 0 ls []) := by
  obtain ⟨hx, hb, hr, hml, hown, hts, hlocks, hK⟩ := id cx
  have cx' : CX RX9 cX9_seen (meth.sig.returnType) 3 p s m args meth c (dC, dI) (TY cI cJ) := ⟨hx, hb, rfl, hml, hown, hts, hlocks, hK⟩
  intro x1 x2 C L H locs ls hP hD hS hl h
  unfold b_X9_seen_0 at h
  refine lv_aload_n hx hb dX9_seen_0 rfl (lv_at hl 0 rfl) ?_
  refine gf_v (k := 5) (v := .ref (qa 6 0)) cx' hP 0 i_X9 rfl rfl (by decide) kw_269 rfl rfl dX9_seen_1 ?_
  refine lv_iload_n hx hb dX9_seen_4 rfl (lv_at hl 1 rfl) ?_
  refine lv_iload_n hx hb dX9_seen_5 rfl (lv_at hl 2 rfl) ?_
  refine callP_i (wc := ww_X6 cI cJ (qa 6) (C 6)) (wr_C_6 cI cJ qa C L) (fun (_u : Unit) => wC cI cJ qa C L) [23, 24, 25] [0, 1, 2, 3, 4, 5, 6, 7, 8, 9, 10, 11, 12, 13, 14, 15, 16, 17, 18, 19, 20, 21, 22, 26, 27, 28, 29, 30, 31, 32, 33, 34, 35, 36, 37, 38, 39] [0, 1, 2, 3, 4, 5, 6, 7, 8, 9, 10, 11, 12, 13, 14, 15, 16, 17, 18, 19, 20, 21, 22, 37, 38, 39, 23, 24, 25, 26, 27, 28, 29, 30, 31, 32, 33, 34, 35, 36] rfl rfl rfl (by decide) (fun _ => rfl) rfl hP hD hS hA (fun hPc hDc => run_V (As := [.int x1, .int x2]) (rest := []) cx' (c_X6_allows l H.size (qa 6) (C 6) x1 x2 _ h) mv_X6_allows kw_517 rfl rfl ⟨Nat.le_of_ble_eq_true rfl, Nat.le_of_ble_eq_true rfl⟩ hPc hDc rfl rfl rfl hl.1 rfl (Nat.le_of_ble_eq_true rfl) dX9_seen_6 ⟨Nat.zero_le _, Nat.zero_le _⟩) rfl (fun r_1 u9 H locs hP hD hS h => ?_)
  have hP : va_P (dC, dI) vwCl (wC cI cJ qa C L) H := hP
  have hD : va_D A (wC cI cJ qa C L) := hD
  refine lv_if_ne (tgt := 15) hx hb dX9_seen_9 (by decide) (fun c_2 => ?_) (fun c_2 => ?_)
  · have h := h.1 c_2
    refine lv_aload_n hx hb dX9_seen_15 rfl (lv_at hl 0 rfl) ?_
    refine gf_v (k := 5) (v := .ref (qa 6 0)) cx' hP 0 i_X9 rfl rfl (by decide) kw_269 rfl rfl dX9_seen_16 ?_
    refine gf_v (k := 2) (v := .int (C 6 0 2)) cx' hP 23 i_X6 rfl rfl (by decide) kw_165 rfl rfl dX9_seen_19 ?_
    refine lv_bipush (v := 8) hx hb dX9_seen_22 (by decide) ?_
    refine lv_icmp_lt (tgt := 30) hx hb dX9_seen_24 (by decide) (fun c_3 => ?_) (fun c_3 => ?_)
    · have h := h.1 c_3
      refine lv_aload_n hx hb dX9_seen_30 rfl (lv_at hl 0 rfl) ?_
      refine gf_v (k := 5) (v := .ref (qa 6 0)) cx' hP 0 i_X9 rfl rfl (by decide) kw_269 rfl rfl dX9_seen_31 ?_
      refine lv_iload_n hx hb dX9_seen_34 rfl (lv_at hl 1 rfl) ?_
      refine lv_iload_n hx hb dX9_seen_35 rfl (lv_at hl 2 rfl) ?_
      refine callP_v (wc := ww_X6 cI cJ (qa 6) (C 6)) (wr_C_6 cI cJ qa C L) (fun (u : Mem) => wC cI cJ qa (up3 C 6 (u)) L) [23, 24, 25] [0, 1, 2, 3, 4, 5, 6, 7, 8, 9, 10, 11, 12, 13, 14, 15, 16, 17, 18, 19, 20, 21, 22, 26, 27, 28, 29, 30, 31, 32, 33, 34, 35, 36, 37, 38, 39] [0, 1, 2, 3, 4, 5, 6, 7, 8, 9, 10, 11, 12, 13, 14, 15, 16, 17, 18, 19, 20, 21, 22, 37, 38, 39, 23, 24, 25, 26, 27, 28, 29, 30, 31, 32, 33, 34, 35, 36] rfl rfl rfl (by decide) (fun _ => rfl) rfl hP hD hS hA (fun hPc hDc => run_V (As := [.int x1, .int x2]) (rest := []) cx' (c_X6_add l H.size (qa 6) (C 6) x1 x2 _ h) mv_X6_add kw_521 rfl rfl ⟨Nat.le_of_ble_eq_true rfl, Nat.le_of_ble_eq_true rfl⟩ hPc hDc rfl rfl rfl hl.1 rfl (Nat.le_of_ble_eq_true rfl) dX9_seen_36 ⟨Nat.zero_le _, Nat.zero_le _⟩) rfl (fun u9 H locs hP hD hS h => ?_)
      obtain ⟨u_4, rfl⟩ : ∃ z, z = u9 := ⟨_, rfl⟩
      obtain ⟨C_5, eC_5⟩ : ∃ z : Nat → Mem, z = up3 C 6 u_4 := ⟨_, rfl⟩
      have h := h C_5 eC_5
      have hP : va_P (dC, dI) vwCl (wC cI cJ qa C_5 L) H := by subst eC_5; exact hP
      have hD : va_D A (wC cI cJ qa C_5 L) := by subst eC_5; exact hD
      refine lv_aload_n hx hb dX9_seen_39 rfl (lv_at hl 0 rfl) ?_
      refine gf_v (k := 5) (v := .ref (qa 6 0)) cx' hP 0 i_X9 rfl rfl (by decide) kw_269 rfl rfl dX9_seen_40 ?_
      refine gf_v (k := 2) (v := .int (C_5 6 0 2)) cx' hP 23 i_X6 rfl rfl (by decide) kw_165 rfl rfl dX9_seen_43 ?_
      exact rt_i (v := C_5 6 0 2) (u := (C_5, L)) cx hP hD hS h dX9_seen_46
    have h := h.2 c_3
    refine lv_bipush (v := (-4)) hx hb dX9_seen_27 (by decide) ?_
    exact rt_i (v := (-4)) (u := (C, L)) cx hP hD hS h dX9_seen_29
  have h := h.2 c_2
  refine lv_bipush (v := (-2)) hx hb dX9_seen_12 (by decide) ?_
  exact rt_i (v := (-2)) (u := (C, L)) cx hP hD hS h dX9_seen_14
set_option maxRecDepth 100000 in
theorem c_X9_seen (l : Launch) {dC : Nat → ClassId} {dI : Nat → Nat → Nat} {cI cJ : ClassId} (sz : Nat) (qa : Nat → Nat → Nat) (C : Nat → Mem) (L : MemL) (x1 : Int32) (x2 : Int32) (post : Int32 → (Nat → Mem) → MemL → Prop) (h : wp_X9_seen C L x1 x2 post) : Met l yX9_seen (Cond.code yX9_seen cX9_seen 3 (some .int) :: gt) ({ frames := 1, cells := 0, slots := 0, locals := 22 }) (va_Pc [.ref (qa 0 0), .int x1, .int x2] (PRE (dC, dI) (TY cI cJ) (wC cI cJ qa C L) sz)) (va_Qi (S := (Nat → Mem) × MemL) (fun (r : Int32) (u : (Nat → Mem) × MemL) => post r u.1 u.2) (fun u t => AT (dC, dI) (TY cI cJ) (va_A (wC cI cJ qa C L) sz) (wC cI cJ qa (u.1) (u.2)) t) (va_A (wC cI cJ qa C L) sz)) 0 0 (va_A (wC cI cJ qa C L) sz) :=
  met_of (own := RX9) (Qf := fun A => va_Qi (S := (Nat → Mem) × MemL) (fun (r : Int32) (u : (Nat → Mem) × MemL) => post r u.1 u.2) (fun u t => AT (dC, dI) (TY cI cJ) A (wC cI cJ qa (u.1) (u.2)) t) A) (by decide) rfl (Nat.le_of_ble_eq_true rfl) rfl (fun p e s m below meth c A cx hA ls hP hD hS hl => w_X9_seen_0 cx hA x1 x2 C L _ _ ls hP hD hS hl h)
theorem mv_X9_seen : MV yX9_seen cX9_seen 3 (some .int) 2 := ⟨⟨kw_516, kw_1, by decide +kernel⟩, kw_514, kw_515⟩
set_option maxHeartbeats 4000000 in
set_option maxRecDepth 100000 in
theorem w_X9_forget_0 {p : Program} {l : Launch} {e : Env} {s : State} {m : MethodId} {args : Array Value} {below : List Frame} {meth : Method} {c : Code} {dC : Nat → ClassId} {dI : Nat → Nat → Nat} {cI cJ : ClassId} {A : Nat → Prop} (cx : CX RX9 cX9_forget (some .int) 2 p s m args meth c (dC, dI) (TY cI cJ)) (hA : ∀ q, s.heap.size ≤ q → A q) {qa : Nat → Nat → Nat} {post : Int32 → (Nat → Mem) → MemL → Prop} : ∀ (C : (Nat → Mem)) (L : MemL) (H : Heap) (locs : List Loc) (ls : Array Slot), va_P (dC, dI) vwCl (wC cI cJ qa C L) H → va_D A (wC cI cJ qa C L) → va_S A s.heap H locs → lv_has ls 2 [(0, .ref (qa 0 0))] → b_X9_forget_0 post C L → W p l e ({ frames := 0, cells := 0, slots := 0, locals := 0 }) s m args below meth c H locs 0 0 (MQ below (va_Qi (S := (Nat → Mem) × MemL) (fun (r : Int32) (u : (Nat → Mem) × MemL) => post r u.1 u.2) (fun u t => AT (dC, dI) (TY cI cJ) A (wC cI cJ qa (u.1) (u.2)) t) A) args s 0 0 A) (F0 m 0 ls []) := by
  obtain ⟨hx, hb, hr, hml, hown, hts, hlocks, hK⟩ := id cx
  have cx' : CX RX9 cX9_forget (meth.sig.returnType) 2 p s m args meth c (dC, dI) (TY cI cJ) := ⟨hx, hb, rfl, hml, hown, hts, hlocks, hK⟩
  intro C L H locs ls hP hD hS hl h
  unfold b_X9_forget_0 at h
  refine lv_aload_n hx hb dX9_forget_0 rfl (lv_at hl 0 rfl) ?_
  refine gf_v (k := 5) (v := .ref (qa 6 0)) cx' hP 0 i_X9 rfl rfl (by decide) kw_269 rfl rfl dX9_forget_1 ?_
  refine gf_v (k := 2) (v := .int (C 6 0 2)) cx' hP 23 i_X6 rfl rfl (by decide) kw_165 rfl rfl dX9_forget_4 ?_
  refine lv_topi (fun x1_1 ex1_1 => ?_)
  have h := h x1_1 ex1_1
  refine lv_istore_n (lv' := [(1, .int x1_1), (0, .ref (qa 0 0))]) hx hb dX9_forget_7 rfl hl (by decide) rfl (fun ls hl => ?_)
  refine lv_aload_n hx hb dX9_forget_8 rfl (lv_at hl 1 rfl) ?_
  refine gf_v (k := 5) (v := .ref (qa 6 0)) cx' hP 0 i_X9 rfl rfl (by decide) kw_269 rfl rfl dX9_forget_9 ?_
  refine lv_iconst (v := 0) hx hb dX9_forget_12 (by decide) ?_
  obtain ⟨C_2, eC_2⟩ : ∃ z : Nat → Mem, z = up3 C 6 (up2 (C 6) 0 2 0) := ⟨_, rfl⟩
  have h := h C_2 eC_2
  refine pf_v (k := 2) (tf := .int) cx' hP hD hS 23 (wC cI cJ qa C_2 L) i_X6 tyX6 tyX6_ok nmX6 rfl rfl (by decide) kw_165 rfl rfl rfl rfl rfl (Nat.le_of_ble_eq_true rfl) dX9_forget_13 (by subst eC_2; rfl) (fun H locs hP hD hS => ?_)
  refine lv_iload_n hx hb dX9_forget_16 rfl (lv_at hl 0 rfl) ?_
  exact rt_i (v := x1_1) (u := (C_2, L)) cx hP hD hS h dX9_forget_17
set_option maxRecDepth 100000 in
theorem c_X9_forget (l : Launch) {dC : Nat → ClassId} {dI : Nat → Nat → Nat} {cI cJ : ClassId} (sz : Nat) (qa : Nat → Nat → Nat) (C : Nat → Mem) (L : MemL) (post : Int32 → (Nat → Mem) → MemL → Prop) (h : wp_X9_forget C L post) : Met l yX9_forget (Cond.code yX9_forget cX9_forget 2 (some .int) :: gt) ({ frames := 0, cells := 0, slots := 0, locals := 0 }) (va_Pc [.ref (qa 0 0)] (PRE (dC, dI) (TY cI cJ) (wC cI cJ qa C L) sz)) (va_Qi (S := (Nat → Mem) × MemL) (fun (r : Int32) (u : (Nat → Mem) × MemL) => post r u.1 u.2) (fun u t => AT (dC, dI) (TY cI cJ) (va_A (wC cI cJ qa C L) sz) (wC cI cJ qa (u.1) (u.2)) t) (va_A (wC cI cJ qa C L) sz)) 0 0 (va_A (wC cI cJ qa C L) sz) :=
  met_of (own := RX9) (Qf := fun A => va_Qi (S := (Nat → Mem) × MemL) (fun (r : Int32) (u : (Nat → Mem) × MemL) => post r u.1 u.2) (fun u t => AT (dC, dI) (TY cI cJ) A (wC cI cJ qa (u.1) (u.2)) t) A) (by decide) rfl (Nat.le_of_ble_eq_true rfl) rfl (fun p e s m below meth c A cx hA ls hP hD hS hl => w_X9_forget_0 cx hA C L _ _ ls hP hD hS hl h)
theorem mv_X9_forget : MV yX9_forget cX9_forget 2 (some .int) 0 := ⟨⟨kw_528, kw_1, by decide +kernel⟩, kw_526, kw_527⟩
set_option maxHeartbeats 4000000 in
set_option maxRecDepth 100000 in
theorem w_X9_found_0 {p : Program} {l : Launch} {e : Env} {s : State} {m : MethodId} {args : Array Value} {below : List Frame} {meth : Method} {c : Code} {dC : Nat → ClassId} {dI : Nat → Nat → Nat} {cI cJ : ClassId} {A : Nat → Prop} (cx : CX RX9 cX9_found (some .int) 2 p s m args meth c (dC, dI) (TY cI cJ)) (hA : ∀ q, s.heap.size ≤ q → A q) {qa : Nat → Nat → Nat} {post : Int32 → (Nat → Mem) → MemL → Prop} : ∀ (x1 : Int32) (C : (Nat → Mem)) (L : MemL) (H : Heap) (locs : List Loc) (ls : Array Slot), va_P (dC, dI) vwCl (wC cI cJ qa C L) H → va_D A (wC cI cJ qa C L) → va_S A s.heap H locs → lv_has ls 2 [(0, .ref (qa 0 0)), (1, .int x1)] → b_X9_found_0 post x1 C L → W p l e ({ frames := 0, cells := 0, slots := 0, locals := 0 }) s m args below meth c H locs 0 0 (MQ below (va_Qi (S := (Nat → Mem) × MemL) (fun (r : Int32) (u : (Nat → Mem) × MemL) => post r u.1 u.2) (fun u t => AT (dC, dI) (TY cI cJ) A (wC cI cJ qa (u.1) (u.2)) t) A) args s 0 0 A) (F0 m 0 ls []) := by
  obtain ⟨hx, hb, hr, hml, hown, hts, hlocks, hK⟩ := id cx
  have cx' : CX RX9 cX9_found (meth.sig.returnType) 2 p s m args meth c (dC, dI) (TY cI cJ) := ⟨hx, hb, rfl, hml, hown, hts, hlocks, hK⟩
  intro x1 C L H locs ls hP hD hS hl h
  unfold b_X9_found_0 at h
  refine lv_aload_n hx hb dX9_found_0 rfl (lv_at hl 0 rfl) ?_
  refine lv_iload_n hx hb dX9_found_1 rfl (lv_at hl 1 rfl) ?_
  obtain ⟨C_1, eC_1⟩ : ∃ z : Nat → Mem, z = up3 C 0 (up2 (C 0) 0 11 x1) := ⟨_, rfl⟩
  have h := h C_1 eC_1
  refine pf_v (k := 11) (tf := .int) cx' hP hD hS 0 (wC cI cJ qa C_1 L) i_X9 tyX9 tyX9_ok nmX9 rfl rfl (by decide) kw_275 rfl rfl rfl rfl rfl (Nat.le_of_ble_eq_true rfl) dX9_found_2 (by subst eC_1; rfl) (fun H locs hP hD hS => ?_)
  refine lv_bipush (v := (-10)) hx hb dX9_found_5 (by decide) ?_
  refine lv_iload_n hx hb dX9_found_7 rfl (lv_at hl 1 rfl) ?_
  refine lv_isub hx hb dX9_found_8 ?_
  exact rt_i (v := (-10) - x1) (u := (C_1, L)) cx hP hD hS h dX9_found_9
set_option maxRecDepth 100000 in
theorem c_X9_found (l : Launch) {dC : Nat → ClassId} {dI : Nat → Nat → Nat} {cI cJ : ClassId} (sz : Nat) (qa : Nat → Nat → Nat) (C : Nat → Mem) (L : MemL) (x1 : Int32) (post : Int32 → (Nat → Mem) → MemL → Prop) (h : wp_X9_found C L x1 post) : Met l yX9_found (Cond.code yX9_found cX9_found 2 (some .int) :: gt) ({ frames := 0, cells := 0, slots := 0, locals := 0 }) (va_Pc [.ref (qa 0 0), .int x1] (PRE (dC, dI) (TY cI cJ) (wC cI cJ qa C L) sz)) (va_Qi (S := (Nat → Mem) × MemL) (fun (r : Int32) (u : (Nat → Mem) × MemL) => post r u.1 u.2) (fun u t => AT (dC, dI) (TY cI cJ) (va_A (wC cI cJ qa C L) sz) (wC cI cJ qa (u.1) (u.2)) t) (va_A (wC cI cJ qa C L) sz)) 0 0 (va_A (wC cI cJ qa C L) sz) :=
  met_of (own := RX9) (Qf := fun A => va_Qi (S := (Nat → Mem) × MemL) (fun (r : Int32) (u : (Nat → Mem) × MemL) => post r u.1 u.2) (fun u t => AT (dC, dI) (TY cI cJ) A (wC cI cJ qa (u.1) (u.2)) t) A) (by decide) rfl (Nat.le_of_ble_eq_true rfl) rfl (fun p e s m below meth c A cx hA ls hP hD hS hl => w_X9_found_0 cx hA x1 C L _ _ ls hP hD hS hl h)
theorem mv_X9_found : MV yX9_found cX9_found 2 (some .int) 1 := ⟨⟨kw_543, kw_1, by decide +kernel⟩, kw_542, ksel_8⟩
set_option maxHeartbeats 4000000 in
set_option maxRecDepth 100000 in
theorem w_X9_isSheet_0 {p : Program} {l : Launch} {e : Env} {s : State} {m : MethodId} {args : Array Value} {below : List Frame} {meth : Method} {c : Code} {dC : Nat → ClassId} {dI : Nat → Nat → Nat} {cI cJ : ClassId} {A : Nat → Prop} (cx : CX RX9 cX9_isSheet (some .boolean) 1 p s m args meth c (dC, dI) (TY cI cJ)) (hA : ∀ q, s.heap.size ≤ q → A q) {post : Int32 → Prop} : ∀ (x0 : Int32) (H : Heap) (locs : List Loc) (ls : Array Slot), va_P (dC, dI) vwCl ([]) H → va_D A ([]) → va_S A s.heap H locs → lv_has ls 1 [(0, .int x0)] → b_X9_isSheet_0 post x0 → W p l e ({ frames := 0, cells := 0, slots := 0, locals := 0 }) s m args below meth c H locs 0 0 (MQ below (va_Qi (S := Unit) (fun (r : Int32) (_u : Unit) => post r) (fun _u t => AT (dC, dI) (TY cI cJ) A ([]) t) A) args s 0 0 A) (F0 m 0 ls []) := by
  obtain ⟨hx, hb, hr, hml, hown, hts, hlocks, hK⟩ := id cx
  have cx' : CX RX9 cX9_isSheet (meth.sig.returnType) 1 p s m args meth c (dC, dI) (TY cI cJ) := ⟨hx, hb, rfl, hml, hown, hts, hlocks, hK⟩
  intro x0 H locs ls hP hD hS hl h
  unfold b_X9_isSheet_0 at h
  refine lv_iload_n hx hb dX9_isSheet_0 rfl (lv_at hl 0 rfl) ?_
  refine lv_if_lt (tgt := 13) hx hb dX9_isSheet_1 (by decide) (fun c_1 => ?_) (fun c_1 => ?_)
  · have h := h.1 c_1
    refine lv_iconst (v := 0) hx hb dX9_isSheet_13 (by decide) ?_
    exact rt_z (v := 0) (u := ()) cx (Or.inl rfl) hP hD hS h dX9_isSheet_14
  have h := h.2 c_1
  refine lv_iload_n hx hb dX9_isSheet_4 rfl (lv_at hl 0 rfl) ?_
  refine lv_iconst (v := 4) hx hb dX9_isSheet_5 (by decide) ?_
  refine lv_icmp_ge (tgt := 13) hx hb dX9_isSheet_6 (by decide) (fun c_2 => ?_) (fun c_2 => ?_)
  · have h := h.1 c_2
    refine lv_iconst (v := 0) hx hb dX9_isSheet_13 (by decide) ?_
    exact rt_z (v := 0) (u := ()) cx (Or.inl rfl) hP hD hS h dX9_isSheet_14
  have h := h.2 c_2
  refine lv_iconst (v := 1) hx hb dX9_isSheet_9 (by decide) ?_
  refine lv_goto (tgt := 14) hx hb dX9_isSheet_10 (by decide) ?_
  exact rt_z (v := 1) (u := ()) cx (Or.inr rfl) hP hD hS h dX9_isSheet_14
set_option maxRecDepth 100000 in
theorem c_X9_isSheet (l : Launch) {dC : Nat → ClassId} {dI : Nat → Nat → Nat} {cI cJ : ClassId} (sz : Nat) (x0 : Int32) (post : Int32 → Prop) (h : wp_X9_isSheet x0 post) : Met l yX9_isSheet (Cond.code yX9_isSheet cX9_isSheet 1 (some .boolean) :: gt) ({ frames := 0, cells := 0, slots := 0, locals := 0 }) (va_Pc [.int x0] (PRE (dC, dI) (TY cI cJ) ([]) sz)) (va_Qi (S := Unit) (fun (r : Int32) (_u : Unit) => post r) (fun _u t => AT (dC, dI) (TY cI cJ) (va_A ([]) sz) ([]) t) (va_A ([]) sz)) 0 0 (va_A ([]) sz) :=
  met_of (own := RX9) (Qf := fun A => va_Qi (S := Unit) (fun (r : Int32) (_u : Unit) => post r) (fun _u t => AT (dC, dI) (TY cI cJ) A ([]) t) A) (by decide) rfl (Nat.le_of_ble_eq_true rfl) rfl (fun p e s m below meth c A cx hA ls hP hD hS hl => w_X9_isSheet_0 cx hA x0 _ _ ls hP hD hS hl h)
theorem ms_X9_isSheet : MS yX9_isSheet cX9_isSheet 1 (some .boolean) 1 := ⟨⟨kw_535, kw_1, by decide +kernel⟩, kw_534⟩
set_option maxHeartbeats 4000000 in
set_option maxRecDepth 100000 in
theorem w_X9_read_31 {p : Program} {l : Launch} {e : Env} {s : State} {m : MethodId} {args : Array Value} {below : List Frame} {meth : Method} {c : Code} {dC : Nat → ClassId} {dI : Nat → Nat → Nat} {cI cJ : ClassId} {A : Nat → Prop} (cx : CX RX9 cX9_read (some .int) 6 p s m args meth c (dC, dI) (TY cI cJ)) (hA : ∀ q, s.heap.size ≤ q → A q) {qa : Nat → Nat → Nat} {post : Int32 → (Nat → Mem) → MemL → Prop} : ∀ (n : Nat) (x1 : Int32) (x2 : Int32) (x3 : Int32) (C : (Nat → Mem)) (L : MemL) (H : Heap) (locs : List Loc) (ls : Array Slot), va_P (dC, dI) vwCl (wC cI cJ qa C L) H → va_D A (wC cI cJ qa C L) → va_S A s.heap H locs → lv_has ls 6 [(0, .ref (qa 0 0)), (1, .int x1), (2, .int x2), (3, .int x3)] → b_X9_read_31 post n x1 x2 x3 C L → W p l e ({ frames := 1, cells := 0, slots := 0, locals := 22 }) s m args below meth c H locs 0 0 (MQ below (va_Qi (S := (Nat → Mem) × MemL) (fun (r : Int32) (u : (Nat → Mem) × MemL) => post r u.1 u.2) (fun u t => AT (dC, dI) (TY cI cJ) A (wC cI cJ qa (u.1) (u.2)) t) A) args s 0 0 A) (F0 m 31 ls []) := by
  obtain ⟨hx, hb, hr, hml, hown, hts, hlocks, hK⟩ := id cx
  have cx' : CX RX9 cX9_read (meth.sig.returnType) 6 p s m args meth c (dC, dI) (TY cI cJ) := ⟨hx, hb, rfl, hml, hown, hts, hlocks, hK⟩
  intro n
  induction n with
  | zero =>
    intro x1 x2 x3 C L H locs ls hP hD hS hl h
    exact False.elim h
  | succ n ih =>
    intro x1 x2 x3 C L H locs ls hP hD hS hl h
    unfold b_X9_read_31 at h
    refine lv_iload_n hx hb dX9_read_31 rfl (lv_at hl 3 rfl) ?_
    refine lv_iconst (v := 1) hx hb dX9_read_32 (by decide) ?_
    refine lv_iadd hx hb dX9_read_33 ?_
    refine lv_aload_n hx hb dX9_read_34 rfl (lv_at hl 0 rfl) ?_
    refine gf_v (k := 6) (v := .ref (qa 7 0)) cx' hP 0 i_X9 rfl rfl (by decide) kw_270 rfl rfl dX9_read_35 ?_
    refine gf_v (k := 2) (v := .ref (qa 7 3)) cx' hP 26 i_X5 rfl rfl (by decide) kw_183 rfl rfl dX9_read_38 ?_
    refine lv_iload_n hx hb dX9_read_41 rfl (lv_at hl 1 rfl) ?_
    refine va_iald hx hb hK hP 29 0 rfl rfl h.1 dX9_read_42 ?_
    have h := h.2
    refine lv_icmp_ge (tgt := 119) hx hb dX9_read_43 (by decide) (fun c_1 => ?_) (fun c_1 => ?_)
    · have h := h.1 c_1
      refine lv_iload_n hx hb dX9_read_119 rfl (lv_at hl 2 rfl) ?_
      exact rt_i (v := x2) (u := (C, L)) cx hP hD hS h dX9_read_120
    have h := h.2 c_1
    refine lv_aload_n hx hb dX9_read_46 rfl (lv_at hl 0 rfl) ?_
    refine gf_v (k := 6) (v := .ref (qa 7 0)) cx' hP 0 i_X9 rfl rfl (by decide) kw_270 rfl rfl dX9_read_47 ?_
    refine lv_iload_n hx hb dX9_read_50 rfl (lv_at hl 1 rfl) ?_
    refine lv_iload_n hx hb dX9_read_51 rfl (lv_at hl 3 rfl) ?_
    refine callP_i (wc := ww_X5 cI cJ (qa 7) (C 7)) (wr_C_7 cI cJ qa C L) (fun (_u : Unit) => wC cI cJ qa C L) [26, 27, 28, 29] [0, 1, 2, 3, 4, 5, 6, 7, 8, 9, 10, 11, 12, 13, 14, 15, 16, 17, 18, 19, 20, 21, 22, 23, 24, 25, 30, 31, 32, 33, 34, 35, 36, 37, 38, 39] [0, 1, 2, 3, 4, 5, 6, 7, 8, 9, 10, 11, 12, 13, 14, 15, 16, 17, 18, 19, 20, 21, 22, 23, 24, 25, 36, 37, 38, 39, 26, 27, 28, 29, 30, 31, 32, 33, 34, 35] rfl rfl rfl (by decide) (fun _ => rfl) rfl hP hD hS hA (fun hPc hDc => run_V (As := [.int x1, .int x3]) (rest := []) cx' (c_X5_item l H.size (qa 7) (C 7) x1 x3 _ h) mv_X5_item kw_544 rfl rfl ⟨Nat.le_of_ble_eq_true rfl, Nat.le_of_ble_eq_true rfl⟩ hPc hDc rfl rfl rfl hl.1 rfl (Nat.le_of_ble_eq_true rfl) dX9_read_52 ⟨Nat.zero_le _, Nat.zero_le _⟩) rfl (fun r_2 u9 H locs hP hD hS h => ?_)
    have hP : va_P (dC, dI) vwCl (wC cI cJ qa C L) H := hP
    have hD : va_D A (wC cI cJ qa C L) := hD
    refine lv_istore (lv' := [(4, .int r_2), (0, .ref (qa 0 0)), (1, .int x1), (2, .int x2), (3, .int x3)]) hx hb dX9_read_55 hl (by decide) rfl (fun ls hl => ?_)
    refine lv_aload_n hx hb dX9_read_57 rfl (lv_at hl 1 rfl) ?_
    refine gf_v (k := 6) (v := .ref (qa 7 0)) cx' hP 0 i_X9 rfl rfl (by decide) kw_270 rfl rfl dX9_read_58 ?_
    refine lv_iload_n hx hb dX9_read_61 rfl (lv_at hl 2 rfl) ?_
    refine lv_iload_n hx hb dX9_read_62 rfl (lv_at hl 4 rfl) ?_
    refine lv_iconst (v := 1) hx hb dX9_read_63 (by decide) ?_
    refine lv_iadd hx hb dX9_read_64 ?_
    refine callP_i (wc := ww_X5 cI cJ (qa 7) (C 7)) (wr_C_7 cI cJ qa C L) (fun (_u : Unit) => wC cI cJ qa C L) [26, 27, 28, 29] [0, 1, 2, 3, 4, 5, 6, 7, 8, 9, 10, 11, 12, 13, 14, 15, 16, 17, 18, 19, 20, 21, 22, 23, 24, 25, 30, 31, 32, 33, 34, 35, 36, 37, 38, 39] [0, 1, 2, 3, 4, 5, 6, 7, 8, 9, 10, 11, 12, 13, 14, 15, 16, 17, 18, 19, 20, 21, 22, 23, 24, 25, 36, 37, 38, 39, 26, 27, 28, 29, 30, 31, 32, 33, 34, 35] rfl rfl rfl (by decide) (fun _ => rfl) rfl hP hD hS hA (fun hPc hDc => run_V (As := [.int x1, .int (x3 + 1)]) (rest := []) cx' (c_X5_item l H.size (qa 7) (C 7) x1 (x3 + 1) _ h) mv_X5_item kw_544 rfl rfl ⟨Nat.le_of_ble_eq_true rfl, Nat.le_of_ble_eq_true rfl⟩ hPc hDc rfl rfl rfl hl.1 rfl (Nat.le_of_ble_eq_true rfl) dX9_read_65 ⟨Nat.zero_le _, Nat.zero_le _⟩) rfl (fun r_3 u9 H locs hP hD hS h => ?_)
    have hP : va_P (dC, dI) vwCl (wC cI cJ qa C L) H := hP
    have hD : va_D A (wC cI cJ qa C L) := hD
    refine lv_istore (lv' := [(5, .int r_3), (4, .int r_2), (0, .ref (qa 0 0)), (1, .int x1), (2, .int x2), (3, .int x3)]) hx hb dX9_read_68 hl (by decide) rfl (fun ls hl => ?_)
    refine lv_aload_n hx hb dX9_read_70 rfl (lv_at hl 2 rfl) ?_
    refine gf_v (k := 5) (v := .ref (qa 6 0)) cx' hP 0 i_X9 rfl rfl (by decide) kw_269 rfl rfl dX9_read_71 ?_
    refine lv_iload hx hb dX9_read_74 (lv_at hl 1 rfl) ?_
    refine lv_iload hx hb dX9_read_76 (lv_at hl 0 rfl) ?_
    refine callP_i (wc := ww_X6 cI cJ (qa 6) (C 6)) (wr_C_6 cI cJ qa C L) (fun (_u : Unit) => wC cI cJ qa C L) [23, 24, 25] [0, 1, 2, 3, 4, 5, 6, 7, 8, 9, 10, 11, 12, 13, 14, 15, 16, 17, 18, 19, 20, 21, 22, 26, 27, 28, 29, 30, 31, 32, 33, 34, 35, 36, 37, 38, 39] [0, 1, 2, 3, 4, 5, 6, 7, 8, 9, 10, 11, 12, 13, 14, 15, 16, 17, 18, 19, 20, 21, 22, 37, 38, 39, 23, 24, 25, 26, 27, 28, 29, 30, 31, 32, 33, 34, 35, 36] rfl rfl rfl (by decide) (fun _ => rfl) rfl hP hD hS hA (fun hPc hDc => run_V (As := [.int r_2, .int r_3]) (rest := []) cx' (c_X6_allows l H.size (qa 6) (C 6) r_2 r_3 _ h) mv_X6_allows kw_517 rfl rfl ⟨Nat.le_of_ble_eq_true rfl, Nat.le_of_ble_eq_true rfl⟩ hPc hDc rfl rfl rfl hl.1 rfl (Nat.le_of_ble_eq_true rfl) dX9_read_78 ⟨Nat.zero_le _, Nat.zero_le _⟩) rfl (fun r_4 u9 H locs hP hD hS h => ?_)
    have hP : va_P (dC, dI) vwCl (wC cI cJ qa C L) H := hP
    have hD : va_D A (wC cI cJ qa C L) := hD
    refine lv_if_eq (tgt := 119) hx hb dX9_read_81 (by decide) (fun c_5 => ?_) (fun c_5 => ?_)
    · have h := h.1 c_5
      refine lv_iload_n hx hb dX9_read_119 rfl (lv_at hl 4 rfl) ?_
      exact rt_i (v := x2) (u := (C, L)) cx hP hD hS h dX9_read_120
    have h := h.2 c_5
    refine lv_aload_n hx hb dX9_read_84 rfl (lv_at hl 2 rfl) ?_
    refine gf_v (k := 5) (v := .ref (qa 6 0)) cx' hP 0 i_X9 rfl rfl (by decide) kw_269 rfl rfl dX9_read_85 ?_
    refine gf_v (k := 2) (v := .int (C 6 0 2)) cx' hP 23 i_X6 rfl rfl (by decide) kw_165 rfl rfl dX9_read_88 ?_
    refine lv_bipush (v := 8) hx hb dX9_read_91 (by decide) ?_
    refine lv_icmp_lt (tgt := 99) hx hb dX9_read_93 (by decide) (fun c_6 => ?_) (fun c_6 => ?_)
    · have h := h.1 c_6
      refine lv_aload_n hx hb dX9_read_99 rfl (lv_at hl 2 rfl) ?_
      refine gf_v (k := 5) (v := .ref (qa 6 0)) cx' hP 0 i_X9 rfl rfl (by decide) kw_269 rfl rfl dX9_read_100 ?_
      refine lv_iload hx hb dX9_read_103 (lv_at hl 1 rfl) ?_
      refine lv_iload hx hb dX9_read_105 (lv_at hl 0 rfl) ?_
      refine callP_v (wc := ww_X6 cI cJ (qa 6) (C 6)) (wr_C_6 cI cJ qa C L) (fun (u : Mem) => wC cI cJ qa (up3 C 6 (u)) L) [23, 24, 25] [0, 1, 2, 3, 4, 5, 6, 7, 8, 9, 10, 11, 12, 13, 14, 15, 16, 17, 18, 19, 20, 21, 22, 26, 27, 28, 29, 30, 31, 32, 33, 34, 35, 36, 37, 38, 39] [0, 1, 2, 3, 4, 5, 6, 7, 8, 9, 10, 11, 12, 13, 14, 15, 16, 17, 18, 19, 20, 21, 22, 37, 38, 39, 23, 24, 25, 26, 27, 28, 29, 30, 31, 32, 33, 34, 35, 36] rfl rfl rfl (by decide) (fun _ => rfl) rfl hP hD hS hA (fun hPc hDc => run_V (As := [.int r_2, .int r_3]) (rest := []) cx' (c_X6_add l H.size (qa 6) (C 6) r_2 r_3 _ h) mv_X6_add kw_521 rfl rfl ⟨Nat.le_of_ble_eq_true rfl, Nat.le_of_ble_eq_true rfl⟩ hPc hDc rfl rfl rfl hl.1 rfl (Nat.le_of_ble_eq_true rfl) dX9_read_107 ⟨Nat.zero_le _, Nat.zero_le _⟩) rfl (fun u9 H locs hP hD hS h => ?_)
      obtain ⟨u_7, rfl⟩ : ∃ z, z = u9 := ⟨_, rfl⟩
      obtain ⟨C_8, eC_8⟩ : ∃ z : Nat → Mem, z = up3 C 6 u_7 := ⟨_, rfl⟩
      have h := h C_8 eC_8
      have hP : va_P (dC, dI) vwCl (wC cI cJ qa C_8 L) H := by subst eC_8; exact hP
      have hD : va_D A (wC cI cJ qa C_8 L) := by subst eC_8; exact hD
      obtain ⟨x2_9, ex2_9⟩ : ∃ z : Int32, z = x2 + 1 := ⟨_, rfl⟩
      have h := h x2_9 ex2_9
      refine lv_iinc (v := x2_9) (lv' := [(2, .int x2_9), (5, .int r_3), (4, .int r_2), (0, .ref (qa 0 0)), (1, .int x1), (3, .int x3)]) hx hb dX9_read_110 hl (k := 4) rfl (by rw [ex2_9]; rfl) (by decide) rfl (fun ls hl => ?_)
      obtain ⟨x3_10, ex3_10⟩ : ∃ z : Int32, z = x3 + 2 := ⟨_, rfl⟩
      have h := h x3_10 ex3_10
      refine lv_iinc (v := x3_10) (lv' := [(3, .int x3_10), (2, .int x2_9), (5, .int r_3), (4, .int r_2), (0, .ref (qa 0 0)), (1, .int x1)]) hx hb dX9_read_113 hl (k := 5) rfl (by rw [ex3_10]; rfl) (by decide) rfl (fun ls hl => ?_)
      refine lv_goto (tgt := 31) hx hb dX9_read_116 (by decide) ?_
      exact ih x1 x2_9 x3_10 C_8 L H locs ls hP hD hS (lv_sub hl [4, 5, 1, 0] rfl) h
    have h := h.2 c_6
    refine lv_goto (tgt := 119) hx hb dX9_read_96 (by decide) ?_
    refine lv_iload_n hx hb dX9_read_119 rfl (lv_at hl 4 rfl) ?_
    exact rt_i (v := x2) (u := (C, L)) cx hP hD hS h dX9_read_120
set_option maxHeartbeats 4000000 in
set_option maxRecDepth 100000 in
theorem w_X9_read_0 {p : Program} {l : Launch} {e : Env} {s : State} {m : MethodId} {args : Array Value} {below : List Frame} {meth : Method} {c : Code} {dC : Nat → ClassId} {dI : Nat → Nat → Nat} {cI cJ : ClassId} {A : Nat → Prop} (cx : CX RX9 cX9_read (some .int) 6 p s m args meth c (dC, dI) (TY cI cJ)) (hA : ∀ q, s.heap.size ≤ q → A q) {qa : Nat → Nat → Nat} {post : Int32 → (Nat → Mem) → MemL → Prop} : ∀ (x1 : Int32) (C : (Nat → Mem)) (L : MemL) (H : Heap) (locs : List Loc) (ls : Array Slot), va_P (dC, dI) vwCl (wC cI cJ qa C L) H → va_D A (wC cI cJ qa C L) → va_S A s.heap H locs → lv_has ls 6 [(0, .ref (qa 0 0)), (1, .int x1)] → b_X9_read_0 post x1 C L → W p l e ({ frames := 1, cells := 0, slots := 0, locals := 22 }) s m args below meth c H locs 0 0 (MQ below (va_Qi (S := (Nat → Mem) × MemL) (fun (r : Int32) (u : (Nat → Mem) × MemL) => post r u.1 u.2) (fun u t => AT (dC, dI) (TY cI cJ) A (wC cI cJ qa (u.1) (u.2)) t) A) args s 0 0 A) (F0 m 0 ls []) := by
  obtain ⟨hx, hb, hr, hml, hown, hts, hlocks, hK⟩ := id cx
  have cx' : CX RX9 cX9_read (meth.sig.returnType) 6 p s m args meth c (dC, dI) (TY cI cJ) := ⟨hx, hb, rfl, hml, hown, hts, hlocks, hK⟩
  intro x1 C L H locs ls hP hD hS hl h
  unfold b_X9_read_0 at h
  refine lv_iload_n hx hb dX9_read_0 rfl (lv_at hl 1 rfl) ?_
  refine callN_i (run_S (As := [.int x1]) (rest := []) (wc := []) cx' (c_X9_isSheet l H.size x1 _ h) ms_X9_isSheet kw_533 rfl rfl ⟨Nat.le_of_ble_eq_true rfl, Nat.le_of_ble_eq_true rfl⟩ nilP nilD (A := A) rfl hl.1 rfl (Nat.le_of_ble_eq_true rfl) dX9_read_1 ⟨Nat.zero_le _, Nat.zero_le _⟩) hP hS hA (fun r_1 H locs hP hS h => ?_)
  refine lv_if_ne (tgt := 10) hx hb dX9_read_4 (by decide) (fun c_2 => ?_) (fun c_2 => ?_)
  · have h := h.1 c_2
    refine lv_aload_n hx hb dX9_read_10 rfl (lv_at hl 0 rfl) ?_
    refine gf_v (k := 6) (v := .ref (qa 7 0)) cx' hP 0 i_X9 rfl rfl (by decide) kw_270 rfl rfl dX9_read_11 ?_
    refine lv_iload_n hx hb dX9_read_14 rfl (lv_at hl 1 rfl) ?_
    refine callP_i (wc := ww_X5 cI cJ (qa 7) (C 7)) (wr_C_7 cI cJ qa C L) (fun (_u : Unit) => wC cI cJ qa C L) [26, 27, 28, 29] [0, 1, 2, 3, 4, 5, 6, 7, 8, 9, 10, 11, 12, 13, 14, 15, 16, 17, 18, 19, 20, 21, 22, 23, 24, 25, 30, 31, 32, 33, 34, 35, 36, 37, 38, 39] [0, 1, 2, 3, 4, 5, 6, 7, 8, 9, 10, 11, 12, 13, 14, 15, 16, 17, 18, 19, 20, 21, 22, 23, 24, 25, 36, 37, 38, 39, 26, 27, 28, 29, 30, 31, 32, 33, 34, 35] rfl rfl rfl (by decide) (fun _ => rfl) rfl hP hD hS hA (fun hPc hDc => run_V (As := [.int x1]) (rest := []) cx' (c_X5_isLost l H.size (qa 7) (C 7) x1 _ h) mv_X5_isLost kw_536 rfl rfl ⟨Nat.le_of_ble_eq_true rfl, Nat.le_of_ble_eq_true rfl⟩ hPc hDc rfl rfl rfl hl.1 rfl (Nat.le_of_ble_eq_true rfl) dX9_read_15 ⟨Nat.zero_le _, Nat.zero_le _⟩) rfl (fun r_3 u9 H locs hP hD hS h => ?_)
    have hP : va_P (dC, dI) vwCl (wC cI cJ qa C L) H := hP
    have hD : va_D A (wC cI cJ qa C L) := hD
    refine lv_if_eq (tgt := 27) hx hb dX9_read_18 (by decide) (fun c_4 => ?_) (fun c_4 => ?_)
    · have h := h.1 c_4
      refine lv_iconst (v := 0) hx hb dX9_read_27 (by decide) ?_
      refine lv_istore_n (lv' := [(2, .int 0), (0, .ref (qa 0 0)), (1, .int x1)]) hx hb dX9_read_28 rfl hl (by decide) rfl (fun ls hl => ?_)
      refine lv_iconst (v := 0) hx hb dX9_read_29 (by decide) ?_
      refine lv_istore_n (lv' := [(3, .int 0), (2, .int 0), (0, .ref (qa 0 0)), (1, .int x1)]) hx hb dX9_read_30 rfl hl (by decide) rfl (fun ls hl => ?_)
      obtain ⟨n_5, h⟩ := h
      exact w_X9_read_31 cx hA n_5 x1 0 0 C L H locs ls hP hD hS (lv_sub hl [2, 3, 1, 0] rfl) h
    have h := h.2 c_4
    refine lv_aload_n hx hb dX9_read_21 rfl (lv_at hl 0 rfl) ?_
    refine lv_iconst (v := 1) hx hb dX9_read_22 (by decide) ?_
    refine call_i (run_V (As := [.int 1]) (rest := []) cx' (c_X9_found l H.size qa C L 1 _ h) mv_X9_found kw_540 rfl rfl ⟨Nat.le_of_ble_eq_true rfl, Nat.le_of_ble_eq_true rfl⟩ hP hD rfl rfl rfl hl.1 rfl (Nat.le_of_ble_eq_true rfl) dX9_read_23 ⟨Nat.zero_le _, Nat.zero_le _⟩) hD hS hA (fun r_6 u9 H locs hP hD hS h => ?_)
    obtain ⟨C_7, L_8⟩ := u9
    have hP : va_P (dC, dI) vwCl (wC cI cJ qa C_7 L_8) H := hP
    have hD : va_D A (wC cI cJ qa C_7 L_8) := hD
    exact rt_i (v := r_6) (u := (C_7, L_8)) cx hP hD hS h dX9_read_26
  have h := h.2 c_2
  refine lv_bipush (v := (-2)) hx hb dX9_read_7 (by decide) ?_
  exact rt_i (v := (-2)) (u := (C, L)) cx hP hD hS h dX9_read_9
set_option maxRecDepth 100000 in
theorem c_X9_read (l : Launch) {dC : Nat → ClassId} {dI : Nat → Nat → Nat} {cI cJ : ClassId} (sz : Nat) (qa : Nat → Nat → Nat) (C : Nat → Mem) (L : MemL) (x1 : Int32) (post : Int32 → (Nat → Mem) → MemL → Prop) (h : wp_X9_read C L x1 post) : Met l yX9_read (Cond.code yX9_read cX9_read 6 (some .int) :: gt) ({ frames := 1, cells := 0, slots := 0, locals := 22 }) (va_Pc [.ref (qa 0 0), .int x1] (PRE (dC, dI) (TY cI cJ) (wC cI cJ qa C L) sz)) (va_Qi (S := (Nat → Mem) × MemL) (fun (r : Int32) (u : (Nat → Mem) × MemL) => post r u.1 u.2) (fun u t => AT (dC, dI) (TY cI cJ) (va_A (wC cI cJ qa C L) sz) (wC cI cJ qa (u.1) (u.2)) t) (va_A (wC cI cJ qa C L) sz)) 0 0 (va_A (wC cI cJ qa C L) sz) :=
  met_of (own := RX9) (Qf := fun A => va_Qi (S := (Nat → Mem) × MemL) (fun (r : Int32) (u : (Nat → Mem) × MemL) => post r u.1 u.2) (fun u t => AT (dC, dI) (TY cI cJ) A (wC cI cJ qa (u.1) (u.2)) t) A) (by decide) rfl (Nat.le_of_ble_eq_true rfl) rfl (fun p e s m below meth c A cx hA ls hP hD hS hl => w_X9_read_0 cx hA x1 C L _ _ ls hP hD hS hl h)
theorem mv_X9_read : MV yX9_read cX9_read 6 (some .int) 1 := ⟨⟨kw_532, kw_1, by decide +kernel⟩, kw_530, kw_531⟩
set_option maxHeartbeats 4000000 in
set_option maxRecDepth 100000 in
theorem w_X9_twiceFits_2 {p : Program} {l : Launch} {e : Env} {s : State} {m : MethodId} {args : Array Value} {below : List Frame} {meth : Method} {c : Code} {dC : Nat → ClassId} {dI : Nat → Nat → Nat} {cI cJ : ClassId} {A : Nat → Prop} (cx : CX RX9 cX9_twiceFits (some .boolean) 4 p s m args meth c (dC, dI) (TY cI cJ)) (hA : ∀ q, s.heap.size ≤ q → A q) {qa : Nat → Nat → Nat} {C : (Nat → Mem)} {L : MemL} {post : Int32 → Prop} : ∀ (n : Nat) (x1 : Int32) (x2 : Int32) (H : Heap) (locs : List Loc) (ls : Array Slot), va_P (dC, dI) vwCl (wC cI cJ qa C L) H → va_D A (wC cI cJ qa C L) → va_S A s.heap H locs → lv_has ls 4 [(0, .ref (qa 0 0)), (1, .int x1), (2, .int x2)] → b_X9_twiceFits_2 C L post n x1 x2 → W p l e ({ frames := 1, cells := 0, slots := 0, locals := 22 }) s m args below meth c H locs 0 0 (MQ below (va_Qi (S := Unit) (fun (r : Int32) (_u : Unit) => post r) (fun _u t => AT (dC, dI) (TY cI cJ) A (wC cI cJ qa C L) t) A) args s 0 0 A) (F0 m 2 ls []) := by
  obtain ⟨hx, hb, hr, hml, hown, hts, hlocks, hK⟩ := id cx
  have cx' : CX RX9 cX9_twiceFits (meth.sig.returnType) 4 p s m args meth c (dC, dI) (TY cI cJ) := ⟨hx, hb, rfl, hml, hown, hts, hlocks, hK⟩
  intro n
  induction n with
  | zero =>
    intro x1 x2 H locs ls hP hD hS hl h
    exact False.elim h
  | succ n ih =>
    intro x1 x2 H locs ls hP hD hS hl h
    unfold b_X9_twiceFits_2 at h
    refine lv_iload_n hx hb dX9_twiceFits_2 rfl (lv_at hl 2 rfl) ?_
    refine lv_aload_n hx hb dX9_twiceFits_3 rfl (lv_at hl 0 rfl) ?_
    refine gf_v (k := 5) (v := .ref (qa 6 0)) cx' hP 0 i_X9 rfl rfl (by decide) kw_269 rfl rfl dX9_twiceFits_4 ?_
    refine gf_v (k := 2) (v := .int (C 6 0 2)) cx' hP 23 i_X6 rfl rfl (by decide) kw_165 rfl rfl dX9_twiceFits_7 ?_
    refine lv_icmp_ge (tgt := 70) hx hb dX9_twiceFits_10 (by decide) (fun c_1 => ?_) (fun c_1 => ?_)
    · have h := h.1 c_1
      refine lv_iconst (v := 1) hx hb dX9_twiceFits_70 (by decide) ?_
      exact rt_z (v := 1) (u := ()) cx (Or.inr rfl) hP hD hS h dX9_twiceFits_71
    have h := h.2 c_1
    refine lv_aload_n hx hb dX9_twiceFits_13 rfl (lv_at hl 0 rfl) ?_
    refine gf_v (k := 5) (v := .ref (qa 6 0)) cx' hP 0 i_X9 rfl rfl (by decide) kw_269 rfl rfl dX9_twiceFits_14 ?_
    refine gf_v (k := 0) (v := .ref (qa 6 1)) cx' hP 23 i_X6 rfl rfl (by decide) kw_161 rfl rfl dX9_twiceFits_17 ?_
    refine lv_iload_n hx hb dX9_twiceFits_20 rfl (lv_at hl 2 rfl) ?_
    refine va_iald hx hb hK hP 24 0 rfl rfl h.1 dX9_twiceFits_21 ?_
    have h := h.2
    refine lv_topi (fun x3_2 ex3_2 => ?_)
    have h := h x3_2 ex3_2
    refine lv_istore_n (lv' := [(3, .int x3_2), (0, .ref (qa 0 0)), (1, .int x1), (2, .int x2)]) hx hb dX9_twiceFits_22 rfl hl (by decide) rfl (fun ls hl => ?_)
    refine lv_aload_n hx hb dX9_twiceFits_23 rfl (lv_at hl 1 rfl) ?_
    refine lv_iload_n hx hb dX9_twiceFits_24 rfl (lv_at hl 0 rfl) ?_
    refine call_i (run_V (As := [.int x3_2]) (rest := []) cx' (c_X9_isHouse l H.size qa C L x3_2 _ h) mv_X9_isHouse kw_403 rfl rfl ⟨Nat.le_of_ble_eq_true rfl, Nat.le_of_ble_eq_true rfl⟩ hP hD rfl rfl rfl hl.1 rfl (Nat.le_of_ble_eq_true rfl) dX9_twiceFits_25 ⟨Nat.zero_le _, Nat.zero_le _⟩) hD hS hA (fun r_3 u9 H locs hP hD hS h => ?_)
    have hP : va_P (dC, dI) vwCl (wC cI cJ qa C L) H := hP
    have hD : va_D A (wC cI cJ qa C L) := hD
    refine lv_if_eq (tgt := 62) hx hb dX9_twiceFits_28 (by decide) (fun c_4 => ?_) (fun c_4 => ?_)
    · have h := h.1 c_4
      refine lv_iconst (v := 0) hx hb dX9_twiceFits_62 (by decide) ?_
      exact rt_z (v := 0) (u := ()) cx (Or.inl rfl) hP hD hS h dX9_twiceFits_63
    have h := h.2 c_4
    refine lv_aload_n hx hb dX9_twiceFits_31 rfl (lv_at hl 1 rfl) ?_
    refine gf_v (k := 4) (v := .ref (qa 5 0)) cx' hP 0 i_X9 rfl rfl (by decide) kw_268 rfl rfl dX9_twiceFits_32 ?_
    refine gf_v (k := 5) (v := .ref (qa 5 6)) cx' hP 15 i_X1 rfl rfl (by decide) kw_132 rfl rfl dX9_twiceFits_35 ?_
    refine lv_iload_n hx hb dX9_twiceFits_38 rfl (lv_at hl 0 rfl) ?_
    refine va_iald hx hb hK hP 21 0 rfl rfl h.1 dX9_twiceFits_39 ?_
    have h := h.2
    refine lv_aload_n hx hb dX9_twiceFits_40 rfl (lv_at hl 1 rfl) ?_
    refine gf_v (k := 4) (v := .ref (qa 5 0)) cx' hP 0 i_X9 rfl rfl (by decide) kw_268 rfl rfl dX9_twiceFits_41 ?_
    refine lv_iload_n hx hb dX9_twiceFits_44 rfl (lv_at hl 2 rfl) ?_
    refine lv_iload_n hx hb dX9_twiceFits_45 rfl (lv_at hl 0 rfl) ?_
    refine callP_i (wc := ww_X1 cI cJ (qa 5) (C 5)) (wr_C_5 cI cJ qa C L) (fun (_u : Unit) => wC cI cJ qa C L) [15, 16, 17, 18, 19, 20, 21, 22] [0, 1, 2, 3, 4, 5, 6, 7, 8, 9, 10, 11, 12, 13, 14, 23, 24, 25, 26, 27, 28, 29, 30, 31, 32, 33, 34, 35, 36, 37, 38, 39] [0, 1, 2, 3, 4, 5, 6, 7, 8, 9, 10, 11, 12, 13, 14, 32, 33, 34, 35, 36, 37, 38, 39, 15, 16, 17, 18, 19, 20, 21, 22, 23, 24, 25, 26, 27, 28, 29, 30, 31] rfl rfl rfl (by decide) (fun _ => rfl) rfl hP hD hS hA (fun hPc hDc => run_V (As := [.int x1, .int x3_2]) (rest := [.int (C 5 6 (Int32.toNatClampNeg x3_2))]) cx' (c_X1_gaveTo l H.size (qa 5) (C 5) x1 x3_2 _ h) mv_X1_gaveTo kw_427 rfl rfl ⟨Nat.le_of_ble_eq_true rfl, Nat.le_of_ble_eq_true rfl⟩ hPc hDc rfl rfl rfl hl.1 rfl (Nat.le_of_ble_eq_true rfl) dX9_twiceFits_46 ⟨Nat.zero_le _, Nat.zero_le _⟩) rfl (fun r_5 u9 H locs hP hD hS h => ?_)
    have hP : va_P (dC, dI) vwCl (wC cI cJ qa C L) H := hP
    have hD : va_D A (wC cI cJ qa C L) := hD
    refine lv_iadd hx hb dX9_twiceFits_49 ?_
    refine lv_aload_n hx hb dX9_twiceFits_50 rfl (lv_at hl 1 rfl) ?_
    refine gf_v (k := 5) (v := .ref (qa 6 0)) cx' hP 0 i_X9 rfl rfl (by decide) kw_269 rfl rfl dX9_twiceFits_51 ?_
    refine gf_v (k := 1) (v := .ref (qa 6 2)) cx' hP 23 i_X6 rfl rfl (by decide) kw_163 rfl rfl dX9_twiceFits_54 ?_
    refine lv_iload_n hx hb dX9_twiceFits_57 rfl (lv_at hl 3 rfl) ?_
    refine va_iald hx hb hK hP 25 0 rfl rfl h.1 dX9_twiceFits_58 ?_
    have h := h.2
    refine lv_icmp_eq (tgt := 64) hx hb dX9_twiceFits_59 (by decide) (fun c_6 => ?_) (fun c_6 => ?_)
    · have h := h.1 c_6
      obtain ⟨x2_7, ex2_7⟩ : ∃ z : Int32, z = x2 + 1 := ⟨_, rfl⟩
      have h := h x2_7 ex2_7
      refine lv_iinc (v := x2_7) (lv' := [(2, .int x2_7), (3, .int x3_2), (0, .ref (qa 0 0)), (1, .int x1)]) hx hb dX9_twiceFits_64 hl (k := 3) rfl (by rw [ex2_7]; rfl) (by decide) rfl (fun ls hl => ?_)
      refine lv_goto (tgt := 2) hx hb dX9_twiceFits_67 (by decide) ?_
      exact ih x1 x2_7 H locs ls hP hD hS (lv_sub hl [2, 3, 0] rfl) h
    have h := h.2 c_6
    refine lv_iconst (v := 0) hx hb dX9_twiceFits_62 (by decide) ?_
    exact rt_z (v := 0) (u := ()) cx (Or.inl rfl) hP hD hS h dX9_twiceFits_63
set_option maxHeartbeats 4000000 in
set_option maxRecDepth 100000 in
theorem w_X9_twiceFits_0 {p : Program} {l : Launch} {e : Env} {s : State} {m : MethodId} {args : Array Value} {below : List Frame} {meth : Method} {c : Code} {dC : Nat → ClassId} {dI : Nat → Nat → Nat} {cI cJ : ClassId} {A : Nat → Prop} (cx : CX RX9 cX9_twiceFits (some .boolean) 4 p s m args meth c (dC, dI) (TY cI cJ)) (hA : ∀ q, s.heap.size ≤ q → A q) {qa : Nat → Nat → Nat} {C : (Nat → Mem)} {L : MemL} {post : Int32 → Prop} : ∀ (x1 : Int32) (H : Heap) (locs : List Loc) (ls : Array Slot), va_P (dC, dI) vwCl (wC cI cJ qa C L) H → va_D A (wC cI cJ qa C L) → va_S A s.heap H locs → lv_has ls 4 [(0, .ref (qa 0 0)), (1, .int x1)] → b_X9_twiceFits_0 C L post x1 → W p l e ({ frames := 1, cells := 0, slots := 0, locals := 22 }) s m args below meth c H locs 0 0 (MQ below (va_Qi (S := Unit) (fun (r : Int32) (_u : Unit) => post r) (fun _u t => AT (dC, dI) (TY cI cJ) A (wC cI cJ qa C L) t) A) args s 0 0 A) (F0 m 0 ls []) := by
  obtain ⟨hx, hb, hr, hml, hown, hts, hlocks, hK⟩ := id cx
  have cx' : CX RX9 cX9_twiceFits (meth.sig.returnType) 4 p s m args meth c (dC, dI) (TY cI cJ) := ⟨hx, hb, rfl, hml, hown, hts, hlocks, hK⟩
  intro x1 H locs ls hP hD hS hl h
  unfold b_X9_twiceFits_0 at h
  refine lv_iconst (v := 0) hx hb dX9_twiceFits_0 (by decide) ?_
  refine lv_istore_n (lv' := [(2, .int 0), (0, .ref (qa 0 0)), (1, .int x1)]) hx hb dX9_twiceFits_1 rfl hl (by decide) rfl (fun ls hl => ?_)
  obtain ⟨n_1, h⟩ := h
  exact w_X9_twiceFits_2 cx hA n_1 x1 0 H locs ls hP hD hS (lv_sub hl [1, 2, 0] rfl) h
set_option maxRecDepth 100000 in
theorem c_X9_twiceFits (l : Launch) {dC : Nat → ClassId} {dI : Nat → Nat → Nat} {cI cJ : ClassId} (sz : Nat) (qa : Nat → Nat → Nat) (C : Nat → Mem) (L : MemL) (x1 : Int32) (post : Int32 → Prop) (h : wp_X9_twiceFits C L x1 post) : Met l yX9_twiceFits (Cond.code yX9_twiceFits cX9_twiceFits 4 (some .boolean) :: gt) ({ frames := 1, cells := 0, slots := 0, locals := 22 }) (va_Pc [.ref (qa 0 0), .int x1] (PRE (dC, dI) (TY cI cJ) (wC cI cJ qa C L) sz)) (va_Qi (S := Unit) (fun (r : Int32) (_u : Unit) => post r) (fun _u t => AT (dC, dI) (TY cI cJ) (va_A (wC cI cJ qa C L) sz) (wC cI cJ qa C L) t) (va_A (wC cI cJ qa C L) sz)) 0 0 (va_A (wC cI cJ qa C L) sz) :=
  met_of (own := RX9) (Qf := fun A => va_Qi (S := Unit) (fun (r : Int32) (_u : Unit) => post r) (fun _u t => AT (dC, dI) (TY cI cJ) A (wC cI cJ qa C L) t) A) (by decide) rfl (Nat.le_of_ble_eq_true rfl) rfl (fun p e s m below meth c A cx hA ls hP hD hS hl => w_X9_twiceFits_0 cx hA x1 _ _ ls hP hD hS hl h)
theorem mv_X9_twiceFits : MV yX9_twiceFits cX9_twiceFits 4 (some .boolean) 1 := ⟨⟨kw_555, kw_1, by decide +kernel⟩, kw_554, ksel_9⟩
set_option maxHeartbeats 4000000 in
set_option maxRecDepth 100000 in
theorem w_X9_twice_29 {p : Program} {l : Launch} {e : Env} {s : State} {m : MethodId} {args : Array Value} {below : List Frame} {meth : Method} {c : Code} {dC : Nat → ClassId} {dI : Nat → Nat → Nat} {cI cJ : ClassId} {A : Nat → Prop} (cx : CX RX9 cX9_twice (some .int) 3 p s m args meth c (dC, dI) (TY cI cJ)) (hA : ∀ q, s.heap.size ≤ q → A q) {qa : Nat → Nat → Nat} {C : (Nat → Mem)} {L : MemL} {post : Int32 → Prop} {k4 : Int32 → Int32 → Prop} (hk4 : ∀ (x1 : Int32) (x2 : Int32) (H : Heap) (locs : List Loc) (ls : Array Slot), va_P (dC, dI) vwCl (wC cI cJ qa C L) H → va_D A (wC cI cJ qa C L) → va_S A s.heap H locs → lv_has ls 3 [(0, .ref (qa 0 0)), (1, .int x1), (2, .int x2)] → k4 x1 x2 → W p l e ({ frames := 2, cells := 0, slots := 0, locals := 45 }) s m args below meth c H locs 0 0 (MQ below (va_Qi (S := Unit) (fun (r : Int32) (_u : Unit) => post r) (fun _u t => AT (dC, dI) (TY cI cJ) A (wC cI cJ qa C L) t) A) args s 0 0 A) (F0 m 4 ls [])) : ∀ (x1 : Int32) (x2 : Int32) (H : Heap) (locs : List Loc) (ls : Array Slot), va_P (dC, dI) vwCl (wC cI cJ qa C L) H → va_D A (wC cI cJ qa C L) → va_S A s.heap H locs → lv_has ls 3 [(0, .ref (qa 0 0)), (1, .int x1), (2, .int x2)] → b_X9_twice_29 C L post k4 x1 x2 → W p l e ({ frames := 2, cells := 0, slots := 0, locals := 45 }) s m args below meth c H locs 0 0 (MQ below (va_Qi (S := Unit) (fun (r : Int32) (_u : Unit) => post r) (fun _u t => AT (dC, dI) (TY cI cJ) A (wC cI cJ qa C L) t) A) args s 0 0 A) (F0 m 29 ls []) := by
  obtain ⟨hx, hb, hr, hml, hown, hts, hlocks, hK⟩ := id cx
  have cx' : CX RX9 cX9_twice (meth.sig.returnType) 3 p s m args meth c (dC, dI) (TY cI cJ) := ⟨hx, hb, rfl, hml, hown, hts, hlocks, hK⟩
  intro x1 x2 H locs ls hP hD hS hl h
  unfold b_X9_twice_29 at h
  obtain ⟨x2_1, ex2_1⟩ : ∃ z : Int32, z = x2 + 1 := ⟨_, rfl⟩
  have h := h x2_1 ex2_1
  refine lv_iinc (v := x2_1) (lv' := [(2, .int x2_1), (0, .ref (qa 0 0)), (1, .int x1)]) hx hb dX9_twice_29 hl (k := 2) rfl (by rw [ex2_1]; rfl) (by decide) rfl (fun ls hl => ?_)
  refine lv_goto (tgt := 4) hx hb dX9_twice_32 (by decide) ?_
  exact hk4 x1 x2_1 H locs ls hP hD hS (lv_sub hl [1, 2, 0] rfl) h
set_option maxHeartbeats 4000000 in
set_option maxRecDepth 100000 in
theorem w_X9_twice_4 {p : Program} {l : Launch} {e : Env} {s : State} {m : MethodId} {args : Array Value} {below : List Frame} {meth : Method} {c : Code} {dC : Nat → ClassId} {dI : Nat → Nat → Nat} {cI cJ : ClassId} {A : Nat → Prop} (cx : CX RX9 cX9_twice (some .int) 3 p s m args meth c (dC, dI) (TY cI cJ)) (hA : ∀ q, s.heap.size ≤ q → A q) {qa : Nat → Nat → Nat} {C : (Nat → Mem)} {L : MemL} {post : Int32 → Prop} : ∀ (n : Nat) (x1 : Int32) (x2 : Int32) (H : Heap) (locs : List Loc) (ls : Array Slot), va_P (dC, dI) vwCl (wC cI cJ qa C L) H → va_D A (wC cI cJ qa C L) → va_S A s.heap H locs → lv_has ls 3 [(0, .ref (qa 0 0)), (1, .int x1), (2, .int x2)] → b_X9_twice_4 C L post n x1 x2 → W p l e ({ frames := 2, cells := 0, slots := 0, locals := 45 }) s m args below meth c H locs 0 0 (MQ below (va_Qi (S := Unit) (fun (r : Int32) (_u : Unit) => post r) (fun _u t => AT (dC, dI) (TY cI cJ) A (wC cI cJ qa C L) t) A) args s 0 0 A) (F0 m 4 ls []) := by
  obtain ⟨hx, hb, hr, hml, hown, hts, hlocks, hK⟩ := id cx
  have cx' : CX RX9 cX9_twice (meth.sig.returnType) 3 p s m args meth c (dC, dI) (TY cI cJ) := ⟨hx, hb, rfl, hml, hown, hts, hlocks, hK⟩
  intro n
  induction n with
  | zero =>
    intro x1 x2 H locs ls hP hD hS hl h
    exact False.elim h
  | succ n ih =>
    intro x1 x2 H locs ls hP hD hS hl h
    unfold b_X9_twice_4 at h
    refine lv_iload_n hx hb dX9_twice_4 rfl (lv_at hl 2 rfl) ?_
    refine lv_aload_n hx hb dX9_twice_5 rfl (lv_at hl 0 rfl) ?_
    refine gf_v (k := 3) (v := .ref (qa 4 0)) cx' hP 0 i_X9 rfl rfl (by decide) kw_267 rfl rfl dX9_twice_6 ?_
    refine gf_v (k := 4) (v := .int (C 4 0 4)) cx' hP 10 i_X2 rfl rfl (by decide) kw_104 rfl rfl dX9_twice_9 ?_
    refine lv_icmp_ge (tgt := 35) hx hb dX9_twice_12 (by decide) (fun c_1 => ?_) (fun c_1 => ?_)
    · have h := h.1 c_1
      refine lv_iload_n hx hb dX9_twice_35 rfl (lv_at hl 1 rfl) ?_
      exact rt_i (v := x1) (u := ()) cx hP hD hS h dX9_twice_36
    have h := h.2 c_1
    refine lv_aload_n hx hb dX9_twice_15 rfl (lv_at hl 0 rfl) ?_
    refine lv_iload_n hx hb dX9_twice_16 rfl (lv_at hl 2 rfl) ?_
    refine call_i (run_V (As := [.int x2]) (rest := []) cx' (c_X9_twiceFits l H.size qa C L x2 _ h) mv_X9_twiceFits kw_552 rfl rfl ⟨Nat.le_of_ble_eq_true rfl, Nat.le_of_ble_eq_true rfl⟩ hP hD rfl rfl rfl hl.1 rfl (Nat.le_of_ble_eq_true rfl) dX9_twice_17 ⟨Nat.zero_le _, Nat.zero_le _⟩) hD hS hA (fun r_2 u9 H locs hP hD hS h => ?_)
    have hP : va_P (dC, dI) vwCl (wC cI cJ qa C L) H := hP
    have hD : va_D A (wC cI cJ qa C L) := hD
    refine lv_if_eq (tgt := 29) hx hb dX9_twice_20 (by decide) (fun c_3 => ?_) (fun c_3 => ?_)
    · have h := h.1 c_3
      exact w_X9_twice_29 cx hA ih x1 x2 H locs ls hP hD hS (lv_sub hl [0, 1, 2] rfl) h
    have h := h.2 c_3
    refine lv_iload_n hx hb dX9_twice_23 rfl (lv_at hl 1 rfl) ?_
    refine lv_iconst (v := 1) hx hb dX9_twice_24 (by decide) ?_
    refine lv_iload_n hx hb dX9_twice_25 rfl (lv_at hl 2 rfl) ?_
    refine lv_ishl hx hb dX9_twice_26 ?_
    refine lv_ior hx hb dX9_twice_27 ?_
    refine lv_topi (fun x1_4 ex1_4 => ?_)
    have h := h x1_4 ex1_4
    refine lv_istore_n (lv' := [(1, .int x1_4), (0, .ref (qa 0 0)), (2, .int x2)]) hx hb dX9_twice_28 rfl hl (by decide) rfl (fun ls hl => ?_)
    exact w_X9_twice_29 cx hA ih x1_4 x2 H locs ls hP hD hS (lv_sub hl [1, 0, 2] rfl) h
set_option maxHeartbeats 4000000 in
set_option maxRecDepth 100000 in
theorem w_X9_twice_0 {p : Program} {l : Launch} {e : Env} {s : State} {m : MethodId} {args : Array Value} {below : List Frame} {meth : Method} {c : Code} {dC : Nat → ClassId} {dI : Nat → Nat → Nat} {cI cJ : ClassId} {A : Nat → Prop} (cx : CX RX9 cX9_twice (some .int) 3 p s m args meth c (dC, dI) (TY cI cJ)) (hA : ∀ q, s.heap.size ≤ q → A q) {qa : Nat → Nat → Nat} {C : (Nat → Mem)} {L : MemL} {post : Int32 → Prop} : ∀  (H : Heap) (locs : List Loc) (ls : Array Slot), va_P (dC, dI) vwCl (wC cI cJ qa C L) H → va_D A (wC cI cJ qa C L) → va_S A s.heap H locs → lv_has ls 3 [(0, .ref (qa 0 0))] → b_X9_twice_0 C L post  → W p l e ({ frames := 2, cells := 0, slots := 0, locals := 45 }) s m args below meth c H locs 0 0 (MQ below (va_Qi (S := Unit) (fun (r : Int32) (_u : Unit) => post r) (fun _u t => AT (dC, dI) (TY cI cJ) A (wC cI cJ qa C L) t) A) args s 0 0 A) (F0 m 0 ls []) := by
  obtain ⟨hx, hb, hr, hml, hown, hts, hlocks, hK⟩ := id cx
  have cx' : CX RX9 cX9_twice (meth.sig.returnType) 3 p s m args meth c (dC, dI) (TY cI cJ) := ⟨hx, hb, rfl, hml, hown, hts, hlocks, hK⟩
  intro H locs ls hP hD hS hl h
  unfold b_X9_twice_0 at h
  refine lv_iconst (v := 0) hx hb dX9_twice_0 (by decide) ?_
  refine lv_istore_n (lv' := [(1, .int 0), (0, .ref (qa 0 0))]) hx hb dX9_twice_1 rfl hl (by decide) rfl (fun ls hl => ?_)
  refine lv_iconst (v := 0) hx hb dX9_twice_2 (by decide) ?_
  refine lv_istore_n (lv' := [(2, .int 0), (1, .int 0), (0, .ref (qa 0 0))]) hx hb dX9_twice_3 rfl hl (by decide) rfl (fun ls hl => ?_)
  obtain ⟨n_1, h⟩ := h
  exact w_X9_twice_4 cx hA n_1 0 0 H locs ls hP hD hS (lv_sub hl [2, 1, 0] rfl) h
set_option maxRecDepth 100000 in
theorem c_X9_twice (l : Launch) {dC : Nat → ClassId} {dI : Nat → Nat → Nat} {cI cJ : ClassId} (sz : Nat) (qa : Nat → Nat → Nat) (C : Nat → Mem) (L : MemL) (post : Int32 → Prop) (h : wp_X9_twice C L post) : Met l yX9_twice (Cond.code yX9_twice cX9_twice 3 (some .int) :: gt) ({ frames := 2, cells := 0, slots := 0, locals := 45 }) (va_Pc [.ref (qa 0 0)] (PRE (dC, dI) (TY cI cJ) (wC cI cJ qa C L) sz)) (va_Qi (S := Unit) (fun (r : Int32) (_u : Unit) => post r) (fun _u t => AT (dC, dI) (TY cI cJ) (va_A (wC cI cJ qa C L) sz) (wC cI cJ qa C L) t) (va_A (wC cI cJ qa C L) sz)) 0 0 (va_A (wC cI cJ qa C L) sz) :=
  met_of (own := RX9) (Qf := fun A => va_Qi (S := Unit) (fun (r : Int32) (_u : Unit) => post r) (fun _u t => AT (dC, dI) (TY cI cJ) A (wC cI cJ qa C L) t) A) (by decide) rfl (Nat.le_of_ble_eq_true rfl) rfl (fun p e s m below meth c A cx hA ls hP hD hS hl => w_X9_twice_0 cx hA  _ _ ls hP hD hS hl h)
theorem mv_X9_twice : MV yX9_twice cX9_twice 3 (some .int) 0 := ⟨⟨kw_551, kw_1, by decide +kernel⟩, kw_549, kw_550⟩
set_option maxHeartbeats 4000000 in
set_option maxRecDepth 100000 in
theorem w_X9_walkFits_2 {p : Program} {l : Launch} {e : Env} {s : State} {m : MethodId} {args : Array Value} {below : List Frame} {meth : Method} {c : Code} {dC : Nat → ClassId} {dI : Nat → Nat → Nat} {cI cJ : ClassId} {A : Nat → Prop} (cx : CX RX9 cX9_walkFits (some .boolean) 5 p s m args meth c (dC, dI) (TY cI cJ)) (hA : ∀ q, s.heap.size ≤ q → A q) {qa : Nat → Nat → Nat} {C : (Nat → Mem)} {L : MemL} {post : Int32 → Prop} : ∀ (n : Nat) (x1 : Int32) (x2 : Int32) (H : Heap) (locs : List Loc) (ls : Array Slot), va_P (dC, dI) vwCl (wC cI cJ qa C L) H → va_D A (wC cI cJ qa C L) → va_S A s.heap H locs → lv_has ls 5 [(0, .ref (qa 0 0)), (1, .int x1), (2, .int x2)] → b_X9_walkFits_2 C L post n x1 x2 → W p l e ({ frames := 1, cells := 0, slots := 0, locals := 22 }) s m args below meth c H locs 0 0 (MQ below (va_Qi (S := Unit) (fun (r : Int32) (_u : Unit) => post r) (fun _u t => AT (dC, dI) (TY cI cJ) A (wC cI cJ qa C L) t) A) args s 0 0 A) (F0 m 2 ls []) := by
  obtain ⟨hx, hb, hr, hml, hown, hts, hlocks, hK⟩ := id cx
  have cx' : CX RX9 cX9_walkFits (meth.sig.returnType) 5 p s m args meth c (dC, dI) (TY cI cJ) := ⟨hx, hb, rfl, hml, hown, hts, hlocks, hK⟩
  intro n
  induction n with
  | zero =>
    intro x1 x2 H locs ls hP hD hS hl h
    exact False.elim h
  | succ n ih =>
    intro x1 x2 H locs ls hP hD hS hl h
    unfold b_X9_walkFits_2 at h
    refine lv_iload_n hx hb dX9_walkFits_2 rfl (lv_at hl 2 rfl) ?_
    refine lv_aload_n hx hb dX9_walkFits_3 rfl (lv_at hl 0 rfl) ?_
    refine gf_v (k := 5) (v := .ref (qa 6 0)) cx' hP 0 i_X9 rfl rfl (by decide) kw_269 rfl rfl dX9_walkFits_4 ?_
    refine gf_v (k := 2) (v := .int (C 6 0 2)) cx' hP 23 i_X6 rfl rfl (by decide) kw_165 rfl rfl dX9_walkFits_7 ?_
    refine lv_icmp_ge (tgt := 86) hx hb dX9_walkFits_10 (by decide) (fun c_1 => ?_) (fun c_1 => ?_)
    · have h := h.1 c_1
      refine lv_iconst (v := 1) hx hb dX9_walkFits_86 (by decide) ?_
      exact rt_z (v := 1) (u := ()) cx (Or.inr rfl) hP hD hS h dX9_walkFits_87
    have h := h.2 c_1
    refine lv_aload_n hx hb dX9_walkFits_13 rfl (lv_at hl 0 rfl) ?_
    refine gf_v (k := 5) (v := .ref (qa 6 0)) cx' hP 0 i_X9 rfl rfl (by decide) kw_269 rfl rfl dX9_walkFits_14 ?_
    refine gf_v (k := 0) (v := .ref (qa 6 1)) cx' hP 23 i_X6 rfl rfl (by decide) kw_161 rfl rfl dX9_walkFits_17 ?_
    refine lv_iload_n hx hb dX9_walkFits_20 rfl (lv_at hl 2 rfl) ?_
    refine va_iald hx hb hK hP 24 0 rfl rfl h.1 dX9_walkFits_21 ?_
    have h := h.2
    refine lv_topi (fun x3_2 ex3_2 => ?_)
    have h := h x3_2 ex3_2
    refine lv_istore_n (lv' := [(3, .int x3_2), (0, .ref (qa 0 0)), (1, .int x1), (2, .int x2)]) hx hb dX9_walkFits_22 rfl hl (by decide) rfl (fun ls hl => ?_)
    refine lv_aload_n hx hb dX9_walkFits_23 rfl (lv_at hl 1 rfl) ?_
    refine lv_iload_n hx hb dX9_walkFits_24 rfl (lv_at hl 0 rfl) ?_
    refine call_i (run_V (As := [.int x3_2]) (rest := []) cx' (c_X9_isHouse l H.size qa C L x3_2 _ h) mv_X9_isHouse kw_403 rfl rfl ⟨Nat.le_of_ble_eq_true rfl, Nat.le_of_ble_eq_true rfl⟩ hP hD rfl rfl rfl hl.1 rfl (Nat.le_of_ble_eq_true rfl) dX9_walkFits_25 ⟨Nat.zero_le _, Nat.zero_le _⟩) hD hS hA (fun r_3 u9 H locs hP hD hS h => ?_)
    have hP : va_P (dC, dI) vwCl (wC cI cJ qa C L) H := hP
    have hD : va_D A (wC cI cJ qa C L) := hD
    refine lv_if_ne (tgt := 33) hx hb dX9_walkFits_28 (by decide) (fun c_4 => ?_) (fun c_4 => ?_)
    · have h := h.1 c_4
      refine lv_aload_n hx hb dX9_walkFits_33 rfl (lv_at hl 1 rfl) ?_
      refine gf_v (k := 4) (v := .ref (qa 5 0)) cx' hP 0 i_X9 rfl rfl (by decide) kw_268 rfl rfl dX9_walkFits_34 ?_
      refine gf_v (k := 5) (v := .ref (qa 5 6)) cx' hP 15 i_X1 rfl rfl (by decide) kw_132 rfl rfl dX9_walkFits_37 ?_
      refine lv_iload_n hx hb dX9_walkFits_40 rfl (lv_at hl 0 rfl) ?_
      refine va_iald hx hb hK hP 21 0 rfl rfl h.1 dX9_walkFits_41 ?_
      have h := h.2
      refine lv_aload_n hx hb dX9_walkFits_42 rfl (lv_at hl 1 rfl) ?_
      refine gf_v (k := 4) (v := .ref (qa 5 0)) cx' hP 0 i_X9 rfl rfl (by decide) kw_268 rfl rfl dX9_walkFits_43 ?_
      refine lv_iload_n hx hb dX9_walkFits_46 rfl (lv_at hl 2 rfl) ?_
      refine lv_iload_n hx hb dX9_walkFits_47 rfl (lv_at hl 0 rfl) ?_
      refine callP_i (wc := ww_X1 cI cJ (qa 5) (C 5)) (wr_C_5 cI cJ qa C L) (fun (_u : Unit) => wC cI cJ qa C L) [15, 16, 17, 18, 19, 20, 21, 22] [0, 1, 2, 3, 4, 5, 6, 7, 8, 9, 10, 11, 12, 13, 14, 23, 24, 25, 26, 27, 28, 29, 30, 31, 32, 33, 34, 35, 36, 37, 38, 39] [0, 1, 2, 3, 4, 5, 6, 7, 8, 9, 10, 11, 12, 13, 14, 32, 33, 34, 35, 36, 37, 38, 39, 15, 16, 17, 18, 19, 20, 21, 22, 23, 24, 25, 26, 27, 28, 29, 30, 31] rfl rfl rfl (by decide) (fun _ => rfl) rfl hP hD hS hA (fun hPc hDc => run_V (As := [.int x1, .int x3_2]) (rest := [.int (C 5 6 (Int32.toNatClampNeg x3_2))]) cx' (c_X1_gaveTo l H.size (qa 5) (C 5) x1 x3_2 _ h) mv_X1_gaveTo kw_427 rfl rfl ⟨Nat.le_of_ble_eq_true rfl, Nat.le_of_ble_eq_true rfl⟩ hPc hDc rfl rfl rfl hl.1 rfl (Nat.le_of_ble_eq_true rfl) dX9_walkFits_48 ⟨Nat.zero_le _, Nat.zero_le _⟩) rfl (fun r_5 u9 H locs hP hD hS h => ?_)
      have hP : va_P (dC, dI) vwCl (wC cI cJ qa C L) H := hP
      have hD : va_D A (wC cI cJ qa C L) := hD
      refine lv_isub hx hb dX9_walkFits_51 ?_
      refine lv_topi (fun x4_6 ex4_6 => ?_)
      have h := h x4_6 ex4_6
      refine lv_istore (lv' := [(4, .int x4_6), (3, .int x3_2), (0, .ref (qa 0 0)), (1, .int x1), (2, .int x2)]) hx hb dX9_walkFits_52 hl (by decide) rfl (fun ls hl => ?_)
      refine lv_iload hx hb dX9_walkFits_54 (lv_at hl 0 rfl) ?_
      refine lv_aload_n hx hb dX9_walkFits_56 rfl (lv_at hl 2 rfl) ?_
      refine gf_v (k := 9) (v := .ref (qa 10 0)) cx' hP 0 i_X9 rfl rfl (by decide) kw_273 rfl rfl dX9_walkFits_57 ?_
      refine gf_v (k := 0) (v := .ref (qa 10 1)) cx' hP 37 i_X8 rfl rfl (by decide) kw_218 rfl rfl dX9_walkFits_60 ?_
      refine lv_iload_n hx hb dX9_walkFits_63 rfl (lv_at hl 1 rfl) ?_
      refine va_iald hx hb hK hP 38 0 rfl rfl h.1 dX9_walkFits_64 ?_
      have h := h.2
      refine lv_iadd hx hb dX9_walkFits_65 ?_
      refine lv_aload_n hx hb dX9_walkFits_66 rfl (lv_at hl 2 rfl) ?_
      refine gf_v (k := 5) (v := .ref (qa 6 0)) cx' hP 0 i_X9 rfl rfl (by decide) kw_269 rfl rfl dX9_walkFits_67 ?_
      refine gf_v (k := 1) (v := .ref (qa 6 2)) cx' hP 23 i_X6 rfl rfl (by decide) kw_163 rfl rfl dX9_walkFits_70 ?_
      refine lv_iload_n hx hb dX9_walkFits_73 rfl (lv_at hl 4 rfl) ?_
      refine va_iald hx hb hK hP 25 0 rfl rfl h.1 dX9_walkFits_74 ?_
      have h := h.2
      refine lv_icmp_eq (tgt := 80) hx hb dX9_walkFits_75 (by decide) (fun c_7 => ?_) (fun c_7 => ?_)
      · have h := h.1 c_7
        obtain ⟨x2_8, ex2_8⟩ : ∃ z : Int32, z = x2 + 1 := ⟨_, rfl⟩
        have h := h x2_8 ex2_8
        refine lv_iinc (v := x2_8) (lv' := [(2, .int x2_8), (4, .int x4_6), (3, .int x3_2), (0, .ref (qa 0 0)), (1, .int x1)]) hx hb dX9_walkFits_80 hl (k := 4) rfl (by rw [ex2_8]; rfl) (by decide) rfl (fun ls hl => ?_)
        refine lv_goto (tgt := 2) hx hb dX9_walkFits_83 (by decide) ?_
        exact ih x1 x2_8 H locs ls hP hD hS (lv_sub hl [3, 4, 0] rfl) h
      have h := h.2 c_7
      refine lv_iconst (v := 0) hx hb dX9_walkFits_78 (by decide) ?_
      exact rt_z (v := 0) (u := ()) cx (Or.inl rfl) hP hD hS h dX9_walkFits_79
    have h := h.2 c_4
    refine lv_iconst (v := 0) hx hb dX9_walkFits_31 (by decide) ?_
    exact rt_z (v := 0) (u := ()) cx (Or.inl rfl) hP hD hS h dX9_walkFits_32
set_option maxHeartbeats 4000000 in
set_option maxRecDepth 100000 in
theorem w_X9_walkFits_0 {p : Program} {l : Launch} {e : Env} {s : State} {m : MethodId} {args : Array Value} {below : List Frame} {meth : Method} {c : Code} {dC : Nat → ClassId} {dI : Nat → Nat → Nat} {cI cJ : ClassId} {A : Nat → Prop} (cx : CX RX9 cX9_walkFits (some .boolean) 5 p s m args meth c (dC, dI) (TY cI cJ)) (hA : ∀ q, s.heap.size ≤ q → A q) {qa : Nat → Nat → Nat} {C : (Nat → Mem)} {L : MemL} {post : Int32 → Prop} : ∀ (x1 : Int32) (H : Heap) (locs : List Loc) (ls : Array Slot), va_P (dC, dI) vwCl (wC cI cJ qa C L) H → va_D A (wC cI cJ qa C L) → va_S A s.heap H locs → lv_has ls 5 [(0, .ref (qa 0 0)), (1, .int x1)] → b_X9_walkFits_0 C L post x1 → W p l e ({ frames := 1, cells := 0, slots := 0, locals := 22 }) s m args below meth c H locs 0 0 (MQ below (va_Qi (S := Unit) (fun (r : Int32) (_u : Unit) => post r) (fun _u t => AT (dC, dI) (TY cI cJ) A (wC cI cJ qa C L) t) A) args s 0 0 A) (F0 m 0 ls []) := by
  obtain ⟨hx, hb, hr, hml, hown, hts, hlocks, hK⟩ := id cx
  have cx' : CX RX9 cX9_walkFits (meth.sig.returnType) 5 p s m args meth c (dC, dI) (TY cI cJ) := ⟨hx, hb, rfl, hml, hown, hts, hlocks, hK⟩
  intro x1 H locs ls hP hD hS hl h
  unfold b_X9_walkFits_0 at h
  refine lv_iconst (v := 0) hx hb dX9_walkFits_0 (by decide) ?_
  refine lv_istore_n (lv' := [(2, .int 0), (0, .ref (qa 0 0)), (1, .int x1)]) hx hb dX9_walkFits_1 rfl hl (by decide) rfl (fun ls hl => ?_)
  obtain ⟨n_1, h⟩ := h
  exact w_X9_walkFits_2 cx hA n_1 x1 0 H locs ls hP hD hS (lv_sub hl [1, 2, 0] rfl) h
set_option maxRecDepth 100000 in
theorem c_X9_walkFits (l : Launch) {dC : Nat → ClassId} {dI : Nat → Nat → Nat} {cI cJ : ClassId} (sz : Nat) (qa : Nat → Nat → Nat) (C : Nat → Mem) (L : MemL) (x1 : Int32) (post : Int32 → Prop) (h : wp_X9_walkFits C L x1 post) : Met l yX9_walkFits (Cond.code yX9_walkFits cX9_walkFits 5 (some .boolean) :: gt) ({ frames := 1, cells := 0, slots := 0, locals := 22 }) (va_Pc [.ref (qa 0 0), .int x1] (PRE (dC, dI) (TY cI cJ) (wC cI cJ qa C L) sz)) (va_Qi (S := Unit) (fun (r : Int32) (_u : Unit) => post r) (fun _u t => AT (dC, dI) (TY cI cJ) (va_A (wC cI cJ qa C L) sz) (wC cI cJ qa C L) t) (va_A (wC cI cJ qa C L) sz)) 0 0 (va_A (wC cI cJ qa C L) sz) :=
  met_of (own := RX9) (Qf := fun A => va_Qi (S := Unit) (fun (r : Int32) (_u : Unit) => post r) (fun _u t => AT (dC, dI) (TY cI cJ) A (wC cI cJ qa C L) t) A) (by decide) rfl (Nat.le_of_ble_eq_true rfl) rfl (fun p e s m below meth c A cx hA ls hP hD hS hl => w_X9_walkFits_0 cx hA x1 _ _ ls hP hD hS hl h)
theorem mv_X9_walkFits : MV yX9_walkFits cX9_walkFits 5 (some .boolean) 1 := ⟨⟨kw_564, kw_1, by decide +kernel⟩, kw_563, ksel_10⟩
set_option maxHeartbeats 4000000 in
set_option maxRecDepth 100000 in
theorem w_X9_began_57 {p : Program} {l : Launch} {e : Env} {s : State} {m : MethodId} {args : Array Value} {below : List Frame} {meth : Method} {c : Code} {dC : Nat → ClassId} {dI : Nat → Nat → Nat} {cI cJ : ClassId} {A : Nat → Prop} (cx : CX RX9 cX9_began (some .int) 4 p s m args meth c (dC, dI) (TY cI cJ)) (hA : ∀ q, s.heap.size ≤ q → A q) {qa : Nat → Nat → Nat} {post : Int32 → (Nat → Mem) → MemL → Prop} {k15 : Int32 → Int32 → Int32 → (Nat → Mem) → MemL → Prop} (hk15 : ∀ (x1 : Int32) (x2 : Int32) (x3 : Int32) (C : (Nat → Mem)) (L : MemL) (H : Heap) (locs : List Loc) (ls : Array Slot), va_P (dC, dI) vwCl (wC cI cJ qa C L) H → va_D A (wC cI cJ qa C L) → va_S A s.heap H locs → lv_has ls 4 [(0, .ref (qa 0 0)), (1, .int x1), (2, .int x2), (3, .int x3)] → k15 x1 x2 x3 C L → W p l e ({ frames := 2, cells := 0, slots := 0, locals := 54 }) s m args below meth c H locs 0 0 (MQ below (va_Qi (S := (Nat → Mem) × MemL) (fun (r : Int32) (u : (Nat → Mem) × MemL) => post r u.1 u.2) (fun u t => AT (dC, dI) (TY cI cJ) A (wC cI cJ qa (u.1) (u.2)) t) A) args s 0 0 A) (F0 m 15 ls [])) : ∀ (x1 : Int32) (x2 : Int32) (x3 : Int32) (C : (Nat → Mem)) (L : MemL) (H : Heap) (locs : List Loc) (ls : Array Slot), va_P (dC, dI) vwCl (wC cI cJ qa C L) H → va_D A (wC cI cJ qa C L) → va_S A s.heap H locs → lv_has ls 4 [(0, .ref (qa 0 0)), (1, .int x1), (2, .int x2), (3, .int x3)] → b_X9_began_57 post k15 x1 x2 x3 C L → W p l e ({ frames := 2, cells := 0, slots := 0, locals := 54 }) s m args below meth c H locs 0 0 (MQ below (va_Qi (S := (Nat → Mem) × MemL) (fun (r : Int32) (u : (Nat → Mem) × MemL) => post r u.1 u.2) (fun u t => AT (dC, dI) (TY cI cJ) A (wC cI cJ qa (u.1) (u.2)) t) A) args s 0 0 A) (F0 m 57 ls []) := by
  obtain ⟨hx, hb, hr, hml, hown, hts, hlocks, hK⟩ := id cx
  have cx' : CX RX9 cX9_began (meth.sig.returnType) 4 p s m args meth c (dC, dI) (TY cI cJ) := ⟨hx, hb, rfl, hml, hown, hts, hlocks, hK⟩
  intro x1 x2 x3 C L H locs ls hP hD hS hl h
  unfold b_X9_began_57 at h
  obtain ⟨x3_1, ex3_1⟩ : ∃ z : Int32, z = x3 + 1 := ⟨_, rfl⟩
  have h := h x3_1 ex3_1
  refine lv_iinc (v := x3_1) (lv' := [(3, .int x3_1), (0, .ref (qa 0 0)), (1, .int x1), (2, .int x2)]) hx hb dX9_began_57 hl (k := 3) rfl (by rw [ex3_1]; rfl) (by decide) rfl (fun ls hl => ?_)
  refine lv_goto (tgt := 15) hx hb dX9_began_60 (by decide) ?_
  exact hk15 x1 x2 x3_1 C L H locs ls hP hD hS (lv_sub hl [1, 2, 3, 0] rfl) h
set_option maxHeartbeats 4000000 in
set_option maxRecDepth 100000 in
theorem w_X9_began_15 {p : Program} {l : Launch} {e : Env} {s : State} {m : MethodId} {args : Array Value} {below : List Frame} {meth : Method} {c : Code} {dC : Nat → ClassId} {dI : Nat → Nat → Nat} {cI cJ : ClassId} {A : Nat → Prop} (cx : CX RX9 cX9_began (some .int) 4 p s m args meth c (dC, dI) (TY cI cJ)) (hA : ∀ q, s.heap.size ≤ q → A q) {qa : Nat → Nat → Nat} {post : Int32 → (Nat → Mem) → MemL → Prop} : ∀ (n : Nat) (x1 : Int32) (x2 : Int32) (x3 : Int32) (C : (Nat → Mem)) (L : MemL) (H : Heap) (locs : List Loc) (ls : Array Slot), va_P (dC, dI) vwCl (wC cI cJ qa C L) H → va_D A (wC cI cJ qa C L) → va_S A s.heap H locs → lv_has ls 4 [(0, .ref (qa 0 0)), (1, .int x1), (2, .int x2), (3, .int x3)] → b_X9_began_15 post n x1 x2 x3 C L → W p l e ({ frames := 2, cells := 0, slots := 0, locals := 54 }) s m args below meth c H locs 0 0 (MQ below (va_Qi (S := (Nat → Mem) × MemL) (fun (r : Int32) (u : (Nat → Mem) × MemL) => post r u.1 u.2) (fun u t => AT (dC, dI) (TY cI cJ) A (wC cI cJ qa (u.1) (u.2)) t) A) args s 0 0 A) (F0 m 15 ls []) := by
  obtain ⟨hx, hb, hr, hml, hown, hts, hlocks, hK⟩ := id cx
  have cx' : CX RX9 cX9_began (meth.sig.returnType) 4 p s m args meth c (dC, dI) (TY cI cJ) := ⟨hx, hb, rfl, hml, hown, hts, hlocks, hK⟩
  intro n
  induction n with
  | zero =>
    intro x1 x2 x3 C L H locs ls hP hD hS hl h
    exact False.elim h
  | succ n ih =>
    intro x1 x2 x3 C L H locs ls hP hD hS hl h
    unfold b_X9_began_15 at h
    refine lv_iload_n hx hb dX9_began_15 rfl (lv_at hl 3 rfl) ?_
    refine lv_bipush (v := 16) hx hb dX9_began_16 (by decide) ?_
    refine lv_icmp_ge (tgt := 63) hx hb dX9_began_18 (by decide) (fun c_1 => ?_) (fun c_1 => ?_)
    · have h := h.1 c_1
      refine lv_iload_n hx hb dX9_began_63 rfl (lv_at hl 2 rfl) ?_
      exact rt_i (v := x2) (u := (C, L)) cx hP hD hS h dX9_began_64
    have h := h.2 c_1
    refine lv_aload_n hx hb dX9_began_21 rfl (lv_at hl 0 rfl) ?_
    refine gf_v (k := 9) (v := .ref (qa 10 0)) cx' hP 0 i_X9 rfl rfl (by decide) kw_273 rfl rfl dX9_began_22 ?_
    refine lv_aload_n hx hb dX9_began_25 rfl (lv_at hl 0 rfl) ?_
    refine gf_v (k := 2) (v := .ref (qa 3 0)) cx' hP 0 i_X9 rfl rfl (by decide) kw_266 rfl rfl dX9_began_26 ?_
    refine lv_aload_n hx hb dX9_began_29 rfl (lv_at hl 0 rfl) ?_
    refine gf_v (k := 3) (v := .ref (qa 4 0)) cx' hP 0 i_X9 rfl rfl (by decide) kw_267 rfl rfl dX9_began_30 ?_
    refine lv_iload_n hx hb dX9_began_33 rfl (lv_at hl 1 rfl) ?_
    refine lv_iload_n hx hb dX9_began_34 rfl (lv_at hl 3 rfl) ?_
    refine lv_iconst (v := 1) hx hb dX9_began_35 (by decide) ?_
    refine lv_ishr hx hb dX9_began_36 ?_
    refine lv_iload_n hx hb dX9_began_37 rfl (lv_at hl 3 rfl) ?_
    refine lv_iconst (v := 1) hx hb dX9_began_38 (by decide) ?_
    refine lv_iand hx hb dX9_began_39 ?_
    refine callP_v (wc := ww_X8_X4_X2 cI cJ (qa 10) (C 10) (qa 3) (C 3) (qa 4) (C 4)) (wr_C_3_4_10 cI cJ qa C L) (fun (u : Mem) => wC cI cJ qa (up3 C 10 (u)) L) [37, 38, 5, 6, 7, 8, 9, 10, 11, 12, 13, 14] [0, 1, 2, 3, 4, 15, 16, 17, 18, 19, 20, 21, 22, 23, 24, 25, 26, 27, 28, 29, 30, 31, 32, 33, 34, 35, 36, 39] [0, 1, 2, 3, 4, 30, 31, 32, 33, 34, 35, 36, 37, 38, 39, 5, 6, 7, 8, 9, 10, 11, 12, 13, 14, 15, 16, 17, 18, 19, 20, 21, 22, 23, 24, 25, 26, 28, 29, 27] rfl rfl rfl (by decide) (fun _ => rfl) rfl hP hD hS hA (fun hPc hDc => run_V (As := [.ref (qa 3 0), .ref (qa 4 0), .int x1, .int (x3 >>> (1 &&& 31)), .int (x3 &&& 1)]) (rest := []) cx' (c_X8_goFrom l H.size (qa 10) (C 10) (qa 3) (C 3) (qa 4) (C 4) x1 (x3 >>> (1 &&& 31)) (x3 &&& 1) _ h) mv_X8_goFrom kw_560 rfl rfl ⟨Nat.le_of_ble_eq_true rfl, Nat.le_of_ble_eq_true rfl⟩ hPc hDc rfl rfl rfl hl.1 rfl (Nat.le_of_ble_eq_true rfl) dX9_began_40 ⟨Nat.zero_le _, Nat.zero_le _⟩) rfl (fun u9 H locs hP hD hS h => ?_)
    obtain ⟨u_2, rfl⟩ : ∃ z, z = u9 := ⟨_, rfl⟩
    obtain ⟨C_3, eC_3⟩ : ∃ z : Nat → Mem, z = up3 C 10 u_2 := ⟨_, rfl⟩
    have h := h C_3 eC_3
    have hP : va_P (dC, dI) vwCl (wC cI cJ qa C_3 L) H := by subst eC_3; exact hP
    have hD : va_D A (wC cI cJ qa C_3 L) := by subst eC_3; exact hD
    refine lv_aload_n hx hb dX9_began_43 rfl (lv_at hl 0 rfl) ?_
    refine lv_iload_n hx hb dX9_began_44 rfl (lv_at hl 1 rfl) ?_
    refine call_i (run_V (As := [.int x1]) (rest := []) cx' (c_X9_walkFits l H.size qa C_3 L x1 _ h) mv_X9_walkFits kw_561 rfl rfl ⟨Nat.le_of_ble_eq_true rfl, Nat.le_of_ble_eq_true rfl⟩ hP hD rfl rfl rfl hl.1 rfl (Nat.le_of_ble_eq_true rfl) dX9_began_45 ⟨Nat.zero_le _, Nat.zero_le _⟩) hD hS hA (fun r_4 u9 H locs hP hD hS h => ?_)
    have hP : va_P (dC, dI) vwCl (wC cI cJ qa C_3 L) H := hP
    have hD : va_D A (wC cI cJ qa C_3 L) := hD
    refine lv_if_eq (tgt := 57) hx hb dX9_began_48 (by decide) (fun c_5 => ?_) (fun c_5 => ?_)
    · have h := h.1 c_5
      exact w_X9_began_57 cx hA ih x1 x2 x3 C_3 L H locs ls hP hD hS (lv_sub hl [0, 1, 2, 3] rfl) h
    have h := h.2 c_5
    refine lv_iload_n hx hb dX9_began_51 rfl (lv_at hl 2 rfl) ?_
    refine lv_iconst (v := 1) hx hb dX9_began_52 (by decide) ?_
    refine lv_iload_n hx hb dX9_began_53 rfl (lv_at hl 3 rfl) ?_
    refine lv_ishl hx hb dX9_began_54 ?_
    refine lv_ior hx hb dX9_began_55 ?_
    refine lv_topi (fun x2_6 ex2_6 => ?_)
    have h := h x2_6 ex2_6
    refine lv_istore_n (lv' := [(2, .int x2_6), (0, .ref (qa 0 0)), (1, .int x1), (3, .int x3)]) hx hb dX9_began_56 rfl hl (by decide) rfl (fun ls hl => ?_)
    exact w_X9_began_57 cx hA ih x1 x2_6 x3 C_3 L H locs ls hP hD hS (lv_sub hl [1, 2, 0, 3] rfl) h
set_option maxHeartbeats 4000000 in
set_option maxRecDepth 100000 in
theorem w_X9_began_0 {p : Program} {l : Launch} {e : Env} {s : State} {m : MethodId} {args : Array Value} {below : List Frame} {meth : Method} {c : Code} {dC : Nat → ClassId} {dI : Nat → Nat → Nat} {cI cJ : ClassId} {A : Nat → Prop} (cx : CX RX9 cX9_began (some .int) 4 p s m args meth c (dC, dI) (TY cI cJ)) (hA : ∀ q, s.heap.size ≤ q → A q) {qa : Nat → Nat → Nat} {post : Int32 → (Nat → Mem) → MemL → Prop} : ∀ (x1 : Int32) (C : (Nat → Mem)) (L : MemL) (H : Heap) (locs : List Loc) (ls : Array Slot), va_P (dC, dI) vwCl (wC cI cJ qa C L) H → va_D A (wC cI cJ qa C L) → va_S A s.heap H locs → lv_has ls 4 [(0, .ref (qa 0 0)), (1, .int x1)] → b_X9_began_0 post x1 C L → W p l e ({ frames := 2, cells := 0, slots := 0, locals := 54 }) s m args below meth c H locs 0 0 (MQ below (va_Qi (S := (Nat → Mem) × MemL) (fun (r : Int32) (u : (Nat → Mem) × MemL) => post r u.1 u.2) (fun u t => AT (dC, dI) (TY cI cJ) A (wC cI cJ qa (u.1) (u.2)) t) A) args s 0 0 A) (F0 m 0 ls []) := by
  obtain ⟨hx, hb, hr, hml, hown, hts, hlocks, hK⟩ := id cx
  have cx' : CX RX9 cX9_began (meth.sig.returnType) 4 p s m args meth c (dC, dI) (TY cI cJ) := ⟨hx, hb, rfl, hml, hown, hts, hlocks, hK⟩
  intro x1 C L H locs ls hP hD hS hl h
  unfold b_X9_began_0 at h
  refine lv_aload_n hx hb dX9_began_0 rfl (lv_at hl 0 rfl) ?_
  refine lv_iload_n hx hb dX9_began_1 rfl (lv_at hl 1 rfl) ?_
  refine call_i (run_V (As := [.int x1]) (rest := []) cx' (c_X9_isGuest l H.size qa C L x1 _ h) mv_X9_isGuest kw_411 rfl rfl ⟨Nat.le_of_ble_eq_true rfl, Nat.le_of_ble_eq_true rfl⟩ hP hD rfl rfl rfl hl.1 rfl (Nat.le_of_ble_eq_true rfl) dX9_began_2 ⟨Nat.zero_le _, Nat.zero_le _⟩) hD hS hA (fun r_1 u9 H locs hP hD hS h => ?_)
  have hP : va_P (dC, dI) vwCl (wC cI cJ qa C L) H := hP
  have hD : va_D A (wC cI cJ qa C L) := hD
  refine lv_if_ne (tgt := 11) hx hb dX9_began_5 (by decide) (fun c_2 => ?_) (fun c_2 => ?_)
  · have h := h.1 c_2
    refine lv_iconst (v := 0) hx hb dX9_began_11 (by decide) ?_
    refine lv_istore_n (lv' := [(2, .int 0), (0, .ref (qa 0 0)), (1, .int x1)]) hx hb dX9_began_12 rfl hl (by decide) rfl (fun ls hl => ?_)
    refine lv_iconst (v := 0) hx hb dX9_began_13 (by decide) ?_
    refine lv_istore_n (lv' := [(3, .int 0), (2, .int 0), (0, .ref (qa 0 0)), (1, .int x1)]) hx hb dX9_began_14 rfl hl (by decide) rfl (fun ls hl => ?_)
    obtain ⟨n_3, h⟩ := h
    exact w_X9_began_15 cx hA n_3 x1 0 0 C L H locs ls hP hD hS (lv_sub hl [2, 3, 1, 0] rfl) h
  have h := h.2 c_2
  refine lv_bipush (v := (-2)) hx hb dX9_began_8 (by decide) ?_
  exact rt_i (v := (-2)) (u := (C, L)) cx hP hD hS h dX9_began_10
set_option maxRecDepth 100000 in
theorem c_X9_began (l : Launch) {dC : Nat → ClassId} {dI : Nat → Nat → Nat} {cI cJ : ClassId} (sz : Nat) (qa : Nat → Nat → Nat) (C : Nat → Mem) (L : MemL) (x1 : Int32) (post : Int32 → (Nat → Mem) → MemL → Prop) (h : wp_X9_began C L x1 post) : Met l yX9_began (Cond.code yX9_began cX9_began 4 (some .int) :: gt) ({ frames := 2, cells := 0, slots := 0, locals := 54 }) (va_Pc [.ref (qa 0 0), .int x1] (PRE (dC, dI) (TY cI cJ) (wC cI cJ qa C L) sz)) (va_Qi (S := (Nat → Mem) × MemL) (fun (r : Int32) (u : (Nat → Mem) × MemL) => post r u.1 u.2) (fun u t => AT (dC, dI) (TY cI cJ) (va_A (wC cI cJ qa C L) sz) (wC cI cJ qa (u.1) (u.2)) t) (va_A (wC cI cJ qa C L) sz)) 0 0 (va_A (wC cI cJ qa C L) sz) :=
  met_of (own := RX9) (Qf := fun A => va_Qi (S := (Nat → Mem) × MemL) (fun (r : Int32) (u : (Nat → Mem) × MemL) => post r u.1 u.2) (fun u t => AT (dC, dI) (TY cI cJ) A (wC cI cJ qa (u.1) (u.2)) t) A) (by decide) rfl (Nat.le_of_ble_eq_true rfl) rfl (fun p e s m below meth c A cx hA ls hP hD hS hl => w_X9_began_0 cx hA x1 C L _ _ ls hP hD hS hl h)
theorem mv_X9_began : MV yX9_began cX9_began 4 (some .int) 1 := ⟨⟨kw_559, kw_1, by decide +kernel⟩, kw_557, kw_558⟩
set_option maxHeartbeats 4000000 in
set_option maxRecDepth 100000 in
theorem w_X9_alikeTo_52 {p : Program} {l : Launch} {e : Env} {s : State} {m : MethodId} {args : Array Value} {below : List Frame} {meth : Method} {c : Code} {dC : Nat → ClassId} {dI : Nat → Nat → Nat} {cI cJ : ClassId} {A : Nat → Prop} (cx : CX RX9 cX9_alikeTo (some .int) 6 p s m args meth c (dC, dI) (TY cI cJ)) (hA : ∀ q, s.heap.size ≤ q → A q) {qa : Nat → Nat → Nat} {C : (Nat → Mem)} {L : MemL} {post : Int32 → Prop} {k6 : Int32 → Int32 → Int32 → Int32 → Int32 → Prop} (hk6 : ∀ (x1 : Int32) (x2 : Int32) (x3 : Int32) (x4 : Int32) (x5 : Int32) (H : Heap) (locs : List Loc) (ls : Array Slot), va_P (dC, dI) vwCl (wC cI cJ qa C L) H → va_D A (wC cI cJ qa C L) → va_S A s.heap H locs → lv_has ls 6 [(0, .ref (qa 0 0)), (1, .int x1), (2, .int x2), (3, .int x3), (4, .int x4), (5, .int x5)] → k6 x1 x2 x3 x4 x5 → W p l e ({ frames := 1, cells := 0, slots := 0, locals := 22 }) s m args below meth c H locs 0 0 (MQ below (va_Qi (S := Unit) (fun (r : Int32) (_u : Unit) => post r) (fun _u t => AT (dC, dI) (TY cI cJ) A (wC cI cJ qa C L) t) A) args s 0 0 A) (F0 m 6 ls [])) : ∀ (x1 : Int32) (x2 : Int32) (x3 : Int32) (x4 : Int32) (x5 : Int32) (H : Heap) (locs : List Loc) (ls : Array Slot), va_P (dC, dI) vwCl (wC cI cJ qa C L) H → va_D A (wC cI cJ qa C L) → va_S A s.heap H locs → lv_has ls 6 [(0, .ref (qa 0 0)), (1, .int x1), (2, .int x2), (3, .int x3), (4, .int x4), (5, .int x5)] → b_X9_alikeTo_52 C L post k6 x1 x2 x3 x4 x5 → W p l e ({ frames := 1, cells := 0, slots := 0, locals := 22 }) s m args below meth c H locs 0 0 (MQ below (va_Qi (S := Unit) (fun (r : Int32) (_u : Unit) => post r) (fun _u t => AT (dC, dI) (TY cI cJ) A (wC cI cJ qa C L) t) A) args s 0 0 A) (F0 m 52 ls []) := by
  obtain ⟨hx, hb, hr, hml, hown, hts, hlocks, hK⟩ := id cx
  have cx' : CX RX9 cX9_alikeTo (meth.sig.returnType) 6 p s m args meth c (dC, dI) (TY cI cJ) := ⟨hx, hb, rfl, hml, hown, hts, hlocks, hK⟩
  intro x1 x2 x3 x4 x5 H locs ls hP hD hS hl h
  unfold b_X9_alikeTo_52 at h
  obtain ⟨x5_1, ex5_1⟩ : ∃ z : Int32, z = x5 + 1 := ⟨_, rfl⟩
  have h := h x5_1 ex5_1
  refine lv_iinc (v := x5_1) (lv' := [(5, .int x5_1), (0, .ref (qa 0 0)), (1, .int x1), (2, .int x2), (3, .int x3), (4, .int x4)]) hx hb dX9_alikeTo_52 hl (k := 5) rfl (by rw [ex5_1]; rfl) (by decide) rfl (fun ls hl => ?_)
  refine lv_goto (tgt := 6) hx hb dX9_alikeTo_55 (by decide) ?_
  exact hk6 x1 x2 x3 x4 x5_1 H locs ls hP hD hS (lv_sub hl [1, 2, 3, 4, 5, 0] rfl) h
set_option maxHeartbeats 4000000 in
set_option maxRecDepth 100000 in
theorem w_X9_alikeTo_6 {p : Program} {l : Launch} {e : Env} {s : State} {m : MethodId} {args : Array Value} {below : List Frame} {meth : Method} {c : Code} {dC : Nat → ClassId} {dI : Nat → Nat → Nat} {cI cJ : ClassId} {A : Nat → Prop} (cx : CX RX9 cX9_alikeTo (some .int) 6 p s m args meth c (dC, dI) (TY cI cJ)) (hA : ∀ q, s.heap.size ≤ q → A q) {qa : Nat → Nat → Nat} {C : (Nat → Mem)} {L : MemL} {post : Int32 → Prop} : ∀ (n : Nat) (x1 : Int32) (x2 : Int32) (x3 : Int32) (x4 : Int32) (x5 : Int32) (H : Heap) (locs : List Loc) (ls : Array Slot), va_P (dC, dI) vwCl (wC cI cJ qa C L) H → va_D A (wC cI cJ qa C L) → va_S A s.heap H locs → lv_has ls 6 [(0, .ref (qa 0 0)), (1, .int x1), (2, .int x2), (3, .int x3), (4, .int x4), (5, .int x5)] → b_X9_alikeTo_6 C L post n x1 x2 x3 x4 x5 → W p l e ({ frames := 1, cells := 0, slots := 0, locals := 22 }) s m args below meth c H locs 0 0 (MQ below (va_Qi (S := Unit) (fun (r : Int32) (_u : Unit) => post r) (fun _u t => AT (dC, dI) (TY cI cJ) A (wC cI cJ qa C L) t) A) args s 0 0 A) (F0 m 6 ls []) := by
  obtain ⟨hx, hb, hr, hml, hown, hts, hlocks, hK⟩ := id cx
  have cx' : CX RX9 cX9_alikeTo (meth.sig.returnType) 6 p s m args meth c (dC, dI) (TY cI cJ) := ⟨hx, hb, rfl, hml, hown, hts, hlocks, hK⟩
  intro n
  induction n with
  | zero =>
    intro x1 x2 x3 x4 x5 H locs ls hP hD hS hl h
    exact False.elim h
  | succ n ih =>
    intro x1 x2 x3 x4 x5 H locs ls hP hD hS hl h
    unfold b_X9_alikeTo_6 at h
    refine lv_iload hx hb dX9_alikeTo_6 (lv_at hl 5 rfl) ?_
    refine lv_aload_n hx hb dX9_alikeTo_8 rfl (lv_at hl 0 rfl) ?_
    refine gf_v (k := 3) (v := .ref (qa 4 0)) cx' hP 0 i_X9 rfl rfl (by decide) kw_267 rfl rfl dX9_alikeTo_9 ?_
    refine gf_v (k := 4) (v := .int (C 4 0 4)) cx' hP 10 i_X2 rfl rfl (by decide) kw_104 rfl rfl dX9_alikeTo_12 ?_
    refine lv_icmp_ge (tgt := 58) hx hb dX9_alikeTo_15 (by decide) (fun c_1 => ?_) (fun c_1 => ?_)
    · have h := h.1 c_1
      refine lv_iload hx hb dX9_alikeTo_58 (lv_at hl 4 rfl) ?_
      exact rt_i (v := x4) (u := ()) cx hP hD hS h dX9_alikeTo_60
    have h := h.2 c_1
    refine lv_iload_n hx hb dX9_alikeTo_18 rfl (lv_at hl 3 rfl) ?_
    refine lv_iload hx hb dX9_alikeTo_19 (lv_at hl 5 rfl) ?_
    refine lv_ishr hx hb dX9_alikeTo_21 ?_
    refine lv_iconst (v := 1) hx hb dX9_alikeTo_22 (by decide) ?_
    refine lv_iand hx hb dX9_alikeTo_23 ?_
    refine lv_if_eq (tgt := 52) hx hb dX9_alikeTo_24 (by decide) (fun c_2 => ?_) (fun c_2 => ?_)
    · have h := h.1 c_2
      exact w_X9_alikeTo_52 cx hA ih x1 x2 x3 x4 x5 H locs ls hP hD hS (lv_sub hl [0, 1, 2, 3, 4, 5] rfl) h
    have h := h.2 c_2
    refine lv_aload_n hx hb dX9_alikeTo_27 rfl (lv_at hl 0 rfl) ?_
    refine gf_v (k := 4) (v := .ref (qa 5 0)) cx' hP 0 i_X9 rfl rfl (by decide) kw_268 rfl rfl dX9_alikeTo_28 ?_
    refine lv_iload hx hb dX9_alikeTo_31 (lv_at hl 5 rfl) ?_
    refine lv_iload_n hx hb dX9_alikeTo_33 rfl (lv_at hl 2 rfl) ?_
    refine callP_i (wc := ww_X1 cI cJ (qa 5) (C 5)) (wr_C_5 cI cJ qa C L) (fun (_u : Unit) => wC cI cJ qa C L) [15, 16, 17, 18, 19, 20, 21, 22] [0, 1, 2, 3, 4, 5, 6, 7, 8, 9, 10, 11, 12, 13, 14, 23, 24, 25, 26, 27, 28, 29, 30, 31, 32, 33, 34, 35, 36, 37, 38, 39] [0, 1, 2, 3, 4, 5, 6, 7, 8, 9, 10, 11, 12, 13, 14, 32, 33, 34, 35, 36, 37, 38, 39, 15, 16, 17, 18, 19, 20, 21, 22, 23, 24, 25, 26, 27, 28, 29, 30, 31] rfl rfl rfl (by decide) (fun _ => rfl) rfl hP hD hS hA (fun hPc hDc => run_V (As := [.int x5, .int x2]) (rest := []) cx' (c_X1_gaveTo l H.size (qa 5) (C 5) x5 x2 _ h) mv_X1_gaveTo kw_427 rfl rfl ⟨Nat.le_of_ble_eq_true rfl, Nat.le_of_ble_eq_true rfl⟩ hPc hDc rfl rfl rfl hl.1 rfl (Nat.le_of_ble_eq_true rfl) dX9_alikeTo_34 ⟨Nat.zero_le _, Nat.zero_le _⟩) rfl (fun r_3 u9 H locs hP hD hS h => ?_)
    have hP : va_P (dC, dI) vwCl (wC cI cJ qa C L) H := hP
    have hD : va_D A (wC cI cJ qa C L) := hD
    refine lv_aload_n hx hb dX9_alikeTo_37 rfl (lv_at hl 0 rfl) ?_
    refine gf_v (k := 4) (v := .ref (qa 5 0)) cx' hP 0 i_X9 rfl rfl (by decide) kw_268 rfl rfl dX9_alikeTo_38 ?_
    refine lv_iload_n hx hb dX9_alikeTo_41 rfl (lv_at hl 1 rfl) ?_
    refine lv_iload_n hx hb dX9_alikeTo_42 rfl (lv_at hl 2 rfl) ?_
    refine callP_i (wc := ww_X1 cI cJ (qa 5) (C 5)) (wr_C_5 cI cJ qa C L) (fun (_u : Unit) => wC cI cJ qa C L) [15, 16, 17, 18, 19, 20, 21, 22] [0, 1, 2, 3, 4, 5, 6, 7, 8, 9, 10, 11, 12, 13, 14, 23, 24, 25, 26, 27, 28, 29, 30, 31, 32, 33, 34, 35, 36, 37, 38, 39] [0, 1, 2, 3, 4, 5, 6, 7, 8, 9, 10, 11, 12, 13, 14, 32, 33, 34, 35, 36, 37, 38, 39, 15, 16, 17, 18, 19, 20, 21, 22, 23, 24, 25, 26, 27, 28, 29, 30, 31] rfl rfl rfl (by decide) (fun _ => rfl) rfl hP hD hS hA (fun hPc hDc => run_V (As := [.int x1, .int x2]) (rest := [.int r_3]) cx' (c_X1_gaveTo l H.size (qa 5) (C 5) x1 x2 _ h) mv_X1_gaveTo kw_427 rfl rfl ⟨Nat.le_of_ble_eq_true rfl, Nat.le_of_ble_eq_true rfl⟩ hPc hDc rfl rfl rfl hl.1 rfl (Nat.le_of_ble_eq_true rfl) dX9_alikeTo_43 ⟨Nat.zero_le _, Nat.zero_le _⟩) rfl (fun r_4 u9 H locs hP hD hS h => ?_)
    have hP : va_P (dC, dI) vwCl (wC cI cJ qa C L) H := hP
    have hD : va_D A (wC cI cJ qa C L) := hD
    refine lv_icmp_ne (tgt := 52) hx hb dX9_alikeTo_46 (by decide) (fun c_5 => ?_) (fun c_5 => ?_)
    · have h := h.1 c_5
      exact w_X9_alikeTo_52 cx hA ih x1 x2 x3 x4 x5 H locs ls hP hD hS (lv_sub hl [0, 1, 2, 3, 4, 5] rfl) h
    have h := h.2 c_5
    obtain ⟨x4_6, ex4_6⟩ : ∃ z : Int32, z = x4 + 1 := ⟨_, rfl⟩
    have h := h x4_6 ex4_6
    refine lv_iinc (v := x4_6) (lv' := [(4, .int x4_6), (0, .ref (qa 0 0)), (1, .int x1), (2, .int x2), (3, .int x3), (5, .int x5)]) hx hb dX9_alikeTo_49 hl (k := 4) rfl (by rw [ex4_6]; rfl) (by decide) rfl (fun ls hl => ?_)
    exact w_X9_alikeTo_52 cx hA ih x1 x2 x3 x4_6 x5 H locs ls hP hD hS (lv_sub hl [1, 2, 3, 4, 0, 5] rfl) h
set_option maxHeartbeats 4000000 in
set_option maxRecDepth 100000 in
theorem w_X9_alikeTo_0 {p : Program} {l : Launch} {e : Env} {s : State} {m : MethodId} {args : Array Value} {below : List Frame} {meth : Method} {c : Code} {dC : Nat → ClassId} {dI : Nat → Nat → Nat} {cI cJ : ClassId} {A : Nat → Prop} (cx : CX RX9 cX9_alikeTo (some .int) 6 p s m args meth c (dC, dI) (TY cI cJ)) (hA : ∀ q, s.heap.size ≤ q → A q) {qa : Nat → Nat → Nat} {C : (Nat → Mem)} {L : MemL} {post : Int32 → Prop} : ∀ (x1 : Int32) (x2 : Int32) (x3 : Int32) (H : Heap) (locs : List Loc) (ls : Array Slot), va_P (dC, dI) vwCl (wC cI cJ qa C L) H → va_D A (wC cI cJ qa C L) → va_S A s.heap H locs → lv_has ls 6 [(0, .ref (qa 0 0)), (1, .int x1), (2, .int x2), (3, .int x3)] → b_X9_alikeTo_0 C L post x1 x2 x3 → W p l e ({ frames := 1, cells := 0, slots := 0, locals := 22 }) s m args below meth c H locs 0 0 (MQ below (va_Qi (S := Unit) (fun (r : Int32) (_u : Unit) => post r) (fun _u t => AT (dC, dI) (TY cI cJ) A (wC cI cJ qa C L) t) A) args s 0 0 A) (F0 m 0 ls []) := by
  obtain ⟨hx, hb, hr, hml, hown, hts, hlocks, hK⟩ := id cx
  have cx' : CX RX9 cX9_alikeTo (meth.sig.returnType) 6 p s m args meth c (dC, dI) (TY cI cJ) := ⟨hx, hb, rfl, hml, hown, hts, hlocks, hK⟩
  intro x1 x2 x3 H locs ls hP hD hS hl h
  unfold b_X9_alikeTo_0 at h
  refine lv_iconst (v := 0) hx hb dX9_alikeTo_0 (by decide) ?_
  refine lv_istore (lv' := [(4, .int 0), (0, .ref (qa 0 0)), (1, .int x1), (2, .int x2), (3, .int x3)]) hx hb dX9_alikeTo_1 hl (by decide) rfl (fun ls hl => ?_)
  refine lv_iconst (v := 0) hx hb dX9_alikeTo_3 (by decide) ?_
  refine lv_istore (lv' := [(5, .int 0), (4, .int 0), (0, .ref (qa 0 0)), (1, .int x1), (2, .int x2), (3, .int x3)]) hx hb dX9_alikeTo_4 hl (by decide) rfl (fun ls hl => ?_)
  obtain ⟨n_1, h⟩ := h
  exact w_X9_alikeTo_6 cx hA n_1 x1 x2 x3 0 0 H locs ls hP hD hS (lv_sub hl [2, 3, 4, 5, 1, 0] rfl) h
set_option maxRecDepth 100000 in
theorem c_X9_alikeTo (l : Launch) {dC : Nat → ClassId} {dI : Nat → Nat → Nat} {cI cJ : ClassId} (sz : Nat) (qa : Nat → Nat → Nat) (C : Nat → Mem) (L : MemL) (x1 : Int32) (x2 : Int32) (x3 : Int32) (post : Int32 → Prop) (h : wp_X9_alikeTo C L x1 x2 x3 post) : Met l yX9_alikeTo (Cond.code yX9_alikeTo cX9_alikeTo 6 (some .int) :: gt) ({ frames := 1, cells := 0, slots := 0, locals := 22 }) (va_Pc [.ref (qa 0 0), .int x1, .int x2, .int x3] (PRE (dC, dI) (TY cI cJ) (wC cI cJ qa C L) sz)) (va_Qi (S := Unit) (fun (r : Int32) (_u : Unit) => post r) (fun _u t => AT (dC, dI) (TY cI cJ) (va_A (wC cI cJ qa C L) sz) (wC cI cJ qa C L) t) (va_A (wC cI cJ qa C L) sz)) 0 0 (va_A (wC cI cJ qa C L) sz) :=
  met_of (own := RX9) (Qf := fun A => va_Qi (S := Unit) (fun (r : Int32) (_u : Unit) => post r) (fun _u t => AT (dC, dI) (TY cI cJ) A (wC cI cJ qa C L) t) A) (by decide) rfl (Nat.le_of_ble_eq_true rfl) rfl (fun p e s m below meth c A cx hA ls hP hD hS hl => w_X9_alikeTo_0 cx hA x1 x2 x3 _ _ ls hP hD hS hl h)
theorem mv_X9_alikeTo : MV yX9_alikeTo cX9_alikeTo 6 (some .int) 3 := ⟨⟨kw_577, kw_1, by decide +kernel⟩, kw_576, ksel_12⟩
set_option maxHeartbeats 4000000 in
set_option maxRecDepth 100000 in
theorem w_X9_mostAlike_39 {p : Program} {l : Launch} {e : Env} {s : State} {m : MethodId} {args : Array Value} {below : List Frame} {meth : Method} {c : Code} {dC : Nat → ClassId} {dI : Nat → Nat → Nat} {cI cJ : ClassId} {A : Nat → Prop} (cx : CX RX9 cX9_mostAlike (some .int) 5 p s m args meth c (dC, dI) (TY cI cJ)) (hA : ∀ q, s.heap.size ≤ q → A q) {qa : Nat → Nat → Nat} {C : (Nat → Mem)} {L : MemL} {post : Int32 → Prop} {k5 : Int32 → Int32 → Int32 → Int32 → Prop} (hk5 : ∀ (x1 : Int32) (x2 : Int32) (x3 : Int32) (x4 : Int32) (H : Heap) (locs : List Loc) (ls : Array Slot), va_P (dC, dI) vwCl (wC cI cJ qa C L) H → va_D A (wC cI cJ qa C L) → va_S A s.heap H locs → lv_has ls 5 [(0, .ref (qa 0 0)), (1, .int x1), (2, .int x2), (3, .int x3), (4, .int x4)] → k5 x1 x2 x3 x4 → W p l e ({ frames := 2, cells := 0, slots := 0, locals := 47 }) s m args below meth c H locs 0 0 (MQ below (va_Qi (S := Unit) (fun (r : Int32) (_u : Unit) => post r) (fun _u t => AT (dC, dI) (TY cI cJ) A (wC cI cJ qa C L) t) A) args s 0 0 A) (F0 m 5 ls [])) : ∀ (x1 : Int32) (x2 : Int32) (x3 : Int32) (x4 : Int32) (H : Heap) (locs : List Loc) (ls : Array Slot), va_P (dC, dI) vwCl (wC cI cJ qa C L) H → va_D A (wC cI cJ qa C L) → va_S A s.heap H locs → lv_has ls 5 [(0, .ref (qa 0 0)), (1, .int x1), (2, .int x2), (3, .int x3), (4, .int x4)] → b_X9_mostAlike_39 C L post k5 x1 x2 x3 x4 → W p l e ({ frames := 2, cells := 0, slots := 0, locals := 47 }) s m args below meth c H locs 0 0 (MQ below (va_Qi (S := Unit) (fun (r : Int32) (_u : Unit) => post r) (fun _u t => AT (dC, dI) (TY cI cJ) A (wC cI cJ qa C L) t) A) args s 0 0 A) (F0 m 39 ls []) := by
  obtain ⟨hx, hb, hr, hml, hown, hts, hlocks, hK⟩ := id cx
  have cx' : CX RX9 cX9_mostAlike (meth.sig.returnType) 5 p s m args meth c (dC, dI) (TY cI cJ) := ⟨hx, hb, rfl, hml, hown, hts, hlocks, hK⟩
  intro x1 x2 x3 x4 H locs ls hP hD hS hl h
  unfold b_X9_mostAlike_39 at h
  obtain ⟨x4_1, ex4_1⟩ : ∃ z : Int32, z = x4 + 1 := ⟨_, rfl⟩
  have h := h x4_1 ex4_1
  refine lv_iinc (v := x4_1) (lv' := [(4, .int x4_1), (0, .ref (qa 0 0)), (1, .int x1), (2, .int x2), (3, .int x3)]) hx hb dX9_mostAlike_39 hl (k := 4) rfl (by rw [ex4_1]; rfl) (by decide) rfl (fun ls hl => ?_)
  refine lv_goto (tgt := 5) hx hb dX9_mostAlike_42 (by decide) ?_
  exact hk5 x1 x2 x3 x4_1 H locs ls hP hD hS (lv_sub hl [1, 2, 3, 4, 0] rfl) h
set_option maxHeartbeats 4000000 in
set_option maxRecDepth 100000 in
theorem w_X9_mostAlike_5 {p : Program} {l : Launch} {e : Env} {s : State} {m : MethodId} {args : Array Value} {below : List Frame} {meth : Method} {c : Code} {dC : Nat → ClassId} {dI : Nat → Nat → Nat} {cI cJ : ClassId} {A : Nat → Prop} (cx : CX RX9 cX9_mostAlike (some .int) 5 p s m args meth c (dC, dI) (TY cI cJ)) (hA : ∀ q, s.heap.size ≤ q → A q) {qa : Nat → Nat → Nat} {C : (Nat → Mem)} {L : MemL} {post : Int32 → Prop} : ∀ (n : Nat) (x1 : Int32) (x2 : Int32) (x3 : Int32) (x4 : Int32) (H : Heap) (locs : List Loc) (ls : Array Slot), va_P (dC, dI) vwCl (wC cI cJ qa C L) H → va_D A (wC cI cJ qa C L) → va_S A s.heap H locs → lv_has ls 5 [(0, .ref (qa 0 0)), (1, .int x1), (2, .int x2), (3, .int x3), (4, .int x4)] → b_X9_mostAlike_5 C L post n x1 x2 x3 x4 → W p l e ({ frames := 2, cells := 0, slots := 0, locals := 47 }) s m args below meth c H locs 0 0 (MQ below (va_Qi (S := Unit) (fun (r : Int32) (_u : Unit) => post r) (fun _u t => AT (dC, dI) (TY cI cJ) A (wC cI cJ qa C L) t) A) args s 0 0 A) (F0 m 5 ls []) := by
  obtain ⟨hx, hb, hr, hml, hown, hts, hlocks, hK⟩ := id cx
  have cx' : CX RX9 cX9_mostAlike (meth.sig.returnType) 5 p s m args meth c (dC, dI) (TY cI cJ) := ⟨hx, hb, rfl, hml, hown, hts, hlocks, hK⟩
  intro n
  induction n with
  | zero =>
    intro x1 x2 x3 x4 H locs ls hP hD hS hl h
    exact False.elim h
  | succ n ih =>
    intro x1 x2 x3 x4 H locs ls hP hD hS hl h
    unfold b_X9_mostAlike_5 at h
    refine lv_iload hx hb dX9_mostAlike_5 (lv_at hl 4 rfl) ?_
    refine lv_aload_n hx hb dX9_mostAlike_7 rfl (lv_at hl 0 rfl) ?_
    refine gf_v (k := 3) (v := .ref (qa 4 0)) cx' hP 0 i_X9 rfl rfl (by decide) kw_267 rfl rfl dX9_mostAlike_8 ?_
    refine gf_v (k := 4) (v := .int (C 4 0 4)) cx' hP 10 i_X2 rfl rfl (by decide) kw_104 rfl rfl dX9_mostAlike_11 ?_
    refine lv_icmp_ge (tgt := 45) hx hb dX9_mostAlike_14 (by decide) (fun c_1 => ?_) (fun c_1 => ?_)
    · have h := h.1 c_1
      refine lv_iload_n hx hb dX9_mostAlike_45 rfl (lv_at hl 3 rfl) ?_
      exact rt_i (v := x3) (u := ()) cx hP hD hS h dX9_mostAlike_46
    have h := h.2 c_1
    refine lv_iload_n hx hb dX9_mostAlike_17 rfl (lv_at hl 2 rfl) ?_
    refine lv_iload hx hb dX9_mostAlike_18 (lv_at hl 4 rfl) ?_
    refine lv_ishr hx hb dX9_mostAlike_20 ?_
    refine lv_iconst (v := 1) hx hb dX9_mostAlike_21 (by decide) ?_
    refine lv_iand hx hb dX9_mostAlike_22 ?_
    refine lv_if_eq (tgt := 39) hx hb dX9_mostAlike_23 (by decide) (fun c_2 => ?_) (fun c_2 => ?_)
    · have h := h.1 c_2
      exact w_X9_mostAlike_39 cx hA ih x1 x2 x3 x4 H locs ls hP hD hS (lv_sub hl [0, 1, 2, 3, 4] rfl) h
    have h := h.2 c_2
    refine lv_iload_n hx hb dX9_mostAlike_26 rfl (lv_at hl 3 rfl) ?_
    refine lv_aload_n hx hb dX9_mostAlike_27 rfl (lv_at hl 0 rfl) ?_
    refine lv_iload hx hb dX9_mostAlike_28 (lv_at hl 4 rfl) ?_
    refine lv_iload_n hx hb dX9_mostAlike_30 rfl (lv_at hl 1 rfl) ?_
    refine lv_iload_n hx hb dX9_mostAlike_31 rfl (lv_at hl 2 rfl) ?_
    refine call_i (run_V (As := [.int x4, .int x1, .int x2]) (rest := [.int x3]) cx' (c_X9_alikeTo l H.size qa C L x4 x1 x2 _ h) mv_X9_alikeTo kw_574 rfl rfl ⟨Nat.le_of_ble_eq_true rfl, Nat.le_of_ble_eq_true rfl⟩ hP hD rfl rfl rfl hl.1 rfl (Nat.le_of_ble_eq_true rfl) dX9_mostAlike_32 ⟨Nat.zero_le _, Nat.zero_le _⟩) hD hS hA (fun r_3 u9 H locs hP hD hS h => ?_)
    have hP : va_P (dC, dI) vwCl (wC cI cJ qa C L) H := hP
    have hD : va_D A (wC cI cJ qa C L) := hD
    refine va_mmax hx hb (hml.trans hl.1.symm) hown (hts _ kw_578) (hts _ kw_579) (hts _ kw_12) (hts _ kw_580) (Nat.le_of_ble_eq_true rfl) (Nat.le_of_ble_eq_true rfl) (Nat.le_refl _) (Nat.le_refl _) dX9_mostAlike_35 ?_
    refine lv_topi (fun x3_4 ex3_4 => ?_)
    have h := h x3_4 ex3_4
    refine lv_istore_n (lv' := [(3, .int x3_4), (0, .ref (qa 0 0)), (1, .int x1), (2, .int x2), (4, .int x4)]) hx hb dX9_mostAlike_38 rfl hl (by decide) rfl (fun ls hl => ?_)
    exact w_X9_mostAlike_39 cx hA ih x1 x2 x3_4 x4 H locs ls hP hD hS (lv_sub hl [1, 2, 3, 0, 4] rfl) h
set_option maxHeartbeats 4000000 in
set_option maxRecDepth 100000 in
theorem w_X9_mostAlike_0 {p : Program} {l : Launch} {e : Env} {s : State} {m : MethodId} {args : Array Value} {below : List Frame} {meth : Method} {c : Code} {dC : Nat → ClassId} {dI : Nat → Nat → Nat} {cI cJ : ClassId} {A : Nat → Prop} (cx : CX RX9 cX9_mostAlike (some .int) 5 p s m args meth c (dC, dI) (TY cI cJ)) (hA : ∀ q, s.heap.size ≤ q → A q) {qa : Nat → Nat → Nat} {C : (Nat → Mem)} {L : MemL} {post : Int32 → Prop} : ∀ (x1 : Int32) (x2 : Int32) (H : Heap) (locs : List Loc) (ls : Array Slot), va_P (dC, dI) vwCl (wC cI cJ qa C L) H → va_D A (wC cI cJ qa C L) → va_S A s.heap H locs → lv_has ls 5 [(0, .ref (qa 0 0)), (1, .int x1), (2, .int x2)] → b_X9_mostAlike_0 C L post x1 x2 → W p l e ({ frames := 2, cells := 0, slots := 0, locals := 47 }) s m args below meth c H locs 0 0 (MQ below (va_Qi (S := Unit) (fun (r : Int32) (_u : Unit) => post r) (fun _u t => AT (dC, dI) (TY cI cJ) A (wC cI cJ qa C L) t) A) args s 0 0 A) (F0 m 0 ls []) := by
  obtain ⟨hx, hb, hr, hml, hown, hts, hlocks, hK⟩ := id cx
  have cx' : CX RX9 cX9_mostAlike (meth.sig.returnType) 5 p s m args meth c (dC, dI) (TY cI cJ) := ⟨hx, hb, rfl, hml, hown, hts, hlocks, hK⟩
  intro x1 x2 H locs ls hP hD hS hl h
  unfold b_X9_mostAlike_0 at h
  refine lv_iconst (v := 0) hx hb dX9_mostAlike_0 (by decide) ?_
  refine lv_istore_n (lv' := [(3, .int 0), (0, .ref (qa 0 0)), (1, .int x1), (2, .int x2)]) hx hb dX9_mostAlike_1 rfl hl (by decide) rfl (fun ls hl => ?_)
  refine lv_iconst (v := 0) hx hb dX9_mostAlike_2 (by decide) ?_
  refine lv_istore (lv' := [(4, .int 0), (3, .int 0), (0, .ref (qa 0 0)), (1, .int x1), (2, .int x2)]) hx hb dX9_mostAlike_3 hl (by decide) rfl (fun ls hl => ?_)
  obtain ⟨n_1, h⟩ := h
  exact w_X9_mostAlike_5 cx hA n_1 x1 x2 0 0 H locs ls hP hD hS (lv_sub hl [2, 3, 4, 1, 0] rfl) h
set_option maxRecDepth 100000 in
theorem c_X9_mostAlike (l : Launch) {dC : Nat → ClassId} {dI : Nat → Nat → Nat} {cI cJ : ClassId} (sz : Nat) (qa : Nat → Nat → Nat) (C : Nat → Mem) (L : MemL) (x1 : Int32) (x2 : Int32) (post : Int32 → Prop) (h : wp_X9_mostAlike C L x1 x2 post) : Met l yX9_mostAlike (Cond.code yX9_mostAlike cX9_mostAlike 5 (some .int) :: gt) ({ frames := 2, cells := 0, slots := 0, locals := 47 }) (va_Pc [.ref (qa 0 0), .int x1, .int x2] (PRE (dC, dI) (TY cI cJ) (wC cI cJ qa C L) sz)) (va_Qi (S := Unit) (fun (r : Int32) (_u : Unit) => post r) (fun _u t => AT (dC, dI) (TY cI cJ) (va_A (wC cI cJ qa C L) sz) (wC cI cJ qa C L) t) (va_A (wC cI cJ qa C L) sz)) 0 0 (va_A (wC cI cJ qa C L) sz) :=
  met_of (own := RX9) (Qf := fun A => va_Qi (S := Unit) (fun (r : Int32) (_u : Unit) => post r) (fun _u t => AT (dC, dI) (TY cI cJ) A (wC cI cJ qa C L) t) A) (by decide) rfl (Nat.le_of_ble_eq_true rfl) rfl (fun p e s m below meth c A cx hA ls hP hD hS hl => w_X9_mostAlike_0 cx hA x1 x2 _ _ ls hP hD hS hl h)
theorem mv_X9_mostAlike : MV yX9_mostAlike cX9_mostAlike 5 (some .int) 2 := ⟨⟨kw_573, kw_1, by decide +kernel⟩, kw_572, ksel_11⟩
