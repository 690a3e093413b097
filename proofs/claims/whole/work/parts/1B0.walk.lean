set_option maxHeartbeats 4000000 in
set_option maxRecDepth 100000 in
theorem w_X9_isBit_0 {p : Program} {l : Launch} {e : Env} {s : State} {m : MethodId} {args : Array Value} {below : List Frame} {meth : Method} {c : Code} {dC : Nat → ClassId} {dI : Nat → Nat → Nat} {cI cJ : ClassId} {A : Nat → Prop} (cx : CX RX9 cX9_isBit (some .boolean) 1 p s m args meth c (dC, dI) (TY cI cJ)) (hA : ∀ q, s.heap.size ≤ q → A q) {post : Int32 → Prop} : ∀ (x0 : Int32) (H : Heap) (locs : List Loc) (ls : Array Slot), va_P (dC, dI) vwCl ([]) H → va_D A ([]) → va_S A s.heap H locs → lv_has ls 1 [(0, .int x0)] → b_X9_isBit_0 post x0 → W p l e ({ frames := 0, cells := 0, slots := 0, locals := 0 }) s m args below meth c H locs 0 0 (MQ below (va_Qi (S := Unit) (fun (r : Int32) (_u : Unit) => post r) (fun _u t => AT (dC, dI) (TY cI cJ) A ([]) t) A) args s 0 0 A) (F0 m 0 ls []) := by
  obtain ⟨hx, hb, hr, hml, hown, hts, hlocks, hK⟩ := id cx
  have cx' : CX RX9 cX9_isBit (meth.sig.returnType) 1 p s m args meth c (dC, dI) (TY cI cJ) := ⟨hx, hb, rfl, hml, hown, hts, hlocks, hK⟩
  intro x0 H locs ls hP hD hS hl h
  unfold b_X9_isBit_0 at h
  refine lv_iload_n hx hb dX9_isBit_0 rfl (lv_at hl 0 rfl) ?_
  refine lv_if_eq (tgt := 9) hx hb dX9_isBit_1 (by decide) (fun c_1 => ?_) (fun c_1 => ?_)
  · have h := h.1 c_1
    refine lv_iconst (v := 1) hx hb dX9_isBit_9 (by decide) ?_
    refine lv_goto (tgt := 14) hx hb dX9_isBit_10 (by decide) ?_
    exact rt_z (v := 1) (u := ()) cx (Or.inr rfl) hP hD hS h dX9_isBit_14
  have h := h.2 c_1
  refine lv_iload_n hx hb dX9_isBit_4 rfl (lv_at hl 0 rfl) ?_
  refine lv_iconst (v := 1) hx hb dX9_isBit_5 (by decide) ?_
  refine lv_icmp_ne (tgt := 13) hx hb dX9_isBit_6 (by decide) (fun c_2 => ?_) (fun c_2 => ?_)
  · have h := h.1 c_2
    refine lv_iconst (v := 0) hx hb dX9_isBit_13 (by decide) ?_
    exact rt_z (v := 0) (u := ()) cx (Or.inl rfl) hP hD hS h dX9_isBit_14
  have h := h.2 c_2
  refine lv_iconst (v := 1) hx hb dX9_isBit_9 (by decide) ?_
  refine lv_goto (tgt := 14) hx hb dX9_isBit_10 (by decide) ?_
  exact rt_z (v := 1) (u := ()) cx (Or.inr rfl) hP hD hS h dX9_isBit_14
set_option maxRecDepth 100000 in
theorem c_X9_isBit (l : Launch) {dC : Nat → ClassId} {dI : Nat → Nat → Nat} {cI cJ : ClassId} (sz : Nat) (x0 : Int32) (post : Int32 → Prop) (h : wp_X9_isBit x0 post) : Met l yX9_isBit (Cond.code yX9_isBit cX9_isBit 1 (some .boolean) :: gt) ({ frames := 0, cells := 0, slots := 0, locals := 0 }) (va_Pc [.int x0] (PRE (dC, dI) (TY cI cJ) ([]) sz)) (va_Qi (S := Unit) (fun (r : Int32) (_u : Unit) => post r) (fun _u t => AT (dC, dI) (TY cI cJ) (va_A ([]) sz) ([]) t) (va_A ([]) sz)) 0 0 (va_A ([]) sz) :=
  met_of (own := RX9) (Qf := fun A => va_Qi (S := Unit) (fun (r : Int32) (_u : Unit) => post r) (fun _u t => AT (dC, dI) (TY cI cJ) A ([]) t) A) (by decide) rfl (Nat.le_of_ble_eq_true rfl) rfl (fun p e s m below meth c A cx hA ls hP hD hS hl => w_X9_isBit_0 cx hA x0 _ _ ls hP hD hS hl h)
theorem ms_X9_isBit : MS yX9_isBit cX9_isBit 1 (some .boolean) 1 := ⟨⟨kw_307, kw_1, by decide +kernel⟩, kw_306⟩
set_option maxHeartbeats 4000000 in
set_option maxRecDepth 100000 in
theorem w_X9_refresh_0 {p : Program} {l : Launch} {e : Env} {s : State} {m : MethodId} {args : Array Value} {below : List Frame} {meth : Method} {c : Code} {dC : Nat → ClassId} {dI : Nat → Nat → Nat} {cI cJ : ClassId} {A : Nat → Prop} (cx : CX RX9 cX9_refresh none 1 p s m args meth c (dC, dI) (TY cI cJ)) (hA : ∀ q, s.heap.size ≤ q → A q) {qa : Nat → Nat → Nat} {post : (Nat → Mem) → MemL → Prop} : ∀ (C : (Nat → Mem)) (L : MemL) (H : Heap) (locs : List Loc) (ls : Array Slot), va_P (dC, dI) vwCl (wC cI cJ qa C L) H → va_D A (wC cI cJ qa C L) → va_S A s.heap H locs → lv_has ls 1 [(0, .ref (qa 0 0))] → b_X9_refresh_0 post C L → W p l e ({ frames := 5, cells := 0, slots := 0, locals := 106 }) s m args below meth c H locs 0 0 (MQ below (va_Qv (S := (Nat → Mem) × MemL) (fun (u : (Nat → Mem) × MemL) => post u.1 u.2) (fun u t => AT (dC, dI) (TY cI cJ) A (wC cI cJ qa (u.1) (u.2)) t) A) args s 0 0 A) (F0 m 0 ls []) := by
  obtain ⟨hx, hb, hr, hml, hown, hts, hlocks, hK⟩ := id cx
  have cx' : CX RX9 cX9_refresh (meth.sig.returnType) 1 p s m args meth c (dC, dI) (TY cI cJ) := ⟨hx, hb, rfl, hml, hown, hts, hlocks, hK⟩
  intro C L H locs ls hP hD hS hl h
  unfold b_X9_refresh_0 at h
  refine lv_aload_n hx hb dX9_refresh_0 rfl (lv_at hl 0 rfl) ?_
  refine gf_v (k := 2) (v := .ref (qa 3 0)) cx' hP 0 i_X9 rfl rfl (by decide) kw_266 rfl rfl dX9_refresh_1 ?_
  refine lv_aload_n hx hb dX9_refresh_4 rfl (lv_at hl 0 rfl) ?_
  refine gf_v (k := 0) (v := .ref (qa 1 0)) cx' hP 0 i_X9 rfl rfl (by decide) kw_264 rfl rfl dX9_refresh_5 ?_
  refine callP_v (wc := ww_X4_X7 cI cJ (qa 3) (C 3) 31 (qa 1) (C 1)) (wr_C_1_3 cI cJ qa C L) (fun (u : Mem) => wC cI cJ qa (up3 C 3 (u)) L) [5, 6, 7, 8, 9, 1, 2] [0, 3, 4, 10, 11, 12, 13, 14, 15, 16, 17, 18, 19, 20, 21, 22, 23, 24, 25, 26, 27, 28, 29, 30, 31, 32, 33, 34, 35, 36, 37, 38, 39] [0, 38, 39, 1, 2, 33, 34, 35, 36, 37, 3, 4, 5, 6, 7, 8, 9, 10, 11, 12, 13, 14, 15, 16, 17, 18, 19, 20, 21, 22, 23, 24, 25, 26, 27, 28, 29, 30, 31, 32] rfl rfl rfl (by decide) (fun _ => rfl) rfl hP hD hS hA (fun hPc hDc => run_V (As := [.ref (qa 1 0)]) (rest := []) cx' (c_X4_parse l H.size (qa 3) (C 3) 31 (qa 1) (C 1) _ h) mv_X4_parse kw_316 rfl rfl ⟨Nat.le_of_ble_eq_true rfl, Nat.le_of_ble_eq_true rfl⟩ hPc hDc rfl rfl rfl hl.1 rfl (Nat.le_of_ble_eq_true rfl) dX9_refresh_8 ⟨Nat.zero_le _, Nat.zero_le _⟩) rfl (fun u9 H locs hP hD hS h => ?_)
  obtain ⟨u_1, rfl⟩ : ∃ z, z = u9 := ⟨_, rfl⟩
  obtain ⟨C_2, eC_2⟩ : ∃ z : Nat → Mem, z = up3 C 3 u_1 := ⟨_, rfl⟩
  have h := h C_2 eC_2
  have hP : va_P (dC, dI) vwCl (wC cI cJ qa C_2 L) H := by subst eC_2; exact hP
  have hD : va_D A (wC cI cJ qa C_2 L) := by subst eC_2; exact hD
  refine lv_aload_n hx hb dX9_refresh_11 rfl (lv_at hl 0 rfl) ?_
  refine gf_v (k := 3) (v := .ref (qa 4 0)) cx' hP 0 i_X9 rfl rfl (by decide) kw_267 rfl rfl dX9_refresh_12 ?_
  refine lv_aload_n hx hb dX9_refresh_15 rfl (lv_at hl 0 rfl) ?_
  refine gf_v (k := 1) (v := .ref (qa 2 0)) cx' hP 0 i_X9 rfl rfl (by decide) kw_265 rfl rfl dX9_refresh_16 ?_
  refine callP_v (wc := ww_X2_X7 cI cJ (qa 4) (C_2 4) 47 (qa 2) (C_2 2)) (wr_C_2_4 cI cJ qa C_2 L) (fun (u : Mem) => wC cI cJ qa (up3 C_2 4 (u)) L) [10, 11, 12, 13, 14, 3, 4] [0, 1, 2, 5, 6, 7, 8, 9, 15, 16, 17, 18, 19, 20, 21, 22, 23, 24, 25, 26, 27, 28, 29, 30, 31, 32, 33, 34, 35, 36, 37, 38, 39] [0, 1, 2, 38, 39, 3, 4, 5, 6, 7, 33, 34, 35, 36, 37, 8, 9, 10, 11, 12, 13, 14, 15, 16, 17, 18, 19, 20, 21, 22, 23, 24, 25, 26, 27, 28, 29, 30, 31, 32] rfl rfl rfl (by decide) (fun _ => rfl) rfl hP hD hS hA (fun hPc hDc => run_V (As := [.ref (qa 2 0)]) (rest := []) cx' (c_X2_parse l H.size (qa 4) (C_2 4) 47 (qa 2) (C_2 2) _ h) mv_X2_parse kw_350 rfl rfl ⟨Nat.le_of_ble_eq_true rfl, Nat.le_of_ble_eq_true rfl⟩ hPc hDc rfl rfl rfl hl.1 rfl (Nat.le_of_ble_eq_true rfl) dX9_refresh_19 ⟨Nat.zero_le _, Nat.zero_le _⟩) rfl (fun u9 H locs hP hD hS h => ?_)
  obtain ⟨u_3, rfl⟩ : ∃ z, z = u9 := ⟨_, rfl⟩
  obtain ⟨C_4, eC_4⟩ : ∃ z : Nat → Mem, z = up3 C_2 4 u_3 := ⟨_, rfl⟩
  have h := h C_4 eC_4
  have hP : va_P (dC, dI) vwCl (wC cI cJ qa C_4 L) H := by subst eC_4; exact hP
  have hD : va_D A (wC cI cJ qa C_4 L) := by subst eC_4; exact hD
  refine lv_aload_n hx hb dX9_refresh_22 rfl (lv_at hl 0 rfl) ?_
  refine gf_v (k := 4) (v := .ref (qa 5 0)) cx' hP 0 i_X9 rfl rfl (by decide) kw_268 rfl rfl dX9_refresh_23 ?_
  refine lv_aload_n hx hb dX9_refresh_26 rfl (lv_at hl 0 rfl) ?_
  refine gf_v (k := 2) (v := .ref (qa 3 0)) cx' hP 0 i_X9 rfl rfl (by decide) kw_266 rfl rfl dX9_refresh_27 ?_
  refine lv_aload_n hx hb dX9_refresh_30 rfl (lv_at hl 0 rfl) ?_
  refine gf_v (k := 3) (v := .ref (qa 4 0)) cx' hP 0 i_X9 rfl rfl (by decide) kw_267 rfl rfl dX9_refresh_31 ?_
  refine lv_aload_n hx hb dX9_refresh_34 rfl (lv_at hl 0 rfl) ?_
  refine gf_v (k := 9) (v := .ref (qa 10 0)) cx' hP 0 i_X9 rfl rfl (by decide) kw_273 rfl rfl dX9_refresh_35 ?_
  refine callP_v (wc := ww_X1_X4_X2_X8 cI cJ (qa 5) (C_4 5) (qa 3) (C_4 3) (qa 4) (C_4 4) (qa 10) (C_4 10)) (wr_C_3_4_5_10 cI cJ qa C_4 L) (fun (u : Mem × Mem) => wC cI cJ qa (up3 (up3 C_4 5 (u.1)) 10 (u.2)) L) [15, 16, 17, 18, 19, 20, 21, 22, 5, 6, 7, 8, 9, 10, 11, 12, 13, 14, 37, 38] [0, 1, 2, 3, 4, 23, 24, 25, 26, 27, 28, 29, 30, 31, 32, 33, 34, 35, 36, 39] [0, 1, 2, 3, 4, 28, 29, 30, 31, 32, 33, 34, 35, 36, 37, 20, 21, 22, 23, 24, 25, 26, 27, 5, 6, 7, 8, 9, 10, 11, 12, 13, 14, 15, 16, 17, 18, 38, 39, 19] rfl rfl rfl (by decide) (fun _ => rfl) rfl hP hD hS hA (fun hPc hDc => run_V (As := [.ref (qa 3 0), .ref (qa 4 0), .ref (qa 10 0)]) (rest := []) cx' (c_X1_hold l H.size (qa 5) (C_4 5) (qa 3) (C_4 3) (qa 4) (C_4 4) (qa 10) (C_4 10) _ h) mv_X1_hold kw_358 rfl rfl ⟨Nat.le_of_ble_eq_true rfl, Nat.le_of_ble_eq_true rfl⟩ hPc hDc rfl rfl rfl hl.1 rfl (Nat.le_of_ble_eq_true rfl) dX9_refresh_38 ⟨Nat.zero_le _, Nat.zero_le _⟩) rfl (fun u9 H locs hP hD hS h => ?_)
  obtain ⟨u_5, u_6⟩ := u9
  obtain ⟨C_7, eC_7⟩ : ∃ z : Nat → Mem, z = up3 (up3 C_4 5 u_5) 10 u_6 := ⟨_, rfl⟩
  have h := h C_7 eC_7
  have hP : va_P (dC, dI) vwCl (wC cI cJ qa C_7 L) H := by subst eC_7; exact hP
  have hD : va_D A (wC cI cJ qa C_7 L) := by subst eC_7; exact hD
  exact rt_v (u := (C_7, L)) cx hP hD hS h dX9_refresh_41
set_option maxRecDepth 100000 in
theorem c_X9_refresh (l : Launch) {dC : Nat → ClassId} {dI : Nat → Nat → Nat} {cI cJ : ClassId} (sz : Nat) (qa : Nat → Nat → Nat) (C : Nat → Mem) (L : MemL) (post : (Nat → Mem) → MemL → Prop) (h : wp_X9_refresh C L post) : Met l yX9_refresh (Cond.code yX9_refresh cX9_refresh 1 none :: gt) ({ frames := 5, cells := 0, slots := 0, locals := 106 }) (va_Pc [.ref (qa 0 0)] (PRE (dC, dI) (TY cI cJ) (wC cI cJ qa C L) sz)) (va_Qv (S := (Nat → Mem) × MemL) (fun (u : (Nat → Mem) × MemL) => post u.1 u.2) (fun u t => AT (dC, dI) (TY cI cJ) (va_A (wC cI cJ qa C L) sz) (wC cI cJ qa (u.1) (u.2)) t) (va_A (wC cI cJ qa C L) sz)) 0 0 (va_A (wC cI cJ qa C L) sz) :=
  met_of (own := RX9) (Qf := fun A => va_Qv (S := (Nat → Mem) × MemL) (fun (u : (Nat → Mem) × MemL) => post u.1 u.2) (fun u t => AT (dC, dI) (TY cI cJ) A (wC cI cJ qa (u.1) (u.2)) t) A) (by decide) rfl (Nat.le_of_ble_eq_true rfl) rfl (fun p e s m below meth c A cx hA ls hP hD hS hl => w_X9_refresh_0 cx hA C L _ _ ls hP hD hS hl h)
theorem mv_X9_refresh : MV yX9_refresh cX9_refresh 1 none 0 := ⟨⟨kw_315, kw_1, by decide +kernel⟩, kw_314, ksel_1⟩
set_option maxHeartbeats 4000000 in
set_option maxRecDepth 100000 in
theorem w_X9_textOf_0 {p : Program} {l : Launch} {e : Env} {s : State} {m : MethodId} {args : Array Value} {below : List Frame} {meth : Method} {c : Code} {dC : Nat → ClassId} {dI : Nat → Nat → Nat} {cI cJ : ClassId} {A : Nat → Prop} (cx : CX RX9 cX9_textOf (some (.object "TurnFeast$Text")) 2 p s m args meth c (dC, dI) (TY cI cJ)) (hA : ∀ q, s.heap.size ≤ q → A q) {qa : Nat → Nat → Nat} {C : (Nat → Mem)} {L : MemL} {post : Nat → Prop} : ∀ (x1 : Int32) (H : Heap) (locs : List Loc) (ls : Array Slot), va_P (dC, dI) vwCl (wC cI cJ qa C L) H → va_D A (wC cI cJ qa C L) → va_S A s.heap H locs → lv_has ls 2 [(0, .ref (qa 0 0)), (1, .int x1)] → b_X9_textOf_0 C L post x1 → W p l e ({ frames := 0, cells := 0, slots := 0, locals := 0 }) s m args below meth c H locs 0 0 (MQ below (va_Qr (S := Nat) (fun u => post u) (fun u x t => x = qa u 0 ∧ AT (dC, dI) (TY cI cJ) A (wC cI cJ qa C L) t) A) args s 0 0 A) (F0 m 0 ls []) := by
  obtain ⟨hx, hb, hr, hml, hown, hts, hlocks, hK⟩ := id cx
  have cx' : CX RX9 cX9_textOf (meth.sig.returnType) 2 p s m args meth c (dC, dI) (TY cI cJ) := ⟨hx, hb, rfl, hml, hown, hts, hlocks, hK⟩
  intro x1 H locs ls hP hD hS hl h
  unfold b_X9_textOf_0 at h
  refine lv_iload_n hx hb dX9_textOf_0 rfl (lv_at hl 1 rfl) ?_
  refine lv_if_ne (tgt := 11) hx hb dX9_textOf_1 (by decide) (fun c_1 => ?_) (fun c_1 => ?_)
  · have h := h.1 c_1
    refine lv_aload_n hx hb dX9_textOf_11 rfl (lv_at hl 0 rfl) ?_
    refine gf_v (k := 1) (v := .ref (qa 2 0)) cx' hP 0 i_X9 rfl rfl (by decide) kw_265 rfl rfl dX9_textOf_12 ?_
    exact rt_r (ad := fun u => qa u 0) (u := 2) cx hP hD hS h dX9_textOf_15
  have h := h.2 c_1
  refine lv_aload_n hx hb dX9_textOf_4 rfl (lv_at hl 0 rfl) ?_
  refine gf_v (k := 0) (v := .ref (qa 1 0)) cx' hP 0 i_X9 rfl rfl (by decide) kw_264 rfl rfl dX9_textOf_5 ?_
  refine lv_goto (tgt := 15) hx hb dX9_textOf_8 (by decide) ?_
  exact rt_r (ad := fun u => qa u 0) (u := 1) cx hP hD hS h dX9_textOf_15
set_option maxRecDepth 100000 in
theorem c_X9_textOf (l : Launch) {dC : Nat → ClassId} {dI : Nat → Nat → Nat} {cI cJ : ClassId} (sz : Nat) (qa : Nat → Nat → Nat) (C : Nat → Mem) (L : MemL) (x1 : Int32) (post : Nat → Prop) (h : wp_X9_textOf C L x1 post) : Met l yX9_textOf (Cond.code yX9_textOf cX9_textOf 2 (some (.object "TurnFeast$Text")) :: gt) ({ frames := 0, cells := 0, slots := 0, locals := 0 }) (va_Pc [.ref (qa 0 0), .int x1] (PRE (dC, dI) (TY cI cJ) (wC cI cJ qa C L) sz)) (va_Qr (S := Nat) (fun u => post u) (fun u x t => x = qa u 0 ∧ AT (dC, dI) (TY cI cJ) (va_A (wC cI cJ qa C L) sz) (wC cI cJ qa C L) t) (va_A (wC cI cJ qa C L) sz)) 0 0 (va_A (wC cI cJ qa C L) sz) :=
  met_of (own := RX9) (Qf := fun A => va_Qr (S := Nat) (fun u => post u) (fun u x t => x = qa u 0 ∧ AT (dC, dI) (TY cI cJ) A (wC cI cJ qa C L) t) A) (by decide) rfl (Nat.le_of_ble_eq_true rfl) rfl (fun p e s m below meth c A cx hA ls hP hD hS hl => w_X9_textOf_0 cx hA x1 _ _ ls hP hD hS hl h)
theorem mv_X9_textOf : MV yX9_textOf cX9_textOf 2 (some (.object "TurnFeast$Text")) 1 := ⟨⟨kw_311, kw_1, by decide +kernel⟩, kw_310, ksel_0⟩
set_option maxHeartbeats 4000000 in
set_option maxRecDepth 100000 in
theorem w_X9_type_0 {p : Program} {l : Launch} {e : Env} {s : State} {m : MethodId} {args : Array Value} {below : List Frame} {meth : Method} {c : Code} {dC : Nat → ClassId} {dI : Nat → Nat → Nat} {cI cJ : ClassId} {A : Nat → Prop} (cx : CX RX9 cX9_type (some .int) 4 p s m args meth c (dC, dI) (TY cI cJ)) (hA : ∀ q, s.heap.size ≤ q → A q) {qa : Nat → Nat → Nat} {post : Int32 → (Nat → Mem) → MemL → Prop} : ∀ (x1 : Int32) (x2 : Int32) (C : (Nat → Mem)) (L : MemL) (H : Heap) (locs : List Loc) (ls : Array Slot), va_P (dC, dI) vwCl (wC cI cJ qa C L) H → va_D A (wC cI cJ qa C L) → va_S A s.heap H locs → lv_has ls 4 [(0, .ref (qa 0 0)), (1, .int x1), (2, .int x2)] → b_X9_type_0 post x1 x2 C L → W p l e ({ frames := 6, cells := 0, slots := 0, locals := 126 }) s m args below meth c H locs 0 0 (MQ below (va_Qi (S := (Nat → Mem) × MemL) (fun (r : Int32) (u : (Nat → Mem) × MemL) => post r u.1 u.2) (fun u t => AT (dC, dI) (TY cI cJ) A (wC cI cJ qa (u.1) (u.2)) t) A) args s 0 0 A) (F0 m 0 ls []) := by
  obtain ⟨hx, hb, hr, hml, hown, hts, hlocks, hK⟩ := id cx
  have cx' : CX RX9 cX9_type (meth.sig.returnType) 4 p s m args meth c (dC, dI) (TY cI cJ) := ⟨hx, hb, rfl, hml, hown, hts, hlocks, hK⟩
  intro x1 x2 C L H locs ls hP hD hS hl h
  unfold b_X9_type_0 at h
  refine lv_iload_n hx hb dX9_type_0 rfl (lv_at hl 1 rfl) ?_
  refine callN_i (run_S (As := [.int x1]) (rest := []) (wc := []) cx' (c_X9_isBit l H.size x1 _ h) ms_X9_isBit kw_305 rfl rfl ⟨Nat.le_of_ble_eq_true rfl, Nat.le_of_ble_eq_true rfl⟩ nilP nilD (A := A) rfl hl.1 rfl (Nat.le_of_ble_eq_true rfl) dX9_type_1 ⟨Nat.zero_le _, Nat.zero_le _⟩) hP hS hA (fun r_1 H locs hP hS h => ?_)
  refine lv_if_eq (tgt := 18) hx hb dX9_type_4 (by decide) (fun c_2 => ?_) (fun c_2 => ?_)
  · have h := h.1 c_2
    refine lv_bipush (v := (-2)) hx hb dX9_type_18 (by decide) ?_
    exact rt_i (v := (-2)) (u := (C, L)) cx hP hD hS h dX9_type_20
  have h := h.2 c_2
  refine lv_iload_n hx hb dX9_type_7 rfl (lv_at hl 2 rfl) ?_
  refine lv_if_lt (tgt := 18) hx hb dX9_type_8 (by decide) (fun c_3 => ?_) (fun c_3 => ?_)
  · have h := h.1 c_3
    refine lv_bipush (v := (-2)) hx hb dX9_type_18 (by decide) ?_
    exact rt_i (v := (-2)) (u := (C, L)) cx hP hD hS h dX9_type_20
  have h := h.2 c_3
  refine lv_iload_n hx hb dX9_type_11 rfl (lv_at hl 2 rfl) ?_
  refine lv_sipush (v := 255) hx hb dX9_type_12 (by decide) ?_
  refine lv_icmp_le (tgt := 21) hx hb dX9_type_15 (by decide) (fun c_4 => ?_) (fun c_4 => ?_)
  · have h := h.1 c_4
    refine lv_aload_n hx hb dX9_type_21 rfl (lv_at hl 0 rfl) ?_
    refine lv_iload_n hx hb dX9_type_22 rfl (lv_at hl 1 rfl) ?_
    refine call_r (ad := fun u => qa u 0) (run_V (As := [.int x1]) (rest := []) cx' (c_X9_textOf l H.size qa C L x1 _ h) mv_X9_textOf kw_308 rfl rfl ⟨Nat.le_of_ble_eq_true rfl, Nat.le_of_ble_eq_true rfl⟩ hP hD rfl rfl rfl hl.1 rfl (Nat.le_of_ble_eq_true rfl) dX9_type_23 ⟨Nat.zero_le _, Nat.zero_le _⟩) hD hS hA (fun r_5 H locs hP hD hS h => ?_)
    rcases h with ⟨rfl, h⟩ | ⟨rfl, h⟩
    · skip
      refine lv_astore_n (lv' := [(3, .ref (qa 1 0)), (0, .ref (qa 0 0)), (1, .int x1), (2, .int x2)]) hx hb dX9_type_26 rfl hl (by decide) rfl (fun ls hl => ?_)
      refine lv_aload_n hx hb dX9_type_27 rfl (lv_at hl 0 rfl) ?_
      refine gf_v (k := 3) (v := .int (C 1 0 3)) cx' hP 1 i_X7 rfl rfl (by decide) kw_34 rfl rfl dX9_type_28 ?_
      refine lv_aload_n hx hb dX9_type_31 rfl (lv_at hl 0 rfl) ?_
      refine gf_v (k := 2) (v := .ref (qa 1 1)) cx' hP 1 i_X7 rfl rfl (by decide) kw_32 rfl rfl dX9_type_32 ?_
      refine va_alen (v := 31) hx hb hK hP 2 0 rfl rfl rfl dX9_type_35 ?_
      refine lv_icmp_lt (tgt := 42) hx hb dX9_type_36 (by decide) (fun c_6 => ?_) (fun c_6 => ?_)
      · have h := h.1 c_6
        refine lv_aload_n hx hb dX9_type_42 rfl (lv_at hl 0 rfl) ?_
        refine gf_v (k := 2) (v := .ref (qa 1 1)) cx' hP 1 i_X7 rfl rfl (by decide) kw_32 rfl rfl dX9_type_43 ?_
        refine lv_aload_n hx hb dX9_type_46 rfl (lv_at hl 0 rfl) ?_
        refine gf_v (k := 3) (v := .int (C 1 0 3)) cx' hP 1 i_X7 rfl rfl (by decide) kw_34 rfl rfl dX9_type_47 ?_
        refine lv_iload_n hx hb dX9_type_50 rfl (lv_at hl 3 rfl) ?_
        obtain ⟨C_7, eC_7⟩ : ∃ z : Nat → Mem, z = up3 C 1 (up2 (C 1) 1 (Int32.toNatClampNeg (C 1 0 3)) x2) := ⟨_, rfl⟩
        have h1 := h.1
        have h := h.2 C_7 eC_7
        refine st_i hx hb hK hP hD hS 2 0 (wC cI cJ qa C_7 L) rfl rfl h1 dX9_type_51 (by subst eC_7; rfl) (fun H locs hP hD hS => ?_)
        refine lv_aload_n hx hb dX9_type_52 rfl (lv_at hl 0 rfl) ?_
        refine lv_dup hx hb dX9_type_53 rfl ?_
        refine gf_v (k := 3) (v := .int (C_7 1 0 3)) cx' hP 1 i_X7 rfl rfl (by decide) kw_34 rfl rfl dX9_type_54 ?_
        refine lv_iconst (v := 1) hx hb dX9_type_57 (by decide) ?_
        refine lv_iadd hx hb dX9_type_58 ?_
        obtain ⟨C_8, eC_8⟩ : ∃ z : Nat → Mem, z = up3 C_7 1 (up2 (C_7 1) 0 3 ((C_7 1 0 3) + 1)) := ⟨_, rfl⟩
        have h := h C_8 eC_8
        refine pf_v (k := 3) (tf := .int) cx' hP hD hS 1 (wC cI cJ qa C_8 L) i_X7 tyX7 tyX7_ok nmX7 rfl rfl (by decide) kw_34 rfl rfl rfl rfl rfl (Nat.le_of_ble_eq_true rfl) dX9_type_59 (by subst eC_8; rfl) (fun H locs hP hD hS => ?_)
        refine lv_aload_n hx hb dX9_type_62 rfl (lv_at hl 1 rfl) ?_
        refine call_v (run_V (As := []) (rest := []) cx' (c_X9_refresh l H.size qa C_8 L _ h) mv_X9_refresh kw_312 rfl rfl ⟨Nat.le_of_ble_eq_true rfl, Nat.le_of_ble_eq_true rfl⟩ hP hD rfl rfl rfl hl.1 rfl (Nat.le_of_ble_eq_true rfl) dX9_type_63 ⟨Nat.zero_le _, Nat.zero_le _⟩) hD hS hA (fun u9 H locs hP hD hS h => ?_)
        obtain ⟨C_9, L_10⟩ := u9
        have hP : va_P (dC, dI) vwCl (wC cI cJ qa C_9 L_10) H := hP
        have hD : va_D A (wC cI cJ qa C_9 L_10) := hD
        refine lv_aload_n hx hb dX9_type_66 rfl (lv_at hl 0 rfl) ?_
        refine gf_v (k := 3) (v := .int (C_9 1 0 3)) cx' hP 1 i_X7 rfl rfl (by decide) kw_34 rfl rfl dX9_type_67 ?_
        exact rt_i (v := C_9 1 0 3) (u := (C_9, L_10)) cx hP hD hS h dX9_type_70
      have h := h.2 c_6
      refine lv_bipush (v := (-4)) hx hb dX9_type_39 (by decide) ?_
      exact rt_i (v := (-4)) (u := (C, L)) cx hP hD hS h dX9_type_41
    · skip
      refine lv_astore_n (lv' := [(3, .ref (qa 2 0)), (0, .ref (qa 0 0)), (1, .int x1), (2, .int x2)]) hx hb dX9_type_26 rfl hl (by decide) rfl (fun ls hl => ?_)
      refine lv_aload_n hx hb dX9_type_27 rfl (lv_at hl 0 rfl) ?_
      refine gf_v (k := 3) (v := .int (C 2 0 3)) cx' hP 3 i_X7 rfl rfl (by decide) kw_34 rfl rfl dX9_type_28 ?_
      refine lv_aload_n hx hb dX9_type_31 rfl (lv_at hl 0 rfl) ?_
      refine gf_v (k := 2) (v := .ref (qa 2 1)) cx' hP 3 i_X7 rfl rfl (by decide) kw_32 rfl rfl dX9_type_32 ?_
      refine va_alen (v := 47) hx hb hK hP 4 0 rfl rfl rfl dX9_type_35 ?_
      refine lv_icmp_lt (tgt := 42) hx hb dX9_type_36 (by decide) (fun c_11 => ?_) (fun c_11 => ?_)
      · have h := h.1 c_11
        refine lv_aload_n hx hb dX9_type_42 rfl (lv_at hl 0 rfl) ?_
        refine gf_v (k := 2) (v := .ref (qa 2 1)) cx' hP 3 i_X7 rfl rfl (by decide) kw_32 rfl rfl dX9_type_43 ?_
        refine lv_aload_n hx hb dX9_type_46 rfl (lv_at hl 0 rfl) ?_
        refine gf_v (k := 3) (v := .int (C 2 0 3)) cx' hP 3 i_X7 rfl rfl (by decide) kw_34 rfl rfl dX9_type_47 ?_
        refine lv_iload_n hx hb dX9_type_50 rfl (lv_at hl 3 rfl) ?_
        obtain ⟨C_12, eC_12⟩ : ∃ z : Nat → Mem, z = up3 C 2 (up2 (C 2) 1 (Int32.toNatClampNeg (C 2 0 3)) x2) := ⟨_, rfl⟩
        have h1 := h.1
        have h := h.2 C_12 eC_12
        refine st_i hx hb hK hP hD hS 4 0 (wC cI cJ qa C_12 L) rfl rfl h1 dX9_type_51 (by subst eC_12; rfl) (fun H locs hP hD hS => ?_)
        refine lv_aload_n hx hb dX9_type_52 rfl (lv_at hl 0 rfl) ?_
        refine lv_dup hx hb dX9_type_53 rfl ?_
        refine gf_v (k := 3) (v := .int (C_12 2 0 3)) cx' hP 3 i_X7 rfl rfl (by decide) kw_34 rfl rfl dX9_type_54 ?_
        refine lv_iconst (v := 1) hx hb dX9_type_57 (by decide) ?_
        refine lv_iadd hx hb dX9_type_58 ?_
        obtain ⟨C_13, eC_13⟩ : ∃ z : Nat → Mem, z = up3 C_12 2 (up2 (C_12 2) 0 3 ((C_12 2 0 3) + 1)) := ⟨_, rfl⟩
        have h := h C_13 eC_13
        refine pf_v (k := 3) (tf := .int) cx' hP hD hS 3 (wC cI cJ qa C_13 L) i_X7 tyX7 tyX7_ok nmX7 rfl rfl (by decide) kw_34 rfl rfl rfl rfl rfl (Nat.le_of_ble_eq_true rfl) dX9_type_59 (by subst eC_13; rfl) (fun H locs hP hD hS => ?_)
        refine lv_aload_n hx hb dX9_type_62 rfl (lv_at hl 1 rfl) ?_
        refine call_v (run_V (As := []) (rest := []) cx' (c_X9_refresh l H.size qa C_13 L _ h) mv_X9_refresh kw_312 rfl rfl ⟨Nat.le_of_ble_eq_true rfl, Nat.le_of_ble_eq_true rfl⟩ hP hD rfl rfl rfl hl.1 rfl (Nat.le_of_ble_eq_true rfl) dX9_type_63 ⟨Nat.zero_le _, Nat.zero_le _⟩) hD hS hA (fun u9 H locs hP hD hS h => ?_)
        obtain ⟨C_14, L_15⟩ := u9
        have hP : va_P (dC, dI) vwCl (wC cI cJ qa C_14 L_15) H := hP
        have hD : va_D A (wC cI cJ qa C_14 L_15) := hD
        refine lv_aload_n hx hb dX9_type_66 rfl (lv_at hl 0 rfl) ?_
        refine gf_v (k := 3) (v := .int (C_14 2 0 3)) cx' hP 3 i_X7 rfl rfl (by decide) kw_34 rfl rfl dX9_type_67 ?_
        exact rt_i (v := C_14 2 0 3) (u := (C_14, L_15)) cx hP hD hS h dX9_type_70
      have h := h.2 c_11
      refine lv_bipush (v := (-4)) hx hb dX9_type_39 (by decide) ?_
      exact rt_i (v := (-4)) (u := (C, L)) cx hP hD hS h dX9_type_41
  have h := h.2 c_4
  refine lv_bipush (v := (-2)) hx hb dX9_type_18 (by decide) ?_
  exact rt_i (v := (-2)) (u := (C, L)) cx hP hD hS h dX9_type_20
set_option maxRecDepth 100000 in
theorem c_X9_type (l : Launch) {dC : Nat → ClassId} {dI : Nat → Nat → Nat} {cI cJ : ClassId} (sz : Nat) (qa : Nat → Nat → Nat) (C : Nat → Mem) (L : MemL) (x1 : Int32) (x2 : Int32) (post : Int32 → (Nat → Mem) → MemL → Prop) (h : wp_X9_type C L x1 x2 post) : Met l yX9_type (Cond.code yX9_type cX9_type 4 (some .int) :: gt) ({ frames := 6, cells := 0, slots := 0, locals := 126 }) (va_Pc [.ref (qa 0 0), .int x1, .int x2] (PRE (dC, dI) (TY cI cJ) (wC cI cJ qa C L) sz)) (va_Qi (S := (Nat → Mem) × MemL) (fun (r : Int32) (u : (Nat → Mem) × MemL) => post r u.1 u.2) (fun u t => AT (dC, dI) (TY cI cJ) (va_A (wC cI cJ qa C L) sz) (wC cI cJ qa (u.1) (u.2)) t) (va_A (wC cI cJ qa C L) sz)) 0 0 (va_A (wC cI cJ qa C L) sz) :=
  met_of (own := RX9) (Qf := fun A => va_Qi (S := (Nat → Mem) × MemL) (fun (r : Int32) (u : (Nat → Mem) × MemL) => post r u.1 u.2) (fun u t => AT (dC, dI) (TY cI cJ) A (wC cI cJ qa (u.1) (u.2)) t) A) (by decide) rfl (Nat.le_of_ble_eq_true rfl) rfl (fun p e s m below meth c A cx hA ls hP hD hS hl => w_X9_type_0 cx hA x1 x2 C L _ _ ls hP hD hS hl h)
theorem mv_X9_type : MV yX9_type cX9_type 4 (some .int) 2 := ⟨⟨kw_304, kw_1, by decide +kernel⟩, kw_302, kw_303⟩
set_option maxHeartbeats 4000000 in
set_option maxRecDepth 100000 in
theorem w_X9_wipe_0 {p : Program} {l : Launch} {e : Env} {s : State} {m : MethodId} {args : Array Value} {below : List Frame} {meth : Method} {c : Code} {dC : Nat → ClassId} {dI : Nat → Nat → Nat} {cI cJ : ClassId} {A : Nat → Prop} (cx : CX RX9 cX9_wipe (some .int) 4 p s m args meth c (dC, dI) (TY cI cJ)) (hA : ∀ q, s.heap.size ≤ q → A q) {qa : Nat → Nat → Nat} {post : Int32 → (Nat → Mem) → MemL → Prop} : ∀ (x1 : Int32) (C : (Nat → Mem)) (L : MemL) (H : Heap) (locs : List Loc) (ls : Array Slot), va_P (dC, dI) vwCl (wC cI cJ qa C L) H → va_D A (wC cI cJ qa C L) → va_S A s.heap H locs → lv_has ls 4 [(0, .ref (qa 0 0)), (1, .int x1)] → b_X9_wipe_0 post x1 C L → W p l e ({ frames := 6, cells := 0, slots := 0, locals := 126 }) s m args below meth c H locs 0 0 (MQ below (va_Qi (S := (Nat → Mem) × MemL) (fun (r : Int32) (u : (Nat → Mem) × MemL) => post r u.1 u.2) (fun u t => AT (dC, dI) (TY cI cJ) A (wC cI cJ qa (u.1) (u.2)) t) A) args s 0 0 A) (F0 m 0 ls []) := by
  obtain ⟨hx, hb, hr, hml, hown, hts, hlocks, hK⟩ := id cx
  have cx' : CX RX9 cX9_wipe (meth.sig.returnType) 4 p s m args meth c (dC, dI) (TY cI cJ) := ⟨hx, hb, rfl, hml, hown, hts, hlocks, hK⟩
  intro x1 C L H locs ls hP hD hS hl h
  unfold b_X9_wipe_0 at h
  refine lv_iload_n hx hb dX9_wipe_0 rfl (lv_at hl 1 rfl) ?_
  refine callN_i (run_S (As := [.int x1]) (rest := []) (wc := []) cx' (c_X9_isBit l H.size x1 _ h) ms_X9_isBit kw_305 rfl rfl ⟨Nat.le_of_ble_eq_true rfl, Nat.le_of_ble_eq_true rfl⟩ nilP nilD (A := A) rfl hl.1 rfl (Nat.le_of_ble_eq_true rfl) dX9_wipe_1 ⟨Nat.zero_le _, Nat.zero_le _⟩) hP hS hA (fun r_1 H locs hP hS h => ?_)
  refine lv_if_ne (tgt := 10) hx hb dX9_wipe_4 (by decide) (fun c_2 => ?_) (fun c_2 => ?_)
  · have h := h.1 c_2
    refine lv_aload_n hx hb dX9_wipe_10 rfl (lv_at hl 0 rfl) ?_
    refine lv_iload_n hx hb dX9_wipe_11 rfl (lv_at hl 1 rfl) ?_
    refine call_r (ad := fun u => qa u 0) (run_V (As := [.int x1]) (rest := []) cx' (c_X9_textOf l H.size qa C L x1 _ h) mv_X9_textOf kw_308 rfl rfl ⟨Nat.le_of_ble_eq_true rfl, Nat.le_of_ble_eq_true rfl⟩ hP hD rfl rfl rfl hl.1 rfl (Nat.le_of_ble_eq_true rfl) dX9_wipe_12 ⟨Nat.zero_le _, Nat.zero_le _⟩) hD hS hA (fun r_3 H locs hP hD hS h => ?_)
    rcases h with ⟨rfl, h⟩ | ⟨rfl, h⟩
    · skip
      refine lv_astore_n (lv' := [(2, .ref (qa 1 0)), (0, .ref (qa 0 0)), (1, .int x1)]) hx hb dX9_wipe_15 rfl hl (by decide) rfl (fun ls hl => ?_)
      refine lv_aload_n hx hb dX9_wipe_16 rfl (lv_at hl 0 rfl) ?_
      refine gf_v (k := 3) (v := .int (C 1 0 3)) cx' hP 1 i_X7 rfl rfl (by decide) kw_34 rfl rfl dX9_wipe_17 ?_
      refine lv_topi (fun x3_4 ex3_4 => ?_)
      have h := h x3_4 ex3_4
      refine lv_istore_n (lv' := [(3, .int x3_4), (2, .ref (qa 1 0)), (0, .ref (qa 0 0)), (1, .int x1)]) hx hb dX9_wipe_20 rfl hl (by decide) rfl (fun ls hl => ?_)
      refine lv_aload_n hx hb dX9_wipe_21 rfl (lv_at hl 1 rfl) ?_
      refine lv_iconst (v := 0) hx hb dX9_wipe_22 (by decide) ?_
      obtain ⟨C_5, eC_5⟩ : ∃ z : Nat → Mem, z = up3 C 1 (up2 (C 1) 0 3 0) := ⟨_, rfl⟩
      have h := h C_5 eC_5
      refine pf_v (k := 3) (tf := .int) cx' hP hD hS 1 (wC cI cJ qa C_5 L) i_X7 tyX7 tyX7_ok nmX7 rfl rfl (by decide) kw_34 rfl rfl rfl rfl rfl (Nat.le_of_ble_eq_true rfl) dX9_wipe_23 (by subst eC_5; rfl) (fun H locs hP hD hS => ?_)
      refine lv_aload_n hx hb dX9_wipe_26 rfl (lv_at hl 2 rfl) ?_
      refine call_v (run_V (As := []) (rest := []) cx' (c_X9_refresh l H.size qa C_5 L _ h) mv_X9_refresh kw_312 rfl rfl ⟨Nat.le_of_ble_eq_true rfl, Nat.le_of_ble_eq_true rfl⟩ hP hD rfl rfl rfl hl.1 rfl (Nat.le_of_ble_eq_true rfl) dX9_wipe_27 ⟨Nat.zero_le _, Nat.zero_le _⟩) hD hS hA (fun u9 H locs hP hD hS h => ?_)
      obtain ⟨C_6, L_7⟩ := u9
      have hP : va_P (dC, dI) vwCl (wC cI cJ qa C_6 L_7) H := hP
      have hD : va_D A (wC cI cJ qa C_6 L_7) := hD
      refine lv_iload_n hx hb dX9_wipe_30 rfl (lv_at hl 0 rfl) ?_
      exact rt_i (v := x3_4) (u := (C_6, L_7)) cx hP hD hS h dX9_wipe_31
    · skip
      refine lv_astore_n (lv' := [(2, .ref (qa 2 0)), (0, .ref (qa 0 0)), (1, .int x1)]) hx hb dX9_wipe_15 rfl hl (by decide) rfl (fun ls hl => ?_)
      refine lv_aload_n hx hb dX9_wipe_16 rfl (lv_at hl 0 rfl) ?_
      refine gf_v (k := 3) (v := .int (C 2 0 3)) cx' hP 3 i_X7 rfl rfl (by decide) kw_34 rfl rfl dX9_wipe_17 ?_
      refine lv_topi (fun x3_8 ex3_8 => ?_)
      have h := h x3_8 ex3_8
      refine lv_istore_n (lv' := [(3, .int x3_8), (2, .ref (qa 2 0)), (0, .ref (qa 0 0)), (1, .int x1)]) hx hb dX9_wipe_20 rfl hl (by decide) rfl (fun ls hl => ?_)
      refine lv_aload_n hx hb dX9_wipe_21 rfl (lv_at hl 1 rfl) ?_
      refine lv_iconst (v := 0) hx hb dX9_wipe_22 (by decide) ?_
      obtain ⟨C_9, eC_9⟩ : ∃ z : Nat → Mem, z = up3 C 2 (up2 (C 2) 0 3 0) := ⟨_, rfl⟩
      have h := h C_9 eC_9
      refine pf_v (k := 3) (tf := .int) cx' hP hD hS 3 (wC cI cJ qa C_9 L) i_X7 tyX7 tyX7_ok nmX7 rfl rfl (by decide) kw_34 rfl rfl rfl rfl rfl (Nat.le_of_ble_eq_true rfl) dX9_wipe_23 (by subst eC_9; rfl) (fun H locs hP hD hS => ?_)
      refine lv_aload_n hx hb dX9_wipe_26 rfl (lv_at hl 2 rfl) ?_
      refine call_v (run_V (As := []) (rest := []) cx' (c_X9_refresh l H.size qa C_9 L _ h) mv_X9_refresh kw_312 rfl rfl ⟨Nat.le_of_ble_eq_true rfl, Nat.le_of_ble_eq_true rfl⟩ hP hD rfl rfl rfl hl.1 rfl (Nat.le_of_ble_eq_true rfl) dX9_wipe_27 ⟨Nat.zero_le _, Nat.zero_le _⟩) hD hS hA (fun u9 H locs hP hD hS h => ?_)
      obtain ⟨C_10, L_11⟩ := u9
      have hP : va_P (dC, dI) vwCl (wC cI cJ qa C_10 L_11) H := hP
      have hD : va_D A (wC cI cJ qa C_10 L_11) := hD
      refine lv_iload_n hx hb dX9_wipe_30 rfl (lv_at hl 0 rfl) ?_
      exact rt_i (v := x3_8) (u := (C_10, L_11)) cx hP hD hS h dX9_wipe_31
  have h := h.2 c_2
  refine lv_bipush (v := (-2)) hx hb dX9_wipe_7 (by decide) ?_
  exact rt_i (v := (-2)) (u := (C, L)) cx hP hD hS h dX9_wipe_9
set_option maxRecDepth 100000 in
theorem c_X9_wipe (l : Launch) {dC : Nat → ClassId} {dI : Nat → Nat → Nat} {cI cJ : ClassId} (sz : Nat) (qa : Nat → Nat → Nat) (C : Nat → Mem) (L : MemL) (x1 : Int32) (post : Int32 → (Nat → Mem) → MemL → Prop) (h : wp_X9_wipe C L x1 post) : Met l yX9_wipe (Cond.code yX9_wipe cX9_wipe 4 (some .int) :: gt) ({ frames := 6, cells := 0, slots := 0, locals := 126 }) (va_Pc [.ref (qa 0 0), .int x1] (PRE (dC, dI) (TY cI cJ) (wC cI cJ qa C L) sz)) (va_Qi (S := (Nat → Mem) × MemL) (fun (r : Int32) (u : (Nat → Mem) × MemL) => post r u.1 u.2) (fun u t => AT (dC, dI) (TY cI cJ) (va_A (wC cI cJ qa C L) sz) (wC cI cJ qa (u.1) (u.2)) t) (va_A (wC cI cJ qa C L) sz)) 0 0 (va_A (wC cI cJ qa C L) sz) :=
  met_of (own := RX9) (Qf := fun A => va_Qi (S := (Nat → Mem) × MemL) (fun (r : Int32) (u : (Nat → Mem) × MemL) => post r u.1 u.2) (fun u t => AT (dC, dI) (TY cI cJ) A (wC cI cJ qa (u.1) (u.2)) t) A) (by decide) rfl (Nat.le_of_ble_eq_true rfl) rfl (fun p e s m below meth c A cx hA ls hP hD hS hl => w_X9_wipe_0 cx hA x1 C L _ _ ls hP hD hS hl h)
theorem mv_X9_wipe : MV yX9_wipe cX9_wipe 4 (some .int) 1 := ⟨⟨kw_389, kw_1, by decide +kernel⟩, kw_387, kw_388⟩
set_option maxHeartbeats 4000000 in
set_option maxRecDepth 100000 in
theorem w_X9_undo_0 {p : Program} {l : Launch} {e : Env} {s : State} {m : MethodId} {args : Array Value} {below : List Frame} {meth : Method} {c : Code} {dC : Nat → ClassId} {dI : Nat → Nat → Nat} {cI cJ : ClassId} {A : Nat → Prop} (cx : CX RX9 cX9_undo (some .int) 3 p s m args meth c (dC, dI) (TY cI cJ)) (hA : ∀ q, s.heap.size ≤ q → A q) {qa : Nat → Nat → Nat} {post : Int32 → (Nat → Mem) → MemL → Prop} : ∀ (x1 : Int32) (C : (Nat → Mem)) (L : MemL) (H : Heap) (locs : List Loc) (ls : Array Slot), va_P (dC, dI) vwCl (wC cI cJ qa C L) H → va_D A (wC cI cJ qa C L) → va_S A s.heap H locs → lv_has ls 3 [(0, .ref (qa 0 0)), (1, .int x1)] → b_X9_undo_0 post x1 C L → W p l e ({ frames := 6, cells := 0, slots := 0, locals := 126 }) s m args below meth c H locs 0 0 (MQ below (va_Qi (S := (Nat → Mem) × MemL) (fun (r : Int32) (u : (Nat → Mem) × MemL) => post r u.1 u.2) (fun u t => AT (dC, dI) (TY cI cJ) A (wC cI cJ qa (u.1) (u.2)) t) A) args s 0 0 A) (F0 m 0 ls []) := by
  obtain ⟨hx, hb, hr, hml, hown, hts, hlocks, hK⟩ := id cx
  have cx' : CX RX9 cX9_undo (meth.sig.returnType) 3 p s m args meth c (dC, dI) (TY cI cJ) := ⟨hx, hb, rfl, hml, hown, hts, hlocks, hK⟩
  intro x1 C L H locs ls hP hD hS hl h
  unfold b_X9_undo_0 at h
  refine lv_iload_n hx hb dX9_undo_0 rfl (lv_at hl 1 rfl) ?_
  refine callN_i (run_S (As := [.int x1]) (rest := []) (wc := []) cx' (c_X9_isBit l H.size x1 _ h) ms_X9_isBit kw_305 rfl rfl ⟨Nat.le_of_ble_eq_true rfl, Nat.le_of_ble_eq_true rfl⟩ nilP nilD (A := A) rfl hl.1 rfl (Nat.le_of_ble_eq_true rfl) dX9_undo_1 ⟨Nat.zero_le _, Nat.zero_le _⟩) hP hS hA (fun r_1 H locs hP hS h => ?_)
  refine lv_if_ne (tgt := 10) hx hb dX9_undo_4 (by decide) (fun c_2 => ?_) (fun c_2 => ?_)
  · have h := h.1 c_2
    refine lv_aload_n hx hb dX9_undo_10 rfl (lv_at hl 0 rfl) ?_
    refine lv_iload_n hx hb dX9_undo_11 rfl (lv_at hl 1 rfl) ?_
    refine call_r (ad := fun u => qa u 0) (run_V (As := [.int x1]) (rest := []) cx' (c_X9_textOf l H.size qa C L x1 _ h) mv_X9_textOf kw_308 rfl rfl ⟨Nat.le_of_ble_eq_true rfl, Nat.le_of_ble_eq_true rfl⟩ hP hD rfl rfl rfl hl.1 rfl (Nat.le_of_ble_eq_true rfl) dX9_undo_12 ⟨Nat.zero_le _, Nat.zero_le _⟩) hD hS hA (fun r_3 H locs hP hD hS h => ?_)
    rcases h with ⟨rfl, h⟩ | ⟨rfl, h⟩
    · skip
      refine lv_astore_n (lv' := [(2, .ref (qa 1 0)), (0, .ref (qa 0 0)), (1, .int x1)]) hx hb dX9_undo_15 rfl hl (by decide) rfl (fun ls hl => ?_)
      refine lv_aload_n hx hb dX9_undo_16 rfl (lv_at hl 0 rfl) ?_
      refine gf_v (k := 3) (v := .int (C 1 0 3)) cx' hP 1 i_X7 rfl rfl (by decide) kw_34 rfl rfl dX9_undo_17 ?_
      refine lv_if_ne (tgt := 26) hx hb dX9_undo_20 (by decide) (fun c_4 => ?_) (fun c_4 => ?_)
      · have h := h.1 c_4
        refine lv_aload_n hx hb dX9_undo_26 rfl (lv_at hl 0 rfl) ?_
        refine lv_dup hx hb dX9_undo_27 rfl ?_
        refine gf_v (k := 3) (v := .int (C 1 0 3)) cx' hP 1 i_X7 rfl rfl (by decide) kw_34 rfl rfl dX9_undo_28 ?_
        refine lv_iconst (v := 1) hx hb dX9_undo_31 (by decide) ?_
        refine lv_isub hx hb dX9_undo_32 ?_
        obtain ⟨C_5, eC_5⟩ : ∃ z : Nat → Mem, z = up3 C 1 (up2 (C 1) 0 3 ((C 1 0 3) - 1)) := ⟨_, rfl⟩
        have h := h C_5 eC_5
        refine pf_v (k := 3) (tf := .int) cx' hP hD hS 1 (wC cI cJ qa C_5 L) i_X7 tyX7 tyX7_ok nmX7 rfl rfl (by decide) kw_34 rfl rfl rfl rfl rfl (Nat.le_of_ble_eq_true rfl) dX9_undo_33 (by subst eC_5; rfl) (fun H locs hP hD hS => ?_)
        refine lv_aload_n hx hb dX9_undo_36 rfl (lv_at hl 1 rfl) ?_
        refine call_v (run_V (As := []) (rest := []) cx' (c_X9_refresh l H.size qa C_5 L _ h) mv_X9_refresh kw_312 rfl rfl ⟨Nat.le_of_ble_eq_true rfl, Nat.le_of_ble_eq_true rfl⟩ hP hD rfl rfl rfl hl.1 rfl (Nat.le_of_ble_eq_true rfl) dX9_undo_37 ⟨Nat.zero_le _, Nat.zero_le _⟩) hD hS hA (fun u9 H locs hP hD hS h => ?_)
        obtain ⟨C_6, L_7⟩ := u9
        have hP : va_P (dC, dI) vwCl (wC cI cJ qa C_6 L_7) H := hP
        have hD : va_D A (wC cI cJ qa C_6 L_7) := hD
        refine lv_aload_n hx hb dX9_undo_40 rfl (lv_at hl 0 rfl) ?_
        refine gf_v (k := 3) (v := .int (C_6 1 0 3)) cx' hP 1 i_X7 rfl rfl (by decide) kw_34 rfl rfl dX9_undo_41 ?_
        exact rt_i (v := C_6 1 0 3) (u := (C_6, L_7)) cx hP hD hS h dX9_undo_44
      have h := h.2 c_4
      refine lv_bipush (v := (-3)) hx hb dX9_undo_23 (by decide) ?_
      exact rt_i (v := (-3)) (u := (C, L)) cx hP hD hS h dX9_undo_25
    · skip
      refine lv_astore_n (lv' := [(2, .ref (qa 2 0)), (0, .ref (qa 0 0)), (1, .int x1)]) hx hb dX9_undo_15 rfl hl (by decide) rfl (fun ls hl => ?_)
      refine lv_aload_n hx hb dX9_undo_16 rfl (lv_at hl 0 rfl) ?_
      refine gf_v (k := 3) (v := .int (C 2 0 3)) cx' hP 3 i_X7 rfl rfl (by decide) kw_34 rfl rfl dX9_undo_17 ?_
      refine lv_if_ne (tgt := 26) hx hb dX9_undo_20 (by decide) (fun c_8 => ?_) (fun c_8 => ?_)
      · have h := h.1 c_8
        refine lv_aload_n hx hb dX9_undo_26 rfl (lv_at hl 0 rfl) ?_
        refine lv_dup hx hb dX9_undo_27 rfl ?_
        refine gf_v (k := 3) (v := .int (C 2 0 3)) cx' hP 3 i_X7 rfl rfl (by decide) kw_34 rfl rfl dX9_undo_28 ?_
        refine lv_iconst (v := 1) hx hb dX9_undo_31 (by decide) ?_
        refine lv_isub hx hb dX9_undo_32 ?_
        obtain ⟨C_9, eC_9⟩ : ∃ z : Nat → Mem, z = up3 C 2 (up2 (C 2) 0 3 ((C 2 0 3) - 1)) := ⟨_, rfl⟩
        have h := h C_9 eC_9
        refine pf_v (k := 3) (tf := .int) cx' hP hD hS 3 (wC cI cJ qa C_9 L) i_X7 tyX7 tyX7_ok nmX7 rfl rfl (by decide) kw_34 rfl rfl rfl rfl rfl (Nat.le_of_ble_eq_true rfl) dX9_undo_33 (by subst eC_9; rfl) (fun H locs hP hD hS => ?_)
        refine lv_aload_n hx hb dX9_undo_36 rfl (lv_at hl 1 rfl) ?_
        refine call_v (run_V (As := []) (rest := []) cx' (c_X9_refresh l H.size qa C_9 L _ h) mv_X9_refresh kw_312 rfl rfl ⟨Nat.le_of_ble_eq_true rfl, Nat.le_of_ble_eq_true rfl⟩ hP hD rfl rfl rfl hl.1 rfl (Nat.le_of_ble_eq_true rfl) dX9_undo_37 ⟨Nat.zero_le _, Nat.zero_le _⟩) hD hS hA (fun u9 H locs hP hD hS h => ?_)
        obtain ⟨C_10, L_11⟩ := u9
        have hP : va_P (dC, dI) vwCl (wC cI cJ qa C_10 L_11) H := hP
        have hD : va_D A (wC cI cJ qa C_10 L_11) := hD
        refine lv_aload_n hx hb dX9_undo_40 rfl (lv_at hl 0 rfl) ?_
        refine gf_v (k := 3) (v := .int (C_10 2 0 3)) cx' hP 3 i_X7 rfl rfl (by decide) kw_34 rfl rfl dX9_undo_41 ?_
        exact rt_i (v := C_10 2 0 3) (u := (C_10, L_11)) cx hP hD hS h dX9_undo_44
      have h := h.2 c_8
      refine lv_bipush (v := (-3)) hx hb dX9_undo_23 (by decide) ?_
      exact rt_i (v := (-3)) (u := (C, L)) cx hP hD hS h dX9_undo_25
  have h := h.2 c_2
  refine lv_bipush (v := (-2)) hx hb dX9_undo_7 (by decide) ?_
  exact rt_i (v := (-2)) (u := (C, L)) cx hP hD hS h dX9_undo_9
set_option maxRecDepth 100000 in
theorem c_X9_undo (l : Launch) {dC : Nat → ClassId} {dI : Nat → Nat → Nat} {cI cJ : ClassId} (sz : Nat) (qa : Nat → Nat → Nat) (C : Nat → Mem) (L : MemL) (x1 : Int32) (post : Int32 → (Nat → Mem) → MemL → Prop) (h : wp_X9_undo C L x1 post) : Met l yX9_undo (Cond.code yX9_undo cX9_undo 3 (some .int) :: gt) ({ frames := 6, cells := 0, slots := 0, locals := 126 }) (va_Pc [.ref (qa 0 0), .int x1] (PRE (dC, dI) (TY cI cJ) (wC cI cJ qa C L) sz)) (va_Qi (S := (Nat → Mem) × MemL) (fun (r : Int32) (u : (Nat → Mem) × MemL) => post r u.1 u.2) (fun u t => AT (dC, dI) (TY cI cJ) (va_A (wC cI cJ qa C L) sz) (wC cI cJ qa (u.1) (u.2)) t) (va_A (wC cI cJ qa C L) sz)) 0 0 (va_A (wC cI cJ qa C L) sz) :=
  met_of (own := RX9) (Qf := fun A => va_Qi (S := (Nat → Mem) × MemL) (fun (r : Int32) (u : (Nat → Mem) × MemL) => post r u.1 u.2) (fun u t => AT (dC, dI) (TY cI cJ) A (wC cI cJ qa (u.1) (u.2)) t) A) (by decide) rfl (Nat.le_of_ble_eq_true rfl) rfl (fun p e s m below meth c A cx hA ls hP hD hS hl => w_X9_undo_0 cx hA x1 C L _ _ ls hP hD hS hl h)
theorem mv_X9_undo : MV yX9_undo cX9_undo 3 (some .int) 1 := ⟨⟨kw_393, kw_1, by decide +kernel⟩, kw_391, kw_392⟩
set_option maxHeartbeats 4000000 in
set_option maxRecDepth 100000 in
theorem w_X9_fault_0 {p : Program} {l : Launch} {e : Env} {s : State} {m : MethodId} {args : Array Value} {below : List Frame} {meth : Method} {c : Code} {dC : Nat → ClassId} {dI : Nat → Nat → Nat} {cI cJ : ClassId} {A : Nat → Prop} (cx : CX RX9 cX9_fault (some .int) 2 p s m args meth c (dC, dI) (TY cI cJ)) (hA : ∀ q, s.heap.size ≤ q → A q) {qa : Nat → Nat → Nat} {C : (Nat → Mem)} {L : MemL} {post : Int32 → Prop} : ∀ (x1 : Int32) (H : Heap) (locs : List Loc) (ls : Array Slot), va_P (dC, dI) vwCl (wC cI cJ qa C L) H → va_D A (wC cI cJ qa C L) → va_S A s.heap H locs → lv_has ls 2 [(0, .ref (qa 0 0)), (1, .int x1)] → b_X9_fault_0 C L post x1 → W p l e ({ frames := 3, cells := 0, slots := 0, locals := 64 }) s m args below meth c H locs 0 0 (MQ below (va_Qi (S := Unit) (fun (r : Int32) (_u : Unit) => post r) (fun _u t => AT (dC, dI) (TY cI cJ) A (wC cI cJ qa C L) t) A) args s 0 0 A) (F0 m 0 ls []) := by
  obtain ⟨hx, hb, hr, hml, hown, hts, hlocks, hK⟩ := id cx
  have cx' : CX RX9 cX9_fault (meth.sig.returnType) 2 p s m args meth c (dC, dI) (TY cI cJ) := ⟨hx, hb, rfl, hml, hown, hts, hlocks, hK⟩
  intro x1 H locs ls hP hD hS hl h
  unfold b_X9_fault_0 at h
  refine lv_iload_n hx hb dX9_fault_0 rfl (lv_at hl 1 rfl) ?_
  refine callN_i (run_S (As := [.int x1]) (rest := []) (wc := []) cx' (c_X9_isBit l H.size x1 _ h) ms_X9_isBit kw_305 rfl rfl ⟨Nat.le_of_ble_eq_true rfl, Nat.le_of_ble_eq_true rfl⟩ nilP nilD (A := A) rfl hl.1 rfl (Nat.le_of_ble_eq_true rfl) dX9_fault_1 ⟨Nat.zero_le _, Nat.zero_le _⟩) hP hS hA (fun r_1 H locs hP hS h => ?_)
  refine lv_if_eq (tgt := 18) hx hb dX9_fault_4 (by decide) (fun c_2 => ?_) (fun c_2 => ?_)
  · have h := h.1 c_2
    refine lv_bipush (v := (-2)) hx hb dX9_fault_18 (by decide) ?_
    exact rt_i (v := (-2)) (u := ()) cx hP hD hS h dX9_fault_20
  have h := h.2 c_2
  refine lv_aload_n hx hb dX9_fault_7 rfl (lv_at hl 0 rfl) ?_
  refine lv_iload_n hx hb dX9_fault_8 rfl (lv_at hl 1 rfl) ?_
  refine call_r (ad := fun u => qa u 0) (run_V (As := [.int x1]) (rest := []) cx' (c_X9_textOf l H.size qa C L x1 _ h) mv_X9_textOf kw_308 rfl rfl ⟨Nat.le_of_ble_eq_true rfl, Nat.le_of_ble_eq_true rfl⟩ hP hD rfl rfl rfl hl.1 rfl (Nat.le_of_ble_eq_true rfl) dX9_fault_9 ⟨Nat.zero_le _, Nat.zero_le _⟩) hD hS hA (fun r_3 H locs hP hD hS h => ?_)
  rcases h with ⟨rfl, h⟩ | ⟨rfl, h⟩
  · skip
    refine callP_i (wc := ww_X7 cI cJ 31 (qa 1) (C 1)) (wr_C_1 cI cJ qa C L) (fun (_u : Unit) => wC cI cJ qa C L) [1, 2] [0, 3, 4, 5, 6, 7, 8, 9, 10, 11, 12, 13, 14, 15, 16, 17, 18, 19, 20, 21, 22, 23, 24, 25, 26, 27, 28, 29, 30, 31, 32, 33, 34, 35, 36, 37, 38, 39] [0, 38, 39, 1, 2, 3, 4, 5, 6, 7, 8, 9, 10, 11, 12, 13, 14, 15, 16, 17, 18, 19, 20, 21, 22, 23, 24, 25, 26, 27, 28, 29, 30, 31, 32, 33, 34, 35, 36, 37] rfl rfl rfl (by decide) (fun _ => rfl) rfl hP hD hS hA (fun hPc hDc => run_V (As := []) (rest := []) cx' (c_X7_firstFault l H.size 31 (qa 1) (C 1) _ h) mv_X7_firstFault kw_398 rfl rfl ⟨Nat.le_of_ble_eq_true rfl, Nat.le_of_ble_eq_true rfl⟩ hPc hDc rfl rfl rfl hl.1 rfl (Nat.le_of_ble_eq_true rfl) dX9_fault_12 ⟨Nat.zero_le _, Nat.zero_le _⟩) rfl (fun r_4 u9 H locs hP hD hS h => ?_)
    have hP : va_P (dC, dI) vwCl (wC cI cJ qa C L) H := hP
    have hD : va_D A (wC cI cJ qa C L) := hD
    refine lv_goto (tgt := 20) hx hb dX9_fault_15 (by decide) ?_
    exact rt_i (v := r_4) (u := ()) cx hP hD hS h dX9_fault_20
  · skip
    refine callP_i (wc := ww_X7 cI cJ 47 (qa 2) (C 2)) (wr_C_2 cI cJ qa C L) (fun (_u : Unit) => wC cI cJ qa C L) [3, 4] [0, 1, 2, 5, 6, 7, 8, 9, 10, 11, 12, 13, 14, 15, 16, 17, 18, 19, 20, 21, 22, 23, 24, 25, 26, 27, 28, 29, 30, 31, 32, 33, 34, 35, 36, 37, 38, 39] [0, 1, 2, 38, 39, 3, 4, 5, 6, 7, 8, 9, 10, 11, 12, 13, 14, 15, 16, 17, 18, 19, 20, 21, 22, 23, 24, 25, 26, 27, 28, 29, 30, 31, 32, 33, 34, 35, 36, 37] rfl rfl rfl (by decide) (fun _ => rfl) rfl hP hD hS hA (fun hPc hDc => run_V (As := []) (rest := []) cx' (c_X7_firstFault l H.size 47 (qa 2) (C 2) _ h) mv_X7_firstFault kw_398 rfl rfl ⟨Nat.le_of_ble_eq_true rfl, Nat.le_of_ble_eq_true rfl⟩ hPc hDc rfl rfl rfl hl.1 rfl (Nat.le_of_ble_eq_true rfl) dX9_fault_12 ⟨Nat.zero_le _, Nat.zero_le _⟩) rfl (fun r_5 u9 H locs hP hD hS h => ?_)
    have hP : va_P (dC, dI) vwCl (wC cI cJ qa C L) H := hP
    have hD : va_D A (wC cI cJ qa C L) := hD
    refine lv_goto (tgt := 20) hx hb dX9_fault_15 (by decide) ?_
    exact rt_i (v := r_5) (u := ()) cx hP hD hS h dX9_fault_20
set_option maxRecDepth 100000 in
theorem c_X9_fault (l : Launch) {dC : Nat → ClassId} {dI : Nat → Nat → Nat} {cI cJ : ClassId} (sz : Nat) (qa : Nat → Nat → Nat) (C : Nat → Mem) (L : MemL) (x1 : Int32) (post : Int32 → Prop) (h : wp_X9_fault C L x1 post) : Met l yX9_fault (Cond.code yX9_fault cX9_fault 2 (some .int) :: gt) ({ frames := 3, cells := 0, slots := 0, locals := 64 }) (va_Pc [.ref (qa 0 0), .int x1] (PRE (dC, dI) (TY cI cJ) (wC cI cJ qa C L) sz)) (va_Qi (S := Unit) (fun (r : Int32) (_u : Unit) => post r) (fun _u t => AT (dC, dI) (TY cI cJ) (va_A (wC cI cJ qa C L) sz) (wC cI cJ qa C L) t) (va_A (wC cI cJ qa C L) sz)) 0 0 (va_A (wC cI cJ qa C L) sz) :=
  met_of (own := RX9) (Qf := fun A => va_Qi (S := Unit) (fun (r : Int32) (_u : Unit) => post r) (fun _u t => AT (dC, dI) (TY cI cJ) A (wC cI cJ qa C L) t) A) (by decide) rfl (Nat.le_of_ble_eq_true rfl) rfl (fun p e s m below meth c A cx hA ls hP hD hS hl => w_X9_fault_0 cx hA x1 _ _ ls hP hD hS hl h)
theorem mv_X9_fault : MV yX9_fault cX9_fault 2 (some .int) 1 := ⟨⟨kw_397, kw_1, by decide +kernel⟩, kw_395, kw_396⟩
set_option maxHeartbeats 4000000 in
set_option maxRecDepth 100000 in
theorem w_X9_isHouse_0 {p : Program} {l : Launch} {e : Env} {s : State} {m : MethodId} {args : Array Value} {below : List Frame} {meth : Method} {c : Code} {dC : Nat → ClassId} {dI : Nat → Nat → Nat} {cI cJ : ClassId} {A : Nat → Prop} (cx : CX RX9 cX9_isHouse (some .boolean) 2 p s m args meth c (dC, dI) (TY cI cJ)) (hA : ∀ q, s.heap.size ≤ q → A q) {qa : Nat → Nat → Nat} {C : (Nat → Mem)} {L : MemL} {post : Int32 → Prop} : ∀ (x1 : Int32) (H : Heap) (locs : List Loc) (ls : Array Slot), va_P (dC, dI) vwCl (wC cI cJ qa C L) H → va_D A (wC cI cJ qa C L) → va_S A s.heap H locs → lv_has ls 2 [(0, .ref (qa 0 0)), (1, .int x1)] → b_X9_isHouse_0 C L post x1 → W p l e ({ frames := 0, cells := 0, slots := 0, locals := 0 }) s m args below meth c H locs 0 0 (MQ below (va_Qi (S := Unit) (fun (r : Int32) (_u : Unit) => post r) (fun _u t => AT (dC, dI) (TY cI cJ) A (wC cI cJ qa C L) t) A) args s 0 0 A) (F0 m 0 ls []) := by
  obtain ⟨hx, hb, hr, hml, hown, hts, hlocks, hK⟩ := id cx
  have cx' : CX RX9 cX9_isHouse (meth.sig.returnType) 2 p s m args meth c (dC, dI) (TY cI cJ) := ⟨hx, hb, rfl, hml, hown, hts, hlocks, hK⟩
  intro x1 H locs ls hP hD hS hl h
  unfold b_X9_isHouse_0 at h
  refine lv_iload_n hx hb dX9_isHouse_0 rfl (lv_at hl 1 rfl) ?_
  refine lv_if_lt (tgt := 19) hx hb dX9_isHouse_1 (by decide) (fun c_1 => ?_) (fun c_1 => ?_)
  · have h := h.1 c_1
    refine lv_iconst (v := 0) hx hb dX9_isHouse_19 (by decide) ?_
    exact rt_z (v := 0) (u := ()) cx (Or.inl rfl) hP hD hS h dX9_isHouse_20
  have h := h.2 c_1
  refine lv_iload_n hx hb dX9_isHouse_4 rfl (lv_at hl 1 rfl) ?_
  refine lv_aload_n hx hb dX9_isHouse_5 rfl (lv_at hl 0 rfl) ?_
  refine gf_v (k := 2) (v := .ref (qa 3 0)) cx' hP 0 i_X9 rfl rfl (by decide) kw_266 rfl rfl dX9_isHouse_6 ?_
  refine gf_v (k := 4) (v := .int (C 3 0 4)) cx' hP 5 i_X4 rfl rfl (by decide) kw_64 rfl rfl dX9_isHouse_9 ?_
  refine lv_icmp_ge (tgt := 19) hx hb dX9_isHouse_12 (by decide) (fun c_2 => ?_) (fun c_2 => ?_)
  · have h := h.1 c_2
    refine lv_iconst (v := 0) hx hb dX9_isHouse_19 (by decide) ?_
    exact rt_z (v := 0) (u := ()) cx (Or.inl rfl) hP hD hS h dX9_isHouse_20
  have h := h.2 c_2
  refine lv_iconst (v := 1) hx hb dX9_isHouse_15 (by decide) ?_
  refine lv_goto (tgt := 20) hx hb dX9_isHouse_16 (by decide) ?_
  exact rt_z (v := 1) (u := ()) cx (Or.inr rfl) hP hD hS h dX9_isHouse_20
set_option maxRecDepth 100000 in
theorem c_X9_isHouse (l : Launch) {dC : Nat → ClassId} {dI : Nat → Nat → Nat} {cI cJ : ClassId} (sz : Nat) (qa : Nat → Nat → Nat) (C : Nat → Mem) (L : MemL) (x1 : Int32) (post : Int32 → Prop) (h : wp_X9_isHouse C L x1 post) : Met l yX9_isHouse (Cond.code yX9_isHouse cX9_isHouse 2 (some .boolean) :: gt) ({ frames := 0, cells := 0, slots := 0, locals := 0 }) (va_Pc [.ref (qa 0 0), .int x1] (PRE (dC, dI) (TY cI cJ) (wC cI cJ qa C L) sz)) (va_Qi (S := Unit) (fun (r : Int32) (_u : Unit) => post r) (fun _u t => AT (dC, dI) (TY cI cJ) (va_A (wC cI cJ qa C L) sz) (wC cI cJ qa C L) t) (va_A (wC cI cJ qa C L) sz)) 0 0 (va_A (wC cI cJ qa C L) sz) :=
  met_of (own := RX9) (Qf := fun A => va_Qi (S := Unit) (fun (r : Int32) (_u : Unit) => post r) (fun _u t => AT (dC, dI) (TY cI cJ) A (wC cI cJ qa C L) t) A) (by decide) rfl (Nat.le_of_ble_eq_true rfl) rfl (fun p e s m below meth c A cx hA ls hP hD hS hl => w_X9_isHouse_0 cx hA x1 _ _ ls hP hD hS hl h)
theorem mv_X9_isHouse : MV yX9_isHouse cX9_isHouse 2 (some .boolean) 1 := ⟨⟨kw_406, kw_1, by decide +kernel⟩, kw_405, ksel_2⟩
set_option maxHeartbeats 4000000 in
set_option maxRecDepth 100000 in
theorem w_X9_house_0 {p : Program} {l : Launch} {e : Env} {s : State} {m : MethodId} {args : Array Value} {below : List Frame} {meth : Method} {c : Code} {dC : Nat → ClassId} {dI : Nat → Nat → Nat} {cI cJ : ClassId} {A : Nat → Prop} (cx : CX RX9 cX9_house (some .int) 3 p s m args meth c (dC, dI) (TY cI cJ)) (hA : ∀ q, s.heap.size ≤ q → A q) {qa : Nat → Nat → Nat} {C : (Nat → Mem)} {L : MemL} {post : Int32 → Prop} : ∀ (x1 : Int32) (x2 : Int32) (H : Heap) (locs : List Loc) (ls : Array Slot), va_P (dC, dI) vwCl (wC cI cJ qa C L) H → va_D A (wC cI cJ qa C L) → va_S A s.heap H locs → lv_has ls 3 [(0, .ref (qa 0 0)), (1, .int x1), (2, .int x2)] → b_X9_house_0 C L post x1 x2 → W p l e ({ frames := 1, cells := 0, slots := 0, locals := 21 }) s m args below meth c H locs 0 0 (MQ below (va_Qi (S := Unit) (fun (r : Int32) (_u : Unit) => post r) (fun _u t => AT (dC, dI) (TY cI cJ) A (wC cI cJ qa C L) t) A) args s 0 0 A) (F0 m 0 ls []) := by
  obtain ⟨hx, hb, hr, hml, hown, hts, hlocks, hK⟩ := id cx
  have cx' : CX RX9 cX9_house (meth.sig.returnType) 3 p s m args meth c (dC, dI) (TY cI cJ) := ⟨hx, hb, rfl, hml, hown, hts, hlocks, hK⟩
  intro x1 x2 H locs ls hP hD hS hl h
  unfold b_X9_house_0 at h
  refine lv_aload_n hx hb dX9_house_0 rfl (lv_at hl 0 rfl) ?_
  refine lv_iload_n hx hb dX9_house_1 rfl (lv_at hl 1 rfl) ?_
  refine call_i (run_V (As := [.int x1]) (rest := []) cx' (c_X9_isHouse l H.size qa C L x1 _ h) mv_X9_isHouse kw_403 rfl rfl ⟨Nat.le_of_ble_eq_true rfl, Nat.le_of_ble_eq_true rfl⟩ hP hD rfl rfl rfl hl.1 rfl (Nat.le_of_ble_eq_true rfl) dX9_house_2 ⟨Nat.zero_le _, Nat.zero_le _⟩) hD hS hA (fun r_1 u9 H locs hP hD hS h => ?_)
  have hP : va_P (dC, dI) vwCl (wC cI cJ qa C L) H := hP
  have hD : va_D A (wC cI cJ qa C L) := hD
  refine lv_if_eq (tgt := 17) hx hb dX9_house_5 (by decide) (fun c_2 => ?_) (fun c_2 => ?_)
  · have h := h.1 c_2
    refine lv_bipush (v := (-2)) hx hb dX9_house_17 (by decide) ?_
    exact rt_i (v := (-2)) (u := ()) cx hP hD hS h dX9_house_19
  have h := h.2 c_2
  refine lv_iload_n hx hb dX9_house_8 rfl (lv_at hl 2 rfl) ?_
  refine lv_if_lt (tgt := 17) hx hb dX9_house_9 (by decide) (fun c_3 => ?_) (fun c_3 => ?_)
  · have h := h.1 c_3
    refine lv_bipush (v := (-2)) hx hb dX9_house_17 (by decide) ?_
    exact rt_i (v := (-2)) (u := ()) cx hP hD hS h dX9_house_19
  have h := h.2 c_3
  refine lv_iload_n hx hb dX9_house_12 rfl (lv_at hl 2 rfl) ?_
  refine lv_iconst (v := 2) hx hb dX9_house_13 (by decide) ?_
  refine lv_icmp_le (tgt := 20) hx hb dX9_house_14 (by decide) (fun c_4 => ?_) (fun c_4 => ?_)
  · have h := h.1 c_4
    refine lv_iload_n hx hb dX9_house_20 rfl (lv_at hl 2 rfl) ?_
    refine lv_if_ne (tgt := 34) hx hb dX9_house_21 (by decide) (fun c_5 => ?_) (fun c_5 => ?_)
    · have h := h.1 c_5
      refine lv_iload_n hx hb dX9_house_34 rfl (lv_at hl 2 rfl) ?_
      refine lv_iconst (v := 1) hx hb dX9_house_35 (by decide) ?_
      refine lv_icmp_ne (tgt := 51) hx hb dX9_house_36 (by decide) (fun c_6 => ?_) (fun c_6 => ?_)
      · have h := h.1 c_6
        refine lv_aload_n hx hb dX9_house_51 rfl (lv_at hl 0 rfl) ?_
        refine gf_v (k := 2) (v := .ref (qa 3 0)) cx' hP 0 i_X9 rfl rfl (by decide) kw_266 rfl rfl dX9_house_52 ?_
        refine gf_v (k := 2) (v := .ref (qa 3 3)) cx' hP 5 i_X4 rfl rfl (by decide) kw_58 rfl rfl dX9_house_55 ?_
        refine lv_iload_n hx hb dX9_house_58 rfl (lv_at hl 1 rfl) ?_
        refine va_iald hx hb hK hP 8 0 rfl rfl h.1 dX9_house_59 ?_
        have h := h.2
        exact rt_i (v := C 3 3 (Int32.toNatClampNeg x1)) (u := ()) cx hP hD hS h dX9_house_60
      have h := h.2 c_6
      refine lv_aload_n hx hb dX9_house_39 rfl (lv_at hl 0 rfl) ?_
      refine gf_v (k := 2) (v := .ref (qa 3 0)) cx' hP 0 i_X9 rfl rfl (by decide) kw_266 rfl rfl dX9_house_40 ?_
      refine gf_v (k := 1) (v := .ref (qa 3 2)) cx' hP 5 i_X4 rfl rfl (by decide) kw_56 rfl rfl dX9_house_43 ?_
      refine lv_iload_n hx hb dX9_house_46 rfl (lv_at hl 1 rfl) ?_
      refine va_iald hx hb hK hP 7 0 rfl rfl h.1 dX9_house_47 ?_
      have h := h.2
      refine lv_goto (tgt := 60) hx hb dX9_house_48 (by decide) ?_
      exact rt_i (v := C 3 2 (Int32.toNatClampNeg x1)) (u := ()) cx hP hD hS h dX9_house_60
    have h := h.2 c_5
    refine lv_aload_n hx hb dX9_house_24 rfl (lv_at hl 0 rfl) ?_
    refine gf_v (k := 2) (v := .ref (qa 3 0)) cx' hP 0 i_X9 rfl rfl (by decide) kw_266 rfl rfl dX9_house_25 ?_
    refine gf_v (k := 0) (v := .ref (qa 3 1)) cx' hP 5 i_X4 rfl rfl (by decide) kw_53 rfl rfl dX9_house_28 ?_
    refine lv_iload_n hx hb dX9_house_31 rfl (lv_at hl 1 rfl) ?_
    refine va_iald hx hb hK hP 6 0 rfl rfl h.1 dX9_house_32 ?_
    have h := h.2
    exact rt_i (v := C 3 1 (Int32.toNatClampNeg x1)) (u := ()) cx hP hD hS h dX9_house_33
  have h := h.2 c_4
  refine lv_bipush (v := (-2)) hx hb dX9_house_17 (by decide) ?_
  exact rt_i (v := (-2)) (u := ()) cx hP hD hS h dX9_house_19
set_option maxRecDepth 100000 in
theorem c_X9_house (l : Launch) {dC : Nat → ClassId} {dI : Nat → Nat → Nat} {cI cJ : ClassId} (sz : Nat) (qa : Nat → Nat → Nat) (C : Nat → Mem) (L : MemL) (x1 : Int32) (x2 : Int32) (post : Int32 → Prop) (h : wp_X9_house C L x1 x2 post) : Met l yX9_house (Cond.code yX9_house cX9_house 3 (some .int) :: gt) ({ frames := 1, cells := 0, slots := 0, locals := 21 }) (va_Pc [.ref (qa 0 0), .int x1, .int x2] (PRE (dC, dI) (TY cI cJ) (wC cI cJ qa C L) sz)) (va_Qi (S := Unit) (fun (r : Int32) (_u : Unit) => post r) (fun _u t => AT (dC, dI) (TY cI cJ) (va_A (wC cI cJ qa C L) sz) (wC cI cJ qa C L) t) (va_A (wC cI cJ qa C L) sz)) 0 0 (va_A (wC cI cJ qa C L) sz) :=
  met_of (own := RX9) (Qf := fun A => va_Qi (S := Unit) (fun (r : Int32) (_u : Unit) => post r) (fun _u t => AT (dC, dI) (TY cI cJ) A (wC cI cJ qa C L) t) A) (by decide) rfl (Nat.le_of_ble_eq_true rfl) rfl (fun p e s m below meth c A cx hA ls hP hD hS hl => w_X9_house_0 cx hA x1 x2 _ _ ls hP hD hS hl h)
theorem mv_X9_house : MV yX9_house cX9_house 3 (some .int) 2 := ⟨⟨kw_402, kw_1, by decide +kernel⟩, kw_400, kw_401⟩
set_option maxHeartbeats 4000000 in
set_option maxRecDepth 100000 in
theorem w_X9_isGuest_0 {p : Program} {l : Launch} {e : Env} {s : State} {m : MethodId} {args : Array Value} {below : List Frame} {meth : Method} {c : Code} {dC : Nat → ClassId} {dI : Nat → Nat → Nat} {cI cJ : ClassId} {A : Nat → Prop} (cx : CX RX9 cX9_isGuest (some .boolean) 2 p s m args meth c (dC, dI) (TY cI cJ)) (hA : ∀ q, s.heap.size ≤ q → A q) {qa : Nat → Nat → Nat} {C : (Nat → Mem)} {L : MemL} {post : Int32 → Prop} : ∀ (x1 : Int32) (H : Heap) (locs : List Loc) (ls : Array Slot), va_P (dC, dI) vwCl (wC cI cJ qa C L) H → va_D A (wC cI cJ qa C L) → va_S A s.heap H locs → lv_has ls 2 [(0, .ref (qa 0 0)), (1, .int x1)] → b_X9_isGuest_0 C L post x1 → W p l e ({ frames := 0, cells := 0, slots := 0, locals := 0 }) s m args below meth c H locs 0 0 (MQ below (va_Qi (S := Unit) (fun (r : Int32) (_u : Unit) => post r) (fun _u t => AT (dC, dI) (TY cI cJ) A (wC cI cJ qa C L) t) A) args s 0 0 A) (F0 m 0 ls []) := by
  obtain ⟨hx, hb, hr, hml, hown, hts, hlocks, hK⟩ := id cx
  have cx' : CX RX9 cX9_isGuest (meth.sig.returnType) 2 p s m args meth c (dC, dI) (TY cI cJ) := ⟨hx, hb, rfl, hml, hown, hts, hlocks, hK⟩
  intro x1 H locs ls hP hD hS hl h
  unfold b_X9_isGuest_0 at h
  refine lv_iload_n hx hb dX9_isGuest_0 rfl (lv_at hl 1 rfl) ?_
  refine lv_if_lt (tgt := 19) hx hb dX9_isGuest_1 (by decide) (fun c_1 => ?_) (fun c_1 => ?_)
  · have h := h.1 c_1
    refine lv_iconst (v := 0) hx hb dX9_isGuest_19 (by decide) ?_
    exact rt_z (v := 0) (u := ()) cx (Or.inl rfl) hP hD hS h dX9_isGuest_20
  have h := h.2 c_1
  refine lv_iload_n hx hb dX9_isGuest_4 rfl (lv_at hl 1 rfl) ?_
  refine lv_aload_n hx hb dX9_isGuest_5 rfl (lv_at hl 0 rfl) ?_
  refine gf_v (k := 3) (v := .ref (qa 4 0)) cx' hP 0 i_X9 rfl rfl (by decide) kw_267 rfl rfl dX9_isGuest_6 ?_
  refine gf_v (k := 4) (v := .int (C 4 0 4)) cx' hP 10 i_X2 rfl rfl (by decide) kw_104 rfl rfl dX9_isGuest_9 ?_
  refine lv_icmp_ge (tgt := 19) hx hb dX9_isGuest_12 (by decide) (fun c_2 => ?_) (fun c_2 => ?_)
  · have h := h.1 c_2
    refine lv_iconst (v := 0) hx hb dX9_isGuest_19 (by decide) ?_
    exact rt_z (v := 0) (u := ()) cx (Or.inl rfl) hP hD hS h dX9_isGuest_20
  have h := h.2 c_2
  refine lv_iconst (v := 1) hx hb dX9_isGuest_15 (by decide) ?_
  refine lv_goto (tgt := 20) hx hb dX9_isGuest_16 (by decide) ?_
  exact rt_z (v := 1) (u := ()) cx (Or.inr rfl) hP hD hS h dX9_isGuest_20
set_option maxRecDepth 100000 in
theorem c_X9_isGuest (l : Launch) {dC : Nat → ClassId} {dI : Nat → Nat → Nat} {cI cJ : ClassId} (sz : Nat) (qa : Nat → Nat → Nat) (C : Nat → Mem) (L : MemL) (x1 : Int32) (post : Int32 → Prop) (h : wp_X9_isGuest C L x1 post) : Met l yX9_isGuest (Cond.code yX9_isGuest cX9_isGuest 2 (some .boolean) :: gt) ({ frames := 0, cells := 0, slots := 0, locals := 0 }) (va_Pc [.ref (qa 0 0), .int x1] (PRE (dC, dI) (TY cI cJ) (wC cI cJ qa C L) sz)) (va_Qi (S := Unit) (fun (r : Int32) (_u : Unit) => post r) (fun _u t => AT (dC, dI) (TY cI cJ) (va_A (wC cI cJ qa C L) sz) (wC cI cJ qa C L) t) (va_A (wC cI cJ qa C L) sz)) 0 0 (va_A (wC cI cJ qa C L) sz) :=
  met_of (own := RX9) (Qf := fun A => va_Qi (S := Unit) (fun (r : Int32) (_u : Unit) => post r) (fun _u t => AT (dC, dI) (TY cI cJ) A (wC cI cJ qa C L) t) A) (by decide) rfl (Nat.le_of_ble_eq_true rfl) rfl (fun p e s m below meth c A cx hA ls hP hD hS hl => w_X9_isGuest_0 cx hA x1 _ _ ls hP hD hS hl h)
theorem mv_X9_isGuest : MV yX9_isGuest cX9_isGuest 2 (some .boolean) 1 := ⟨⟨kw_414, kw_1, by decide +kernel⟩, kw_413, ksel_3⟩
set_option maxHeartbeats 4000000 in
set_option maxRecDepth 100000 in
theorem w_X9_guest_0 {p : Program} {l : Launch} {e : Env} {s : State} {m : MethodId} {args : Array Value} {below : List Frame} {meth : Method} {c : Code} {dC : Nat → ClassId} {dI : Nat → Nat → Nat} {cI cJ : ClassId} {A : Nat → Prop} (cx : CX RX9 cX9_guest (some .int) 3 p s m args meth c (dC, dI) (TY cI cJ)) (hA : ∀ q, s.heap.size ≤ q → A q) {qa : Nat → Nat → Nat} {C : (Nat → Mem)} {L : MemL} {post : Int32 → Prop} : ∀ (x1 : Int32) (x2 : Int32) (H : Heap) (locs : List Loc) (ls : Array Slot), va_P (dC, dI) vwCl (wC cI cJ qa C L) H → va_D A (wC cI cJ qa C L) → va_S A s.heap H locs → lv_has ls 3 [(0, .ref (qa 0 0)), (1, .int x1), (2, .int x2)] → b_X9_guest_0 C L post x1 x2 → W p l e ({ frames := 1, cells := 0, slots := 0, locals := 21 }) s m args below meth c H locs 0 0 (MQ below (va_Qi (S := Unit) (fun (r : Int32) (_u : Unit) => post r) (fun _u t => AT (dC, dI) (TY cI cJ) A (wC cI cJ qa C L) t) A) args s 0 0 A) (F0 m 0 ls []) := by
  obtain ⟨hx, hb, hr, hml, hown, hts, hlocks, hK⟩ := id cx
  have cx' : CX RX9 cX9_guest (meth.sig.returnType) 3 p s m args meth c (dC, dI) (TY cI cJ) := ⟨hx, hb, rfl, hml, hown, hts, hlocks, hK⟩
  intro x1 x2 H locs ls hP hD hS hl h
  unfold b_X9_guest_0 at h
  refine lv_aload_n hx hb dX9_guest_0 rfl (lv_at hl 0 rfl) ?_
  refine lv_iload_n hx hb dX9_guest_1 rfl (lv_at hl 1 rfl) ?_
  refine call_i (run_V (As := [.int x1]) (rest := []) cx' (c_X9_isGuest l H.size qa C L x1 _ h) mv_X9_isGuest kw_411 rfl rfl ⟨Nat.le_of_ble_eq_true rfl, Nat.le_of_ble_eq_true rfl⟩ hP hD rfl rfl rfl hl.1 rfl (Nat.le_of_ble_eq_true rfl) dX9_guest_2 ⟨Nat.zero_le _, Nat.zero_le _⟩) hD hS hA (fun r_1 u9 H locs hP hD hS h => ?_)
  have hP : va_P (dC, dI) vwCl (wC cI cJ qa C L) H := hP
  have hD : va_D A (wC cI cJ qa C L) := hD
  refine lv_if_eq (tgt := 17) hx hb dX9_guest_5 (by decide) (fun c_2 => ?_) (fun c_2 => ?_)
  · have h := h.1 c_2
    refine lv_bipush (v := (-2)) hx hb dX9_guest_17 (by decide) ?_
    exact rt_i (v := (-2)) (u := ()) cx hP hD hS h dX9_guest_19
  have h := h.2 c_2
  refine lv_iload_n hx hb dX9_guest_8 rfl (lv_at hl 2 rfl) ?_
  refine lv_if_lt (tgt := 17) hx hb dX9_guest_9 (by decide) (fun c_3 => ?_) (fun c_3 => ?_)
  · have h := h.1 c_3
    refine lv_bipush (v := (-2)) hx hb dX9_guest_17 (by decide) ?_
    exact rt_i (v := (-2)) (u := ()) cx hP hD hS h dX9_guest_19
  have h := h.2 c_3
  refine lv_iload_n hx hb dX9_guest_12 rfl (lv_at hl 2 rfl) ?_
  refine lv_iconst (v := 3) hx hb dX9_guest_13 (by decide) ?_
  refine lv_icmp_le (tgt := 20) hx hb dX9_guest_14 (by decide) (fun c_4 => ?_) (fun c_4 => ?_)
  · have h := h.1 c_4
    refine lv_iload_n hx hb dX9_guest_20 rfl (lv_at hl 2 rfl) ?_
    by_cases c_5 : x2 = 0
    · have h := h.1 c_5
      refine lv_tableIn (off := 27) (tgt := 48) hx hb dX9_guest_21 (by have e9 := c_5; (rw [e9]; decide)) (by have e9 := c_5; (rw [e9]; decide)) (by have e9 := c_5; (rw [e9]; rfl)) (by decide) ?_
      refine lv_aload_n hx hb dX9_guest_48 rfl (lv_at hl 0 rfl) ?_
      refine gf_v (k := 3) (v := .ref (qa 4 0)) cx' hP 0 i_X9 rfl rfl (by decide) kw_267 rfl rfl dX9_guest_49 ?_
      refine gf_v (k := 0) (v := .ref (qa 4 1)) cx' hP 10 i_X2 rfl rfl (by decide) kw_92 rfl rfl dX9_guest_52 ?_
      refine lv_iload_n hx hb dX9_guest_55 rfl (lv_at hl 1 rfl) ?_
      refine va_iald hx hb hK hP 11 0 rfl rfl h.1 dX9_guest_56 ?_
      have h := h.2
      exact rt_i (v := C 4 1 (Int32.toNatClampNeg x1)) (u := ()) cx hP hD hS h dX9_guest_57
    have h := h.2 c_5
    by_cases c_6 : x2 = 1
    · have h := h.1 c_6
      refine lv_tableIn (off := 37) (tgt := 58) hx hb dX9_guest_21 (by have e9 := c_6; (rw [e9]; decide)) (by have e9 := c_6; (rw [e9]; decide)) (by have e9 := c_6; (rw [e9]; rfl)) (by decide) ?_
      refine lv_aload_n hx hb dX9_guest_58 rfl (lv_at hl 0 rfl) ?_
      refine gf_v (k := 3) (v := .ref (qa 4 0)) cx' hP 0 i_X9 rfl rfl (by decide) kw_267 rfl rfl dX9_guest_59 ?_
      refine gf_v (k := 1) (v := .ref (qa 4 2)) cx' hP 10 i_X2 rfl rfl (by decide) kw_95 rfl rfl dX9_guest_62 ?_
      refine lv_iload_n hx hb dX9_guest_65 rfl (lv_at hl 1 rfl) ?_
      refine va_iald hx hb hK hP 12 0 rfl rfl h.1 dX9_guest_66 ?_
      have h := h.2
      exact rt_i (v := C 4 2 (Int32.toNatClampNeg x1)) (u := ()) cx hP hD hS h dX9_guest_67
    have h := h.2 c_6
    by_cases c_7 : x2 = 2
    · have h := h.1 c_7
      refine lv_tableIn (off := 47) (tgt := 68) hx hb dX9_guest_21 (by have e9 := c_7; (rw [e9]; decide)) (by have e9 := c_7; (rw [e9]; decide)) (by have e9 := c_7; (rw [e9]; rfl)) (by decide) ?_
      refine lv_aload_n hx hb dX9_guest_68 rfl (lv_at hl 0 rfl) ?_
      refine gf_v (k := 3) (v := .ref (qa 4 0)) cx' hP 0 i_X9 rfl rfl (by decide) kw_267 rfl rfl dX9_guest_69 ?_
      refine gf_v (k := 2) (v := .ref (qa 4 3)) cx' hP 10 i_X2 rfl rfl (by decide) kw_98 rfl rfl dX9_guest_72 ?_
      refine lv_iload_n hx hb dX9_guest_75 rfl (lv_at hl 1 rfl) ?_
      refine va_iald hx hb hK hP 13 0 rfl rfl h.1 dX9_guest_76 ?_
      have h := h.2
      exact rt_i (v := C 4 3 (Int32.toNatClampNeg x1)) (u := ()) cx hP hD hS h dX9_guest_77
    have h := h.2 c_7
    refine tsw_def (tgt := 78) hx hb dX9_guest_21 (fun j hj hle => ?_) (by decide) ?_
    · have hj9 : j = 0 ∨ j = 1 ∨ j = 2 := by omega
      rcases hj9 with rfl | rfl | rfl
      · exact absurd (have e9 : x2 = 0 := Int32.toInt_inj.mp (by rw [hj]; rfl); e9) c_5
      · exact absurd (have e9 : x2 = 1 := Int32.toInt_inj.mp (by rw [hj]; rfl); e9) c_6
      · exact absurd (have e9 : x2 = 2 := Int32.toInt_inj.mp (by rw [hj]; rfl); e9) c_7
    refine lv_aload_n hx hb dX9_guest_78 rfl (lv_at hl 0 rfl) ?_
    refine gf_v (k := 3) (v := .ref (qa 4 0)) cx' hP 0 i_X9 rfl rfl (by decide) kw_267 rfl rfl dX9_guest_79 ?_
    refine gf_v (k := 3) (v := .ref (qa 4 4)) cx' hP 10 i_X2 rfl rfl (by decide) kw_101 rfl rfl dX9_guest_82 ?_
    refine lv_iload_n hx hb dX9_guest_85 rfl (lv_at hl 1 rfl) ?_
    refine va_iald hx hb hK hP 14 0 rfl rfl h.1 dX9_guest_86 ?_
    have h := h.2
    exact rt_i (v := C 4 4 (Int32.toNatClampNeg x1)) (u := ()) cx hP hD hS h dX9_guest_87
  have h := h.2 c_4
  refine lv_bipush (v := (-2)) hx hb dX9_guest_17 (by decide) ?_
  exact rt_i (v := (-2)) (u := ()) cx hP hD hS h dX9_guest_19
set_option maxRecDepth 100000 in
theorem c_X9_guest (l : Launch) {dC : Nat → ClassId} {dI : Nat → Nat → Nat} {cI cJ : ClassId} (sz : Nat) (qa : Nat → Nat → Nat) (C : Nat → Mem) (L : MemL) (x1 : Int32) (x2 : Int32) (post : Int32 → Prop) (h : wp_X9_guest C L x1 x2 post) : Met l yX9_guest (Cond.code yX9_guest cX9_guest 3 (some .int) :: gt) ({ frames := 1, cells := 0, slots := 0, locals := 21 }) (va_Pc [.ref (qa 0 0), .int x1, .int x2] (PRE (dC, dI) (TY cI cJ) (wC cI cJ qa C L) sz)) (va_Qi (S := Unit) (fun (r : Int32) (_u : Unit) => post r) (fun _u t => AT (dC, dI) (TY cI cJ) (va_A (wC cI cJ qa C L) sz) (wC cI cJ qa C L) t) (va_A (wC cI cJ qa C L) sz)) 0 0 (va_A (wC cI cJ qa C L) sz) :=
  met_of (own := RX9) (Qf := fun A => va_Qi (S := Unit) (fun (r : Int32) (_u : Unit) => post r) (fun _u t => AT (dC, dI) (TY cI cJ) A (wC cI cJ qa C L) t) A) (by decide) rfl (Nat.le_of_ble_eq_true rfl) rfl (fun p e s m below meth c A cx hA ls hP hD hS hl => w_X9_guest_0 cx hA x1 x2 _ _ ls hP hD hS hl h)
theorem mv_X9_guest : MV yX9_guest cX9_guest 3 (some .int) 2 := ⟨⟨kw_410, kw_1, by decide +kernel⟩, kw_408, kw_409⟩
set_option maxHeartbeats 4000000 in
set_option maxRecDepth 100000 in
theorem w_X9_set_68 {p : Program} {l : Launch} {e : Env} {s : State} {m : MethodId} {args : Array Value} {below : List Frame} {meth : Method} {c : Code} {dC : Nat → ClassId} {dI : Nat → Nat → Nat} {cI cJ : ClassId} {A : Nat → Prop} (cx : CX RX9 cX9_set (some .int) 4 p s m args meth c (dC, dI) (TY cI cJ)) (hA : ∀ q, s.heap.size ≤ q → A q) {qa : Nat → Nat → Nat} {post : Int32 → (Nat → Mem) → MemL → Prop} : ∀ (x3 : Int32) (C : (Nat → Mem)) (L : MemL) (H : Heap) (locs : List Loc) (ls : Array Slot), va_P (dC, dI) vwCl (wC cI cJ qa C L) H → va_D A (wC cI cJ qa C L) → va_S A s.heap H locs → lv_has ls 4 [(0, .ref (qa 0 0)), (3, .int x3)] → b_X9_set_68 post x3 C L → W p l e ({ frames := 6, cells := 0, slots := 0, locals := 126 }) s m args below meth c H locs 0 0 (MQ below (va_Qi (S := (Nat → Mem) × MemL) (fun (r : Int32) (u : (Nat → Mem) × MemL) => post r u.1 u.2) (fun u t => AT (dC, dI) (TY cI cJ) A (wC cI cJ qa (u.1) (u.2)) t) A) args s 0 0 A) (F0 m 68 ls []) := by
  obtain ⟨hx, hb, hr, hml, hown, hts, hlocks, hK⟩ := id cx
  have cx' : CX RX9 cX9_set (meth.sig.returnType) 4 p s m args meth c (dC, dI) (TY cI cJ) := ⟨hx, hb, rfl, hml, hown, hts, hlocks, hK⟩
  intro x3 C L H locs ls hP hD hS hl h
  unfold b_X9_set_68 at h
  refine lv_aload_n hx hb dX9_set_68 rfl (lv_at hl 0 rfl) ?_
  refine call_v (run_V (As := []) (rest := []) cx' (c_X9_refresh l H.size qa C L _ h) mv_X9_refresh kw_312 rfl rfl ⟨Nat.le_of_ble_eq_true rfl, Nat.le_of_ble_eq_true rfl⟩ hP hD rfl rfl rfl hl.1 rfl (Nat.le_of_ble_eq_true rfl) dX9_set_69 ⟨Nat.zero_le _, Nat.zero_le _⟩) hD hS hA (fun u9 H locs hP hD hS h => ?_)
  obtain ⟨C_1, L_2⟩ := u9
  have hP : va_P (dC, dI) vwCl (wC cI cJ qa C_1 L_2) H := hP
  have hD : va_D A (wC cI cJ qa C_1 L_2) := hD
  refine lv_iload_n hx hb dX9_set_72 rfl (lv_at hl 1 rfl) ?_
  exact rt_i (v := x3) (u := (C_1, L_2)) cx hP hD hS h dX9_set_73
set_option maxHeartbeats 4000000 in
set_option maxRecDepth 100000 in
theorem w_X9_set_0 {p : Program} {l : Launch} {e : Env} {s : State} {m : MethodId} {args : Array Value} {below : List Frame} {meth : Method} {c : Code} {dC : Nat → ClassId} {dI : Nat → Nat → Nat} {cI cJ : ClassId} {A : Nat → Prop} (cx : CX RX9 cX9_set (some .int) 4 p s m args meth c (dC, dI) (TY cI cJ)) (hA : ∀ q, s.heap.size ≤ q → A q) {qa : Nat → Nat → Nat} {post : Int32 → (Nat → Mem) → MemL → Prop} : ∀ (x1 : Int32) (x2 : Int32) (C : (Nat → Mem)) (L : MemL) (H : Heap) (locs : List Loc) (ls : Array Slot), va_P (dC, dI) vwCl (wC cI cJ qa C L) H → va_D A (wC cI cJ qa C L) → va_S A s.heap H locs → lv_has ls 4 [(0, .ref (qa 0 0)), (1, .int x1), (2, .int x2)] → b_X9_set_0 post x1 x2 C L → W p l e ({ frames := 6, cells := 0, slots := 0, locals := 126 }) s m args below meth c H locs 0 0 (MQ below (va_Qi (S := (Nat → Mem) × MemL) (fun (r : Int32) (u : (Nat → Mem) × MemL) => post r u.1 u.2) (fun u t => AT (dC, dI) (TY cI cJ) A (wC cI cJ qa (u.1) (u.2)) t) A) args s 0 0 A) (F0 m 0 ls []) := by
  obtain ⟨hx, hb, hr, hml, hown, hts, hlocks, hK⟩ := id cx
  have cx' : CX RX9 cX9_set (meth.sig.returnType) 4 p s m args meth c (dC, dI) (TY cI cJ) := ⟨hx, hb, rfl, hml, hown, hts, hlocks, hK⟩
  intro x1 x2 C L H locs ls hP hD hS hl h
  unfold b_X9_set_0 at h
  refine lv_iload_n hx hb dX9_set_0 rfl (lv_at hl 1 rfl) ?_
  refine callN_i (run_S (As := [.int x1]) (rest := []) (wc := []) cx' (c_X9_isBit l H.size x1 _ h) ms_X9_isBit kw_305 rfl rfl ⟨Nat.le_of_ble_eq_true rfl, Nat.le_of_ble_eq_true rfl⟩ nilP nilD (A := A) rfl hl.1 rfl (Nat.le_of_ble_eq_true rfl) dX9_set_1 ⟨Nat.zero_le _, Nat.zero_le _⟩) hP hS hA (fun r_1 H locs hP hS h => ?_)
  refine lv_if_eq (tgt := 26) hx hb dX9_set_4 (by decide) (fun c_2 => ?_) (fun c_2 => ?_)
  · have h := h.1 c_2
    refine lv_bipush (v := (-2)) hx hb dX9_set_26 (by decide) ?_
    exact rt_i (v := (-2)) (u := (C, L)) cx hP hD hS h dX9_set_28
  have h := h.2 c_2
  refine lv_iload_n hx hb dX9_set_7 rfl (lv_at hl 2 rfl) ?_
  refine lv_if_lt (tgt := 26) hx hb dX9_set_8 (by decide) (fun c_3 => ?_) (fun c_3 => ?_)
  · have h := h.1 c_3
    refine lv_bipush (v := (-2)) hx hb dX9_set_26 (by decide) ?_
    exact rt_i (v := (-2)) (u := (C, L)) cx hP hD hS h dX9_set_28
  have h := h.2 c_3
  refine lv_iload_n hx hb dX9_set_11 rfl (lv_at hl 2 rfl) ?_
  refine lv_iload_n hx hb dX9_set_12 rfl (lv_at hl 1 rfl) ?_
  refine dia_i (ls := ls) (c0 := x1 = 0) (a := 1) (b := 255) (J := 23) (rest := [.int x2]) (fun K => ?_) (fun v_5 ev_5 => ?_)
  · refine lv_if_ne (tgt := 20) hx hb dX9_set_13 (by decide) (fun c_4 => ?_) (fun c_4 => ?_)
    · refine lv_sipush (v := 255) hx hb dX9_set_20 (by decide) ?_
      exact K _ (Or.inr ⟨c_4, rfl⟩)
    · refine lv_iconst (v := 1) hx hb dX9_set_16 (by decide) ?_
      refine lv_goto (tgt := 23) hx hb dX9_set_17 (by decide) ?_
      exact K _ (Or.inl ⟨c_4, rfl⟩)
  have h := h v_5 ev_5
  refine lv_icmp_le (tgt := 29) hx hb dX9_set_23 (by decide) (fun c_6 => ?_) (fun c_6 => ?_)
  · have h := h.1 c_6
    refine lv_iload_n hx hb dX9_set_29 rfl (lv_at hl 1 rfl) ?_
    refine lv_if_ne (tgt := 52) hx hb dX9_set_30 (by decide) (fun c_7 => ?_) (fun c_7 => ?_)
    · have h := h.1 c_7
      refine lv_aload_n hx hb dX9_set_52 rfl (lv_at hl 0 rfl) ?_
      refine gf_v (k := 2) (v := .ref (qa 3 0)) cx' hP 0 i_X9 rfl rfl (by decide) kw_266 rfl rfl dX9_set_53 ?_
      refine gf_v (k := 6) (v := .int (C 3 0 6)) cx' hP 5 i_X4 rfl rfl (by decide) kw_68 rfl rfl dX9_set_56 ?_
      refine lv_topi (fun x3_8 ex3_8 => ?_)
      have h := h x3_8 ex3_8
      refine lv_istore_n (lv' := [(3, .int x3_8), (0, .ref (qa 0 0)), (1, .int x1), (2, .int x2)]) hx hb dX9_set_59 rfl hl (by decide) rfl (fun ls hl => ?_)
      refine lv_aload_n hx hb dX9_set_60 rfl (lv_at hl 1 rfl) ?_
      refine gf_v (k := 2) (v := .ref (qa 3 0)) cx' hP 0 i_X9 rfl rfl (by decide) kw_266 rfl rfl dX9_set_61 ?_
      refine lv_iload_n hx hb dX9_set_64 rfl (lv_at hl 3 rfl) ?_
      obtain ⟨C_9, eC_9⟩ : ∃ z : Nat → Mem, z = up3 C 3 (up2 (C 3) 0 6 x2) := ⟨_, rfl⟩
      have h := h C_9 eC_9
      refine pf_v (k := 6) (tf := .int) cx' hP hD hS 5 (wC cI cJ qa C_9 L) i_X4 tyX4 tyX4_ok nmX4 rfl rfl (by decide) kw_68 rfl rfl rfl rfl rfl (Nat.le_of_ble_eq_true rfl) dX9_set_65 (by subst eC_9; rfl) (fun H locs hP hD hS => ?_)
      exact w_X9_set_68 cx hA x3_8 C_9 L H locs ls hP hD hS (lv_sub hl [1, 0] rfl) h
    have h := h.2 c_7
    refine lv_aload_n hx hb dX9_set_33 rfl (lv_at hl 0 rfl) ?_
    refine gf_v (k := 2) (v := .ref (qa 3 0)) cx' hP 0 i_X9 rfl rfl (by decide) kw_266 rfl rfl dX9_set_34 ?_
    refine gf_v (k := 5) (v := .int (C 3 0 5)) cx' hP 5 i_X4 rfl rfl (by decide) kw_66 rfl rfl dX9_set_37 ?_
    refine lv_topi (fun x3_10 ex3_10 => ?_)
    have h := h x3_10 ex3_10
    refine lv_istore_n (lv' := [(3, .int x3_10), (0, .ref (qa 0 0)), (1, .int x1), (2, .int x2)]) hx hb dX9_set_40 rfl hl (by decide) rfl (fun ls hl => ?_)
    refine lv_aload_n hx hb dX9_set_41 rfl (lv_at hl 1 rfl) ?_
    refine gf_v (k := 2) (v := .ref (qa 3 0)) cx' hP 0 i_X9 rfl rfl (by decide) kw_266 rfl rfl dX9_set_42 ?_
    refine lv_iload_n hx hb dX9_set_45 rfl (lv_at hl 3 rfl) ?_
    obtain ⟨C_11, eC_11⟩ : ∃ z : Nat → Mem, z = up3 C 3 (up2 (C 3) 0 5 x2) := ⟨_, rfl⟩
    have h := h C_11 eC_11
    refine pf_v (k := 5) (tf := .int) cx' hP hD hS 5 (wC cI cJ qa C_11 L) i_X4 tyX4 tyX4_ok nmX4 rfl rfl (by decide) kw_66 rfl rfl rfl rfl rfl (Nat.le_of_ble_eq_true rfl) dX9_set_46 (by subst eC_11; rfl) (fun H locs hP hD hS => ?_)
    refine lv_goto (tgt := 68) hx hb dX9_set_49 (by decide) ?_
    exact w_X9_set_68 cx hA x3_10 C_11 L H locs ls hP hD hS (lv_sub hl [1, 0] rfl) h
  have h := h.2 c_6
  refine lv_bipush (v := (-2)) hx hb dX9_set_26 (by decide) ?_
  exact rt_i (v := (-2)) (u := (C, L)) cx hP hD hS h dX9_set_28
set_option maxRecDepth 100000 in
theorem c_X9_set (l : Launch) {dC : Nat → ClassId} {dI : Nat → Nat → Nat} {cI cJ : ClassId} (sz : Nat) (qa : Nat → Nat → Nat) (C : Nat → Mem) (L : MemL) (x1 : Int32) (x2 : Int32) (post : Int32 → (Nat → Mem) → MemL → Prop) (h : wp_X9_set C L x1 x2 post) : Met l yX9_set (Cond.code yX9_set cX9_set 4 (some .int) :: gt) ({ frames := 6, cells := 0, slots := 0, locals := 126 }) (va_Pc [.ref (qa 0 0), .int x1, .int x2] (PRE (dC, dI) (TY cI cJ) (wC cI cJ qa C L) sz)) (va_Qi (S := (Nat → Mem) × MemL) (fun (r : Int32) (u : (Nat → Mem) × MemL) => post r u.1 u.2) (fun u t => AT (dC, dI) (TY cI cJ) (va_A (wC cI cJ qa C L) sz) (wC cI cJ qa (u.1) (u.2)) t) (va_A (wC cI cJ qa C L) sz)) 0 0 (va_A (wC cI cJ qa C L) sz) :=
  met_of (own := RX9) (Qf := fun A => va_Qi (S := (Nat → Mem) × MemL) (fun (r : Int32) (u : (Nat → Mem) × MemL) => post r u.1 u.2) (fun u t => AT (dC, dI) (TY cI cJ) A (wC cI cJ qa (u.1) (u.2)) t) A) (by decide) rfl (Nat.le_of_ble_eq_true rfl) rfl (fun p e s m below meth c A cx hA ls hP hD hS hl => w_X9_set_0 cx hA x1 x2 C L _ _ ls hP hD hS hl h)
theorem mv_X9_set : MV yX9_set cX9_set 4 (some .int) 2 := ⟨⟨kw_418, kw_1, by decide +kernel⟩, kw_416, kw_417⟩
set_option maxHeartbeats 4000000 in
set_option maxRecDepth 100000 in
theorem w_X9_at_0 {p : Program} {l : Launch} {e : Env} {s : State} {m : MethodId} {args : Array Value} {below : List Frame} {meth : Method} {c : Code} {dC : Nat → ClassId} {dI : Nat → Nat → Nat} {cI cJ : ClassId} {A : Nat → Prop} (cx : CX RX9 cX9_at (some .int) 2 p s m args meth c (dC, dI) (TY cI cJ)) (hA : ∀ q, s.heap.size ≤ q → A q) {qa : Nat → Nat → Nat} {C : (Nat → Mem)} {L : MemL} {post : Int32 → Prop} : ∀ (x1 : Int32) (H : Heap) (locs : List Loc) (ls : Array Slot), va_P (dC, dI) vwCl (wC cI cJ qa C L) H → va_D A (wC cI cJ qa C L) → va_S A s.heap H locs → lv_has ls 2 [(0, .ref (qa 0 0)), (1, .int x1)] → b_X9_at_0 C L post x1 → W p l e ({ frames := 0, cells := 0, slots := 0, locals := 0 }) s m args below meth c H locs 0 0 (MQ below (va_Qi (S := Unit) (fun (r : Int32) (_u : Unit) => post r) (fun _u t => AT (dC, dI) (TY cI cJ) A (wC cI cJ qa C L) t) A) args s 0 0 A) (F0 m 0 ls []) := by
  obtain ⟨hx, hb, hr, hml, hown, hts, hlocks, hK⟩ := id cx
  have cx' : CX RX9 cX9_at (meth.sig.returnType) 2 p s m args meth c (dC, dI) (TY cI cJ) := ⟨hx, hb, rfl, hml, hown, hts, hlocks, hK⟩
  intro x1 H locs ls hP hD hS hl h
  unfold b_X9_at_0 at h
  refine lv_iload_n hx hb dX9_at_0 rfl (lv_at hl 1 rfl) ?_
  refine lv_if_lt (tgt := 10) hx hb dX9_at_1 (by decide) (fun c_1 => ?_) (fun c_1 => ?_)
  · have h := h.1 c_1
    refine lv_bipush (v := (-2)) hx hb dX9_at_10 (by decide) ?_
    exact rt_i (v := (-2)) (u := ()) cx hP hD hS h dX9_at_12
  have h := h.2 c_1
  refine lv_iload_n hx hb dX9_at_4 rfl (lv_at hl 1 rfl) ?_
  refine lv_bipush (v := 8) hx hb dX9_at_5 (by decide) ?_
  refine lv_icmp_lt (tgt := 13) hx hb dX9_at_7 (by decide) (fun c_2 => ?_) (fun c_2 => ?_)
  · have h := h.1 c_2
    refine lv_iload_n hx hb dX9_at_13 rfl (lv_at hl 1 rfl) ?_
    refine lv_aload_n hx hb dX9_at_14 rfl (lv_at hl 0 rfl) ?_
    refine gf_v (k := 2) (v := .ref (qa 3 0)) cx' hP 0 i_X9 rfl rfl (by decide) kw_266 rfl rfl dX9_at_15 ?_
    refine gf_v (k := 4) (v := .int (C 3 0 4)) cx' hP 5 i_X4 rfl rfl (by decide) kw_64 rfl rfl dX9_at_18 ?_
    refine lv_icmp_ge (tgt := 36) hx hb dX9_at_21 (by decide) (fun c_3 => ?_) (fun c_3 => ?_)
    · have h := h.1 c_3
      refine lv_iconst (v := (-1)) hx hb dX9_at_36 (by decide) ?_
      exact rt_i (v := (-1)) (u := ()) cx hP hD hS h dX9_at_37
    have h := h.2 c_3
    refine lv_aload_n hx hb dX9_at_24 rfl (lv_at hl 0 rfl) ?_
    refine gf_v (k := 2) (v := .ref (qa 3 0)) cx' hP 0 i_X9 rfl rfl (by decide) kw_266 rfl rfl dX9_at_25 ?_
    refine gf_v (k := 3) (v := .ref (qa 3 4)) cx' hP 5 i_X4 rfl rfl (by decide) kw_61 rfl rfl dX9_at_28 ?_
    refine lv_iload_n hx hb dX9_at_31 rfl (lv_at hl 1 rfl) ?_
    refine va_iald hx hb hK hP 9 0 rfl rfl h.1 dX9_at_32 ?_
    have h := h.2
    refine lv_goto (tgt := 37) hx hb dX9_at_33 (by decide) ?_
    exact rt_i (v := C 3 4 (Int32.toNatClampNeg x1)) (u := ()) cx hP hD hS h dX9_at_37
  have h := h.2 c_2
  refine lv_bipush (v := (-2)) hx hb dX9_at_10 (by decide) ?_
  exact rt_i (v := (-2)) (u := ()) cx hP hD hS h dX9_at_12
set_option maxRecDepth 100000 in
theorem c_X9_at (l : Launch) {dC : Nat → ClassId} {dI : Nat → Nat → Nat} {cI cJ : ClassId} (sz : Nat) (qa : Nat → Nat → Nat) (C : Nat → Mem) (L : MemL) (x1 : Int32) (post : Int32 → Prop) (h : wp_X9_at C L x1 post) : Met l yX9_at (Cond.code yX9_at cX9_at 2 (some .int) :: gt) ({ frames := 0, cells := 0, slots := 0, locals := 0 }) (va_Pc [.ref (qa 0 0), .int x1] (PRE (dC, dI) (TY cI cJ) (wC cI cJ qa C L) sz)) (va_Qi (S := Unit) (fun (r : Int32) (_u : Unit) => post r) (fun _u t => AT (dC, dI) (TY cI cJ) (va_A (wC cI cJ qa C L) sz) (wC cI cJ qa C L) t) (va_A (wC cI cJ qa C L) sz)) 0 0 (va_A (wC cI cJ qa C L) sz) :=
  met_of (own := RX9) (Qf := fun A => va_Qi (S := Unit) (fun (r : Int32) (_u : Unit) => post r) (fun _u t => AT (dC, dI) (TY cI cJ) A (wC cI cJ qa C L) t) A) (by decide) rfl (Nat.le_of_ble_eq_true rfl) rfl (fun p e s m below meth c A cx hA ls hP hD hS hl => w_X9_at_0 cx hA x1 _ _ ls hP hD hS hl h)
theorem mv_X9_at : MV yX9_at cX9_at 2 (some .int) 1 := ⟨⟨kw_422, kw_1, by decide +kernel⟩, kw_420, kw_421⟩
set_option maxHeartbeats 4000000 in
set_option maxRecDepth 100000 in
theorem w_X9_gives_0 {p : Program} {l : Launch} {e : Env} {s : State} {m : MethodId} {args : Array Value} {below : List Frame} {meth : Method} {c : Code} {dC : Nat → ClassId} {dI : Nat → Nat → Nat} {cI cJ : ClassId} {A : Nat → Prop} (cx : CX RX9 cX9_gives (some .int) 3 p s m args meth c (dC, dI) (TY cI cJ)) (hA : ∀ q, s.heap.size ≤ q → A q) {qa : Nat → Nat → Nat} {C : (Nat → Mem)} {L : MemL} {post : Int32 → Prop} : ∀ (x1 : Int32) (x2 : Int32) (H : Heap) (locs : List Loc) (ls : Array Slot), va_P (dC, dI) vwCl (wC cI cJ qa C L) H → va_D A (wC cI cJ qa C L) → va_S A s.heap H locs → lv_has ls 3 [(0, .ref (qa 0 0)), (1, .int x1), (2, .int x2)] → b_X9_gives_0 C L post x1 x2 → W p l e ({ frames := 1, cells := 0, slots := 0, locals := 22 }) s m args below meth c H locs 0 0 (MQ below (va_Qi (S := Unit) (fun (r : Int32) (_u : Unit) => post r) (fun _u t => AT (dC, dI) (TY cI cJ) A (wC cI cJ qa C L) t) A) args s 0 0 A) (F0 m 0 ls []) := by
  obtain ⟨hx, hb, hr, hml, hown, hts, hlocks, hK⟩ := id cx
  have cx' : CX RX9 cX9_gives (meth.sig.returnType) 3 p s m args meth c (dC, dI) (TY cI cJ) := ⟨hx, hb, rfl, hml, hown, hts, hlocks, hK⟩
  intro x1 x2 H locs ls hP hD hS hl h
  unfold b_X9_gives_0 at h
  refine lv_aload_n hx hb dX9_gives_0 rfl (lv_at hl 0 rfl) ?_
  refine lv_iload_n hx hb dX9_gives_1 rfl (lv_at hl 1 rfl) ?_
  refine call_i (run_V (As := [.int x1]) (rest := []) cx' (c_X9_isGuest l H.size qa C L x1 _ h) mv_X9_isGuest kw_411 rfl rfl ⟨Nat.le_of_ble_eq_true rfl, Nat.le_of_ble_eq_true rfl⟩ hP hD rfl rfl rfl hl.1 rfl (Nat.le_of_ble_eq_true rfl) dX9_gives_2 ⟨Nat.zero_le _, Nat.zero_le _⟩) hD hS hA (fun r_1 u9 H locs hP hD hS h => ?_)
  have hP : va_P (dC, dI) vwCl (wC cI cJ qa C L) H := hP
  have hD : va_D A (wC cI cJ qa C L) := hD
  refine lv_if_eq (tgt := 28) hx hb dX9_gives_5 (by decide) (fun c_2 => ?_) (fun c_2 => ?_)
  · have h := h.1 c_2
    refine lv_bipush (v := (-2)) hx hb dX9_gives_28 (by decide) ?_
    exact rt_i (v := (-2)) (u := ()) cx hP hD hS h dX9_gives_30
  have h := h.2 c_2
  refine lv_aload_n hx hb dX9_gives_8 rfl (lv_at hl 0 rfl) ?_
  refine lv_iload_n hx hb dX9_gives_9 rfl (lv_at hl 2 rfl) ?_
  refine call_i (run_V (As := [.int x2]) (rest := []) cx' (c_X9_isHouse l H.size qa C L x2 _ h) mv_X9_isHouse kw_403 rfl rfl ⟨Nat.le_of_ble_eq_true rfl, Nat.le_of_ble_eq_true rfl⟩ hP hD rfl rfl rfl hl.1 rfl (Nat.le_of_ble_eq_true rfl) dX9_gives_10 ⟨Nat.zero_le _, Nat.zero_le _⟩) hD hS hA (fun r_3 u9 H locs hP hD hS h => ?_)
  have hP : va_P (dC, dI) vwCl (wC cI cJ qa C L) H := hP
  have hD : va_D A (wC cI cJ qa C L) := hD
  refine lv_if_eq (tgt := 28) hx hb dX9_gives_13 (by decide) (fun c_4 => ?_) (fun c_4 => ?_)
  · have h := h.1 c_4
    refine lv_bipush (v := (-2)) hx hb dX9_gives_28 (by decide) ?_
    exact rt_i (v := (-2)) (u := ()) cx hP hD hS h dX9_gives_30
  have h := h.2 c_4
  refine lv_aload_n hx hb dX9_gives_16 rfl (lv_at hl 0 rfl) ?_
  refine gf_v (k := 4) (v := .ref (qa 5 0)) cx' hP 0 i_X9 rfl rfl (by decide) kw_268 rfl rfl dX9_gives_17 ?_
  refine lv_iload_n hx hb dX9_gives_20 rfl (lv_at hl 1 rfl) ?_
  refine lv_iload_n hx hb dX9_gives_21 rfl (lv_at hl 2 rfl) ?_
  refine callP_i (wc := ww_X1 cI cJ (qa 5) (C 5)) (wr_C_5 cI cJ qa C L) (fun (_u : Unit) => wC cI cJ qa C L) [15, 16, 17, 18, 19, 20, 21, 22] [0, 1, 2, 3, 4, 5, 6, 7, 8, 9, 10, 11, 12, 13, 14, 23, 24, 25, 26, 27, 28, 29, 30, 31, 32, 33, 34, 35, 36, 37, 38, 39] [0, 1, 2, 3, 4, 5, 6, 7, 8, 9, 10, 11, 12, 13, 14, 32, 33, 34, 35, 36, 37, 38, 39, 15, 16, 17, 18, 19, 20, 21, 22, 23, 24, 25, 26, 27, 28, 29, 30, 31] rfl rfl rfl (by decide) (fun _ => rfl) rfl hP hD hS hA (fun hPc hDc => run_V (As := [.int x1, .int x2]) (rest := []) cx' (c_X1_gaveTo l H.size (qa 5) (C 5) x1 x2 _ h) mv_X1_gaveTo kw_427 rfl rfl ⟨Nat.le_of_ble_eq_true rfl, Nat.le_of_ble_eq_true rfl⟩ hPc hDc rfl rfl rfl hl.1 rfl (Nat.le_of_ble_eq_true rfl) dX9_gives_22 ⟨Nat.zero_le _, Nat.zero_le _⟩) rfl (fun r_5 u9 H locs hP hD hS h => ?_)
  have hP : va_P (dC, dI) vwCl (wC cI cJ qa C L) H := hP
  have hD : va_D A (wC cI cJ qa C L) := hD
  refine lv_goto (tgt := 30) hx hb dX9_gives_25 (by decide) ?_
  exact rt_i (v := r_5) (u := ()) cx hP hD hS h dX9_gives_30
set_option maxRecDepth 100000 in
theorem c_X9_gives (l : Launch) {dC : Nat → ClassId} {dI : Nat → Nat → Nat} {cI cJ : ClassId} (sz : Nat) (qa : Nat → Nat → Nat) (C : Nat → Mem) (L : MemL) (x1 : Int32) (x2 : Int32) (post : Int32 → Prop) (h : wp_X9_gives C L x1 x2 post) : Met l yX9_gives (Cond.code yX9_gives cX9_gives 3 (some .int) :: gt) ({ frames := 1, cells := 0, slots := 0, locals := 22 }) (va_Pc [.ref (qa 0 0), .int x1, .int x2] (PRE (dC, dI) (TY cI cJ) (wC cI cJ qa C L) sz)) (va_Qi (S := Unit) (fun (r : Int32) (_u : Unit) => post r) (fun _u t => AT (dC, dI) (TY cI cJ) (va_A (wC cI cJ qa C L) sz) (wC cI cJ qa C L) t) (va_A (wC cI cJ qa C L) sz)) 0 0 (va_A (wC cI cJ qa C L) sz) :=
  met_of (own := RX9) (Qf := fun A => va_Qi (S := Unit) (fun (r : Int32) (_u : Unit) => post r) (fun _u t => AT (dC, dI) (TY cI cJ) A (wC cI cJ qa C L) t) A) (by decide) rfl (Nat.le_of_ble_eq_true rfl) rfl (fun p e s m below meth c A cx hA ls hP hD hS hl => w_X9_gives_0 cx hA x1 x2 _ _ ls hP hD hS hl h)
theorem mv_X9_gives : MV yX9_gives cX9_gives 3 (some .int) 2 := ⟨⟨kw_426, kw_1, by decide +kernel⟩, kw_424, kw_425⟩
set_option maxHeartbeats 4000000 in
set_option maxRecDepth 100000 in
theorem w_X9_fed_0 {p : Program} {l : Launch} {e : Env} {s : State} {m : MethodId} {args : Array Value} {below : List Frame} {meth : Method} {c : Code} {dC : Nat → ClassId} {dI : Nat → Nat → Nat} {cI cJ : ClassId} {A : Nat → Prop} (cx : CX RX9 cX9_fed (some .int) 3 p s m args meth c (dC, dI) (TY cI cJ)) (hA : ∀ q, s.heap.size ≤ q → A q) {qa : Nat → Nat → Nat} {C : (Nat → Mem)} {L : MemL} {post : Int32 → Prop} : ∀ (x1 : Int32) (x2 : Int32) (H : Heap) (locs : List Loc) (ls : Array Slot), va_P (dC, dI) vwCl (wC cI cJ qa C L) H → va_D A (wC cI cJ qa C L) → va_S A s.heap H locs → lv_has ls 3 [(0, .ref (qa 0 0)), (1, .int x1), (2, .int x2)] → b_X9_fed_0 C L post x1 x2 → W p l e ({ frames := 1, cells := 0, slots := 0, locals := 21 }) s m args below meth c H locs 0 0 (MQ below (va_Qi (S := Unit) (fun (r : Int32) (_u : Unit) => post r) (fun _u t => AT (dC, dI) (TY cI cJ) A (wC cI cJ qa C L) t) A) args s 0 0 A) (F0 m 0 ls []) := by
  obtain ⟨hx, hb, hr, hml, hown, hts, hlocks, hK⟩ := id cx
  have cx' : CX RX9 cX9_fed (meth.sig.returnType) 3 p s m args meth c (dC, dI) (TY cI cJ) := ⟨hx, hb, rfl, hml, hown, hts, hlocks, hK⟩
  intro x1 x2 H locs ls hP hD hS hl h
  unfold b_X9_fed_0 at h
  refine lv_aload_n hx hb dX9_fed_0 rfl (lv_at hl 0 rfl) ?_
  refine lv_iload_n hx hb dX9_fed_1 rfl (lv_at hl 1 rfl) ?_
  refine call_i (run_V (As := [.int x1]) (rest := []) cx' (c_X9_isGuest l H.size qa C L x1 _ h) mv_X9_isGuest kw_411 rfl rfl ⟨Nat.le_of_ble_eq_true rfl, Nat.le_of_ble_eq_true rfl⟩ hP hD rfl rfl rfl hl.1 rfl (Nat.le_of_ble_eq_true rfl) dX9_fed_2 ⟨Nat.zero_le _, Nat.zero_le _⟩) hD hS hA (fun r_1 u9 H locs hP hD hS h => ?_)
  have hP : va_P (dC, dI) vwCl (wC cI cJ qa C L) H := hP
  have hD : va_D A (wC cI cJ qa C L) := hD
  refine lv_if_eq (tgt := 17) hx hb dX9_fed_5 (by decide) (fun c_2 => ?_) (fun c_2 => ?_)
  · have h := h.1 c_2
    refine lv_bipush (v := (-2)) hx hb dX9_fed_17 (by decide) ?_
    exact rt_i (v := (-2)) (u := ()) cx hP hD hS h dX9_fed_19
  have h := h.2 c_2
  refine lv_iload_n hx hb dX9_fed_8 rfl (lv_at hl 2 rfl) ?_
  refine lv_if_lt (tgt := 17) hx hb dX9_fed_9 (by decide) (fun c_3 => ?_) (fun c_3 => ?_)
  · have h := h.1 c_3
    refine lv_bipush (v := (-2)) hx hb dX9_fed_17 (by decide) ?_
    exact rt_i (v := (-2)) (u := ()) cx hP hD hS h dX9_fed_19
  have h := h.2 c_3
  refine lv_iload_n hx hb dX9_fed_12 rfl (lv_at hl 2 rfl) ?_
  refine lv_iconst (v := 3) hx hb dX9_fed_13 (by decide) ?_
  refine lv_icmp_le (tgt := 20) hx hb dX9_fed_14 (by decide) (fun c_4 => ?_) (fun c_4 => ?_)
  · have h := h.1 c_4
    refine lv_iload_n hx hb dX9_fed_20 rfl (lv_at hl 2 rfl) ?_
    by_cases c_5 : x2 = 0
    · have h := h.1 c_5
      refine lv_tableIn (off := 27) (tgt := 48) hx hb dX9_fed_21 (by have e9 := c_5; (rw [e9]; decide)) (by have e9 := c_5; (rw [e9]; decide)) (by have e9 := c_5; (rw [e9]; rfl)) (by decide) ?_
      refine lv_aload_n hx hb dX9_fed_48 rfl (lv_at hl 0 rfl) ?_
      refine gf_v (k := 4) (v := .ref (qa 5 0)) cx' hP 0 i_X9 rfl rfl (by decide) kw_268 rfl rfl dX9_fed_49 ?_
      refine gf_v (k := 1) (v := .ref (qa 5 2)) cx' hP 15 i_X1 rfl rfl (by decide) kw_124 rfl rfl dX9_fed_52 ?_
      refine lv_iload_n hx hb dX9_fed_55 rfl (lv_at hl 1 rfl) ?_
      refine va_iald hx hb hK hP 17 0 rfl rfl h.1 dX9_fed_56 ?_
      have h := h.2
      exact rt_i (v := C 5 2 (Int32.toNatClampNeg x1)) (u := ()) cx hP hD hS h dX9_fed_57
    have h := h.2 c_5
    by_cases c_6 : x2 = 1
    · have h := h.1 c_6
      refine lv_tableIn (off := 37) (tgt := 58) hx hb dX9_fed_21 (by have e9 := c_6; (rw [e9]; decide)) (by have e9 := c_6; (rw [e9]; decide)) (by have e9 := c_6; (rw [e9]; rfl)) (by decide) ?_
      refine lv_aload_n hx hb dX9_fed_58 rfl (lv_at hl 0 rfl) ?_
      refine gf_v (k := 4) (v := .ref (qa 5 0)) cx' hP 0 i_X9 rfl rfl (by decide) kw_268 rfl rfl dX9_fed_59 ?_
      refine gf_v (k := 2) (v := .ref (qa 5 3)) cx' hP 15 i_X1 rfl rfl (by decide) kw_126 rfl rfl dX9_fed_62 ?_
      refine lv_iload_n hx hb dX9_fed_65 rfl (lv_at hl 1 rfl) ?_
      refine va_iald hx hb hK hP 18 0 rfl rfl h.1 dX9_fed_66 ?_
      have h := h.2
      exact rt_i (v := C 5 3 (Int32.toNatClampNeg x1)) (u := ()) cx hP hD hS h dX9_fed_67
    have h := h.2 c_6
    by_cases c_7 : x2 = 2
    · have h := h.1 c_7
      refine lv_tableIn (off := 47) (tgt := 68) hx hb dX9_fed_21 (by have e9 := c_7; (rw [e9]; decide)) (by have e9 := c_7; (rw [e9]; decide)) (by have e9 := c_7; (rw [e9]; rfl)) (by decide) ?_
      refine lv_aload_n hx hb dX9_fed_68 rfl (lv_at hl 0 rfl) ?_
      refine gf_v (k := 4) (v := .ref (qa 5 0)) cx' hP 0 i_X9 rfl rfl (by decide) kw_268 rfl rfl dX9_fed_69 ?_
      refine gf_v (k := 3) (v := .ref (qa 5 4)) cx' hP 15 i_X1 rfl rfl (by decide) kw_128 rfl rfl dX9_fed_72 ?_
      refine lv_iload_n hx hb dX9_fed_75 rfl (lv_at hl 1 rfl) ?_
      refine va_iald hx hb hK hP 19 0 rfl rfl h.1 dX9_fed_76 ?_
      have h := h.2
      exact rt_i (v := C 5 4 (Int32.toNatClampNeg x1)) (u := ()) cx hP hD hS h dX9_fed_77
    have h := h.2 c_7
    refine tsw_def (tgt := 78) hx hb dX9_fed_21 (fun j hj hle => ?_) (by decide) ?_
    · have hj9 : j = 0 ∨ j = 1 ∨ j = 2 := by omega
      rcases hj9 with rfl | rfl | rfl
      · exact absurd (have e9 : x2 = 0 := Int32.toInt_inj.mp (by rw [hj]; rfl); e9) c_5
      · exact absurd (have e9 : x2 = 1 := Int32.toInt_inj.mp (by rw [hj]; rfl); e9) c_6
      · exact absurd (have e9 : x2 = 2 := Int32.toInt_inj.mp (by rw [hj]; rfl); e9) c_7
    refine lv_aload_n hx hb dX9_fed_78 rfl (lv_at hl 0 rfl) ?_
    refine gf_v (k := 4) (v := .ref (qa 5 0)) cx' hP 0 i_X9 rfl rfl (by decide) kw_268 rfl rfl dX9_fed_79 ?_
    refine gf_v (k := 4) (v := .ref (qa 5 5)) cx' hP 15 i_X1 rfl rfl (by decide) kw_130 rfl rfl dX9_fed_82 ?_
    refine lv_iload_n hx hb dX9_fed_85 rfl (lv_at hl 1 rfl) ?_
    refine va_iald hx hb hK hP 20 0 rfl rfl h.1 dX9_fed_86 ?_
    have h := h.2
    exact rt_i (v := C 5 5 (Int32.toNatClampNeg x1)) (u := ()) cx hP hD hS h dX9_fed_87
  have h := h.2 c_4
  refine lv_bipush (v := (-2)) hx hb dX9_fed_17 (by decide) ?_
  exact rt_i (v := (-2)) (u := ()) cx hP hD hS h dX9_fed_19
set_option maxRecDepth 100000 in
theorem c_X9_fed (l : Launch) {dC : Nat → ClassId} {dI : Nat → Nat → Nat} {cI cJ : ClassId} (sz : Nat) (qa : Nat → Nat → Nat) (C : Nat → Mem) (L : MemL) (x1 : Int32) (x2 : Int32) (post : Int32 → Prop) (h : wp_X9_fed C L x1 x2 post) : Met l yX9_fed (Cond.code yX9_fed cX9_fed 3 (some .int) :: gt) ({ frames := 1, cells := 0, slots := 0, locals := 21 }) (va_Pc [.ref (qa 0 0), .int x1, .int x2] (PRE (dC, dI) (TY cI cJ) (wC cI cJ qa C L) sz)) (va_Qi (S := Unit) (fun (r : Int32) (_u : Unit) => post r) (fun _u t => AT (dC, dI) (TY cI cJ) (va_A (wC cI cJ qa C L) sz) (wC cI cJ qa C L) t) (va_A (wC cI cJ qa C L) sz)) 0 0 (va_A (wC cI cJ qa C L) sz) :=
  met_of (own := RX9) (Qf := fun A => va_Qi (S := Unit) (fun (r : Int32) (_u : Unit) => post r) (fun _u t => AT (dC, dI) (TY cI cJ) A (wC cI cJ qa C L) t) A) (by decide) rfl (Nat.le_of_ble_eq_true rfl) rfl (fun p e s m below meth c A cx hA ls hP hD hS hl => w_X9_fed_0 cx hA x1 x2 _ _ ls hP hD hS hl h)
theorem mv_X9_fed : MV yX9_fed cX9_fed 3 (some .int) 2 := ⟨⟨kw_434, kw_1, by decide +kernel⟩, kw_432, kw_433⟩
set_option maxHeartbeats 4000000 in
set_option maxRecDepth 100000 in
theorem w_X9_all_0 {p : Program} {l : Launch} {e : Env} {s : State} {m : MethodId} {args : Array Value} {below : List Frame} {meth : Method} {c : Code} {dC : Nat → ClassId} {dI : Nat → Nat → Nat} {cI cJ : ClassId} {A : Nat → Prop} (cx : CX RX9 cX9_all (some .int) 3 p s m args meth c (dC, dI) (TY cI cJ)) (hA : ∀ q, s.heap.size ≤ q → A q) {qa : Nat → Nat → Nat} {C : (Nat → Mem)} {L : MemL} {post : Int32 → Prop} : ∀ (x1 : Int32) (x2 : Int32) (H : Heap) (locs : List Loc) (ls : Array Slot), va_P (dC, dI) vwCl (wC cI cJ qa C L) H → va_D A (wC cI cJ qa C L) → va_S A s.heap H locs → lv_has ls 3 [(0, .ref (qa 0 0)), (1, .int x1), (2, .int x2)] → b_X9_all_0 C L post x1 x2 → W p l e ({ frames := 1, cells := 0, slots := 0, locals := 21 }) s m args below meth c H locs 0 0 (MQ below (va_Qi (S := Unit) (fun (r : Int32) (_u : Unit) => post r) (fun _u t => AT (dC, dI) (TY cI cJ) A (wC cI cJ qa C L) t) A) args s 0 0 A) (F0 m 0 ls []) := by
  obtain ⟨hx, hb, hr, hml, hown, hts, hlocks, hK⟩ := id cx
  have cx' : CX RX9 cX9_all (meth.sig.returnType) 3 p s m args meth c (dC, dI) (TY cI cJ) := ⟨hx, hb, rfl, hml, hown, hts, hlocks, hK⟩
  intro x1 x2 H locs ls hP hD hS hl h
  unfold b_X9_all_0 at h
  refine lv_aload_n hx hb dX9_all_0 rfl (lv_at hl 0 rfl) ?_
  refine lv_iload_n hx hb dX9_all_1 rfl (lv_at hl 1 rfl) ?_
  refine call_i (run_V (As := [.int x1]) (rest := []) cx' (c_X9_isHouse l H.size qa C L x1 _ h) mv_X9_isHouse kw_403 rfl rfl ⟨Nat.le_of_ble_eq_true rfl, Nat.le_of_ble_eq_true rfl⟩ hP hD rfl rfl rfl hl.1 rfl (Nat.le_of_ble_eq_true rfl) dX9_all_2 ⟨Nat.zero_le _, Nat.zero_le _⟩) hD hS hA (fun r_1 u9 H locs hP hD hS h => ?_)
  have hP : va_P (dC, dI) vwCl (wC cI cJ qa C L) H := hP
  have hD : va_D A (wC cI cJ qa C L) := hD
  refine lv_if_eq (tgt := 15) hx hb dX9_all_5 (by decide) (fun c_2 => ?_) (fun c_2 => ?_)
  · have h := h.1 c_2
    refine lv_bipush (v := (-2)) hx hb dX9_all_15 (by decide) ?_
    exact rt_i (v := (-2)) (u := ()) cx hP hD hS h dX9_all_17
  have h := h.2 c_2
  refine lv_iload_n hx hb dX9_all_8 rfl (lv_at hl 2 rfl) ?_
  refine callN_i (run_S (As := [.int x2]) (rest := []) (wc := []) cx' (c_X9_isBit l H.size x2 _ h) ms_X9_isBit kw_305 rfl rfl ⟨Nat.le_of_ble_eq_true rfl, Nat.le_of_ble_eq_true rfl⟩ nilP nilD (A := A) rfl hl.1 rfl (Nat.le_of_ble_eq_true rfl) dX9_all_9 ⟨Nat.zero_le _, Nat.zero_le _⟩) hP hS hA (fun r_3 H locs hP hS h => ?_)
  refine lv_if_ne (tgt := 18) hx hb dX9_all_12 (by decide) (fun c_4 => ?_) (fun c_4 => ?_)
  · have h := h.1 c_4
    refine lv_iload_n hx hb dX9_all_18 rfl (lv_at hl 2 rfl) ?_
    refine lv_if_ne (tgt := 34) hx hb dX9_all_19 (by decide) (fun c_5 => ?_) (fun c_5 => ?_)
    · have h := h.1 c_5
      refine lv_aload_n hx hb dX9_all_34 rfl (lv_at hl 0 rfl) ?_
      refine gf_v (k := 4) (v := .ref (qa 5 0)) cx' hP 0 i_X9 rfl rfl (by decide) kw_268 rfl rfl dX9_all_35 ?_
      refine gf_v (k := 6) (v := .ref (qa 5 7)) cx' hP 15 i_X1 rfl rfl (by decide) kw_134 rfl rfl dX9_all_38 ?_
      refine lv_iload_n hx hb dX9_all_41 rfl (lv_at hl 1 rfl) ?_
      refine va_iald hx hb hK hP 22 0 rfl rfl h.1 dX9_all_42 ?_
      have h := h.2
      exact rt_i (v := C 5 7 (Int32.toNatClampNeg x1)) (u := ()) cx hP hD hS h dX9_all_43
    have h := h.2 c_5
    refine lv_aload_n hx hb dX9_all_22 rfl (lv_at hl 0 rfl) ?_
    refine gf_v (k := 4) (v := .ref (qa 5 0)) cx' hP 0 i_X9 rfl rfl (by decide) kw_268 rfl rfl dX9_all_23 ?_
    refine gf_v (k := 5) (v := .ref (qa 5 6)) cx' hP 15 i_X1 rfl rfl (by decide) kw_132 rfl rfl dX9_all_26 ?_
    refine lv_iload_n hx hb dX9_all_29 rfl (lv_at hl 1 rfl) ?_
    refine va_iald hx hb hK hP 21 0 rfl rfl h.1 dX9_all_30 ?_
    have h := h.2
    refine lv_goto (tgt := 43) hx hb dX9_all_31 (by decide) ?_
    exact rt_i (v := C 5 6 (Int32.toNatClampNeg x1)) (u := ()) cx hP hD hS h dX9_all_43
  have h := h.2 c_4
  refine lv_bipush (v := (-2)) hx hb dX9_all_15 (by decide) ?_
  exact rt_i (v := (-2)) (u := ()) cx hP hD hS h dX9_all_17
set_option maxRecDepth 100000 in
theorem c_X9_all (l : Launch) {dC : Nat → ClassId} {dI : Nat → Nat → Nat} {cI cJ : ClassId} (sz : Nat) (qa : Nat → Nat → Nat) (C : Nat → Mem) (L : MemL) (x1 : Int32) (x2 : Int32) (post : Int32 → Prop) (h : wp_X9_all C L x1 x2 post) : Met l yX9_all (Cond.code yX9_all cX9_all 3 (some .int) :: gt) ({ frames := 1, cells := 0, slots := 0, locals := 21 }) (va_Pc [.ref (qa 0 0), .int x1, .int x2] (PRE (dC, dI) (TY cI cJ) (wC cI cJ qa C L) sz)) (va_Qi (S := Unit) (fun (r : Int32) (_u : Unit) => post r) (fun _u t => AT (dC, dI) (TY cI cJ) (va_A (wC cI cJ qa C L) sz) (wC cI cJ qa C L) t) (va_A (wC cI cJ qa C L) sz)) 0 0 (va_A (wC cI cJ qa C L) sz) :=
  met_of (own := RX9) (Qf := fun A => va_Qi (S := Unit) (fun (r : Int32) (_u : Unit) => post r) (fun _u t => AT (dC, dI) (TY cI cJ) A (wC cI cJ qa C L) t) A) (by decide) rfl (Nat.le_of_ble_eq_true rfl) rfl (fun p e s m below meth c A cx hA ls hP hD hS hl => w_X9_all_0 cx hA x1 x2 _ _ ls hP hD hS hl h)
theorem mv_X9_all : MV yX9_all cX9_all 3 (some .int) 2 := ⟨⟨kw_438, kw_1, by decide +kernel⟩, kw_436, kw_437⟩
set_option maxHeartbeats 4000000 in
set_option maxRecDepth 100000 in
theorem w_X9_price_0 {p : Program} {l : Launch} {e : Env} {s : State} {m : MethodId} {args : Array Value} {below : List Frame} {meth : Method} {c : Code} {dC : Nat → ClassId} {dI : Nat → Nat → Nat} {cI cJ : ClassId} {A : Nat → Prop} (cx : CX RX9 cX9_price (some .int) 2 p s m args meth c (dC, dI) (TY cI cJ)) (hA : ∀ q, s.heap.size ≤ q → A q) {qa : Nat → Nat → Nat} {C : (Nat → Mem)} {L : MemL} {post : Int32 → Prop} : ∀ (x1 : Int32) (H : Heap) (locs : List Loc) (ls : Array Slot), va_P (dC, dI) vwCl (wC cI cJ qa C L) H → va_D A (wC cI cJ qa C L) → va_S A s.heap H locs → lv_has ls 2 [(0, .ref (qa 0 0)), (1, .int x1)] → b_X9_price_0 C L post x1 → W p l e ({ frames := 1, cells := 0, slots := 0, locals := 21 }) s m args below meth c H locs 0 0 (MQ below (va_Qi (S := Unit) (fun (r : Int32) (_u : Unit) => post r) (fun _u t => AT (dC, dI) (TY cI cJ) A (wC cI cJ qa C L) t) A) args s 0 0 A) (F0 m 0 ls []) := by
  obtain ⟨hx, hb, hr, hml, hown, hts, hlocks, hK⟩ := id cx
  have cx' : CX RX9 cX9_price (meth.sig.returnType) 2 p s m args meth c (dC, dI) (TY cI cJ) := ⟨hx, hb, rfl, hml, hown, hts, hlocks, hK⟩
  intro x1 H locs ls hP hD hS hl h
  unfold b_X9_price_0 at h
  refine lv_aload_n hx hb dX9_price_0 rfl (lv_at hl 0 rfl) ?_
  refine lv_iload_n hx hb dX9_price_1 rfl (lv_at hl 1 rfl) ?_
  refine call_i (run_V (As := [.int x1]) (rest := []) cx' (c_X9_isHouse l H.size qa C L x1 _ h) mv_X9_isHouse kw_403 rfl rfl ⟨Nat.le_of_ble_eq_true rfl, Nat.le_of_ble_eq_true rfl⟩ hP hD rfl rfl rfl hl.1 rfl (Nat.le_of_ble_eq_true rfl) dX9_price_2 ⟨Nat.zero_le _, Nat.zero_le _⟩) hD hS hA (fun r_1 u9 H locs hP hD hS h => ?_)
  have hP : va_P (dC, dI) vwCl (wC cI cJ qa C L) H := hP
  have hD : va_D A (wC cI cJ qa C L) := hD
  refine lv_if_ne (tgt := 12) hx hb dX9_price_5 (by decide) (fun c_2 => ?_) (fun c_2 => ?_)
  · have h := h.1 c_2
    refine lv_aload_n hx hb dX9_price_12 rfl (lv_at hl 0 rfl) ?_
    refine gf_v (k := 2) (v := .ref (qa 3 0)) cx' hP 0 i_X9 rfl rfl (by decide) kw_266 rfl rfl dX9_price_13 ?_
    refine gf_v (k := 2) (v := .ref (qa 3 3)) cx' hP 5 i_X4 rfl rfl (by decide) kw_58 rfl rfl dX9_price_16 ?_
    refine lv_iload_n hx hb dX9_price_19 rfl (lv_at hl 1 rfl) ?_
    refine va_iald hx hb hK hP 8 0 rfl rfl h.1 dX9_price_20 ?_
    have h := h.2
    refine lv_iconst (v := 3) hx hb dX9_price_21 (by decide) ?_
    refine lv_aload_n hx hb dX9_price_22 rfl (lv_at hl 0 rfl) ?_
    refine gf_v (k := 4) (v := .ref (qa 5 0)) cx' hP 0 i_X9 rfl rfl (by decide) kw_268 rfl rfl dX9_price_23 ?_
    refine gf_v (k := 6) (v := .ref (qa 5 7)) cx' hP 15 i_X1 rfl rfl (by decide) kw_134 rfl rfl dX9_price_26 ?_
    refine lv_iload_n hx hb dX9_price_29 rfl (lv_at hl 1 rfl) ?_
    refine va_iald hx hb hK hP 22 0 rfl rfl h.1 dX9_price_30 ?_
    have h := h.2
    refine lv_imul hx hb dX9_price_31 ?_
    refine lv_iadd hx hb dX9_price_32 ?_
    refine lv_aload_n hx hb dX9_price_33 rfl (lv_at hl 0 rfl) ?_
    refine gf_v (k := 4) (v := .ref (qa 5 0)) cx' hP 0 i_X9 rfl rfl (by decide) kw_268 rfl rfl dX9_price_34 ?_
    refine gf_v (k := 5) (v := .ref (qa 5 6)) cx' hP 15 i_X1 rfl rfl (by decide) kw_132 rfl rfl dX9_price_37 ?_
    refine lv_iload_n hx hb dX9_price_40 rfl (lv_at hl 1 rfl) ?_
    refine va_iald hx hb hK hP 21 0 rfl rfl h.1 dX9_price_41 ?_
    have h := h.2
    refine lv_isub hx hb dX9_price_42 ?_
    exact rt_i (v := ((C 3 3 (Int32.toNatClampNeg x1)) + (3 * (C 5 7 (Int32.toNatClampNeg x1)))) - (C 5 6 (Int32.toNatClampNeg x1))) (u := ()) cx hP hD hS h dX9_price_43
  have h := h.2 c_2
  refine lv_sipush (v := (-10002)) hx hb dX9_price_8 (by decide) ?_
  exact rt_i (v := (-10002)) (u := ()) cx hP hD hS h dX9_price_11
set_option maxRecDepth 100000 in
theorem c_X9_price (l : Launch) {dC : Nat → ClassId} {dI : Nat → Nat → Nat} {cI cJ : ClassId} (sz : Nat) (qa : Nat → Nat → Nat) (C : Nat → Mem) (L : MemL) (x1 : Int32) (post : Int32 → Prop) (h : wp_X9_price C L x1 post) : Met l yX9_price (Cond.code yX9_price cX9_price 2 (some .int) :: gt) ({ frames := 1, cells := 0, slots := 0, locals := 21 }) (va_Pc [.ref (qa 0 0), .int x1] (PRE (dC, dI) (TY cI cJ) (wC cI cJ qa C L) sz)) (va_Qi (S := Unit) (fun (r : Int32) (_u : Unit) => post r) (fun _u t => AT (dC, dI) (TY cI cJ) (va_A (wC cI cJ qa C L) sz) (wC cI cJ qa C L) t) (va_A (wC cI cJ qa C L) sz)) 0 0 (va_A (wC cI cJ qa C L) sz) :=
  met_of (own := RX9) (Qf := fun A => va_Qi (S := Unit) (fun (r : Int32) (_u : Unit) => post r) (fun _u t => AT (dC, dI) (TY cI cJ) A (wC cI cJ qa C L) t) A) (by decide) rfl (Nat.le_of_ble_eq_true rfl) rfl (fun p e s m below meth c A cx hA ls hP hD hS hl => w_X9_price_0 cx hA x1 _ _ ls hP hD hS hl h)
theorem mv_X9_price : MV yX9_price cX9_price 2 (some .int) 1 := ⟨⟨kw_442, kw_1, by decide +kernel⟩, kw_440, kw_441⟩
set_option maxHeartbeats 4000000 in
set_option maxRecDepth 100000 in
theorem w_X9_poor_42 {p : Program} {l : Launch} {e : Env} {s : State} {m : MethodId} {args : Array Value} {below : List Frame} {meth : Method} {c : Code} {dC : Nat → ClassId} {dI : Nat → Nat → Nat} {cI cJ : ClassId} {A : Nat → Prop} (cx : CX RX9 cX9_poor (some .int) 4 p s m args meth c (dC, dI) (TY cI cJ)) (hA : ∀ q, s.heap.size ≤ q → A q) {qa : Nat → Nat → Nat} {C : (Nat → Mem)} {L : MemL} {post : Int32 → Prop} {k6 : Int32 → Int32 → Int32 → Prop} (hk6 : ∀ (x1 : Int32) (x2 : Int32) (x3 : Int32) (H : Heap) (locs : List Loc) (ls : Array Slot), va_P (dC, dI) vwCl (wC cI cJ qa C L) H → va_D A (wC cI cJ qa C L) → va_S A s.heap H locs → lv_has ls 4 [(0, .ref (qa 0 0)), (1, .int x1), (2, .int x2), (3, .int x3)] → k6 x1 x2 x3 → W p l e ({ frames := 0, cells := 0, slots := 0, locals := 0 }) s m args below meth c H locs 0 0 (MQ below (va_Qi (S := Unit) (fun (r : Int32) (_u : Unit) => post r) (fun _u t => AT (dC, dI) (TY cI cJ) A (wC cI cJ qa C L) t) A) args s 0 0 A) (F0 m 6 ls [])) : ∀ (x1 : Int32) (x2 : Int32) (x3 : Int32) (H : Heap) (locs : List Loc) (ls : Array Slot), va_P (dC, dI) vwCl (wC cI cJ qa C L) H → va_D A (wC cI cJ qa C L) → va_S A s.heap H locs → lv_has ls 4 [(0, .ref (qa 0 0)), (1, .int x1), (2, .int x2), (3, .int x3)] → b_X9_poor_42 C L post k6 x1 x2 x3 → W p l e ({ frames := 0, cells := 0, slots := 0, locals := 0 }) s m args below meth c H locs 0 0 (MQ below (va_Qi (S := Unit) (fun (r : Int32) (_u : Unit) => post r) (fun _u t => AT (dC, dI) (TY cI cJ) A (wC cI cJ qa C L) t) A) args s 0 0 A) (F0 m 42 ls []) := by
  obtain ⟨hx, hb, hr, hml, hown, hts, hlocks, hK⟩ := id cx
  have cx' : CX RX9 cX9_poor (meth.sig.returnType) 4 p s m args meth c (dC, dI) (TY cI cJ) := ⟨hx, hb, rfl, hml, hown, hts, hlocks, hK⟩
  intro x1 x2 x3 H locs ls hP hD hS hl h
  unfold b_X9_poor_42 at h
  obtain ⟨x3_1, ex3_1⟩ : ∃ z : Int32, z = x3 + 1 := ⟨_, rfl⟩
  have h := h x3_1 ex3_1
  refine lv_iinc (v := x3_1) (lv' := [(3, .int x3_1), (0, .ref (qa 0 0)), (1, .int x1), (2, .int x2)]) hx hb dX9_poor_42 hl (k := 3) rfl (by rw [ex3_1]; rfl) (by decide) rfl (fun ls hl => ?_)
  refine lv_goto (tgt := 6) hx hb dX9_poor_45 (by decide) ?_
  exact hk6 x1 x2 x3_1 H locs ls hP hD hS (lv_sub hl [1, 2, 3, 0] rfl) h
set_option maxHeartbeats 4000000 in
set_option maxRecDepth 100000 in
theorem w_X9_poor_6 {p : Program} {l : Launch} {e : Env} {s : State} {m : MethodId} {args : Array Value} {below : List Frame} {meth : Method} {c : Code} {dC : Nat → ClassId} {dI : Nat → Nat → Nat} {cI cJ : ClassId} {A : Nat → Prop} (cx : CX RX9 cX9_poor (some .int) 4 p s m args meth c (dC, dI) (TY cI cJ)) (hA : ∀ q, s.heap.size ≤ q → A q) {qa : Nat → Nat → Nat} {C : (Nat → Mem)} {L : MemL} {post : Int32 → Prop} : ∀ (n : Nat) (x1 : Int32) (x2 : Int32) (x3 : Int32) (H : Heap) (locs : List Loc) (ls : Array Slot), va_P (dC, dI) vwCl (wC cI cJ qa C L) H → va_D A (wC cI cJ qa C L) → va_S A s.heap H locs → lv_has ls 4 [(0, .ref (qa 0 0)), (1, .int x1), (2, .int x2), (3, .int x3)] → b_X9_poor_6 C L post n x1 x2 x3 → W p l e ({ frames := 0, cells := 0, slots := 0, locals := 0 }) s m args below meth c H locs 0 0 (MQ below (va_Qi (S := Unit) (fun (r : Int32) (_u : Unit) => post r) (fun _u t => AT (dC, dI) (TY cI cJ) A (wC cI cJ qa C L) t) A) args s 0 0 A) (F0 m 6 ls []) := by
  obtain ⟨hx, hb, hr, hml, hown, hts, hlocks, hK⟩ := id cx
  have cx' : CX RX9 cX9_poor (meth.sig.returnType) 4 p s m args meth c (dC, dI) (TY cI cJ) := ⟨hx, hb, rfl, hml, hown, hts, hlocks, hK⟩
  intro n
  induction n with
  | zero =>
    intro x1 x2 x3 H locs ls hP hD hS hl h
    exact False.elim h
  | succ n ih =>
    intro x1 x2 x3 H locs ls hP hD hS hl h
    unfold b_X9_poor_6 at h
    refine lv_iload_n hx hb dX9_poor_6 rfl (lv_at hl 3 rfl) ?_
    refine lv_aload_n hx hb dX9_poor_7 rfl (lv_at hl 0 rfl) ?_
    refine gf_v (k := 2) (v := .ref (qa 3 0)) cx' hP 0 i_X9 rfl rfl (by decide) kw_266 rfl rfl dX9_poor_8 ?_
    refine gf_v (k := 4) (v := .int (C 3 0 4)) cx' hP 5 i_X4 rfl rfl (by decide) kw_64 rfl rfl dX9_poor_11 ?_
    refine lv_icmp_ge (tgt := 48) hx hb dX9_poor_14 (by decide) (fun c_1 => ?_) (fun c_1 => ?_)
    · have h := h.1 c_1
      refine lv_iload_n hx hb dX9_poor_48 rfl (lv_at hl 1 rfl) ?_
      exact rt_i (v := x1) (u := ()) cx hP hD hS h dX9_poor_49
    have h := h.2 c_1
    refine lv_aload_n hx hb dX9_poor_17 rfl (lv_at hl 0 rfl) ?_
    refine gf_v (k := 4) (v := .ref (qa 5 0)) cx' hP 0 i_X9 rfl rfl (by decide) kw_268 rfl rfl dX9_poor_18 ?_
    refine gf_v (k := 5) (v := .ref (qa 5 6)) cx' hP 15 i_X1 rfl rfl (by decide) kw_132 rfl rfl dX9_poor_21 ?_
    refine lv_iload_n hx hb dX9_poor_24 rfl (lv_at hl 3 rfl) ?_
    refine va_iald hx hb hK hP 21 0 rfl rfl h.1 dX9_poor_25 ?_
    have h := h.2
    refine lv_iload_n hx hb dX9_poor_26 rfl (lv_at hl 2 rfl) ?_
    refine lv_icmp_le (tgt := 42) hx hb dX9_poor_27 (by decide) (fun c_2 => ?_) (fun c_2 => ?_)
    · have h := h.1 c_2
      exact w_X9_poor_42 cx hA ih x1 x2 x3 H locs ls hP hD hS (lv_sub hl [0, 1, 2, 3] rfl) h
    have h := h.2 c_2
    refine lv_aload_n hx hb dX9_poor_30 rfl (lv_at hl 0 rfl) ?_
    refine gf_v (k := 4) (v := .ref (qa 5 0)) cx' hP 0 i_X9 rfl rfl (by decide) kw_268 rfl rfl dX9_poor_31 ?_
    refine gf_v (k := 5) (v := .ref (qa 5 6)) cx' hP 15 i_X1 rfl rfl (by decide) kw_132 rfl rfl dX9_poor_34 ?_
    refine lv_iload_n hx hb dX9_poor_37 rfl (lv_at hl 3 rfl) ?_
    refine va_iald hx hb hK hP 21 0 rfl rfl h.1 dX9_poor_38 ?_
    have h := h.2
    refine lv_topi (fun x2_3 ex2_3 => ?_)
    have h := h x2_3 ex2_3
    refine lv_istore_n (lv' := [(2, .int x2_3), (0, .ref (qa 0 0)), (1, .int x1), (3, .int x3)]) hx hb dX9_poor_39 rfl hl (by decide) rfl (fun ls hl => ?_)
    refine lv_iload_n hx hb dX9_poor_40 rfl (lv_at hl 3 rfl) ?_
    refine lv_istore_n (lv' := [(1, .int x3), (2, .int x2_3), (0, .ref (qa 0 0)), (3, .int x3)]) hx hb dX9_poor_41 rfl hl (by decide) rfl (fun ls hl => ?_)
    exact w_X9_poor_42 cx hA ih x3 x2_3 x3 H locs ls hP hD hS (lv_sub hl [2, 0, 1, 3] rfl) h
set_option maxHeartbeats 4000000 in
set_option maxRecDepth 100000 in
theorem w_X9_poor_0 {p : Program} {l : Launch} {e : Env} {s : State} {m : MethodId} {args : Array Value} {below : List Frame} {meth : Method} {c : Code} {dC : Nat → ClassId} {dI : Nat → Nat → Nat} {cI cJ : ClassId} {A : Nat → Prop} (cx : CX RX9 cX9_poor (some .int) 4 p s m args meth c (dC, dI) (TY cI cJ)) (hA : ∀ q, s.heap.size ≤ q → A q) {qa : Nat → Nat → Nat} {C : (Nat → Mem)} {L : MemL} {post : Int32 → Prop} : ∀  (H : Heap) (locs : List Loc) (ls : Array Slot), va_P (dC, dI) vwCl (wC cI cJ qa C L) H → va_D A (wC cI cJ qa C L) → va_S A s.heap H locs → lv_has ls 4 [(0, .ref (qa 0 0))] → b_X9_poor_0 C L post  → W p l e ({ frames := 0, cells := 0, slots := 0, locals := 0 }) s m args below meth c H locs 0 0 (MQ below (va_Qi (S := Unit) (fun (r : Int32) (_u : Unit) => post r) (fun _u t => AT (dC, dI) (TY cI cJ) A (wC cI cJ qa C L) t) A) args s 0 0 A) (F0 m 0 ls []) := by
  obtain ⟨hx, hb, hr, hml, hown, hts, hlocks, hK⟩ := id cx
  have cx' : CX RX9 cX9_poor (meth.sig.returnType) 4 p s m args meth c (dC, dI) (TY cI cJ) := ⟨hx, hb, rfl, hml, hown, hts, hlocks, hK⟩
  intro H locs ls hP hD hS hl h
  unfold b_X9_poor_0 at h
  refine lv_iconst (v := (-1)) hx hb dX9_poor_0 (by decide) ?_
  refine lv_istore_n (lv' := [(1, .int (-1)), (0, .ref (qa 0 0))]) hx hb dX9_poor_1 rfl hl (by decide) rfl (fun ls hl => ?_)
  refine lv_iconst (v := (-1)) hx hb dX9_poor_2 (by decide) ?_
  refine lv_istore_n (lv' := [(2, .int (-1)), (1, .int (-1)), (0, .ref (qa 0 0))]) hx hb dX9_poor_3 rfl hl (by decide) rfl (fun ls hl => ?_)
  refine lv_iconst (v := 0) hx hb dX9_poor_4 (by decide) ?_
  refine lv_istore_n (lv' := [(3, .int 0), (2, .int (-1)), (1, .int (-1)), (0, .ref (qa 0 0))]) hx hb dX9_poor_5 rfl hl (by decide) rfl (fun ls hl => ?_)
  obtain ⟨n_1, h⟩ := h
  exact w_X9_poor_6 cx hA n_1 (-1) (-1) 0 H locs ls hP hD hS (lv_sub hl [3, 2, 1, 0] rfl) h
set_option maxRecDepth 100000 in
theorem c_X9_poor (l : Launch) {dC : Nat → ClassId} {dI : Nat → Nat → Nat} {cI cJ : ClassId} (sz : Nat) (qa : Nat → Nat → Nat) (C : Nat → Mem) (L : MemL) (post : Int32 → Prop) (h : wp_X9_poor C L post) : Met l yX9_poor (Cond.code yX9_poor cX9_poor 4 (some .int) :: gt) ({ frames := 0, cells := 0, slots := 0, locals := 0 }) (va_Pc [.ref (qa 0 0)] (PRE (dC, dI) (TY cI cJ) (wC cI cJ qa C L) sz)) (va_Qi (S := Unit) (fun (r : Int32) (_u : Unit) => post r) (fun _u t => AT (dC, dI) (TY cI cJ) (va_A (wC cI cJ qa C L) sz) (wC cI cJ qa C L) t) (va_A (wC cI cJ qa C L) sz)) 0 0 (va_A (wC cI cJ qa C L) sz) :=
  met_of (own := RX9) (Qf := fun A => va_Qi (S := Unit) (fun (r : Int32) (_u : Unit) => post r) (fun _u t => AT (dC, dI) (TY cI cJ) A (wC cI cJ qa C L) t) A) (by decide) rfl (Nat.le_of_ble_eq_true rfl) rfl (fun p e s m below meth c A cx hA ls hP hD hS hl => w_X9_poor_0 cx hA  _ _ ls hP hD hS hl h)
theorem mv_X9_poor : MV yX9_poor cX9_poor 4 (some .int) 0 := ⟨⟨kw_446, kw_1, by decide +kernel⟩, kw_444, kw_445⟩
set_option maxHeartbeats 4000000 in
set_option maxRecDepth 100000 in
theorem w_X9_passed_0 {p : Program} {l : Launch} {e : Env} {s : State} {m : MethodId} {args : Array Value} {below : List Frame} {meth : Method} {c : Code} {dC : Nat → ClassId} {dI : Nat → Nat → Nat} {cI cJ : ClassId} {A : Nat → Prop} (cx : CX RX9 cX9_passed (some .int) 1 p s m args meth c (dC, dI) (TY cI cJ)) (hA : ∀ q, s.heap.size ≤ q → A q) {qa : Nat → Nat → Nat} {C : (Nat → Mem)} {L : MemL} {post : Int32 → Prop} : ∀  (H : Heap) (locs : List Loc) (ls : Array Slot), va_P (dC, dI) vwCl (wC cI cJ qa C L) H → va_D A (wC cI cJ qa C L) → va_S A s.heap H locs → lv_has ls 1 [(0, .ref (qa 0 0))] → b_X9_passed_0 C L post  → W p l e ({ frames := 0, cells := 0, slots := 0, locals := 0 }) s m args below meth c H locs 0 0 (MQ below (va_Qi (S := Unit) (fun (r : Int32) (_u : Unit) => post r) (fun _u t => AT (dC, dI) (TY cI cJ) A (wC cI cJ qa C L) t) A) args s 0 0 A) (F0 m 0 ls []) := by
  obtain ⟨hx, hb, hr, hml, hown, hts, hlocks, hK⟩ := id cx
  have cx' : CX RX9 cX9_passed (meth.sig.returnType) 1 p s m args meth c (dC, dI) (TY cI cJ) := ⟨hx, hb, rfl, hml, hown, hts, hlocks, hK⟩
  intro H locs ls hP hD hS hl h
  unfold b_X9_passed_0 at h
  refine lv_iconst (v := 1) hx hb dX9_passed_0 (by decide) ?_
  refine lv_aload_n hx hb dX9_passed_1 rfl (lv_at hl 0 rfl) ?_
  refine gf_v (k := 2) (v := .ref (qa 3 0)) cx' hP 0 i_X9 rfl rfl (by decide) kw_266 rfl rfl dX9_passed_2 ?_
  refine gf_v (k := 4) (v := .int (C 3 0 4)) cx' hP 5 i_X4 rfl rfl (by decide) kw_64 rfl rfl dX9_passed_5 ?_
  refine lv_ishl hx hb dX9_passed_8 ?_
  refine lv_iconst (v := 1) hx hb dX9_passed_9 (by decide) ?_
  refine lv_isub hx hb dX9_passed_10 ?_
  refine lv_aload_n hx hb dX9_passed_11 rfl (lv_at hl 0 rfl) ?_
  refine gf_v (k := 4) (v := .ref (qa 5 0)) cx' hP 0 i_X9 rfl rfl (by decide) kw_268 rfl rfl dX9_passed_12 ?_
  refine gf_v (k := 7) (v := .int (C 5 0 7)) cx' hP 15 i_X1 rfl rfl (by decide) kw_136 rfl rfl dX9_passed_15 ?_
  refine lv_iconst (v := (-1)) hx hb dX9_passed_18 (by decide) ?_
  refine lv_ixor hx hb dX9_passed_19 ?_
  refine lv_iand hx hb dX9_passed_20 ?_
  exact rt_i (v := ((1 <<< ((C 3 0 4) &&& 31)) - 1) &&& ((C 5 0 7) ^^^ (-1))) (u := ()) cx hP hD hS h dX9_passed_21
set_option maxRecDepth 100000 in
theorem c_X9_passed (l : Launch) {dC : Nat → ClassId} {dI : Nat → Nat → Nat} {cI cJ : ClassId} (sz : Nat) (qa : Nat → Nat → Nat) (C : Nat → Mem) (L : MemL) (post : Int32 → Prop) (h : wp_X9_passed C L post) : Met l yX9_passed (Cond.code yX9_passed cX9_passed 1 (some .int) :: gt) ({ frames := 0, cells := 0, slots := 0, locals := 0 }) (va_Pc [.ref (qa 0 0)] (PRE (dC, dI) (TY cI cJ) (wC cI cJ qa C L) sz)) (va_Qi (S := Unit) (fun (r : Int32) (_u : Unit) => post r) (fun _u t => AT (dC, dI) (TY cI cJ) (va_A (wC cI cJ qa C L) sz) (wC cI cJ qa C L) t) (va_A (wC cI cJ qa C L) sz)) 0 0 (va_A (wC cI cJ qa C L) sz) :=
  met_of (own := RX9) (Qf := fun A => va_Qi (S := Unit) (fun (r : Int32) (_u : Unit) => post r) (fun _u t => AT (dC, dI) (TY cI cJ) A (wC cI cJ qa C L) t) A) (by decide) rfl (Nat.le_of_ble_eq_true rfl) rfl (fun p e s m below meth c A cx hA ls hP hD hS hl => w_X9_passed_0 cx hA  _ _ ls hP hD hS hl h)
theorem mv_X9_passed : MV yX9_passed cX9_passed 1 (some .int) 0 := ⟨⟨kw_450, kw_1, by decide +kernel⟩, kw_448, kw_449⟩
set_option maxHeartbeats 4000000 in
set_option maxRecDepth 100000 in
theorem w_X9_weighTrial_63 {p : Program} {l : Launch} {e : Env} {s : State} {m : MethodId} {args : Array Value} {below : List Frame} {meth : Method} {c : Code} {dC : Nat → ClassId} {dI : Nat → Nat → Nat} {cI cJ : ClassId} {A : Nat → Prop} (cx : CX RX9 cX9_weighTrial none 6 p s m args meth c (dC, dI) (TY cI cJ)) (hA : ∀ q, s.heap.size ≤ q → A q) {qa : Nat → Nat → Nat} {post : (Nat → Mem) → MemL → Prop} {k8 : Int32 → Int32 → Int32 → Int32 → Int32 → (Nat → Mem) → MemL → Prop} (hk8 : ∀ (x1 : Int32) (x2 : Int32) (x3 : Int32) (x4 : Int32) (x5 : Int32) (C : (Nat → Mem)) (L : MemL) (H : Heap) (locs : List Loc) (ls : Array Slot), va_P (dC, dI) vwCl (wC cI cJ qa C L) H → va_D A (wC cI cJ qa C L) → va_S A s.heap H locs → lv_has ls 6 [(0, .ref (qa 0 0)), (1, .int x1), (2, .int x2), (3, .int x3), (4, .int x4), (5, .int x5)] → k8 x1 x2 x3 x4 x5 C L → W p l e ({ frames := 3, cells := 0, slots := 0, locals := 77 }) s m args below meth c H locs 0 0 (MQ below (va_Qv (S := (Nat → Mem) × MemL) (fun (u : (Nat → Mem) × MemL) => post u.1 u.2) (fun u t => AT (dC, dI) (TY cI cJ) A (wC cI cJ qa (u.1) (u.2)) t) A) args s 0 0 A) (F0 m 8 ls [])) : ∀ (x1 : Int32) (x2 : Int32) (x3 : Int32) (x4 : Int32) (x5 : Int32) (C : (Nat → Mem)) (L : MemL) (H : Heap) (locs : List Loc) (ls : Array Slot), va_P (dC, dI) vwCl (wC cI cJ qa C L) H → va_D A (wC cI cJ qa C L) → va_S A s.heap H locs → lv_has ls 6 [(0, .ref (qa 0 0)), (1, .int x1), (2, .int x2), (3, .int x3), (4, .int x4), (5, .int x5)] → b_X9_weighTrial_63 post k8 x1 x2 x3 x4 x5 C L → W p l e ({ frames := 3, cells := 0, slots := 0, locals := 77 }) s m args below meth c H locs 0 0 (MQ below (va_Qv (S := (Nat → Mem) × MemL) (fun (u : (Nat → Mem) × MemL) => post u.1 u.2) (fun u t => AT (dC, dI) (TY cI cJ) A (wC cI cJ qa (u.1) (u.2)) t) A) args s 0 0 A) (F0 m 63 ls []) := by
  obtain ⟨hx, hb, hr, hml, hown, hts, hlocks, hK⟩ := id cx
  have cx' : CX RX9 cX9_weighTrial (meth.sig.returnType) 6 p s m args meth c (dC, dI) (TY cI cJ) := ⟨hx, hb, rfl, hml, hown, hts, hlocks, hK⟩
  intro x1 x2 x3 x4 x5 C L H locs ls hP hD hS hl h
  unfold b_X9_weighTrial_63 at h
  obtain ⟨x5_1, ex5_1⟩ : ∃ z : Int32, z = x5 + 1 := ⟨_, rfl⟩
  have h := h x5_1 ex5_1
  refine lv_iinc (v := x5_1) (lv' := [(5, .int x5_1), (0, .ref (qa 0 0)), (1, .int x1), (2, .int x2), (3, .int x3), (4, .int x4)]) hx hb dX9_weighTrial_63 hl (k := 5) rfl (by rw [ex5_1]; rfl) (by decide) rfl (fun ls hl => ?_)
  refine lv_goto (tgt := 8) hx hb dX9_weighTrial_66 (by decide) ?_
  exact hk8 x1 x2 x3 x4 x5_1 C L H locs ls hP hD hS (lv_sub hl [1, 2, 3, 4, 5, 0] rfl) h
set_option maxHeartbeats 4000000 in
set_option maxRecDepth 100000 in
theorem w_X9_weighTrial_8 {p : Program} {l : Launch} {e : Env} {s : State} {m : MethodId} {args : Array Value} {below : List Frame} {meth : Method} {c : Code} {dC : Nat → ClassId} {dI : Nat → Nat → Nat} {cI cJ : ClassId} {A : Nat → Prop} (cx : CX RX9 cX9_weighTrial none 6 p s m args meth c (dC, dI) (TY cI cJ)) (hA : ∀ q, s.heap.size ≤ q → A q) {qa : Nat → Nat → Nat} {post : (Nat → Mem) → MemL → Prop} : ∀ (n : Nat) (x1 : Int32) (x2 : Int32) (x3 : Int32) (x4 : Int32) (x5 : Int32) (C : (Nat → Mem)) (L : MemL) (H : Heap) (locs : List Loc) (ls : Array Slot), va_P (dC, dI) vwCl (wC cI cJ qa C L) H → va_D A (wC cI cJ qa C L) → va_S A s.heap H locs → lv_has ls 6 [(0, .ref (qa 0 0)), (1, .int x1), (2, .int x2), (3, .int x3), (4, .int x4), (5, .int x5)] → b_X9_weighTrial_8 post n x1 x2 x3 x4 x5 C L → W p l e ({ frames := 3, cells := 0, slots := 0, locals := 77 }) s m args below meth c H locs 0 0 (MQ below (va_Qv (S := (Nat → Mem) × MemL) (fun (u : (Nat → Mem) × MemL) => post u.1 u.2) (fun u t => AT (dC, dI) (TY cI cJ) A (wC cI cJ qa (u.1) (u.2)) t) A) args s 0 0 A) (F0 m 8 ls []) := by
  obtain ⟨hx, hb, hr, hml, hown, hts, hlocks, hK⟩ := id cx
  have cx' : CX RX9 cX9_weighTrial (meth.sig.returnType) 6 p s m args meth c (dC, dI) (TY cI cJ) := ⟨hx, hb, rfl, hml, hown, hts, hlocks, hK⟩
  intro n
  induction n with
  | zero =>
    intro x1 x2 x3 x4 x5 C L H locs ls hP hD hS hl h
    exact False.elim h
  | succ n ih =>
    intro x1 x2 x3 x4 x5 C L H locs ls hP hD hS hl h
    unfold b_X9_weighTrial_8 at h
    refine lv_iload hx hb dX9_weighTrial_8 (lv_at hl 5 rfl) ?_
    refine lv_aload_n hx hb dX9_weighTrial_10 rfl (lv_at hl 0 rfl) ?_
    refine gf_v (k := 3) (v := .ref (qa 4 0)) cx' hP 0 i_X9 rfl rfl (by decide) kw_267 rfl rfl dX9_weighTrial_11 ?_
    refine gf_v (k := 4) (v := .int (C 4 0 4)) cx' hP 10 i_X2 rfl rfl (by decide) kw_104 rfl rfl dX9_weighTrial_14 ?_
    refine lv_icmp_ge (tgt := 69) hx hb dX9_weighTrial_17 (by decide) (fun c_1 => ?_) (fun c_1 => ?_)
    · have h := h.1 c_1
      refine lv_aload_n hx hb dX9_weighTrial_69 rfl (lv_at hl 0 rfl) ?_
      refine gf_v (k := 10) (v := .ref (qa 11 0)) cx' hP 0 i_X9 rfl rfl (by decide) kw_274 rfl rfl dX9_weighTrial_70 ?_
      refine lv_iload_n hx hb dX9_weighTrial_73 rfl (lv_at hl 1 rfl) ?_
      refine lv_iload_n hx hb dX9_weighTrial_74 rfl (lv_at hl 3 rfl) ?_
      refine lv_iload hx hb dX9_weighTrial_75 (lv_at hl 4 rfl) ?_
      refine callP_v (wc := ww_X3 cI cJ (qa 11) (C 11)) (wr_C_11 cI cJ qa C L) (fun (u : Mem) => wC cI cJ qa (up3 C 11 (u)) L) [39] [0, 1, 2, 3, 4, 5, 6, 7, 8, 9, 10, 11, 12, 13, 14, 15, 16, 17, 18, 19, 20, 21, 22, 23, 24, 25, 26, 27, 28, 29, 30, 31, 32, 33, 34, 35, 36, 37, 38] [0, 1, 2, 3, 4, 5, 6, 7, 8, 9, 10, 11, 12, 13, 14, 15, 16, 17, 18, 19, 20, 21, 22, 23, 24, 25, 26, 27, 28, 29, 30, 31, 32, 33, 34, 35, 36, 37, 38, 39] rfl rfl rfl (by decide) (fun _ => rfl) rfl hP hD hS hA (fun hPc hDc => run_V (As := [.int x1, .int x3, .int x4]) (rest := []) cx' (c_X3_weigh l H.size (qa 11) (C 11) x1 x3 x4 _ h) mv_X3_weigh kw_480 rfl rfl ⟨Nat.le_of_ble_eq_true rfl, Nat.le_of_ble_eq_true rfl⟩ hPc hDc rfl rfl rfl hl.1 rfl (Nat.le_of_ble_eq_true rfl) dX9_weighTrial_77 ⟨Nat.zero_le _, Nat.zero_le _⟩) rfl (fun u9 H locs hP hD hS h => ?_)
      obtain ⟨u_2, rfl⟩ : ∃ z, z = u9 := ⟨_, rfl⟩
      obtain ⟨C_3, eC_3⟩ : ∃ z : Nat → Mem, z = up3 C 11 u_2 := ⟨_, rfl⟩
      have h := h C_3 eC_3
      have hP : va_P (dC, dI) vwCl (wC cI cJ qa C_3 L) H := by subst eC_3; exact hP
      have hD : va_D A (wC cI cJ qa C_3 L) := by subst eC_3; exact hD
      exact rt_v (u := (C_3, L)) cx hP hD hS h dX9_weighTrial_80
    have h := h.2 c_1
    refine lv_aload_n hx hb dX9_weighTrial_20 rfl (lv_at hl 0 rfl) ?_
    refine gf_v (k := 9) (v := .ref (qa 10 0)) cx' hP 0 i_X9 rfl rfl (by decide) kw_273 rfl rfl dX9_weighTrial_21 ?_
    refine lv_aload_n hx hb dX9_weighTrial_24 rfl (lv_at hl 0 rfl) ?_
    refine gf_v (k := 8) (v := .ref (qa 9 0)) cx' hP 0 i_X9 rfl rfl (by decide) kw_272 rfl rfl dX9_weighTrial_25 ?_
    refine lv_aload_n hx hb dX9_weighTrial_28 rfl (lv_at hl 0 rfl) ?_
    refine gf_v (k := 3) (v := .ref (qa 4 0)) cx' hP 0 i_X9 rfl rfl (by decide) kw_267 rfl rfl dX9_weighTrial_29 ?_
    refine lv_iload hx hb dX9_weighTrial_32 (lv_at hl 5 rfl) ?_
    refine callP_v (wc := ww_X8_X4_X2 cI cJ (qa 10) (C 10) (qa 9) (C 9) (qa 4) (C 4)) (wr_C_4_9_10 cI cJ qa C L) (fun (u : Mem) => wC cI cJ qa (up3 C 10 (u)) L) [37, 38, 32, 33, 34, 35, 36, 10, 11, 12, 13, 14] [0, 1, 2, 3, 4, 5, 6, 7, 8, 9, 15, 16, 17, 18, 19, 20, 21, 22, 23, 24, 25, 26, 27, 28, 29, 30, 31, 39] [0, 1, 2, 3, 4, 5, 6, 7, 8, 9, 35, 36, 37, 38, 39, 10, 11, 12, 13, 14, 15, 16, 17, 18, 19, 20, 21, 22, 23, 24, 25, 26, 30, 31, 32, 33, 34, 28, 29, 27] rfl rfl rfl (by decide) (fun _ => rfl) rfl hP hD hS hA (fun hPc hDc => run_V (As := [.ref (qa 9 0), .ref (qa 4 0), .int x5]) (rest := []) cx' (c_X8_go l H.size (qa 10) (C 10) (qa 9) (C 9) (qa 4) (C 4) x5 _ h) mv_X8_go kw_479 rfl rfl ⟨Nat.le_of_ble_eq_true rfl, Nat.le_of_ble_eq_true rfl⟩ hPc hDc rfl rfl rfl hl.1 rfl (Nat.le_of_ble_eq_true rfl) dX9_weighTrial_34 ⟨Nat.zero_le _, Nat.zero_le _⟩) rfl (fun u9 H locs hP hD hS h => ?_)
    obtain ⟨u_4, rfl⟩ : ∃ z, z = u9 := ⟨_, rfl⟩
    obtain ⟨C_5, eC_5⟩ : ∃ z : Nat → Mem, z = up3 C 10 u_4 := ⟨_, rfl⟩
    have h := h C_5 eC_5
    have hP : va_P (dC, dI) vwCl (wC cI cJ qa C_5 L) H := by subst eC_5; exact hP
    have hD : va_D A (wC cI cJ qa C_5 L) := by subst eC_5; exact hD
    refine lv_iload_n hx hb dX9_weighTrial_37 rfl (lv_at hl 3 rfl) ?_
    refine lv_aload_n hx hb dX9_weighTrial_38 rfl (lv_at hl 0 rfl) ?_
    refine gf_v (k := 9) (v := .ref (qa 10 0)) cx' hP 0 i_X9 rfl rfl (by decide) kw_273 rfl rfl dX9_weighTrial_39 ?_
    refine gf_v (k := 0) (v := .ref (qa 10 1)) cx' hP 37 i_X8 rfl rfl (by decide) kw_218 rfl rfl dX9_weighTrial_42 ?_
    refine lv_iload_n hx hb dX9_weighTrial_45 rfl (lv_at hl 2 rfl) ?_
    refine va_iald hx hb hK hP 38 0 rfl rfl h.1 dX9_weighTrial_46 ?_
    have h := h.2
    refine lv_iadd hx hb dX9_weighTrial_47 ?_
    refine lv_topi (fun x3_6 ex3_6 => ?_)
    have h := h x3_6 ex3_6
    refine lv_istore_n (lv' := [(3, .int x3_6), (0, .ref (qa 0 0)), (1, .int x1), (2, .int x2), (4, .int x4), (5, .int x5)]) hx hb dX9_weighTrial_48 rfl hl (by decide) rfl (fun ls hl => ?_)
    refine lv_aload_n hx hb dX9_weighTrial_49 rfl (lv_at hl 1 rfl) ?_
    refine gf_v (k := 9) (v := .ref (qa 10 0)) cx' hP 0 i_X9 rfl rfl (by decide) kw_273 rfl rfl dX9_weighTrial_50 ?_
    refine gf_v (k := 1) (v := .int (C_5 10 0 1)) cx' hP 37 i_X8 rfl rfl (by decide) kw_221 rfl rfl dX9_weighTrial_53 ?_
    refine lv_iload_n hx hb dX9_weighTrial_56 rfl (lv_at hl 3 rfl) ?_
    refine lv_icmp_ne (tgt := 63) hx hb dX9_weighTrial_57 (by decide) (fun c_7 => ?_) (fun c_7 => ?_)
    · have h := h.1 c_7
      exact w_X9_weighTrial_63 cx hA ih x1 x2 x3_6 x4 x5 C_5 L H locs ls hP hD hS (lv_sub hl [1, 2, 3, 0, 4, 5] rfl) h
    have h := h.2 c_7
    obtain ⟨x4_8, ex4_8⟩ : ∃ z : Int32, z = x4 + 1 := ⟨_, rfl⟩
    have h := h x4_8 ex4_8
    refine lv_iinc (v := x4_8) (lv' := [(4, .int x4_8), (3, .int x3_6), (0, .ref (qa 0 0)), (1, .int x1), (2, .int x2), (5, .int x5)]) hx hb dX9_weighTrial_60 hl (k := 4) rfl (by rw [ex4_8]; rfl) (by decide) rfl (fun ls hl => ?_)
    exact w_X9_weighTrial_63 cx hA ih x1 x2 x3_6 x4_8 x5 C_5 L H locs ls hP hD hS (lv_sub hl [2, 3, 4, 1, 0, 5] rfl) h
set_option maxHeartbeats 4000000 in
set_option maxRecDepth 100000 in
theorem w_X9_weighTrial_0 {p : Program} {l : Launch} {e : Env} {s : State} {m : MethodId} {args : Array Value} {below : List Frame} {meth : Method} {c : Code} {dC : Nat → ClassId} {dI : Nat → Nat → Nat} {cI cJ : ClassId} {A : Nat → Prop} (cx : CX RX9 cX9_weighTrial none 6 p s m args meth c (dC, dI) (TY cI cJ)) (hA : ∀ q, s.heap.size ≤ q → A q) {qa : Nat → Nat → Nat} {post : (Nat → Mem) → MemL → Prop} : ∀ (x1 : Int32) (x2 : Int32) (C : (Nat → Mem)) (L : MemL) (H : Heap) (locs : List Loc) (ls : Array Slot), va_P (dC, dI) vwCl (wC cI cJ qa C L) H → va_D A (wC cI cJ qa C L) → va_S A s.heap H locs → lv_has ls 6 [(0, .ref (qa 0 0)), (1, .int x1), (2, .int x2)] → b_X9_weighTrial_0 post x1 x2 C L → W p l e ({ frames := 3, cells := 0, slots := 0, locals := 77 }) s m args below meth c H locs 0 0 (MQ below (va_Qv (S := (Nat → Mem) × MemL) (fun (u : (Nat → Mem) × MemL) => post u.1 u.2) (fun u t => AT (dC, dI) (TY cI cJ) A (wC cI cJ qa (u.1) (u.2)) t) A) args s 0 0 A) (F0 m 0 ls []) := by
  obtain ⟨hx, hb, hr, hml, hown, hts, hlocks, hK⟩ := id cx
  have cx' : CX RX9 cX9_weighTrial (meth.sig.returnType) 6 p s m args meth c (dC, dI) (TY cI cJ) := ⟨hx, hb, rfl, hml, hown, hts, hlocks, hK⟩
  intro x1 x2 C L H locs ls hP hD hS hl h
  unfold b_X9_weighTrial_0 at h
  refine lv_iconst (v := 0) hx hb dX9_weighTrial_0 (by decide) ?_
  refine lv_istore_n (lv' := [(3, .int 0), (0, .ref (qa 0 0)), (1, .int x1), (2, .int x2)]) hx hb dX9_weighTrial_1 rfl hl (by decide) rfl (fun ls hl => ?_)
  refine lv_iconst (v := 0) hx hb dX9_weighTrial_2 (by decide) ?_
  refine lv_istore (lv' := [(4, .int 0), (3, .int 0), (0, .ref (qa 0 0)), (1, .int x1), (2, .int x2)]) hx hb dX9_weighTrial_3 hl (by decide) rfl (fun ls hl => ?_)
  refine lv_iconst (v := 0) hx hb dX9_weighTrial_5 (by decide) ?_
  refine lv_istore (lv' := [(5, .int 0), (4, .int 0), (3, .int 0), (0, .ref (qa 0 0)), (1, .int x1), (2, .int x2)]) hx hb dX9_weighTrial_6 hl (by decide) rfl (fun ls hl => ?_)
  obtain ⟨n_1, h⟩ := h
  exact w_X9_weighTrial_8 cx hA n_1 x1 x2 0 0 0 C L H locs ls hP hD hS (lv_sub hl [3, 4, 5, 2, 1, 0] rfl) h
set_option maxRecDepth 100000 in
theorem c_X9_weighTrial (l : Launch) {dC : Nat → ClassId} {dI : Nat → Nat → Nat} {cI cJ : ClassId} (sz : Nat) (qa : Nat → Nat → Nat) (C : Nat → Mem) (L : MemL) (x1 : Int32) (x2 : Int32) (post : (Nat → Mem) → MemL → Prop) (h : wp_X9_weighTrial C L x1 x2 post) : Met l yX9_weighTrial (Cond.code yX9_weighTrial cX9_weighTrial 6 none :: gt) ({ frames := 3, cells := 0, slots := 0, locals := 77 }) (va_Pc [.ref (qa 0 0), .int x1, .int x2] (PRE (dC, dI) (TY cI cJ) (wC cI cJ qa C L) sz)) (va_Qv (S := (Nat → Mem) × MemL) (fun (u : (Nat → Mem) × MemL) => post u.1 u.2) (fun u t => AT (dC, dI) (TY cI cJ) (va_A (wC cI cJ qa C L) sz) (wC cI cJ qa (u.1) (u.2)) t) (va_A (wC cI cJ qa C L) sz)) 0 0 (va_A (wC cI cJ qa C L) sz) :=
  met_of (own := RX9) (Qf := fun A => va_Qv (S := (Nat → Mem) × MemL) (fun (u : (Nat → Mem) × MemL) => post u.1 u.2) (fun u t => AT (dC, dI) (TY cI cJ) A (wC cI cJ qa (u.1) (u.2)) t) A) (by decide) rfl (Nat.le_of_ble_eq_true rfl) rfl (fun p e s m below meth c A cx hA ls hP hD hS hl => w_X9_weighTrial_0 cx hA x1 x2 C L _ _ ls hP hD hS hl h)
theorem mv_X9_weighTrial : MV yX9_weighTrial cX9_weighTrial 6 none 2 := ⟨⟨kw_478, kw_1, by decide +kernel⟩, kw_477, ksel_5⟩
set_option maxHeartbeats 4000000 in
set_option maxRecDepth 100000 in
theorem w_X9_planPlace_20 {p : Program} {l : Launch} {e : Env} {s : State} {m : MethodId} {args : Array Value} {below : List Frame} {meth : Method} {c : Code} {dC : Nat → ClassId} {dI : Nat → Nat → Nat} {cI cJ : ClassId} {A : Nat → Prop} (cx : CX RX9 cX9_planPlace none 3 p s m args meth c (dC, dI) (TY cI cJ)) (hA : ∀ q, s.heap.size ≤ q → A q) {qa : Nat → Nat → Nat} {post : (Nat → Mem) → MemL → Prop} : ∀ (n : Nat) (x1 : Int32) (x2 : Int32) (C : (Nat → Mem)) (L : MemL) (H : Heap) (locs : List Loc) (ls : Array Slot), va_P (dC, dI) vwCl (wC cI cJ qa C L) H → va_D A (wC cI cJ qa C L) → va_S A s.heap H locs → lv_has ls 3 [(0, .ref (qa 0 0)), (1, .int x1), (2, .int x2)] → b_X9_planPlace_20 post n x1 x2 C L → W p l e ({ frames := 4, cells := 0, slots := 0, locals := 102 }) s m args below meth c H locs 0 0 (MQ below (va_Qv (S := (Nat → Mem) × MemL) (fun (u : (Nat → Mem) × MemL) => post u.1 u.2) (fun u t => AT (dC, dI) (TY cI cJ) A (wC cI cJ qa (u.1) (u.2)) t) A) args s 0 0 A) (F0 m 20 ls []) := by
  obtain ⟨hx, hb, hr, hml, hown, hts, hlocks, hK⟩ := id cx
  have cx' : CX RX9 cX9_planPlace (meth.sig.returnType) 3 p s m args meth c (dC, dI) (TY cI cJ) := ⟨hx, hb, rfl, hml, hown, hts, hlocks, hK⟩
  intro n
  induction n with
  | zero =>
    intro x1 x2 C L H locs ls hP hD hS hl h
    exact False.elim h
  | succ n ih =>
    intro x1 x2 C L H locs ls hP hD hS hl h
    unfold b_X9_planPlace_20 at h
    refine lv_iload_n hx hb dX9_planPlace_20 rfl (lv_at hl 2 rfl) ?_
    refine lv_aload_n hx hb dX9_planPlace_21 rfl (lv_at hl 0 rfl) ?_
    refine gf_v (k := 2) (v := .ref (qa 3 0)) cx' hP 0 i_X9 rfl rfl (by decide) kw_266 rfl rfl dX9_planPlace_22 ?_
    refine gf_v (k := 4) (v := .int (C 3 0 4)) cx' hP 5 i_X4 rfl rfl (by decide) kw_64 rfl rfl dX9_planPlace_25 ?_
    refine lv_icmp_ge (tgt := 56) hx hb dX9_planPlace_28 (by decide) (fun c_1 => ?_) (fun c_1 => ?_)
    · have h := h.1 c_1
      exact rt_v (u := (C, L)) cx hP hD hS h dX9_planPlace_56
    have h := h.2 c_1
    refine lv_aload_n hx hb dX9_planPlace_31 rfl (lv_at hl 0 rfl) ?_
    refine gf_v (k := 8) (v := .ref (qa 9 0)) cx' hP 0 i_X9 rfl rfl (by decide) kw_272 rfl rfl dX9_planPlace_32 ?_
    refine lv_aload_n hx hb dX9_planPlace_35 rfl (lv_at hl 0 rfl) ?_
    refine gf_v (k := 2) (v := .ref (qa 3 0)) cx' hP 0 i_X9 rfl rfl (by decide) kw_266 rfl rfl dX9_planPlace_36 ?_
    refine lv_iload_n hx hb dX9_planPlace_39 rfl (lv_at hl 1 rfl) ?_
    refine lv_iload_n hx hb dX9_planPlace_40 rfl (lv_at hl 2 rfl) ?_
    refine callP_v (wc := ww_X4_X4 cI cJ (qa 9) (C 9) (qa 3) (C 3)) (wr_C_3_9 cI cJ qa C L) (fun (u : Mem) => wC cI cJ qa (up3 C 9 (u)) L) [32, 33, 34, 35, 36, 5, 6, 7, 8, 9] [0, 1, 2, 3, 4, 10, 11, 12, 13, 14, 15, 16, 17, 18, 19, 20, 21, 22, 23, 24, 25, 26, 27, 28, 29, 30, 31, 37, 38, 39] [0, 1, 2, 3, 4, 35, 36, 37, 38, 39, 5, 6, 7, 8, 9, 10, 11, 12, 13, 14, 15, 16, 17, 18, 19, 20, 21, 22, 23, 24, 25, 26, 30, 31, 32, 33, 34, 27, 28, 29] rfl rfl rfl (by decide) (fun _ => rfl) rfl hP hD hS hA (fun hPc hDc => run_V (As := [.ref (qa 3 0), .int x1, .int x2]) (rest := []) cx' (c_X4_moveFrom l H.size (qa 9) (C 9) (qa 3) (C 3) x1 x2 _ h) mv_X4_moveFrom kw_467 rfl rfl ⟨Nat.le_of_ble_eq_true rfl, Nat.le_of_ble_eq_true rfl⟩ hPc hDc rfl rfl rfl hl.1 rfl (Nat.le_of_ble_eq_true rfl) dX9_planPlace_41 ⟨Nat.zero_le _, Nat.zero_le _⟩) rfl (fun u9 H locs hP hD hS h => ?_)
    obtain ⟨u_2, rfl⟩ : ∃ z, z = u9 := ⟨_, rfl⟩
    obtain ⟨C_3, eC_3⟩ : ∃ z : Nat → Mem, z = up3 C 9 u_2 := ⟨_, rfl⟩
    have h := h C_3 eC_3
    have hP : va_P (dC, dI) vwCl (wC cI cJ qa C_3 L) H := by subst eC_3; exact hP
    have hD : va_D A (wC cI cJ qa C_3 L) := by subst eC_3; exact hD
    refine lv_aload_n hx hb dX9_planPlace_44 rfl (lv_at hl 0 rfl) ?_
    refine lv_iload_n hx hb dX9_planPlace_45 rfl (lv_at hl 2 rfl) ?_
    refine lv_iload_n hx hb dX9_planPlace_46 rfl (lv_at hl 1 rfl) ?_
    refine call_v (run_V (As := [.int x2, .int x1]) (rest := []) cx' (c_X9_weighTrial l H.size qa C_3 L x2 x1 _ h) mv_X9_weighTrial kw_475 rfl rfl ⟨Nat.le_of_ble_eq_true rfl, Nat.le_of_ble_eq_true rfl⟩ hP hD rfl rfl rfl hl.1 rfl (Nat.le_of_ble_eq_true rfl) dX9_planPlace_47 ⟨Nat.zero_le _, Nat.zero_le _⟩) hD hS hA (fun u9 H locs hP hD hS h => ?_)
    obtain ⟨C_4, L_5⟩ := u9
    have hP : va_P (dC, dI) vwCl (wC cI cJ qa C_4 L_5) H := hP
    have hD : va_D A (wC cI cJ qa C_4 L_5) := hD
    obtain ⟨x2_6, ex2_6⟩ : ∃ z : Int32, z = x2 + 1 := ⟨_, rfl⟩
    have h := h x2_6 ex2_6
    refine lv_iinc (v := x2_6) (lv' := [(2, .int x2_6), (0, .ref (qa 0 0)), (1, .int x1)]) hx hb dX9_planPlace_50 hl (k := 2) rfl (by rw [ex2_6]; rfl) (by decide) rfl (fun ls hl => ?_)
    refine lv_goto (tgt := 20) hx hb dX9_planPlace_53 (by decide) ?_
    exact ih x1 x2_6 C_4 L_5 H locs ls hP hD hS (lv_sub hl [1, 2, 0] rfl) h
set_option maxHeartbeats 4000000 in
set_option maxRecDepth 100000 in
theorem w_X9_planPlace_0 {p : Program} {l : Launch} {e : Env} {s : State} {m : MethodId} {args : Array Value} {below : List Frame} {meth : Method} {c : Code} {dC : Nat → ClassId} {dI : Nat → Nat → Nat} {cI cJ : ClassId} {A : Nat → Prop} (cx : CX RX9 cX9_planPlace none 3 p s m args meth c (dC, dI) (TY cI cJ)) (hA : ∀ q, s.heap.size ≤ q → A q) {qa : Nat → Nat → Nat} {post : (Nat → Mem) → MemL → Prop} : ∀ (x1 : Int32) (C : (Nat → Mem)) (L : MemL) (H : Heap) (locs : List Loc) (ls : Array Slot), va_P (dC, dI) vwCl (wC cI cJ qa C L) H → va_D A (wC cI cJ qa C L) → va_S A s.heap H locs → lv_has ls 3 [(0, .ref (qa 0 0)), (1, .int x1)] → b_X9_planPlace_0 post x1 C L → W p l e ({ frames := 4, cells := 0, slots := 0, locals := 102 }) s m args below meth c H locs 0 0 (MQ below (va_Qv (S := (Nat → Mem) × MemL) (fun (u : (Nat → Mem) × MemL) => post u.1 u.2) (fun u t => AT (dC, dI) (TY cI cJ) A (wC cI cJ qa (u.1) (u.2)) t) A) args s 0 0 A) (F0 m 0 ls []) := by
  obtain ⟨hx, hb, hr, hml, hown, hts, hlocks, hK⟩ := id cx
  have cx' : CX RX9 cX9_planPlace (meth.sig.returnType) 3 p s m args meth c (dC, dI) (TY cI cJ) := ⟨hx, hb, rfl, hml, hown, hts, hlocks, hK⟩
  intro x1 C L H locs ls hP hD hS hl h
  unfold b_X9_planPlace_0 at h
  refine lv_aload_n hx hb dX9_planPlace_0 rfl (lv_at hl 0 rfl) ?_
  refine gf_v (k := 8) (v := .ref (qa 9 0)) cx' hP 0 i_X9 rfl rfl (by decide) kw_272 rfl rfl dX9_planPlace_1 ?_
  refine lv_aload_n hx hb dX9_planPlace_4 rfl (lv_at hl 0 rfl) ?_
  refine gf_v (k := 2) (v := .ref (qa 3 0)) cx' hP 0 i_X9 rfl rfl (by decide) kw_266 rfl rfl dX9_planPlace_5 ?_
  refine callP_v (wc := ww_X4_X4 cI cJ (qa 9) (C 9) (qa 3) (C 3)) (wr_C_3_9 cI cJ qa C L) (fun (u : Mem) => wC cI cJ qa (up3 C 9 (u)) L) [32, 33, 34, 35, 36, 5, 6, 7, 8, 9] [0, 1, 2, 3, 4, 10, 11, 12, 13, 14, 15, 16, 17, 18, 19, 20, 21, 22, 23, 24, 25, 26, 27, 28, 29, 30, 31, 37, 38, 39] [0, 1, 2, 3, 4, 35, 36, 37, 38, 39, 5, 6, 7, 8, 9, 10, 11, 12, 13, 14, 15, 16, 17, 18, 19, 20, 21, 22, 23, 24, 25, 26, 30, 31, 32, 33, 34, 27, 28, 29] rfl rfl rfl (by decide) (fun _ => rfl) rfl hP hD hS hA (fun hPc hDc => run_V (As := [.ref (qa 3 0)]) (rest := []) cx' (c_X4_takeFrom l H.size (qa 9) (C 9) (qa 3) (C 3) _ h) mv_X4_takeFrom kw_459 rfl rfl ⟨Nat.le_of_ble_eq_true rfl, Nat.le_of_ble_eq_true rfl⟩ hPc hDc rfl rfl rfl hl.1 rfl (Nat.le_of_ble_eq_true rfl) dX9_planPlace_8 ⟨Nat.zero_le _, Nat.zero_le _⟩) rfl (fun u9 H locs hP hD hS h => ?_)
  obtain ⟨u_1, rfl⟩ : ∃ z, z = u9 := ⟨_, rfl⟩
  obtain ⟨C_2, eC_2⟩ : ∃ z : Nat → Mem, z = up3 C 9 u_1 := ⟨_, rfl⟩
  have h := h C_2 eC_2
  have hP : va_P (dC, dI) vwCl (wC cI cJ qa C_2 L) H := by subst eC_2; exact hP
  have hD : va_D A (wC cI cJ qa C_2 L) := by subst eC_2; exact hD
  refine lv_aload_n hx hb dX9_planPlace_11 rfl (lv_at hl 0 rfl) ?_
  refine gf_v (k := 10) (v := .ref (qa 11 0)) cx' hP 0 i_X9 rfl rfl (by decide) kw_274 rfl rfl dX9_planPlace_12 ?_
  refine callP_v (wc := ww_X3 cI cJ (qa 11) (C_2 11)) (wr_C_11 cI cJ qa C_2 L) (fun (u : Mem) => wC cI cJ qa (up3 C_2 11 (u)) L) [39] [0, 1, 2, 3, 4, 5, 6, 7, 8, 9, 10, 11, 12, 13, 14, 15, 16, 17, 18, 19, 20, 21, 22, 23, 24, 25, 26, 27, 28, 29, 30, 31, 32, 33, 34, 35, 36, 37, 38] [0, 1, 2, 3, 4, 5, 6, 7, 8, 9, 10, 11, 12, 13, 14, 15, 16, 17, 18, 19, 20, 21, 22, 23, 24, 25, 26, 27, 28, 29, 30, 31, 32, 33, 34, 35, 36, 37, 38, 39] rfl rfl rfl (by decide) (fun _ => rfl) rfl hP hD hS hA (fun hPc hDc => run_V (As := []) (rest := []) cx' (c_X3_clear l H.size (qa 11) (C_2 11) _ h) mv_X3_clear kw_463 rfl rfl ⟨Nat.le_of_ble_eq_true rfl, Nat.le_of_ble_eq_true rfl⟩ hPc hDc rfl rfl rfl hl.1 rfl (Nat.le_of_ble_eq_true rfl) dX9_planPlace_15 ⟨Nat.zero_le _, Nat.zero_le _⟩) rfl (fun u9 H locs hP hD hS h => ?_)
  obtain ⟨u_3, rfl⟩ : ∃ z, z = u9 := ⟨_, rfl⟩
  obtain ⟨C_4, eC_4⟩ : ∃ z : Nat → Mem, z = up3 C_2 11 u_3 := ⟨_, rfl⟩
  have h := h C_4 eC_4
  have hP : va_P (dC, dI) vwCl (wC cI cJ qa C_4 L) H := by subst eC_4; exact hP
  have hD : va_D A (wC cI cJ qa C_4 L) := by subst eC_4; exact hD
  refine lv_iconst (v := 0) hx hb dX9_planPlace_18 (by decide) ?_
  refine lv_istore_n (lv' := [(2, .int 0), (0, .ref (qa 0 0)), (1, .int x1)]) hx hb dX9_planPlace_19 rfl hl (by decide) rfl (fun ls hl => ?_)
  obtain ⟨n_5, h⟩ := h
  exact w_X9_planPlace_20 cx hA n_5 x1 0 C_4 L H locs ls hP hD hS (lv_sub hl [1, 2, 0] rfl) h
set_option maxRecDepth 100000 in
theorem c_X9_planPlace (l : Launch) {dC : Nat → ClassId} {dI : Nat → Nat → Nat} {cI cJ : ClassId} (sz : Nat) (qa : Nat → Nat → Nat) (C : Nat → Mem) (L : MemL) (x1 : Int32) (post : (Nat → Mem) → MemL → Prop) (h : wp_X9_planPlace C L x1 post) : Met l yX9_planPlace (Cond.code yX9_planPlace cX9_planPlace 3 none :: gt) ({ frames := 4, cells := 0, slots := 0, locals := 102 }) (va_Pc [.ref (qa 0 0), .int x1] (PRE (dC, dI) (TY cI cJ) (wC cI cJ qa C L) sz)) (va_Qv (S := (Nat → Mem) × MemL) (fun (u : (Nat → Mem) × MemL) => post u.1 u.2) (fun u t => AT (dC, dI) (TY cI cJ) (va_A (wC cI cJ qa C L) sz) (wC cI cJ qa (u.1) (u.2)) t) (va_A (wC cI cJ qa C L) sz)) 0 0 (va_A (wC cI cJ qa C L) sz) :=
  met_of (own := RX9) (Qf := fun A => va_Qv (S := (Nat → Mem) × MemL) (fun (u : (Nat → Mem) × MemL) => post u.1 u.2) (fun u t => AT (dC, dI) (TY cI cJ) A (wC cI cJ qa (u.1) (u.2)) t) A) (by decide) rfl (Nat.le_of_ble_eq_true rfl) rfl (fun p e s m below meth c A cx hA ls hP hD hS hl => w_X9_planPlace_0 cx hA x1 C L _ _ ls hP hD hS hl h)
theorem mv_X9_planPlace : MV yX9_planPlace cX9_planPlace 3 none 1 := ⟨⟨kw_458, kw_1, by decide +kernel⟩, kw_457, ksel_4⟩
set_option maxHeartbeats 4000000 in
set_option maxRecDepth 100000 in
theorem w_X9_live_0 {p : Program} {l : Launch} {e : Env} {s : State} {m : MethodId} {args : Array Value} {below : List Frame} {meth : Method} {c : Code} {dC : Nat → ClassId} {dI : Nat → Nat → Nat} {cI cJ : ClassId} {A : Nat → Prop} (cx : CX RX9 cX9_live (some .int) 3 p s m args meth c (dC, dI) (TY cI cJ)) (hA : ∀ q, s.heap.size ≤ q → A q) {qa : Nat → Nat → Nat} {post : Int32 → (Nat → Mem) → MemL → Prop} : ∀ (x1 : Int32) (x2 : Int32) (C : (Nat → Mem)) (L : MemL) (H : Heap) (locs : List Loc) (ls : Array Slot), va_P (dC, dI) vwCl (wC cI cJ qa C L) H → va_D A (wC cI cJ qa C L) → va_S A s.heap H locs → lv_has ls 3 [(0, .ref (qa 0 0)), (1, .int x1), (2, .int x2)] → b_X9_live_0 post x1 x2 C L → W p l e ({ frames := 5, cells := 0, slots := 0, locals := 124 }) s m args below meth c H locs 0 0 (MQ below (va_Qi (S := (Nat → Mem) × MemL) (fun (r : Int32) (u : (Nat → Mem) × MemL) => post r u.1 u.2) (fun u t => AT (dC, dI) (TY cI cJ) A (wC cI cJ qa (u.1) (u.2)) t) A) args s 0 0 A) (F0 m 0 ls []) := by
  obtain ⟨hx, hb, hr, hml, hown, hts, hlocks, hK⟩ := id cx
  have cx' : CX RX9 cX9_live (meth.sig.returnType) 3 p s m args meth c (dC, dI) (TY cI cJ) := ⟨hx, hb, rfl, hml, hown, hts, hlocks, hK⟩
  intro x1 x2 C L H locs ls hP hD hS hl h
  unfold b_X9_live_0 at h
  refine lv_aload_n hx hb dX9_live_0 rfl (lv_at hl 0 rfl) ?_
  refine lv_iload_n hx hb dX9_live_1 rfl (lv_at hl 1 rfl) ?_
  refine call_i (run_V (As := [.int x1]) (rest := []) cx' (c_X9_isHouse l H.size qa C L x1 _ h) mv_X9_isHouse kw_403 rfl rfl ⟨Nat.le_of_ble_eq_true rfl, Nat.le_of_ble_eq_true rfl⟩ hP hD rfl rfl rfl hl.1 rfl (Nat.le_of_ble_eq_true rfl) dX9_live_2 ⟨Nat.zero_le _, Nat.zero_le _⟩) hD hS hA (fun r_1 u9 H locs hP hD hS h => ?_)
  have hP : va_P (dC, dI) vwCl (wC cI cJ qa C L) H := hP
  have hD : va_D A (wC cI cJ qa C L) := hD
  refine lv_if_eq (tgt := 15) hx hb dX9_live_5 (by decide) (fun c_2 => ?_) (fun c_2 => ?_)
  · have h := h.1 c_2
    refine lv_bipush (v := (-2)) hx hb dX9_live_15 (by decide) ?_
    exact rt_i (v := (-2)) (u := (C, L)) cx hP hD hS h dX9_live_17
  have h := h.2 c_2
  refine lv_iload_n hx hb dX9_live_8 rfl (lv_at hl 2 rfl) ?_
  refine callN_i (run_S (As := [.int x2]) (rest := []) (wc := []) cx' (c_X9_isBit l H.size x2 _ h) ms_X9_isBit kw_305 rfl rfl ⟨Nat.le_of_ble_eq_true rfl, Nat.le_of_ble_eq_true rfl⟩ nilP nilD (A := A) rfl hl.1 rfl (Nat.le_of_ble_eq_true rfl) dX9_live_9 ⟨Nat.zero_le _, Nat.zero_le _⟩) hP hS hA (fun r_3 H locs hP hS h => ?_)
  refine lv_if_ne (tgt := 18) hx hb dX9_live_12 (by decide) (fun c_4 => ?_) (fun c_4 => ?_)
  · have h := h.1 c_4
    refine lv_aload_n hx hb dX9_live_18 rfl (lv_at hl 0 rfl) ?_
    refine lv_iload_n hx hb dX9_live_19 rfl (lv_at hl 1 rfl) ?_
    refine call_v (run_V (As := [.int x1]) (rest := []) cx' (c_X9_planPlace l H.size qa C L x1 _ h) mv_X9_planPlace kw_455 rfl rfl ⟨Nat.le_of_ble_eq_true rfl, Nat.le_of_ble_eq_true rfl⟩ hP hD rfl rfl rfl hl.1 rfl (Nat.le_of_ble_eq_true rfl) dX9_live_20 ⟨Nat.zero_le _, Nat.zero_le _⟩) hD hS hA (fun u9 H locs hP hD hS h => ?_)
    obtain ⟨C_5, L_6⟩ := u9
    have hP : va_P (dC, dI) vwCl (wC cI cJ qa C_5 L_6) H := hP
    have hD : va_D A (wC cI cJ qa C_5 L_6) := hD
    refine lv_iload_n hx hb dX9_live_23 rfl (lv_at hl 2 rfl) ?_
    refine dia_i (ls := ls) (c0 := x2 = 0) (a := C_5 11 0 0) (b := C_5 11 0 1) (J := 44) (rest := []) (fun K => ?_) (fun v_8 ev_8 => ?_)
    · refine lv_if_ne (tgt := 37) hx hb dX9_live_24 (by decide) (fun c_7 => ?_) (fun c_7 => ?_)
      · refine lv_aload_n hx hb dX9_live_37 rfl (lv_at hl 0 rfl) ?_
        refine gf_v (k := 10) (v := .ref (qa 11 0)) cx' hP 0 i_X9 rfl rfl (by decide) kw_274 rfl rfl dX9_live_38 ?_
        refine gf_v (k := 1) (v := .int (C_5 11 0 1)) cx' hP 39 i_X3 rfl rfl (by decide) kw_255 rfl rfl dX9_live_41 ?_
        exact K _ (Or.inr ⟨c_7, rfl⟩)
      · refine lv_aload_n hx hb dX9_live_27 rfl (lv_at hl 0 rfl) ?_
        refine gf_v (k := 10) (v := .ref (qa 11 0)) cx' hP 0 i_X9 rfl rfl (by decide) kw_274 rfl rfl dX9_live_28 ?_
        refine gf_v (k := 0) (v := .int (C_5 11 0 0)) cx' hP 39 i_X3 rfl rfl (by decide) kw_253 rfl rfl dX9_live_31 ?_
        refine lv_goto (tgt := 44) hx hb dX9_live_34 (by decide) ?_
        exact K _ (Or.inl ⟨c_7, rfl⟩)
    have h := h v_8 ev_8
    exact rt_i (v := v_8) (u := (C_5, L_6)) cx hP hD hS h dX9_live_44
  have h := h.2 c_4
  refine lv_bipush (v := (-2)) hx hb dX9_live_15 (by decide) ?_
  exact rt_i (v := (-2)) (u := (C, L)) cx hP hD hS h dX9_live_17
set_option maxRecDepth 100000 in
theorem c_X9_live (l : Launch) {dC : Nat → ClassId} {dI : Nat → Nat → Nat} {cI cJ : ClassId} (sz : Nat) (qa : Nat → Nat → Nat) (C : Nat → Mem) (L : MemL) (x1 : Int32) (x2 : Int32) (post : Int32 → (Nat → Mem) → MemL → Prop) (h : wp_X9_live C L x1 x2 post) : Met l yX9_live (Cond.code yX9_live cX9_live 3 (some .int) :: gt) ({ frames := 5, cells := 0, slots := 0, locals := 124 }) (va_Pc [.ref (qa 0 0), .int x1, .int x2] (PRE (dC, dI) (TY cI cJ) (wC cI cJ qa C L) sz)) (va_Qi (S := (Nat → Mem) × MemL) (fun (r : Int32) (u : (Nat → Mem) × MemL) => post r u.1 u.2) (fun u t => AT (dC, dI) (TY cI cJ) (va_A (wC cI cJ qa C L) sz) (wC cI cJ qa (u.1) (u.2)) t) (va_A (wC cI cJ qa C L) sz)) 0 0 (va_A (wC cI cJ qa C L) sz) :=
  met_of (own := RX9) (Qf := fun A => va_Qi (S := (Nat → Mem) × MemL) (fun (r : Int32) (u : (Nat → Mem) × MemL) => post r u.1 u.2) (fun u t => AT (dC, dI) (TY cI cJ) A (wC cI cJ qa (u.1) (u.2)) t) A) (by decide) rfl (Nat.le_of_ble_eq_true rfl) rfl (fun p e s m below meth c A cx hA ls hP hD hS hl => w_X9_live_0 cx hA x1 x2 C L _ _ ls hP hD hS hl h)
theorem mv_X9_live : MV yX9_live cX9_live 3 (some .int) 2 := ⟨⟨kw_454, kw_1, by decide +kernel⟩, kw_452, kw_453⟩
