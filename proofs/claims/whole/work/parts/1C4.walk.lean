set_option maxHeartbeats 4000000 in
set_option maxRecDepth 100000 in
theorem w_X10_sleeping_4 {p : Program} {l : Launch} {e : Env} {s : State} {m : MethodId} {args : Array Value} {below : List Frame} {meth : Method} {c : Code} {dC : Nat → ClassId} {dI : Nat → Nat → Nat} {cI cJ : ClassId} {A : Nat → Prop} (cx : CX RX10 cX10_sleeping (some .int) 3 p s m args meth c (dC, dI) (TY cI cJ)) (hA : ∀ q, s.heap.size ≤ q → A q) {q0 : Nat → Nat} {m0 : Mem} {post : Int32 → Prop} : ∀ (n : Nat) (x1 : Int32) (x2 : Int32) (H : Heap) (locs : List Loc) (ls : Array Slot), va_P (dC, dI) vwCl (ww_X10 cI cJ q0 m0) H → va_D A (ww_X10 cI cJ q0 m0) → va_S A s.heap H locs → lv_has ls 3 [(0, .ref (q0 0)), (1, .int x1), (2, .int x2)] → b_X10_sleeping_4 m0 post n x1 x2 → W p l e ({ frames := 0, cells := 0, slots := 0, locals := 0 }) s m args below meth c H locs 0 0 (MQ below (va_Qi (S := Unit) (fun (r : Int32) (_u : Unit) => post r) (fun _u t => AT (dC, dI) (TY cI cJ) A (ww_X10 cI cJ q0 m0) t) A) args s 0 0 A) (F0 m 4 ls []) := by
  obtain ⟨hx, hb, hr, hml, hown, hts, hlocks, hK⟩ := id cx
  have cx' : CX RX10 cX10_sleeping (meth.sig.returnType) 3 p s m args meth c (dC, dI) (TY cI cJ) := ⟨hx, hb, rfl, hml, hown, hts, hlocks, hK⟩
  intro n
  induction n with
  | zero =>
    intro x1 x2 H locs ls hP hD hS hl h
    exact False.elim h
  | succ n ih =>
    intro x1 x2 H locs ls hP hD hS hl h
    unfold b_X10_sleeping_4 at h
    refine lv_iload_n hx hb dX10_sleeping_4 rfl (lv_at hl 2 rfl) ?_
    refine lv_aload_n hx hb dX10_sleeping_5 rfl (lv_at hl 0 rfl) ?_
    refine gf_v (k := 9) (v := .int (m0 0 9)) cx' hP 0 i_X10 rfl rfl (by decide) kw_724 rfl rfl dX10_sleeping_6 ?_
    refine lv_icmp_ge (tgt := 36) hx hb dX10_sleeping_9 (by decide) (fun c_1 => ?_) (fun c_1 => ?_)
    · have h := h.1 c_1
      refine lv_iload_n hx hb dX10_sleeping_36 rfl (lv_at hl 1 rfl) ?_
      exact rt_i (v := x1) (u := ()) cx hP hD hS h dX10_sleeping_37
    have h := h.2 c_1
    refine lv_iload_n hx hb dX10_sleeping_12 rfl (lv_at hl 1 rfl) ?_
    refine lv_aload_n hx hb dX10_sleeping_13 rfl (lv_at hl 0 rfl) ?_
    refine gf_v (k := 14) (v := .ref (q0 12)) cx' hP 0 i_X10 rfl rfl (by decide) kw_729 rfl rfl dX10_sleeping_14 ?_
    refine lv_iload_n hx hb dX10_sleeping_17 rfl (lv_at hl 2 rfl) ?_
    refine va_iald hx hb hK hP 12 0 rfl rfl h.1 dX10_sleeping_18 ?_
    have h := h.2
    refine lv_iconst (v := (-1)) hx hb dX10_sleeping_19 (by decide) ?_
    refine dia_i (ls := ls) (c0 := (m0 12 (Int32.toNatClampNeg x2)) = (-1)) (a := 0) (b := 1) (J := 28) (rest := [.int x1]) (fun K => ?_) (fun v_3 ev_3 => ?_)
    · refine lv_icmp_ne (tgt := 27) hx hb dX10_sleeping_20 (by decide) (fun c_2 => ?_) (fun c_2 => ?_)
      · refine lv_iconst (v := 1) hx hb dX10_sleeping_27 (by decide) ?_
        exact K _ (Or.inr ⟨c_2, rfl⟩)
      · refine lv_iconst (v := 0) hx hb dX10_sleeping_23 (by decide) ?_
        refine lv_goto (tgt := 28) hx hb dX10_sleeping_24 (by decide) ?_
        exact K _ (Or.inl ⟨c_2, rfl⟩)
    have h := h v_3 ev_3
    refine lv_iadd hx hb dX10_sleeping_28 ?_
    refine lv_topi (fun x1_4 ex1_4 => ?_)
    have h := h x1_4 ex1_4
    refine lv_istore_n (lv' := [(1, .int x1_4), (0, .ref (q0 0)), (2, .int x2)]) hx hb dX10_sleeping_29 rfl hl (by decide) rfl (fun ls hl => ?_)
    obtain ⟨x2_5, ex2_5⟩ : ∃ z : Int32, z = x2 + 1 := ⟨_, rfl⟩
    have h := h x2_5 ex2_5
    refine lv_iinc (v := x2_5) (lv' := [(2, .int x2_5), (1, .int x1_4), (0, .ref (q0 0))]) hx hb dX10_sleeping_30 hl (k := 2) rfl (by rw [ex2_5]; rfl) (by decide) rfl (fun ls hl => ?_)
    refine lv_goto (tgt := 4) hx hb dX10_sleeping_33 (by decide) ?_
    exact ih x1_4 x2_5 H locs ls hP hD hS (lv_sub hl [2, 1, 0] rfl) h
set_option maxHeartbeats 4000000 in
set_option maxRecDepth 100000 in
theorem w_X10_sleeping_0 {p : Program} {l : Launch} {e : Env} {s : State} {m : MethodId} {args : Array Value} {below : List Frame} {meth : Method} {c : Code} {dC : Nat → ClassId} {dI : Nat → Nat → Nat} {cI cJ : ClassId} {A : Nat → Prop} (cx : CX RX10 cX10_sleeping (some .int) 3 p s m args meth c (dC, dI) (TY cI cJ)) (hA : ∀ q, s.heap.size ≤ q → A q) {q0 : Nat → Nat} {m0 : Mem} {post : Int32 → Prop} : ∀  (H : Heap) (locs : List Loc) (ls : Array Slot), va_P (dC, dI) vwCl (ww_X10 cI cJ q0 m0) H → va_D A (ww_X10 cI cJ q0 m0) → va_S A s.heap H locs → lv_has ls 3 [(0, .ref (q0 0))] → b_X10_sleeping_0 m0 post  → W p l e ({ frames := 0, cells := 0, slots := 0, locals := 0 }) s m args below meth c H locs 0 0 (MQ below (va_Qi (S := Unit) (fun (r : Int32) (_u : Unit) => post r) (fun _u t => AT (dC, dI) (TY cI cJ) A (ww_X10 cI cJ q0 m0) t) A) args s 0 0 A) (F0 m 0 ls []) := by
  obtain ⟨hx, hb, hr, hml, hown, hts, hlocks, hK⟩ := id cx
  have cx' : CX RX10 cX10_sleeping (meth.sig.returnType) 3 p s m args meth c (dC, dI) (TY cI cJ) := ⟨hx, hb, rfl, hml, hown, hts, hlocks, hK⟩
  intro H locs ls hP hD hS hl h
  unfold b_X10_sleeping_0 at h
  refine lv_iconst (v := 0) hx hb dX10_sleeping_0 (by decide) ?_
  refine lv_istore_n (lv' := [(1, .int 0), (0, .ref (q0 0))]) hx hb dX10_sleeping_1 rfl hl (by decide) rfl (fun ls hl => ?_)
  refine lv_iconst (v := 0) hx hb dX10_sleeping_2 (by decide) ?_
  refine lv_istore_n (lv' := [(2, .int 0), (1, .int 0), (0, .ref (q0 0))]) hx hb dX10_sleeping_3 rfl hl (by decide) rfl (fun ls hl => ?_)
  obtain ⟨n_1, h⟩ := h
  exact w_X10_sleeping_4 cx hA n_1 0 0 H locs ls hP hD hS (lv_sub hl [2, 1, 0] rfl) h
set_option maxRecDepth 100000 in
theorem c_X10_sleeping (l : Launch) {dC : Nat → ClassId} {dI : Nat → Nat → Nat} {cI cJ : ClassId} (sz : Nat) (q0 : Nat → Nat) (m0 : Mem) (post : Int32 → Prop) (h : wp_X10_sleeping m0 post) : Met l yX10_sleeping (Cond.code yX10_sleeping cX10_sleeping 3 (some .int) :: gt) ({ frames := 0, cells := 0, slots := 0, locals := 0 }) (va_Pc [.ref (q0 0)] (PRE (dC, dI) (TY cI cJ) (ww_X10 cI cJ q0 m0) sz)) (va_Qi (S := Unit) (fun (r : Int32) (_u : Unit) => post r) (fun _u t => AT (dC, dI) (TY cI cJ) (va_A (ww_X10 cI cJ q0 m0) sz) (ww_X10 cI cJ q0 m0) t) (va_A (ww_X10 cI cJ q0 m0) sz)) 0 0 (va_A (ww_X10 cI cJ q0 m0) sz) :=
  met_of (own := RX10) (Qf := fun A => va_Qi (S := Unit) (fun (r : Int32) (_u : Unit) => post r) (fun _u t => AT (dC, dI) (TY cI cJ) A (ww_X10 cI cJ q0 m0) t) A) (by decide) rfl (Nat.le_of_ble_eq_true rfl) rfl (fun p e s m below meth c A cx hA ls hP hD hS hl => w_X10_sleeping_0 cx hA  _ _ ls hP hD hS hl h)
theorem mv_X10_sleeping : MV yX10_sleeping cX10_sleeping 3 (some .int) 0 := ⟨⟨kw_1105, kw_11, by decide +kernel⟩, kw_1104, ksel_53⟩
set_option maxHeartbeats 4000000 in
set_option maxRecDepth 100000 in
theorem w_X10_count_0 {p : Program} {l : Launch} {e : Env} {s : State} {m : MethodId} {args : Array Value} {below : List Frame} {meth : Method} {c : Code} {dC : Nat → ClassId} {dI : Nat → Nat → Nat} {cI cJ : ClassId} {A : Nat → Prop} (cx : CX RX10 cX10_count (some .int) 2 p s m args meth c (dC, dI) (TY cI cJ)) (hA : ∀ q, s.heap.size ≤ q → A q) {q0 : Nat → Nat} {post : Int32 → Mem → Prop} : ∀ (x1 : Int32) (m0 : Mem) (H : Heap) (locs : List Loc) (ls : Array Slot), va_P (dC, dI) vwCl (ww_X10 cI cJ q0 m0) H → va_D A (ww_X10 cI cJ q0 m0) → va_S A s.heap H locs → lv_has ls 2 [(0, .ref (q0 0)), (1, .int x1)] → b_X10_count_0 post x1 m0 → W p l e ({ frames := 6, cells := 0, slots := 0, locals := 132 }) s m args below meth c H locs 0 0 (MQ below (va_Qi (S := Mem) (fun (r : Int32) (u : Mem) => post r u) (fun u t => AT (dC, dI) (TY cI cJ) A (ww_X10 cI cJ q0 u) t) A) args s 0 0 A) (F0 m 0 ls []) := by
  obtain ⟨hx, hb, hr, hml, hown, hts, hlocks, hK⟩ := id cx
  have cx' : CX RX10 cX10_count (meth.sig.returnType) 2 p s m args meth c (dC, dI) (TY cI cJ) := ⟨hx, hb, rfl, hml, hown, hts, hlocks, hK⟩
  intro x1 m0 H locs ls hP hD hS hl h
  unfold b_X10_count_0 at h
  refine lv_aload_n hx hb dX10_count_0 rfl (lv_at hl 0 rfl) ?_
  refine call_v (run_V (As := []) (rest := []) cx' (c_X10_find l H.size q0 m0 _ h) mv_X10_find kw_906 rfl rfl ⟨Nat.le_of_ble_eq_true rfl, Nat.le_of_ble_eq_true rfl⟩ hP hD rfl rfl rfl hl.1 rfl (Nat.le_of_ble_eq_true rfl) dX10_count_1 ⟨Nat.zero_le _, Nat.zero_le _⟩) hD hS hA (fun u9 H locs hP hD hS h => ?_)
  obtain ⟨m0_1, rfl⟩ : ∃ z, z = u9 := ⟨_, rfl⟩
  have hP : va_P (dC, dI) vwCl (ww_X10 cI cJ q0 m0_1) H := hP
  have hD : va_D A (ww_X10 cI cJ q0 m0_1) := hD
  refine lv_iload_n hx hb dX10_count_4 rfl (lv_at hl 1 rfl) ?_
  by_cases c_2 : x1 = 0
  · have h := h.1 c_2
    refine lv_tableIn (off := 51) (tgt := 56) hx hb dX10_count_5 (by have e9 := c_2; (rw [e9]; decide)) (by have e9 := c_2; (rw [e9]; decide)) (by have e9 := c_2; (rw [e9]; rfl)) (by decide) ?_
    refine lv_aload_n hx hb dX10_count_56 rfl (lv_at hl 0 rfl) ?_
    refine gf_v (k := 7) (v := .int (m0_1 0 7)) cx' hP 0 i_X10 rfl rfl (by decide) kw_722 rfl rfl dX10_count_57 ?_
    exact rt_i (v := m0_1 0 7) (u := m0_1) cx hP hD hS h dX10_count_60
  have h := h.2 c_2
  by_cases c_3 : x1 = 1
  · have h := h.1 c_3
    refine lv_tableIn (off := 56) (tgt := 61) hx hb dX10_count_5 (by have e9 := c_3; (rw [e9]; decide)) (by have e9 := c_3; (rw [e9]; decide)) (by have e9 := c_3; (rw [e9]; rfl)) (by decide) ?_
    refine lv_aload_n hx hb dX10_count_61 rfl (lv_at hl 0 rfl) ?_
    refine gf_v (k := 9) (v := .int (m0_1 0 9)) cx' hP 0 i_X10 rfl rfl (by decide) kw_724 rfl rfl dX10_count_62 ?_
    exact rt_i (v := m0_1 0 9) (u := m0_1) cx hP hD hS h dX10_count_65
  have h := h.2 c_3
  by_cases c_4 : x1 = 2 ∨ x1 = 3
  · have h := h.1 c_4
    refine lv_tableIn (off := 61) (tgt := 66) hx hb dX10_count_5 (by rcases c_4 with e9 | e9 <;> (rw [e9]; decide)) (by rcases c_4 with e9 | e9 <;> (rw [e9]; decide)) (by rcases c_4 with e9 | e9 <;> (rw [e9]; rfl)) (by decide) ?_
    refine lv_aload_n hx hb dX10_count_66 rfl (lv_at hl 0 rfl) ?_
    refine gf_v (k := 6) (v := .ref (q0 6)) cx' hP 0 i_X10 rfl rfl (by decide) kw_721 rfl rfl dX10_count_67 ?_
    refine lv_iload_n hx hb dX10_count_70 rfl (lv_at hl 1 rfl) ?_
    refine lv_iconst (v := 2) hx hb dX10_count_71 (by decide) ?_
    refine lv_isub hx hb dX10_count_72 ?_
    refine va_iald hx hb hK hP 6 0 rfl rfl h.1 dX10_count_73 ?_
    have h := h.2
    exact rt_i (v := m0_1 6 (Int32.toNatClampNeg (x1 - 2))) (u := m0_1) cx hP hD hS h dX10_count_74
  have h := h.2 c_4
  by_cases c_5 : x1 = 4
  · have h := h.1 c_5
    refine lv_tableIn (off := 70) (tgt := 75) hx hb dX10_count_5 (by have e9 := c_5; (rw [e9]; decide)) (by have e9 := c_5; (rw [e9]; decide)) (by have e9 := c_5; (rw [e9]; rfl)) (by decide) ?_
    refine lv_aload_n hx hb dX10_count_75 rfl (lv_at hl 0 rfl) ?_
    refine call_i (run_V (As := []) (rest := []) cx' (c_X10_allGiven l H.size q0 m0_1 _ h) mv_X10_allGiven kw_1098 rfl rfl ⟨Nat.le_of_ble_eq_true rfl, Nat.le_of_ble_eq_true rfl⟩ hP hD rfl rfl rfl hl.1 rfl (Nat.le_of_ble_eq_true rfl) dX10_count_76 ⟨Nat.zero_le _, Nat.zero_le _⟩) hD hS hA (fun r_6 u9 H locs hP hD hS h => ?_)
    have hP : va_P (dC, dI) vwCl (ww_X10 cI cJ q0 m0_1) H := hP
    have hD : va_D A (ww_X10 cI cJ q0 m0_1) := hD
    exact rt_i (v := r_6) (u := m0_1) cx hP hD hS h dX10_count_79
  have h := h.2 c_5
  by_cases c_7 : x1 = 5
  · have h := h.1 c_7
    refine lv_tableIn (off := 75) (tgt := 80) hx hb dX10_count_5 (by have e9 := c_7; (rw [e9]; decide)) (by have e9 := c_7; (rw [e9]; decide)) (by have e9 := c_7; (rw [e9]; rfl)) (by decide) ?_
    refine lv_aload_n hx hb dX10_count_80 rfl (lv_at hl 0 rfl) ?_
    refine call_i (run_V (As := []) (rest := []) cx' (c_X10_sleeping l H.size q0 m0_1 _ h) mv_X10_sleeping kw_1102 rfl rfl ⟨Nat.le_of_ble_eq_true rfl, Nat.le_of_ble_eq_true rfl⟩ hP hD rfl rfl rfl hl.1 rfl (Nat.le_of_ble_eq_true rfl) dX10_count_81 ⟨Nat.zero_le _, Nat.zero_le _⟩) hD hS hA (fun r_8 u9 H locs hP hD hS h => ?_)
    have hP : va_P (dC, dI) vwCl (ww_X10 cI cJ q0 m0_1) H := hP
    have hD : va_D A (ww_X10 cI cJ q0 m0_1) := hD
    exact rt_i (v := r_8) (u := m0_1) cx hP hD hS h dX10_count_84
  have h := h.2 c_7
  by_cases c_9 : x1 = 6
  · have h := h.1 c_9
    refine lv_tableIn (off := 80) (tgt := 85) hx hb dX10_count_5 (by have e9 := c_9; (rw [e9]; decide)) (by have e9 := c_9; (rw [e9]; decide)) (by have e9 := c_9; (rw [e9]; rfl)) (by decide) ?_
    refine lv_aload_n hx hb dX10_count_85 rfl (lv_at hl 0 rfl) ?_
    refine gf_v (k := 11) (v := .ref (q0 9)) cx' hP 0 i_X10 rfl rfl (by decide) kw_726 rfl rfl dX10_count_86 ?_
    refine lv_iconst (v := 1) hx hb dX10_count_89 (by decide) ?_
    refine va_iald hx hb hK hP 9 0 rfl rfl h.1 dX10_count_90 ?_
    have h := h.2
    exact rt_i (v := m0_1 9 (Int32.toNatClampNeg 1)) (u := m0_1) cx hP hD hS h dX10_count_91
  have h := h.2 c_9
  by_cases c_10 : x1 = 7
  · have h := h.1 c_10
    refine lv_tableIn (off := 87) (tgt := 92) hx hb dX10_count_5 (by have e9 := c_10; (rw [e9]; decide)) (by have e9 := c_10; (rw [e9]; decide)) (by have e9 := c_10; (rw [e9]; rfl)) (by decide) ?_
    refine lv_aload_n hx hb dX10_count_92 rfl (lv_at hl 0 rfl) ?_
    refine gf_v (k := 21) (v := .int (m0_1 0 21)) cx' hP 0 i_X10 rfl rfl (by decide) kw_736 rfl rfl dX10_count_93 ?_
    exact rt_i (v := m0_1 0 21) (u := m0_1) cx hP hD hS h dX10_count_96
  have h := h.2 c_10
  by_cases c_11 : x1 = 8
  · have h := h.1 c_11
    refine lv_tableIn (off := 92) (tgt := 97) hx hb dX10_count_5 (by have e9 := c_11; (rw [e9]; decide)) (by have e9 := c_11; (rw [e9]; decide)) (by have e9 := c_11; (rw [e9]; rfl)) (by decide) ?_
    refine lv_aload_n hx hb dX10_count_97 rfl (lv_at hl 0 rfl) ?_
    refine gf_v (k := 4) (v := .int (m0_1 0 4)) cx' hP 0 i_X10 rfl rfl (by decide) kw_719 rfl rfl dX10_count_98 ?_
    exact rt_i (v := m0_1 0 4) (u := m0_1) cx hP hD hS h dX10_count_101
  have h := h.2 c_11
  refine tsw_def (tgt := 102) hx hb dX10_count_5 (fun j hj hle => ?_) (by decide) ?_
  · have hj9 : j = 0 ∨ j = 1 ∨ j = 2 ∨ j = 3 ∨ j = 4 ∨ j = 5 ∨ j = 6 ∨ j = 7 ∨ j = 8 := by omega
    rcases hj9 with rfl | rfl | rfl | rfl | rfl | rfl | rfl | rfl | rfl
    · exact absurd (have e9 : x1 = 0 := Int32.toInt_inj.mp (by rw [hj]; rfl); e9) c_2
    · exact absurd (have e9 : x1 = 1 := Int32.toInt_inj.mp (by rw [hj]; rfl); e9) c_3
    · exact absurd (have e9 : x1 = 2 := Int32.toInt_inj.mp (by rw [hj]; rfl); Or.inl e9) c_4
    · exact absurd (have e9 : x1 = 3 := Int32.toInt_inj.mp (by rw [hj]; rfl); Or.inr (e9)) c_4
    · exact absurd (have e9 : x1 = 4 := Int32.toInt_inj.mp (by rw [hj]; rfl); e9) c_5
    · exact absurd (have e9 : x1 = 5 := Int32.toInt_inj.mp (by rw [hj]; rfl); e9) c_7
    · exact absurd (have e9 : x1 = 6 := Int32.toInt_inj.mp (by rw [hj]; rfl); e9) c_9
    · exact absurd (have e9 : x1 = 7 := Int32.toInt_inj.mp (by rw [hj]; rfl); e9) c_10
    · exact absurd (have e9 : x1 = 8 := Int32.toInt_inj.mp (by rw [hj]; rfl); e9) c_11
  refine lv_bipush (v := (-2)) hx hb dX10_count_102 (by decide) ?_
  exact rt_i (v := (-2)) (u := m0_1) cx hP hD hS h dX10_count_104
set_option maxRecDepth 100000 in
theorem c_X10_count (l : Launch) {dC : Nat → ClassId} {dI : Nat → Nat → Nat} {cI cJ : ClassId} (sz : Nat) (q0 : Nat → Nat) (m0 : Mem) (x1 : Int32) (post : Int32 → Mem → Prop) (h : wp_X10_count m0 x1 post) : Met l yX10_count (Cond.code yX10_count cX10_count 2 (some .int) :: gt) ({ frames := 6, cells := 0, slots := 0, locals := 132 }) (va_Pc [.ref (q0 0), .int x1] (PRE (dC, dI) (TY cI cJ) (ww_X10 cI cJ q0 m0) sz)) (va_Qi (S := Mem) (fun (r : Int32) (u : Mem) => post r u) (fun u t => AT (dC, dI) (TY cI cJ) (va_A (ww_X10 cI cJ q0 m0) sz) (ww_X10 cI cJ q0 u) t) (va_A (ww_X10 cI cJ q0 m0) sz)) 0 0 (va_A (ww_X10 cI cJ q0 m0) sz) :=
  met_of (own := RX10) (Qf := fun A => va_Qi (S := Mem) (fun (r : Int32) (u : Mem) => post r u) (fun u t => AT (dC, dI) (TY cI cJ) A (ww_X10 cI cJ q0 u) t) A) (by decide) rfl (Nat.le_of_ble_eq_true rfl) rfl (fun p e s m below meth c A cx hA ls hP hD hS hl => w_X10_count_0 cx hA x1 m0 _ _ ls hP hD hS hl h)
theorem mv_X10_count : MV yX10_count cX10_count 2 (some .int) 1 := ⟨⟨kw_1097, kw_11, by decide +kernel⟩, kw_1095, kw_1096⟩
set_option maxHeartbeats 4000000 in
set_option maxRecDepth 100000 in
theorem w_X10_tellsHouse_6 {p : Program} {l : Launch} {e : Env} {s : State} {m : MethodId} {args : Array Value} {below : List Frame} {meth : Method} {c : Code} {dC : Nat → ClassId} {dI : Nat → Nat → Nat} {cI cJ : ClassId} {A : Nat → Prop} (cx : CX RX10 cX10_tellsHouse (some .long) 7 p s m args meth c (dC, dI) (TY cI cJ)) (hA : ∀ q, s.heap.size ≤ q → A q) {q0 : Nat → Nat} {post : Int64 → Mem → Prop} : ∀ (n : Nat) (x3 : Int32) (x4 : Int64) (x6 : Int32) (m0 : Mem) (H : Heap) (locs : List Loc) (ls : Array Slot), va_P (dC, dI) vwCl (ww_X10 cI cJ q0 m0) H → va_D A (ww_X10 cI cJ q0 m0) → va_S A s.heap H locs → lv_has ls 7 [(0, .ref (q0 0)), (3, .int x3), (4, .long x4), (6, .int x6)] → b_X10_tellsHouse_6 post n x3 x4 x6 m0 → W p l e ({ frames := 7, cells := 0, slots := 0, locals := 155 }) s m args below meth c H locs 0 0 (MQ below (va_Ql (S := Mem) (fun (r : Int64) (u : Mem) => post r u) (fun u t => AT (dC, dI) (TY cI cJ) A (ww_X10 cI cJ q0 u) t) A) args s 0 0 A) (F0 m 6 ls []) := by
  obtain ⟨hx, hb, hr, hml, hown, hts, hlocks, hK⟩ := id cx
  have cx' : CX RX10 cX10_tellsHouse (meth.sig.returnType) 7 p s m args meth c (dC, dI) (TY cI cJ) := ⟨hx, hb, rfl, hml, hown, hts, hlocks, hK⟩
  intro n
  induction n with
  | zero =>
    intro x3 x4 x6 m0 H locs ls hP hD hS hl h
    exact False.elim h
  | succ n ih =>
    intro x3 x4 x6 m0 H locs ls hP hD hS hl h
    unfold b_X10_tellsHouse_6 at h
    refine lv_iload hx hb dX10_tellsHouse_6 (lv_at hl 3 rfl) ?_
    refine lv_iconst (v := 3) hx hb dX10_tellsHouse_8 (by decide) ?_
    refine lv_icmp_ge (tgt := 39) hx hb dX10_tellsHouse_9 (by decide) (fun c_1 => ?_) (fun c_1 => ?_)
    · have h := h.1 c_1
      refine lv_ldc2 hx hb hown (hts _ kw_1111) dX10_tellsHouse_39 ?_
      refine lv_lload hx hb dX10_tellsHouse_42 (lv_at hl 2 rfl) ?_
      refine lv_lmul hx hb dX10_tellsHouse_44 ?_
      refine lv_aload_n hx hb dX10_tellsHouse_45 rfl (lv_at hl 0 rfl) ?_
      refine gf_v (k := 12) (v := .ref (q0 10)) cx' hP 0 i_X10 rfl rfl (by decide) kw_727 rfl rfl dX10_tellsHouse_46 ?_
      refine lv_iload_n hx hb dX10_tellsHouse_49 rfl (lv_at hl 1 rfl) ?_
      refine va_iald hx hb hK hP 10 0 rfl rfl h.1 dX10_tellsHouse_50 ?_
      have h := h.2
      refine lv_i2l (v := Int32.toInt64 (m0 10 (Int32.toNatClampNeg x3))) hx hb dX10_tellsHouse_51 rfl ?_
      refine lv_ladd hx hb dX10_tellsHouse_52 ?_
      refine lv_topl (fun x4_2 ex4_2 => ?_)
      have h := h x4_2 ex4_2
      refine lv_lstore (lv' := [(4, .long x4_2), (0, .ref (q0 0)), (3, .int x3), (6, .int x6)]) hx hb dX10_tellsHouse_53 hl (by decide) rfl (fun ls hl => ?_)
      refine lv_ldc2 hx hb hown (hts _ kw_1111) dX10_tellsHouse_55 ?_
      refine lv_lload hx hb dX10_tellsHouse_58 (lv_at hl 0 rfl) ?_
      refine lv_lmul hx hb dX10_tellsHouse_60 ?_
      refine lv_aload_n hx hb dX10_tellsHouse_61 rfl (lv_at hl 1 rfl) ?_
      refine lv_iload_n hx hb dX10_tellsHouse_62 rfl (lv_at hl 2 rfl) ?_
      refine lv_iconst (v := 0) hx hb dX10_tellsHouse_63 (by decide) ?_
      refine call_i (run_V (As := [.int x3, .int 0]) (rest := [.long (31 * x4_2)]) cx' (c_X10_allBy l H.size q0 m0 x3 0 _ h) mv_X10_allBy kw_942 rfl rfl ⟨Nat.le_of_ble_eq_true rfl, Nat.le_of_ble_eq_true rfl⟩ hP hD rfl rfl rfl hl.1 rfl (Nat.le_of_ble_eq_true rfl) dX10_tellsHouse_64 ⟨Nat.zero_le _, Nat.zero_le _⟩) hD hS hA (fun r_3 u9 H locs hP hD hS h => ?_)
      have hP : va_P (dC, dI) vwCl (ww_X10 cI cJ q0 m0) H := hP
      have hD : va_D A (ww_X10 cI cJ q0 m0) := hD
      refine lv_i2l (v := Int32.toInt64 r_3) hx hb dX10_tellsHouse_67 rfl ?_
      refine lv_ladd hx hb dX10_tellsHouse_68 ?_
      refine lv_topl (fun x4_4 ex4_4 => ?_)
      have h := h x4_4 ex4_4
      refine lv_lstore (lv' := [(4, .long x4_4), (0, .ref (q0 0)), (3, .int x3), (6, .int x6)]) hx hb dX10_tellsHouse_69 hl (by decide) rfl (fun ls hl => ?_)
      refine lv_ldc2 hx hb hown (hts _ kw_1111) dX10_tellsHouse_71 ?_
      refine lv_lload hx hb dX10_tellsHouse_74 (lv_at hl 0 rfl) ?_
      refine lv_lmul hx hb dX10_tellsHouse_76 ?_
      refine lv_aload_n hx hb dX10_tellsHouse_77 rfl (lv_at hl 1 rfl) ?_
      refine lv_iload_n hx hb dX10_tellsHouse_78 rfl (lv_at hl 2 rfl) ?_
      refine lv_iconst (v := 1) hx hb dX10_tellsHouse_79 (by decide) ?_
      refine call_i (run_V (As := [.int x3, .int 1]) (rest := [.long (31 * x4_4)]) cx' (c_X10_allBy l H.size q0 m0 x3 1 _ h) mv_X10_allBy kw_942 rfl rfl ⟨Nat.le_of_ble_eq_true rfl, Nat.le_of_ble_eq_true rfl⟩ hP hD rfl rfl rfl hl.1 rfl (Nat.le_of_ble_eq_true rfl) dX10_tellsHouse_80 ⟨Nat.zero_le _, Nat.zero_le _⟩) hD hS hA (fun r_5 u9 H locs hP hD hS h => ?_)
      have hP : va_P (dC, dI) vwCl (ww_X10 cI cJ q0 m0) H := hP
      have hD : va_D A (ww_X10 cI cJ q0 m0) := hD
      refine lv_i2l (v := Int32.toInt64 r_5) hx hb dX10_tellsHouse_83 rfl ?_
      refine lv_ladd hx hb dX10_tellsHouse_84 ?_
      refine lv_topl (fun x4_6 ex4_6 => ?_)
      have h := h x4_6 ex4_6
      refine lv_lstore (lv' := [(4, .long x4_6), (0, .ref (q0 0)), (3, .int x3), (6, .int x6)]) hx hb dX10_tellsHouse_85 hl (by decide) rfl (fun ls hl => ?_)
      refine lv_ldc2 hx hb hown (hts _ kw_1111) dX10_tellsHouse_87 ?_
      refine lv_lload hx hb dX10_tellsHouse_90 (lv_at hl 0 rfl) ?_
      refine lv_lmul hx hb dX10_tellsHouse_92 ?_
      refine lv_aload_n hx hb dX10_tellsHouse_93 rfl (lv_at hl 1 rfl) ?_
      refine lv_iload_n hx hb dX10_tellsHouse_94 rfl (lv_at hl 2 rfl) ?_
      refine call_i (run_V (As := [.int x3]) (rest := [.long (31 * x4_6)]) cx' (c_X10_priceOf l H.size q0 m0 x3 _ h) mv_X10_priceOf kw_950 rfl rfl ⟨Nat.le_of_ble_eq_true rfl, Nat.le_of_ble_eq_true rfl⟩ hP hD rfl rfl rfl hl.1 rfl (Nat.le_of_ble_eq_true rfl) dX10_tellsHouse_95 ⟨Nat.zero_le _, Nat.zero_le _⟩) hD hS hA (fun r_7 u9 H locs hP hD hS h => ?_)
      have hP : va_P (dC, dI) vwCl (ww_X10 cI cJ q0 m0) H := hP
      have hD : va_D A (ww_X10 cI cJ q0 m0) := hD
      refine lv_i2l (v := Int32.toInt64 r_7) hx hb dX10_tellsHouse_98 rfl ?_
      refine lv_ladd hx hb dX10_tellsHouse_99 ?_
      refine lv_topl (fun x4_8 ex4_8 => ?_)
      have h := h x4_8 ex4_8
      refine lv_lstore (lv' := [(4, .long x4_8), (0, .ref (q0 0)), (3, .int x3), (6, .int x6)]) hx hb dX10_tellsHouse_100 hl (by decide) rfl (fun ls hl => ?_)
      refine lv_ldc2 hx hb hown (hts _ kw_1111) dX10_tellsHouse_102 ?_
      refine lv_lload hx hb dX10_tellsHouse_105 (lv_at hl 0 rfl) ?_
      refine lv_lmul hx hb dX10_tellsHouse_107 ?_
      refine lv_aload_n hx hb dX10_tellsHouse_108 rfl (lv_at hl 1 rfl) ?_
      refine lv_iload_n hx hb dX10_tellsHouse_109 rfl (lv_at hl 2 rfl) ?_
      refine lv_iconst (v := 0) hx hb dX10_tellsHouse_110 (by decide) ?_
      refine call_i (run_V (As := [.int x3, .int 0]) (rest := [.long (31 * x4_8)]) cx' (c_X10_liveOf l H.size q0 m0 x3 0 _ h) mv_X10_liveOf kw_974 rfl rfl ⟨Nat.le_of_ble_eq_true rfl, Nat.le_of_ble_eq_true rfl⟩ hP hD rfl rfl rfl hl.1 rfl (Nat.le_of_ble_eq_true rfl) dX10_tellsHouse_111 ⟨Nat.zero_le _, Nat.zero_le _⟩) hD hS hA (fun r_9 u9 H locs hP hD hS h => ?_)
      obtain ⟨m0_10, rfl⟩ : ∃ z, z = u9 := ⟨_, rfl⟩
      have hP : va_P (dC, dI) vwCl (ww_X10 cI cJ q0 m0_10) H := hP
      have hD : va_D A (ww_X10 cI cJ q0 m0_10) := hD
      refine lv_i2l (v := Int32.toInt64 r_9) hx hb dX10_tellsHouse_114 rfl ?_
      refine lv_ladd hx hb dX10_tellsHouse_115 ?_
      refine lv_topl (fun x4_11 ex4_11 => ?_)
      have h := h x4_11 ex4_11
      refine lv_lstore (lv' := [(4, .long x4_11), (0, .ref (q0 0)), (3, .int x3), (6, .int x6)]) hx hb dX10_tellsHouse_116 hl (by decide) rfl (fun ls hl => ?_)
      refine lv_ldc2 hx hb hown (hts _ kw_1111) dX10_tellsHouse_118 ?_
      refine lv_lload hx hb dX10_tellsHouse_121 (lv_at hl 0 rfl) ?_
      refine lv_lmul hx hb dX10_tellsHouse_123 ?_
      refine lv_aload_n hx hb dX10_tellsHouse_124 rfl (lv_at hl 1 rfl) ?_
      refine lv_iload_n hx hb dX10_tellsHouse_125 rfl (lv_at hl 2 rfl) ?_
      refine lv_iconst (v := 1) hx hb dX10_tellsHouse_126 (by decide) ?_
      refine call_i (run_V (As := [.int x3, .int 1]) (rest := [.long (31 * x4_11)]) cx' (c_X10_liveOf l H.size q0 m0_10 x3 1 _ h) mv_X10_liveOf kw_974 rfl rfl ⟨Nat.le_of_ble_eq_true rfl, Nat.le_of_ble_eq_true rfl⟩ hP hD rfl rfl rfl hl.1 rfl (Nat.le_of_ble_eq_true rfl) dX10_tellsHouse_127 ⟨Nat.zero_le _, Nat.zero_le _⟩) hD hS hA (fun r_12 u9 H locs hP hD hS h => ?_)
      obtain ⟨m0_13, rfl⟩ : ∃ z, z = u9 := ⟨_, rfl⟩
      have hP : va_P (dC, dI) vwCl (ww_X10 cI cJ q0 m0_13) H := hP
      have hD : va_D A (ww_X10 cI cJ q0 m0_13) := hD
      refine lv_i2l (v := Int32.toInt64 r_12) hx hb dX10_tellsHouse_130 rfl ?_
      refine lv_ladd hx hb dX10_tellsHouse_131 ?_
      refine lv_topl (fun x4_14 ex4_14 => ?_)
      have h := h x4_14 ex4_14
      refine lv_lstore (lv' := [(4, .long x4_14), (0, .ref (q0 0)), (3, .int x3), (6, .int x6)]) hx hb dX10_tellsHouse_132 hl (by decide) rfl (fun ls hl => ?_)
      refine lv_ldc2 hx hb hown (hts _ kw_1111) dX10_tellsHouse_134 ?_
      refine lv_lload hx hb dX10_tellsHouse_137 (lv_at hl 0 rfl) ?_
      refine lv_lmul hx hb dX10_tellsHouse_139 ?_
      refine lv_aload_n hx hb dX10_tellsHouse_140 rfl (lv_at hl 1 rfl) ?_
      refine lv_iload_n hx hb dX10_tellsHouse_141 rfl (lv_at hl 2 rfl) ?_
      refine lv_iconst (v := 0) hx hb dX10_tellsHouse_142 (by decide) ?_
      refine call_i (run_V (As := [.int x3, .int 0]) (rest := [.long (31 * x4_14)]) cx' (c_X10_cookOf l H.size q0 m0_13 x3 0 _ h) mv_X10_cookOf kw_990 rfl rfl ⟨Nat.le_of_ble_eq_true rfl, Nat.le_of_ble_eq_true rfl⟩ hP hD rfl rfl rfl hl.1 rfl (Nat.le_of_ble_eq_true rfl) dX10_tellsHouse_143 ⟨Nat.zero_le _, Nat.zero_le _⟩) hD hS hA (fun r_15 u9 H locs hP hD hS h => ?_)
      obtain ⟨m0_16, rfl⟩ : ∃ z, z = u9 := ⟨_, rfl⟩
      have hP : va_P (dC, dI) vwCl (ww_X10 cI cJ q0 m0_16) H := hP
      have hD : va_D A (ww_X10 cI cJ q0 m0_16) := hD
      refine lv_i2l (v := Int32.toInt64 r_15) hx hb dX10_tellsHouse_146 rfl ?_
      refine lv_ladd hx hb dX10_tellsHouse_147 ?_
      refine lv_topl (fun x4_17 ex4_17 => ?_)
      have h := h x4_17 ex4_17
      refine lv_lstore (lv' := [(4, .long x4_17), (0, .ref (q0 0)), (3, .int x3), (6, .int x6)]) hx hb dX10_tellsHouse_148 hl (by decide) rfl (fun ls hl => ?_)
      refine lv_ldc2 hx hb hown (hts _ kw_1111) dX10_tellsHouse_150 ?_
      refine lv_lload hx hb dX10_tellsHouse_153 (lv_at hl 0 rfl) ?_
      refine lv_lmul hx hb dX10_tellsHouse_155 ?_
      refine lv_aload_n hx hb dX10_tellsHouse_156 rfl (lv_at hl 1 rfl) ?_
      refine lv_iload_n hx hb dX10_tellsHouse_157 rfl (lv_at hl 2 rfl) ?_
      refine lv_iconst (v := 1) hx hb dX10_tellsHouse_158 (by decide) ?_
      refine call_i (run_V (As := [.int x3, .int 1]) (rest := [.long (31 * x4_17)]) cx' (c_X10_cookOf l H.size q0 m0_16 x3 1 _ h) mv_X10_cookOf kw_990 rfl rfl ⟨Nat.le_of_ble_eq_true rfl, Nat.le_of_ble_eq_true rfl⟩ hP hD rfl rfl rfl hl.1 rfl (Nat.le_of_ble_eq_true rfl) dX10_tellsHouse_159 ⟨Nat.zero_le _, Nat.zero_le _⟩) hD hS hA (fun r_18 u9 H locs hP hD hS h => ?_)
      obtain ⟨m0_19, rfl⟩ : ∃ z, z = u9 := ⟨_, rfl⟩
      have hP : va_P (dC, dI) vwCl (ww_X10 cI cJ q0 m0_19) H := hP
      have hD : va_D A (ww_X10 cI cJ q0 m0_19) := hD
      refine lv_i2l (v := Int32.toInt64 r_18) hx hb dX10_tellsHouse_162 rfl ?_
      refine lv_ladd hx hb dX10_tellsHouse_163 ?_
      refine lv_topl (fun x4_20 ex4_20 => ?_)
      have h := h x4_20 ex4_20
      refine lv_lstore (lv' := [(4, .long x4_20), (0, .ref (q0 0)), (3, .int x3), (6, .int x6)]) hx hb dX10_tellsHouse_164 hl (by decide) rfl (fun ls hl => ?_)
      refine lv_ldc2 hx hb hown (hts _ kw_1111) dX10_tellsHouse_166 ?_
      refine lv_lload hx hb dX10_tellsHouse_169 (lv_at hl 0 rfl) ?_
      refine lv_lmul hx hb dX10_tellsHouse_171 ?_
      refine lv_aload_n hx hb dX10_tellsHouse_172 rfl (lv_at hl 1 rfl) ?_
      refine lv_iload_n hx hb dX10_tellsHouse_173 rfl (lv_at hl 2 rfl) ?_
      refine lv_iconst (v := 0) hx hb dX10_tellsHouse_174 (by decide) ?_
      refine lv_iconst (v := 0) hx hb dX10_tellsHouse_175 (by decide) ?_
      refine call_i (run_V (As := [.int x3, .int 0, .int 0]) (rest := [.long (31 * x4_20)]) cx' (c_X10_fast l H.size q0 m0_19 x3 0 0 _ h) mv_X10_fast kw_1117 rfl rfl ⟨Nat.le_of_ble_eq_true rfl, Nat.le_of_ble_eq_true rfl⟩ hP hD rfl rfl rfl hl.1 rfl (Nat.le_of_ble_eq_true rfl) dX10_tellsHouse_176 ⟨Nat.zero_le _, Nat.zero_le _⟩) hD hS hA (fun r_21 u9 H locs hP hD hS h => ?_)
      obtain ⟨m0_22, rfl⟩ : ∃ z, z = u9 := ⟨_, rfl⟩
      have hP : va_P (dC, dI) vwCl (ww_X10 cI cJ q0 m0_22) H := hP
      have hD : va_D A (ww_X10 cI cJ q0 m0_22) := hD
      refine lv_i2l (v := Int32.toInt64 r_21) hx hb dX10_tellsHouse_179 rfl ?_
      refine lv_ladd hx hb dX10_tellsHouse_180 ?_
      refine lv_topl (fun x4_23 ex4_23 => ?_)
      have h := h x4_23 ex4_23
      refine lv_lstore (lv' := [(4, .long x4_23), (0, .ref (q0 0)), (3, .int x3), (6, .int x6)]) hx hb dX10_tellsHouse_181 hl (by decide) rfl (fun ls hl => ?_)
      refine lv_ldc2 hx hb hown (hts _ kw_1111) dX10_tellsHouse_183 ?_
      refine lv_lload hx hb dX10_tellsHouse_186 (lv_at hl 0 rfl) ?_
      refine lv_lmul hx hb dX10_tellsHouse_188 ?_
      refine lv_aload_n hx hb dX10_tellsHouse_189 rfl (lv_at hl 1 rfl) ?_
      refine lv_iload_n hx hb dX10_tellsHouse_190 rfl (lv_at hl 2 rfl) ?_
      refine lv_iconst (v := 0) hx hb dX10_tellsHouse_191 (by decide) ?_
      refine lv_iconst (v := 1) hx hb dX10_tellsHouse_192 (by decide) ?_
      refine call_i (run_V (As := [.int x3, .int 0, .int 1]) (rest := [.long (31 * x4_23)]) cx' (c_X10_fast l H.size q0 m0_22 x3 0 1 _ h) mv_X10_fast kw_1117 rfl rfl ⟨Nat.le_of_ble_eq_true rfl, Nat.le_of_ble_eq_true rfl⟩ hP hD rfl rfl rfl hl.1 rfl (Nat.le_of_ble_eq_true rfl) dX10_tellsHouse_193 ⟨Nat.zero_le _, Nat.zero_le _⟩) hD hS hA (fun r_24 u9 H locs hP hD hS h => ?_)
      obtain ⟨m0_25, rfl⟩ : ∃ z, z = u9 := ⟨_, rfl⟩
      have hP : va_P (dC, dI) vwCl (ww_X10 cI cJ q0 m0_25) H := hP
      have hD : va_D A (ww_X10 cI cJ q0 m0_25) := hD
      refine lv_i2l (v := Int32.toInt64 r_24) hx hb dX10_tellsHouse_196 rfl ?_
      refine lv_ladd hx hb dX10_tellsHouse_197 ?_
      refine lv_topl (fun x4_26 ex4_26 => ?_)
      have h := h x4_26 ex4_26
      refine lv_lstore (lv' := [(4, .long x4_26), (0, .ref (q0 0)), (3, .int x3), (6, .int x6)]) hx hb dX10_tellsHouse_198 hl (by decide) rfl (fun ls hl => ?_)
      refine lv_ldc2 hx hb hown (hts _ kw_1111) dX10_tellsHouse_200 ?_
      refine lv_lload hx hb dX10_tellsHouse_203 (lv_at hl 0 rfl) ?_
      refine lv_lmul hx hb dX10_tellsHouse_205 ?_
      refine lv_aload_n hx hb dX10_tellsHouse_206 rfl (lv_at hl 1 rfl) ?_
      refine lv_iload_n hx hb dX10_tellsHouse_207 rfl (lv_at hl 2 rfl) ?_
      refine lv_iconst (v := 0) hx hb dX10_tellsHouse_208 (by decide) ?_
      refine call_i (run_V (As := [.int x3, .int 0]) (rest := [.long (31 * x4_26)]) cx' (c_X10_soup l H.size q0 m0_25 x3 0 _ h) mv_X10_soup kw_1118 rfl rfl ⟨Nat.le_of_ble_eq_true rfl, Nat.le_of_ble_eq_true rfl⟩ hP hD rfl rfl rfl hl.1 rfl (Nat.le_of_ble_eq_true rfl) dX10_tellsHouse_209 ⟨Nat.zero_le _, Nat.zero_le _⟩) hD hS hA (fun r_27 u9 H locs hP hD hS h => ?_)
      obtain ⟨m0_28, rfl⟩ : ∃ z, z = u9 := ⟨_, rfl⟩
      have hP : va_P (dC, dI) vwCl (ww_X10 cI cJ q0 m0_28) H := hP
      have hD : va_D A (ww_X10 cI cJ q0 m0_28) := hD
      refine lv_i2l (v := Int32.toInt64 r_27) hx hb dX10_tellsHouse_212 rfl ?_
      refine lv_ladd hx hb dX10_tellsHouse_213 ?_
      refine lv_topl (fun x4_29 ex4_29 => ?_)
      have h := h x4_29 ex4_29
      refine lv_lstore (lv' := [(4, .long x4_29), (0, .ref (q0 0)), (3, .int x3), (6, .int x6)]) hx hb dX10_tellsHouse_214 hl (by decide) rfl (fun ls hl => ?_)
      refine lv_ldc2 hx hb hown (hts _ kw_1111) dX10_tellsHouse_216 ?_
      refine lv_lload hx hb dX10_tellsHouse_219 (lv_at hl 0 rfl) ?_
      refine lv_lmul hx hb dX10_tellsHouse_221 ?_
      refine lv_aload_n hx hb dX10_tellsHouse_222 rfl (lv_at hl 1 rfl) ?_
      refine lv_iconst (v := 5) hx hb dX10_tellsHouse_223 (by decide) ?_
      refine lv_iload_n hx hb dX10_tellsHouse_224 rfl (lv_at hl 2 rfl) ?_
      refine lv_bipush (v := 9) hx hb dX10_tellsHouse_225 (by decide) ?_
      refine lv_iconst (v := 0) hx hb dX10_tellsHouse_227 (by decide) ?_
      refine call_l (run_V (As := [.int 5, .int x3, .int 9, .int 0]) (rest := [.long (31 * x4_29)]) cx' (c_X10_roadOf l H.size q0 m0_28 5 x3 9 0 _ h) mv_X10_roadOf kw_1065 rfl rfl ⟨Nat.le_of_ble_eq_true rfl, Nat.le_of_ble_eq_true rfl⟩ hP hD rfl rfl rfl hl.1 rfl (Nat.le_of_ble_eq_true rfl) dX10_tellsHouse_228 ⟨Nat.zero_le _, Nat.zero_le _⟩) hD hS hA (fun r_30 u9 H locs hP hD hS h => ?_)
      have hP : va_P (dC, dI) vwCl (ww_X10 cI cJ q0 m0_28) H := hP
      have hD : va_D A (ww_X10 cI cJ q0 m0_28) := hD
      refine lv_ladd hx hb dX10_tellsHouse_231 ?_
      refine lv_topl (fun x4_31 ex4_31 => ?_)
      have h := h x4_31 ex4_31
      refine lv_lstore (lv' := [(4, .long x4_31), (0, .ref (q0 0)), (3, .int x3), (6, .int x6)]) hx hb dX10_tellsHouse_232 hl (by decide) rfl (fun ls hl => ?_)
      refine lv_ldc2 hx hb hown (hts _ kw_1111) dX10_tellsHouse_234 ?_
      refine lv_lload hx hb dX10_tellsHouse_237 (lv_at hl 0 rfl) ?_
      refine lv_lmul hx hb dX10_tellsHouse_239 ?_
      refine lv_aload_n hx hb dX10_tellsHouse_240 rfl (lv_at hl 1 rfl) ?_
      refine lv_iconst (v := 5) hx hb dX10_tellsHouse_241 (by decide) ?_
      refine lv_iload_n hx hb dX10_tellsHouse_242 rfl (lv_at hl 2 rfl) ?_
      refine lv_bipush (v := 9) hx hb dX10_tellsHouse_243 (by decide) ?_
      refine lv_iconst (v := 1) hx hb dX10_tellsHouse_245 (by decide) ?_
      refine call_l (run_V (As := [.int 5, .int x3, .int 9, .int 1]) (rest := [.long (31 * x4_31)]) cx' (c_X10_roadOf l H.size q0 m0_28 5 x3 9 1 _ h) mv_X10_roadOf kw_1065 rfl rfl ⟨Nat.le_of_ble_eq_true rfl, Nat.le_of_ble_eq_true rfl⟩ hP hD rfl rfl rfl hl.1 rfl (Nat.le_of_ble_eq_true rfl) dX10_tellsHouse_246 ⟨Nat.zero_le _, Nat.zero_le _⟩) hD hS hA (fun r_32 u9 H locs hP hD hS h => ?_)
      have hP : va_P (dC, dI) vwCl (ww_X10 cI cJ q0 m0_28) H := hP
      have hD : va_D A (ww_X10 cI cJ q0 m0_28) := hD
      refine lv_ladd hx hb dX10_tellsHouse_249 ?_
      refine lv_topl (fun x4_33 ex4_33 => ?_)
      have h := h x4_33 ex4_33
      refine lv_lstore (lv' := [(4, .long x4_33), (0, .ref (q0 0)), (3, .int x3), (6, .int x6)]) hx hb dX10_tellsHouse_250 hl (by decide) rfl (fun ls hl => ?_)
      refine lv_ldc2 hx hb hown (hts _ kw_1111) dX10_tellsHouse_252 ?_
      refine lv_lload hx hb dX10_tellsHouse_255 (lv_at hl 0 rfl) ?_
      refine lv_lmul hx hb dX10_tellsHouse_257 ?_
      refine lv_aload_n hx hb dX10_tellsHouse_258 rfl (lv_at hl 1 rfl) ?_
      refine lv_bipush (v := 7) hx hb dX10_tellsHouse_259 (by decide) ?_
      refine lv_bipush (v := 30) hx hb dX10_tellsHouse_261 (by decide) ?_
      refine lv_iload_n hx hb dX10_tellsHouse_263 rfl (lv_at hl 2 rfl) ?_
      refine lv_iconst (v := 0) hx hb dX10_tellsHouse_264 (by decide) ?_
      refine call_i (run_V (As := [.int 7, .int 30, .int x3, .int 0]) (rest := [.long (31 * x4_33)]) cx' (c_X10_seasonOf l H.size q0 m0_28 7 30 x3 0 _ h) mv_X10_seasonOf kw_1081 rfl rfl ⟨Nat.le_of_ble_eq_true rfl, Nat.le_of_ble_eq_true rfl⟩ hP hD rfl rfl rfl hl.1 rfl (Nat.le_of_ble_eq_true rfl) dX10_tellsHouse_265 ⟨Nat.zero_le _, Nat.zero_le _⟩) hD hS hA (fun r_34 u9 H locs hP hD hS h => ?_)
      obtain ⟨m0_35, rfl⟩ : ∃ z, z = u9 := ⟨_, rfl⟩
      have hP : va_P (dC, dI) vwCl (ww_X10 cI cJ q0 m0_35) H := hP
      have hD : va_D A (ww_X10 cI cJ q0 m0_35) := hD
      refine lv_i2l (v := Int32.toInt64 r_34) hx hb dX10_tellsHouse_268 rfl ?_
      refine lv_ladd hx hb dX10_tellsHouse_269 ?_
      refine lv_topl (fun x4_36 ex4_36 => ?_)
      have h := h x4_36 ex4_36
      refine lv_lstore (lv' := [(4, .long x4_36), (0, .ref (q0 0)), (3, .int x3), (6, .int x6)]) hx hb dX10_tellsHouse_270 hl (by decide) rfl (fun ls hl => ?_)
      refine lv_ldc2 hx hb hown (hts _ kw_1111) dX10_tellsHouse_272 ?_
      refine lv_lload hx hb dX10_tellsHouse_275 (lv_at hl 0 rfl) ?_
      refine lv_lmul hx hb dX10_tellsHouse_277 ?_
      refine lv_aload_n hx hb dX10_tellsHouse_278 rfl (lv_at hl 1 rfl) ?_
      refine lv_bipush (v := 7) hx hb dX10_tellsHouse_279 (by decide) ?_
      refine lv_bipush (v := 30) hx hb dX10_tellsHouse_281 (by decide) ?_
      refine lv_iload_n hx hb dX10_tellsHouse_283 rfl (lv_at hl 2 rfl) ?_
      refine lv_iconst (v := 1) hx hb dX10_tellsHouse_284 (by decide) ?_
      refine call_i (run_V (As := [.int 7, .int 30, .int x3, .int 1]) (rest := [.long (31 * x4_36)]) cx' (c_X10_seasonOf l H.size q0 m0_35 7 30 x3 1 _ h) mv_X10_seasonOf kw_1081 rfl rfl ⟨Nat.le_of_ble_eq_true rfl, Nat.le_of_ble_eq_true rfl⟩ hP hD rfl rfl rfl hl.1 rfl (Nat.le_of_ble_eq_true rfl) dX10_tellsHouse_285 ⟨Nat.zero_le _, Nat.zero_le _⟩) hD hS hA (fun r_37 u9 H locs hP hD hS h => ?_)
      obtain ⟨m0_38, rfl⟩ : ∃ z, z = u9 := ⟨_, rfl⟩
      have hP : va_P (dC, dI) vwCl (ww_X10 cI cJ q0 m0_38) H := hP
      have hD : va_D A (ww_X10 cI cJ q0 m0_38) := hD
      refine lv_i2l (v := Int32.toInt64 r_37) hx hb dX10_tellsHouse_288 rfl ?_
      refine lv_ladd hx hb dX10_tellsHouse_289 ?_
      exact rt_l (v := (31 * x4_36) + (Int32.toInt64 r_37)) (u := m0_38) cx hP hD hS h dX10_tellsHouse_290
    have h := h.2 c_1
    refine lv_ldc2 hx hb hown (hts _ kw_1111) dX10_tellsHouse_12 ?_
    refine lv_lload hx hb dX10_tellsHouse_15 (lv_at hl 2 rfl) ?_
    refine lv_lmul hx hb dX10_tellsHouse_17 ?_
    refine lv_aload_n hx hb dX10_tellsHouse_18 rfl (lv_at hl 0 rfl) ?_
    refine gf_v (k := 8) (v := .ref (q0 7)) cx' hP 0 i_X10 rfl rfl (by decide) kw_723 rfl rfl dX10_tellsHouse_19 ?_
    refine lv_iconst (v := 3) hx hb dX10_tellsHouse_22 (by decide) ?_
    refine lv_iload_n hx hb dX10_tellsHouse_23 rfl (lv_at hl 1 rfl) ?_
    refine lv_imul hx hb dX10_tellsHouse_24 ?_
    refine lv_iload hx hb dX10_tellsHouse_25 (lv_at hl 3 rfl) ?_
    refine lv_iadd hx hb dX10_tellsHouse_27 ?_
    refine va_iald hx hb hK hP 7 0 rfl rfl h.1 dX10_tellsHouse_28 ?_
    have h := h.2
    refine lv_i2l (v := Int32.toInt64 (m0 7 (Int32.toNatClampNeg ((3 * x3) + x6)))) hx hb dX10_tellsHouse_29 rfl ?_
    refine lv_ladd hx hb dX10_tellsHouse_30 ?_
    refine lv_topl (fun x4_39 ex4_39 => ?_)
    have h := h x4_39 ex4_39
    refine lv_lstore (lv' := [(4, .long x4_39), (0, .ref (q0 0)), (3, .int x3), (6, .int x6)]) hx hb dX10_tellsHouse_31 hl (by decide) rfl (fun ls hl => ?_)
    obtain ⟨x6_40, ex6_40⟩ : ∃ z : Int32, z = x6 + 1 := ⟨_, rfl⟩
    have h := h x6_40 ex6_40
    refine lv_iinc (v := x6_40) (lv' := [(6, .int x6_40), (4, .long x4_39), (0, .ref (q0 0)), (3, .int x3)]) hx hb dX10_tellsHouse_33 hl (k := 3) rfl (by rw [ex6_40]; rfl) (by decide) rfl (fun ls hl => ?_)
    refine lv_goto (tgt := 6) hx hb dX10_tellsHouse_36 (by decide) ?_
    exact ih x3 x4_39 x6_40 m0 H locs ls hP hD hS (lv_sub hl [2, 3, 1, 0] rfl) h
set_option maxHeartbeats 4000000 in
set_option maxRecDepth 100000 in
theorem w_X10_tellsHouse_0 {p : Program} {l : Launch} {e : Env} {s : State} {m : MethodId} {args : Array Value} {below : List Frame} {meth : Method} {c : Code} {dC : Nat → ClassId} {dI : Nat → Nat → Nat} {cI cJ : ClassId} {A : Nat → Prop} (cx : CX RX10 cX10_tellsHouse (some .long) 7 p s m args meth c (dC, dI) (TY cI cJ)) (hA : ∀ q, s.heap.size ≤ q → A q) {q0 : Nat → Nat} {post : Int64 → Mem → Prop} : ∀ (x1 : Int64) (x3 : Int32) (m0 : Mem) (H : Heap) (locs : List Loc) (ls : Array Slot), va_P (dC, dI) vwCl (ww_X10 cI cJ q0 m0) H → va_D A (ww_X10 cI cJ q0 m0) → va_S A s.heap H locs → lv_has ls 7 [(0, .ref (q0 0)), (1, .long x1), (3, .int x3)] → b_X10_tellsHouse_0 post x1 x3 m0 → W p l e ({ frames := 7, cells := 0, slots := 0, locals := 155 }) s m args below meth c H locs 0 0 (MQ below (va_Ql (S := Mem) (fun (r : Int64) (u : Mem) => post r u) (fun u t => AT (dC, dI) (TY cI cJ) A (ww_X10 cI cJ q0 u) t) A) args s 0 0 A) (F0 m 0 ls []) := by
  obtain ⟨hx, hb, hr, hml, hown, hts, hlocks, hK⟩ := id cx
  have cx' : CX RX10 cX10_tellsHouse (meth.sig.returnType) 7 p s m args meth c (dC, dI) (TY cI cJ) := ⟨hx, hb, rfl, hml, hown, hts, hlocks, hK⟩
  intro x1 x3 m0 H locs ls hP hD hS hl h
  unfold b_X10_tellsHouse_0 at h
  refine lv_lload_n hx hb dX10_tellsHouse_0 rfl (lv_at hl 1 rfl) ?_
  refine lv_lstore (lv' := [(4, .long x1), (0, .ref (q0 0)), (1, .long x1), (3, .int x3)]) hx hb dX10_tellsHouse_1 hl (by decide) rfl (fun ls hl => ?_)
  refine lv_iconst (v := 0) hx hb dX10_tellsHouse_3 (by decide) ?_
  refine lv_istore (lv' := [(6, .int 0), (4, .long x1), (0, .ref (q0 0)), (1, .long x1), (3, .int x3)]) hx hb dX10_tellsHouse_4 hl (by decide) rfl (fun ls hl => ?_)
  obtain ⟨n_1, h⟩ := h
  exact w_X10_tellsHouse_6 cx hA n_1 x3 x1 0 m0 H locs ls hP hD hS (lv_sub hl [2, 4, 1, 0] rfl) h
set_option maxRecDepth 100000 in
theorem c_X10_tellsHouse (l : Launch) {dC : Nat → ClassId} {dI : Nat → Nat → Nat} {cI cJ : ClassId} (sz : Nat) (q0 : Nat → Nat) (m0 : Mem) (x1 : Int64) (x3 : Int32) (post : Int64 → Mem → Prop) (h : wp_X10_tellsHouse m0 x1 x3 post) : Met l yX10_tellsHouse (Cond.code yX10_tellsHouse cX10_tellsHouse 7 (some .long) :: gt) ({ frames := 7, cells := 0, slots := 0, locals := 155 }) (va_Pc [.ref (q0 0), .long x1, .int x3] (PRE (dC, dI) (TY cI cJ) (ww_X10 cI cJ q0 m0) sz)) (va_Ql (S := Mem) (fun (r : Int64) (u : Mem) => post r u) (fun u t => AT (dC, dI) (TY cI cJ) (va_A (ww_X10 cI cJ q0 m0) sz) (ww_X10 cI cJ q0 u) t) (va_A (ww_X10 cI cJ q0 m0) sz)) 0 0 (va_A (ww_X10 cI cJ q0 m0) sz) :=
  met_of (own := RX10) (Qf := fun A => va_Ql (S := Mem) (fun (r : Int64) (u : Mem) => post r u) (fun u t => AT (dC, dI) (TY cI cJ) A (ww_X10 cI cJ q0 u) t) A) (by decide) rfl (Nat.le_of_ble_eq_true rfl) rfl (fun p e s m below meth c A cx hA ls hP hD hS hl => w_X10_tellsHouse_0 cx hA x1 x3 m0 _ _ ls hP hD hS hl h)
theorem mv_X10_tellsHouse : MV yX10_tellsHouse cX10_tellsHouse 7 (some .long) 2 := ⟨⟨kw_1116, kw_11, by decide +kernel⟩, kw_1115, ksel_54⟩
set_option maxHeartbeats 4000000 in
set_option maxRecDepth 100000 in
theorem w_X10_digest_172 {p : Program} {l : Launch} {e : Env} {s : State} {m : MethodId} {args : Array Value} {below : List Frame} {meth : Method} {c : Code} {dC : Nat → ClassId} {dI : Nat → Nat → Nat} {cI cJ : ClassId} {A : Nat → Prop} (cx : CX RX10 cX10_digest (some .long) 5 p s m args meth c (dC, dI) (TY cI cJ)) (hA : ∀ q, s.heap.size ≤ q → A q) {q0 : Nat → Nat} {post : Int64 → Mem → Prop} {k84 : Int64 → Int32 → Mem → Prop} (hk84 : ∀ (x1 : Int64) (x3 : Int32) (m0 : Mem) (H : Heap) (locs : List Loc) (ls : Array Slot), va_P (dC, dI) vwCl (ww_X10 cI cJ q0 m0) H → va_D A (ww_X10 cI cJ q0 m0) → va_S A s.heap H locs → lv_has ls 5 [(0, .ref (q0 0)), (1, .long x1), (3, .int x3)] → k84 x1 x3 m0 → W p l e ({ frames := 8, cells := 0, slots := 0, locals := 181 }) s m args below meth c H locs 0 0 (MQ below (va_Ql (S := Mem) (fun (r : Int64) (u : Mem) => post r u) (fun u t => AT (dC, dI) (TY cI cJ) A (ww_X10 cI cJ q0 u) t) A) args s 0 0 A) (F0 m 84 ls [])) : ∀ (n : Nat) (x1 : Int64) (x3 : Int32) (x4 : Int32) (m0 : Mem) (H : Heap) (locs : List Loc) (ls : Array Slot), va_P (dC, dI) vwCl (ww_X10 cI cJ q0 m0) H → va_D A (ww_X10 cI cJ q0 m0) → va_S A s.heap H locs → lv_has ls 5 [(0, .ref (q0 0)), (1, .long x1), (3, .int x3), (4, .int x4)] → b_X10_digest_172 post k84 n x1 x3 x4 m0 → W p l e ({ frames := 8, cells := 0, slots := 0, locals := 181 }) s m args below meth c H locs 0 0 (MQ below (va_Ql (S := Mem) (fun (r : Int64) (u : Mem) => post r u) (fun u t => AT (dC, dI) (TY cI cJ) A (ww_X10 cI cJ q0 u) t) A) args s 0 0 A) (F0 m 172 ls []) := by
  obtain ⟨hx, hb, hr, hml, hown, hts, hlocks, hK⟩ := id cx
  have cx' : CX RX10 cX10_digest (meth.sig.returnType) 5 p s m args meth c (dC, dI) (TY cI cJ) := ⟨hx, hb, rfl, hml, hown, hts, hlocks, hK⟩
  intro n
  induction n with
  | zero =>
    intro x1 x3 x4 m0 H locs ls hP hD hS hl h
    exact False.elim h
  | succ n ih =>
    intro x1 x3 x4 m0 H locs ls hP hD hS hl h
    unfold b_X10_digest_172 at h
    refine lv_iload hx hb dX10_digest_172 (lv_at hl 3 rfl) ?_
    refine lv_aload_n hx hb dX10_digest_174 rfl (lv_at hl 0 rfl) ?_
    refine gf_v (k := 7) (v := .int (m0 0 7)) cx' hP 0 i_X10 rfl rfl (by decide) kw_722 rfl rfl dX10_digest_175 ?_
    refine lv_icmp_ge (tgt := 207) hx hb dX10_digest_178 (by decide) (fun c_1 => ?_) (fun c_1 => ?_)
    · have h := h.1 c_1
      obtain ⟨x3_2, ex3_2⟩ : ∃ z : Int32, z = x3 + 1 := ⟨_, rfl⟩
      have h := h x3_2 ex3_2
      refine lv_iinc (v := x3_2) (lv' := [(3, .int x3_2), (0, .ref (q0 0)), (1, .long x1), (4, .int x4)]) hx hb dX10_digest_207 hl (k := 2) rfl (by rw [ex3_2]; rfl) (by decide) rfl (fun ls hl => ?_)
      refine lv_goto (tgt := 84) hx hb dX10_digest_210 (by decide) ?_
      exact hk84 x1 x3_2 m0 H locs ls hP hD hS (lv_sub hl [1, 2, 0] rfl) h
    have h := h.2 c_1
    refine lv_ldc2 hx hb hown (hts _ kw_1111) dX10_digest_181 ?_
    refine lv_lload_n hx hb dX10_digest_184 rfl (lv_at hl 1 rfl) ?_
    refine lv_lmul hx hb dX10_digest_185 ?_
    refine lv_aload_n hx hb dX10_digest_186 rfl (lv_at hl 0 rfl) ?_
    refine gf_v (k := 13) (v := .ref (q0 11)) cx' hP 0 i_X10 rfl rfl (by decide) kw_728 rfl rfl dX10_digest_187 ?_
    refine lv_bipush (v := 8) hx hb dX10_digest_190 (by decide) ?_
    refine lv_iload_n hx hb dX10_digest_192 rfl (lv_at hl 2 rfl) ?_
    refine lv_imul hx hb dX10_digest_193 ?_
    refine lv_iload hx hb dX10_digest_194 (lv_at hl 3 rfl) ?_
    refine lv_iadd hx hb dX10_digest_196 ?_
    refine va_iald hx hb hK hP 11 0 rfl rfl h.1 dX10_digest_197 ?_
    have h := h.2
    refine lv_i2l (v := Int32.toInt64 (m0 11 (Int32.toNatClampNeg ((8 * x3) + x4)))) hx hb dX10_digest_198 rfl ?_
    refine lv_ladd hx hb dX10_digest_199 ?_
    refine lv_topl (fun x1_3 ex1_3 => ?_)
    have h := h x1_3 ex1_3
    refine lv_lstore_n (lv' := [(1, .long x1_3), (0, .ref (q0 0)), (3, .int x3), (4, .int x4)]) hx hb dX10_digest_200 rfl hl (by decide) rfl (fun ls hl => ?_)
    obtain ⟨x4_4, ex4_4⟩ : ∃ z : Int32, z = x4 + 1 := ⟨_, rfl⟩
    have h := h x4_4 ex4_4
    refine lv_iinc (v := x4_4) (lv' := [(4, .int x4_4), (1, .long x1_3), (0, .ref (q0 0)), (3, .int x3)]) hx hb dX10_digest_201 hl (k := 3) rfl (by rw [ex4_4]; rfl) (by decide) rfl (fun ls hl => ?_)
    refine lv_goto (tgt := 172) hx hb dX10_digest_204 (by decide) ?_
    exact ih x1_3 x3 x4_4 m0 H locs ls hP hD hS (lv_sub hl [2, 1, 3, 0] rfl) h
set_option maxHeartbeats 4000000 in
set_option maxRecDepth 100000 in
theorem w_X10_digest_129 {p : Program} {l : Launch} {e : Env} {s : State} {m : MethodId} {args : Array Value} {below : List Frame} {meth : Method} {c : Code} {dC : Nat → ClassId} {dI : Nat → Nat → Nat} {cI cJ : ClassId} {A : Nat → Prop} (cx : CX RX10 cX10_digest (some .long) 5 p s m args meth c (dC, dI) (TY cI cJ)) (hA : ∀ q, s.heap.size ≤ q → A q) {q0 : Nat → Nat} {post : Int64 → Mem → Prop} {k84 : Int64 → Int32 → Mem → Prop} (hk84 : ∀ (x1 : Int64) (x3 : Int32) (m0 : Mem) (H : Heap) (locs : List Loc) (ls : Array Slot), va_P (dC, dI) vwCl (ww_X10 cI cJ q0 m0) H → va_D A (ww_X10 cI cJ q0 m0) → va_S A s.heap H locs → lv_has ls 5 [(0, .ref (q0 0)), (1, .long x1), (3, .int x3)] → k84 x1 x3 m0 → W p l e ({ frames := 8, cells := 0, slots := 0, locals := 181 }) s m args below meth c H locs 0 0 (MQ below (va_Ql (S := Mem) (fun (r : Int64) (u : Mem) => post r u) (fun u t => AT (dC, dI) (TY cI cJ) A (ww_X10 cI cJ q0 u) t) A) args s 0 0 A) (F0 m 84 ls [])) : ∀ (n : Nat) (x1 : Int64) (x3 : Int32) (x4 : Int32) (m0 : Mem) (H : Heap) (locs : List Loc) (ls : Array Slot), va_P (dC, dI) vwCl (ww_X10 cI cJ q0 m0) H → va_D A (ww_X10 cI cJ q0 m0) → va_S A s.heap H locs → lv_has ls 5 [(0, .ref (q0 0)), (1, .long x1), (3, .int x3), (4, .int x4)] → b_X10_digest_129 post k84 n x1 x3 x4 m0 → W p l e ({ frames := 8, cells := 0, slots := 0, locals := 181 }) s m args below meth c H locs 0 0 (MQ below (va_Ql (S := Mem) (fun (r : Int64) (u : Mem) => post r u) (fun u t => AT (dC, dI) (TY cI cJ) A (ww_X10 cI cJ q0 u) t) A) args s 0 0 A) (F0 m 129 ls []) := by
  obtain ⟨hx, hb, hr, hml, hown, hts, hlocks, hK⟩ := id cx
  have cx' : CX RX10 cX10_digest (meth.sig.returnType) 5 p s m args meth c (dC, dI) (TY cI cJ) := ⟨hx, hb, rfl, hml, hown, hts, hlocks, hK⟩
  intro n
  induction n with
  | zero =>
    intro x1 x3 x4 m0 H locs ls hP hD hS hl h
    exact False.elim h
  | succ n ih =>
    intro x1 x3 x4 m0 H locs ls hP hD hS hl h
    unfold b_X10_digest_129 at h
    refine lv_iload hx hb dX10_digest_129 (lv_at hl 3 rfl) ?_
    refine lv_iconst (v := 4) hx hb dX10_digest_131 (by decide) ?_
    refine lv_icmp_ge (tgt := 156) hx hb dX10_digest_132 (by decide) (fun c_1 => ?_) (fun c_1 => ?_)
    · have h := h.1 c_1
      refine lv_ldc2 hx hb hown (hts _ kw_1111) dX10_digest_156 ?_
      refine lv_lload_n hx hb dX10_digest_159 rfl (lv_at hl 1 rfl) ?_
      refine lv_lmul hx hb dX10_digest_160 ?_
      refine lv_aload_n hx hb dX10_digest_161 rfl (lv_at hl 0 rfl) ?_
      refine lv_iload_n hx hb dX10_digest_162 rfl (lv_at hl 2 rfl) ?_
      refine call_i (run_V (As := [.int x3]) (rest := [.long (31 * x1)]) cx' (c_X10_beganOf l H.size q0 m0 x3 _ h) mv_X10_beganOf kw_1044 rfl rfl ⟨Nat.le_of_ble_eq_true rfl, Nat.le_of_ble_eq_true rfl⟩ hP hD rfl rfl rfl hl.1 rfl (Nat.le_of_ble_eq_true rfl) dX10_digest_163 ⟨Nat.zero_le _, Nat.zero_le _⟩) hD hS hA (fun r_2 u9 H locs hP hD hS h => ?_)
      obtain ⟨m0_3, rfl⟩ : ∃ z, z = u9 := ⟨_, rfl⟩
      have hP : va_P (dC, dI) vwCl (ww_X10 cI cJ q0 m0_3) H := hP
      have hD : va_D A (ww_X10 cI cJ q0 m0_3) := hD
      refine lv_i2l (v := Int32.toInt64 r_2) hx hb dX10_digest_166 rfl ?_
      refine lv_ladd hx hb dX10_digest_167 ?_
      refine lv_topl (fun x1_4 ex1_4 => ?_)
      have h := h x1_4 ex1_4
      refine lv_lstore_n (lv' := [(1, .long x1_4), (0, .ref (q0 0)), (3, .int x3), (4, .int x4)]) hx hb dX10_digest_168 rfl hl (by decide) rfl (fun ls hl => ?_)
      refine lv_iconst (v := 0) hx hb dX10_digest_169 (by decide) ?_
      refine lv_istore (lv' := [(4, .int 0), (1, .long x1_4), (0, .ref (q0 0)), (3, .int x3)]) hx hb dX10_digest_170 hl (by decide) rfl (fun ls hl => ?_)
      obtain ⟨n_5, h⟩ := h
      exact w_X10_digest_172 cx hA hk84 n_5 x1_4 x3 0 m0_3 H locs ls hP hD hS (lv_sub hl [2, 1, 3, 0] rfl) h
    have h := h.2 c_1
    refine lv_ldc2 hx hb hown (hts _ kw_1111) dX10_digest_135 ?_
    refine lv_lload_n hx hb dX10_digest_138 rfl (lv_at hl 1 rfl) ?_
    refine lv_lmul hx hb dX10_digest_139 ?_
    refine lv_aload_n hx hb dX10_digest_140 rfl (lv_at hl 0 rfl) ?_
    refine lv_iload_n hx hb dX10_digest_141 rfl (lv_at hl 2 rfl) ?_
    refine lv_iload hx hb dX10_digest_142 (lv_at hl 3 rfl) ?_
    refine call_i (run_V (As := [.int x3, .int x4]) (rest := [.long (31 * x1)]) cx' (c_X10_fedBy l H.size q0 m0 x3 x4 _ h) mv_X10_fedBy kw_931 rfl rfl ⟨Nat.le_of_ble_eq_true rfl, Nat.le_of_ble_eq_true rfl⟩ hP hD rfl rfl rfl hl.1 rfl (Nat.le_of_ble_eq_true rfl) dX10_digest_144 ⟨Nat.zero_le _, Nat.zero_le _⟩) hD hS hA (fun r_6 u9 H locs hP hD hS h => ?_)
    have hP : va_P (dC, dI) vwCl (ww_X10 cI cJ q0 m0) H := hP
    have hD : va_D A (ww_X10 cI cJ q0 m0) := hD
    refine lv_i2l (v := Int32.toInt64 r_6) hx hb dX10_digest_147 rfl ?_
    refine lv_ladd hx hb dX10_digest_148 ?_
    refine lv_topl (fun x1_7 ex1_7 => ?_)
    have h := h x1_7 ex1_7
    refine lv_lstore_n (lv' := [(1, .long x1_7), (0, .ref (q0 0)), (3, .int x3), (4, .int x4)]) hx hb dX10_digest_149 rfl hl (by decide) rfl (fun ls hl => ?_)
    obtain ⟨x4_8, ex4_8⟩ : ∃ z : Int32, z = x4 + 1 := ⟨_, rfl⟩
    have h := h x4_8 ex4_8
    refine lv_iinc (v := x4_8) (lv' := [(4, .int x4_8), (1, .long x1_7), (0, .ref (q0 0)), (3, .int x3)]) hx hb dX10_digest_150 hl (k := 3) rfl (by rw [ex4_8]; rfl) (by decide) rfl (fun ls hl => ?_)
    refine lv_goto (tgt := 129) hx hb dX10_digest_153 (by decide) ?_
    exact ih x1_7 x3 x4_8 m0 H locs ls hP hD hS (lv_sub hl [2, 1, 3, 0] rfl) h
set_option maxHeartbeats 4000000 in
set_option maxRecDepth 100000 in
theorem w_X10_digest_95 {p : Program} {l : Launch} {e : Env} {s : State} {m : MethodId} {args : Array Value} {below : List Frame} {meth : Method} {c : Code} {dC : Nat → ClassId} {dI : Nat → Nat → Nat} {cI cJ : ClassId} {A : Nat → Prop} (cx : CX RX10 cX10_digest (some .long) 5 p s m args meth c (dC, dI) (TY cI cJ)) (hA : ∀ q, s.heap.size ≤ q → A q) {q0 : Nat → Nat} {post : Int64 → Mem → Prop} {k84 : Int64 → Int32 → Mem → Prop} (hk84 : ∀ (x1 : Int64) (x3 : Int32) (m0 : Mem) (H : Heap) (locs : List Loc) (ls : Array Slot), va_P (dC, dI) vwCl (ww_X10 cI cJ q0 m0) H → va_D A (ww_X10 cI cJ q0 m0) → va_S A s.heap H locs → lv_has ls 5 [(0, .ref (q0 0)), (1, .long x1), (3, .int x3)] → k84 x1 x3 m0 → W p l e ({ frames := 8, cells := 0, slots := 0, locals := 181 }) s m args below meth c H locs 0 0 (MQ below (va_Ql (S := Mem) (fun (r : Int64) (u : Mem) => post r u) (fun u t => AT (dC, dI) (TY cI cJ) A (ww_X10 cI cJ q0 u) t) A) args s 0 0 A) (F0 m 84 ls [])) : ∀ (n : Nat) (x1 : Int64) (x3 : Int32) (x4 : Int32) (m0 : Mem) (H : Heap) (locs : List Loc) (ls : Array Slot), va_P (dC, dI) vwCl (ww_X10 cI cJ q0 m0) H → va_D A (ww_X10 cI cJ q0 m0) → va_S A s.heap H locs → lv_has ls 5 [(0, .ref (q0 0)), (1, .long x1), (3, .int x3), (4, .int x4)] → b_X10_digest_95 post k84 n x1 x3 x4 m0 → W p l e ({ frames := 8, cells := 0, slots := 0, locals := 181 }) s m args below meth c H locs 0 0 (MQ below (va_Ql (S := Mem) (fun (r : Int64) (u : Mem) => post r u) (fun u t => AT (dC, dI) (TY cI cJ) A (ww_X10 cI cJ q0 u) t) A) args s 0 0 A) (F0 m 95 ls []) := by
  obtain ⟨hx, hb, hr, hml, hown, hts, hlocks, hK⟩ := id cx
  have cx' : CX RX10 cX10_digest (meth.sig.returnType) 5 p s m args meth c (dC, dI) (TY cI cJ) := ⟨hx, hb, rfl, hml, hown, hts, hlocks, hK⟩
  intro n
  induction n with
  | zero =>
    intro x1 x3 x4 m0 H locs ls hP hD hS hl h
    exact False.elim h
  | succ n ih =>
    intro x1 x3 x4 m0 H locs ls hP hD hS hl h
    unfold b_X10_digest_95 at h
    refine lv_iload hx hb dX10_digest_95 (lv_at hl 3 rfl) ?_
    refine lv_iconst (v := 4) hx hb dX10_digest_97 (by decide) ?_
    refine lv_icmp_ge (tgt := 126) hx hb dX10_digest_98 (by decide) (fun c_1 => ?_) (fun c_1 => ?_)
    · have h := h.1 c_1
      refine lv_iconst (v := 0) hx hb dX10_digest_126 (by decide) ?_
      refine lv_istore (lv' := [(4, .int 0), (0, .ref (q0 0)), (1, .long x1), (3, .int x3)]) hx hb dX10_digest_127 hl (by decide) rfl (fun ls hl => ?_)
      obtain ⟨n_2, h⟩ := h
      exact w_X10_digest_129 cx hA hk84 n_2 x1 x3 0 m0 H locs ls hP hD hS (lv_sub hl [1, 2, 3, 0] rfl) h
    have h := h.2 c_1
    refine lv_ldc2 hx hb hown (hts _ kw_1111) dX10_digest_101 ?_
    refine lv_lload_n hx hb dX10_digest_104 rfl (lv_at hl 1 rfl) ?_
    refine lv_lmul hx hb dX10_digest_105 ?_
    refine lv_aload_n hx hb dX10_digest_106 rfl (lv_at hl 0 rfl) ?_
    refine gf_v (k := 10) (v := .ref (q0 8)) cx' hP 0 i_X10 rfl rfl (by decide) kw_725 rfl rfl dX10_digest_107 ?_
    refine lv_iconst (v := 4) hx hb dX10_digest_110 (by decide) ?_
    refine lv_iload_n hx hb dX10_digest_111 rfl (lv_at hl 2 rfl) ?_
    refine lv_imul hx hb dX10_digest_112 ?_
    refine lv_iload hx hb dX10_digest_113 (lv_at hl 3 rfl) ?_
    refine lv_iadd hx hb dX10_digest_115 ?_
    refine va_iald hx hb hK hP 8 0 rfl rfl h.1 dX10_digest_116 ?_
    have h := h.2
    refine lv_i2l (v := Int32.toInt64 (m0 8 (Int32.toNatClampNeg ((4 * x3) + x4)))) hx hb dX10_digest_117 rfl ?_
    refine lv_ladd hx hb dX10_digest_118 ?_
    refine lv_topl (fun x1_3 ex1_3 => ?_)
    have h := h x1_3 ex1_3
    refine lv_lstore_n (lv' := [(1, .long x1_3), (0, .ref (q0 0)), (3, .int x3), (4, .int x4)]) hx hb dX10_digest_119 rfl hl (by decide) rfl (fun ls hl => ?_)
    obtain ⟨x4_4, ex4_4⟩ : ∃ z : Int32, z = x4 + 1 := ⟨_, rfl⟩
    have h := h x4_4 ex4_4
    refine lv_iinc (v := x4_4) (lv' := [(4, .int x4_4), (1, .long x1_3), (0, .ref (q0 0)), (3, .int x3)]) hx hb dX10_digest_120 hl (k := 3) rfl (by rw [ex4_4]; rfl) (by decide) rfl (fun ls hl => ?_)
    refine lv_goto (tgt := 95) hx hb dX10_digest_123 (by decide) ?_
    exact ih x1_3 x3 x4_4 m0 H locs ls hP hD hS (lv_sub hl [2, 1, 3, 0] rfl) h
set_option maxHeartbeats 4000000 in
set_option maxRecDepth 100000 in
theorem w_X10_digest_84 {p : Program} {l : Launch} {e : Env} {s : State} {m : MethodId} {args : Array Value} {below : List Frame} {meth : Method} {c : Code} {dC : Nat → ClassId} {dI : Nat → Nat → Nat} {cI cJ : ClassId} {A : Nat → Prop} (cx : CX RX10 cX10_digest (some .long) 5 p s m args meth c (dC, dI) (TY cI cJ)) (hA : ∀ q, s.heap.size ≤ q → A q) {q0 : Nat → Nat} {post : Int64 → Mem → Prop} : ∀ (n : Nat) (x1 : Int64) (x3 : Int32) (m0 : Mem) (H : Heap) (locs : List Loc) (ls : Array Slot), va_P (dC, dI) vwCl (ww_X10 cI cJ q0 m0) H → va_D A (ww_X10 cI cJ q0 m0) → va_S A s.heap H locs → lv_has ls 5 [(0, .ref (q0 0)), (1, .long x1), (3, .int x3)] → b_X10_digest_84 post n x1 x3 m0 → W p l e ({ frames := 8, cells := 0, slots := 0, locals := 181 }) s m args below meth c H locs 0 0 (MQ below (va_Ql (S := Mem) (fun (r : Int64) (u : Mem) => post r u) (fun u t => AT (dC, dI) (TY cI cJ) A (ww_X10 cI cJ q0 u) t) A) args s 0 0 A) (F0 m 84 ls []) := by
  obtain ⟨hx, hb, hr, hml, hown, hts, hlocks, hK⟩ := id cx
  have cx' : CX RX10 cX10_digest (meth.sig.returnType) 5 p s m args meth c (dC, dI) (TY cI cJ) := ⟨hx, hb, rfl, hml, hown, hts, hlocks, hK⟩
  intro n
  induction n with
  | zero =>
    intro x1 x3 m0 H locs ls hP hD hS hl h
    exact False.elim h
  | succ n ih =>
    intro x1 x3 m0 H locs ls hP hD hS hl h
    unfold b_X10_digest_84 at h
    refine lv_iload_n hx hb dX10_digest_84 rfl (lv_at hl 2 rfl) ?_
    refine lv_aload_n hx hb dX10_digest_85 rfl (lv_at hl 0 rfl) ?_
    refine gf_v (k := 9) (v := .int (m0 0 9)) cx' hP 0 i_X10 rfl rfl (by decide) kw_724 rfl rfl dX10_digest_86 ?_
    refine lv_icmp_ge (tgt := 213) hx hb dX10_digest_89 (by decide) (fun c_1 => ?_) (fun c_1 => ?_)
    · have h := h.1 c_1
      refine lv_ldc2 hx hb hown (hts _ kw_1111) dX10_digest_213 ?_
      refine lv_lload_n hx hb dX10_digest_216 rfl (lv_at hl 1 rfl) ?_
      refine lv_lmul hx hb dX10_digest_217 ?_
      refine lv_aload_n hx hb dX10_digest_218 rfl (lv_at hl 0 rfl) ?_
      refine call_i (run_V (As := []) (rest := [.long (31 * x1)]) cx' (c_X10_poorNow l H.size q0 m0 _ h) mv_X10_poorNow kw_958 rfl rfl ⟨Nat.le_of_ble_eq_true rfl, Nat.le_of_ble_eq_true rfl⟩ hP hD rfl rfl rfl hl.1 rfl (Nat.le_of_ble_eq_true rfl) dX10_digest_219 ⟨Nat.zero_le _, Nat.zero_le _⟩) hD hS hA (fun r_2 u9 H locs hP hD hS h => ?_)
      have hP : va_P (dC, dI) vwCl (ww_X10 cI cJ q0 m0) H := hP
      have hD : va_D A (ww_X10 cI cJ q0 m0) := hD
      refine lv_i2l (v := Int32.toInt64 r_2) hx hb dX10_digest_222 rfl ?_
      refine lv_ladd hx hb dX10_digest_223 ?_
      refine lv_topl (fun x1_3 ex1_3 => ?_)
      have h := h x1_3 ex1_3
      refine lv_lstore_n (lv' := [(1, .long x1_3), (0, .ref (q0 0)), (3, .int x3)]) hx hb dX10_digest_224 rfl hl (by decide) rfl (fun ls hl => ?_)
      refine lv_ldc2 hx hb hown (hts _ kw_1111) dX10_digest_225 ?_
      refine lv_lload_n hx hb dX10_digest_228 rfl (lv_at hl 0 rfl) ?_
      refine lv_lmul hx hb dX10_digest_229 ?_
      refine lv_aload_n hx hb dX10_digest_230 rfl (lv_at hl 1 rfl) ?_
      refine call_i (run_V (As := []) (rest := [.long (31 * x1_3)]) cx' (c_X10_passedNow l H.size q0 m0 _ h) mv_X10_passedNow kw_966 rfl rfl ⟨Nat.le_of_ble_eq_true rfl, Nat.le_of_ble_eq_true rfl⟩ hP hD rfl rfl rfl hl.1 rfl (Nat.le_of_ble_eq_true rfl) dX10_digest_231 ⟨Nat.zero_le _, Nat.zero_le _⟩) hD hS hA (fun r_4 u9 H locs hP hD hS h => ?_)
      have hP : va_P (dC, dI) vwCl (ww_X10 cI cJ q0 m0) H := hP
      have hD : va_D A (ww_X10 cI cJ q0 m0) := hD
      refine lv_i2l (v := Int32.toInt64 r_4) hx hb dX10_digest_234 rfl ?_
      refine lv_ladd hx hb dX10_digest_235 ?_
      refine lv_topl (fun x1_5 ex1_5 => ?_)
      have h := h x1_5 ex1_5
      refine lv_lstore_n (lv' := [(1, .long x1_5), (0, .ref (q0 0)), (3, .int x3)]) hx hb dX10_digest_236 rfl hl (by decide) rfl (fun ls hl => ?_)
      refine lv_ldc2 hx hb hown (hts _ kw_1111) dX10_digest_237 ?_
      refine lv_lload_n hx hb dX10_digest_240 rfl (lv_at hl 0 rfl) ?_
      refine lv_lmul hx hb dX10_digest_241 ?_
      refine lv_aload_n hx hb dX10_digest_242 rfl (lv_at hl 1 rfl) ?_
      refine call_i (run_V (As := []) (rest := [.long (31 * x1_5)]) cx' (c_X10_twiceNow l H.size q0 m0 _ h) mv_X10_twiceNow kw_1028 rfl rfl ⟨Nat.le_of_ble_eq_true rfl, Nat.le_of_ble_eq_true rfl⟩ hP hD rfl rfl rfl hl.1 rfl (Nat.le_of_ble_eq_true rfl) dX10_digest_243 ⟨Nat.zero_le _, Nat.zero_le _⟩) hD hS hA (fun r_6 u9 H locs hP hD hS h => ?_)
      have hP : va_P (dC, dI) vwCl (ww_X10 cI cJ q0 m0) H := hP
      have hD : va_D A (ww_X10 cI cJ q0 m0) := hD
      refine lv_i2l (v := Int32.toInt64 r_6) hx hb dX10_digest_246 rfl ?_
      refine lv_ladd hx hb dX10_digest_247 ?_
      refine lv_topl (fun x1_7 ex1_7 => ?_)
      have h := h x1_7 ex1_7
      refine lv_lstore_n (lv' := [(1, .long x1_7), (0, .ref (q0 0)), (3, .int x3)]) hx hb dX10_digest_248 rfl hl (by decide) rfl (fun ls hl => ?_)
      refine lv_ldc2 hx hb hown (hts _ kw_1111) dX10_digest_249 ?_
      refine lv_lload_n hx hb dX10_digest_252 rfl (lv_at hl 0 rfl) ?_
      refine lv_lmul hx hb dX10_digest_253 ?_
      refine lv_aload_n hx hb dX10_digest_254 rfl (lv_at hl 1 rfl) ?_
      refine call_i (run_V (As := []) (rest := [.long (31 * x1_7)]) cx' (c_X10_askNow l H.size q0 m0 _ h) mv_X10_askNow kw_1052 rfl rfl ⟨Nat.le_of_ble_eq_true rfl, Nat.le_of_ble_eq_true rfl⟩ hP hD rfl rfl rfl hl.1 rfl (Nat.le_of_ble_eq_true rfl) dX10_digest_255 ⟨Nat.zero_le _, Nat.zero_le _⟩) hD hS hA (fun r_8 u9 H locs hP hD hS h => ?_)
      have hP : va_P (dC, dI) vwCl (ww_X10 cI cJ q0 m0) H := hP
      have hD : va_D A (ww_X10 cI cJ q0 m0) := hD
      refine lv_i2l (v := Int32.toInt64 r_8) hx hb dX10_digest_258 rfl ?_
      refine lv_ladd hx hb dX10_digest_259 ?_
      exact rt_l (v := (31 * x1_7) + (Int32.toInt64 r_8)) (u := m0) cx hP hD hS h dX10_digest_260
    have h := h.2 c_1
    refine lv_iconst (v := 0) hx hb dX10_digest_92 (by decide) ?_
    refine lv_istore (lv' := [(4, .int 0), (0, .ref (q0 0)), (1, .long x1), (3, .int x3)]) hx hb dX10_digest_93 hl (by decide) rfl (fun ls hl => ?_)
    obtain ⟨n_9, h⟩ := h
    exact w_X10_digest_95 cx hA ih n_9 x1 x3 0 m0 H locs ls hP hD hS (lv_sub hl [1, 2, 3, 0] rfl) h
set_option maxHeartbeats 4000000 in
set_option maxRecDepth 100000 in
theorem w_X10_digest_61 {p : Program} {l : Launch} {e : Env} {s : State} {m : MethodId} {args : Array Value} {below : List Frame} {meth : Method} {c : Code} {dC : Nat → ClassId} {dI : Nat → Nat → Nat} {cI cJ : ClassId} {A : Nat → Prop} (cx : CX RX10 cX10_digest (some .long) 5 p s m args meth c (dC, dI) (TY cI cJ)) (hA : ∀ q, s.heap.size ≤ q → A q) {q0 : Nat → Nat} {post : Int64 → Mem → Prop} : ∀ (n : Nat) (x1 : Int64) (x3 : Int32) (m0 : Mem) (H : Heap) (locs : List Loc) (ls : Array Slot), va_P (dC, dI) vwCl (ww_X10 cI cJ q0 m0) H → va_D A (ww_X10 cI cJ q0 m0) → va_S A s.heap H locs → lv_has ls 5 [(0, .ref (q0 0)), (1, .long x1), (3, .int x3)] → b_X10_digest_61 post n x1 x3 m0 → W p l e ({ frames := 8, cells := 0, slots := 0, locals := 181 }) s m args below meth c H locs 0 0 (MQ below (va_Ql (S := Mem) (fun (r : Int64) (u : Mem) => post r u) (fun u t => AT (dC, dI) (TY cI cJ) A (ww_X10 cI cJ q0 u) t) A) args s 0 0 A) (F0 m 61 ls []) := by
  obtain ⟨hx, hb, hr, hml, hown, hts, hlocks, hK⟩ := id cx
  have cx' : CX RX10 cX10_digest (meth.sig.returnType) 5 p s m args meth c (dC, dI) (TY cI cJ) := ⟨hx, hb, rfl, hml, hown, hts, hlocks, hK⟩
  intro n
  induction n with
  | zero =>
    intro x1 x3 m0 H locs ls hP hD hS hl h
    exact False.elim h
  | succ n ih =>
    intro x1 x3 m0 H locs ls hP hD hS hl h
    unfold b_X10_digest_61 at h
    refine lv_iload_n hx hb dX10_digest_61 rfl (lv_at hl 2 rfl) ?_
    refine lv_aload_n hx hb dX10_digest_62 rfl (lv_at hl 0 rfl) ?_
    refine gf_v (k := 7) (v := .int (m0 0 7)) cx' hP 0 i_X10 rfl rfl (by decide) kw_722 rfl rfl dX10_digest_63 ?_
    refine lv_icmp_ge (tgt := 82) hx hb dX10_digest_66 (by decide) (fun c_1 => ?_) (fun c_1 => ?_)
    · have h := h.1 c_1
      refine lv_iconst (v := 0) hx hb dX10_digest_82 (by decide) ?_
      refine lv_istore_n (lv' := [(3, .int 0), (0, .ref (q0 0)), (1, .long x1)]) hx hb dX10_digest_83 rfl hl (by decide) rfl (fun ls hl => ?_)
      obtain ⟨n_2, h⟩ := h
      exact w_X10_digest_84 cx hA n_2 x1 0 m0 H locs ls hP hD hS (lv_sub hl [1, 2, 0] rfl) h
    have h := h.2 c_1
    refine lv_aload_n hx hb dX10_digest_69 rfl (lv_at hl 0 rfl) ?_
    refine lv_lload_n hx hb dX10_digest_70 rfl (lv_at hl 1 rfl) ?_
    refine lv_iload_n hx hb dX10_digest_71 rfl (lv_at hl 2 rfl) ?_
    refine call_l (run_V (As := [.long x1, .int x3]) (rest := []) cx' (c_X10_tellsHouse l H.size q0 m0 x1 x3 _ h) mv_X10_tellsHouse kw_1113 rfl rfl ⟨Nat.le_of_ble_eq_true rfl, Nat.le_of_ble_eq_true rfl⟩ hP hD rfl rfl rfl hl.1 rfl (Nat.le_of_ble_eq_true rfl) dX10_digest_72 ⟨Nat.zero_le _, Nat.zero_le _⟩) hD hS hA (fun r_3 u9 H locs hP hD hS h => ?_)
    obtain ⟨m0_4, rfl⟩ : ∃ z, z = u9 := ⟨_, rfl⟩
    have hP : va_P (dC, dI) vwCl (ww_X10 cI cJ q0 m0_4) H := hP
    have hD : va_D A (ww_X10 cI cJ q0 m0_4) := hD
    refine lv_lstore_n (lv' := [(1, .long r_3), (0, .ref (q0 0)), (3, .int x3)]) hx hb dX10_digest_75 rfl hl (by decide) rfl (fun ls hl => ?_)
    obtain ⟨x3_5, ex3_5⟩ : ∃ z : Int32, z = x3 + 1 := ⟨_, rfl⟩
    have h := h x3_5 ex3_5
    refine lv_iinc (v := x3_5) (lv' := [(3, .int x3_5), (1, .long r_3), (0, .ref (q0 0))]) hx hb dX10_digest_76 hl (k := 2) rfl (by rw [ex3_5]; rfl) (by decide) rfl (fun ls hl => ?_)
    refine lv_goto (tgt := 61) hx hb dX10_digest_79 (by decide) ?_
    exact ih r_3 x3_5 m0_4 H locs ls hP hD hS (lv_sub hl [2, 1, 0] rfl) h
set_option maxHeartbeats 4000000 in
set_option maxRecDepth 100000 in
theorem w_X10_digest_6 {p : Program} {l : Launch} {e : Env} {s : State} {m : MethodId} {args : Array Value} {below : List Frame} {meth : Method} {c : Code} {dC : Nat → ClassId} {dI : Nat → Nat → Nat} {cI cJ : ClassId} {A : Nat → Prop} (cx : CX RX10 cX10_digest (some .long) 5 p s m args meth c (dC, dI) (TY cI cJ)) (hA : ∀ q, s.heap.size ≤ q → A q) {q0 : Nat → Nat} {post : Int64 → Mem → Prop} : ∀ (n : Nat) (x1 : Int64) (x3 : Int32) (m0 : Mem) (H : Heap) (locs : List Loc) (ls : Array Slot), va_P (dC, dI) vwCl (ww_X10 cI cJ q0 m0) H → va_D A (ww_X10 cI cJ q0 m0) → va_S A s.heap H locs → lv_has ls 5 [(0, .ref (q0 0)), (1, .long x1), (3, .int x3)] → b_X10_digest_6 post n x1 x3 m0 → W p l e ({ frames := 8, cells := 0, slots := 0, locals := 181 }) s m args below meth c H locs 0 0 (MQ below (va_Ql (S := Mem) (fun (r : Int64) (u : Mem) => post r u) (fun u t => AT (dC, dI) (TY cI cJ) A (ww_X10 cI cJ q0 u) t) A) args s 0 0 A) (F0 m 6 ls []) := by
  obtain ⟨hx, hb, hr, hml, hown, hts, hlocks, hK⟩ := id cx
  have cx' : CX RX10 cX10_digest (meth.sig.returnType) 5 p s m args meth c (dC, dI) (TY cI cJ) := ⟨hx, hb, rfl, hml, hown, hts, hlocks, hK⟩
  intro n
  induction n with
  | zero =>
    intro x1 x3 m0 H locs ls hP hD hS hl h
    exact False.elim h
  | succ n ih =>
    intro x1 x3 m0 H locs ls hP hD hS hl h
    unfold b_X10_digest_6 at h
    refine lv_iload_n hx hb dX10_digest_6 rfl (lv_at hl 2 rfl) ?_
    refine lv_bipush (v := 8) hx hb dX10_digest_7 (by decide) ?_
    refine lv_icmp_ge (tgt := 31) hx hb dX10_digest_9 (by decide) (fun c_1 => ?_) (fun c_1 => ?_)
    · have h := h.1 c_1
      refine lv_ldc2 hx hb hown (hts _ kw_1111) dX10_digest_31 ?_
      refine lv_lload_n hx hb dX10_digest_34 rfl (lv_at hl 1 rfl) ?_
      refine lv_lmul hx hb dX10_digest_35 ?_
      refine lv_aload_n hx hb dX10_digest_36 rfl (lv_at hl 0 rfl) ?_
      refine call_i (run_V (As := []) (rest := [.long (31 * x1)]) cx' (c_X10_readsHouses l H.size q0 m0 _ h) mv_X10_readsHouses kw_848 rfl rfl ⟨Nat.le_of_ble_eq_true rfl, Nat.le_of_ble_eq_true rfl⟩ hP hD rfl rfl rfl hl.1 rfl (Nat.le_of_ble_eq_true rfl) dX10_digest_37 ⟨Nat.zero_le _, Nat.zero_le _⟩) hD hS hA (fun r_2 u9 H locs hP hD hS h => ?_)
      obtain ⟨m0_3, rfl⟩ : ∃ z, z = u9 := ⟨_, rfl⟩
      have hP : va_P (dC, dI) vwCl (ww_X10 cI cJ q0 m0_3) H := hP
      have hD : va_D A (ww_X10 cI cJ q0 m0_3) := hD
      refine lv_i2l (v := Int32.toInt64 r_2) hx hb dX10_digest_40 rfl ?_
      refine lv_ladd hx hb dX10_digest_41 ?_
      refine lv_topl (fun x1_4 ex1_4 => ?_)
      have h := h x1_4 ex1_4
      refine lv_lstore_n (lv' := [(1, .long x1_4), (0, .ref (q0 0)), (3, .int x3)]) hx hb dX10_digest_42 rfl hl (by decide) rfl (fun ls hl => ?_)
      refine lv_ldc2 hx hb hown (hts _ kw_1111) dX10_digest_43 ?_
      refine lv_lload_n hx hb dX10_digest_46 rfl (lv_at hl 0 rfl) ?_
      refine lv_lmul hx hb dX10_digest_47 ?_
      refine lv_aload_n hx hb dX10_digest_48 rfl (lv_at hl 1 rfl) ?_
      refine call_i (run_V (As := []) (rest := [.long (31 * x1_4)]) cx' (c_X10_readsGuests l H.size q0 m0_3 _ h) mv_X10_readsGuests kw_858 rfl rfl ⟨Nat.le_of_ble_eq_true rfl, Nat.le_of_ble_eq_true rfl⟩ hP hD rfl rfl rfl hl.1 rfl (Nat.le_of_ble_eq_true rfl) dX10_digest_49 ⟨Nat.zero_le _, Nat.zero_le _⟩) hD hS hA (fun r_5 u9 H locs hP hD hS h => ?_)
      obtain ⟨m0_6, rfl⟩ : ∃ z, z = u9 := ⟨_, rfl⟩
      have hP : va_P (dC, dI) vwCl (ww_X10 cI cJ q0 m0_6) H := hP
      have hD : va_D A (ww_X10 cI cJ q0 m0_6) := hD
      refine lv_i2l (v := Int32.toInt64 r_5) hx hb dX10_digest_52 rfl ?_
      refine lv_ladd hx hb dX10_digest_53 ?_
      refine lv_topl (fun x1_7 ex1_7 => ?_)
      have h := h x1_7 ex1_7
      refine lv_lstore_n (lv' := [(1, .long x1_7), (0, .ref (q0 0)), (3, .int x3)]) hx hb dX10_digest_54 rfl hl (by decide) rfl (fun ls hl => ?_)
      refine lv_aload_n hx hb dX10_digest_55 rfl (lv_at hl 1 rfl) ?_
      refine call_v (run_V (As := []) (rest := []) cx' (c_X10_find l H.size q0 m0_6 _ h) mv_X10_find kw_906 rfl rfl ⟨Nat.le_of_ble_eq_true rfl, Nat.le_of_ble_eq_true rfl⟩ hP hD rfl rfl rfl hl.1 rfl (Nat.le_of_ble_eq_true rfl) dX10_digest_56 ⟨Nat.zero_le _, Nat.zero_le _⟩) hD hS hA (fun u9 H locs hP hD hS h => ?_)
      obtain ⟨m0_8, rfl⟩ : ∃ z, z = u9 := ⟨_, rfl⟩
      have hP : va_P (dC, dI) vwCl (ww_X10 cI cJ q0 m0_8) H := hP
      have hD : va_D A (ww_X10 cI cJ q0 m0_8) := hD
      refine lv_iconst (v := 0) hx hb dX10_digest_59 (by decide) ?_
      refine lv_istore_n (lv' := [(3, .int 0), (1, .long x1_7), (0, .ref (q0 0))]) hx hb dX10_digest_60 rfl hl (by decide) rfl (fun ls hl => ?_)
      obtain ⟨n_9, h⟩ := h
      exact w_X10_digest_61 cx hA n_9 x1_7 0 m0_8 H locs ls hP hD hS (lv_sub hl [2, 1, 0] rfl) h
    have h := h.2 c_1
    refine lv_ldc2 hx hb hown (hts _ kw_1111) dX10_digest_12 ?_
    refine lv_lload_n hx hb dX10_digest_15 rfl (lv_at hl 1 rfl) ?_
    refine lv_lmul hx hb dX10_digest_16 ?_
    refine lv_aload_n hx hb dX10_digest_17 rfl (lv_at hl 0 rfl) ?_
    refine lv_iload_n hx hb dX10_digest_18 rfl (lv_at hl 2 rfl) ?_
    refine call_i (run_V (As := [.int x3]) (rest := [.long (31 * x1)]) cx' (c_X10_count l H.size q0 m0 x3 _ h) mv_X10_count kw_1112 rfl rfl ⟨Nat.le_of_ble_eq_true rfl, Nat.le_of_ble_eq_true rfl⟩ hP hD rfl rfl rfl hl.1 rfl (Nat.le_of_ble_eq_true rfl) dX10_digest_19 ⟨Nat.zero_le _, Nat.zero_le _⟩) hD hS hA (fun r_10 u9 H locs hP hD hS h => ?_)
    obtain ⟨m0_11, rfl⟩ : ∃ z, z = u9 := ⟨_, rfl⟩
    have hP : va_P (dC, dI) vwCl (ww_X10 cI cJ q0 m0_11) H := hP
    have hD : va_D A (ww_X10 cI cJ q0 m0_11) := hD
    refine lv_i2l (v := Int32.toInt64 r_10) hx hb dX10_digest_22 rfl ?_
    refine lv_ladd hx hb dX10_digest_23 ?_
    refine lv_topl (fun x1_12 ex1_12 => ?_)
    have h := h x1_12 ex1_12
    refine lv_lstore_n (lv' := [(1, .long x1_12), (0, .ref (q0 0)), (3, .int x3)]) hx hb dX10_digest_24 rfl hl (by decide) rfl (fun ls hl => ?_)
    obtain ⟨x3_13, ex3_13⟩ : ∃ z : Int32, z = x3 + 1 := ⟨_, rfl⟩
    have h := h x3_13 ex3_13
    refine lv_iinc (v := x3_13) (lv' := [(3, .int x3_13), (1, .long x1_12), (0, .ref (q0 0))]) hx hb dX10_digest_25 hl (k := 2) rfl (by rw [ex3_13]; rfl) (by decide) rfl (fun ls hl => ?_)
    refine lv_goto (tgt := 6) hx hb dX10_digest_28 (by decide) ?_
    exact ih x1_12 x3_13 m0_11 H locs ls hP hD hS (lv_sub hl [2, 1, 0] rfl) h
set_option maxHeartbeats 4000000 in
set_option maxRecDepth 100000 in
theorem w_X10_digest_0 {p : Program} {l : Launch} {e : Env} {s : State} {m : MethodId} {args : Array Value} {below : List Frame} {meth : Method} {c : Code} {dC : Nat → ClassId} {dI : Nat → Nat → Nat} {cI cJ : ClassId} {A : Nat → Prop} (cx : CX RX10 cX10_digest (some .long) 5 p s m args meth c (dC, dI) (TY cI cJ)) (hA : ∀ q, s.heap.size ≤ q → A q) {q0 : Nat → Nat} {post : Int64 → Mem → Prop} : ∀ (m0 : Mem) (H : Heap) (locs : List Loc) (ls : Array Slot), va_P (dC, dI) vwCl (ww_X10 cI cJ q0 m0) H → va_D A (ww_X10 cI cJ q0 m0) → va_S A s.heap H locs → lv_has ls 5 [(0, .ref (q0 0))] → b_X10_digest_0 post m0 → W p l e ({ frames := 8, cells := 0, slots := 0, locals := 181 }) s m args below meth c H locs 0 0 (MQ below (va_Ql (S := Mem) (fun (r : Int64) (u : Mem) => post r u) (fun u t => AT (dC, dI) (TY cI cJ) A (ww_X10 cI cJ q0 u) t) A) args s 0 0 A) (F0 m 0 ls []) := by
  obtain ⟨hx, hb, hr, hml, hown, hts, hlocks, hK⟩ := id cx
  have cx' : CX RX10 cX10_digest (meth.sig.returnType) 5 p s m args meth c (dC, dI) (TY cI cJ) := ⟨hx, hb, rfl, hml, hown, hts, hlocks, hK⟩
  intro m0 H locs ls hP hD hS hl h
  unfold b_X10_digest_0 at h
  refine lv_ldc2 hx hb hown (hts _ kw_1110) dX10_digest_0 ?_
  refine lv_lstore_n (lv' := [(1, .long 17), (0, .ref (q0 0))]) hx hb dX10_digest_3 rfl hl (by decide) rfl (fun ls hl => ?_)
  refine lv_iconst (v := 0) hx hb dX10_digest_4 (by decide) ?_
  refine lv_istore_n (lv' := [(3, .int 0), (1, .long 17), (0, .ref (q0 0))]) hx hb dX10_digest_5 rfl hl (by decide) rfl (fun ls hl => ?_)
  obtain ⟨n_1, h⟩ := h
  exact w_X10_digest_6 cx hA n_1 17 0 m0 H locs ls hP hD hS (lv_sub hl [2, 1, 0] rfl) h
set_option maxRecDepth 100000 in
theorem c_X10_digest (l : Launch) {dC : Nat → ClassId} {dI : Nat → Nat → Nat} {cI cJ : ClassId} (sz : Nat) (q0 : Nat → Nat) (m0 : Mem) (post : Int64 → Mem → Prop) (h : wp_X10_digest m0 post) : Met l yX10_digest (Cond.code yX10_digest cX10_digest 5 (some .long) :: gt) ({ frames := 8, cells := 0, slots := 0, locals := 181 }) (va_Pc [.ref (q0 0)] (PRE (dC, dI) (TY cI cJ) (ww_X10 cI cJ q0 m0) sz)) (va_Ql (S := Mem) (fun (r : Int64) (u : Mem) => post r u) (fun u t => AT (dC, dI) (TY cI cJ) (va_A (ww_X10 cI cJ q0 m0) sz) (ww_X10 cI cJ q0 u) t) (va_A (ww_X10 cI cJ q0 m0) sz)) 0 0 (va_A (ww_X10 cI cJ q0 m0) sz) :=
  met_of (own := RX10) (Qf := fun A => va_Ql (S := Mem) (fun (r : Int64) (u : Mem) => post r u) (fun u t => AT (dC, dI) (TY cI cJ) A (ww_X10 cI cJ q0 u) t) A) (by decide) rfl (Nat.le_of_ble_eq_true rfl) rfl (fun p e s m below meth c A cx hA ls hP hD hS hl => w_X10_digest_0 cx hA m0 _ _ ls hP hD hS hl h)
theorem mv_X10_digest : MV yX10_digest cX10_digest 5 (some .long) 0 := ⟨⟨kw_1109, kw_11, by decide +kernel⟩, kw_1107, kw_1108⟩
