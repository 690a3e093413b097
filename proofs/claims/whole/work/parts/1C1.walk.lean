set_option maxHeartbeats 4000000 in
set_option maxRecDepth 100000 in
theorem w_X10_readsGuests_14 {p : Program} {l : Launch} {e : Env} {s : State} {m : MethodId} {args : Array Value} {below : List Frame} {meth : Method} {c : Code} {dC : Nat → ClassId} {dI : Nat → Nat → Nat} {cI cJ : ClassId} {A : Nat → Prop} (cx : CX RX10 cX10_readsGuests (some .int) 5 p s m args meth c (dC, dI) (TY cI cJ)) (hA : ∀ q, s.heap.size ≤ q → A q) {q0 : Nat → Nat} {post : Int32 → Mem → Prop} : ∀ (n : Nat) (x1 : Int32) (x2 : Int32) (m0 : Mem) (H : Heap) (locs : List Loc) (ls : Array Slot), va_P (dC, dI) vwCl (ww_X10 cI cJ q0 m0) H → va_D A (ww_X10 cI cJ q0 m0) → va_S A s.heap H locs → lv_has ls 5 [(0, .ref (q0 0)), (1, .int x1), (2, .int x2)] → b_X10_readsGuests_14 post n x1 x2 m0 → W p l e ({ frames := 3, cells := 0, slots := 0, locals := 68 }) s m args below meth c H locs 0 0 (MQ below (va_Qi (S := Mem) (fun (r : Int32) (u : Mem) => post r u) (fun u t => AT (dC, dI) (TY cI cJ) A (ww_X10 cI cJ q0 u) t) A) args s 0 0 A) (F0 m 14 ls []) := by
  obtain ⟨hx, hb, hr, hml, hown, hts, hlocks, hK⟩ := id cx
  have cx' : CX RX10 cX10_readsGuests (meth.sig.returnType) 5 p s m args meth c (dC, dI) (TY cI cJ) := ⟨hx, hb, rfl, hml, hown, hts, hlocks, hK⟩
  intro n
  induction n with
  | zero =>
    intro x1 x2 m0 H locs ls hP hD hS hl h
    exact False.elim h
  | succ n ih =>
    intro x1 x2 m0 H locs ls hP hD hS hl h
    unfold b_X10_readsGuests_14 at h
    refine lv_iload_n hx hb dX10_readsGuests_14 rfl (lv_at hl 2 rfl) ?_
    refine lv_iload_n hx hb dX10_readsGuests_15 rfl (lv_at hl 1 rfl) ?_
    refine lv_icmp_ge (tgt := 91) hx hb dX10_readsGuests_16 (by decide) (fun c_1 => ?_) (fun c_1 => ?_)
    · have h := h.1 c_1
      refine lv_iload_n hx hb dX10_readsGuests_91 rfl (lv_at hl 1 rfl) ?_
      refine lv_if_le (tgt := 110) hx hb dX10_readsGuests_92 (by decide) (fun c_2 => ?_) (fun c_2 => ?_)
      · have h := h.1 c_2
        refine lv_iconst (v := (-1)) hx hb dX10_readsGuests_110 (by decide) ?_
        exact rt_i (v := (-1)) (u := m0) cx hP hD hS h dX10_readsGuests_111
      have h := h.2 c_2
      refine lv_iload_n hx hb dX10_readsGuests_95 rfl (lv_at hl 1 rfl) ?_
      refine lv_bipush (v := 6) hx hb dX10_readsGuests_96 (by decide) ?_
      refine lv_irem hx hb dX10_readsGuests_98 (by decide) ?_
      refine lv_iconst (v := 5) hx hb dX10_readsGuests_99 (by decide) ?_
      refine lv_icmp_eq (tgt := 110) hx hb dX10_readsGuests_100 (by decide) (fun c_3 => ?_) (fun c_3 => ?_)
      · have h := h.1 c_3
        refine lv_iconst (v := (-1)) hx hb dX10_readsGuests_110 (by decide) ?_
        exact rt_i (v := (-1)) (u := m0) cx hP hD hS h dX10_readsGuests_111
      have h := h.2 c_3
      refine lv_aload_n hx hb dX10_readsGuests_103 rfl (lv_at hl 0 rfl) ?_
      refine lv_iconst (v := 0) hx hb dX10_readsGuests_104 (by decide) ?_
      obtain ⟨m0_4, em0_4⟩ : ∃ z : Mem, z = up2 m0 0 9 0 := ⟨_, rfl⟩
      have h := h m0_4 em0_4
      refine pf_v (k := 9) (tf := .int) cx' hP hD hS 0 (ww_X10 cI cJ q0 m0_4) i_X10 tyX10 tyX10_ok nmX10 rfl rfl (by decide) kw_724 rfl rfl rfl rfl rfl (Nat.le_of_ble_eq_true rfl) dX10_readsGuests_105 (by subst em0_4; rfl) (fun H locs hP hD hS => ?_)
      refine lv_iload_n hx hb dX10_readsGuests_108 rfl (lv_at hl 1 rfl) ?_
      exact rt_i (v := x1) (u := m0_4) cx hP hD hS h dX10_readsGuests_109
    have h := h.2 c_1
    refine lv_iload_n hx hb dX10_readsGuests_19 rfl (lv_at hl 2 rfl) ?_
    refine lv_bipush (v := 6) hx hb dX10_readsGuests_20 (by decide) ?_
    refine lv_irem hx hb dX10_readsGuests_22 (by decide) ?_
    refine lv_topi (fun x3_5 ex3_5 => ?_)
    have h := h x3_5 ex3_5
    refine lv_istore_n (lv' := [(3, .int x3_5), (0, .ref (q0 0)), (1, .int x1), (2, .int x2)]) hx hb dX10_readsGuests_23 rfl hl (by decide) rfl (fun ls hl => ?_)
    refine lv_iload_n hx hb dX10_readsGuests_24 rfl (lv_at hl 0 rfl) ?_
    refine lv_aload_n hx hb dX10_readsGuests_25 rfl (lv_at hl 1 rfl) ?_
    refine gf_v (k := 5) (v := .ref (q0 5)) cx' hP 0 i_X10 rfl rfl (by decide) kw_720 rfl rfl dX10_readsGuests_26 ?_
    refine lv_bipush (v := 48) hx hb dX10_readsGuests_29 (by decide) ?_
    refine lv_iload_n hx hb dX10_readsGuests_31 rfl (lv_at hl 3 rfl) ?_
    refine lv_iadd hx hb dX10_readsGuests_32 ?_
    refine va_iald hx hb hK hP 5 0 rfl rfl h.1 dX10_readsGuests_33 ?_
    have h := h.2
    refine callN_i (run_S (As := [.int x3_5, .int (m0 5 (Int32.toNatClampNeg (48 + x2)))]) (rest := []) (wc := []) cx' (c_X10_guestOf l H.size x3_5 (m0 5 (Int32.toNatClampNeg (48 + x2))) _ h) ms_X10_guestOf kw_862 rfl rfl ⟨Nat.le_of_ble_eq_true rfl, Nat.le_of_ble_eq_true rfl⟩ nilP nilD (A := A) rfl hl.1 rfl (Nat.le_of_ble_eq_true rfl) dX10_readsGuests_34 ⟨Nat.zero_le _, Nat.zero_le _⟩) hP hS hA (fun r_6 H locs hP hS h => ?_)
    refine lv_istore (lv' := [(4, .int r_6), (3, .int x3_5), (0, .ref (q0 0)), (1, .int x1), (2, .int x2)]) hx hb dX10_readsGuests_37 hl (by decide) rfl (fun ls hl => ?_)
    refine lv_iload hx hb dX10_readsGuests_39 (lv_at hl 0 rfl) ?_
    refine lv_bipush (v := (-9)) hx hb dX10_readsGuests_41 (by decide) ?_
    refine lv_icmp_ne (tgt := 53) hx hb dX10_readsGuests_43 (by decide) (fun c_7 => ?_) (fun c_7 => ?_)
    · have h := h.1 c_7
      refine lv_aload_n hx hb dX10_readsGuests_53 rfl (lv_at hl 2 rfl) ?_
      refine lv_iconst (v := 4) hx hb dX10_readsGuests_54 (by decide) ?_
      refine lv_iload_n hx hb dX10_readsGuests_55 rfl (lv_at hl 4 rfl) ?_
      refine lv_bipush (v := 6) hx hb dX10_readsGuests_56 (by decide) ?_
      refine lv_idiv hx hb dX10_readsGuests_58 (by decide) ?_
      refine lv_imul hx hb dX10_readsGuests_59 ?_
      refine lv_iload_n hx hb dX10_readsGuests_60 rfl (lv_at hl 1 rfl) ?_
      refine lv_iload hx hb dX10_readsGuests_61 (lv_at hl 0 rfl) ?_
      refine call_v (run_V (As := [.int (4 * (x2 / 6)), .int x3_5, .int r_6]) (rest := []) cx' (c_X10_tellsGuest l H.size q0 m0 (4 * (x2 / 6)) x3_5 r_6 _ h) mv_X10_tellsGuest kw_865 rfl rfl ⟨Nat.le_of_ble_eq_true rfl, Nat.le_of_ble_eq_true rfl⟩ hP hD rfl rfl rfl hl.1 rfl (Nat.le_of_ble_eq_true rfl) dX10_readsGuests_63 ⟨Nat.zero_le _, Nat.zero_le _⟩) hD hS hA (fun u9 H locs hP hD hS h => ?_)
      obtain ⟨m0_8, rfl⟩ : ∃ z, z = u9 := ⟨_, rfl⟩
      have hP : va_P (dC, dI) vwCl (ww_X10 cI cJ q0 m0_8) H := hP
      have hD : va_D A (ww_X10 cI cJ q0 m0_8) := hD
      refine lv_aload_n hx hb dX10_readsGuests_66 rfl (lv_at hl 2 rfl) ?_
      refine lv_dup hx hb dX10_readsGuests_67 rfl ?_
      refine gf_v (k := 9) (v := .int (m0_8 0 9)) cx' hP 0 i_X10 rfl rfl (by decide) kw_724 rfl rfl dX10_readsGuests_68 ?_
      refine lv_iload_n hx hb dX10_readsGuests_71 rfl (lv_at hl 1 rfl) ?_
      refine lv_iconst (v := 4) hx hb dX10_readsGuests_72 (by decide) ?_
      refine dia_i (ls := ls) (c0 := x3_5 = 4) (a := 1) (b := 0) (J := 81) (rest := [.int (m0_8 0 9), .ref (q0 0)]) (fun K => ?_) (fun v_10 ev_10 => ?_)
      · refine lv_icmp_ne (tgt := 80) hx hb dX10_readsGuests_73 (by decide) (fun c_9 => ?_) (fun c_9 => ?_)
        · refine lv_iconst (v := 0) hx hb dX10_readsGuests_80 (by decide) ?_
          exact K _ (Or.inr ⟨c_9, rfl⟩)
        · refine lv_iconst (v := 1) hx hb dX10_readsGuests_76 (by decide) ?_
          refine lv_goto (tgt := 81) hx hb dX10_readsGuests_77 (by decide) ?_
          exact K _ (Or.inl ⟨c_9, rfl⟩)
      have h := h v_10 ev_10
      refine lv_iadd hx hb dX10_readsGuests_81 ?_
      obtain ⟨m0_11, em0_11⟩ : ∃ z : Mem, z = up2 m0_8 0 9 ((m0_8 0 9) + v_10) := ⟨_, rfl⟩
      have h := h m0_11 em0_11
      refine pf_v (k := 9) (tf := .int) cx' hP hD hS 0 (ww_X10 cI cJ q0 m0_11) i_X10 tyX10 tyX10_ok nmX10 rfl rfl (by decide) kw_724 rfl rfl rfl rfl rfl (Nat.le_of_ble_eq_true rfl) dX10_readsGuests_82 (by subst em0_11; rfl) (fun H locs hP hD hS => ?_)
      obtain ⟨x2_12, ex2_12⟩ : ∃ z : Int32, z = x2 + 1 := ⟨_, rfl⟩
      have h := h x2_12 ex2_12
      refine lv_iinc (v := x2_12) (lv' := [(2, .int x2_12), (4, .int r_6), (3, .int x3_5), (0, .ref (q0 0)), (1, .int x1)]) hx hb dX10_readsGuests_85 hl (k := 4) rfl (by rw [ex2_12]; rfl) (by decide) rfl (fun ls hl => ?_)
      refine lv_goto (tgt := 14) hx hb dX10_readsGuests_88 (by decide) ?_
      exact ih x1 x2_12 m0_11 H locs ls hP hD hS (lv_sub hl [3, 4, 0] rfl) h
    have h := h.2 c_7
    refine lv_aload_n hx hb dX10_readsGuests_46 rfl (lv_at hl 2 rfl) ?_
    refine lv_iconst (v := 0) hx hb dX10_readsGuests_47 (by decide) ?_
    obtain ⟨m0_13, em0_13⟩ : ∃ z : Mem, z = up2 m0 0 9 0 := ⟨_, rfl⟩
    have h := h m0_13 em0_13
    refine pf_v (k := 9) (tf := .int) cx' hP hD hS 0 (ww_X10 cI cJ q0 m0_13) i_X10 tyX10 tyX10_ok nmX10 rfl rfl (by decide) kw_724 rfl rfl rfl rfl rfl (Nat.le_of_ble_eq_true rfl) dX10_readsGuests_48 (by subst em0_13; rfl) (fun H locs hP hD hS => ?_)
    refine lv_iload_n hx hb dX10_readsGuests_51 rfl (lv_at hl 4 rfl) ?_
    exact rt_i (v := x2) (u := m0_13) cx hP hD hS h dX10_readsGuests_52
set_option maxHeartbeats 4000000 in
set_option maxRecDepth 100000 in
theorem w_X10_readsGuests_0 {p : Program} {l : Launch} {e : Env} {s : State} {m : MethodId} {args : Array Value} {below : List Frame} {meth : Method} {c : Code} {dC : Nat → ClassId} {dI : Nat → Nat → Nat} {cI cJ : ClassId} {A : Nat → Prop} (cx : CX RX10 cX10_readsGuests (some .int) 5 p s m args meth c (dC, dI) (TY cI cJ)) (hA : ∀ q, s.heap.size ≤ q → A q) {q0 : Nat → Nat} {post : Int32 → Mem → Prop} : ∀ (m0 : Mem) (H : Heap) (locs : List Loc) (ls : Array Slot), va_P (dC, dI) vwCl (ww_X10 cI cJ q0 m0) H → va_D A (ww_X10 cI cJ q0 m0) → va_S A s.heap H locs → lv_has ls 5 [(0, .ref (q0 0))] → b_X10_readsGuests_0 post m0 → W p l e ({ frames := 3, cells := 0, slots := 0, locals := 68 }) s m args below meth c H locs 0 0 (MQ below (va_Qi (S := Mem) (fun (r : Int32) (u : Mem) => post r u) (fun u t => AT (dC, dI) (TY cI cJ) A (ww_X10 cI cJ q0 u) t) A) args s 0 0 A) (F0 m 0 ls []) := by
  obtain ⟨hx, hb, hr, hml, hown, hts, hlocks, hK⟩ := id cx
  have cx' : CX RX10 cX10_readsGuests (meth.sig.returnType) 5 p s m args meth c (dC, dI) (TY cI cJ) := ⟨hx, hb, rfl, hml, hown, hts, hlocks, hK⟩
  intro m0 H locs ls hP hD hS hl h
  unfold b_X10_readsGuests_0 at h
  refine lv_aload_n hx hb dX10_readsGuests_0 rfl (lv_at hl 0 rfl) ?_
  refine lv_iconst (v := 0) hx hb dX10_readsGuests_1 (by decide) ?_
  obtain ⟨m0_1, em0_1⟩ : ∃ z : Mem, z = up2 m0 0 9 0 := ⟨_, rfl⟩
  have h := h m0_1 em0_1
  refine pf_v (k := 9) (tf := .int) cx' hP hD hS 0 (ww_X10 cI cJ q0 m0_1) i_X10 tyX10 tyX10_ok nmX10 rfl rfl (by decide) kw_724 rfl rfl rfl rfl rfl (Nat.le_of_ble_eq_true rfl) dX10_readsGuests_2 (by subst em0_1; rfl) (fun H locs hP hD hS => ?_)
  refine lv_aload_n hx hb dX10_readsGuests_5 rfl (lv_at hl 0 rfl) ?_
  refine gf_v (k := 6) (v := .ref (q0 6)) cx' hP 0 i_X10 rfl rfl (by decide) kw_721 rfl rfl dX10_readsGuests_6 ?_
  refine lv_iconst (v := 1) hx hb dX10_readsGuests_9 (by decide) ?_
  refine va_iald hx hb hK hP 6 0 rfl rfl h.1 dX10_readsGuests_10 ?_
  have h := h.2
  refine lv_topi (fun x1_2 ex1_2 => ?_)
  have h := h x1_2 ex1_2
  refine lv_istore_n (lv' := [(1, .int x1_2), (0, .ref (q0 0))]) hx hb dX10_readsGuests_11 rfl hl (by decide) rfl (fun ls hl => ?_)
  refine lv_iconst (v := 0) hx hb dX10_readsGuests_12 (by decide) ?_
  refine lv_istore_n (lv' := [(2, .int 0), (1, .int x1_2), (0, .ref (q0 0))]) hx hb dX10_readsGuests_13 rfl hl (by decide) rfl (fun ls hl => ?_)
  obtain ⟨n_3, h⟩ := h
  exact w_X10_readsGuests_14 cx hA n_3 x1_2 0 m0_1 H locs ls hP hD hS (lv_sub hl [2, 1, 0] rfl) h
set_option maxRecDepth 100000 in
theorem c_X10_readsGuests (l : Launch) {dC : Nat → ClassId} {dI : Nat → Nat → Nat} {cI cJ : ClassId} (sz : Nat) (q0 : Nat → Nat) (m0 : Mem) (post : Int32 → Mem → Prop) (h : wp_X10_readsGuests m0 post) : Met l yX10_readsGuests (Cond.code yX10_readsGuests cX10_readsGuests 5 (some .int) :: gt) ({ frames := 3, cells := 0, slots := 0, locals := 68 }) (va_Pc [.ref (q0 0)] (PRE (dC, dI) (TY cI cJ) (ww_X10 cI cJ q0 m0) sz)) (va_Qi (S := Mem) (fun (r : Int32) (u : Mem) => post r u) (fun u t => AT (dC, dI) (TY cI cJ) (va_A (ww_X10 cI cJ q0 m0) sz) (ww_X10 cI cJ q0 u) t) (va_A (ww_X10 cI cJ q0 m0) sz)) 0 0 (va_A (ww_X10 cI cJ q0 m0) sz) :=
  met_of (own := RX10) (Qf := fun A => va_Qi (S := Mem) (fun (r : Int32) (u : Mem) => post r u) (fun u t => AT (dC, dI) (TY cI cJ) A (ww_X10 cI cJ q0 u) t) A) (by decide) rfl (Nat.le_of_ble_eq_true rfl) rfl (fun p e s m below meth c A cx hA ls hP hD hS hl => w_X10_readsGuests_0 cx hA m0 _ _ ls hP hD hS hl h)
theorem mv_X10_readsGuests : MV yX10_readsGuests cX10_readsGuests 5 (some .int) 0 := ⟨⟨kw_861, kw_11, by decide +kernel⟩, kw_860, ksel_23⟩
set_option maxHeartbeats 4000000 in
set_option maxRecDepth 100000 in
theorem w_X10_fault_0 {p : Program} {l : Launch} {e : Env} {s : State} {m : MethodId} {args : Array Value} {below : List Frame} {meth : Method} {c : Code} {dC : Nat → ClassId} {dI : Nat → Nat → Nat} {cI cJ : ClassId} {A : Nat → Prop} (cx : CX RX10 cX10_fault (some .int) 2 p s m args meth c (dC, dI) (TY cI cJ)) (hA : ∀ q, s.heap.size ≤ q → A q) {q0 : Nat → Nat} {post : Int32 → Mem → Prop} : ∀ (x1 : Int32) (m0 : Mem) (H : Heap) (locs : List Loc) (ls : Array Slot), va_P (dC, dI) vwCl (ww_X10 cI cJ q0 m0) H → va_D A (ww_X10 cI cJ q0 m0) → va_S A s.heap H locs → lv_has ls 2 [(0, .ref (q0 0)), (1, .int x1)] → b_X10_fault_0 post x1 m0 → W p l e ({ frames := 4, cells := 0, slots := 0, locals := 92 }) s m args below meth c H locs 0 0 (MQ below (va_Qi (S := Mem) (fun (r : Int32) (u : Mem) => post r u) (fun u t => AT (dC, dI) (TY cI cJ) A (ww_X10 cI cJ q0 u) t) A) args s 0 0 A) (F0 m 0 ls []) := by
  obtain ⟨hx, hb, hr, hml, hown, hts, hlocks, hK⟩ := id cx
  have cx' : CX RX10 cX10_fault (meth.sig.returnType) 2 p s m args meth c (dC, dI) (TY cI cJ) := ⟨hx, hb, rfl, hml, hown, hts, hlocks, hK⟩
  intro x1 m0 H locs ls hP hD hS hl h
  unfold b_X10_fault_0 at h
  refine lv_iload_n hx hb dX10_fault_0 rfl (lv_at hl 1 rfl) ?_
  refine callN_i (run_S (As := [.int x1]) (rest := []) (wc := []) cx' (c_X10_isTwo l H.size x1 _ h) ms_X10_isTwo kw_832 rfl rfl ⟨Nat.le_of_ble_eq_true rfl, Nat.le_of_ble_eq_true rfl⟩ nilP nilD (A := A) rfl hl.1 rfl (Nat.le_of_ble_eq_true rfl) dX10_fault_1 ⟨Nat.zero_le _, Nat.zero_le _⟩) hP hS hA (fun r_1 H locs hP hS h => ?_)
  refine lv_if_ne (tgt := 12) hx hb dX10_fault_4 (by decide) (fun c_2 => ?_) (fun c_2 => ?_)
  · have h := h.1 c_2
    refine lv_iload_n hx hb dX10_fault_12 rfl (lv_at hl 1 rfl) ?_
    refine lv_if_ne (tgt := 23) hx hb dX10_fault_13 (by decide) (fun c_3 => ?_) (fun c_3 => ?_)
    · have h := h.1 c_3
      refine lv_aload_n hx hb dX10_fault_23 rfl (lv_at hl 0 rfl) ?_
      refine call_i (run_V (As := []) (rest := []) cx' (c_X10_readsGuests l H.size q0 m0 _ h) mv_X10_readsGuests kw_858 rfl rfl ⟨Nat.le_of_ble_eq_true rfl, Nat.le_of_ble_eq_true rfl⟩ hP hD rfl rfl rfl hl.1 rfl (Nat.le_of_ble_eq_true rfl) dX10_fault_24 ⟨Nat.zero_le _, Nat.zero_le _⟩) hD hS hA (fun r_4 u9 H locs hP hD hS h => ?_)
      obtain ⟨m0_5, rfl⟩ : ∃ z, z = u9 := ⟨_, rfl⟩
      have hP : va_P (dC, dI) vwCl (ww_X10 cI cJ q0 m0_5) H := hP
      have hD : va_D A (ww_X10 cI cJ q0 m0_5) := hD
      exact rt_i (v := r_4) (u := m0_5) cx hP hD hS h dX10_fault_27
    have h := h.2 c_3
    refine lv_aload_n hx hb dX10_fault_16 rfl (lv_at hl 0 rfl) ?_
    refine call_i (run_V (As := []) (rest := []) cx' (c_X10_readsHouses l H.size q0 m0 _ h) mv_X10_readsHouses kw_848 rfl rfl ⟨Nat.le_of_ble_eq_true rfl, Nat.le_of_ble_eq_true rfl⟩ hP hD rfl rfl rfl hl.1 rfl (Nat.le_of_ble_eq_true rfl) dX10_fault_17 ⟨Nat.zero_le _, Nat.zero_le _⟩) hD hS hA (fun r_6 u9 H locs hP hD hS h => ?_)
    obtain ⟨m0_7, rfl⟩ : ∃ z, z = u9 := ⟨_, rfl⟩
    have hP : va_P (dC, dI) vwCl (ww_X10 cI cJ q0 m0_7) H := hP
    have hD : va_D A (ww_X10 cI cJ q0 m0_7) := hD
    refine lv_goto (tgt := 27) hx hb dX10_fault_20 (by decide) ?_
    exact rt_i (v := r_6) (u := m0_7) cx hP hD hS h dX10_fault_27
  have h := h.2 c_2
  refine lv_bipush (v := (-2)) hx hb dX10_fault_7 (by decide) ?_
  refine lv_goto (tgt := 27) hx hb dX10_fault_9 (by decide) ?_
  exact rt_i (v := (-2)) (u := m0) cx hP hD hS h dX10_fault_27
set_option maxRecDepth 100000 in
theorem c_X10_fault (l : Launch) {dC : Nat → ClassId} {dI : Nat → Nat → Nat} {cI cJ : ClassId} (sz : Nat) (q0 : Nat → Nat) (m0 : Mem) (x1 : Int32) (post : Int32 → Mem → Prop) (h : wp_X10_fault m0 x1 post) : Met l yX10_fault (Cond.code yX10_fault cX10_fault 2 (some .int) :: gt) ({ frames := 4, cells := 0, slots := 0, locals := 92 }) (va_Pc [.ref (q0 0), .int x1] (PRE (dC, dI) (TY cI cJ) (ww_X10 cI cJ q0 m0) sz)) (va_Qi (S := Mem) (fun (r : Int32) (u : Mem) => post r u) (fun u t => AT (dC, dI) (TY cI cJ) (va_A (ww_X10 cI cJ q0 m0) sz) (ww_X10 cI cJ q0 u) t) (va_A (ww_X10 cI cJ q0 m0) sz)) 0 0 (va_A (ww_X10 cI cJ q0 m0) sz) :=
  met_of (own := RX10) (Qf := fun A => va_Qi (S := Mem) (fun (r : Int32) (u : Mem) => post r u) (fun u t => AT (dC, dI) (TY cI cJ) A (ww_X10 cI cJ q0 u) t) A) (by decide) rfl (Nat.le_of_ble_eq_true rfl) rfl (fun p e s m below meth c A cx hA ls hP hD hS hl => w_X10_fault_0 cx hA x1 m0 _ _ ls hP hD hS hl h)
theorem mv_X10_fault : MV yX10_fault cX10_fault 2 (some .int) 1 := ⟨⟨kw_847, kw_11, by decide +kernel⟩, kw_845, kw_846⟩
set_option maxHeartbeats 4000000 in
set_option maxRecDepth 100000 in
theorem w_X10_isHouse_0 {p : Program} {l : Launch} {e : Env} {s : State} {m : MethodId} {args : Array Value} {below : List Frame} {meth : Method} {c : Code} {dC : Nat → ClassId} {dI : Nat → Nat → Nat} {cI cJ : ClassId} {A : Nat → Prop} (cx : CX RX10 cX10_isHouse (some .boolean) 2 p s m args meth c (dC, dI) (TY cI cJ)) (hA : ∀ q, s.heap.size ≤ q → A q) {q0 : Nat → Nat} {m0 : Mem} {post : Int32 → Prop} : ∀ (x1 : Int32) (H : Heap) (locs : List Loc) (ls : Array Slot), va_P (dC, dI) vwCl (ww_X10 cI cJ q0 m0) H → va_D A (ww_X10 cI cJ q0 m0) → va_S A s.heap H locs → lv_has ls 2 [(0, .ref (q0 0)), (1, .int x1)] → b_X10_isHouse_0 m0 post x1 → W p l e ({ frames := 1, cells := 0, slots := 0, locals := 25 }) s m args below meth c H locs 0 0 (MQ below (va_Qi (S := Unit) (fun (r : Int32) (_u : Unit) => post r) (fun _u t => AT (dC, dI) (TY cI cJ) A (ww_X10 cI cJ q0 m0) t) A) args s 0 0 A) (F0 m 0 ls []) := by
  obtain ⟨hx, hb, hr, hml, hown, hts, hlocks, hK⟩ := id cx
  have cx' : CX RX10 cX10_isHouse (meth.sig.returnType) 2 p s m args meth c (dC, dI) (TY cI cJ) := ⟨hx, hb, rfl, hml, hown, hts, hlocks, hK⟩
  intro x1 H locs ls hP hD hS hl h
  unfold b_X10_isHouse_0 at h
  refine lv_iload_n hx hb dX10_isHouse_0 rfl (lv_at hl 1 rfl) ?_
  refine lv_i2l (v := Int32.toInt64 x1) hx hb dX10_isHouse_1 rfl ?_
  refine lv_lconst (v := 0) hx hb dX10_isHouse_2 (by decide) ?_
  refine lv_aload_n hx hb dX10_isHouse_3 rfl (lv_at hl 0 rfl) ?_
  refine gf_v (k := 7) (v := .int (m0 0 7)) cx' hP 0 i_X10 rfl rfl (by decide) kw_722 rfl rfl dX10_isHouse_4 ?_
  refine lv_iconst (v := 1) hx hb dX10_isHouse_7 (by decide) ?_
  refine lv_isub hx hb dX10_isHouse_8 ?_
  refine lv_i2l (v := Int32.toInt64 ((m0 0 7) - 1)) hx hb dX10_isHouse_9 rfl ?_
  refine callN_i (run_S (As := [.long (Int32.toInt64 x1), .long 0, .long (Int32.toInt64 ((m0 0 7) - 1))]) (rest := []) (wc := []) cx' (c_X10_in l H.size (Int32.toInt64 x1) 0 (Int32.toInt64 ((m0 0 7) - 1)) _ h) ms_X10_in kw_796 rfl rfl ⟨Nat.le_of_ble_eq_true rfl, Nat.le_of_ble_eq_true rfl⟩ nilP nilD (A := A) rfl hl.1 rfl (Nat.le_of_ble_eq_true rfl) dX10_isHouse_10 ⟨Nat.zero_le _, Nat.zero_le _⟩) hP hS hA (fun r_1 H locs hP hS h => ?_)
  exact rt_z (v := r_1) (u := ()) cx h.1 hP hD hS h.2 dX10_isHouse_13
set_option maxRecDepth 100000 in
theorem c_X10_isHouse (l : Launch) {dC : Nat → ClassId} {dI : Nat → Nat → Nat} {cI cJ : ClassId} (sz : Nat) (q0 : Nat → Nat) (m0 : Mem) (x1 : Int32) (post : Int32 → Prop) (h : wp_X10_isHouse m0 x1 post) : Met l yX10_isHouse (Cond.code yX10_isHouse cX10_isHouse 2 (some .boolean) :: gt) ({ frames := 1, cells := 0, slots := 0, locals := 25 }) (va_Pc [.ref (q0 0), .int x1] (PRE (dC, dI) (TY cI cJ) (ww_X10 cI cJ q0 m0) sz)) (va_Qi (S := Unit) (fun (r : Int32) (_u : Unit) => post r) (fun _u t => AT (dC, dI) (TY cI cJ) (va_A (ww_X10 cI cJ q0 m0) sz) (ww_X10 cI cJ q0 m0) t) (va_A (ww_X10 cI cJ q0 m0) sz)) 0 0 (va_A (ww_X10 cI cJ q0 m0) sz) :=
  met_of (own := RX10) (Qf := fun A => va_Qi (S := Unit) (fun (r : Int32) (_u : Unit) => post r) (fun _u t => AT (dC, dI) (TY cI cJ) A (ww_X10 cI cJ q0 m0) t) A) (by decide) rfl (Nat.le_of_ble_eq_true rfl) rfl (fun p e s m below meth c A cx hA ls hP hD hS hl => w_X10_isHouse_0 cx hA x1 _ _ ls hP hD hS hl h)
theorem mv_X10_isHouse : MV yX10_isHouse cX10_isHouse 2 (some .boolean) 1 := ⟨⟨kw_876, kw_11, by decide +kernel⟩, kw_875, ksel_25⟩
set_option maxHeartbeats 4000000 in
set_option maxRecDepth 100000 in
theorem w_X10_isGuest_0 {p : Program} {l : Launch} {e : Env} {s : State} {m : MethodId} {args : Array Value} {below : List Frame} {meth : Method} {c : Code} {dC : Nat → ClassId} {dI : Nat → Nat → Nat} {cI cJ : ClassId} {A : Nat → Prop} (cx : CX RX10 cX10_isGuest (some .boolean) 2 p s m args meth c (dC, dI) (TY cI cJ)) (hA : ∀ q, s.heap.size ≤ q → A q) {q0 : Nat → Nat} {m0 : Mem} {post : Int32 → Prop} : ∀ (x1 : Int32) (H : Heap) (locs : List Loc) (ls : Array Slot), va_P (dC, dI) vwCl (ww_X10 cI cJ q0 m0) H → va_D A (ww_X10 cI cJ q0 m0) → va_S A s.heap H locs → lv_has ls 2 [(0, .ref (q0 0)), (1, .int x1)] → b_X10_isGuest_0 m0 post x1 → W p l e ({ frames := 1, cells := 0, slots := 0, locals := 25 }) s m args below meth c H locs 0 0 (MQ below (va_Qi (S := Unit) (fun (r : Int32) (_u : Unit) => post r) (fun _u t => AT (dC, dI) (TY cI cJ) A (ww_X10 cI cJ q0 m0) t) A) args s 0 0 A) (F0 m 0 ls []) := by
  obtain ⟨hx, hb, hr, hml, hown, hts, hlocks, hK⟩ := id cx
  have cx' : CX RX10 cX10_isGuest (meth.sig.returnType) 2 p s m args meth c (dC, dI) (TY cI cJ) := ⟨hx, hb, rfl, hml, hown, hts, hlocks, hK⟩
  intro x1 H locs ls hP hD hS hl h
  unfold b_X10_isGuest_0 at h
  refine lv_iload_n hx hb dX10_isGuest_0 rfl (lv_at hl 1 rfl) ?_
  refine lv_i2l (v := Int32.toInt64 x1) hx hb dX10_isGuest_1 rfl ?_
  refine lv_lconst (v := 0) hx hb dX10_isGuest_2 (by decide) ?_
  refine lv_aload_n hx hb dX10_isGuest_3 rfl (lv_at hl 0 rfl) ?_
  refine gf_v (k := 9) (v := .int (m0 0 9)) cx' hP 0 i_X10 rfl rfl (by decide) kw_724 rfl rfl dX10_isGuest_4 ?_
  refine lv_iconst (v := 1) hx hb dX10_isGuest_7 (by decide) ?_
  refine lv_isub hx hb dX10_isGuest_8 ?_
  refine lv_i2l (v := Int32.toInt64 ((m0 0 9) - 1)) hx hb dX10_isGuest_9 rfl ?_
  refine callN_i (run_S (As := [.long (Int32.toInt64 x1), .long 0, .long (Int32.toInt64 ((m0 0 9) - 1))]) (rest := []) (wc := []) cx' (c_X10_in l H.size (Int32.toInt64 x1) 0 (Int32.toInt64 ((m0 0 9) - 1)) _ h) ms_X10_in kw_796 rfl rfl ⟨Nat.le_of_ble_eq_true rfl, Nat.le_of_ble_eq_true rfl⟩ nilP nilD (A := A) rfl hl.1 rfl (Nat.le_of_ble_eq_true rfl) dX10_isGuest_10 ⟨Nat.zero_le _, Nat.zero_le _⟩) hP hS hA (fun r_1 H locs hP hS h => ?_)
  exact rt_z (v := r_1) (u := ()) cx h.1 hP hD hS h.2 dX10_isGuest_13
set_option maxRecDepth 100000 in
theorem c_X10_isGuest (l : Launch) {dC : Nat → ClassId} {dI : Nat → Nat → Nat} {cI cJ : ClassId} (sz : Nat) (q0 : Nat → Nat) (m0 : Mem) (x1 : Int32) (post : Int32 → Prop) (h : wp_X10_isGuest m0 x1 post) : Met l yX10_isGuest (Cond.code yX10_isGuest cX10_isGuest 2 (some .boolean) :: gt) ({ frames := 1, cells := 0, slots := 0, locals := 25 }) (va_Pc [.ref (q0 0), .int x1] (PRE (dC, dI) (TY cI cJ) (ww_X10 cI cJ q0 m0) sz)) (va_Qi (S := Unit) (fun (r : Int32) (_u : Unit) => post r) (fun _u t => AT (dC, dI) (TY cI cJ) (va_A (ww_X10 cI cJ q0 m0) sz) (ww_X10 cI cJ q0 m0) t) (va_A (ww_X10 cI cJ q0 m0) sz)) 0 0 (va_A (ww_X10 cI cJ q0 m0) sz) :=
  met_of (own := RX10) (Qf := fun A => va_Qi (S := Unit) (fun (r : Int32) (_u : Unit) => post r) (fun _u t => AT (dC, dI) (TY cI cJ) A (ww_X10 cI cJ q0 m0) t) A) (by decide) rfl (Nat.le_of_ble_eq_true rfl) rfl (fun p e s m below meth c A cx hA ls hP hD hS hl => w_X10_isGuest_0 cx hA x1 _ _ ls hP hD hS hl h)
theorem mv_X10_isGuest : MV yX10_isGuest cX10_isGuest 2 (some .boolean) 1 := ⟨⟨kw_884, kw_11, by decide +kernel⟩, kw_883, ksel_26⟩
set_option maxHeartbeats 4000000 in
set_option maxRecDepth 100000 in
theorem w_X10_house_0 {p : Program} {l : Launch} {e : Env} {s : State} {m : MethodId} {args : Array Value} {below : List Frame} {meth : Method} {c : Code} {dC : Nat → ClassId} {dI : Nat → Nat → Nat} {cI cJ : ClassId} {A : Nat → Prop} (cx : CX RX10 cX10_house (some .int) 3 p s m args meth c (dC, dI) (TY cI cJ)) (hA : ∀ q, s.heap.size ≤ q → A q) {q0 : Nat → Nat} {post : Int32 → Mem → Prop} : ∀ (x1 : Int32) (x2 : Int32) (m0 : Mem) (H : Heap) (locs : List Loc) (ls : Array Slot), va_P (dC, dI) vwCl (ww_X10 cI cJ q0 m0) H → va_D A (ww_X10 cI cJ q0 m0) → va_S A s.heap H locs → lv_has ls 3 [(0, .ref (q0 0)), (1, .int x1), (2, .int x2)] → b_X10_house_0 post x1 x2 m0 → W p l e ({ frames := 4, cells := 0, slots := 0, locals := 92 }) s m args below meth c H locs 0 0 (MQ below (va_Qi (S := Mem) (fun (r : Int32) (u : Mem) => post r u) (fun u t => AT (dC, dI) (TY cI cJ) A (ww_X10 cI cJ q0 u) t) A) args s 0 0 A) (F0 m 0 ls []) := by
  obtain ⟨hx, hb, hr, hml, hown, hts, hlocks, hK⟩ := id cx
  have cx' : CX RX10 cX10_house (meth.sig.returnType) 3 p s m args meth c (dC, dI) (TY cI cJ) := ⟨hx, hb, rfl, hml, hown, hts, hlocks, hK⟩
  intro x1 x2 m0 H locs ls hP hD hS hl h
  unfold b_X10_house_0 at h
  refine lv_aload_n hx hb dX10_house_0 rfl (lv_at hl 0 rfl) ?_
  refine call_i (run_V (As := []) (rest := []) cx' (c_X10_readsHouses l H.size q0 m0 _ h) mv_X10_readsHouses kw_848 rfl rfl ⟨Nat.le_of_ble_eq_true rfl, Nat.le_of_ble_eq_true rfl⟩ hP hD rfl rfl rfl hl.1 rfl (Nat.le_of_ble_eq_true rfl) dX10_house_1 ⟨Nat.zero_le _, Nat.zero_le _⟩) hD hS hA (fun r_1 u9 H locs hP hD hS h => ?_)
  obtain ⟨m0_2, rfl⟩ : ∃ z, z = u9 := ⟨_, rfl⟩
  have hP : va_P (dC, dI) vwCl (ww_X10 cI cJ q0 m0_2) H := hP
  have hD : va_D A (ww_X10 cI cJ q0 m0_2) := hD
  refine lv_pop hx hb dX10_house_4 rfl ?_
  refine lv_aload_n hx hb dX10_house_5 rfl (lv_at hl 0 rfl) ?_
  refine lv_iload_n hx hb dX10_house_6 rfl (lv_at hl 1 rfl) ?_
  refine call_i (run_V (As := [.int x1]) (rest := []) cx' (c_X10_isHouse l H.size q0 m0_2 x1 _ h) mv_X10_isHouse kw_873 rfl rfl ⟨Nat.le_of_ble_eq_true rfl, Nat.le_of_ble_eq_true rfl⟩ hP hD rfl rfl rfl hl.1 rfl (Nat.le_of_ble_eq_true rfl) dX10_house_7 ⟨Nat.zero_le _, Nat.zero_le _⟩) hD hS hA (fun r_3 u9 H locs hP hD hS h => ?_)
  have hP : va_P (dC, dI) vwCl (ww_X10 cI cJ q0 m0_2) H := hP
  have hD : va_D A (ww_X10 cI cJ q0 m0_2) := hD
  refine lv_if_eq (tgt := 38) hx hb dX10_house_10 (by decide) (fun c_4 => ?_) (fun c_4 => ?_)
  · have h := h.1 c_4
    refine lv_bipush (v := (-2)) hx hb dX10_house_38 (by decide) ?_
    exact rt_i (v := (-2)) (u := m0_2) cx hP hD hS h dX10_house_40
  have h := h.2 c_4
  refine lv_iload_n hx hb dX10_house_13 rfl (lv_at hl 2 rfl) ?_
  refine lv_i2l (v := Int32.toInt64 x2) hx hb dX10_house_14 rfl ?_
  refine lv_lconst (v := 0) hx hb dX10_house_15 (by decide) ?_
  refine lv_ldc2 hx hb hown (hts _ kw_799) dX10_house_16 ?_
  refine callN_i (run_S (As := [.long (Int32.toInt64 x2), .long 0, .long 2]) (rest := []) (wc := []) cx' (c_X10_in l H.size (Int32.toInt64 x2) 0 2 _ h) ms_X10_in kw_796 rfl rfl ⟨Nat.le_of_ble_eq_true rfl, Nat.le_of_ble_eq_true rfl⟩ nilP nilD (A := A) rfl hl.1 rfl (Nat.le_of_ble_eq_true rfl) dX10_house_19 ⟨Nat.zero_le _, Nat.zero_le _⟩) hP hS hA (fun r_5 H locs hP hS h => ?_)
  refine lv_if_eq (tgt := 38) hx hb dX10_house_22 (by decide) (fun c_6 => ?_) (fun c_6 => ?_)
  · have h := h.1 c_6
    refine lv_bipush (v := (-2)) hx hb dX10_house_38 (by decide) ?_
    exact rt_i (v := (-2)) (u := m0_2) cx hP hD hS h dX10_house_40
  have h := h.2 c_6
  refine lv_aload_n hx hb dX10_house_25 rfl (lv_at hl 0 rfl) ?_
  refine gf_v (k := 8) (v := .ref (q0 7)) cx' hP 0 i_X10 rfl rfl (by decide) kw_723 rfl rfl dX10_house_26 ?_
  refine lv_iconst (v := 3) hx hb dX10_house_29 (by decide) ?_
  refine lv_iload_n hx hb dX10_house_30 rfl (lv_at hl 1 rfl) ?_
  refine lv_imul hx hb dX10_house_31 ?_
  refine lv_iload_n hx hb dX10_house_32 rfl (lv_at hl 2 rfl) ?_
  refine lv_iadd hx hb dX10_house_33 ?_
  refine va_iald hx hb hK hP 7 0 rfl rfl h.1 dX10_house_34 ?_
  have h := h.2
  refine lv_goto (tgt := 40) hx hb dX10_house_35 (by decide) ?_
  exact rt_i (v := m0_2 7 (Int32.toNatClampNeg ((3 * x1) + x2))) (u := m0_2) cx hP hD hS h dX10_house_40
set_option maxRecDepth 100000 in
theorem c_X10_house (l : Launch) {dC : Nat → ClassId} {dI : Nat → Nat → Nat} {cI cJ : ClassId} (sz : Nat) (q0 : Nat → Nat) (m0 : Mem) (x1 : Int32) (x2 : Int32) (post : Int32 → Mem → Prop) (h : wp_X10_house m0 x1 x2 post) : Met l yX10_house (Cond.code yX10_house cX10_house 3 (some .int) :: gt) ({ frames := 4, cells := 0, slots := 0, locals := 92 }) (va_Pc [.ref (q0 0), .int x1, .int x2] (PRE (dC, dI) (TY cI cJ) (ww_X10 cI cJ q0 m0) sz)) (va_Qi (S := Mem) (fun (r : Int32) (u : Mem) => post r u) (fun u t => AT (dC, dI) (TY cI cJ) (va_A (ww_X10 cI cJ q0 m0) sz) (ww_X10 cI cJ q0 u) t) (va_A (ww_X10 cI cJ q0 m0) sz)) 0 0 (va_A (ww_X10 cI cJ q0 m0) sz) :=
  met_of (own := RX10) (Qf := fun A => va_Qi (S := Mem) (fun (r : Int32) (u : Mem) => post r u) (fun u t => AT (dC, dI) (TY cI cJ) A (ww_X10 cI cJ q0 u) t) A) (by decide) rfl (Nat.le_of_ble_eq_true rfl) rfl (fun p e s m below meth c A cx hA ls hP hD hS hl => w_X10_house_0 cx hA x1 x2 m0 _ _ ls hP hD hS hl h)
theorem mv_X10_house : MV yX10_house cX10_house 3 (some .int) 2 := ⟨⟨kw_872, kw_11, by decide +kernel⟩, kw_870, kw_871⟩
set_option maxHeartbeats 4000000 in
set_option maxRecDepth 100000 in
theorem w_X10_guest_0 {p : Program} {l : Launch} {e : Env} {s : State} {m : MethodId} {args : Array Value} {below : List Frame} {meth : Method} {c : Code} {dC : Nat → ClassId} {dI : Nat → Nat → Nat} {cI cJ : ClassId} {A : Nat → Prop} (cx : CX RX10 cX10_guest (some .int) 3 p s m args meth c (dC, dI) (TY cI cJ)) (hA : ∀ q, s.heap.size ≤ q → A q) {q0 : Nat → Nat} {post : Int32 → Mem → Prop} : ∀ (x1 : Int32) (x2 : Int32) (m0 : Mem) (H : Heap) (locs : List Loc) (ls : Array Slot), va_P (dC, dI) vwCl (ww_X10 cI cJ q0 m0) H → va_D A (ww_X10 cI cJ q0 m0) → va_S A s.heap H locs → lv_has ls 3 [(0, .ref (q0 0)), (1, .int x1), (2, .int x2)] → b_X10_guest_0 post x1 x2 m0 → W p l e ({ frames := 4, cells := 0, slots := 0, locals := 92 }) s m args below meth c H locs 0 0 (MQ below (va_Qi (S := Mem) (fun (r : Int32) (u : Mem) => post r u) (fun u t => AT (dC, dI) (TY cI cJ) A (ww_X10 cI cJ q0 u) t) A) args s 0 0 A) (F0 m 0 ls []) := by
  obtain ⟨hx, hb, hr, hml, hown, hts, hlocks, hK⟩ := id cx
  have cx' : CX RX10 cX10_guest (meth.sig.returnType) 3 p s m args meth c (dC, dI) (TY cI cJ) := ⟨hx, hb, rfl, hml, hown, hts, hlocks, hK⟩
  intro x1 x2 m0 H locs ls hP hD hS hl h
  unfold b_X10_guest_0 at h
  refine lv_aload_n hx hb dX10_guest_0 rfl (lv_at hl 0 rfl) ?_
  refine call_i (run_V (As := []) (rest := []) cx' (c_X10_readsGuests l H.size q0 m0 _ h) mv_X10_readsGuests kw_858 rfl rfl ⟨Nat.le_of_ble_eq_true rfl, Nat.le_of_ble_eq_true rfl⟩ hP hD rfl rfl rfl hl.1 rfl (Nat.le_of_ble_eq_true rfl) dX10_guest_1 ⟨Nat.zero_le _, Nat.zero_le _⟩) hD hS hA (fun r_1 u9 H locs hP hD hS h => ?_)
  obtain ⟨m0_2, rfl⟩ : ∃ z, z = u9 := ⟨_, rfl⟩
  have hP : va_P (dC, dI) vwCl (ww_X10 cI cJ q0 m0_2) H := hP
  have hD : va_D A (ww_X10 cI cJ q0 m0_2) := hD
  refine lv_pop hx hb dX10_guest_4 rfl ?_
  refine lv_aload_n hx hb dX10_guest_5 rfl (lv_at hl 0 rfl) ?_
  refine lv_iload_n hx hb dX10_guest_6 rfl (lv_at hl 1 rfl) ?_
  refine call_i (run_V (As := [.int x1]) (rest := []) cx' (c_X10_isGuest l H.size q0 m0_2 x1 _ h) mv_X10_isGuest kw_881 rfl rfl ⟨Nat.le_of_ble_eq_true rfl, Nat.le_of_ble_eq_true rfl⟩ hP hD rfl rfl rfl hl.1 rfl (Nat.le_of_ble_eq_true rfl) dX10_guest_7 ⟨Nat.zero_le _, Nat.zero_le _⟩) hD hS hA (fun r_3 u9 H locs hP hD hS h => ?_)
  have hP : va_P (dC, dI) vwCl (ww_X10 cI cJ q0 m0_2) H := hP
  have hD : va_D A (ww_X10 cI cJ q0 m0_2) := hD
  refine lv_if_eq (tgt := 38) hx hb dX10_guest_10 (by decide) (fun c_4 => ?_) (fun c_4 => ?_)
  · have h := h.1 c_4
    refine lv_bipush (v := (-2)) hx hb dX10_guest_38 (by decide) ?_
    exact rt_i (v := (-2)) (u := m0_2) cx hP hD hS h dX10_guest_40
  have h := h.2 c_4
  refine lv_iload_n hx hb dX10_guest_13 rfl (lv_at hl 2 rfl) ?_
  refine lv_i2l (v := Int32.toInt64 x2) hx hb dX10_guest_14 rfl ?_
  refine lv_lconst (v := 0) hx hb dX10_guest_15 (by decide) ?_
  refine lv_ldc2 hx hb hown (hts _ kw_795) dX10_guest_16 ?_
  refine callN_i (run_S (As := [.long (Int32.toInt64 x2), .long 0, .long 3]) (rest := []) (wc := []) cx' (c_X10_in l H.size (Int32.toInt64 x2) 0 3 _ h) ms_X10_in kw_796 rfl rfl ⟨Nat.le_of_ble_eq_true rfl, Nat.le_of_ble_eq_true rfl⟩ nilP nilD (A := A) rfl hl.1 rfl (Nat.le_of_ble_eq_true rfl) dX10_guest_19 ⟨Nat.zero_le _, Nat.zero_le _⟩) hP hS hA (fun r_5 H locs hP hS h => ?_)
  refine lv_if_eq (tgt := 38) hx hb dX10_guest_22 (by decide) (fun c_6 => ?_) (fun c_6 => ?_)
  · have h := h.1 c_6
    refine lv_bipush (v := (-2)) hx hb dX10_guest_38 (by decide) ?_
    exact rt_i (v := (-2)) (u := m0_2) cx hP hD hS h dX10_guest_40
  have h := h.2 c_6
  refine lv_aload_n hx hb dX10_guest_25 rfl (lv_at hl 0 rfl) ?_
  refine gf_v (k := 10) (v := .ref (q0 8)) cx' hP 0 i_X10 rfl rfl (by decide) kw_725 rfl rfl dX10_guest_26 ?_
  refine lv_iconst (v := 4) hx hb dX10_guest_29 (by decide) ?_
  refine lv_iload_n hx hb dX10_guest_30 rfl (lv_at hl 1 rfl) ?_
  refine lv_imul hx hb dX10_guest_31 ?_
  refine lv_iload_n hx hb dX10_guest_32 rfl (lv_at hl 2 rfl) ?_
  refine lv_iadd hx hb dX10_guest_33 ?_
  refine va_iald hx hb hK hP 8 0 rfl rfl h.1 dX10_guest_34 ?_
  have h := h.2
  refine lv_goto (tgt := 40) hx hb dX10_guest_35 (by decide) ?_
  exact rt_i (v := m0_2 8 (Int32.toNatClampNeg ((4 * x1) + x2))) (u := m0_2) cx hP hD hS h dX10_guest_40
set_option maxRecDepth 100000 in
theorem c_X10_guest (l : Launch) {dC : Nat → ClassId} {dI : Nat → Nat → Nat} {cI cJ : ClassId} (sz : Nat) (q0 : Nat → Nat) (m0 : Mem) (x1 : Int32) (x2 : Int32) (post : Int32 → Mem → Prop) (h : wp_X10_guest m0 x1 x2 post) : Met l yX10_guest (Cond.code yX10_guest cX10_guest 3 (some .int) :: gt) ({ frames := 4, cells := 0, slots := 0, locals := 92 }) (va_Pc [.ref (q0 0), .int x1, .int x2] (PRE (dC, dI) (TY cI cJ) (ww_X10 cI cJ q0 m0) sz)) (va_Qi (S := Mem) (fun (r : Int32) (u : Mem) => post r u) (fun u t => AT (dC, dI) (TY cI cJ) (va_A (ww_X10 cI cJ q0 m0) sz) (ww_X10 cI cJ q0 u) t) (va_A (ww_X10 cI cJ q0 m0) sz)) 0 0 (va_A (ww_X10 cI cJ q0 m0) sz) :=
  met_of (own := RX10) (Qf := fun A => va_Qi (S := Mem) (fun (r : Int32) (u : Mem) => post r u) (fun u t => AT (dC, dI) (TY cI cJ) A (ww_X10 cI cJ q0 u) t) A) (by decide) rfl (Nat.le_of_ble_eq_true rfl) rfl (fun p e s m below meth c A cx hA ls hP hD hS hl => w_X10_guest_0 cx hA x1 x2 m0 _ _ ls hP hD hS hl h)
theorem mv_X10_guest : MV yX10_guest cX10_guest 3 (some .int) 2 := ⟨⟨kw_880, kw_11, by decide +kernel⟩, kw_878, kw_879⟩
set_option maxHeartbeats 4000000 in
set_option maxRecDepth 100000 in
theorem w_X10_set_0 {p : Program} {l : Launch} {e : Env} {s : State} {m : MethodId} {args : Array Value} {below : List Frame} {meth : Method} {c : Code} {dC : Nat → ClassId} {dI : Nat → Nat → Nat} {cI cJ : ClassId} {A : Nat → Prop} (cx : CX RX10 cX10_set (some .int) 4 p s m args meth c (dC, dI) (TY cI cJ)) (hA : ∀ q, s.heap.size ≤ q → A q) {q0 : Nat → Nat} {post : Int32 → Mem → Prop} : ∀ (x1 : Int32) (x2 : Int32) (m0 : Mem) (H : Heap) (locs : List Loc) (ls : Array Slot), va_P (dC, dI) vwCl (ww_X10 cI cJ q0 m0) H → va_D A (ww_X10 cI cJ q0 m0) → va_S A s.heap H locs → lv_has ls 4 [(0, .ref (q0 0)), (1, .int x1), (2, .int x2)] → b_X10_set_0 post x1 x2 m0 → W p l e ({ frames := 2, cells := 0, slots := 0, locals := 45 }) s m args below meth c H locs 0 0 (MQ below (va_Qi (S := Mem) (fun (r : Int32) (u : Mem) => post r u) (fun u t => AT (dC, dI) (TY cI cJ) A (ww_X10 cI cJ q0 u) t) A) args s 0 0 A) (F0 m 0 ls []) := by
  obtain ⟨hx, hb, hr, hml, hown, hts, hlocks, hK⟩ := id cx
  have cx' : CX RX10 cX10_set (meth.sig.returnType) 4 p s m args meth c (dC, dI) (TY cI cJ) := ⟨hx, hb, rfl, hml, hown, hts, hlocks, hK⟩
  intro x1 x2 m0 H locs ls hP hD hS hl h
  unfold b_X10_set_0 at h
  refine lv_iload_n hx hb dX10_set_0 rfl (lv_at hl 1 rfl) ?_
  refine callN_i (run_S (As := [.int x1]) (rest := []) (wc := []) cx' (c_X10_isTwo l H.size x1 _ h) ms_X10_isTwo kw_832 rfl rfl ⟨Nat.le_of_ble_eq_true rfl, Nat.le_of_ble_eq_true rfl⟩ nilP nilD (A := A) rfl hl.1 rfl (Nat.le_of_ble_eq_true rfl) dX10_set_1 ⟨Nat.zero_le _, Nat.zero_le _⟩) hP hS hA (fun r_1 H locs hP hS h => ?_)
  refine lv_if_eq (tgt := 27) hx hb dX10_set_4 (by decide) (fun c_2 => ?_) (fun c_2 => ?_)
  · have h := h.1 c_2
    refine lv_bipush (v := (-2)) hx hb dX10_set_27 (by decide) ?_
    exact rt_i (v := (-2)) (u := m0) cx hP hD hS h dX10_set_29
  have h := h.2 c_2
  refine lv_iload_n hx hb dX10_set_7 rfl (lv_at hl 2 rfl) ?_
  refine lv_i2l (v := Int32.toInt64 x2) hx hb dX10_set_8 rfl ?_
  refine lv_lconst (v := 0) hx hb dX10_set_9 (by decide) ?_
  refine lv_iload_n hx hb dX10_set_10 rfl (lv_at hl 1 rfl) ?_
  refine dia_l (ls := ls) (c0 := x1 = 0) (a := 1) (b := 255) (J := 21) (rest := [.long 0, .long (Int32.toInt64 x2)]) (fun K => ?_) (fun v_4 ev_4 => ?_)
  · refine lv_if_ne (tgt := 18) hx hb dX10_set_11 (by decide) (fun c_3 => ?_) (fun c_3 => ?_)
    · refine lv_ldc2 hx hb hown (hts _ kw_835) dX10_set_18 ?_
      exact K _ (Or.inr ⟨c_3, rfl⟩)
    · refine lv_lconst (v := 1) hx hb dX10_set_14 (by decide) ?_
      refine lv_goto (tgt := 21) hx hb dX10_set_15 (by decide) ?_
      exact K _ (Or.inl ⟨c_3, rfl⟩)
  have h := h v_4 ev_4
  refine callN_i (run_S (As := [.long (Int32.toInt64 x2), .long 0, .long v_4]) (rest := []) (wc := []) cx' (c_X10_in l H.size (Int32.toInt64 x2) 0 v_4 _ h) ms_X10_in kw_796 rfl rfl ⟨Nat.le_of_ble_eq_true rfl, Nat.le_of_ble_eq_true rfl⟩ nilP nilD (A := A) rfl hl.1 rfl (Nat.le_of_ble_eq_true rfl) dX10_set_21 ⟨Nat.zero_le _, Nat.zero_le _⟩) hP hS hA (fun r_5 H locs hP hS h => ?_)
  refine lv_if_ne (tgt := 30) hx hb dX10_set_24 (by decide) (fun c_6 => ?_) (fun c_6 => ?_)
  · have h := h.1 c_6
    refine lv_aload_n hx hb dX10_set_30 rfl (lv_at hl 0 rfl) ?_
    refine gf_v (k := 11) (v := .ref (q0 9)) cx' hP 0 i_X10 rfl rfl (by decide) kw_726 rfl rfl dX10_set_31 ?_
    refine lv_iload_n hx hb dX10_set_34 rfl (lv_at hl 1 rfl) ?_
    refine va_iald hx hb hK hP 9 0 rfl rfl h.1 dX10_set_35 ?_
    have h := h.2
    refine lv_topi (fun x3_7 ex3_7 => ?_)
    have h := h x3_7 ex3_7
    refine lv_istore_n (lv' := [(3, .int x3_7), (0, .ref (q0 0)), (1, .int x1), (2, .int x2)]) hx hb dX10_set_36 rfl hl (by decide) rfl (fun ls hl => ?_)
    refine lv_aload_n hx hb dX10_set_37 rfl (lv_at hl 1 rfl) ?_
    refine gf_v (k := 11) (v := .ref (q0 9)) cx' hP 0 i_X10 rfl rfl (by decide) kw_726 rfl rfl dX10_set_38 ?_
    refine lv_iload_n hx hb dX10_set_41 rfl (lv_at hl 2 rfl) ?_
    refine lv_iload_n hx hb dX10_set_42 rfl (lv_at hl 3 rfl) ?_
    obtain ⟨m0_8, em0_8⟩ : ∃ z : Mem, z = up2 m0 9 (Int32.toNatClampNeg x1) x2 := ⟨_, rfl⟩
    have h1 := h.1
    have h := h.2 m0_8 em0_8
    refine st_i hx hb hK hP hD hS 9 0 (ww_X10 cI cJ q0 m0_8) rfl rfl h1 dX10_set_43 (by subst em0_8; rfl) (fun H locs hP hD hS => ?_)
    refine lv_iload_n hx hb dX10_set_44 rfl (lv_at hl 0 rfl) ?_
    exact rt_i (v := x3_7) (u := m0_8) cx hP hD hS h dX10_set_45
  have h := h.2 c_6
  refine lv_bipush (v := (-2)) hx hb dX10_set_27 (by decide) ?_
  exact rt_i (v := (-2)) (u := m0) cx hP hD hS h dX10_set_29
set_option maxRecDepth 100000 in
theorem c_X10_set (l : Launch) {dC : Nat → ClassId} {dI : Nat → Nat → Nat} {cI cJ : ClassId} (sz : Nat) (q0 : Nat → Nat) (m0 : Mem) (x1 : Int32) (x2 : Int32) (post : Int32 → Mem → Prop) (h : wp_X10_set m0 x1 x2 post) : Met l yX10_set (Cond.code yX10_set cX10_set 4 (some .int) :: gt) ({ frames := 2, cells := 0, slots := 0, locals := 45 }) (va_Pc [.ref (q0 0), .int x1, .int x2] (PRE (dC, dI) (TY cI cJ) (ww_X10 cI cJ q0 m0) sz)) (va_Qi (S := Mem) (fun (r : Int32) (u : Mem) => post r u) (fun u t => AT (dC, dI) (TY cI cJ) (va_A (ww_X10 cI cJ q0 m0) sz) (ww_X10 cI cJ q0 u) t) (va_A (ww_X10 cI cJ q0 m0) sz)) 0 0 (va_A (ww_X10 cI cJ q0 m0) sz) :=
  met_of (own := RX10) (Qf := fun A => va_Qi (S := Mem) (fun (r : Int32) (u : Mem) => post r u) (fun u t => AT (dC, dI) (TY cI cJ) A (ww_X10 cI cJ q0 u) t) A) (by decide) rfl (Nat.le_of_ble_eq_true rfl) rfl (fun p e s m below meth c A cx hA ls hP hD hS hl => w_X10_set_0 cx hA x1 x2 m0 _ _ ls hP hD hS hl h)
theorem mv_X10_set : MV yX10_set cX10_set 4 (some .int) 2 := ⟨⟨kw_888, kw_11, by decide +kernel⟩, kw_886, kw_887⟩
set_option maxHeartbeats 4000000 in
set_option maxRecDepth 100000 in
theorem w_X10_findRow_2 {p : Program} {l : Launch} {e : Env} {s : State} {m : MethodId} {args : Array Value} {below : List Frame} {meth : Method} {c : Code} {dC : Nat → ClassId} {dI : Nat → Nat → Nat} {cI cJ : ClassId} {A : Nat → Prop} (cx : CX RX10 cX10_findRow none 2 p s m args meth c (dC, dI) (TY cI cJ)) (hA : ∀ q, s.heap.size ≤ q → A q) {q0 : Nat → Nat} {post : Mem → Prop} : ∀ (n : Nat) (x1 : Int32) (m0 : Mem) (H : Heap) (locs : List Loc) (ls : Array Slot), va_P (dC, dI) vwCl (ww_X10 cI cJ q0 m0) H → va_D A (ww_X10 cI cJ q0 m0) → va_S A s.heap H locs → lv_has ls 2 [(0, .ref (q0 0)), (1, .int x1)] → b_X10_findRow_2 post n x1 m0 → W p l e ({ frames := 0, cells := 0, slots := 0, locals := 0 }) s m args below meth c H locs 0 0 (MQ below (va_Qv (S := Mem) (fun (u : Mem) => post u) (fun u t => AT (dC, dI) (TY cI cJ) A (ww_X10 cI cJ q0 u) t) A) args s 0 0 A) (F0 m 2 ls []) := by
  obtain ⟨hx, hb, hr, hml, hown, hts, hlocks, hK⟩ := id cx
  have cx' : CX RX10 cX10_findRow (meth.sig.returnType) 2 p s m args meth c (dC, dI) (TY cI cJ) := ⟨hx, hb, rfl, hml, hown, hts, hlocks, hK⟩
  intro n
  induction n with
  | zero =>
    intro x1 m0 H locs ls hP hD hS hl h
    exact False.elim h
  | succ n ih =>
    intro x1 m0 H locs ls hP hD hS hl h
    unfold b_X10_findRow_2 at h
    refine lv_iload_n hx hb dX10_findRow_2 rfl (lv_at hl 1 rfl) ?_
    refine lv_aload_n hx hb dX10_findRow_3 rfl (lv_at hl 0 rfl) ?_
    refine gf_v (k := 7) (v := .int (m0 0 7)) cx' hP 0 i_X10 rfl rfl (by decide) kw_722 rfl rfl dX10_findRow_4 ?_
    refine lv_icmp_ge (tgt := 44) hx hb dX10_findRow_7 (by decide) (fun c_1 => ?_) (fun c_1 => ?_)
    · have h := h.1 c_1
      exact rt_v (u := m0) cx hP hD hS h dX10_findRow_44
    have h := h.2 c_1
    refine lv_aload_n hx hb dX10_findRow_10 rfl (lv_at hl 0 rfl) ?_
    refine gf_v (k := 12) (v := .ref (q0 10)) cx' hP 0 i_X10 rfl rfl (by decide) kw_727 rfl rfl dX10_findRow_11 ?_
    refine lv_iload_n hx hb dX10_findRow_14 rfl (lv_at hl 1 rfl) ?_
    refine lv_aload_n hx hb dX10_findRow_15 rfl (lv_at hl 0 rfl) ?_
    refine gf_v (k := 11) (v := .ref (q0 9)) cx' hP 0 i_X10 rfl rfl (by decide) kw_726 rfl rfl dX10_findRow_16 ?_
    refine lv_iconst (v := 0) hx hb dX10_findRow_19 (by decide) ?_
    refine va_iald hx hb hK hP 9 0 rfl rfl h.1 dX10_findRow_20 ?_
    have h := h.2
    refine lv_iconst (v := 1) hx hb dX10_findRow_21 (by decide) ?_
    refine dia_i (ls := ls) (c0 := (m0 9 (Int32.toNatClampNeg 0)) = 1) (a := ((m0 0 7) - 1) - x1) (b := x1) (J := 37) (rest := [.int x1, .ref (q0 10)]) (fun K => ?_) (fun v_3 ev_3 => ?_)
    · refine lv_icmp_ne (tgt := 36) hx hb dX10_findRow_22 (by decide) (fun c_2 => ?_) (fun c_2 => ?_)
      · refine lv_iload_n hx hb dX10_findRow_36 rfl (lv_at hl 1 rfl) ?_
        exact K _ (Or.inr ⟨c_2, rfl⟩)
      · refine lv_aload_n hx hb dX10_findRow_25 rfl (lv_at hl 0 rfl) ?_
        refine gf_v (k := 7) (v := .int (m0 0 7)) cx' hP 0 i_X10 rfl rfl (by decide) kw_722 rfl rfl dX10_findRow_26 ?_
        refine lv_iconst (v := 1) hx hb dX10_findRow_29 (by decide) ?_
        refine lv_isub hx hb dX10_findRow_30 ?_
        refine lv_iload_n hx hb dX10_findRow_31 rfl (lv_at hl 1 rfl) ?_
        refine lv_isub hx hb dX10_findRow_32 ?_
        refine lv_goto (tgt := 37) hx hb dX10_findRow_33 (by decide) ?_
        exact K _ (Or.inl ⟨c_2, rfl⟩)
    have h := h v_3 ev_3
    obtain ⟨m0_4, em0_4⟩ : ∃ z : Mem, z = up2 m0 10 (Int32.toNatClampNeg x1) v_3 := ⟨_, rfl⟩
    have h1 := h.1
    have h := h.2 m0_4 em0_4
    refine st_i hx hb hK hP hD hS 10 0 (ww_X10 cI cJ q0 m0_4) rfl rfl h1 dX10_findRow_37 (by subst em0_4; rfl) (fun H locs hP hD hS => ?_)
    obtain ⟨x1_5, ex1_5⟩ : ∃ z : Int32, z = x1 + 1 := ⟨_, rfl⟩
    have h := h x1_5 ex1_5
    refine lv_iinc (v := x1_5) (lv' := [(1, .int x1_5), (0, .ref (q0 0))]) hx hb dX10_findRow_38 hl (k := 1) rfl (by rw [ex1_5]; rfl) (by decide) rfl (fun ls hl => ?_)
    refine lv_goto (tgt := 2) hx hb dX10_findRow_41 (by decide) ?_
    exact ih x1_5 m0_4 H locs ls hP hD hS (lv_sub hl [1, 0] rfl) h
set_option maxHeartbeats 4000000 in
set_option maxRecDepth 100000 in
theorem w_X10_findRow_0 {p : Program} {l : Launch} {e : Env} {s : State} {m : MethodId} {args : Array Value} {below : List Frame} {meth : Method} {c : Code} {dC : Nat → ClassId} {dI : Nat → Nat → Nat} {cI cJ : ClassId} {A : Nat → Prop} (cx : CX RX10 cX10_findRow none 2 p s m args meth c (dC, dI) (TY cI cJ)) (hA : ∀ q, s.heap.size ≤ q → A q) {q0 : Nat → Nat} {post : Mem → Prop} : ∀ (m0 : Mem) (H : Heap) (locs : List Loc) (ls : Array Slot), va_P (dC, dI) vwCl (ww_X10 cI cJ q0 m0) H → va_D A (ww_X10 cI cJ q0 m0) → va_S A s.heap H locs → lv_has ls 2 [(0, .ref (q0 0))] → b_X10_findRow_0 post m0 → W p l e ({ frames := 0, cells := 0, slots := 0, locals := 0 }) s m args below meth c H locs 0 0 (MQ below (va_Qv (S := Mem) (fun (u : Mem) => post u) (fun u t => AT (dC, dI) (TY cI cJ) A (ww_X10 cI cJ q0 u) t) A) args s 0 0 A) (F0 m 0 ls []) := by
  obtain ⟨hx, hb, hr, hml, hown, hts, hlocks, hK⟩ := id cx
  have cx' : CX RX10 cX10_findRow (meth.sig.returnType) 2 p s m args meth c (dC, dI) (TY cI cJ) := ⟨hx, hb, rfl, hml, hown, hts, hlocks, hK⟩
  intro m0 H locs ls hP hD hS hl h
  unfold b_X10_findRow_0 at h
  refine lv_iconst (v := 0) hx hb dX10_findRow_0 (by decide) ?_
  refine lv_istore_n (lv' := [(1, .int 0), (0, .ref (q0 0))]) hx hb dX10_findRow_1 rfl hl (by decide) rfl (fun ls hl => ?_)
  obtain ⟨n_1, h⟩ := h
  exact w_X10_findRow_2 cx hA n_1 0 m0 H locs ls hP hD hS (lv_sub hl [1, 0] rfl) h
set_option maxRecDepth 100000 in
theorem c_X10_findRow (l : Launch) {dC : Nat → ClassId} {dI : Nat → Nat → Nat} {cI cJ : ClassId} (sz : Nat) (q0 : Nat → Nat) (m0 : Mem) (post : Mem → Prop) (h : wp_X10_findRow m0 post) : Met l yX10_findRow (Cond.code yX10_findRow cX10_findRow 2 none :: gt) ({ frames := 0, cells := 0, slots := 0, locals := 0 }) (va_Pc [.ref (q0 0)] (PRE (dC, dI) (TY cI cJ) (ww_X10 cI cJ q0 m0) sz)) (va_Qv (S := Mem) (fun (u : Mem) => post u) (fun u t => AT (dC, dI) (TY cI cJ) (va_A (ww_X10 cI cJ q0 m0) sz) (ww_X10 cI cJ q0 u) t) (va_A (ww_X10 cI cJ q0 m0) sz)) 0 0 (va_A (ww_X10 cI cJ q0 m0) sz) :=
  met_of (own := RX10) (Qf := fun A => va_Qv (S := Mem) (fun (u : Mem) => post u) (fun u t => AT (dC, dI) (TY cI cJ) A (ww_X10 cI cJ q0 u) t) A) (by decide) rfl (Nat.le_of_ble_eq_true rfl) rfl (fun p e s m below meth c A cx hA ls hP hD hS hl => w_X10_findRow_0 cx hA m0 _ _ ls hP hD hS hl h)
theorem mv_X10_findRow : MV yX10_findRow cX10_findRow 2 none 0 := ⟨⟨kw_900, kw_11, by decide +kernel⟩, kw_899, ksel_28⟩
set_option maxHeartbeats 4000000 in
set_option maxRecDepth 100000 in
theorem w_X10_reads_0 {p : Program} {l : Launch} {e : Env} {s : State} {m : MethodId} {args : Array Value} {below : List Frame} {meth : Method} {c : Code} {dC : Nat → ClassId} {dI : Nat → Nat → Nat} {cI cJ : ClassId} {A : Nat → Prop} (cx : CX RX10 cX10_reads none 1 p s m args meth c (dC, dI) (TY cI cJ)) (hA : ∀ q, s.heap.size ≤ q → A q) {q0 : Nat → Nat} {post : Mem → Prop} : ∀ (m0 : Mem) (H : Heap) (locs : List Loc) (ls : Array Slot), va_P (dC, dI) vwCl (ww_X10 cI cJ q0 m0) H → va_D A (ww_X10 cI cJ q0 m0) → va_S A s.heap H locs → lv_has ls 1 [(0, .ref (q0 0))] → b_X10_reads_0 post m0 → W p l e ({ frames := 4, cells := 0, slots := 0, locals := 92 }) s m args below meth c H locs 0 0 (MQ below (va_Qv (S := Mem) (fun (u : Mem) => post u) (fun u t => AT (dC, dI) (TY cI cJ) A (ww_X10 cI cJ q0 u) t) A) args s 0 0 A) (F0 m 0 ls []) := by
  obtain ⟨hx, hb, hr, hml, hown, hts, hlocks, hK⟩ := id cx
  have cx' : CX RX10 cX10_reads (meth.sig.returnType) 1 p s m args meth c (dC, dI) (TY cI cJ) := ⟨hx, hb, rfl, hml, hown, hts, hlocks, hK⟩
  intro m0 H locs ls hP hD hS hl h
  unfold b_X10_reads_0 at h
  refine lv_aload_n hx hb dX10_reads_0 rfl (lv_at hl 0 rfl) ?_
  refine call_i (run_V (As := []) (rest := []) cx' (c_X10_readsHouses l H.size q0 m0 _ h) mv_X10_readsHouses kw_848 rfl rfl ⟨Nat.le_of_ble_eq_true rfl, Nat.le_of_ble_eq_true rfl⟩ hP hD rfl rfl rfl hl.1 rfl (Nat.le_of_ble_eq_true rfl) dX10_reads_1 ⟨Nat.zero_le _, Nat.zero_le _⟩) hD hS hA (fun r_1 u9 H locs hP hD hS h => ?_)
  obtain ⟨m0_2, rfl⟩ : ∃ z, z = u9 := ⟨_, rfl⟩
  have hP : va_P (dC, dI) vwCl (ww_X10 cI cJ q0 m0_2) H := hP
  have hD : va_D A (ww_X10 cI cJ q0 m0_2) := hD
  refine lv_pop hx hb dX10_reads_4 rfl ?_
  refine lv_aload_n hx hb dX10_reads_5 rfl (lv_at hl 0 rfl) ?_
  refine call_i (run_V (As := []) (rest := []) cx' (c_X10_readsGuests l H.size q0 m0_2 _ h) mv_X10_readsGuests kw_858 rfl rfl ⟨Nat.le_of_ble_eq_true rfl, Nat.le_of_ble_eq_true rfl⟩ hP hD rfl rfl rfl hl.1 rfl (Nat.le_of_ble_eq_true rfl) dX10_reads_6 ⟨Nat.zero_le _, Nat.zero_le _⟩) hD hS hA (fun r_3 u9 H locs hP hD hS h => ?_)
  obtain ⟨m0_4, rfl⟩ : ∃ z, z = u9 := ⟨_, rfl⟩
  have hP : va_P (dC, dI) vwCl (ww_X10 cI cJ q0 m0_4) H := hP
  have hD : va_D A (ww_X10 cI cJ q0 m0_4) := hD
  refine lv_pop hx hb dX10_reads_9 rfl ?_
  refine lv_aload_n hx hb dX10_reads_10 rfl (lv_at hl 0 rfl) ?_
  refine call_v (run_V (As := []) (rest := []) cx' (c_X10_findRow l H.size q0 m0_4 _ h) mv_X10_findRow kw_897 rfl rfl ⟨Nat.le_of_ble_eq_true rfl, Nat.le_of_ble_eq_true rfl⟩ hP hD rfl rfl rfl hl.1 rfl (Nat.le_of_ble_eq_true rfl) dX10_reads_11 ⟨Nat.zero_le _, Nat.zero_le _⟩) hD hS hA (fun u9 H locs hP hD hS h => ?_)
  obtain ⟨m0_5, rfl⟩ : ∃ z, z = u9 := ⟨_, rfl⟩
  have hP : va_P (dC, dI) vwCl (ww_X10 cI cJ q0 m0_5) H := hP
  have hD : va_D A (ww_X10 cI cJ q0 m0_5) := hD
  exact rt_v (u := m0_5) cx hP hD hS h dX10_reads_14
set_option maxRecDepth 100000 in
theorem c_X10_reads (l : Launch) {dC : Nat → ClassId} {dI : Nat → Nat → Nat} {cI cJ : ClassId} (sz : Nat) (q0 : Nat → Nat) (m0 : Mem) (post : Mem → Prop) (h : wp_X10_reads m0 post) : Met l yX10_reads (Cond.code yX10_reads cX10_reads 1 none :: gt) ({ frames := 4, cells := 0, slots := 0, locals := 92 }) (va_Pc [.ref (q0 0)] (PRE (dC, dI) (TY cI cJ) (ww_X10 cI cJ q0 m0) sz)) (va_Qv (S := Mem) (fun (u : Mem) => post u) (fun u t => AT (dC, dI) (TY cI cJ) (va_A (ww_X10 cI cJ q0 m0) sz) (ww_X10 cI cJ q0 u) t) (va_A (ww_X10 cI cJ q0 m0) sz)) 0 0 (va_A (ww_X10 cI cJ q0 m0) sz) :=
  met_of (own := RX10) (Qf := fun A => va_Qv (S := Mem) (fun (u : Mem) => post u) (fun u t => AT (dC, dI) (TY cI cJ) A (ww_X10 cI cJ q0 u) t) A) (by decide) rfl (Nat.le_of_ble_eq_true rfl) rfl (fun p e s m below meth c A cx hA ls hP hD hS hl => w_X10_reads_0 cx hA m0 _ _ ls hP hD hS hl h)
theorem mv_X10_reads : MV yX10_reads cX10_reads 1 none 0 := ⟨⟨kw_896, kw_11, by decide +kernel⟩, kw_895, ksel_27⟩
set_option maxHeartbeats 4000000 in
set_option maxRecDepth 100000 in
theorem w_X10_at_0 {p : Program} {l : Launch} {e : Env} {s : State} {m : MethodId} {args : Array Value} {below : List Frame} {meth : Method} {c : Code} {dC : Nat → ClassId} {dI : Nat → Nat → Nat} {cI cJ : ClassId} {A : Nat → Prop} (cx : CX RX10 cX10_at (some .int) 2 p s m args meth c (dC, dI) (TY cI cJ)) (hA : ∀ q, s.heap.size ≤ q → A q) {q0 : Nat → Nat} {post : Int32 → Mem → Prop} : ∀ (x1 : Int32) (m0 : Mem) (H : Heap) (locs : List Loc) (ls : Array Slot), va_P (dC, dI) vwCl (ww_X10 cI cJ q0 m0) H → va_D A (ww_X10 cI cJ q0 m0) → va_S A s.heap H locs → lv_has ls 2 [(0, .ref (q0 0)), (1, .int x1)] → b_X10_at_0 post x1 m0 → W p l e ({ frames := 5, cells := 0, slots := 0, locals := 112 }) s m args below meth c H locs 0 0 (MQ below (va_Qi (S := Mem) (fun (r : Int32) (u : Mem) => post r u) (fun u t => AT (dC, dI) (TY cI cJ) A (ww_X10 cI cJ q0 u) t) A) args s 0 0 A) (F0 m 0 ls []) := by
  obtain ⟨hx, hb, hr, hml, hown, hts, hlocks, hK⟩ := id cx
  have cx' : CX RX10 cX10_at (meth.sig.returnType) 2 p s m args meth c (dC, dI) (TY cI cJ) := ⟨hx, hb, rfl, hml, hown, hts, hlocks, hK⟩
  intro x1 m0 H locs ls hP hD hS hl h
  unfold b_X10_at_0 at h
  refine lv_aload_n hx hb dX10_at_0 rfl (lv_at hl 0 rfl) ?_
  refine call_v (run_V (As := []) (rest := []) cx' (c_X10_reads l H.size q0 m0 _ h) mv_X10_reads kw_893 rfl rfl ⟨Nat.le_of_ble_eq_true rfl, Nat.le_of_ble_eq_true rfl⟩ hP hD rfl rfl rfl hl.1 rfl (Nat.le_of_ble_eq_true rfl) dX10_at_1 ⟨Nat.zero_le _, Nat.zero_le _⟩) hD hS hA (fun u9 H locs hP hD hS h => ?_)
  obtain ⟨m0_1, rfl⟩ : ∃ z, z = u9 := ⟨_, rfl⟩
  have hP : va_P (dC, dI) vwCl (ww_X10 cI cJ q0 m0_1) H := hP
  have hD : va_D A (ww_X10 cI cJ q0 m0_1) := hD
  refine lv_iload_n hx hb dX10_at_4 rfl (lv_at hl 1 rfl) ?_
  refine lv_i2l (v := Int32.toInt64 x1) hx hb dX10_at_5 rfl ?_
  refine lv_lconst (v := 0) hx hb dX10_at_6 (by decide) ?_
  refine lv_ldc2 hx hb hown (hts _ kw_901) dX10_at_7 ?_
  refine callN_i (run_S (As := [.long (Int32.toInt64 x1), .long 0, .long 7]) (rest := []) (wc := []) cx' (c_X10_in l H.size (Int32.toInt64 x1) 0 7 _ h) ms_X10_in kw_796 rfl rfl ⟨Nat.le_of_ble_eq_true rfl, Nat.le_of_ble_eq_true rfl⟩ nilP nilD (A := A) rfl hl.1 rfl (Nat.le_of_ble_eq_true rfl) dX10_at_10 ⟨Nat.zero_le _, Nat.zero_le _⟩) hP hS hA (fun r_2 H locs hP hS h => ?_)
  refine lv_if_ne (tgt := 21) hx hb dX10_at_13 (by decide) (fun c_3 => ?_) (fun c_3 => ?_)
  · have h := h.1 c_3
    refine lv_iload_n hx hb dX10_at_21 rfl (lv_at hl 1 rfl) ?_
    refine lv_aload_n hx hb dX10_at_22 rfl (lv_at hl 0 rfl) ?_
    refine gf_v (k := 7) (v := .int (m0_1 0 7)) cx' hP 0 i_X10 rfl rfl (by decide) kw_722 rfl rfl dX10_at_23 ?_
    refine lv_icmp_ge (tgt := 38) hx hb dX10_at_26 (by decide) (fun c_4 => ?_) (fun c_4 => ?_)
    · have h := h.1 c_4
      refine lv_iconst (v := (-1)) hx hb dX10_at_38 (by decide) ?_
      exact rt_i (v := (-1)) (u := m0_1) cx hP hD hS h dX10_at_39
    have h := h.2 c_4
    refine lv_aload_n hx hb dX10_at_29 rfl (lv_at hl 0 rfl) ?_
    refine gf_v (k := 12) (v := .ref (q0 10)) cx' hP 0 i_X10 rfl rfl (by decide) kw_727 rfl rfl dX10_at_30 ?_
    refine lv_iload_n hx hb dX10_at_33 rfl (lv_at hl 1 rfl) ?_
    refine va_iald hx hb hK hP 10 0 rfl rfl h.1 dX10_at_34 ?_
    have h := h.2
    refine lv_goto (tgt := 39) hx hb dX10_at_35 (by decide) ?_
    exact rt_i (v := m0_1 10 (Int32.toNatClampNeg x1)) (u := m0_1) cx hP hD hS h dX10_at_39
  have h := h.2 c_3
  refine lv_bipush (v := (-2)) hx hb dX10_at_16 (by decide) ?_
  refine lv_goto (tgt := 39) hx hb dX10_at_18 (by decide) ?_
  exact rt_i (v := (-2)) (u := m0_1) cx hP hD hS h dX10_at_39
set_option maxRecDepth 100000 in
theorem c_X10_at (l : Launch) {dC : Nat → ClassId} {dI : Nat → Nat → Nat} {cI cJ : ClassId} (sz : Nat) (q0 : Nat → Nat) (m0 : Mem) (x1 : Int32) (post : Int32 → Mem → Prop) (h : wp_X10_at m0 x1 post) : Met l yX10_at (Cond.code yX10_at cX10_at 2 (some .int) :: gt) ({ frames := 5, cells := 0, slots := 0, locals := 112 }) (va_Pc [.ref (q0 0), .int x1] (PRE (dC, dI) (TY cI cJ) (ww_X10 cI cJ q0 m0) sz)) (va_Qi (S := Mem) (fun (r : Int32) (u : Mem) => post r u) (fun u t => AT (dC, dI) (TY cI cJ) (va_A (ww_X10 cI cJ q0 m0) sz) (ww_X10 cI cJ q0 u) t) (va_A (ww_X10 cI cJ q0 m0) sz)) 0 0 (va_A (ww_X10 cI cJ q0 m0) sz) :=
  met_of (own := RX10) (Qf := fun A => va_Qi (S := Mem) (fun (r : Int32) (u : Mem) => post r u) (fun u t => AT (dC, dI) (TY cI cJ) A (ww_X10 cI cJ q0 u) t) A) (by decide) rfl (Nat.le_of_ble_eq_true rfl) rfl (fun p e s m below meth c A cx hA ls hP hD hS hl => w_X10_at_0 cx hA x1 m0 _ _ ls hP hD hS hl h)
theorem mv_X10_at : MV yX10_at cX10_at 2 (some .int) 1 := ⟨⟨kw_892, kw_11, by decide +kernel⟩, kw_890, kw_891⟩
set_option maxHeartbeats 4000000 in
set_option maxRecDepth 100000 in
theorem w_X10_behind_0 {p : Program} {l : Launch} {e : Env} {s : State} {m : MethodId} {args : Array Value} {below : List Frame} {meth : Method} {c : Code} {dC : Nat → ClassId} {dI : Nat → Nat → Nat} {cI cJ : ClassId} {A : Nat → Prop} (cx : CX RX10 cX10_behind (some .int) 2 p s m args meth c (dC, dI) (TY cI cJ)) (hA : ∀ q, s.heap.size ≤ q → A q) {post : Int32 → Prop} : ∀ (x0 : Int32) (x1 : Int32) (H : Heap) (locs : List Loc) (ls : Array Slot), va_P (dC, dI) vwCl ([]) H → va_D A ([]) → va_S A s.heap H locs → lv_has ls 2 [(0, .int x0), (1, .int x1)] → b_X10_behind_0 post x0 x1 → W p l e ({ frames := 1, cells := 0, slots := 0, locals := 21 }) s m args below meth c H locs 0 0 (MQ below (va_Qi (S := Unit) (fun (r : Int32) (_u : Unit) => post r) (fun _u t => AT (dC, dI) (TY cI cJ) A ([]) t) A) args s 0 0 A) (F0 m 0 ls []) := by
  obtain ⟨hx, hb, hr, hml, hown, hts, hlocks, hK⟩ := id cx
  have cx' : CX RX10 cX10_behind (meth.sig.returnType) 2 p s m args meth c (dC, dI) (TY cI cJ) := ⟨hx, hb, rfl, hml, hown, hts, hlocks, hK⟩
  intro x0 x1 H locs ls hP hD hS hl h
  unfold b_X10_behind_0 at h
  refine lv_iload_n hx hb dX10_behind_0 rfl (lv_at hl 0 rfl) ?_
  refine lv_iconst (v := 2) hx hb dX10_behind_1 (by decide) ?_
  refine lv_icmp_ne (tgt := 11) hx hb dX10_behind_2 (by decide) (fun c_1 => ?_) (fun c_1 => ?_)
  · have h := h.1 c_1
    refine lv_iload_n hx hb dX10_behind_11 rfl (lv_at hl 0 rfl) ?_
    refine lv_iconst (v := 3) hx hb dX10_behind_12 (by decide) ?_
    refine lv_icmp_ne (tgt := 31) hx hb dX10_behind_13 (by decide) (fun c_2 => ?_) (fun c_2 => ?_)
    · have h := h.1 c_2
      refine lv_iload_n hx hb dX10_behind_31 rfl (lv_at hl 1 rfl) ?_
      exact rt_i (v := x1) (u := ()) cx hP hD hS h dX10_behind_32
    have h := h.2 c_2
    refine lv_iload_n hx hb dX10_behind_16 rfl (lv_at hl 1 rfl) ?_
    refine lv_if_le (tgt := 31) hx hb dX10_behind_17 (by decide) (fun c_3 => ?_) (fun c_3 => ?_)
    · have h := h.1 c_3
      refine lv_iload_n hx hb dX10_behind_31 rfl (lv_at hl 1 rfl) ?_
      exact rt_i (v := x1) (u := ()) cx hP hD hS h dX10_behind_32
    have h := h.2 c_3
    refine lv_iload_n hx hb dX10_behind_20 rfl (lv_at hl 1 rfl) ?_
    refine lv_iconst (v := 3) hx hb dX10_behind_21 (by decide) ?_
    refine lv_iadd hx hb dX10_behind_22 ?_
    refine lv_bipush (v := 99) hx hb dX10_behind_23 (by decide) ?_
    refine callN_i (run_S (As := [.int (x1 + 3), .int 99]) (rest := []) (wc := []) cx' (c_X10_lesser l H.size (x1 + 3) 99 _ h) ms_X10_lesser kw_921 rfl rfl ⟨Nat.le_of_ble_eq_true rfl, Nat.le_of_ble_eq_true rfl⟩ nilP nilD (A := A) rfl hl.1 rfl (Nat.le_of_ble_eq_true rfl) dX10_behind_25 ⟨Nat.zero_le _, Nat.zero_le _⟩) hP hS hA (fun r_4 H locs hP hS h => ?_)
    refine lv_goto (tgt := 32) hx hb dX10_behind_28 (by decide) ?_
    exact rt_i (v := r_4) (u := ()) cx hP hD hS h dX10_behind_32
  have h := h.2 c_1
  refine lv_iload_n hx hb dX10_behind_5 rfl (lv_at hl 1 rfl) ?_
  refine lv_iconst (v := 2) hx hb dX10_behind_6 (by decide) ?_
  refine lv_idiv hx hb dX10_behind_7 (by decide) ?_
  refine lv_goto (tgt := 32) hx hb dX10_behind_8 (by decide) ?_
  exact rt_i (v := x1 / 2) (u := ()) cx hP hD hS h dX10_behind_32
set_option maxRecDepth 100000 in
theorem c_X10_behind (l : Launch) {dC : Nat → ClassId} {dI : Nat → Nat → Nat} {cI cJ : ClassId} (sz : Nat) (x0 : Int32) (x1 : Int32) (post : Int32 → Prop) (h : wp_X10_behind x0 x1 post) : Met l yX10_behind (Cond.code yX10_behind cX10_behind 2 (some .int) :: gt) ({ frames := 1, cells := 0, slots := 0, locals := 21 }) (va_Pc [.int x0, .int x1] (PRE (dC, dI) (TY cI cJ) ([]) sz)) (va_Qi (S := Unit) (fun (r : Int32) (_u : Unit) => post r) (fun _u t => AT (dC, dI) (TY cI cJ) (va_A ([]) sz) ([]) t) (va_A ([]) sz)) 0 0 (va_A ([]) sz) :=
  met_of (own := RX10) (Qf := fun A => va_Qi (S := Unit) (fun (r : Int32) (_u : Unit) => post r) (fun _u t => AT (dC, dI) (TY cI cJ) A ([]) t) A) (by decide) rfl (Nat.le_of_ble_eq_true rfl) rfl (fun p e s m below meth c A cx hA ls hP hD hS hl => w_X10_behind_0 cx hA x0 x1 _ _ ls hP hD hS hl h)
theorem ms_X10_behind : MS yX10_behind cX10_behind 2 (some .int) 2 := ⟨⟨kw_926, kw_11, by decide +kernel⟩, kw_925⟩
set_option maxHeartbeats 4000000 in
set_option maxRecDepth 100000 in
theorem w_X10_feeds_273 {p : Program} {l : Launch} {e : Env} {s : State} {m : MethodId} {args : Array Value} {below : List Frame} {meth : Method} {c : Code} {dC : Nat → ClassId} {dI : Nat → Nat → Nat} {cI cJ : ClassId} {A : Nat → Prop} (cx : CX RX10 cX10_feeds none 8 p s m args meth c (dC, dI) (TY cI cJ)) (hA : ∀ q, s.heap.size ≤ q → A q) {q0 : Nat → Nat} {post : Mem → Prop} : ∀ (x1 : Int32) (x2 : Int32) (m0 : Mem) (H : Heap) (locs : List Loc) (ls : Array Slot), va_P (dC, dI) vwCl (ww_X10 cI cJ q0 m0) H → va_D A (ww_X10 cI cJ q0 m0) → va_S A s.heap H locs → lv_has ls 8 [(0, .ref (q0 0)), (1, .int x1), (2, .int x2)] → b_X10_feeds_273 post x1 x2 m0 → W p l e ({ frames := 2, cells := 0, slots := 0, locals := 42 }) s m args below meth c H locs 0 0 (MQ below (va_Qv (S := Mem) (fun (u : Mem) => post u) (fun u t => AT (dC, dI) (TY cI cJ) A (ww_X10 cI cJ q0 u) t) A) args s 0 0 A) (F0 m 273 ls []) := by
  obtain ⟨hx, hb, hr, hml, hown, hts, hlocks, hK⟩ := id cx
  have cx' : CX RX10 cX10_feeds (meth.sig.returnType) 8 p s m args meth c (dC, dI) (TY cI cJ) := ⟨hx, hb, rfl, hml, hown, hts, hlocks, hK⟩
  intro x1 x2 m0 H locs ls hP hD hS hl h
  unfold b_X10_feeds_273 at h
  refine lv_aload_n hx hb dX10_feeds_273 rfl (lv_at hl 0 rfl) ?_
  refine gf_v (k := 15) (v := .ref (q0 13)) cx' hP 0 i_X10 rfl rfl (by decide) kw_730 rfl rfl dX10_feeds_274 ?_
  refine lv_iload_n hx hb dX10_feeds_277 rfl (lv_at hl 1 rfl) ?_
  refine lv_iload_n hx hb dX10_feeds_278 rfl (lv_at hl 2 rfl) ?_
  obtain ⟨m0_1, em0_1⟩ : ∃ z : Mem, z = up2 m0 13 (Int32.toNatClampNeg x1) x2 := ⟨_, rfl⟩
  have h1 := h.1
  have h := h.2 m0_1 em0_1
  refine st_i hx hb hK hP hD hS 13 0 (ww_X10 cI cJ q0 m0_1) rfl rfl h1 dX10_feeds_279 (by subst em0_1; rfl) (fun H locs hP hD hS => ?_)
  exact rt_v (u := m0_1) cx hP hD hS h dX10_feeds_280
set_option maxHeartbeats 4000000 in
set_option maxRecDepth 100000 in
theorem w_X10_feeds_246 {p : Program} {l : Launch} {e : Env} {s : State} {m : MethodId} {args : Array Value} {below : List Frame} {meth : Method} {c : Code} {dC : Nat → ClassId} {dI : Nat → Nat → Nat} {cI cJ : ClassId} {A : Nat → Prop} (cx : CX RX10 cX10_feeds none 8 p s m args meth c (dC, dI) (TY cI cJ)) (hA : ∀ q, s.heap.size ≤ q → A q) {q0 : Nat → Nat} {post : Mem → Prop} {k70 : Int32 → Int32 → Int32 → Int32 → Mem → Prop} (hk70 : ∀ (x1 : Int32) (x2 : Int32) (x3 : Int32) (x4 : Int32) (m0 : Mem) (H : Heap) (locs : List Loc) (ls : Array Slot), va_P (dC, dI) vwCl (ww_X10 cI cJ q0 m0) H → va_D A (ww_X10 cI cJ q0 m0) → va_S A s.heap H locs → lv_has ls 8 [(0, .ref (q0 0)), (1, .int x1), (2, .int x2), (3, .int x3), (4, .int x4)] → k70 x1 x2 x3 x4 m0 → W p l e ({ frames := 2, cells := 0, slots := 0, locals := 42 }) s m args below meth c H locs 0 0 (MQ below (va_Qv (S := Mem) (fun (u : Mem) => post u) (fun u t => AT (dC, dI) (TY cI cJ) A (ww_X10 cI cJ q0 u) t) A) args s 0 0 A) (F0 m 70 ls [])) : ∀ (x1 : Int32) (x2 : Int32) (x3 : Int32) (x4 : Int32) (m0 : Mem) (H : Heap) (locs : List Loc) (ls : Array Slot), va_P (dC, dI) vwCl (ww_X10 cI cJ q0 m0) H → va_D A (ww_X10 cI cJ q0 m0) → va_S A s.heap H locs → lv_has ls 8 [(0, .ref (q0 0)), (1, .int x1), (2, .int x2), (3, .int x3), (4, .int x4)] → b_X10_feeds_246 post k70 x1 x2 x3 x4 m0 → W p l e ({ frames := 2, cells := 0, slots := 0, locals := 42 }) s m args below meth c H locs 0 0 (MQ below (va_Qv (S := Mem) (fun (u : Mem) => post u) (fun u t => AT (dC, dI) (TY cI cJ) A (ww_X10 cI cJ q0 u) t) A) args s 0 0 A) (F0 m 246 ls []) := by
  obtain ⟨hx, hb, hr, hml, hown, hts, hlocks, hK⟩ := id cx
  have cx' : CX RX10 cX10_feeds (meth.sig.returnType) 8 p s m args meth c (dC, dI) (TY cI cJ) := ⟨hx, hb, rfl, hml, hown, hts, hlocks, hK⟩
  intro x1 x2 x3 x4 m0 H locs ls hP hD hS hl h
  unfold b_X10_feeds_246 at h
  refine lv_iload hx hb dX10_feeds_246 (lv_at hl 4 rfl) ?_
  refine lv_aload_n hx hb dX10_feeds_248 rfl (lv_at hl 0 rfl) ?_
  refine gf_v (k := 10) (v := .ref (q0 8)) cx' hP 0 i_X10 rfl rfl (by decide) kw_725 rfl rfl dX10_feeds_249 ?_
  refine lv_iconst (v := 4) hx hb dX10_feeds_252 (by decide) ?_
  refine lv_iload_n hx hb dX10_feeds_253 rfl (lv_at hl 1 rfl) ?_
  refine lv_imul hx hb dX10_feeds_254 ?_
  refine lv_iconst (v := 2) hx hb dX10_feeds_255 (by decide) ?_
  refine lv_iadd hx hb dX10_feeds_256 ?_
  refine va_iald hx hb hK hP 8 0 rfl rfl h.1 dX10_feeds_257 ?_
  have h := h.2
  refine lv_iconst (v := 1) hx hb dX10_feeds_258 (by decide) ?_
  refine dia_i (ls := ls) (c0 := (m0 8 (Int32.toNatClampNeg ((4 * x1) + 2))) = 1) (a := 1) (b := (-1)) (J := 267) (rest := [.int x4]) (fun K => ?_) (fun v_2 ev_2 => ?_)
  · refine lv_icmp_ne (tgt := 266) hx hb dX10_feeds_259 (by decide) (fun c_1 => ?_) (fun c_1 => ?_)
    · refine lv_iconst (v := (-1)) hx hb dX10_feeds_266 (by decide) ?_
      exact K _ (Or.inr ⟨c_1, rfl⟩)
    · refine lv_iconst (v := 1) hx hb dX10_feeds_262 (by decide) ?_
      refine lv_goto (tgt := 267) hx hb dX10_feeds_263 (by decide) ?_
      exact K _ (Or.inl ⟨c_1, rfl⟩)
  have h := h v_2 ev_2
  refine lv_iadd hx hb dX10_feeds_267 ?_
  refine lv_topi (fun x4_3 ex4_3 => ?_)
  have h := h x4_3 ex4_3
  refine lv_istore (lv' := [(4, .int x4_3), (0, .ref (q0 0)), (1, .int x1), (2, .int x2), (3, .int x3)]) hx hb dX10_feeds_268 hl (by decide) rfl (fun ls hl => ?_)
  refine lv_goto (tgt := 70) hx hb dX10_feeds_270 (by decide) ?_
  exact hk70 x1 x2 x3 x4_3 m0 H locs ls hP hD hS (lv_sub hl [1, 2, 3, 4, 0] rfl) h
set_option maxHeartbeats 4000000 in
set_option maxRecDepth 100000 in
theorem w_X10_feeds_189 {p : Program} {l : Launch} {e : Env} {s : State} {m : MethodId} {args : Array Value} {below : List Frame} {meth : Method} {c : Code} {dC : Nat → ClassId} {dI : Nat → Nat → Nat} {cI cJ : ClassId} {A : Nat → Prop} (cx : CX RX10 cX10_feeds none 8 p s m args meth c (dC, dI) (TY cI cJ)) (hA : ∀ q, s.heap.size ≤ q → A q) {q0 : Nat → Nat} {post : Mem → Prop} {k70 : Int32 → Int32 → Int32 → Int32 → Mem → Prop} (hk70 : ∀ (x1 : Int32) (x2 : Int32) (x3 : Int32) (x4 : Int32) (m0 : Mem) (H : Heap) (locs : List Loc) (ls : Array Slot), va_P (dC, dI) vwCl (ww_X10 cI cJ q0 m0) H → va_D A (ww_X10 cI cJ q0 m0) → va_S A s.heap H locs → lv_has ls 8 [(0, .ref (q0 0)), (1, .int x1), (2, .int x2), (3, .int x3), (4, .int x4)] → k70 x1 x2 x3 x4 m0 → W p l e ({ frames := 2, cells := 0, slots := 0, locals := 42 }) s m args below meth c H locs 0 0 (MQ below (va_Qv (S := Mem) (fun (u : Mem) => post u) (fun u t => AT (dC, dI) (TY cI cJ) A (ww_X10 cI cJ q0 u) t) A) args s 0 0 A) (F0 m 70 ls [])) : ∀ (x1 : Int32) (x2 : Int32) (x4 : Int32) (x5 : Int32) (x6 : Int32) (m0 : Mem) (H : Heap) (locs : List Loc) (ls : Array Slot), va_P (dC, dI) vwCl (ww_X10 cI cJ q0 m0) H → va_D A (ww_X10 cI cJ q0 m0) → va_S A s.heap H locs → lv_has ls 8 [(0, .ref (q0 0)), (1, .int x1), (2, .int x2), (4, .int x4), (5, .int x5), (6, .int x6)] → b_X10_feeds_189 post k70 x1 x2 x4 x5 x6 m0 → W p l e ({ frames := 2, cells := 0, slots := 0, locals := 42 }) s m args below meth c H locs 0 0 (MQ below (va_Qv (S := Mem) (fun (u : Mem) => post u) (fun u t => AT (dC, dI) (TY cI cJ) A (ww_X10 cI cJ q0 u) t) A) args s 0 0 A) (F0 m 189 ls []) := by
  obtain ⟨hx, hb, hr, hml, hown, hts, hlocks, hK⟩ := id cx
  have cx' : CX RX10 cX10_feeds (meth.sig.returnType) 8 p s m args meth c (dC, dI) (TY cI cJ) := ⟨hx, hb, rfl, hml, hown, hts, hlocks, hK⟩
  intro x1 x2 x4 x5 x6 m0 H locs ls hP hD hS hl h
  unfold b_X10_feeds_189 at h
  refine lv_iload hx hb dX10_feeds_189 (lv_at hl 5 rfl) ?_
  refine lv_iload_n hx hb dX10_feeds_191 rfl (lv_at hl 2 rfl) ?_
  refine callN_i (run_S (As := [.int x6, .int x2]) (rest := []) (wc := []) cx' (c_X10_lesser l H.size x6 x2 _ h) ms_X10_lesser kw_921 rfl rfl ⟨Nat.le_of_ble_eq_true rfl, Nat.le_of_ble_eq_true rfl⟩ nilP nilD (A := A) rfl hl.1 rfl (Nat.le_of_ble_eq_true rfl) dX10_feeds_192 ⟨Nat.zero_le _, Nat.zero_le _⟩) hP hS hA (fun r_1 H locs hP hS h => ?_)
  refine lv_istore (lv' := [(7, .int r_1), (0, .ref (q0 0)), (1, .int x1), (2, .int x2), (4, .int x4), (5, .int x5), (6, .int x6)]) hx hb dX10_feeds_195 hl (by decide) rfl (fun ls hl => ?_)
  refine lv_aload_n hx hb dX10_feeds_197 rfl (lv_at hl 1 rfl) ?_
  refine gf_v (k := 13) (v := .ref (q0 11)) cx' hP 0 i_X10 rfl rfl (by decide) kw_728 rfl rfl dX10_feeds_198 ?_
  refine lv_bipush (v := 8) hx hb dX10_feeds_201 (by decide) ?_
  refine lv_iload_n hx hb dX10_feeds_203 rfl (lv_at hl 2 rfl) ?_
  refine lv_imul hx hb dX10_feeds_204 ?_
  refine lv_iload hx hb dX10_feeds_205 (lv_at hl 5 rfl) ?_
  refine lv_iadd hx hb dX10_feeds_207 ?_
  refine lv_iload hx hb dX10_feeds_208 (lv_at hl 0 rfl) ?_
  obtain ⟨m0_2, em0_2⟩ : ∃ z : Mem, z = up2 m0 11 (Int32.toNatClampNeg ((8 * x1) + x5)) r_1 := ⟨_, rfl⟩
  have h1 := h.1
  have h := h.2 m0_2 em0_2
  refine st_i hx hb hK hP hD hS 11 0 (ww_X10 cI cJ q0 m0_2) rfl rfl h1 dX10_feeds_210 (by subst em0_2; rfl) (fun H locs hP hD hS => ?_)
  refine lv_aload_n hx hb dX10_feeds_211 rfl (lv_at hl 1 rfl) ?_
  refine gf_v (k := 8) (v := .ref (q0 7)) cx' hP 0 i_X10 rfl rfl (by decide) kw_723 rfl rfl dX10_feeds_212 ?_
  refine lv_iconst (v := 3) hx hb dX10_feeds_215 (by decide) ?_
  refine lv_iload hx hb dX10_feeds_216 (lv_at hl 5 rfl) ?_
  refine lv_imul hx hb dX10_feeds_218 ?_
  refine va_iald hx hb hK hP 7 0 rfl rfl h.1 dX10_feeds_219 ?_
  have h := h.2
  refine lv_topi (fun x3_3 ex3_3 => ?_)
  have h := h x3_3 ex3_3
  refine lv_istore_n (lv' := [(3, .int x3_3), (7, .int r_1), (0, .ref (q0 0)), (1, .int x1), (2, .int x2), (4, .int x4), (5, .int x5), (6, .int x6)]) hx hb dX10_feeds_220 rfl hl (by decide) rfl (fun ls hl => ?_)
  refine lv_iload_n hx hb dX10_feeds_221 rfl (lv_at hl 0 rfl) ?_
  refine lv_iload_n hx hb dX10_feeds_222 rfl (lv_at hl 4 rfl) ?_
  refine lv_iload hx hb dX10_feeds_223 (lv_at hl 1 rfl) ?_
  refine lv_isub hx hb dX10_feeds_225 ?_
  refine callN_i (run_S (As := [.int x3_3, .int (x2 - r_1)]) (rest := []) (wc := []) cx' (c_X10_behind l H.size x3_3 (x2 - r_1) _ h) ms_X10_behind kw_924 rfl rfl ⟨Nat.le_of_ble_eq_true rfl, Nat.le_of_ble_eq_true rfl⟩ nilP nilD (A := A) rfl hl.1 rfl (Nat.le_of_ble_eq_true rfl) dX10_feeds_226 ⟨Nat.zero_le _, Nat.zero_le _⟩) hP hS hA (fun r_4 H locs hP hS h => ?_)
  refine lv_istore_n (lv' := [(2, .int r_4), (3, .int x3_3), (7, .int r_1), (0, .ref (q0 0)), (1, .int x1), (4, .int x4), (5, .int x5), (6, .int x6)]) hx hb dX10_feeds_229 rfl hl (by decide) rfl (fun ls hl => ?_)
  refine lv_aload_n hx hb dX10_feeds_230 rfl (lv_at hl 3 rfl) ?_
  refine gf_v (k := 14) (v := .ref (q0 12)) cx' hP 0 i_X10 rfl rfl (by decide) kw_729 rfl rfl dX10_feeds_231 ?_
  refine lv_iload_n hx hb dX10_feeds_234 rfl (lv_at hl 4 rfl) ?_
  refine lv_iload_n hx hb dX10_feeds_235 rfl (lv_at hl 0 rfl) ?_
  refine dia_i (ls := ls) (c0 := r_4 = 0) (a := x5) (b := (-1)) (J := 245) (rest := [.int x1, .ref (q0 12)]) (fun K => ?_) (fun v_6 ev_6 => ?_)
  · refine lv_if_ne (tgt := 244) hx hb dX10_feeds_236 (by decide) (fun c_5 => ?_) (fun c_5 => ?_)
    · refine lv_iconst (v := (-1)) hx hb dX10_feeds_244 (by decide) ?_
      exact K _ (Or.inr ⟨c_5, rfl⟩)
    · refine lv_iload hx hb dX10_feeds_239 (lv_at hl 6 rfl) ?_
      refine lv_goto (tgt := 245) hx hb dX10_feeds_241 (by decide) ?_
      exact K _ (Or.inl ⟨c_5, rfl⟩)
  have h := h v_6 ev_6
  obtain ⟨m0_7, em0_7⟩ : ∃ z : Mem, z = up2 m0_2 12 (Int32.toNatClampNeg x1) v_6 := ⟨_, rfl⟩
  have h1 := h.1
  have h := h.2 m0_7 em0_7
  refine st_i hx hb hK hP hD hS 12 0 (ww_X10 cI cJ q0 m0_7) rfl rfl h1 dX10_feeds_245 (by subst em0_7; rfl) (fun H locs hP hD hS => ?_)
  exact w_X10_feeds_246 cx hA hk70 x1 r_4 x3_3 x4 m0_7 H locs ls hP hD hS (lv_sub hl [3, 4, 0, 1, 5] rfl) h
set_option maxHeartbeats 4000000 in
set_option maxRecDepth 100000 in
theorem w_X10_feeds_70 {p : Program} {l : Launch} {e : Env} {s : State} {m : MethodId} {args : Array Value} {below : List Frame} {meth : Method} {c : Code} {dC : Nat → ClassId} {dI : Nat → Nat → Nat} {cI cJ : ClassId} {A : Nat → Prop} (cx : CX RX10 cX10_feeds none 8 p s m args meth c (dC, dI) (TY cI cJ)) (hA : ∀ q, s.heap.size ≤ q → A q) {q0 : Nat → Nat} {post : Mem → Prop} : ∀ (n : Nat) (x1 : Int32) (x2 : Int32) (x3 : Int32) (x4 : Int32) (m0 : Mem) (H : Heap) (locs : List Loc) (ls : Array Slot), va_P (dC, dI) vwCl (ww_X10 cI cJ q0 m0) H → va_D A (ww_X10 cI cJ q0 m0) → va_S A s.heap H locs → lv_has ls 8 [(0, .ref (q0 0)), (1, .int x1), (2, .int x2), (3, .int x3), (4, .int x4)] → b_X10_feeds_70 post n x1 x2 x3 x4 m0 → W p l e ({ frames := 2, cells := 0, slots := 0, locals := 42 }) s m args below meth c H locs 0 0 (MQ below (va_Qv (S := Mem) (fun (u : Mem) => post u) (fun u t => AT (dC, dI) (TY cI cJ) A (ww_X10 cI cJ q0 u) t) A) args s 0 0 A) (F0 m 70 ls []) := by
  obtain ⟨hx, hb, hr, hml, hown, hts, hlocks, hK⟩ := id cx
  have cx' : CX RX10 cX10_feeds (meth.sig.returnType) 8 p s m args meth c (dC, dI) (TY cI cJ) := ⟨hx, hb, rfl, hml, hown, hts, hlocks, hK⟩
  intro n
  induction n with
  | zero =>
    intro x1 x2 x3 x4 m0 H locs ls hP hD hS hl h
    exact False.elim h
  | succ n ih =>
    intro x1 x2 x3 x4 m0 H locs ls hP hD hS hl h
    unfold b_X10_feeds_70 at h
    refine lv_iload_n hx hb dX10_feeds_70 rfl (lv_at hl 2 rfl) ?_
    refine lv_if_le (tgt := 273) hx hb dX10_feeds_71 (by decide) (fun c_1 => ?_) (fun c_1 => ?_)
    · have h := h.1 c_1
      exact w_X10_feeds_273 cx hA x1 x2 m0 H locs ls hP hD hS (lv_sub hl [0, 1, 2] rfl) h
    have h := h.2 c_1
    refine lv_iload hx hb dX10_feeds_74 (lv_at hl 4 rfl) ?_
    refine lv_i2l (v := Int32.toInt64 x4) hx hb dX10_feeds_76 rfl ?_
    refine lv_lconst (v := 0) hx hb dX10_feeds_77 (by decide) ?_
    refine lv_aload_n hx hb dX10_feeds_78 rfl (lv_at hl 0 rfl) ?_
    refine gf_v (k := 7) (v := .int (m0 0 7)) cx' hP 0 i_X10 rfl rfl (by decide) kw_722 rfl rfl dX10_feeds_79 ?_
    refine lv_iconst (v := 1) hx hb dX10_feeds_82 (by decide) ?_
    refine lv_isub hx hb dX10_feeds_83 ?_
    refine lv_i2l (v := Int32.toInt64 ((m0 0 7) - 1)) hx hb dX10_feeds_84 rfl ?_
    refine callN_i (run_S (As := [.long (Int32.toInt64 x4), .long 0, .long (Int32.toInt64 ((m0 0 7) - 1))]) (rest := []) (wc := []) cx' (c_X10_in l H.size (Int32.toInt64 x4) 0 (Int32.toInt64 ((m0 0 7) - 1)) _ h) ms_X10_in kw_796 rfl rfl ⟨Nat.le_of_ble_eq_true rfl, Nat.le_of_ble_eq_true rfl⟩ nilP nilD (A := A) rfl hl.1 rfl (Nat.le_of_ble_eq_true rfl) dX10_feeds_85 ⟨Nat.zero_le _, Nat.zero_le _⟩) hP hS hA (fun r_2 H locs hP hS h => ?_)
    refine lv_if_eq (tgt := 273) hx hb dX10_feeds_88 (by decide) (fun c_3 => ?_) (fun c_3 => ?_)
    · have h := h.1 c_3
      exact w_X10_feeds_273 cx hA x1 x2 m0 H locs ls hP hD hS (lv_sub hl [0, 1, 2] rfl) h
    have h := h.2 c_3
    refine lv_aload_n hx hb dX10_feeds_91 rfl (lv_at hl 0 rfl) ?_
    refine gf_v (k := 12) (v := .ref (q0 10)) cx' hP 0 i_X10 rfl rfl (by decide) kw_727 rfl rfl dX10_feeds_92 ?_
    refine lv_iload hx hb dX10_feeds_95 (lv_at hl 4 rfl) ?_
    refine va_iald hx hb hK hP 10 0 rfl rfl h.1 dX10_feeds_97 ?_
    have h := h.2
    refine lv_topi (fun x5_4 ex5_4 => ?_)
    have h := h x5_4 ex5_4
    refine lv_istore (lv' := [(5, .int x5_4), (0, .ref (q0 0)), (1, .int x1), (2, .int x2), (3, .int x3), (4, .int x4)]) hx hb dX10_feeds_98 hl (by decide) rfl (fun ls hl => ?_)
    refine lv_aload_n hx hb dX10_feeds_100 rfl (lv_at hl 1 rfl) ?_
    refine gf_v (k := 17) (v := .ref (q0 15)) cx' hP 0 i_X10 rfl rfl (by decide) kw_732 rfl rfl dX10_feeds_101 ?_
    refine lv_iload_n hx hb dX10_feeds_104 rfl (lv_at hl 2 rfl) ?_
    refine lv_dup2_11 hx hb dX10_feeds_105 rfl rfl ?_
    refine va_iald hx hb hK hP 15 0 rfl rfl h.1 dX10_feeds_106 ?_
    have h := h.2
    refine lv_iconst (v := 1) hx hb dX10_feeds_107 (by decide) ?_
    refine lv_iload hx hb dX10_feeds_108 (lv_at hl 0 rfl) ?_
    refine lv_ishl hx hb dX10_feeds_110 ?_
    refine lv_ior hx hb dX10_feeds_111 ?_
    obtain ⟨m0_5, em0_5⟩ : ∃ z : Mem, z = up2 m0 15 (Int32.toNatClampNeg x1) ((m0 15 (Int32.toNatClampNeg x1)) ||| (1 <<< (x5_4 &&& 31))) := ⟨_, rfl⟩
    have h1 := h.1
    have h := h.2 m0_5 em0_5
    refine st_i hx hb hK hP hD hS 15 0 (ww_X10 cI cJ q0 m0_5) rfl rfl h1 dX10_feeds_112 (by subst em0_5; rfl) (fun H locs hP hD hS => ?_)
    refine lv_aload_n hx hb dX10_feeds_113 rfl (lv_at hl 1 rfl) ?_
    refine gf_v (k := 8) (v := .ref (q0 7)) cx' hP 0 i_X10 rfl rfl (by decide) kw_723 rfl rfl dX10_feeds_114 ?_
    refine lv_iconst (v := 3) hx hb dX10_feeds_117 (by decide) ?_
    refine lv_iload hx hb dX10_feeds_118 (lv_at hl 0 rfl) ?_
    refine lv_imul hx hb dX10_feeds_120 ?_
    refine lv_iconst (v := 1) hx hb dX10_feeds_121 (by decide) ?_
    refine lv_iadd hx hb dX10_feeds_122 ?_
    refine va_iald hx hb hK hP 7 0 rfl rfl h.1 dX10_feeds_123 ?_
    have h := h.2
    refine lv_iload_n hx hb dX10_feeds_124 rfl (lv_at hl 4 rfl) ?_
    refine lv_iconst (v := 1) hx hb dX10_feeds_125 (by decide) ?_
    refine dia_i (ls := ls) (c0 := x3 = 1) (a := 2) (b := 0) (J := 134) (rest := [.int (m0_5 7 (Int32.toNatClampNeg ((3 * x5_4) + 1)))]) (fun K => ?_) (fun v_7 ev_7 => ?_)
    · refine lv_icmp_ne (tgt := 133) hx hb dX10_feeds_126 (by decide) (fun c_6 => ?_) (fun c_6 => ?_)
      · refine lv_iconst (v := 0) hx hb dX10_feeds_133 (by decide) ?_
        exact K _ (Or.inr ⟨c_6, rfl⟩)
      · refine lv_iconst (v := 2) hx hb dX10_feeds_129 (by decide) ?_
        refine lv_goto (tgt := 134) hx hb dX10_feeds_130 (by decide) ?_
        exact K _ (Or.inl ⟨c_6, rfl⟩)
    have h := h v_7 ev_7
    refine lv_iadd hx hb dX10_feeds_134 ?_
    refine lv_topi (fun x6_8 ex6_8 => ?_)
    have h := h x6_8 ex6_8
    refine lv_istore (lv' := [(6, .int x6_8), (5, .int x5_4), (0, .ref (q0 0)), (1, .int x1), (2, .int x2), (3, .int x3), (4, .int x4)]) hx hb dX10_feeds_135 hl (by decide) rfl (fun ls hl => ?_)
    refine lv_aload_n hx hb dX10_feeds_137 rfl (lv_at hl 2 rfl) ?_
    refine gf_v (k := 11) (v := .ref (q0 9)) cx' hP 0 i_X10 rfl rfl (by decide) kw_726 rfl rfl dX10_feeds_138 ?_
    refine lv_iconst (v := 1) hx hb dX10_feeds_141 (by decide) ?_
    refine va_iald hx hb hK hP 9 0 rfl rfl h.1 dX10_feeds_142 ?_
    have h := h.2
    refine lv_iload hx hb dX10_feeds_143 (lv_at hl 1 rfl) ?_
    refine callN_i (run_S (As := [.int (m0_5 9 (Int32.toNatClampNeg 1)), .int x5_4]) (rest := []) (wc := []) cx' (c_X10_isIn l H.size (m0_5 9 (Int32.toNatClampNeg 1)) x5_4 _ h) ms_X10_isIn kw_918 rfl rfl ⟨Nat.le_of_ble_eq_true rfl, Nat.le_of_ble_eq_true rfl⟩ nilP nilD (A := A) rfl hl.1 rfl (Nat.le_of_ble_eq_true rfl) dX10_feeds_145 ⟨Nat.zero_le _, Nat.zero_le _⟩) hP hS hA (fun r_9 H locs hP hS h => ?_)
    refine lv_if_ne (tgt := 246) hx hb dX10_feeds_148 (by decide) (fun c_10 => ?_) (fun c_10 => ?_)
    · have h := h.1 c_10
      exact w_X10_feeds_246 cx hA ih x1 x2 x3 x4 m0_5 H locs ls hP hD hS (lv_sub hl [2, 3, 4, 5, 6] rfl) h
    have h := h.2 c_10
    refine lv_iload hx hb dX10_feeds_151 (lv_at hl 0 rfl) ?_
    refine lv_iload_n hx hb dX10_feeds_153 rfl (lv_at hl 4 rfl) ?_
    refine lv_icmp_le (tgt := 189) hx hb dX10_feeds_154 (by decide) (fun c_11 => ?_) (fun c_11 => ?_)
    · have h := h.1 c_11
      exact w_X10_feeds_189 cx hA ih x1 x2 x4 x5_4 x6_8 m0_5 H locs ls hP hD hS (lv_sub hl [2, 3, 4, 6, 1, 0] rfl) h
    have h := h.2 c_11
    refine lv_aload_n hx hb dX10_feeds_157 rfl (lv_at hl 2 rfl) ?_
    refine gf_v (k := 16) (v := .ref (q0 14)) cx' hP 0 i_X10 rfl rfl (by decide) kw_731 rfl rfl dX10_feeds_158 ?_
    refine lv_iload_n hx hb dX10_feeds_161 rfl (lv_at hl 3 rfl) ?_
    refine va_iald hx hb hK hP 14 0 rfl rfl h.1 dX10_feeds_162 ?_
    have h := h.2
    refine lv_aload_n hx hb dX10_feeds_163 rfl (lv_at hl 2 rfl) ?_
    refine gf_v (k := 10) (v := .ref (q0 8)) cx' hP 0 i_X10 rfl rfl (by decide) kw_725 rfl rfl dX10_feeds_164 ?_
    refine lv_iconst (v := 4) hx hb dX10_feeds_167 (by decide) ?_
    refine lv_iload_n hx hb dX10_feeds_168 rfl (lv_at hl 3 rfl) ?_
    refine lv_imul hx hb dX10_feeds_169 ?_
    refine lv_iconst (v := 3) hx hb dX10_feeds_170 (by decide) ?_
    refine lv_iadd hx hb dX10_feeds_171 ?_
    refine va_iald hx hb hK hP 8 0 rfl rfl h.1 dX10_feeds_172 ?_
    have h := h.2
    refine lv_icmp_ge (tgt := 189) hx hb dX10_feeds_173 (by decide) (fun c_12 => ?_) (fun c_12 => ?_)
    · have h := h.1 c_12
      exact w_X10_feeds_189 cx hA ih x1 x2 x4 x5_4 x6_8 m0_5 H locs ls hP hD hS (lv_sub hl [2, 3, 4, 6, 1, 0] rfl) h
    have h := h.2 c_12
    refine lv_aload_n hx hb dX10_feeds_176 rfl (lv_at hl 2 rfl) ?_
    refine gf_v (k := 16) (v := .ref (q0 14)) cx' hP 0 i_X10 rfl rfl (by decide) kw_731 rfl rfl dX10_feeds_177 ?_
    refine lv_iload_n hx hb dX10_feeds_180 rfl (lv_at hl 3 rfl) ?_
    refine lv_dup2_11 hx hb dX10_feeds_181 rfl rfl ?_
    refine va_iald hx hb hK hP 14 0 rfl rfl h.1 dX10_feeds_182 ?_
    have h := h.2
    refine lv_iconst (v := 1) hx hb dX10_feeds_183 (by decide) ?_
    refine lv_iadd hx hb dX10_feeds_184 ?_
    obtain ⟨m0_13, em0_13⟩ : ∃ z : Mem, z = up2 m0_5 14 (Int32.toNatClampNeg x1) ((m0_5 14 (Int32.toNatClampNeg x1)) + 1) := ⟨_, rfl⟩
    have h1 := h.1
    have h := h.2 m0_13 em0_13
    refine st_i hx hb hK hP hD hS 14 0 (ww_X10 cI cJ q0 m0_13) rfl rfl h1 dX10_feeds_185 (by subst em0_13; rfl) (fun H locs hP hD hS => ?_)
    refine lv_goto (tgt := 246) hx hb dX10_feeds_186 (by decide) ?_
    exact w_X10_feeds_246 cx hA ih x1 x2 x3 x4 m0_13 H locs ls hP hD hS (lv_sub hl [2, 3, 4, 5, 6] rfl) h
set_option maxHeartbeats 4000000 in
set_option maxRecDepth 100000 in
theorem w_X10_feeds_2 {p : Program} {l : Launch} {e : Env} {s : State} {m : MethodId} {args : Array Value} {below : List Frame} {meth : Method} {c : Code} {dC : Nat → ClassId} {dI : Nat → Nat → Nat} {cI cJ : ClassId} {A : Nat → Prop} (cx : CX RX10 cX10_feeds none 8 p s m args meth c (dC, dI) (TY cI cJ)) (hA : ∀ q, s.heap.size ≤ q → A q) {q0 : Nat → Nat} {post : Mem → Prop} : ∀ (n : Nat) (x1 : Int32) (x2 : Int32) (m0 : Mem) (H : Heap) (locs : List Loc) (ls : Array Slot), va_P (dC, dI) vwCl (ww_X10 cI cJ q0 m0) H → va_D A (ww_X10 cI cJ q0 m0) → va_S A s.heap H locs → lv_has ls 8 [(0, .ref (q0 0)), (1, .int x1), (2, .int x2)] → b_X10_feeds_2 post n x1 x2 m0 → W p l e ({ frames := 2, cells := 0, slots := 0, locals := 42 }) s m args below meth c H locs 0 0 (MQ below (va_Qv (S := Mem) (fun (u : Mem) => post u) (fun u t => AT (dC, dI) (TY cI cJ) A (ww_X10 cI cJ q0 u) t) A) args s 0 0 A) (F0 m 2 ls []) := by
  obtain ⟨hx, hb, hr, hml, hown, hts, hlocks, hK⟩ := id cx
  have cx' : CX RX10 cX10_feeds (meth.sig.returnType) 8 p s m args meth c (dC, dI) (TY cI cJ) := ⟨hx, hb, rfl, hml, hown, hts, hlocks, hK⟩
  intro n
  induction n with
  | zero =>
    intro x1 x2 m0 H locs ls hP hD hS hl h
    exact False.elim h
  | succ n ih =>
    intro x1 x2 m0 H locs ls hP hD hS hl h
    unfold b_X10_feeds_2 at h
    refine lv_iload_n hx hb dX10_feeds_2 rfl (lv_at hl 2 rfl) ?_
    refine lv_bipush (v := 8) hx hb dX10_feeds_3 (by decide) ?_
    refine lv_icmp_ge (tgt := 26) hx hb dX10_feeds_5 (by decide) (fun c_1 => ?_) (fun c_1 => ?_)
    · have h := h.1 c_1
      refine lv_aload_n hx hb dX10_feeds_26 rfl (lv_at hl 0 rfl) ?_
      refine gf_v (k := 14) (v := .ref (q0 12)) cx' hP 0 i_X10 rfl rfl (by decide) kw_729 rfl rfl dX10_feeds_27 ?_
      refine lv_iload_n hx hb dX10_feeds_30 rfl (lv_at hl 1 rfl) ?_
      refine lv_iconst (v := (-1)) hx hb dX10_feeds_31 (by decide) ?_
      obtain ⟨m0_2, em0_2⟩ : ∃ z : Mem, z = up2 m0 12 (Int32.toNatClampNeg x1) (-1) := ⟨_, rfl⟩
      have h1 := h.1
      have h := h.2 m0_2 em0_2
      refine st_i hx hb hK hP hD hS 12 0 (ww_X10 cI cJ q0 m0_2) rfl rfl h1 dX10_feeds_32 (by subst em0_2; rfl) (fun H locs hP hD hS => ?_)
      refine lv_aload_n hx hb dX10_feeds_33 rfl (lv_at hl 0 rfl) ?_
      refine gf_v (k := 16) (v := .ref (q0 14)) cx' hP 0 i_X10 rfl rfl (by decide) kw_731 rfl rfl dX10_feeds_34 ?_
      refine lv_iload_n hx hb dX10_feeds_37 rfl (lv_at hl 1 rfl) ?_
      refine lv_iconst (v := 0) hx hb dX10_feeds_38 (by decide) ?_
      obtain ⟨m0_3, em0_3⟩ : ∃ z : Mem, z = up2 m0_2 14 (Int32.toNatClampNeg x1) 0 := ⟨_, rfl⟩
      have h1 := h.1
      have h := h.2 m0_3 em0_3
      refine st_i hx hb hK hP hD hS 14 0 (ww_X10 cI cJ q0 m0_3) rfl rfl h1 dX10_feeds_39 (by subst em0_3; rfl) (fun H locs hP hD hS => ?_)
      refine lv_aload_n hx hb dX10_feeds_40 rfl (lv_at hl 0 rfl) ?_
      refine gf_v (k := 17) (v := .ref (q0 15)) cx' hP 0 i_X10 rfl rfl (by decide) kw_732 rfl rfl dX10_feeds_41 ?_
      refine lv_iload_n hx hb dX10_feeds_44 rfl (lv_at hl 1 rfl) ?_
      refine lv_iconst (v := 0) hx hb dX10_feeds_45 (by decide) ?_
      obtain ⟨m0_4, em0_4⟩ : ∃ z : Mem, z = up2 m0_3 15 (Int32.toNatClampNeg x1) 0 := ⟨_, rfl⟩
      have h1 := h.1
      have h := h.2 m0_4 em0_4
      refine st_i hx hb hK hP hD hS 15 0 (ww_X10 cI cJ q0 m0_4) rfl rfl h1 dX10_feeds_46 (by subst em0_4; rfl) (fun H locs hP hD hS => ?_)
      refine lv_aload_n hx hb dX10_feeds_47 rfl (lv_at hl 0 rfl) ?_
      refine gf_v (k := 10) (v := .ref (q0 8)) cx' hP 0 i_X10 rfl rfl (by decide) kw_725 rfl rfl dX10_feeds_48 ?_
      refine lv_iconst (v := 4) hx hb dX10_feeds_51 (by decide) ?_
      refine lv_iload_n hx hb dX10_feeds_52 rfl (lv_at hl 1 rfl) ?_
      refine lv_imul hx hb dX10_feeds_53 ?_
      refine va_iald hx hb hK hP 8 0 rfl rfl h.1 dX10_feeds_54 ?_
      have h := h.2
      refine lv_topi (fun x2_5 ex2_5 => ?_)
      have h := h x2_5 ex2_5
      refine lv_istore_n (lv' := [(2, .int x2_5), (0, .ref (q0 0)), (1, .int x1)]) hx hb dX10_feeds_55 rfl hl (by decide) rfl (fun ls hl => ?_)
      refine lv_iconst (v := 0) hx hb dX10_feeds_56 (by decide) ?_
      refine lv_istore_n (lv' := [(3, .int 0), (2, .int x2_5), (0, .ref (q0 0)), (1, .int x1)]) hx hb dX10_feeds_57 rfl hl (by decide) rfl (fun ls hl => ?_)
      refine lv_aload_n hx hb dX10_feeds_58 rfl (lv_at hl 2 rfl) ?_
      refine gf_v (k := 10) (v := .ref (q0 8)) cx' hP 0 i_X10 rfl rfl (by decide) kw_725 rfl rfl dX10_feeds_59 ?_
      refine lv_iconst (v := 4) hx hb dX10_feeds_62 (by decide) ?_
      refine lv_iload_n hx hb dX10_feeds_63 rfl (lv_at hl 3 rfl) ?_
      refine lv_imul hx hb dX10_feeds_64 ?_
      refine lv_iconst (v := 1) hx hb dX10_feeds_65 (by decide) ?_
      refine lv_iadd hx hb dX10_feeds_66 ?_
      refine va_iald hx hb hK hP 8 0 rfl rfl h.1 dX10_feeds_67 ?_
      have h := h.2
      refine lv_topi (fun x4_6 ex4_6 => ?_)
      have h := h x4_6 ex4_6
      refine lv_istore (lv' := [(4, .int x4_6), (3, .int 0), (2, .int x2_5), (0, .ref (q0 0)), (1, .int x1)]) hx hb dX10_feeds_68 hl (by decide) rfl (fun ls hl => ?_)
      obtain ⟨n_7, h⟩ := h
      exact w_X10_feeds_70 cx hA n_7 x1 x2_5 0 x4_6 m0_4 H locs ls hP hD hS (lv_sub hl [3, 4, 2, 1, 0] rfl) h
    have h := h.2 c_1
    refine lv_aload_n hx hb dX10_feeds_8 rfl (lv_at hl 0 rfl) ?_
    refine gf_v (k := 13) (v := .ref (q0 11)) cx' hP 0 i_X10 rfl rfl (by decide) kw_728 rfl rfl dX10_feeds_9 ?_
    refine lv_bipush (v := 8) hx hb dX10_feeds_12 (by decide) ?_
    refine lv_iload_n hx hb dX10_feeds_14 rfl (lv_at hl 1 rfl) ?_
    refine lv_imul hx hb dX10_feeds_15 ?_
    refine lv_iload_n hx hb dX10_feeds_16 rfl (lv_at hl 2 rfl) ?_
    refine lv_iadd hx hb dX10_feeds_17 ?_
    refine lv_iconst (v := 0) hx hb dX10_feeds_18 (by decide) ?_
    obtain ⟨m0_8, em0_8⟩ : ∃ z : Mem, z = up2 m0 11 (Int32.toNatClampNeg ((8 * x1) + x2)) 0 := ⟨_, rfl⟩
    have h1 := h.1
    have h := h.2 m0_8 em0_8
    refine st_i hx hb hK hP hD hS 11 0 (ww_X10 cI cJ q0 m0_8) rfl rfl h1 dX10_feeds_19 (by subst em0_8; rfl) (fun H locs hP hD hS => ?_)
    obtain ⟨x2_9, ex2_9⟩ : ∃ z : Int32, z = x2 + 1 := ⟨_, rfl⟩
    have h := h x2_9 ex2_9
    refine lv_iinc (v := x2_9) (lv' := [(2, .int x2_9), (0, .ref (q0 0)), (1, .int x1)]) hx hb dX10_feeds_20 hl (k := 2) rfl (by rw [ex2_9]; rfl) (by decide) rfl (fun ls hl => ?_)
    refine lv_goto (tgt := 2) hx hb dX10_feeds_23 (by decide) ?_
    exact ih x1 x2_9 m0_8 H locs ls hP hD hS (lv_sub hl [1, 2, 0] rfl) h
set_option maxHeartbeats 4000000 in
set_option maxRecDepth 100000 in
theorem w_X10_feeds_0 {p : Program} {l : Launch} {e : Env} {s : State} {m : MethodId} {args : Array Value} {below : List Frame} {meth : Method} {c : Code} {dC : Nat → ClassId} {dI : Nat → Nat → Nat} {cI cJ : ClassId} {A : Nat → Prop} (cx : CX RX10 cX10_feeds none 8 p s m args meth c (dC, dI) (TY cI cJ)) (hA : ∀ q, s.heap.size ≤ q → A q) {q0 : Nat → Nat} {post : Mem → Prop} : ∀ (x1 : Int32) (m0 : Mem) (H : Heap) (locs : List Loc) (ls : Array Slot), va_P (dC, dI) vwCl (ww_X10 cI cJ q0 m0) H → va_D A (ww_X10 cI cJ q0 m0) → va_S A s.heap H locs → lv_has ls 8 [(0, .ref (q0 0)), (1, .int x1)] → b_X10_feeds_0 post x1 m0 → W p l e ({ frames := 2, cells := 0, slots := 0, locals := 42 }) s m args below meth c H locs 0 0 (MQ below (va_Qv (S := Mem) (fun (u : Mem) => post u) (fun u t => AT (dC, dI) (TY cI cJ) A (ww_X10 cI cJ q0 u) t) A) args s 0 0 A) (F0 m 0 ls []) := by
  obtain ⟨hx, hb, hr, hml, hown, hts, hlocks, hK⟩ := id cx
  have cx' : CX RX10 cX10_feeds (meth.sig.returnType) 8 p s m args meth c (dC, dI) (TY cI cJ) := ⟨hx, hb, rfl, hml, hown, hts, hlocks, hK⟩
  intro x1 m0 H locs ls hP hD hS hl h
  unfold b_X10_feeds_0 at h
  refine lv_iconst (v := 0) hx hb dX10_feeds_0 (by decide) ?_
  refine lv_istore_n (lv' := [(2, .int 0), (0, .ref (q0 0)), (1, .int x1)]) hx hb dX10_feeds_1 rfl hl (by decide) rfl (fun ls hl => ?_)
  obtain ⟨n_1, h⟩ := h
  exact w_X10_feeds_2 cx hA n_1 x1 0 m0 H locs ls hP hD hS (lv_sub hl [1, 2, 0] rfl) h
set_option maxRecDepth 100000 in
theorem c_X10_feeds (l : Launch) {dC : Nat → ClassId} {dI : Nat → Nat → Nat} {cI cJ : ClassId} (sz : Nat) (q0 : Nat → Nat) (m0 : Mem) (x1 : Int32) (post : Mem → Prop) (h : wp_X10_feeds m0 x1 post) : Met l yX10_feeds (Cond.code yX10_feeds cX10_feeds 8 none :: gt) ({ frames := 2, cells := 0, slots := 0, locals := 42 }) (va_Pc [.ref (q0 0), .int x1] (PRE (dC, dI) (TY cI cJ) (ww_X10 cI cJ q0 m0) sz)) (va_Qv (S := Mem) (fun (u : Mem) => post u) (fun u t => AT (dC, dI) (TY cI cJ) (va_A (ww_X10 cI cJ q0 m0) sz) (ww_X10 cI cJ q0 u) t) (va_A (ww_X10 cI cJ q0 m0) sz)) 0 0 (va_A (ww_X10 cI cJ q0 m0) sz) :=
  met_of (own := RX10) (Qf := fun A => va_Qv (S := Mem) (fun (u : Mem) => post u) (fun u t => AT (dC, dI) (TY cI cJ) A (ww_X10 cI cJ q0 u) t) A) (by decide) rfl (Nat.le_of_ble_eq_true rfl) rfl (fun p e s m below meth c A cx hA ls hP hD hS hl => w_X10_feeds_0 cx hA x1 m0 _ _ ls hP hD hS hl h)
theorem mv_X10_feeds : MV yX10_feeds cX10_feeds 8 none 1 := ⟨⟨kw_917, kw_11, by decide +kernel⟩, kw_916, ksel_31⟩
set_option maxHeartbeats 4000000 in
set_option maxRecDepth 100000 in
theorem w_X10_feedsAll_2 {p : Program} {l : Launch} {e : Env} {s : State} {m : MethodId} {args : Array Value} {below : List Frame} {meth : Method} {c : Code} {dC : Nat → ClassId} {dI : Nat → Nat → Nat} {cI cJ : ClassId} {A : Nat → Prop} (cx : CX RX10 cX10_feedsAll none 2 p s m args meth c (dC, dI) (TY cI cJ)) (hA : ∀ q, s.heap.size ≤ q → A q) {q0 : Nat → Nat} {post : Mem → Prop} : ∀ (n : Nat) (x1 : Int32) (m0 : Mem) (H : Heap) (locs : List Loc) (ls : Array Slot), va_P (dC, dI) vwCl (ww_X10 cI cJ q0 m0) H → va_D A (ww_X10 cI cJ q0 m0) → va_S A s.heap H locs → lv_has ls 2 [(0, .ref (q0 0)), (1, .int x1)] → b_X10_feedsAll_2 post n x1 m0 → W p l e ({ frames := 3, cells := 0, slots := 0, locals := 69 }) s m args below meth c H locs 0 0 (MQ below (va_Qv (S := Mem) (fun (u : Mem) => post u) (fun u t => AT (dC, dI) (TY cI cJ) A (ww_X10 cI cJ q0 u) t) A) args s 0 0 A) (F0 m 2 ls []) := by
  obtain ⟨hx, hb, hr, hml, hown, hts, hlocks, hK⟩ := id cx
  have cx' : CX RX10 cX10_feedsAll (meth.sig.returnType) 2 p s m args meth c (dC, dI) (TY cI cJ) := ⟨hx, hb, rfl, hml, hown, hts, hlocks, hK⟩
  intro n
  induction n with
  | zero =>
    intro x1 m0 H locs ls hP hD hS hl h
    exact False.elim h
  | succ n ih =>
    intro x1 m0 H locs ls hP hD hS hl h
    unfold b_X10_feedsAll_2 at h
    refine lv_iload_n hx hb dX10_feedsAll_2 rfl (lv_at hl 1 rfl) ?_
    refine lv_aload_n hx hb dX10_feedsAll_3 rfl (lv_at hl 0 rfl) ?_
    refine gf_v (k := 9) (v := .int (m0 0 9)) cx' hP 0 i_X10 rfl rfl (by decide) kw_724 rfl rfl dX10_feedsAll_4 ?_
    refine lv_icmp_ge (tgt := 21) hx hb dX10_feedsAll_7 (by decide) (fun c_1 => ?_) (fun c_1 => ?_)
    · have h := h.1 c_1
      exact rt_v (u := m0) cx hP hD hS h dX10_feedsAll_21
    have h := h.2 c_1
    refine lv_aload_n hx hb dX10_feedsAll_10 rfl (lv_at hl 0 rfl) ?_
    refine lv_iload_n hx hb dX10_feedsAll_11 rfl (lv_at hl 1 rfl) ?_
    refine call_v (run_V (As := [.int x1]) (rest := []) cx' (c_X10_feeds l H.size q0 m0 x1 _ h) mv_X10_feeds kw_914 rfl rfl ⟨Nat.le_of_ble_eq_true rfl, Nat.le_of_ble_eq_true rfl⟩ hP hD rfl rfl rfl hl.1 rfl (Nat.le_of_ble_eq_true rfl) dX10_feedsAll_12 ⟨Nat.zero_le _, Nat.zero_le _⟩) hD hS hA (fun u9 H locs hP hD hS h => ?_)
    obtain ⟨m0_2, rfl⟩ : ∃ z, z = u9 := ⟨_, rfl⟩
    have hP : va_P (dC, dI) vwCl (ww_X10 cI cJ q0 m0_2) H := hP
    have hD : va_D A (ww_X10 cI cJ q0 m0_2) := hD
    obtain ⟨x1_3, ex1_3⟩ : ∃ z : Int32, z = x1 + 1 := ⟨_, rfl⟩
    have h := h x1_3 ex1_3
    refine lv_iinc (v := x1_3) (lv' := [(1, .int x1_3), (0, .ref (q0 0))]) hx hb dX10_feedsAll_15 hl (k := 1) rfl (by rw [ex1_3]; rfl) (by decide) rfl (fun ls hl => ?_)
    refine lv_goto (tgt := 2) hx hb dX10_feedsAll_18 (by decide) ?_
    exact ih x1_3 m0_2 H locs ls hP hD hS (lv_sub hl [1, 0] rfl) h
set_option maxHeartbeats 4000000 in
set_option maxRecDepth 100000 in
theorem w_X10_feedsAll_0 {p : Program} {l : Launch} {e : Env} {s : State} {m : MethodId} {args : Array Value} {below : List Frame} {meth : Method} {c : Code} {dC : Nat → ClassId} {dI : Nat → Nat → Nat} {cI cJ : ClassId} {A : Nat → Prop} (cx : CX RX10 cX10_feedsAll none 2 p s m args meth c (dC, dI) (TY cI cJ)) (hA : ∀ q, s.heap.size ≤ q → A q) {q0 : Nat → Nat} {post : Mem → Prop} : ∀ (m0 : Mem) (H : Heap) (locs : List Loc) (ls : Array Slot), va_P (dC, dI) vwCl (ww_X10 cI cJ q0 m0) H → va_D A (ww_X10 cI cJ q0 m0) → va_S A s.heap H locs → lv_has ls 2 [(0, .ref (q0 0))] → b_X10_feedsAll_0 post m0 → W p l e ({ frames := 3, cells := 0, slots := 0, locals := 69 }) s m args below meth c H locs 0 0 (MQ below (va_Qv (S := Mem) (fun (u : Mem) => post u) (fun u t => AT (dC, dI) (TY cI cJ) A (ww_X10 cI cJ q0 u) t) A) args s 0 0 A) (F0 m 0 ls []) := by
  obtain ⟨hx, hb, hr, hml, hown, hts, hlocks, hK⟩ := id cx
  have cx' : CX RX10 cX10_feedsAll (meth.sig.returnType) 2 p s m args meth c (dC, dI) (TY cI cJ) := ⟨hx, hb, rfl, hml, hown, hts, hlocks, hK⟩
  intro m0 H locs ls hP hD hS hl h
  unfold b_X10_feedsAll_0 at h
  refine lv_iconst (v := 0) hx hb dX10_feedsAll_0 (by decide) ?_
  refine lv_istore_n (lv' := [(1, .int 0), (0, .ref (q0 0))]) hx hb dX10_feedsAll_1 rfl hl (by decide) rfl (fun ls hl => ?_)
  obtain ⟨n_1, h⟩ := h
  exact w_X10_feedsAll_2 cx hA n_1 0 m0 H locs ls hP hD hS (lv_sub hl [1, 0] rfl) h
set_option maxRecDepth 100000 in
theorem c_X10_feedsAll (l : Launch) {dC : Nat → ClassId} {dI : Nat → Nat → Nat} {cI cJ : ClassId} (sz : Nat) (q0 : Nat → Nat) (m0 : Mem) (post : Mem → Prop) (h : wp_X10_feedsAll m0 post) : Met l yX10_feedsAll (Cond.code yX10_feedsAll cX10_feedsAll 2 none :: gt) ({ frames := 3, cells := 0, slots := 0, locals := 69 }) (va_Pc [.ref (q0 0)] (PRE (dC, dI) (TY cI cJ) (ww_X10 cI cJ q0 m0) sz)) (va_Qv (S := Mem) (fun (u : Mem) => post u) (fun u t => AT (dC, dI) (TY cI cJ) (va_A (ww_X10 cI cJ q0 m0) sz) (ww_X10 cI cJ q0 u) t) (va_A (ww_X10 cI cJ q0 m0) sz)) 0 0 (va_A (ww_X10 cI cJ q0 m0) sz) :=
  met_of (own := RX10) (Qf := fun A => va_Qv (S := Mem) (fun (u : Mem) => post u) (fun u t => AT (dC, dI) (TY cI cJ) A (ww_X10 cI cJ q0 u) t) A) (by decide) rfl (Nat.le_of_ble_eq_true rfl) rfl (fun p e s m below meth c A cx hA ls hP hD hS hl => w_X10_feedsAll_0 cx hA m0 _ _ ls hP hD hS hl h)
theorem mv_X10_feedsAll : MV yX10_feedsAll cX10_feedsAll 2 none 0 := ⟨⟨kw_913, kw_11, by decide +kernel⟩, kw_912, ksel_30⟩
set_option maxHeartbeats 4000000 in
set_option maxRecDepth 100000 in
theorem w_X10_find_0 {p : Program} {l : Launch} {e : Env} {s : State} {m : MethodId} {args : Array Value} {below : List Frame} {meth : Method} {c : Code} {dC : Nat → ClassId} {dI : Nat → Nat → Nat} {cI cJ : ClassId} {A : Nat → Prop} (cx : CX RX10 cX10_find none 1 p s m args meth c (dC, dI) (TY cI cJ)) (hA : ∀ q, s.heap.size ≤ q → A q) {q0 : Nat → Nat} {post : Mem → Prop} : ∀ (m0 : Mem) (H : Heap) (locs : List Loc) (ls : Array Slot), va_P (dC, dI) vwCl (ww_X10 cI cJ q0 m0) H → va_D A (ww_X10 cI cJ q0 m0) → va_S A s.heap H locs → lv_has ls 1 [(0, .ref (q0 0))] → b_X10_find_0 post m0 → W p l e ({ frames := 5, cells := 0, slots := 0, locals := 112 }) s m args below meth c H locs 0 0 (MQ below (va_Qv (S := Mem) (fun (u : Mem) => post u) (fun u t => AT (dC, dI) (TY cI cJ) A (ww_X10 cI cJ q0 u) t) A) args s 0 0 A) (F0 m 0 ls []) := by
  obtain ⟨hx, hb, hr, hml, hown, hts, hlocks, hK⟩ := id cx
  have cx' : CX RX10 cX10_find (meth.sig.returnType) 1 p s m args meth c (dC, dI) (TY cI cJ) := ⟨hx, hb, rfl, hml, hown, hts, hlocks, hK⟩
  intro m0 H locs ls hP hD hS hl h
  unfold b_X10_find_0 at h
  refine lv_aload_n hx hb dX10_find_0 rfl (lv_at hl 0 rfl) ?_
  refine call_v (run_V (As := []) (rest := []) cx' (c_X10_reads l H.size q0 m0 _ h) mv_X10_reads kw_893 rfl rfl ⟨Nat.le_of_ble_eq_true rfl, Nat.le_of_ble_eq_true rfl⟩ hP hD rfl rfl rfl hl.1 rfl (Nat.le_of_ble_eq_true rfl) dX10_find_1 ⟨Nat.zero_le _, Nat.zero_le _⟩) hD hS hA (fun u9 H locs hP hD hS h => ?_)
  obtain ⟨m0_1, rfl⟩ : ∃ z, z = u9 := ⟨_, rfl⟩
  have hP : va_P (dC, dI) vwCl (ww_X10 cI cJ q0 m0_1) H := hP
  have hD : va_D A (ww_X10 cI cJ q0 m0_1) := hD
  refine lv_aload_n hx hb dX10_find_4 rfl (lv_at hl 0 rfl) ?_
  refine call_v (run_V (As := []) (rest := []) cx' (c_X10_feedsAll l H.size q0 m0_1 _ h) mv_X10_feedsAll kw_910 rfl rfl ⟨Nat.le_of_ble_eq_true rfl, Nat.le_of_ble_eq_true rfl⟩ hP hD rfl rfl rfl hl.1 rfl (Nat.le_of_ble_eq_true rfl) dX10_find_5 ⟨Nat.zero_le _, Nat.zero_le _⟩) hD hS hA (fun u9 H locs hP hD hS h => ?_)
  obtain ⟨m0_2, rfl⟩ : ∃ z, z = u9 := ⟨_, rfl⟩
  have hP : va_P (dC, dI) vwCl (ww_X10 cI cJ q0 m0_2) H := hP
  have hD : va_D A (ww_X10 cI cJ q0 m0_2) := hD
  exact rt_v (u := m0_2) cx hP hD hS h dX10_find_8
set_option maxRecDepth 100000 in
theorem c_X10_find (l : Launch) {dC : Nat → ClassId} {dI : Nat → Nat → Nat} {cI cJ : ClassId} (sz : Nat) (q0 : Nat → Nat) (m0 : Mem) (post : Mem → Prop) (h : wp_X10_find m0 post) : Met l yX10_find (Cond.code yX10_find cX10_find 1 none :: gt) ({ frames := 5, cells := 0, slots := 0, locals := 112 }) (va_Pc [.ref (q0 0)] (PRE (dC, dI) (TY cI cJ) (ww_X10 cI cJ q0 m0) sz)) (va_Qv (S := Mem) (fun (u : Mem) => post u) (fun u t => AT (dC, dI) (TY cI cJ) (va_A (ww_X10 cI cJ q0 m0) sz) (ww_X10 cI cJ q0 u) t) (va_A (ww_X10 cI cJ q0 m0) sz)) 0 0 (va_A (ww_X10 cI cJ q0 m0) sz) :=
  met_of (own := RX10) (Qf := fun A => va_Qv (S := Mem) (fun (u : Mem) => post u) (fun u t => AT (dC, dI) (TY cI cJ) A (ww_X10 cI cJ q0 u) t) A) (by decide) rfl (Nat.le_of_ble_eq_true rfl) rfl (fun p e s m below meth c A cx hA ls hP hD hS hl => w_X10_find_0 cx hA m0 _ _ ls hP hD hS hl h)
theorem mv_X10_find : MV yX10_find cX10_find 1 none 0 := ⟨⟨kw_909, kw_11, by decide +kernel⟩, kw_908, ksel_29⟩
set_option maxHeartbeats 4000000 in
set_option maxRecDepth 100000 in
theorem w_X10_gives_0 {p : Program} {l : Launch} {e : Env} {s : State} {m : MethodId} {args : Array Value} {below : List Frame} {meth : Method} {c : Code} {dC : Nat → ClassId} {dI : Nat → Nat → Nat} {cI cJ : ClassId} {A : Nat → Prop} (cx : CX RX10 cX10_gives (some .int) 3 p s m args meth c (dC, dI) (TY cI cJ)) (hA : ∀ q, s.heap.size ≤ q → A q) {q0 : Nat → Nat} {post : Int32 → Mem → Prop} : ∀ (x1 : Int32) (x2 : Int32) (m0 : Mem) (H : Heap) (locs : List Loc) (ls : Array Slot), va_P (dC, dI) vwCl (ww_X10 cI cJ q0 m0) H → va_D A (ww_X10 cI cJ q0 m0) → va_S A s.heap H locs → lv_has ls 3 [(0, .ref (q0 0)), (1, .int x1), (2, .int x2)] → b_X10_gives_0 post x1 x2 m0 → W p l e ({ frames := 6, cells := 0, slots := 0, locals := 132 }) s m args below meth c H locs 0 0 (MQ below (va_Qi (S := Mem) (fun (r : Int32) (u : Mem) => post r u) (fun u t => AT (dC, dI) (TY cI cJ) A (ww_X10 cI cJ q0 u) t) A) args s 0 0 A) (F0 m 0 ls []) := by
  obtain ⟨hx, hb, hr, hml, hown, hts, hlocks, hK⟩ := id cx
  have cx' : CX RX10 cX10_gives (meth.sig.returnType) 3 p s m args meth c (dC, dI) (TY cI cJ) := ⟨hx, hb, rfl, hml, hown, hts, hlocks, hK⟩
  intro x1 x2 m0 H locs ls hP hD hS hl h
  unfold b_X10_gives_0 at h
  refine lv_aload_n hx hb dX10_gives_0 rfl (lv_at hl 0 rfl) ?_
  refine call_v (run_V (As := []) (rest := []) cx' (c_X10_find l H.size q0 m0 _ h) mv_X10_find kw_906 rfl rfl ⟨Nat.le_of_ble_eq_true rfl, Nat.le_of_ble_eq_true rfl⟩ hP hD rfl rfl rfl hl.1 rfl (Nat.le_of_ble_eq_true rfl) dX10_gives_1 ⟨Nat.zero_le _, Nat.zero_le _⟩) hD hS hA (fun u9 H locs hP hD hS h => ?_)
  obtain ⟨m0_1, rfl⟩ : ∃ z, z = u9 := ⟨_, rfl⟩
  have hP : va_P (dC, dI) vwCl (ww_X10 cI cJ q0 m0_1) H := hP
  have hD : va_D A (ww_X10 cI cJ q0 m0_1) := hD
  refine lv_aload_n hx hb dX10_gives_4 rfl (lv_at hl 0 rfl) ?_
  refine lv_iload_n hx hb dX10_gives_5 rfl (lv_at hl 1 rfl) ?_
  refine call_i (run_V (As := [.int x1]) (rest := []) cx' (c_X10_isGuest l H.size q0 m0_1 x1 _ h) mv_X10_isGuest kw_881 rfl rfl ⟨Nat.le_of_ble_eq_true rfl, Nat.le_of_ble_eq_true rfl⟩ hP hD rfl rfl rfl hl.1 rfl (Nat.le_of_ble_eq_true rfl) dX10_gives_6 ⟨Nat.zero_le _, Nat.zero_le _⟩) hD hS hA (fun r_2 u9 H locs hP hD hS h => ?_)
  have hP : va_P (dC, dI) vwCl (ww_X10 cI cJ q0 m0_1) H := hP
  have hD : va_D A (ww_X10 cI cJ q0 m0_1) := hD
  refine lv_if_eq (tgt := 34) hx hb dX10_gives_9 (by decide) (fun c_3 => ?_) (fun c_3 => ?_)
  · have h := h.1 c_3
    refine lv_bipush (v := (-2)) hx hb dX10_gives_34 (by decide) ?_
    exact rt_i (v := (-2)) (u := m0_1) cx hP hD hS h dX10_gives_36
  have h := h.2 c_3
  refine lv_aload_n hx hb dX10_gives_12 rfl (lv_at hl 0 rfl) ?_
  refine lv_iload_n hx hb dX10_gives_13 rfl (lv_at hl 2 rfl) ?_
  refine call_i (run_V (As := [.int x2]) (rest := []) cx' (c_X10_isHouse l H.size q0 m0_1 x2 _ h) mv_X10_isHouse kw_873 rfl rfl ⟨Nat.le_of_ble_eq_true rfl, Nat.le_of_ble_eq_true rfl⟩ hP hD rfl rfl rfl hl.1 rfl (Nat.le_of_ble_eq_true rfl) dX10_gives_14 ⟨Nat.zero_le _, Nat.zero_le _⟩) hD hS hA (fun r_4 u9 H locs hP hD hS h => ?_)
  have hP : va_P (dC, dI) vwCl (ww_X10 cI cJ q0 m0_1) H := hP
  have hD : va_D A (ww_X10 cI cJ q0 m0_1) := hD
  refine lv_if_eq (tgt := 34) hx hb dX10_gives_17 (by decide) (fun c_5 => ?_) (fun c_5 => ?_)
  · have h := h.1 c_5
    refine lv_bipush (v := (-2)) hx hb dX10_gives_34 (by decide) ?_
    exact rt_i (v := (-2)) (u := m0_1) cx hP hD hS h dX10_gives_36
  have h := h.2 c_5
  refine lv_aload_n hx hb dX10_gives_20 rfl (lv_at hl 0 rfl) ?_
  refine gf_v (k := 13) (v := .ref (q0 11)) cx' hP 0 i_X10 rfl rfl (by decide) kw_728 rfl rfl dX10_gives_21 ?_
  refine lv_bipush (v := 8) hx hb dX10_gives_24 (by decide) ?_
  refine lv_iload_n hx hb dX10_gives_26 rfl (lv_at hl 1 rfl) ?_
  refine lv_imul hx hb dX10_gives_27 ?_
  refine lv_iload_n hx hb dX10_gives_28 rfl (lv_at hl 2 rfl) ?_
  refine lv_iadd hx hb dX10_gives_29 ?_
  refine va_iald hx hb hK hP 11 0 rfl rfl h.1 dX10_gives_30 ?_
  have h := h.2
  refine lv_goto (tgt := 36) hx hb dX10_gives_31 (by decide) ?_
  exact rt_i (v := m0_1 11 (Int32.toNatClampNeg ((8 * x1) + x2))) (u := m0_1) cx hP hD hS h dX10_gives_36
set_option maxRecDepth 100000 in
theorem c_X10_gives (l : Launch) {dC : Nat → ClassId} {dI : Nat → Nat → Nat} {cI cJ : ClassId} (sz : Nat) (q0 : Nat → Nat) (m0 : Mem) (x1 : Int32) (x2 : Int32) (post : Int32 → Mem → Prop) (h : wp_X10_gives m0 x1 x2 post) : Met l yX10_gives (Cond.code yX10_gives cX10_gives 3 (some .int) :: gt) ({ frames := 6, cells := 0, slots := 0, locals := 132 }) (va_Pc [.ref (q0 0), .int x1, .int x2] (PRE (dC, dI) (TY cI cJ) (ww_X10 cI cJ q0 m0) sz)) (va_Qi (S := Mem) (fun (r : Int32) (u : Mem) => post r u) (fun u t => AT (dC, dI) (TY cI cJ) (va_A (ww_X10 cI cJ q0 m0) sz) (ww_X10 cI cJ q0 u) t) (va_A (ww_X10 cI cJ q0 m0) sz)) 0 0 (va_A (ww_X10 cI cJ q0 m0) sz) :=
  met_of (own := RX10) (Qf := fun A => va_Qi (S := Mem) (fun (r : Int32) (u : Mem) => post r u) (fun u t => AT (dC, dI) (TY cI cJ) A (ww_X10 cI cJ q0 u) t) A) (by decide) rfl (Nat.le_of_ble_eq_true rfl) rfl (fun p e s m below meth c A cx hA ls hP hD hS hl => w_X10_gives_0 cx hA x1 x2 m0 _ _ ls hP hD hS hl h)
theorem mv_X10_gives : MV yX10_gives cX10_gives 3 (some .int) 2 := ⟨⟨kw_905, kw_11, by decide +kernel⟩, kw_903, kw_904⟩
set_option maxHeartbeats 4000000 in
set_option maxRecDepth 100000 in
theorem w_X10_fedBy_0 {p : Program} {l : Launch} {e : Env} {s : State} {m : MethodId} {args : Array Value} {below : List Frame} {meth : Method} {c : Code} {dC : Nat → ClassId} {dI : Nat → Nat → Nat} {cI cJ : ClassId} {A : Nat → Prop} (cx : CX RX10 cX10_fedBy (some .int) 3 p s m args meth c (dC, dI) (TY cI cJ)) (hA : ∀ q, s.heap.size ≤ q → A q) {q0 : Nat → Nat} {m0 : Mem} {post : Int32 → Prop} : ∀ (x1 : Int32) (x2 : Int32) (H : Heap) (locs : List Loc) (ls : Array Slot), va_P (dC, dI) vwCl (ww_X10 cI cJ q0 m0) H → va_D A (ww_X10 cI cJ q0 m0) → va_S A s.heap H locs → lv_has ls 3 [(0, .ref (q0 0)), (1, .int x1), (2, .int x2)] → b_X10_fedBy_0 m0 post x1 x2 → W p l e ({ frames := 1, cells := 0, slots := 0, locals := 22 }) s m args below meth c H locs 0 0 (MQ below (va_Qi (S := Unit) (fun (r : Int32) (_u : Unit) => post r) (fun _u t => AT (dC, dI) (TY cI cJ) A (ww_X10 cI cJ q0 m0) t) A) args s 0 0 A) (F0 m 0 ls []) := by
  obtain ⟨hx, hb, hr, hml, hown, hts, hlocks, hK⟩ := id cx
  have cx' : CX RX10 cX10_fedBy (meth.sig.returnType) 3 p s m args meth c (dC, dI) (TY cI cJ) := ⟨hx, hb, rfl, hml, hown, hts, hlocks, hK⟩
  intro x1 x2 H locs ls hP hD hS hl h
  unfold b_X10_fedBy_0 at h
  refine lv_iload_n hx hb dX10_fedBy_0 rfl (lv_at hl 2 rfl) ?_
  by_cases c_1 : x2 = 0
  · have h := h.1 c_1
    refine lv_tableIn (off := 27) (tgt := 28) hx hb dX10_fedBy_1 (by have e9 := c_1; (rw [e9]; decide)) (by have e9 := c_1; (rw [e9]; decide)) (by have e9 := c_1; (rw [e9]; rfl)) (by decide) ?_
    refine lv_aload_n hx hb dX10_fedBy_28 rfl (lv_at hl 0 rfl) ?_
    refine gf_v (k := 14) (v := .ref (q0 12)) cx' hP 0 i_X10 rfl rfl (by decide) kw_729 rfl rfl dX10_fedBy_29 ?_
    refine lv_iload_n hx hb dX10_fedBy_32 rfl (lv_at hl 1 rfl) ?_
    refine va_iald hx hb hK hP 12 0 rfl rfl h.1 dX10_fedBy_33 ?_
    have h := h.2
    exact rt_i (v := m0 12 (Int32.toNatClampNeg x1)) (u := ()) cx hP hD hS h dX10_fedBy_34
  have h := h.2 c_1
  by_cases c_2 : x2 = 1
  · have h := h.1 c_2
    refine lv_tableIn (off := 34) (tgt := 35) hx hb dX10_fedBy_1 (by have e9 := c_2; (rw [e9]; decide)) (by have e9 := c_2; (rw [e9]; decide)) (by have e9 := c_2; (rw [e9]; rfl)) (by decide) ?_
    refine lv_aload_n hx hb dX10_fedBy_35 rfl (lv_at hl 0 rfl) ?_
    refine gf_v (k := 15) (v := .ref (q0 13)) cx' hP 0 i_X10 rfl rfl (by decide) kw_730 rfl rfl dX10_fedBy_36 ?_
    refine lv_iload_n hx hb dX10_fedBy_39 rfl (lv_at hl 1 rfl) ?_
    refine va_iald hx hb hK hP 13 0 rfl rfl h.1 dX10_fedBy_40 ?_
    have h := h.2
    exact rt_i (v := m0 13 (Int32.toNatClampNeg x1)) (u := ()) cx hP hD hS h dX10_fedBy_41
  have h := h.2 c_2
  by_cases c_3 : x2 = 2
  · have h := h.1 c_3
    refine lv_tableIn (off := 41) (tgt := 42) hx hb dX10_fedBy_1 (by have e9 := c_3; (rw [e9]; decide)) (by have e9 := c_3; (rw [e9]; decide)) (by have e9 := c_3; (rw [e9]; rfl)) (by decide) ?_
    refine lv_aload_n hx hb dX10_fedBy_42 rfl (lv_at hl 0 rfl) ?_
    refine gf_v (k := 16) (v := .ref (q0 14)) cx' hP 0 i_X10 rfl rfl (by decide) kw_731 rfl rfl dX10_fedBy_43 ?_
    refine lv_iload_n hx hb dX10_fedBy_46 rfl (lv_at hl 1 rfl) ?_
    refine va_iald hx hb hK hP 14 0 rfl rfl h.1 dX10_fedBy_47 ?_
    have h := h.2
    exact rt_i (v := m0 14 (Int32.toNatClampNeg x1)) (u := ()) cx hP hD hS h dX10_fedBy_48
  have h := h.2 c_3
  refine tsw_def (tgt := 49) hx hb dX10_fedBy_1 (fun j hj hle => ?_) (by decide) ?_
  · have hj9 : j = 0 ∨ j = 1 ∨ j = 2 := by omega
    rcases hj9 with rfl | rfl | rfl
    · exact absurd (have e9 : x2 = 0 := Int32.toInt_inj.mp (by rw [hj]; rfl); e9) c_1
    · exact absurd (have e9 : x2 = 1 := Int32.toInt_inj.mp (by rw [hj]; rfl); e9) c_2
    · exact absurd (have e9 : x2 = 2 := Int32.toInt_inj.mp (by rw [hj]; rfl); e9) c_3
  refine lv_aload_n hx hb dX10_fedBy_49 rfl (lv_at hl 0 rfl) ?_
  refine gf_v (k := 17) (v := .ref (q0 15)) cx' hP 0 i_X10 rfl rfl (by decide) kw_732 rfl rfl dX10_fedBy_50 ?_
  refine lv_iload_n hx hb dX10_fedBy_53 rfl (lv_at hl 1 rfl) ?_
  refine va_iald hx hb hK hP 15 0 rfl rfl h.1 dX10_fedBy_54 ?_
  have h := h.2
  refine callN_i (run_S (As := [.int (m0 15 (Int32.toNatClampNeg x1))]) (rest := []) (wc := []) cx' (c_X10_ones l H.size (m0 15 (Int32.toNatClampNeg x1)) _ h) ms_X10_ones kw_935 rfl rfl ⟨Nat.le_of_ble_eq_true rfl, Nat.le_of_ble_eq_true rfl⟩ nilP nilD (A := A) rfl hl.1 rfl (Nat.le_of_ble_eq_true rfl) dX10_fedBy_55 ⟨Nat.zero_le _, Nat.zero_le _⟩) hP hS hA (fun r_4 H locs hP hS h => ?_)
  exact rt_i (v := r_4) (u := ()) cx hP hD hS h dX10_fedBy_58
set_option maxRecDepth 100000 in
theorem c_X10_fedBy (l : Launch) {dC : Nat → ClassId} {dI : Nat → Nat → Nat} {cI cJ : ClassId} (sz : Nat) (q0 : Nat → Nat) (m0 : Mem) (x1 : Int32) (x2 : Int32) (post : Int32 → Prop) (h : wp_X10_fedBy m0 x1 x2 post) : Met l yX10_fedBy (Cond.code yX10_fedBy cX10_fedBy 3 (some .int) :: gt) ({ frames := 1, cells := 0, slots := 0, locals := 22 }) (va_Pc [.ref (q0 0), .int x1, .int x2] (PRE (dC, dI) (TY cI cJ) (ww_X10 cI cJ q0 m0) sz)) (va_Qi (S := Unit) (fun (r : Int32) (_u : Unit) => post r) (fun _u t => AT (dC, dI) (TY cI cJ) (va_A (ww_X10 cI cJ q0 m0) sz) (ww_X10 cI cJ q0 m0) t) (va_A (ww_X10 cI cJ q0 m0) sz)) 0 0 (va_A (ww_X10 cI cJ q0 m0) sz) :=
  met_of (own := RX10) (Qf := fun A => va_Qi (S := Unit) (fun (r : Int32) (_u : Unit) => post r) (fun _u t => AT (dC, dI) (TY cI cJ) A (ww_X10 cI cJ q0 m0) t) A) (by decide) rfl (Nat.le_of_ble_eq_true rfl) rfl (fun p e s m below meth c A cx hA ls hP hD hS hl => w_X10_fedBy_0 cx hA x1 x2 _ _ ls hP hD hS hl h)
theorem mv_X10_fedBy : MV yX10_fedBy cX10_fedBy 3 (some .int) 2 := ⟨⟨kw_934, kw_11, by decide +kernel⟩, kw_933, ksel_32⟩
set_option maxHeartbeats 4000000 in
set_option maxRecDepth 100000 in
theorem w_X10_fed_0 {p : Program} {l : Launch} {e : Env} {s : State} {m : MethodId} {args : Array Value} {below : List Frame} {meth : Method} {c : Code} {dC : Nat → ClassId} {dI : Nat → Nat → Nat} {cI cJ : ClassId} {A : Nat → Prop} (cx : CX RX10 cX10_fed (some .int) 3 p s m args meth c (dC, dI) (TY cI cJ)) (hA : ∀ q, s.heap.size ≤ q → A q) {q0 : Nat → Nat} {post : Int32 → Mem → Prop} : ∀ (x1 : Int32) (x2 : Int32) (m0 : Mem) (H : Heap) (locs : List Loc) (ls : Array Slot), va_P (dC, dI) vwCl (ww_X10 cI cJ q0 m0) H → va_D A (ww_X10 cI cJ q0 m0) → va_S A s.heap H locs → lv_has ls 3 [(0, .ref (q0 0)), (1, .int x1), (2, .int x2)] → b_X10_fed_0 post x1 x2 m0 → W p l e ({ frames := 6, cells := 0, slots := 0, locals := 132 }) s m args below meth c H locs 0 0 (MQ below (va_Qi (S := Mem) (fun (r : Int32) (u : Mem) => post r u) (fun u t => AT (dC, dI) (TY cI cJ) A (ww_X10 cI cJ q0 u) t) A) args s 0 0 A) (F0 m 0 ls []) := by
  obtain ⟨hx, hb, hr, hml, hown, hts, hlocks, hK⟩ := id cx
  have cx' : CX RX10 cX10_fed (meth.sig.returnType) 3 p s m args meth c (dC, dI) (TY cI cJ) := ⟨hx, hb, rfl, hml, hown, hts, hlocks, hK⟩
  intro x1 x2 m0 H locs ls hP hD hS hl h
  unfold b_X10_fed_0 at h
  refine lv_aload_n hx hb dX10_fed_0 rfl (lv_at hl 0 rfl) ?_
  refine call_v (run_V (As := []) (rest := []) cx' (c_X10_find l H.size q0 m0 _ h) mv_X10_find kw_906 rfl rfl ⟨Nat.le_of_ble_eq_true rfl, Nat.le_of_ble_eq_true rfl⟩ hP hD rfl rfl rfl hl.1 rfl (Nat.le_of_ble_eq_true rfl) dX10_fed_1 ⟨Nat.zero_le _, Nat.zero_le _⟩) hD hS hA (fun u9 H locs hP hD hS h => ?_)
  obtain ⟨m0_1, rfl⟩ : ∃ z, z = u9 := ⟨_, rfl⟩
  have hP : va_P (dC, dI) vwCl (ww_X10 cI cJ q0 m0_1) H := hP
  have hD : va_D A (ww_X10 cI cJ q0 m0_1) := hD
  refine lv_aload_n hx hb dX10_fed_4 rfl (lv_at hl 0 rfl) ?_
  refine lv_iload_n hx hb dX10_fed_5 rfl (lv_at hl 1 rfl) ?_
  refine call_i (run_V (As := [.int x1]) (rest := []) cx' (c_X10_isGuest l H.size q0 m0_1 x1 _ h) mv_X10_isGuest kw_881 rfl rfl ⟨Nat.le_of_ble_eq_true rfl, Nat.le_of_ble_eq_true rfl⟩ hP hD rfl rfl rfl hl.1 rfl (Nat.le_of_ble_eq_true rfl) dX10_fed_6 ⟨Nat.zero_le _, Nat.zero_le _⟩) hD hS hA (fun r_2 u9 H locs hP hD hS h => ?_)
  have hP : va_P (dC, dI) vwCl (ww_X10 cI cJ q0 m0_1) H := hP
  have hD : va_D A (ww_X10 cI cJ q0 m0_1) := hD
  refine lv_if_eq (tgt := 33) hx hb dX10_fed_9 (by decide) (fun c_3 => ?_) (fun c_3 => ?_)
  · have h := h.1 c_3
    refine lv_bipush (v := (-2)) hx hb dX10_fed_33 (by decide) ?_
    exact rt_i (v := (-2)) (u := m0_1) cx hP hD hS h dX10_fed_35
  have h := h.2 c_3
  refine lv_iload_n hx hb dX10_fed_12 rfl (lv_at hl 2 rfl) ?_
  refine lv_i2l (v := Int32.toInt64 x2) hx hb dX10_fed_13 rfl ?_
  refine lv_lconst (v := 0) hx hb dX10_fed_14 (by decide) ?_
  refine lv_ldc2 hx hb hown (hts _ kw_795) dX10_fed_15 ?_
  refine callN_i (run_S (As := [.long (Int32.toInt64 x2), .long 0, .long 3]) (rest := []) (wc := []) cx' (c_X10_in l H.size (Int32.toInt64 x2) 0 3 _ h) ms_X10_in kw_796 rfl rfl ⟨Nat.le_of_ble_eq_true rfl, Nat.le_of_ble_eq_true rfl⟩ nilP nilD (A := A) rfl hl.1 rfl (Nat.le_of_ble_eq_true rfl) dX10_fed_18 ⟨Nat.zero_le _, Nat.zero_le _⟩) hP hS hA (fun r_4 H locs hP hS h => ?_)
  refine lv_if_eq (tgt := 33) hx hb dX10_fed_21 (by decide) (fun c_5 => ?_) (fun c_5 => ?_)
  · have h := h.1 c_5
    refine lv_bipush (v := (-2)) hx hb dX10_fed_33 (by decide) ?_
    exact rt_i (v := (-2)) (u := m0_1) cx hP hD hS h dX10_fed_35
  have h := h.2 c_5
  refine lv_aload_n hx hb dX10_fed_24 rfl (lv_at hl 0 rfl) ?_
  refine lv_iload_n hx hb dX10_fed_25 rfl (lv_at hl 1 rfl) ?_
  refine lv_iload_n hx hb dX10_fed_26 rfl (lv_at hl 2 rfl) ?_
  refine call_i (run_V (As := [.int x1, .int x2]) (rest := []) cx' (c_X10_fedBy l H.size q0 m0_1 x1 x2 _ h) mv_X10_fedBy kw_931 rfl rfl ⟨Nat.le_of_ble_eq_true rfl, Nat.le_of_ble_eq_true rfl⟩ hP hD rfl rfl rfl hl.1 rfl (Nat.le_of_ble_eq_true rfl) dX10_fed_27 ⟨Nat.zero_le _, Nat.zero_le _⟩) hD hS hA (fun r_6 u9 H locs hP hD hS h => ?_)
  have hP : va_P (dC, dI) vwCl (ww_X10 cI cJ q0 m0_1) H := hP
  have hD : va_D A (ww_X10 cI cJ q0 m0_1) := hD
  refine lv_goto (tgt := 35) hx hb dX10_fed_30 (by decide) ?_
  exact rt_i (v := r_6) (u := m0_1) cx hP hD hS h dX10_fed_35
set_option maxRecDepth 100000 in
theorem c_X10_fed (l : Launch) {dC : Nat → ClassId} {dI : Nat → Nat → Nat} {cI cJ : ClassId} (sz : Nat) (q0 : Nat → Nat) (m0 : Mem) (x1 : Int32) (x2 : Int32) (post : Int32 → Mem → Prop) (h : wp_X10_fed m0 x1 x2 post) : Met l yX10_fed (Cond.code yX10_fed cX10_fed 3 (some .int) :: gt) ({ frames := 6, cells := 0, slots := 0, locals := 132 }) (va_Pc [.ref (q0 0), .int x1, .int x2] (PRE (dC, dI) (TY cI cJ) (ww_X10 cI cJ q0 m0) sz)) (va_Qi (S := Mem) (fun (r : Int32) (u : Mem) => post r u) (fun u t => AT (dC, dI) (TY cI cJ) (va_A (ww_X10 cI cJ q0 m0) sz) (ww_X10 cI cJ q0 u) t) (va_A (ww_X10 cI cJ q0 m0) sz)) 0 0 (va_A (ww_X10 cI cJ q0 m0) sz) :=
  met_of (own := RX10) (Qf := fun A => va_Qi (S := Mem) (fun (r : Int32) (u : Mem) => post r u) (fun u t => AT (dC, dI) (TY cI cJ) A (ww_X10 cI cJ q0 u) t) A) (by decide) rfl (Nat.le_of_ble_eq_true rfl) rfl (fun p e s m below meth c A cx hA ls hP hD hS hl => w_X10_fed_0 cx hA x1 x2 m0 _ _ ls hP hD hS hl h)
theorem mv_X10_fed : MV yX10_fed cX10_fed 3 (some .int) 2 := ⟨⟨kw_930, kw_11, by decide +kernel⟩, kw_928, kw_929⟩
set_option maxHeartbeats 4000000 in
set_option maxRecDepth 100000 in
theorem w_X10_allBy_50 {p : Program} {l : Launch} {e : Env} {s : State} {m : MethodId} {args : Array Value} {below : List Frame} {meth : Method} {c : Code} {dC : Nat → ClassId} {dI : Nat → Nat → Nat} {cI cJ : ClassId} {A : Nat → Prop} (cx : CX RX10 cX10_allBy (some .int) 5 p s m args meth c (dC, dI) (TY cI cJ)) (hA : ∀ q, s.heap.size ≤ q → A q) {q0 : Nat → Nat} {m0 : Mem} {post : Int32 → Prop} {k5 : Int32 → Int32 → Int32 → Int32 → Prop} (hk5 : ∀ (x1 : Int32) (x2 : Int32) (x3 : Int32) (x4 : Int32) (H : Heap) (locs : List Loc) (ls : Array Slot), va_P (dC, dI) vwCl (ww_X10 cI cJ q0 m0) H → va_D A (ww_X10 cI cJ q0 m0) → va_S A s.heap H locs → lv_has ls 5 [(0, .ref (q0 0)), (1, .int x1), (2, .int x2), (3, .int x3), (4, .int x4)] → k5 x1 x2 x3 x4 → W p l e ({ frames := 0, cells := 0, slots := 0, locals := 0 }) s m args below meth c H locs 0 0 (MQ below (va_Qi (S := Unit) (fun (r : Int32) (_u : Unit) => post r) (fun _u t => AT (dC, dI) (TY cI cJ) A (ww_X10 cI cJ q0 m0) t) A) args s 0 0 A) (F0 m 5 ls [])) : ∀ (x1 : Int32) (x2 : Int32) (x4 : Int32) (z0 : Int32) (z1 : Int32) (H : Heap) (locs : List Loc) (ls : Array Slot), va_P (dC, dI) vwCl (ww_X10 cI cJ q0 m0) H → va_D A (ww_X10 cI cJ q0 m0) → va_S A s.heap H locs → lv_has ls 5 [(0, .ref (q0 0)), (1, .int x1), (2, .int x2), (4, .int x4)] → b_X10_allBy_50 m0 post k5 x1 x2 x4 z0 z1 → W p l e ({ frames := 0, cells := 0, slots := 0, locals := 0 }) s m args below meth c H locs 0 0 (MQ below (va_Qi (S := Unit) (fun (r : Int32) (_u : Unit) => post r) (fun _u t => AT (dC, dI) (TY cI cJ) A (ww_X10 cI cJ q0 m0) t) A) args s 0 0 A) (F0 m 50 ls [.int z0, .int z1]) := by
  obtain ⟨hx, hb, hr, hml, hown, hts, hlocks, hK⟩ := id cx
  have cx' : CX RX10 cX10_allBy (meth.sig.returnType) 5 p s m args meth c (dC, dI) (TY cI cJ) := ⟨hx, hb, rfl, hml, hown, hts, hlocks, hK⟩
  intro x1 x2 x4 z0 z1 H locs ls hP hD hS hl h
  unfold b_X10_allBy_50 at h
  refine lv_iadd hx hb dX10_allBy_50 ?_
  refine lv_topi (fun x3_1 ex3_1 => ?_)
  have h := h x3_1 ex3_1
  refine lv_istore_n (lv' := [(3, .int x3_1), (0, .ref (q0 0)), (1, .int x1), (2, .int x2), (4, .int x4)]) hx hb dX10_allBy_51 rfl hl (by decide) rfl (fun ls hl => ?_)
  obtain ⟨x4_2, ex4_2⟩ : ∃ z : Int32, z = x4 + 1 := ⟨_, rfl⟩
  have h := h x4_2 ex4_2
  refine lv_iinc (v := x4_2) (lv' := [(4, .int x4_2), (3, .int x3_1), (0, .ref (q0 0)), (1, .int x1), (2, .int x2)]) hx hb dX10_allBy_52 hl (k := 4) rfl (by rw [ex4_2]; rfl) (by decide) rfl (fun ls hl => ?_)
  refine lv_goto (tgt := 5) hx hb dX10_allBy_55 (by decide) ?_
  exact hk5 x1 x2 x3_1 x4_2 H locs ls hP hD hS (lv_sub hl [2, 3, 4, 1, 0] rfl) h
set_option maxHeartbeats 4000000 in
set_option maxRecDepth 100000 in
theorem w_X10_allBy_5 {p : Program} {l : Launch} {e : Env} {s : State} {m : MethodId} {args : Array Value} {below : List Frame} {meth : Method} {c : Code} {dC : Nat → ClassId} {dI : Nat → Nat → Nat} {cI cJ : ClassId} {A : Nat → Prop} (cx : CX RX10 cX10_allBy (some .int) 5 p s m args meth c (dC, dI) (TY cI cJ)) (hA : ∀ q, s.heap.size ≤ q → A q) {q0 : Nat → Nat} {m0 : Mem} {post : Int32 → Prop} : ∀ (n : Nat) (x1 : Int32) (x2 : Int32) (x3 : Int32) (x4 : Int32) (H : Heap) (locs : List Loc) (ls : Array Slot), va_P (dC, dI) vwCl (ww_X10 cI cJ q0 m0) H → va_D A (ww_X10 cI cJ q0 m0) → va_S A s.heap H locs → lv_has ls 5 [(0, .ref (q0 0)), (1, .int x1), (2, .int x2), (3, .int x3), (4, .int x4)] → b_X10_allBy_5 m0 post n x1 x2 x3 x4 → W p l e ({ frames := 0, cells := 0, slots := 0, locals := 0 }) s m args below meth c H locs 0 0 (MQ below (va_Qi (S := Unit) (fun (r : Int32) (_u : Unit) => post r) (fun _u t => AT (dC, dI) (TY cI cJ) A (ww_X10 cI cJ q0 m0) t) A) args s 0 0 A) (F0 m 5 ls []) := by
  obtain ⟨hx, hb, hr, hml, hown, hts, hlocks, hK⟩ := id cx
  have cx' : CX RX10 cX10_allBy (meth.sig.returnType) 5 p s m args meth c (dC, dI) (TY cI cJ) := ⟨hx, hb, rfl, hml, hown, hts, hlocks, hK⟩
  intro n
  induction n with
  | zero =>
    intro x1 x2 x3 x4 H locs ls hP hD hS hl h
    exact False.elim h
  | succ n ih =>
    intro x1 x2 x3 x4 H locs ls hP hD hS hl h
    unfold b_X10_allBy_5 at h
    refine lv_iload hx hb dX10_allBy_5 (lv_at hl 4 rfl) ?_
    refine lv_aload_n hx hb dX10_allBy_7 rfl (lv_at hl 0 rfl) ?_
    refine gf_v (k := 9) (v := .int (m0 0 9)) cx' hP 0 i_X10 rfl rfl (by decide) kw_724 rfl rfl dX10_allBy_8 ?_
    refine lv_icmp_ge (tgt := 58) hx hb dX10_allBy_11 (by decide) (fun c_1 => ?_) (fun c_1 => ?_)
    · have h := h.1 c_1
      refine lv_iload_n hx hb dX10_allBy_58 rfl (lv_at hl 3 rfl) ?_
      exact rt_i (v := x3) (u := ()) cx hP hD hS h dX10_allBy_59
    have h := h.2 c_1
    refine lv_iload_n hx hb dX10_allBy_14 rfl (lv_at hl 3 rfl) ?_
    refine lv_iload_n hx hb dX10_allBy_15 rfl (lv_at hl 2 rfl) ?_
    refine lv_if_ne (tgt := 34) hx hb dX10_allBy_16 (by decide) (fun c_2 => ?_) (fun c_2 => ?_)
    · have h := h.1 c_2
      refine lv_aload_n hx hb dX10_allBy_34 rfl (lv_at hl 0 rfl) ?_
      refine gf_v (k := 14) (v := .ref (q0 12)) cx' hP 0 i_X10 rfl rfl (by decide) kw_729 rfl rfl dX10_allBy_35 ?_
      refine lv_iload hx hb dX10_allBy_38 (lv_at hl 4 rfl) ?_
      refine va_iald hx hb hK hP 12 0 rfl rfl h.1 dX10_allBy_40 ?_
      have h := h.2
      refine lv_iload_n hx hb dX10_allBy_41 rfl (lv_at hl 1 rfl) ?_
      refine dia_i (ls := ls) (c0 := (m0 12 (Int32.toNatClampNeg x4)) = x1) (a := 1) (b := 0) (J := 50) (rest := [.int x3]) (fun K => ?_) (fun v_4 ev_4 => ?_)
      · refine lv_icmp_ne (tgt := 49) hx hb dX10_allBy_42 (by decide) (fun c_3 => ?_) (fun c_3 => ?_)
        · refine lv_iconst (v := 0) hx hb dX10_allBy_49 (by decide) ?_
          exact K _ (Or.inr ⟨c_3, rfl⟩)
        · refine lv_iconst (v := 1) hx hb dX10_allBy_45 (by decide) ?_
          refine lv_goto (tgt := 50) hx hb dX10_allBy_46 (by decide) ?_
          exact K _ (Or.inl ⟨c_3, rfl⟩)
      have h := h v_4 ev_4
      exact w_X10_allBy_50 cx hA ih x1 x2 x4 v_4 x3 H locs ls hP hD hS (lv_sub hl [0, 1, 2, 4] rfl) h
    have h := h.2 c_2
    refine lv_aload_n hx hb dX10_allBy_19 rfl (lv_at hl 0 rfl) ?_
    refine gf_v (k := 13) (v := .ref (q0 11)) cx' hP 0 i_X10 rfl rfl (by decide) kw_728 rfl rfl dX10_allBy_20 ?_
    refine lv_bipush (v := 8) hx hb dX10_allBy_23 (by decide) ?_
    refine lv_iload hx hb dX10_allBy_25 (lv_at hl 4 rfl) ?_
    refine lv_imul hx hb dX10_allBy_27 ?_
    refine lv_iload_n hx hb dX10_allBy_28 rfl (lv_at hl 1 rfl) ?_
    refine lv_iadd hx hb dX10_allBy_29 ?_
    refine va_iald hx hb hK hP 11 0 rfl rfl h.1 dX10_allBy_30 ?_
    have h := h.2
    refine lv_goto (tgt := 50) hx hb dX10_allBy_31 (by decide) ?_
    exact w_X10_allBy_50 cx hA ih x1 x2 x4 (m0 11 (Int32.toNatClampNeg ((8 * x4) + x1))) x3 H locs ls hP hD hS (lv_sub hl [0, 1, 2, 4] rfl) h
set_option maxHeartbeats 4000000 in
set_option maxRecDepth 100000 in
theorem w_X10_allBy_0 {p : Program} {l : Launch} {e : Env} {s : State} {m : MethodId} {args : Array Value} {below : List Frame} {meth : Method} {c : Code} {dC : Nat → ClassId} {dI : Nat → Nat → Nat} {cI cJ : ClassId} {A : Nat → Prop} (cx : CX RX10 cX10_allBy (some .int) 5 p s m args meth c (dC, dI) (TY cI cJ)) (hA : ∀ q, s.heap.size ≤ q → A q) {q0 : Nat → Nat} {m0 : Mem} {post : Int32 → Prop} : ∀ (x1 : Int32) (x2 : Int32) (H : Heap) (locs : List Loc) (ls : Array Slot), va_P (dC, dI) vwCl (ww_X10 cI cJ q0 m0) H → va_D A (ww_X10 cI cJ q0 m0) → va_S A s.heap H locs → lv_has ls 5 [(0, .ref (q0 0)), (1, .int x1), (2, .int x2)] → b_X10_allBy_0 m0 post x1 x2 → W p l e ({ frames := 0, cells := 0, slots := 0, locals := 0 }) s m args below meth c H locs 0 0 (MQ below (va_Qi (S := Unit) (fun (r : Int32) (_u : Unit) => post r) (fun _u t => AT (dC, dI) (TY cI cJ) A (ww_X10 cI cJ q0 m0) t) A) args s 0 0 A) (F0 m 0 ls []) := by
  obtain ⟨hx, hb, hr, hml, hown, hts, hlocks, hK⟩ := id cx
  have cx' : CX RX10 cX10_allBy (meth.sig.returnType) 5 p s m args meth c (dC, dI) (TY cI cJ) := ⟨hx, hb, rfl, hml, hown, hts, hlocks, hK⟩
  intro x1 x2 H locs ls hP hD hS hl h
  unfold b_X10_allBy_0 at h
  refine lv_iconst (v := 0) hx hb dX10_allBy_0 (by decide) ?_
  refine lv_istore_n (lv' := [(3, .int 0), (0, .ref (q0 0)), (1, .int x1), (2, .int x2)]) hx hb dX10_allBy_1 rfl hl (by decide) rfl (fun ls hl => ?_)
  refine lv_iconst (v := 0) hx hb dX10_allBy_2 (by decide) ?_
  refine lv_istore (lv' := [(4, .int 0), (3, .int 0), (0, .ref (q0 0)), (1, .int x1), (2, .int x2)]) hx hb dX10_allBy_3 hl (by decide) rfl (fun ls hl => ?_)
  obtain ⟨n_1, h⟩ := h
  exact w_X10_allBy_5 cx hA n_1 x1 x2 0 0 H locs ls hP hD hS (lv_sub hl [2, 3, 4, 1, 0] rfl) h
set_option maxRecDepth 100000 in
theorem c_X10_allBy (l : Launch) {dC : Nat → ClassId} {dI : Nat → Nat → Nat} {cI cJ : ClassId} (sz : Nat) (q0 : Nat → Nat) (m0 : Mem) (x1 : Int32) (x2 : Int32) (post : Int32 → Prop) (h : wp_X10_allBy m0 x1 x2 post) : Met l yX10_allBy (Cond.code yX10_allBy cX10_allBy 5 (some .int) :: gt) ({ frames := 0, cells := 0, slots := 0, locals := 0 }) (va_Pc [.ref (q0 0), .int x1, .int x2] (PRE (dC, dI) (TY cI cJ) (ww_X10 cI cJ q0 m0) sz)) (va_Qi (S := Unit) (fun (r : Int32) (_u : Unit) => post r) (fun _u t => AT (dC, dI) (TY cI cJ) (va_A (ww_X10 cI cJ q0 m0) sz) (ww_X10 cI cJ q0 m0) t) (va_A (ww_X10 cI cJ q0 m0) sz)) 0 0 (va_A (ww_X10 cI cJ q0 m0) sz) :=
  met_of (own := RX10) (Qf := fun A => va_Qi (S := Unit) (fun (r : Int32) (_u : Unit) => post r) (fun _u t => AT (dC, dI) (TY cI cJ) A (ww_X10 cI cJ q0 m0) t) A) (by decide) rfl (Nat.le_of_ble_eq_true rfl) rfl (fun p e s m below meth c A cx hA ls hP hD hS hl => w_X10_allBy_0 cx hA x1 x2 _ _ ls hP hD hS hl h)
theorem mv_X10_allBy : MV yX10_allBy cX10_allBy 5 (some .int) 2 := ⟨⟨kw_945, kw_11, by decide +kernel⟩, kw_944, ksel_33⟩
set_option maxHeartbeats 4000000 in
set_option maxRecDepth 100000 in
theorem w_X10_all_0 {p : Program} {l : Launch} {e : Env} {s : State} {m : MethodId} {args : Array Value} {below : List Frame} {meth : Method} {c : Code} {dC : Nat → ClassId} {dI : Nat → Nat → Nat} {cI cJ : ClassId} {A : Nat → Prop} (cx : CX RX10 cX10_all (some .int) 3 p s m args meth c (dC, dI) (TY cI cJ)) (hA : ∀ q, s.heap.size ≤ q → A q) {q0 : Nat → Nat} {post : Int32 → Mem → Prop} : ∀ (x1 : Int32) (x2 : Int32) (m0 : Mem) (H : Heap) (locs : List Loc) (ls : Array Slot), va_P (dC, dI) vwCl (ww_X10 cI cJ q0 m0) H → va_D A (ww_X10 cI cJ q0 m0) → va_S A s.heap H locs → lv_has ls 3 [(0, .ref (q0 0)), (1, .int x1), (2, .int x2)] → b_X10_all_0 post x1 x2 m0 → W p l e ({ frames := 6, cells := 0, slots := 0, locals := 132 }) s m args below meth c H locs 0 0 (MQ below (va_Qi (S := Mem) (fun (r : Int32) (u : Mem) => post r u) (fun u t => AT (dC, dI) (TY cI cJ) A (ww_X10 cI cJ q0 u) t) A) args s 0 0 A) (F0 m 0 ls []) := by
  obtain ⟨hx, hb, hr, hml, hown, hts, hlocks, hK⟩ := id cx
  have cx' : CX RX10 cX10_all (meth.sig.returnType) 3 p s m args meth c (dC, dI) (TY cI cJ) := ⟨hx, hb, rfl, hml, hown, hts, hlocks, hK⟩
  intro x1 x2 m0 H locs ls hP hD hS hl h
  unfold b_X10_all_0 at h
  refine lv_aload_n hx hb dX10_all_0 rfl (lv_at hl 0 rfl) ?_
  refine call_v (run_V (As := []) (rest := []) cx' (c_X10_find l H.size q0 m0 _ h) mv_X10_find kw_906 rfl rfl ⟨Nat.le_of_ble_eq_true rfl, Nat.le_of_ble_eq_true rfl⟩ hP hD rfl rfl rfl hl.1 rfl (Nat.le_of_ble_eq_true rfl) dX10_all_1 ⟨Nat.zero_le _, Nat.zero_le _⟩) hD hS hA (fun u9 H locs hP hD hS h => ?_)
  obtain ⟨m0_1, rfl⟩ : ∃ z, z = u9 := ⟨_, rfl⟩
  have hP : va_P (dC, dI) vwCl (ww_X10 cI cJ q0 m0_1) H := hP
  have hD : va_D A (ww_X10 cI cJ q0 m0_1) := hD
  refine lv_aload_n hx hb dX10_all_4 rfl (lv_at hl 0 rfl) ?_
  refine lv_iload_n hx hb dX10_all_5 rfl (lv_at hl 1 rfl) ?_
  refine call_i (run_V (As := [.int x1]) (rest := []) cx' (c_X10_isHouse l H.size q0 m0_1 x1 _ h) mv_X10_isHouse kw_873 rfl rfl ⟨Nat.le_of_ble_eq_true rfl, Nat.le_of_ble_eq_true rfl⟩ hP hD rfl rfl rfl hl.1 rfl (Nat.le_of_ble_eq_true rfl) dX10_all_6 ⟨Nat.zero_le _, Nat.zero_le _⟩) hD hS hA (fun r_2 u9 H locs hP hD hS h => ?_)
  have hP : va_P (dC, dI) vwCl (ww_X10 cI cJ q0 m0_1) H := hP
  have hD : va_D A (ww_X10 cI cJ q0 m0_1) := hD
  refine lv_if_eq (tgt := 28) hx hb dX10_all_9 (by decide) (fun c_3 => ?_) (fun c_3 => ?_)
  · have h := h.1 c_3
    refine lv_bipush (v := (-2)) hx hb dX10_all_28 (by decide) ?_
    exact rt_i (v := (-2)) (u := m0_1) cx hP hD hS h dX10_all_30
  have h := h.2 c_3
  refine lv_iload_n hx hb dX10_all_12 rfl (lv_at hl 2 rfl) ?_
  refine callN_i (run_S (As := [.int x2]) (rest := []) (wc := []) cx' (c_X10_isTwo l H.size x2 _ h) ms_X10_isTwo kw_832 rfl rfl ⟨Nat.le_of_ble_eq_true rfl, Nat.le_of_ble_eq_true rfl⟩ nilP nilD (A := A) rfl hl.1 rfl (Nat.le_of_ble_eq_true rfl) dX10_all_13 ⟨Nat.zero_le _, Nat.zero_le _⟩) hP hS hA (fun r_4 H locs hP hS h => ?_)
  refine lv_if_eq (tgt := 28) hx hb dX10_all_16 (by decide) (fun c_5 => ?_) (fun c_5 => ?_)
  · have h := h.1 c_5
    refine lv_bipush (v := (-2)) hx hb dX10_all_28 (by decide) ?_
    exact rt_i (v := (-2)) (u := m0_1) cx hP hD hS h dX10_all_30
  have h := h.2 c_5
  refine lv_aload_n hx hb dX10_all_19 rfl (lv_at hl 0 rfl) ?_
  refine lv_iload_n hx hb dX10_all_20 rfl (lv_at hl 1 rfl) ?_
  refine lv_iload_n hx hb dX10_all_21 rfl (lv_at hl 2 rfl) ?_
  refine call_i (run_V (As := [.int x1, .int x2]) (rest := []) cx' (c_X10_allBy l H.size q0 m0_1 x1 x2 _ h) mv_X10_allBy kw_942 rfl rfl ⟨Nat.le_of_ble_eq_true rfl, Nat.le_of_ble_eq_true rfl⟩ hP hD rfl rfl rfl hl.1 rfl (Nat.le_of_ble_eq_true rfl) dX10_all_22 ⟨Nat.zero_le _, Nat.zero_le _⟩) hD hS hA (fun r_6 u9 H locs hP hD hS h => ?_)
  have hP : va_P (dC, dI) vwCl (ww_X10 cI cJ q0 m0_1) H := hP
  have hD : va_D A (ww_X10 cI cJ q0 m0_1) := hD
  refine lv_goto (tgt := 30) hx hb dX10_all_25 (by decide) ?_
  exact rt_i (v := r_6) (u := m0_1) cx hP hD hS h dX10_all_30
set_option maxRecDepth 100000 in
theorem c_X10_all (l : Launch) {dC : Nat → ClassId} {dI : Nat → Nat → Nat} {cI cJ : ClassId} (sz : Nat) (q0 : Nat → Nat) (m0 : Mem) (x1 : Int32) (x2 : Int32) (post : Int32 → Mem → Prop) (h : wp_X10_all m0 x1 x2 post) : Met l yX10_all (Cond.code yX10_all cX10_all 3 (some .int) :: gt) ({ frames := 6, cells := 0, slots := 0, locals := 132 }) (va_Pc [.ref (q0 0), .int x1, .int x2] (PRE (dC, dI) (TY cI cJ) (ww_X10 cI cJ q0 m0) sz)) (va_Qi (S := Mem) (fun (r : Int32) (u : Mem) => post r u) (fun u t => AT (dC, dI) (TY cI cJ) (va_A (ww_X10 cI cJ q0 m0) sz) (ww_X10 cI cJ q0 u) t) (va_A (ww_X10 cI cJ q0 m0) sz)) 0 0 (va_A (ww_X10 cI cJ q0 m0) sz) :=
  met_of (own := RX10) (Qf := fun A => va_Qi (S := Mem) (fun (r : Int32) (u : Mem) => post r u) (fun u t => AT (dC, dI) (TY cI cJ) A (ww_X10 cI cJ q0 u) t) A) (by decide) rfl (Nat.le_of_ble_eq_true rfl) rfl (fun p e s m below meth c A cx hA ls hP hD hS hl => w_X10_all_0 cx hA x1 x2 m0 _ _ ls hP hD hS hl h)
theorem mv_X10_all : MV yX10_all cX10_all 3 (some .int) 2 := ⟨⟨kw_941, kw_11, by decide +kernel⟩, kw_939, kw_940⟩
set_option maxHeartbeats 4000000 in
set_option maxRecDepth 100000 in
theorem w_X10_priceOf_0 {p : Program} {l : Launch} {e : Env} {s : State} {m : MethodId} {args : Array Value} {below : List Frame} {meth : Method} {c : Code} {dC : Nat → ClassId} {dI : Nat → Nat → Nat} {cI cJ : ClassId} {A : Nat → Prop} (cx : CX RX10 cX10_priceOf (some .int) 2 p s m args meth c (dC, dI) (TY cI cJ)) (hA : ∀ q, s.heap.size ≤ q → A q) {q0 : Nat → Nat} {m0 : Mem} {post : Int32 → Prop} : ∀ (x1 : Int32) (H : Heap) (locs : List Loc) (ls : Array Slot), va_P (dC, dI) vwCl (ww_X10 cI cJ q0 m0) H → va_D A (ww_X10 cI cJ q0 m0) → va_S A s.heap H locs → lv_has ls 2 [(0, .ref (q0 0)), (1, .int x1)] → b_X10_priceOf_0 m0 post x1 → W p l e ({ frames := 1, cells := 0, slots := 0, locals := 24 }) s m args below meth c H locs 0 0 (MQ below (va_Qi (S := Unit) (fun (r : Int32) (_u : Unit) => post r) (fun _u t => AT (dC, dI) (TY cI cJ) A (ww_X10 cI cJ q0 m0) t) A) args s 0 0 A) (F0 m 0 ls []) := by
  obtain ⟨hx, hb, hr, hml, hown, hts, hlocks, hK⟩ := id cx
  have cx' : CX RX10 cX10_priceOf (meth.sig.returnType) 2 p s m args meth c (dC, dI) (TY cI cJ) := ⟨hx, hb, rfl, hml, hown, hts, hlocks, hK⟩
  intro x1 H locs ls hP hD hS hl h
  unfold b_X10_priceOf_0 at h
  refine lv_aload_n hx hb dX10_priceOf_0 rfl (lv_at hl 0 rfl) ?_
  refine gf_v (k := 8) (v := .ref (q0 7)) cx' hP 0 i_X10 rfl rfl (by decide) kw_723 rfl rfl dX10_priceOf_1 ?_
  refine lv_iconst (v := 3) hx hb dX10_priceOf_4 (by decide) ?_
  refine lv_iload_n hx hb dX10_priceOf_5 rfl (lv_at hl 1 rfl) ?_
  refine lv_imul hx hb dX10_priceOf_6 ?_
  refine lv_iconst (v := 2) hx hb dX10_priceOf_7 (by decide) ?_
  refine lv_iadd hx hb dX10_priceOf_8 ?_
  refine va_iald hx hb hK hP 7 0 rfl rfl h.1 dX10_priceOf_9 ?_
  have h := h.2
  refine lv_iconst (v := 3) hx hb dX10_priceOf_10 (by decide) ?_
  refine lv_aload_n hx hb dX10_priceOf_11 rfl (lv_at hl 0 rfl) ?_
  refine lv_iload_n hx hb dX10_priceOf_12 rfl (lv_at hl 1 rfl) ?_
  refine lv_iconst (v := 1) hx hb dX10_priceOf_13 (by decide) ?_
  refine call_i (run_V (As := [.int x1, .int 1]) (rest := [.int 3, .int (m0 7 (Int32.toNatClampNeg ((3 * x1) + 2)))]) cx' (c_X10_allBy l H.size q0 m0 x1 1 _ h) mv_X10_allBy kw_942 rfl rfl ⟨Nat.le_of_ble_eq_true rfl, Nat.le_of_ble_eq_true rfl⟩ hP hD rfl rfl rfl hl.1 rfl (Nat.le_of_ble_eq_true rfl) dX10_priceOf_14 ⟨Nat.zero_le _, Nat.zero_le _⟩) hD hS hA (fun r_1 u9 H locs hP hD hS h => ?_)
  have hP : va_P (dC, dI) vwCl (ww_X10 cI cJ q0 m0) H := hP
  have hD : va_D A (ww_X10 cI cJ q0 m0) := hD
  refine lv_imul hx hb dX10_priceOf_17 ?_
  refine lv_iadd hx hb dX10_priceOf_18 ?_
  refine lv_aload_n hx hb dX10_priceOf_19 rfl (lv_at hl 0 rfl) ?_
  refine lv_iload_n hx hb dX10_priceOf_20 rfl (lv_at hl 1 rfl) ?_
  refine lv_iconst (v := 0) hx hb dX10_priceOf_21 (by decide) ?_
  refine call_i (run_V (As := [.int x1, .int 0]) (rest := [.int ((m0 7 (Int32.toNatClampNeg ((3 * x1) + 2))) + (3 * r_1))]) cx' (c_X10_allBy l H.size q0 m0 x1 0 _ h) mv_X10_allBy kw_942 rfl rfl ⟨Nat.le_of_ble_eq_true rfl, Nat.le_of_ble_eq_true rfl⟩ hP hD rfl rfl rfl hl.1 rfl (Nat.le_of_ble_eq_true rfl) dX10_priceOf_22 ⟨Nat.zero_le _, Nat.zero_le _⟩) hD hS hA (fun r_2 u9 H locs hP hD hS h => ?_)
  have hP : va_P (dC, dI) vwCl (ww_X10 cI cJ q0 m0) H := hP
  have hD : va_D A (ww_X10 cI cJ q0 m0) := hD
  refine lv_isub hx hb dX10_priceOf_25 ?_
  exact rt_i (v := ((m0 7 (Int32.toNatClampNeg ((3 * x1) + 2))) + (3 * r_1)) - r_2) (u := ()) cx hP hD hS h dX10_priceOf_26
set_option maxRecDepth 100000 in
theorem c_X10_priceOf (l : Launch) {dC : Nat → ClassId} {dI : Nat → Nat → Nat} {cI cJ : ClassId} (sz : Nat) (q0 : Nat → Nat) (m0 : Mem) (x1 : Int32) (post : Int32 → Prop) (h : wp_X10_priceOf m0 x1 post) : Met l yX10_priceOf (Cond.code yX10_priceOf cX10_priceOf 2 (some .int) :: gt) ({ frames := 1, cells := 0, slots := 0, locals := 24 }) (va_Pc [.ref (q0 0), .int x1] (PRE (dC, dI) (TY cI cJ) (ww_X10 cI cJ q0 m0) sz)) (va_Qi (S := Unit) (fun (r : Int32) (_u : Unit) => post r) (fun _u t => AT (dC, dI) (TY cI cJ) (va_A (ww_X10 cI cJ q0 m0) sz) (ww_X10 cI cJ q0 m0) t) (va_A (ww_X10 cI cJ q0 m0) sz)) 0 0 (va_A (ww_X10 cI cJ q0 m0) sz) :=
  met_of (own := RX10) (Qf := fun A => va_Qi (S := Unit) (fun (r : Int32) (_u : Unit) => post r) (fun _u t => AT (dC, dI) (TY cI cJ) A (ww_X10 cI cJ q0 m0) t) A) (by decide) rfl (Nat.le_of_ble_eq_true rfl) rfl (fun p e s m below meth c A cx hA ls hP hD hS hl => w_X10_priceOf_0 cx hA x1 _ _ ls hP hD hS hl h)
theorem mv_X10_priceOf : MV yX10_priceOf cX10_priceOf 2 (some .int) 1 := ⟨⟨kw_953, kw_11, by decide +kernel⟩, kw_952, ksel_34⟩
set_option maxHeartbeats 4000000 in
set_option maxRecDepth 100000 in
theorem w_X10_price_0 {p : Program} {l : Launch} {e : Env} {s : State} {m : MethodId} {args : Array Value} {below : List Frame} {meth : Method} {c : Code} {dC : Nat → ClassId} {dI : Nat → Nat → Nat} {cI cJ : ClassId} {A : Nat → Prop} (cx : CX RX10 cX10_price (some .int) 2 p s m args meth c (dC, dI) (TY cI cJ)) (hA : ∀ q, s.heap.size ≤ q → A q) {q0 : Nat → Nat} {post : Int32 → Mem → Prop} : ∀ (x1 : Int32) (m0 : Mem) (H : Heap) (locs : List Loc) (ls : Array Slot), va_P (dC, dI) vwCl (ww_X10 cI cJ q0 m0) H → va_D A (ww_X10 cI cJ q0 m0) → va_S A s.heap H locs → lv_has ls 2 [(0, .ref (q0 0)), (1, .int x1)] → b_X10_price_0 post x1 m0 → W p l e ({ frames := 6, cells := 0, slots := 0, locals := 132 }) s m args below meth c H locs 0 0 (MQ below (va_Qi (S := Mem) (fun (r : Int32) (u : Mem) => post r u) (fun u t => AT (dC, dI) (TY cI cJ) A (ww_X10 cI cJ q0 u) t) A) args s 0 0 A) (F0 m 0 ls []) := by
  obtain ⟨hx, hb, hr, hml, hown, hts, hlocks, hK⟩ := id cx
  have cx' : CX RX10 cX10_price (meth.sig.returnType) 2 p s m args meth c (dC, dI) (TY cI cJ) := ⟨hx, hb, rfl, hml, hown, hts, hlocks, hK⟩
  intro x1 m0 H locs ls hP hD hS hl h
  unfold b_X10_price_0 at h
  refine lv_aload_n hx hb dX10_price_0 rfl (lv_at hl 0 rfl) ?_
  refine call_v (run_V (As := []) (rest := []) cx' (c_X10_find l H.size q0 m0 _ h) mv_X10_find kw_906 rfl rfl ⟨Nat.le_of_ble_eq_true rfl, Nat.le_of_ble_eq_true rfl⟩ hP hD rfl rfl rfl hl.1 rfl (Nat.le_of_ble_eq_true rfl) dX10_price_1 ⟨Nat.zero_le _, Nat.zero_le _⟩) hD hS hA (fun u9 H locs hP hD hS h => ?_)
  obtain ⟨m0_1, rfl⟩ : ∃ z, z = u9 := ⟨_, rfl⟩
  have hP : va_P (dC, dI) vwCl (ww_X10 cI cJ q0 m0_1) H := hP
  have hD : va_D A (ww_X10 cI cJ q0 m0_1) := hD
  refine lv_aload_n hx hb dX10_price_4 rfl (lv_at hl 0 rfl) ?_
  refine lv_iload_n hx hb dX10_price_5 rfl (lv_at hl 1 rfl) ?_
  refine call_i (run_V (As := [.int x1]) (rest := []) cx' (c_X10_isHouse l H.size q0 m0_1 x1 _ h) mv_X10_isHouse kw_873 rfl rfl ⟨Nat.le_of_ble_eq_true rfl, Nat.le_of_ble_eq_true rfl⟩ hP hD rfl rfl rfl hl.1 rfl (Nat.le_of_ble_eq_true rfl) dX10_price_6 ⟨Nat.zero_le _, Nat.zero_le _⟩) hD hS hA (fun r_2 u9 H locs hP hD hS h => ?_)
  have hP : va_P (dC, dI) vwCl (ww_X10 cI cJ q0 m0_1) H := hP
  have hD : va_D A (ww_X10 cI cJ q0 m0_1) := hD
  refine lv_if_eq (tgt := 20) hx hb dX10_price_9 (by decide) (fun c_3 => ?_) (fun c_3 => ?_)
  · have h := h.1 c_3
    refine lv_sipush (v := (-10002)) hx hb dX10_price_20 (by decide) ?_
    exact rt_i (v := (-10002)) (u := m0_1) cx hP hD hS h dX10_price_23
  have h := h.2 c_3
  refine lv_aload_n hx hb dX10_price_12 rfl (lv_at hl 0 rfl) ?_
  refine lv_iload_n hx hb dX10_price_13 rfl (lv_at hl 1 rfl) ?_
  refine call_i (run_V (As := [.int x1]) (rest := []) cx' (c_X10_priceOf l H.size q0 m0_1 x1 _ h) mv_X10_priceOf kw_950 rfl rfl ⟨Nat.le_of_ble_eq_true rfl, Nat.le_of_ble_eq_true rfl⟩ hP hD rfl rfl rfl hl.1 rfl (Nat.le_of_ble_eq_true rfl) dX10_price_14 ⟨Nat.zero_le _, Nat.zero_le _⟩) hD hS hA (fun r_4 u9 H locs hP hD hS h => ?_)
  have hP : va_P (dC, dI) vwCl (ww_X10 cI cJ q0 m0_1) H := hP
  have hD : va_D A (ww_X10 cI cJ q0 m0_1) := hD
  refine lv_goto (tgt := 23) hx hb dX10_price_17 (by decide) ?_
  exact rt_i (v := r_4) (u := m0_1) cx hP hD hS h dX10_price_23
set_option maxRecDepth 100000 in
theorem c_X10_price (l : Launch) {dC : Nat → ClassId} {dI : Nat → Nat → Nat} {cI cJ : ClassId} (sz : Nat) (q0 : Nat → Nat) (m0 : Mem) (x1 : Int32) (post : Int32 → Mem → Prop) (h : wp_X10_price m0 x1 post) : Met l yX10_price (Cond.code yX10_price cX10_price 2 (some .int) :: gt) ({ frames := 6, cells := 0, slots := 0, locals := 132 }) (va_Pc [.ref (q0 0), .int x1] (PRE (dC, dI) (TY cI cJ) (ww_X10 cI cJ q0 m0) sz)) (va_Qi (S := Mem) (fun (r : Int32) (u : Mem) => post r u) (fun u t => AT (dC, dI) (TY cI cJ) (va_A (ww_X10 cI cJ q0 m0) sz) (ww_X10 cI cJ q0 u) t) (va_A (ww_X10 cI cJ q0 m0) sz)) 0 0 (va_A (ww_X10 cI cJ q0 m0) sz) :=
  met_of (own := RX10) (Qf := fun A => va_Qi (S := Mem) (fun (r : Int32) (u : Mem) => post r u) (fun u t => AT (dC, dI) (TY cI cJ) A (ww_X10 cI cJ q0 u) t) A) (by decide) rfl (Nat.le_of_ble_eq_true rfl) rfl (fun p e s m below meth c A cx hA ls hP hD hS hl => w_X10_price_0 cx hA x1 m0 _ _ ls hP hD hS hl h)
theorem mv_X10_price : MV yX10_price cX10_price 2 (some .int) 1 := ⟨⟨kw_949, kw_11, by decide +kernel⟩, kw_947, kw_948⟩
