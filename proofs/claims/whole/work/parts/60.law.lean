-- the law: calls over its two systems
section LAW
variable {p : Program} {l : Launch} {e : Env} {R : Room} {s : State} {m : MethodId} {args a : Array Value} {below : List Frame} {meth : Method} {c : Code} {H H0 : Heap} {locs : List Loc} {cells slots : Nat} {Q : State → Prop}
variable {pc : Nat} {ls : Array Slot} {rest st0 : List Value} {D : va_G} {ty : List (ClassId × FieldType)} {A : Nat → Prop} {cI cJ : ClassId} {qa : Nat → Nat → Nat} {q0 : Nat → Nat} {C : Nat → Mem} {L : MemL} {M : Mem}
abbrev wL (cI cJ : ClassId) (qa : Nat → Nat → Nat) (q0 : Nat → Nat) (C : Nat → Mem) (L : MemL) (M : Mem) : va_W := wC cI cJ qa C L ++ ww_X10 cI cJ q0 M
theorem wl_c : ([0, 1, 2, 3, 4, 5, 6, 7, 8, 9, 10, 11, 12, 13, 14, 15, 16, 17, 18, 19, 20, 21, 22, 23, 24, 25, 26, 27, 28, 29, 30, 31, 32, 33, 34, 35, 36, 37, 38, 39] : List Nat).map (fun i => (wL cI cJ qa q0 C L M)[i]?) = (wC cI cJ qa C L).map some := rfl
theorem wl_m : ([40, 41, 42, 43, 44, 45, 46, 47, 48, 49, 50, 51, 52, 53, 54, 55, 56] : List Nat).map (fun i => (wL cI cJ qa q0 C L M)[i]?) = (ww_X10 cI cJ q0 M).map some := rfl
theorem wl_px : ([17, 18, 19, 20, 21, 22, 23, 24, 25, 26, 27, 28, 29, 30, 31, 32, 33, 34, 35, 36, 37, 38, 39, 40, 41, 42, 43, 44, 45, 46, 47, 48, 49, 50, 51, 52, 53, 54, 55, 56, 0, 1, 2, 3, 4, 5, 6, 7, 8, 9, 10, 11, 12, 13, 14, 15, 16] : List Nat).map (fun i => (ww_X10 cI cJ q0 M ++ wC cI cJ qa C L)[i]?) = (wL cI cJ qa q0 C L M).map some := rfl
theorem wl_pm : ([0, 1, 2, 3, 4, 5, 6, 7, 8, 9, 10, 11, 12, 13, 14, 15, 16, 17, 18, 19, 20, 21, 22, 23, 24, 25, 26, 27, 28, 29, 30, 31, 32, 33, 34, 35, 36, 37, 38, 39, 40, 41, 42, 43, 44, 45, 46, 47, 48, 49, 50, 51, 52, 53, 54, 55, 56] : List Nat).map (fun i => (wC cI cJ qa C L ++ ww_X10 cI cJ q0 M)[i]?) = (wL cI cJ qa q0 C L M).map some := rfl
theorem nd_40 : va_nd [0, 1, 2, 3, 4, 5, 6, 7, 8, 9, 10, 11, 12, 13, 14, 15, 16, 17, 18, 19, 20, 21, 22, 23, 24, 25, 26, 27, 28, 29, 30, 31, 32, 33, 34, 35, 36, 37, 38, 39] = true := by decide +kernel
theorem nd_17 : va_nd [40, 41, 42, 43, 44, 45, 46, 47, 48, 49, 50, 51, 52, 53, 54, 55, 56] = true := by decide +kernel
theorem nd_px : va_nd [17, 18, 19, 20, 21, 22, 23, 24, 25, 26, 27, 28, 29, 30, 31, 32, 33, 34, 35, 36, 37, 38, 39, 40, 41, 42, 43, 44, 45, 46, 47, 48, 49, 50, 51, 52, 53, 54, 55, 56, 0, 1, 2, 3, 4, 5, 6, 7, 8, 9, 10, 11, 12, 13, 14, 15, 16] = true := by decide +kernel
theorem nd_pm : va_nd [0, 1, 2, 3, 4, 5, 6, 7, 8, 9, 10, 11, 12, 13, 14, 15, 16, 17, 18, 19, 20, 21, 22, 23, 24, 25, 26, 27, 28, 29, 30, 31, 32, 33, 34, 35, 36, 37, 38, 39, 40, 41, 42, 43, 44, 45, 46, 47, 48, 49, 50, 51, 52, 53, 54, 55, 56] = true := by decide +kernel
theorem dj_1 : ∀ i ∈ ([40, 41, 42, 43, 44, 45, 46, 47, 48, 49, 50, 51, 52, 53, 54, 55, 56] : List Nat), i ∉ ([0, 1, 2, 3, 4, 5, 6, 7, 8, 9, 10, 11, 12, 13, 14, 15, 16, 17, 18, 19, 20, 21, 22, 23, 24, 25, 26, 27, 28, 29, 30, 31, 32, 33, 34, 35, 36, 37, 38, 39] : List Nat) := by decide +kernel
theorem dj_2 : ∀ i ∈ ([0, 1, 2, 3, 4, 5, 6, 7, 8, 9, 10, 11, 12, 13, 14, 15, 16, 17, 18, 19, 20, 21, 22, 23, 24, 25, 26, 27, 28, 29, 30, 31, 32, 33, 34, 35, 36, 37, 38, 39] : List Nat), i ∉ ([40, 41, 42, 43, 44, 45, 46, 47, 48, 49, 50, 51, 52, 53, 54, 55, 56] : List Nat) := by decide +kernel
theorem lawX_i {S : Type} {post : Int32 → S → Prop} (Cf : S → Nat → Mem) (Lf : S → MemL) (hP : va_P D vwCl (wL cI cJ qa q0 C L M) H) (hD : va_D A (wL cI cJ qa q0 C L M)) (hS : va_S A H0 H locs) (hA : ∀ q, H0.size ≤ q → A q)
    (hr : va_P D vwCl (wC cI cJ qa C L) H → va_D A (wC cI cJ qa C L) → va_Run p l e R s m args below meth c H locs cells slots 0 0 (F0 m pc ls st0) rest (va_Qi post (fun u t => AT D ty (va_A (wC cI cJ qa C L) H.size) (wC cI cJ qa (Cf u) (Lf u)) t) (va_A (wC cI cJ qa C L) H.size) a) (va_A (wC cI cJ qa C L) H.size))
    (kk : ∀ (r : Int32) (u : S) (H1 : Heap) (locs1 : List Loc), va_P D vwCl (wL cI cJ qa q0 (Cf u) (Lf u) M) H1 → va_D A (wL cI cJ qa q0 (Cf u) (Lf u) M) → va_S A H0 H1 locs1 → post r u → W p l e R s m args below meth c H1 locs1 cells slots Q (F0 m (pc + 3) ls (.int r :: rest))) : W p l e R s m args below meth c H locs cells slots Q (F0 m pc ls st0) :=
  callP_i (ww_X10 cI cJ q0 M) (fun u => wL cI cJ qa q0 (Cf u) (Lf u) M) [0, 1, 2, 3, 4, 5, 6, 7, 8, 9, 10, 11, 12, 13, 14, 15, 16, 17, 18, 19, 20, 21, 22, 23, 24, 25, 26, 27, 28, 29, 30, 31, 32, 33, 34, 35, 36, 37, 38, 39] [40, 41, 42, 43, 44, 45, 46, 47, 48, 49, 50, 51, 52, 53, 54, 55, 56] [17, 18, 19, 20, 21, 22, 23, 24, 25, 26, 27, 28, 29, 30, 31, 32, 33, 34, 35, 36, 37, 38, 39, 40, 41, 42, 43, 44, 45, 46, 47, 48, 49, 50, 51, 52, 53, 54, 55, 56, 0, 1, 2, 3, 4, 5, 6, 7, 8, 9, 10, 11, 12, 13, 14, 15, 16] wl_c wl_m nd_17 dj_1 (fun u => wl_px) nd_px hP hD hS hA hr nd_40 kk
theorem lawM_i {S : Type} {post : Int32 → S → Prop} (Mf : S → Mem) (hP : va_P D vwCl (wL cI cJ qa q0 C L M) H) (hD : va_D A (wL cI cJ qa q0 C L M)) (hS : va_S A H0 H locs) (hA : ∀ q, H0.size ≤ q → A q)
    (hr : va_P D vwCl (ww_X10 cI cJ q0 M) H → va_D A (ww_X10 cI cJ q0 M) → va_Run p l e R s m args below meth c H locs cells slots 0 0 (F0 m pc ls st0) rest (va_Qi post (fun u t => AT D ty (va_A (ww_X10 cI cJ q0 M) H.size) (ww_X10 cI cJ q0 (Mf u)) t) (va_A (ww_X10 cI cJ q0 M) H.size) a) (va_A (ww_X10 cI cJ q0 M) H.size))
    (kk : ∀ (r : Int32) (u : S) (H1 : Heap) (locs1 : List Loc), va_P D vwCl (wL cI cJ qa q0 C L (Mf u)) H1 → va_D A (wL cI cJ qa q0 C L (Mf u)) → va_S A H0 H1 locs1 → post r u → W p l e R s m args below meth c H1 locs1 cells slots Q (F0 m (pc + 3) ls (.int r :: rest))) : W p l e R s m args below meth c H locs cells slots Q (F0 m pc ls st0) :=
  callP_i (wC cI cJ qa C L) (fun u => wL cI cJ qa q0 C L (Mf u)) [40, 41, 42, 43, 44, 45, 46, 47, 48, 49, 50, 51, 52, 53, 54, 55, 56] [0, 1, 2, 3, 4, 5, 6, 7, 8, 9, 10, 11, 12, 13, 14, 15, 16, 17, 18, 19, 20, 21, 22, 23, 24, 25, 26, 27, 28, 29, 30, 31, 32, 33, 34, 35, 36, 37, 38, 39] [0, 1, 2, 3, 4, 5, 6, 7, 8, 9, 10, 11, 12, 13, 14, 15, 16, 17, 18, 19, 20, 21, 22, 23, 24, 25, 26, 27, 28, 29, 30, 31, 32, 33, 34, 35, 36, 37, 38, 39, 40, 41, 42, 43, 44, 45, 46, 47, 48, 49, 50, 51, 52, 53, 54, 55, 56] wl_m wl_c nd_40 dj_2 (fun u => wl_pm) nd_pm hP hD hS hA hr nd_17 kk
theorem lawX_l {S : Type} {post : Int64 → S → Prop} (Cf : S → Nat → Mem) (Lf : S → MemL) (hP : va_P D vwCl (wL cI cJ qa q0 C L M) H) (hD : va_D A (wL cI cJ qa q0 C L M)) (hS : va_S A H0 H locs) (hA : ∀ q, H0.size ≤ q → A q)
    (hr : va_P D vwCl (wC cI cJ qa C L) H → va_D A (wC cI cJ qa C L) → va_Run p l e R s m args below meth c H locs cells slots 0 0 (F0 m pc ls st0) rest (va_Ql post (fun u t => AT D ty (va_A (wC cI cJ qa C L) H.size) (wC cI cJ qa (Cf u) (Lf u)) t) (va_A (wC cI cJ qa C L) H.size) a) (va_A (wC cI cJ qa C L) H.size))
    (kk : ∀ (r : Int64) (u : S) (H1 : Heap) (locs1 : List Loc), va_P D vwCl (wL cI cJ qa q0 (Cf u) (Lf u) M) H1 → va_D A (wL cI cJ qa q0 (Cf u) (Lf u) M) → va_S A H0 H1 locs1 → post r u → W p l e R s m args below meth c H1 locs1 cells slots Q (F0 m (pc + 3) ls (.long r :: rest))) : W p l e R s m args below meth c H locs cells slots Q (F0 m pc ls st0) :=
  callP_l (ww_X10 cI cJ q0 M) (fun u => wL cI cJ qa q0 (Cf u) (Lf u) M) [0, 1, 2, 3, 4, 5, 6, 7, 8, 9, 10, 11, 12, 13, 14, 15, 16, 17, 18, 19, 20, 21, 22, 23, 24, 25, 26, 27, 28, 29, 30, 31, 32, 33, 34, 35, 36, 37, 38, 39] [40, 41, 42, 43, 44, 45, 46, 47, 48, 49, 50, 51, 52, 53, 54, 55, 56] [17, 18, 19, 20, 21, 22, 23, 24, 25, 26, 27, 28, 29, 30, 31, 32, 33, 34, 35, 36, 37, 38, 39, 40, 41, 42, 43, 44, 45, 46, 47, 48, 49, 50, 51, 52, 53, 54, 55, 56, 0, 1, 2, 3, 4, 5, 6, 7, 8, 9, 10, 11, 12, 13, 14, 15, 16] wl_c wl_m nd_17 dj_1 (fun u => wl_px) nd_px hP hD hS hA hr nd_40 kk
theorem lawM_l {S : Type} {post : Int64 → S → Prop} (Mf : S → Mem) (hP : va_P D vwCl (wL cI cJ qa q0 C L M) H) (hD : va_D A (wL cI cJ qa q0 C L M)) (hS : va_S A H0 H locs) (hA : ∀ q, H0.size ≤ q → A q)
    (hr : va_P D vwCl (ww_X10 cI cJ q0 M) H → va_D A (ww_X10 cI cJ q0 M) → va_Run p l e R s m args below meth c H locs cells slots 0 0 (F0 m pc ls st0) rest (va_Ql post (fun u t => AT D ty (va_A (ww_X10 cI cJ q0 M) H.size) (ww_X10 cI cJ q0 (Mf u)) t) (va_A (ww_X10 cI cJ q0 M) H.size) a) (va_A (ww_X10 cI cJ q0 M) H.size))
    (kk : ∀ (r : Int64) (u : S) (H1 : Heap) (locs1 : List Loc), va_P D vwCl (wL cI cJ qa q0 C L (Mf u)) H1 → va_D A (wL cI cJ qa q0 C L (Mf u)) → va_S A H0 H1 locs1 → post r u → W p l e R s m args below meth c H1 locs1 cells slots Q (F0 m (pc + 3) ls (.long r :: rest))) : W p l e R s m args below meth c H locs cells slots Q (F0 m pc ls st0) :=
  callP_l (wC cI cJ qa C L) (fun u => wL cI cJ qa q0 C L (Mf u)) [40, 41, 42, 43, 44, 45, 46, 47, 48, 49, 50, 51, 52, 53, 54, 55, 56] [0, 1, 2, 3, 4, 5, 6, 7, 8, 9, 10, 11, 12, 13, 14, 15, 16, 17, 18, 19, 20, 21, 22, 23, 24, 25, 26, 27, 28, 29, 30, 31, 32, 33, 34, 35, 36, 37, 38, 39] [0, 1, 2, 3, 4, 5, 6, 7, 8, 9, 10, 11, 12, 13, 14, 15, 16, 17, 18, 19, 20, 21, 22, 23, 24, 25, 26, 27, 28, 29, 30, 31, 32, 33, 34, 35, 36, 37, 38, 39, 40, 41, 42, 43, 44, 45, 46, 47, 48, 49, 50, 51, 52, 53, 54, 55, 56] wl_m wl_c nd_40 dj_2 (fun u => wl_pm) nd_pm hP hD hS hA hr nd_17 kk
end LAW
theorem lw_in {i Ln k : Nat} (h : i + 6 ≤ Ln) (hL : Ln ≤ 384) (hk : k < 6) : vp_in (nI i + nI k) Ln := by
  rw [nI_add]
  exact vp_in_nI (by omega) (by omega)
set_option maxRecDepth 20000 in
theorem lop_0 {p : Program} {l : Launch} {e : Env} {s : State} {m : MethodId} {below : List Frame} {meth : Method} {c : Code} {b : Nat} {Q : State → Prop} {dC : Nat → ClassId} {dI : Nat → Nat → Nat} {cI cJ : ClassId} {qa : Nat → Nat → Nat} {q0 : Nat → Nat} {Ln i : Nat} {xs : Nat → Int32} (cx : CX RL cL_law ret 4 p s m #[Value.ref b] meth c (dC, dI) (TY cI cJ)) (hX : va_X b Ln xs s s.heap) (hbl : b < s.heap.size) (hi : i + 6 ≤ Ln) (hL : Ln ≤ 384) (hA : ∀ q, s.heap.size ≤ q → (fun q => s.heap.size ≤ q) q) (C : Nat → Mem) (L : MemL) (M : Mem) (hR : REL C M) (H : Heap) (locs : List Loc) (ls : Array Slot) (hP : va_P (dC, dI) vwCl (wL cI cJ qa q0 C L M) H) (hD : va_D (fun q => s.heap.size ≤ q) (wL cI cJ qa q0 C L M)) (hS : va_S (fun q => s.heap.size ≤ q) s.heap H locs) (hl : lv_has ls 4 [(3, .int (nI i)), (2, .ref (q0 0)), (1, .ref (qa 0 0)), (0, .ref b)]) (K : ∀ (C : Nat → Mem) (L : MemL) (M : Mem) (H : Heap) (locs : List Loc), va_P (dC, dI) vwCl (wL cI cJ qa q0 C L M) H → va_D (fun q => s.heap.size ≤ q) (wL cI cJ qa q0 C L M) → va_S (fun q => s.heap.size ≤ q) s.heap H locs → REL C M → W p l e room_1 s m #[Value.ref b] below meth c H locs 57 1337 Q (F0 m 1218 ls [])) : W p l e room_1 s m #[Value.ref b] below meth c H locs 57 1337 Q (F0 m 184 ls []) := by
  have cx' := cx.self
  obtain ⟨hx, hb, hr, hml, hown, hts, hlocks, hK⟩ := id cx
  have hbA : ¬ s.heap.size ≤ b := Nat.not_le.mpr hbl
  refine lv_aload_n hx hb dL_law_184 rfl (lv_at hl 2 rfl) ?_
  refine lv_aload_n hx hb dL_law_185 rfl (lv_at hl 3 rfl) ?_
  refine lv_iload_n hx hb dL_law_186 rfl (lv_at hl 0 rfl) ?_
  refine lv_iconst (v := 1) hx hb dL_law_187 (by decide) ?_
  refine lv_iadd hx hb dL_law_188 ?_
  refine va_sld hx hb hX hbl hbA hS (lw_in (k := 1) hi hL (by decide)) dL_law_189 ?_
  refine lv_aload_n hx hb dL_law_190 rfl (lv_at hl 3 rfl) ?_
  refine lv_iload_n hx hb dL_law_191 rfl (lv_at hl 0 rfl) ?_
  refine lv_iconst (v := 2) hx hb dL_law_192 (by decide) ?_
  refine lv_iadd hx hb dL_law_193 ?_
  refine va_sld hx hb hX hbl hbA hS (lw_in (k := 2) hi hL (by decide)) dL_law_194 ?_
  refine lawX_i (S := (Nat → Mem) × MemL) (fun u => u.1) (fun u => u.2) hP hD hS hA (fun hPc hDc => run_V (b := qa 0 0) (ci := 9) (As := [.int (xs (nI i + 1).toNatClampNeg), .int (xs (nI i + 2).toNatClampNeg)]) (rest := []) cx' (c_X9_type l H.size qa C L (xs (nI i + 1).toNatClampNeg) (xs (nI i + 2).toNatClampNeg) _ (p_type hR (xs (nI i + 1).toNatClampNeg) (xs (nI i + 2).toNatClampNeg))) mv_X9_type kw_301 rfl rfl ⟨by decide, by decide⟩ hPc hDc rfl rfl rfl hl.1 rfl (Nat.le_of_ble_eq_true rfl) dL_law_195 ⟨by decide, by decide⟩) (fun r u H locs hP hD hS h => ?_)
  refine lv_aload_n hx hb dL_law_198 rfl (lv_at hl 1 rfl) ?_
  refine lv_aload_n hx hb dL_law_199 rfl (lv_at hl 3 rfl) ?_
  refine lv_iload_n hx hb dL_law_200 rfl (lv_at hl 0 rfl) ?_
  refine lv_iconst (v := 1) hx hb dL_law_201 (by decide) ?_
  refine lv_iadd hx hb dL_law_202 ?_
  refine va_sld hx hb hX hbl hbA hS (lw_in (k := 1) hi hL (by decide)) dL_law_203 ?_
  refine lv_aload_n hx hb dL_law_204 rfl (lv_at hl 3 rfl) ?_
  refine lv_iload_n hx hb dL_law_205 rfl (lv_at hl 0 rfl) ?_
  refine lv_iconst (v := 2) hx hb dL_law_206 (by decide) ?_
  refine lv_iadd hx hb dL_law_207 ?_
  refine va_sld hx hb hX hbl hbA hS (lw_in (k := 2) hi hL (by decide)) dL_law_208 ?_
  refine lawM_i (S := Mem) (fun u => u) hP hD hS hA (fun hPc hDc => run_V (b := q0 0) (ci := 10) (As := [.int (xs (nI i + 1).toNatClampNeg), .int (xs (nI i + 2).toNatClampNeg)]) (rest := [.int r]) cx' (c_X10_type l H.size q0 M (xs (nI i + 1).toNatClampNeg) (xs (nI i + 2).toNatClampNeg) _ h) mv_X10_type kw_828 rfl rfl ⟨by decide, by decide⟩ hPc hDc rfl rfl rfl hl.1 rfl (Nat.le_of_ble_eq_true rfl) dL_law_209 ⟨by decide, by decide⟩) (fun r2 u2 H locs hP hD hS h2 => ?_)
  refine lv_icmp_eq (tgt := 1218) hx hb dL_law_212 (by decide) (fun _ => K _ _ _ _ _ hP hD hS h2.2) (fun q9 => absurd h2.1 q9)
set_option maxRecDepth 20000 in
theorem lop_1 {p : Program} {l : Launch} {e : Env} {s : State} {m : MethodId} {below : List Frame} {meth : Method} {c : Code} {b : Nat} {Q : State → Prop} {dC : Nat → ClassId} {dI : Nat → Nat → Nat} {cI cJ : ClassId} {qa : Nat → Nat → Nat} {q0 : Nat → Nat} {Ln i : Nat} {xs : Nat → Int32} (cx : CX RL cL_law ret 4 p s m #[Value.ref b] meth c (dC, dI) (TY cI cJ)) (hX : va_X b Ln xs s s.heap) (hbl : b < s.heap.size) (hi : i + 6 ≤ Ln) (hL : Ln ≤ 384) (hA : ∀ q, s.heap.size ≤ q → (fun q => s.heap.size ≤ q) q) (C : Nat → Mem) (L : MemL) (M : Mem) (hR : REL C M) (H : Heap) (locs : List Loc) (ls : Array Slot) (hP : va_P (dC, dI) vwCl (wL cI cJ qa q0 C L M) H) (hD : va_D (fun q => s.heap.size ≤ q) (wL cI cJ qa q0 C L M)) (hS : va_S (fun q => s.heap.size ≤ q) s.heap H locs) (hl : lv_has ls 4 [(3, .int (nI i)), (2, .ref (q0 0)), (1, .ref (qa 0 0)), (0, .ref b)]) (K : ∀ (C : Nat → Mem) (L : MemL) (M : Mem) (H : Heap) (locs : List Loc), va_P (dC, dI) vwCl (wL cI cJ qa q0 C L M) H → va_D (fun q => s.heap.size ≤ q) (wL cI cJ qa q0 C L M) → va_S (fun q => s.heap.size ≤ q) s.heap H locs → REL C M → W p l e room_1 s m #[Value.ref b] below meth c H locs 57 1337 Q (F0 m 1218 ls [])) : W p l e room_1 s m #[Value.ref b] below meth c H locs 57 1337 Q (F0 m 217 ls []) := by
  have cx' := cx.self
  obtain ⟨hx, hb, hr, hml, hown, hts, hlocks, hK⟩ := id cx
  have hbA : ¬ s.heap.size ≤ b := Nat.not_le.mpr hbl
  refine lv_aload_n hx hb dL_law_217 rfl (lv_at hl 2 rfl) ?_
  refine lv_aload_n hx hb dL_law_218 rfl (lv_at hl 3 rfl) ?_
  refine lv_iload_n hx hb dL_law_219 rfl (lv_at hl 0 rfl) ?_
  refine lv_iconst (v := 1) hx hb dL_law_220 (by decide) ?_
  refine lv_iadd hx hb dL_law_221 ?_
  refine va_sld hx hb hX hbl hbA hS (lw_in (k := 1) hi hL (by decide)) dL_law_222 ?_
  refine lawX_i (S := (Nat → Mem) × MemL) (fun u => u.1) (fun u => u.2) hP hD hS hA (fun hPc hDc => run_V (b := qa 0 0) (ci := 9) (As := [.int (xs (nI i + 1).toNatClampNeg)]) (rest := []) cx' (c_X9_wipe l H.size qa C L (xs (nI i + 1).toNatClampNeg) _ (p_wipe hR (xs (nI i + 1).toNatClampNeg))) mv_X9_wipe kw_386 rfl rfl ⟨by decide, by decide⟩ hPc hDc rfl rfl rfl hl.1 rfl (Nat.le_of_ble_eq_true rfl) dL_law_223 ⟨by decide, by decide⟩) (fun r u H locs hP hD hS h => ?_)
  refine lv_aload_n hx hb dL_law_226 rfl (lv_at hl 1 rfl) ?_
  refine lv_aload_n hx hb dL_law_227 rfl (lv_at hl 3 rfl) ?_
  refine lv_iload_n hx hb dL_law_228 rfl (lv_at hl 0 rfl) ?_
  refine lv_iconst (v := 1) hx hb dL_law_229 (by decide) ?_
  refine lv_iadd hx hb dL_law_230 ?_
  refine va_sld hx hb hX hbl hbA hS (lw_in (k := 1) hi hL (by decide)) dL_law_231 ?_
  refine lawM_i (S := Mem) (fun u => u) hP hD hS hA (fun hPc hDc => run_V (b := q0 0) (ci := 10) (As := [.int (xs (nI i + 1).toNatClampNeg)]) (rest := [.int r]) cx' (c_X10_wipe l H.size q0 M (xs (nI i + 1).toNatClampNeg) _ h) mv_X10_wipe kw_836 rfl rfl ⟨by decide, by decide⟩ hPc hDc rfl rfl rfl hl.1 rfl (Nat.le_of_ble_eq_true rfl) dL_law_232 ⟨by decide, by decide⟩) (fun r2 u2 H locs hP hD hS h2 => ?_)
  refine lv_icmp_eq (tgt := 1218) hx hb dL_law_235 (by decide) (fun _ => K _ _ _ _ _ hP hD hS h2.2) (fun q9 => absurd h2.1 q9)
set_option maxRecDepth 20000 in
theorem lop_2 {p : Program} {l : Launch} {e : Env} {s : State} {m : MethodId} {below : List Frame} {meth : Method} {c : Code} {b : Nat} {Q : State → Prop} {dC : Nat → ClassId} {dI : Nat → Nat → Nat} {cI cJ : ClassId} {qa : Nat → Nat → Nat} {q0 : Nat → Nat} {Ln i : Nat} {xs : Nat → Int32} (cx : CX RL cL_law ret 4 p s m #[Value.ref b] meth c (dC, dI) (TY cI cJ)) (hX : va_X b Ln xs s s.heap) (hbl : b < s.heap.size) (hi : i + 6 ≤ Ln) (hL : Ln ≤ 384) (hA : ∀ q, s.heap.size ≤ q → (fun q => s.heap.size ≤ q) q) (C : Nat → Mem) (L : MemL) (M : Mem) (hR : REL C M) (H : Heap) (locs : List Loc) (ls : Array Slot) (hP : va_P (dC, dI) vwCl (wL cI cJ qa q0 C L M) H) (hD : va_D (fun q => s.heap.size ≤ q) (wL cI cJ qa q0 C L M)) (hS : va_S (fun q => s.heap.size ≤ q) s.heap H locs) (hl : lv_has ls 4 [(3, .int (nI i)), (2, .ref (q0 0)), (1, .ref (qa 0 0)), (0, .ref b)]) (K : ∀ (C : Nat → Mem) (L : MemL) (M : Mem) (H : Heap) (locs : List Loc), va_P (dC, dI) vwCl (wL cI cJ qa q0 C L M) H → va_D (fun q => s.heap.size ≤ q) (wL cI cJ qa q0 C L M) → va_S (fun q => s.heap.size ≤ q) s.heap H locs → REL C M → W p l e room_1 s m #[Value.ref b] below meth c H locs 57 1337 Q (F0 m 1218 ls [])) : W p l e room_1 s m #[Value.ref b] below meth c H locs 57 1337 Q (F0 m 240 ls []) := by
  have cx' := cx.self
  obtain ⟨hx, hb, hr, hml, hown, hts, hlocks, hK⟩ := id cx
  have hbA : ¬ s.heap.size ≤ b := Nat.not_le.mpr hbl
  refine lv_aload_n hx hb dL_law_240 rfl (lv_at hl 2 rfl) ?_
  refine lv_aload_n hx hb dL_law_241 rfl (lv_at hl 3 rfl) ?_
  refine lv_iload_n hx hb dL_law_242 rfl (lv_at hl 0 rfl) ?_
  refine lv_iconst (v := 1) hx hb dL_law_243 (by decide) ?_
  refine lv_iadd hx hb dL_law_244 ?_
  refine va_sld hx hb hX hbl hbA hS (lw_in (k := 1) hi hL (by decide)) dL_law_245 ?_
  refine lawX_i (S := (Nat → Mem) × MemL) (fun u => u.1) (fun u => u.2) hP hD hS hA (fun hPc hDc => run_V (b := qa 0 0) (ci := 9) (As := [.int (xs (nI i + 1).toNatClampNeg)]) (rest := []) cx' (c_X9_undo l H.size qa C L (xs (nI i + 1).toNatClampNeg) _ (p_undo hR (xs (nI i + 1).toNatClampNeg))) mv_X9_undo kw_390 rfl rfl ⟨by decide, by decide⟩ hPc hDc rfl rfl rfl hl.1 rfl (Nat.le_of_ble_eq_true rfl) dL_law_246 ⟨by decide, by decide⟩) (fun r u H locs hP hD hS h => ?_)
  refine lv_aload_n hx hb dL_law_249 rfl (lv_at hl 1 rfl) ?_
  refine lv_aload_n hx hb dL_law_250 rfl (lv_at hl 3 rfl) ?_
  refine lv_iload_n hx hb dL_law_251 rfl (lv_at hl 0 rfl) ?_
  refine lv_iconst (v := 1) hx hb dL_law_252 (by decide) ?_
  refine lv_iadd hx hb dL_law_253 ?_
  refine va_sld hx hb hX hbl hbA hS (lw_in (k := 1) hi hL (by decide)) dL_law_254 ?_
  refine lawM_i (S := Mem) (fun u => u) hP hD hS hA (fun hPc hDc => run_V (b := q0 0) (ci := 10) (As := [.int (xs (nI i + 1).toNatClampNeg)]) (rest := [.int r]) cx' (c_X10_undo l H.size q0 M (xs (nI i + 1).toNatClampNeg) _ h) mv_X10_undo kw_840 rfl rfl ⟨by decide, by decide⟩ hPc hDc rfl rfl rfl hl.1 rfl (Nat.le_of_ble_eq_true rfl) dL_law_255 ⟨by decide, by decide⟩) (fun r2 u2 H locs hP hD hS h2 => ?_)
  refine lv_icmp_eq (tgt := 1218) hx hb dL_law_258 (by decide) (fun _ => K _ _ _ _ _ hP hD hS h2.2) (fun q9 => absurd h2.1 q9)
set_option maxRecDepth 20000 in
theorem lop_3 {p : Program} {l : Launch} {e : Env} {s : State} {m : MethodId} {below : List Frame} {meth : Method} {c : Code} {b : Nat} {Q : State → Prop} {dC : Nat → ClassId} {dI : Nat → Nat → Nat} {cI cJ : ClassId} {qa : Nat → Nat → Nat} {q0 : Nat → Nat} {Ln i : Nat} {xs : Nat → Int32} (cx : CX RL cL_law ret 4 p s m #[Value.ref b] meth c (dC, dI) (TY cI cJ)) (hX : va_X b Ln xs s s.heap) (hbl : b < s.heap.size) (hi : i + 6 ≤ Ln) (hL : Ln ≤ 384) (hA : ∀ q, s.heap.size ≤ q → (fun q => s.heap.size ≤ q) q) (C : Nat → Mem) (L : MemL) (M : Mem) (hR : REL C M) (H : Heap) (locs : List Loc) (ls : Array Slot) (hP : va_P (dC, dI) vwCl (wL cI cJ qa q0 C L M) H) (hD : va_D (fun q => s.heap.size ≤ q) (wL cI cJ qa q0 C L M)) (hS : va_S (fun q => s.heap.size ≤ q) s.heap H locs) (hl : lv_has ls 4 [(3, .int (nI i)), (2, .ref (q0 0)), (1, .ref (qa 0 0)), (0, .ref b)]) (K : ∀ (C : Nat → Mem) (L : MemL) (M : Mem) (H : Heap) (locs : List Loc), va_P (dC, dI) vwCl (wL cI cJ qa q0 C L M) H → va_D (fun q => s.heap.size ≤ q) (wL cI cJ qa q0 C L M) → va_S (fun q => s.heap.size ≤ q) s.heap H locs → REL C M → W p l e room_1 s m #[Value.ref b] below meth c H locs 57 1337 Q (F0 m 1218 ls [])) : W p l e room_1 s m #[Value.ref b] below meth c H locs 57 1337 Q (F0 m 263 ls []) := by
  have cx' := cx.self
  obtain ⟨hx, hb, hr, hml, hown, hts, hlocks, hK⟩ := id cx
  have hbA : ¬ s.heap.size ≤ b := Nat.not_le.mpr hbl
  refine lv_aload_n hx hb dL_law_263 rfl (lv_at hl 2 rfl) ?_
  refine lv_aload_n hx hb dL_law_264 rfl (lv_at hl 3 rfl) ?_
  refine lv_iload_n hx hb dL_law_265 rfl (lv_at hl 0 rfl) ?_
  refine lv_iconst (v := 1) hx hb dL_law_266 (by decide) ?_
  refine lv_iadd hx hb dL_law_267 ?_
  refine va_sld hx hb hX hbl hbA hS (lw_in (k := 1) hi hL (by decide)) dL_law_268 ?_
  refine lawX_i (S := Unit) (fun _ => C) (fun _ => L) hP hD hS hA (fun hPc hDc => run_V (b := qa 0 0) (ci := 9) (As := [.int (xs (nI i + 1).toNatClampNeg)]) (rest := []) cx' (c_X9_fault l H.size qa C L (xs (nI i + 1).toNatClampNeg) _ (p_fault hR (xs (nI i + 1).toNatClampNeg))) mv_X9_fault kw_394 rfl rfl ⟨by decide, by decide⟩ hPc hDc rfl rfl rfl hl.1 rfl (Nat.le_of_ble_eq_true rfl) dL_law_269 ⟨by decide, by decide⟩) (fun r u H locs hP hD hS h => ?_)
  refine lv_aload_n hx hb dL_law_272 rfl (lv_at hl 1 rfl) ?_
  refine lv_aload_n hx hb dL_law_273 rfl (lv_at hl 3 rfl) ?_
  refine lv_iload_n hx hb dL_law_274 rfl (lv_at hl 0 rfl) ?_
  refine lv_iconst (v := 1) hx hb dL_law_275 (by decide) ?_
  refine lv_iadd hx hb dL_law_276 ?_
  refine va_sld hx hb hX hbl hbA hS (lw_in (k := 1) hi hL (by decide)) dL_law_277 ?_
  refine lawM_i (S := Mem) (fun u => u) hP hD hS hA (fun hPc hDc => run_V (b := q0 0) (ci := 10) (As := [.int (xs (nI i + 1).toNatClampNeg)]) (rest := [.int r]) cx' (c_X10_fault l H.size q0 M (xs (nI i + 1).toNatClampNeg) _ h) mv_X10_fault kw_844 rfl rfl ⟨by decide, by decide⟩ hPc hDc rfl rfl rfl hl.1 rfl (Nat.le_of_ble_eq_true rfl) dL_law_278 ⟨by decide, by decide⟩) (fun r2 u2 H locs hP hD hS h2 => ?_)
  refine lv_icmp_eq (tgt := 1218) hx hb dL_law_281 (by decide) (fun _ => K _ _ _ _ _ hP hD hS h2.2) (fun q9 => absurd h2.1 q9)
set_option maxRecDepth 20000 in
theorem lop_4 {p : Program} {l : Launch} {e : Env} {s : State} {m : MethodId} {below : List Frame} {meth : Method} {c : Code} {b : Nat} {Q : State → Prop} {dC : Nat → ClassId} {dI : Nat → Nat → Nat} {cI cJ : ClassId} {qa : Nat → Nat → Nat} {q0 : Nat → Nat} {Ln i : Nat} {xs : Nat → Int32} (cx : CX RL cL_law ret 4 p s m #[Value.ref b] meth c (dC, dI) (TY cI cJ)) (hX : va_X b Ln xs s s.heap) (hbl : b < s.heap.size) (hi : i + 6 ≤ Ln) (hL : Ln ≤ 384) (hA : ∀ q, s.heap.size ≤ q → (fun q => s.heap.size ≤ q) q) (C : Nat → Mem) (L : MemL) (M : Mem) (hR : REL C M) (H : Heap) (locs : List Loc) (ls : Array Slot) (hP : va_P (dC, dI) vwCl (wL cI cJ qa q0 C L M) H) (hD : va_D (fun q => s.heap.size ≤ q) (wL cI cJ qa q0 C L M)) (hS : va_S (fun q => s.heap.size ≤ q) s.heap H locs) (hl : lv_has ls 4 [(3, .int (nI i)), (2, .ref (q0 0)), (1, .ref (qa 0 0)), (0, .ref b)]) (K : ∀ (C : Nat → Mem) (L : MemL) (M : Mem) (H : Heap) (locs : List Loc), va_P (dC, dI) vwCl (wL cI cJ qa q0 C L M) H → va_D (fun q => s.heap.size ≤ q) (wL cI cJ qa q0 C L M) → va_S (fun q => s.heap.size ≤ q) s.heap H locs → REL C M → W p l e room_1 s m #[Value.ref b] below meth c H locs 57 1337 Q (F0 m 1218 ls [])) : W p l e room_1 s m #[Value.ref b] below meth c H locs 57 1337 Q (F0 m 286 ls []) := by
  have cx' := cx.self
  obtain ⟨hx, hb, hr, hml, hown, hts, hlocks, hK⟩ := id cx
  have hbA : ¬ s.heap.size ≤ b := Nat.not_le.mpr hbl
  refine lv_aload_n hx hb dL_law_286 rfl (lv_at hl 2 rfl) ?_
  refine lv_aload_n hx hb dL_law_287 rfl (lv_at hl 3 rfl) ?_
  refine lv_iload_n hx hb dL_law_288 rfl (lv_at hl 0 rfl) ?_
  refine lv_iconst (v := 1) hx hb dL_law_289 (by decide) ?_
  refine lv_iadd hx hb dL_law_290 ?_
  refine va_sld hx hb hX hbl hbA hS (lw_in (k := 1) hi hL (by decide)) dL_law_291 ?_
  refine lv_aload_n hx hb dL_law_292 rfl (lv_at hl 3 rfl) ?_
  refine lv_iload_n hx hb dL_law_293 rfl (lv_at hl 0 rfl) ?_
  refine lv_iconst (v := 2) hx hb dL_law_294 (by decide) ?_
  refine lv_iadd hx hb dL_law_295 ?_
  refine va_sld hx hb hX hbl hbA hS (lw_in (k := 2) hi hL (by decide)) dL_law_296 ?_
  refine lawX_i (S := Unit) (fun _ => C) (fun _ => L) hP hD hS hA (fun hPc hDc => run_V (b := qa 0 0) (ci := 9) (As := [.int (xs (nI i + 1).toNatClampNeg), .int (xs (nI i + 2).toNatClampNeg)]) (rest := []) cx' (c_X9_house l H.size qa C L (xs (nI i + 1).toNatClampNeg) (xs (nI i + 2).toNatClampNeg) _ (p_house hR (xs (nI i + 1).toNatClampNeg) (xs (nI i + 2).toNatClampNeg))) mv_X9_house kw_399 rfl rfl ⟨by decide, by decide⟩ hPc hDc rfl rfl rfl hl.1 rfl (Nat.le_of_ble_eq_true rfl) dL_law_297 ⟨by decide, by decide⟩) (fun r u H locs hP hD hS h => ?_)
  refine lv_aload_n hx hb dL_law_300 rfl (lv_at hl 1 rfl) ?_
  refine lv_aload_n hx hb dL_law_301 rfl (lv_at hl 3 rfl) ?_
  refine lv_iload_n hx hb dL_law_302 rfl (lv_at hl 0 rfl) ?_
  refine lv_iconst (v := 1) hx hb dL_law_303 (by decide) ?_
  refine lv_iadd hx hb dL_law_304 ?_
  refine va_sld hx hb hX hbl hbA hS (lw_in (k := 1) hi hL (by decide)) dL_law_305 ?_
  refine lv_aload_n hx hb dL_law_306 rfl (lv_at hl 3 rfl) ?_
  refine lv_iload_n hx hb dL_law_307 rfl (lv_at hl 0 rfl) ?_
  refine lv_iconst (v := 2) hx hb dL_law_308 (by decide) ?_
  refine lv_iadd hx hb dL_law_309 ?_
  refine va_sld hx hb hX hbl hbA hS (lw_in (k := 2) hi hL (by decide)) dL_law_310 ?_
  refine lawM_i (S := Mem) (fun u => u) hP hD hS hA (fun hPc hDc => run_V (b := q0 0) (ci := 10) (As := [.int (xs (nI i + 1).toNatClampNeg), .int (xs (nI i + 2).toNatClampNeg)]) (rest := [.int r]) cx' (c_X10_house l H.size q0 M (xs (nI i + 1).toNatClampNeg) (xs (nI i + 2).toNatClampNeg) _ h) mv_X10_house kw_869 rfl rfl ⟨by decide, by decide⟩ hPc hDc rfl rfl rfl hl.1 rfl (Nat.le_of_ble_eq_true rfl) dL_law_311 ⟨by decide, by decide⟩) (fun r2 u2 H locs hP hD hS h2 => ?_)
  refine lv_icmp_eq (tgt := 1218) hx hb dL_law_314 (by decide) (fun _ => K _ _ _ _ _ hP hD hS h2.2) (fun q9 => absurd h2.1 q9)
set_option maxRecDepth 20000 in
theorem lop_5 {p : Program} {l : Launch} {e : Env} {s : State} {m : MethodId} {below : List Frame} {meth : Method} {c : Code} {b : Nat} {Q : State → Prop} {dC : Nat → ClassId} {dI : Nat → Nat → Nat} {cI cJ : ClassId} {qa : Nat → Nat → Nat} {q0 : Nat → Nat} {Ln i : Nat} {xs : Nat → Int32} (cx : CX RL cL_law ret 4 p s m #[Value.ref b] meth c (dC, dI) (TY cI cJ)) (hX : va_X b Ln xs s s.heap) (hbl : b < s.heap.size) (hi : i + 6 ≤ Ln) (hL : Ln ≤ 384) (hA : ∀ q, s.heap.size ≤ q → (fun q => s.heap.size ≤ q) q) (C : Nat → Mem) (L : MemL) (M : Mem) (hR : REL C M) (H : Heap) (locs : List Loc) (ls : Array Slot) (hP : va_P (dC, dI) vwCl (wL cI cJ qa q0 C L M) H) (hD : va_D (fun q => s.heap.size ≤ q) (wL cI cJ qa q0 C L M)) (hS : va_S (fun q => s.heap.size ≤ q) s.heap H locs) (hl : lv_has ls 4 [(3, .int (nI i)), (2, .ref (q0 0)), (1, .ref (qa 0 0)), (0, .ref b)]) (K : ∀ (C : Nat → Mem) (L : MemL) (M : Mem) (H : Heap) (locs : List Loc), va_P (dC, dI) vwCl (wL cI cJ qa q0 C L M) H → va_D (fun q => s.heap.size ≤ q) (wL cI cJ qa q0 C L M) → va_S (fun q => s.heap.size ≤ q) s.heap H locs → REL C M → W p l e room_1 s m #[Value.ref b] below meth c H locs 57 1337 Q (F0 m 1218 ls [])) : W p l e room_1 s m #[Value.ref b] below meth c H locs 57 1337 Q (F0 m 319 ls []) := by
  have cx' := cx.self
  obtain ⟨hx, hb, hr, hml, hown, hts, hlocks, hK⟩ := id cx
  have hbA : ¬ s.heap.size ≤ b := Nat.not_le.mpr hbl
  refine lv_aload_n hx hb dL_law_319 rfl (lv_at hl 2 rfl) ?_
  refine lv_aload_n hx hb dL_law_320 rfl (lv_at hl 3 rfl) ?_
  refine lv_iload_n hx hb dL_law_321 rfl (lv_at hl 0 rfl) ?_
  refine lv_iconst (v := 1) hx hb dL_law_322 (by decide) ?_
  refine lv_iadd hx hb dL_law_323 ?_
  refine va_sld hx hb hX hbl hbA hS (lw_in (k := 1) hi hL (by decide)) dL_law_324 ?_
  refine lv_aload_n hx hb dL_law_325 rfl (lv_at hl 3 rfl) ?_
  refine lv_iload_n hx hb dL_law_326 rfl (lv_at hl 0 rfl) ?_
  refine lv_iconst (v := 2) hx hb dL_law_327 (by decide) ?_
  refine lv_iadd hx hb dL_law_328 ?_
  refine va_sld hx hb hX hbl hbA hS (lw_in (k := 2) hi hL (by decide)) dL_law_329 ?_
  refine lawX_i (S := Unit) (fun _ => C) (fun _ => L) hP hD hS hA (fun hPc hDc => run_V (b := qa 0 0) (ci := 9) (As := [.int (xs (nI i + 1).toNatClampNeg), .int (xs (nI i + 2).toNatClampNeg)]) (rest := []) cx' (c_X9_guest l H.size qa C L (xs (nI i + 1).toNatClampNeg) (xs (nI i + 2).toNatClampNeg) _ (p_guest hR (xs (nI i + 1).toNatClampNeg) (xs (nI i + 2).toNatClampNeg))) mv_X9_guest kw_407 rfl rfl ⟨by decide, by decide⟩ hPc hDc rfl rfl rfl hl.1 rfl (Nat.le_of_ble_eq_true rfl) dL_law_330 ⟨by decide, by decide⟩) (fun r u H locs hP hD hS h => ?_)
  refine lv_aload_n hx hb dL_law_333 rfl (lv_at hl 1 rfl) ?_
  refine lv_aload_n hx hb dL_law_334 rfl (lv_at hl 3 rfl) ?_
  refine lv_iload_n hx hb dL_law_335 rfl (lv_at hl 0 rfl) ?_
  refine lv_iconst (v := 1) hx hb dL_law_336 (by decide) ?_
  refine lv_iadd hx hb dL_law_337 ?_
  refine va_sld hx hb hX hbl hbA hS (lw_in (k := 1) hi hL (by decide)) dL_law_338 ?_
  refine lv_aload_n hx hb dL_law_339 rfl (lv_at hl 3 rfl) ?_
  refine lv_iload_n hx hb dL_law_340 rfl (lv_at hl 0 rfl) ?_
  refine lv_iconst (v := 2) hx hb dL_law_341 (by decide) ?_
  refine lv_iadd hx hb dL_law_342 ?_
  refine va_sld hx hb hX hbl hbA hS (lw_in (k := 2) hi hL (by decide)) dL_law_343 ?_
  refine lawM_i (S := Mem) (fun u => u) hP hD hS hA (fun hPc hDc => run_V (b := q0 0) (ci := 10) (As := [.int (xs (nI i + 1).toNatClampNeg), .int (xs (nI i + 2).toNatClampNeg)]) (rest := [.int r]) cx' (c_X10_guest l H.size q0 M (xs (nI i + 1).toNatClampNeg) (xs (nI i + 2).toNatClampNeg) _ h) mv_X10_guest kw_877 rfl rfl ⟨by decide, by decide⟩ hPc hDc rfl rfl rfl hl.1 rfl (Nat.le_of_ble_eq_true rfl) dL_law_344 ⟨by decide, by decide⟩) (fun r2 u2 H locs hP hD hS h2 => ?_)
  refine lv_icmp_eq (tgt := 1218) hx hb dL_law_347 (by decide) (fun _ => K _ _ _ _ _ hP hD hS h2.2) (fun q9 => absurd h2.1 q9)
set_option maxRecDepth 20000 in
theorem lop_6 {p : Program} {l : Launch} {e : Env} {s : State} {m : MethodId} {below : List Frame} {meth : Method} {c : Code} {b : Nat} {Q : State → Prop} {dC : Nat → ClassId} {dI : Nat → Nat → Nat} {cI cJ : ClassId} {qa : Nat → Nat → Nat} {q0 : Nat → Nat} {Ln i : Nat} {xs : Nat → Int32} (cx : CX RL cL_law ret 4 p s m #[Value.ref b] meth c (dC, dI) (TY cI cJ)) (hX : va_X b Ln xs s s.heap) (hbl : b < s.heap.size) (hi : i + 6 ≤ Ln) (hL : Ln ≤ 384) (hA : ∀ q, s.heap.size ≤ q → (fun q => s.heap.size ≤ q) q) (C : Nat → Mem) (L : MemL) (M : Mem) (hR : REL C M) (H : Heap) (locs : List Loc) (ls : Array Slot) (hP : va_P (dC, dI) vwCl (wL cI cJ qa q0 C L M) H) (hD : va_D (fun q => s.heap.size ≤ q) (wL cI cJ qa q0 C L M)) (hS : va_S (fun q => s.heap.size ≤ q) s.heap H locs) (hl : lv_has ls 4 [(3, .int (nI i)), (2, .ref (q0 0)), (1, .ref (qa 0 0)), (0, .ref b)]) (K : ∀ (C : Nat → Mem) (L : MemL) (M : Mem) (H : Heap) (locs : List Loc), va_P (dC, dI) vwCl (wL cI cJ qa q0 C L M) H → va_D (fun q => s.heap.size ≤ q) (wL cI cJ qa q0 C L M) → va_S (fun q => s.heap.size ≤ q) s.heap H locs → REL C M → W p l e room_1 s m #[Value.ref b] below meth c H locs 57 1337 Q (F0 m 1218 ls [])) : W p l e room_1 s m #[Value.ref b] below meth c H locs 57 1337 Q (F0 m 352 ls []) := by
  have cx' := cx.self
  obtain ⟨hx, hb, hr, hml, hown, hts, hlocks, hK⟩ := id cx
  have hbA : ¬ s.heap.size ≤ b := Nat.not_le.mpr hbl
  refine lv_aload_n hx hb dL_law_352 rfl (lv_at hl 2 rfl) ?_
  refine lv_aload_n hx hb dL_law_353 rfl (lv_at hl 3 rfl) ?_
  refine lv_iload_n hx hb dL_law_354 rfl (lv_at hl 0 rfl) ?_
  refine lv_iconst (v := 1) hx hb dL_law_355 (by decide) ?_
  refine lv_iadd hx hb dL_law_356 ?_
  refine va_sld hx hb hX hbl hbA hS (lw_in (k := 1) hi hL (by decide)) dL_law_357 ?_
  refine lv_aload_n hx hb dL_law_358 rfl (lv_at hl 3 rfl) ?_
  refine lv_iload_n hx hb dL_law_359 rfl (lv_at hl 0 rfl) ?_
  refine lv_iconst (v := 2) hx hb dL_law_360 (by decide) ?_
  refine lv_iadd hx hb dL_law_361 ?_
  refine va_sld hx hb hX hbl hbA hS (lw_in (k := 2) hi hL (by decide)) dL_law_362 ?_
  refine lawX_i (S := (Nat → Mem) × MemL) (fun u => u.1) (fun u => u.2) hP hD hS hA (fun hPc hDc => run_V (b := qa 0 0) (ci := 9) (As := [.int (xs (nI i + 1).toNatClampNeg), .int (xs (nI i + 2).toNatClampNeg)]) (rest := []) cx' (c_X9_set l H.size qa C L (xs (nI i + 1).toNatClampNeg) (xs (nI i + 2).toNatClampNeg) _ (p_set hR (xs (nI i + 1).toNatClampNeg) (xs (nI i + 2).toNatClampNeg))) mv_X9_set kw_415 rfl rfl ⟨by decide, by decide⟩ hPc hDc rfl rfl rfl hl.1 rfl (Nat.le_of_ble_eq_true rfl) dL_law_363 ⟨by decide, by decide⟩) (fun r u H locs hP hD hS h => ?_)
  refine lv_aload_n hx hb dL_law_366 rfl (lv_at hl 1 rfl) ?_
  refine lv_aload_n hx hb dL_law_367 rfl (lv_at hl 3 rfl) ?_
  refine lv_iload_n hx hb dL_law_368 rfl (lv_at hl 0 rfl) ?_
  refine lv_iconst (v := 1) hx hb dL_law_369 (by decide) ?_
  refine lv_iadd hx hb dL_law_370 ?_
  refine va_sld hx hb hX hbl hbA hS (lw_in (k := 1) hi hL (by decide)) dL_law_371 ?_
  refine lv_aload_n hx hb dL_law_372 rfl (lv_at hl 3 rfl) ?_
  refine lv_iload_n hx hb dL_law_373 rfl (lv_at hl 0 rfl) ?_
  refine lv_iconst (v := 2) hx hb dL_law_374 (by decide) ?_
  refine lv_iadd hx hb dL_law_375 ?_
  refine va_sld hx hb hX hbl hbA hS (lw_in (k := 2) hi hL (by decide)) dL_law_376 ?_
  refine lawM_i (S := Mem) (fun u => u) hP hD hS hA (fun hPc hDc => run_V (b := q0 0) (ci := 10) (As := [.int (xs (nI i + 1).toNatClampNeg), .int (xs (nI i + 2).toNatClampNeg)]) (rest := [.int r]) cx' (c_X10_set l H.size q0 M (xs (nI i + 1).toNatClampNeg) (xs (nI i + 2).toNatClampNeg) _ h) mv_X10_set kw_885 rfl rfl ⟨by decide, by decide⟩ hPc hDc rfl rfl rfl hl.1 rfl (Nat.le_of_ble_eq_true rfl) dL_law_377 ⟨by decide, by decide⟩) (fun r2 u2 H locs hP hD hS h2 => ?_)
  refine lv_icmp_eq (tgt := 1218) hx hb dL_law_380 (by decide) (fun _ => K _ _ _ _ _ hP hD hS h2.2) (fun q9 => absurd h2.1 q9)
set_option maxRecDepth 20000 in
theorem lop_7 {p : Program} {l : Launch} {e : Env} {s : State} {m : MethodId} {below : List Frame} {meth : Method} {c : Code} {b : Nat} {Q : State → Prop} {dC : Nat → ClassId} {dI : Nat → Nat → Nat} {cI cJ : ClassId} {qa : Nat → Nat → Nat} {q0 : Nat → Nat} {Ln i : Nat} {xs : Nat → Int32} (cx : CX RL cL_law ret 4 p s m #[Value.ref b] meth c (dC, dI) (TY cI cJ)) (hX : va_X b Ln xs s s.heap) (hbl : b < s.heap.size) (hi : i + 6 ≤ Ln) (hL : Ln ≤ 384) (hA : ∀ q, s.heap.size ≤ q → (fun q => s.heap.size ≤ q) q) (C : Nat → Mem) (L : MemL) (M : Mem) (hR : REL C M) (H : Heap) (locs : List Loc) (ls : Array Slot) (hP : va_P (dC, dI) vwCl (wL cI cJ qa q0 C L M) H) (hD : va_D (fun q => s.heap.size ≤ q) (wL cI cJ qa q0 C L M)) (hS : va_S (fun q => s.heap.size ≤ q) s.heap H locs) (hl : lv_has ls 4 [(3, .int (nI i)), (2, .ref (q0 0)), (1, .ref (qa 0 0)), (0, .ref b)]) (K : ∀ (C : Nat → Mem) (L : MemL) (M : Mem) (H : Heap) (locs : List Loc), va_P (dC, dI) vwCl (wL cI cJ qa q0 C L M) H → va_D (fun q => s.heap.size ≤ q) (wL cI cJ qa q0 C L M) → va_S (fun q => s.heap.size ≤ q) s.heap H locs → REL C M → W p l e room_1 s m #[Value.ref b] below meth c H locs 57 1337 Q (F0 m 1218 ls [])) : W p l e room_1 s m #[Value.ref b] below meth c H locs 57 1337 Q (F0 m 385 ls []) := by
  have cx' := cx.self
  obtain ⟨hx, hb, hr, hml, hown, hts, hlocks, hK⟩ := id cx
  have hbA : ¬ s.heap.size ≤ b := Nat.not_le.mpr hbl
  refine lv_aload_n hx hb dL_law_385 rfl (lv_at hl 2 rfl) ?_
  refine lv_aload_n hx hb dL_law_386 rfl (lv_at hl 3 rfl) ?_
  refine lv_iload_n hx hb dL_law_387 rfl (lv_at hl 0 rfl) ?_
  refine lv_iconst (v := 1) hx hb dL_law_388 (by decide) ?_
  refine lv_iadd hx hb dL_law_389 ?_
  refine va_sld hx hb hX hbl hbA hS (lw_in (k := 1) hi hL (by decide)) dL_law_390 ?_
  refine lawX_i (S := Unit) (fun _ => C) (fun _ => L) hP hD hS hA (fun hPc hDc => run_V (b := qa 0 0) (ci := 9) (As := [.int (xs (nI i + 1).toNatClampNeg)]) (rest := []) cx' (c_X9_at l H.size qa C L (xs (nI i + 1).toNatClampNeg) _ (p_at hR (xs (nI i + 1).toNatClampNeg))) mv_X9_at kw_419 rfl rfl ⟨by decide, by decide⟩ hPc hDc rfl rfl rfl hl.1 rfl (Nat.le_of_ble_eq_true rfl) dL_law_391 ⟨by decide, by decide⟩) (fun r u H locs hP hD hS h => ?_)
  refine lv_aload_n hx hb dL_law_394 rfl (lv_at hl 1 rfl) ?_
  refine lv_aload_n hx hb dL_law_395 rfl (lv_at hl 3 rfl) ?_
  refine lv_iload_n hx hb dL_law_396 rfl (lv_at hl 0 rfl) ?_
  refine lv_iconst (v := 1) hx hb dL_law_397 (by decide) ?_
  refine lv_iadd hx hb dL_law_398 ?_
  refine va_sld hx hb hX hbl hbA hS (lw_in (k := 1) hi hL (by decide)) dL_law_399 ?_
  refine lawM_i (S := Mem) (fun u => u) hP hD hS hA (fun hPc hDc => run_V (b := q0 0) (ci := 10) (As := [.int (xs (nI i + 1).toNatClampNeg)]) (rest := [.int r]) cx' (c_X10_at l H.size q0 M (xs (nI i + 1).toNatClampNeg) _ h) mv_X10_at kw_889 rfl rfl ⟨by decide, by decide⟩ hPc hDc rfl rfl rfl hl.1 rfl (Nat.le_of_ble_eq_true rfl) dL_law_400 ⟨by decide, by decide⟩) (fun r2 u2 H locs hP hD hS h2 => ?_)
  refine lv_icmp_eq (tgt := 1218) hx hb dL_law_403 (by decide) (fun _ => K _ _ _ _ _ hP hD hS h2.2) (fun q9 => absurd h2.1 q9)
set_option maxRecDepth 20000 in
theorem lop_8 {p : Program} {l : Launch} {e : Env} {s : State} {m : MethodId} {below : List Frame} {meth : Method} {c : Code} {b : Nat} {Q : State → Prop} {dC : Nat → ClassId} {dI : Nat → Nat → Nat} {cI cJ : ClassId} {qa : Nat → Nat → Nat} {q0 : Nat → Nat} {Ln i : Nat} {xs : Nat → Int32} (cx : CX RL cL_law ret 4 p s m #[Value.ref b] meth c (dC, dI) (TY cI cJ)) (hX : va_X b Ln xs s s.heap) (hbl : b < s.heap.size) (hi : i + 6 ≤ Ln) (hL : Ln ≤ 384) (hA : ∀ q, s.heap.size ≤ q → (fun q => s.heap.size ≤ q) q) (C : Nat → Mem) (L : MemL) (M : Mem) (hR : REL C M) (H : Heap) (locs : List Loc) (ls : Array Slot) (hP : va_P (dC, dI) vwCl (wL cI cJ qa q0 C L M) H) (hD : va_D (fun q => s.heap.size ≤ q) (wL cI cJ qa q0 C L M)) (hS : va_S (fun q => s.heap.size ≤ q) s.heap H locs) (hl : lv_has ls 4 [(3, .int (nI i)), (2, .ref (q0 0)), (1, .ref (qa 0 0)), (0, .ref b)]) (K : ∀ (C : Nat → Mem) (L : MemL) (M : Mem) (H : Heap) (locs : List Loc), va_P (dC, dI) vwCl (wL cI cJ qa q0 C L M) H → va_D (fun q => s.heap.size ≤ q) (wL cI cJ qa q0 C L M) → va_S (fun q => s.heap.size ≤ q) s.heap H locs → REL C M → W p l e room_1 s m #[Value.ref b] below meth c H locs 57 1337 Q (F0 m 1218 ls [])) : W p l e room_1 s m #[Value.ref b] below meth c H locs 57 1337 Q (F0 m 408 ls []) := by
  have cx' := cx.self
  obtain ⟨hx, hb, hr, hml, hown, hts, hlocks, hK⟩ := id cx
  have hbA : ¬ s.heap.size ≤ b := Nat.not_le.mpr hbl
  refine lv_aload_n hx hb dL_law_408 rfl (lv_at hl 2 rfl) ?_
  refine lv_aload_n hx hb dL_law_409 rfl (lv_at hl 3 rfl) ?_
  refine lv_iload_n hx hb dL_law_410 rfl (lv_at hl 0 rfl) ?_
  refine lv_iconst (v := 1) hx hb dL_law_411 (by decide) ?_
  refine lv_iadd hx hb dL_law_412 ?_
  refine va_sld hx hb hX hbl hbA hS (lw_in (k := 1) hi hL (by decide)) dL_law_413 ?_
  refine lv_aload_n hx hb dL_law_414 rfl (lv_at hl 3 rfl) ?_
  refine lv_iload_n hx hb dL_law_415 rfl (lv_at hl 0 rfl) ?_
  refine lv_iconst (v := 2) hx hb dL_law_416 (by decide) ?_
  refine lv_iadd hx hb dL_law_417 ?_
  refine va_sld hx hb hX hbl hbA hS (lw_in (k := 2) hi hL (by decide)) dL_law_418 ?_
  refine lawX_i (S := Unit) (fun _ => C) (fun _ => L) hP hD hS hA (fun hPc hDc => run_V (b := qa 0 0) (ci := 9) (As := [.int (xs (nI i + 1).toNatClampNeg), .int (xs (nI i + 2).toNatClampNeg)]) (rest := []) cx' (c_X9_gives l H.size qa C L (xs (nI i + 1).toNatClampNeg) (xs (nI i + 2).toNatClampNeg) _ (p_gives hR (xs (nI i + 1).toNatClampNeg) (xs (nI i + 2).toNatClampNeg))) mv_X9_gives kw_423 rfl rfl ⟨by decide, by decide⟩ hPc hDc rfl rfl rfl hl.1 rfl (Nat.le_of_ble_eq_true rfl) dL_law_419 ⟨by decide, by decide⟩) (fun r u H locs hP hD hS h => ?_)
  refine lv_aload_n hx hb dL_law_422 rfl (lv_at hl 1 rfl) ?_
  refine lv_aload_n hx hb dL_law_423 rfl (lv_at hl 3 rfl) ?_
  refine lv_iload_n hx hb dL_law_424 rfl (lv_at hl 0 rfl) ?_
  refine lv_iconst (v := 1) hx hb dL_law_425 (by decide) ?_
  refine lv_iadd hx hb dL_law_426 ?_
  refine va_sld hx hb hX hbl hbA hS (lw_in (k := 1) hi hL (by decide)) dL_law_427 ?_
  refine lv_aload_n hx hb dL_law_428 rfl (lv_at hl 3 rfl) ?_
  refine lv_iload_n hx hb dL_law_429 rfl (lv_at hl 0 rfl) ?_
  refine lv_iconst (v := 2) hx hb dL_law_430 (by decide) ?_
  refine lv_iadd hx hb dL_law_431 ?_
  refine va_sld hx hb hX hbl hbA hS (lw_in (k := 2) hi hL (by decide)) dL_law_432 ?_
  refine lawM_i (S := Mem) (fun u => u) hP hD hS hA (fun hPc hDc => run_V (b := q0 0) (ci := 10) (As := [.int (xs (nI i + 1).toNatClampNeg), .int (xs (nI i + 2).toNatClampNeg)]) (rest := [.int r]) cx' (c_X10_gives l H.size q0 M (xs (nI i + 1).toNatClampNeg) (xs (nI i + 2).toNatClampNeg) _ h) mv_X10_gives kw_902 rfl rfl ⟨by decide, by decide⟩ hPc hDc rfl rfl rfl hl.1 rfl (Nat.le_of_ble_eq_true rfl) dL_law_433 ⟨by decide, by decide⟩) (fun r2 u2 H locs hP hD hS h2 => ?_)
  refine lv_icmp_eq (tgt := 1218) hx hb dL_law_436 (by decide) (fun _ => K _ _ _ _ _ hP hD hS h2.2) (fun q9 => absurd h2.1 q9)
set_option maxRecDepth 20000 in
theorem lop_9 {p : Program} {l : Launch} {e : Env} {s : State} {m : MethodId} {below : List Frame} {meth : Method} {c : Code} {b : Nat} {Q : State → Prop} {dC : Nat → ClassId} {dI : Nat → Nat → Nat} {cI cJ : ClassId} {qa : Nat → Nat → Nat} {q0 : Nat → Nat} {Ln i : Nat} {xs : Nat → Int32} (cx : CX RL cL_law ret 4 p s m #[Value.ref b] meth c (dC, dI) (TY cI cJ)) (hX : va_X b Ln xs s s.heap) (hbl : b < s.heap.size) (hi : i + 6 ≤ Ln) (hL : Ln ≤ 384) (hA : ∀ q, s.heap.size ≤ q → (fun q => s.heap.size ≤ q) q) (C : Nat → Mem) (L : MemL) (M : Mem) (hR : REL C M) (H : Heap) (locs : List Loc) (ls : Array Slot) (hP : va_P (dC, dI) vwCl (wL cI cJ qa q0 C L M) H) (hD : va_D (fun q => s.heap.size ≤ q) (wL cI cJ qa q0 C L M)) (hS : va_S (fun q => s.heap.size ≤ q) s.heap H locs) (hl : lv_has ls 4 [(3, .int (nI i)), (2, .ref (q0 0)), (1, .ref (qa 0 0)), (0, .ref b)]) (K : ∀ (C : Nat → Mem) (L : MemL) (M : Mem) (H : Heap) (locs : List Loc), va_P (dC, dI) vwCl (wL cI cJ qa q0 C L M) H → va_D (fun q => s.heap.size ≤ q) (wL cI cJ qa q0 C L M) → va_S (fun q => s.heap.size ≤ q) s.heap H locs → REL C M → W p l e room_1 s m #[Value.ref b] below meth c H locs 57 1337 Q (F0 m 1218 ls [])) : W p l e room_1 s m #[Value.ref b] below meth c H locs 57 1337 Q (F0 m 441 ls []) := by
  have cx' := cx.self
  obtain ⟨hx, hb, hr, hml, hown, hts, hlocks, hK⟩ := id cx
  have hbA : ¬ s.heap.size ≤ b := Nat.not_le.mpr hbl
  refine lv_aload_n hx hb dL_law_441 rfl (lv_at hl 2 rfl) ?_
  refine lv_aload_n hx hb dL_law_442 rfl (lv_at hl 3 rfl) ?_
  refine lv_iload_n hx hb dL_law_443 rfl (lv_at hl 0 rfl) ?_
  refine lv_iconst (v := 1) hx hb dL_law_444 (by decide) ?_
  refine lv_iadd hx hb dL_law_445 ?_
  refine va_sld hx hb hX hbl hbA hS (lw_in (k := 1) hi hL (by decide)) dL_law_446 ?_
  refine lv_aload_n hx hb dL_law_447 rfl (lv_at hl 3 rfl) ?_
  refine lv_iload_n hx hb dL_law_448 rfl (lv_at hl 0 rfl) ?_
  refine lv_iconst (v := 2) hx hb dL_law_449 (by decide) ?_
  refine lv_iadd hx hb dL_law_450 ?_
  refine va_sld hx hb hX hbl hbA hS (lw_in (k := 2) hi hL (by decide)) dL_law_451 ?_
  refine lawX_i (S := Unit) (fun _ => C) (fun _ => L) hP hD hS hA (fun hPc hDc => run_V (b := qa 0 0) (ci := 9) (As := [.int (xs (nI i + 1).toNatClampNeg), .int (xs (nI i + 2).toNatClampNeg)]) (rest := []) cx' (c_X9_fed l H.size qa C L (xs (nI i + 1).toNatClampNeg) (xs (nI i + 2).toNatClampNeg) _ (p_fed hR (xs (nI i + 1).toNatClampNeg) (xs (nI i + 2).toNatClampNeg))) mv_X9_fed kw_431 rfl rfl ⟨by decide, by decide⟩ hPc hDc rfl rfl rfl hl.1 rfl (Nat.le_of_ble_eq_true rfl) dL_law_452 ⟨by decide, by decide⟩) (fun r u H locs hP hD hS h => ?_)
  refine lv_aload_n hx hb dL_law_455 rfl (lv_at hl 1 rfl) ?_
  refine lv_aload_n hx hb dL_law_456 rfl (lv_at hl 3 rfl) ?_
  refine lv_iload_n hx hb dL_law_457 rfl (lv_at hl 0 rfl) ?_
  refine lv_iconst (v := 1) hx hb dL_law_458 (by decide) ?_
  refine lv_iadd hx hb dL_law_459 ?_
  refine va_sld hx hb hX hbl hbA hS (lw_in (k := 1) hi hL (by decide)) dL_law_460 ?_
  refine lv_aload_n hx hb dL_law_461 rfl (lv_at hl 3 rfl) ?_
  refine lv_iload_n hx hb dL_law_462 rfl (lv_at hl 0 rfl) ?_
  refine lv_iconst (v := 2) hx hb dL_law_463 (by decide) ?_
  refine lv_iadd hx hb dL_law_464 ?_
  refine va_sld hx hb hX hbl hbA hS (lw_in (k := 2) hi hL (by decide)) dL_law_465 ?_
  refine lawM_i (S := Mem) (fun u => u) hP hD hS hA (fun hPc hDc => run_V (b := q0 0) (ci := 10) (As := [.int (xs (nI i + 1).toNatClampNeg), .int (xs (nI i + 2).toNatClampNeg)]) (rest := [.int r]) cx' (c_X10_fed l H.size q0 M (xs (nI i + 1).toNatClampNeg) (xs (nI i + 2).toNatClampNeg) _ h) mv_X10_fed kw_927 rfl rfl ⟨by decide, by decide⟩ hPc hDc rfl rfl rfl hl.1 rfl (Nat.le_of_ble_eq_true rfl) dL_law_466 ⟨by decide, by decide⟩) (fun r2 u2 H locs hP hD hS h2 => ?_)
  refine lv_icmp_eq (tgt := 1218) hx hb dL_law_469 (by decide) (fun _ => K _ _ _ _ _ hP hD hS h2.2) (fun q9 => absurd h2.1 q9)
set_option maxRecDepth 20000 in
theorem lop_10 {p : Program} {l : Launch} {e : Env} {s : State} {m : MethodId} {below : List Frame} {meth : Method} {c : Code} {b : Nat} {Q : State → Prop} {dC : Nat → ClassId} {dI : Nat → Nat → Nat} {cI cJ : ClassId} {qa : Nat → Nat → Nat} {q0 : Nat → Nat} {Ln i : Nat} {xs : Nat → Int32} (cx : CX RL cL_law ret 4 p s m #[Value.ref b] meth c (dC, dI) (TY cI cJ)) (hX : va_X b Ln xs s s.heap) (hbl : b < s.heap.size) (hi : i + 6 ≤ Ln) (hL : Ln ≤ 384) (hA : ∀ q, s.heap.size ≤ q → (fun q => s.heap.size ≤ q) q) (C : Nat → Mem) (L : MemL) (M : Mem) (hR : REL C M) (H : Heap) (locs : List Loc) (ls : Array Slot) (hP : va_P (dC, dI) vwCl (wL cI cJ qa q0 C L M) H) (hD : va_D (fun q => s.heap.size ≤ q) (wL cI cJ qa q0 C L M)) (hS : va_S (fun q => s.heap.size ≤ q) s.heap H locs) (hl : lv_has ls 4 [(3, .int (nI i)), (2, .ref (q0 0)), (1, .ref (qa 0 0)), (0, .ref b)]) (K : ∀ (C : Nat → Mem) (L : MemL) (M : Mem) (H : Heap) (locs : List Loc), va_P (dC, dI) vwCl (wL cI cJ qa q0 C L M) H → va_D (fun q => s.heap.size ≤ q) (wL cI cJ qa q0 C L M) → va_S (fun q => s.heap.size ≤ q) s.heap H locs → REL C M → W p l e room_1 s m #[Value.ref b] below meth c H locs 57 1337 Q (F0 m 1218 ls [])) : W p l e room_1 s m #[Value.ref b] below meth c H locs 57 1337 Q (F0 m 474 ls []) := by
  have cx' := cx.self
  obtain ⟨hx, hb, hr, hml, hown, hts, hlocks, hK⟩ := id cx
  have hbA : ¬ s.heap.size ≤ b := Nat.not_le.mpr hbl
  refine lv_aload_n hx hb dL_law_474 rfl (lv_at hl 2 rfl) ?_
  refine lv_aload_n hx hb dL_law_475 rfl (lv_at hl 3 rfl) ?_
  refine lv_iload_n hx hb dL_law_476 rfl (lv_at hl 0 rfl) ?_
  refine lv_iconst (v := 1) hx hb dL_law_477 (by decide) ?_
  refine lv_iadd hx hb dL_law_478 ?_
  refine va_sld hx hb hX hbl hbA hS (lw_in (k := 1) hi hL (by decide)) dL_law_479 ?_
  refine lv_aload_n hx hb dL_law_480 rfl (lv_at hl 3 rfl) ?_
  refine lv_iload_n hx hb dL_law_481 rfl (lv_at hl 0 rfl) ?_
  refine lv_iconst (v := 2) hx hb dL_law_482 (by decide) ?_
  refine lv_iadd hx hb dL_law_483 ?_
  refine va_sld hx hb hX hbl hbA hS (lw_in (k := 2) hi hL (by decide)) dL_law_484 ?_
  refine lawX_i (S := Unit) (fun _ => C) (fun _ => L) hP hD hS hA (fun hPc hDc => run_V (b := qa 0 0) (ci := 9) (As := [.int (xs (nI i + 1).toNatClampNeg), .int (xs (nI i + 2).toNatClampNeg)]) (rest := []) cx' (c_X9_all l H.size qa C L (xs (nI i + 1).toNatClampNeg) (xs (nI i + 2).toNatClampNeg) _ (p_all hR (xs (nI i + 1).toNatClampNeg) (xs (nI i + 2).toNatClampNeg))) mv_X9_all kw_435 rfl rfl ⟨by decide, by decide⟩ hPc hDc rfl rfl rfl hl.1 rfl (Nat.le_of_ble_eq_true rfl) dL_law_485 ⟨by decide, by decide⟩) (fun r u H locs hP hD hS h => ?_)
  refine lv_aload_n hx hb dL_law_488 rfl (lv_at hl 1 rfl) ?_
  refine lv_aload_n hx hb dL_law_489 rfl (lv_at hl 3 rfl) ?_
  refine lv_iload_n hx hb dL_law_490 rfl (lv_at hl 0 rfl) ?_
  refine lv_iconst (v := 1) hx hb dL_law_491 (by decide) ?_
  refine lv_iadd hx hb dL_law_492 ?_
  refine va_sld hx hb hX hbl hbA hS (lw_in (k := 1) hi hL (by decide)) dL_law_493 ?_
  refine lv_aload_n hx hb dL_law_494 rfl (lv_at hl 3 rfl) ?_
  refine lv_iload_n hx hb dL_law_495 rfl (lv_at hl 0 rfl) ?_
  refine lv_iconst (v := 2) hx hb dL_law_496 (by decide) ?_
  refine lv_iadd hx hb dL_law_497 ?_
  refine va_sld hx hb hX hbl hbA hS (lw_in (k := 2) hi hL (by decide)) dL_law_498 ?_
  refine lawM_i (S := Mem) (fun u => u) hP hD hS hA (fun hPc hDc => run_V (b := q0 0) (ci := 10) (As := [.int (xs (nI i + 1).toNatClampNeg), .int (xs (nI i + 2).toNatClampNeg)]) (rest := [.int r]) cx' (c_X10_all l H.size q0 M (xs (nI i + 1).toNatClampNeg) (xs (nI i + 2).toNatClampNeg) _ h) mv_X10_all kw_938 rfl rfl ⟨by decide, by decide⟩ hPc hDc rfl rfl rfl hl.1 rfl (Nat.le_of_ble_eq_true rfl) dL_law_499 ⟨by decide, by decide⟩) (fun r2 u2 H locs hP hD hS h2 => ?_)
  refine lv_icmp_eq (tgt := 1218) hx hb dL_law_502 (by decide) (fun _ => K _ _ _ _ _ hP hD hS h2.2) (fun q9 => absurd h2.1 q9)
set_option maxRecDepth 20000 in
theorem lop_11 {p : Program} {l : Launch} {e : Env} {s : State} {m : MethodId} {below : List Frame} {meth : Method} {c : Code} {b : Nat} {Q : State → Prop} {dC : Nat → ClassId} {dI : Nat → Nat → Nat} {cI cJ : ClassId} {qa : Nat → Nat → Nat} {q0 : Nat → Nat} {Ln i : Nat} {xs : Nat → Int32} (cx : CX RL cL_law ret 4 p s m #[Value.ref b] meth c (dC, dI) (TY cI cJ)) (hX : va_X b Ln xs s s.heap) (hbl : b < s.heap.size) (hi : i + 6 ≤ Ln) (hL : Ln ≤ 384) (hA : ∀ q, s.heap.size ≤ q → (fun q => s.heap.size ≤ q) q) (C : Nat → Mem) (L : MemL) (M : Mem) (hR : REL C M) (H : Heap) (locs : List Loc) (ls : Array Slot) (hP : va_P (dC, dI) vwCl (wL cI cJ qa q0 C L M) H) (hD : va_D (fun q => s.heap.size ≤ q) (wL cI cJ qa q0 C L M)) (hS : va_S (fun q => s.heap.size ≤ q) s.heap H locs) (hl : lv_has ls 4 [(3, .int (nI i)), (2, .ref (q0 0)), (1, .ref (qa 0 0)), (0, .ref b)]) (K : ∀ (C : Nat → Mem) (L : MemL) (M : Mem) (H : Heap) (locs : List Loc), va_P (dC, dI) vwCl (wL cI cJ qa q0 C L M) H → va_D (fun q => s.heap.size ≤ q) (wL cI cJ qa q0 C L M) → va_S (fun q => s.heap.size ≤ q) s.heap H locs → REL C M → W p l e room_1 s m #[Value.ref b] below meth c H locs 57 1337 Q (F0 m 1218 ls [])) : W p l e room_1 s m #[Value.ref b] below meth c H locs 57 1337 Q (F0 m 507 ls []) := by
  have cx' := cx.self
  obtain ⟨hx, hb, hr, hml, hown, hts, hlocks, hK⟩ := id cx
  have hbA : ¬ s.heap.size ≤ b := Nat.not_le.mpr hbl
  refine lv_aload_n hx hb dL_law_507 rfl (lv_at hl 2 rfl) ?_
  refine lv_aload_n hx hb dL_law_508 rfl (lv_at hl 3 rfl) ?_
  refine lv_iload_n hx hb dL_law_509 rfl (lv_at hl 0 rfl) ?_
  refine lv_iconst (v := 1) hx hb dL_law_510 (by decide) ?_
  refine lv_iadd hx hb dL_law_511 ?_
  refine va_sld hx hb hX hbl hbA hS (lw_in (k := 1) hi hL (by decide)) dL_law_512 ?_
  refine lawX_i (S := Unit) (fun _ => C) (fun _ => L) hP hD hS hA (fun hPc hDc => run_V (b := qa 0 0) (ci := 9) (As := [.int (xs (nI i + 1).toNatClampNeg)]) (rest := []) cx' (c_X9_price l H.size qa C L (xs (nI i + 1).toNatClampNeg) _ (p_price hR (xs (nI i + 1).toNatClampNeg))) mv_X9_price kw_439 rfl rfl ⟨by decide, by decide⟩ hPc hDc rfl rfl rfl hl.1 rfl (Nat.le_of_ble_eq_true rfl) dL_law_513 ⟨by decide, by decide⟩) (fun r u H locs hP hD hS h => ?_)
  refine lv_aload_n hx hb dL_law_516 rfl (lv_at hl 1 rfl) ?_
  refine lv_aload_n hx hb dL_law_517 rfl (lv_at hl 3 rfl) ?_
  refine lv_iload_n hx hb dL_law_518 rfl (lv_at hl 0 rfl) ?_
  refine lv_iconst (v := 1) hx hb dL_law_519 (by decide) ?_
  refine lv_iadd hx hb dL_law_520 ?_
  refine va_sld hx hb hX hbl hbA hS (lw_in (k := 1) hi hL (by decide)) dL_law_521 ?_
  refine lawM_i (S := Mem) (fun u => u) hP hD hS hA (fun hPc hDc => run_V (b := q0 0) (ci := 10) (As := [.int (xs (nI i + 1).toNatClampNeg)]) (rest := [.int r]) cx' (c_X10_price l H.size q0 M (xs (nI i + 1).toNatClampNeg) _ h) mv_X10_price kw_946 rfl rfl ⟨by decide, by decide⟩ hPc hDc rfl rfl rfl hl.1 rfl (Nat.le_of_ble_eq_true rfl) dL_law_522 ⟨by decide, by decide⟩) (fun r2 u2 H locs hP hD hS h2 => ?_)
  refine lv_icmp_eq (tgt := 1218) hx hb dL_law_525 (by decide) (fun _ => K _ _ _ _ _ hP hD hS h2.2) (fun q9 => absurd h2.1 q9)
set_option maxRecDepth 20000 in
theorem lop_12 {p : Program} {l : Launch} {e : Env} {s : State} {m : MethodId} {below : List Frame} {meth : Method} {c : Code} {b : Nat} {Q : State → Prop} {dC : Nat → ClassId} {dI : Nat → Nat → Nat} {cI cJ : ClassId} {qa : Nat → Nat → Nat} {q0 : Nat → Nat} {Ln i : Nat} {xs : Nat → Int32} (cx : CX RL cL_law ret 4 p s m #[Value.ref b] meth c (dC, dI) (TY cI cJ)) (hX : va_X b Ln xs s s.heap) (hbl : b < s.heap.size) (hi : i + 6 ≤ Ln) (hL : Ln ≤ 384) (hA : ∀ q, s.heap.size ≤ q → (fun q => s.heap.size ≤ q) q) (C : Nat → Mem) (L : MemL) (M : Mem) (hR : REL C M) (H : Heap) (locs : List Loc) (ls : Array Slot) (hP : va_P (dC, dI) vwCl (wL cI cJ qa q0 C L M) H) (hD : va_D (fun q => s.heap.size ≤ q) (wL cI cJ qa q0 C L M)) (hS : va_S (fun q => s.heap.size ≤ q) s.heap H locs) (hl : lv_has ls 4 [(3, .int (nI i)), (2, .ref (q0 0)), (1, .ref (qa 0 0)), (0, .ref b)]) (K : ∀ (C : Nat → Mem) (L : MemL) (M : Mem) (H : Heap) (locs : List Loc), va_P (dC, dI) vwCl (wL cI cJ qa q0 C L M) H → va_D (fun q => s.heap.size ≤ q) (wL cI cJ qa q0 C L M) → va_S (fun q => s.heap.size ≤ q) s.heap H locs → REL C M → W p l e room_1 s m #[Value.ref b] below meth c H locs 57 1337 Q (F0 m 1218 ls [])) : W p l e room_1 s m #[Value.ref b] below meth c H locs 57 1337 Q (F0 m 530 ls []) := by
  have cx' := cx.self
  obtain ⟨hx, hb, hr, hml, hown, hts, hlocks, hK⟩ := id cx
  have hbA : ¬ s.heap.size ≤ b := Nat.not_le.mpr hbl
  refine lv_aload_n hx hb dL_law_530 rfl (lv_at hl 2 rfl) ?_
  refine lawX_i (S := Unit) (fun _ => C) (fun _ => L) hP hD hS hA (fun hPc hDc => run_V (b := qa 0 0) (ci := 9) (As := []) (rest := []) cx' (c_X9_poor l H.size qa C L _ (p_poor hR)) mv_X9_poor kw_443 rfl rfl ⟨by decide, by decide⟩ hPc hDc rfl rfl rfl hl.1 rfl (Nat.le_of_ble_eq_true rfl) dL_law_531 ⟨by decide, by decide⟩) (fun r u H locs hP hD hS h => ?_)
  refine lv_aload_n hx hb dL_law_534 rfl (lv_at hl 1 rfl) ?_
  refine lawM_i (S := Mem) (fun u => u) hP hD hS hA (fun hPc hDc => run_V (b := q0 0) (ci := 10) (As := []) (rest := [.int r]) cx' (c_X10_poor l H.size q0 M _ h) mv_X10_poor kw_954 rfl rfl ⟨by decide, by decide⟩ hPc hDc rfl rfl rfl hl.1 rfl (Nat.le_of_ble_eq_true rfl) dL_law_535 ⟨by decide, by decide⟩) (fun r2 u2 H locs hP hD hS h2 => ?_)
  refine lv_icmp_eq (tgt := 1218) hx hb dL_law_538 (by decide) (fun _ => K _ _ _ _ _ hP hD hS h2.2) (fun q9 => absurd h2.1 q9)
set_option maxRecDepth 20000 in
theorem lop_13 {p : Program} {l : Launch} {e : Env} {s : State} {m : MethodId} {below : List Frame} {meth : Method} {c : Code} {b : Nat} {Q : State → Prop} {dC : Nat → ClassId} {dI : Nat → Nat → Nat} {cI cJ : ClassId} {qa : Nat → Nat → Nat} {q0 : Nat → Nat} {Ln i : Nat} {xs : Nat → Int32} (cx : CX RL cL_law ret 4 p s m #[Value.ref b] meth c (dC, dI) (TY cI cJ)) (hX : va_X b Ln xs s s.heap) (hbl : b < s.heap.size) (hi : i + 6 ≤ Ln) (hL : Ln ≤ 384) (hA : ∀ q, s.heap.size ≤ q → (fun q => s.heap.size ≤ q) q) (C : Nat → Mem) (L : MemL) (M : Mem) (hR : REL C M) (H : Heap) (locs : List Loc) (ls : Array Slot) (hP : va_P (dC, dI) vwCl (wL cI cJ qa q0 C L M) H) (hD : va_D (fun q => s.heap.size ≤ q) (wL cI cJ qa q0 C L M)) (hS : va_S (fun q => s.heap.size ≤ q) s.heap H locs) (hl : lv_has ls 4 [(3, .int (nI i)), (2, .ref (q0 0)), (1, .ref (qa 0 0)), (0, .ref b)]) (K : ∀ (C : Nat → Mem) (L : MemL) (M : Mem) (H : Heap) (locs : List Loc), va_P (dC, dI) vwCl (wL cI cJ qa q0 C L M) H → va_D (fun q => s.heap.size ≤ q) (wL cI cJ qa q0 C L M) → va_S (fun q => s.heap.size ≤ q) s.heap H locs → REL C M → W p l e room_1 s m #[Value.ref b] below meth c H locs 57 1337 Q (F0 m 1218 ls [])) : W p l e room_1 s m #[Value.ref b] below meth c H locs 57 1337 Q (F0 m 543 ls []) := by
  have cx' := cx.self
  obtain ⟨hx, hb, hr, hml, hown, hts, hlocks, hK⟩ := id cx
  have hbA : ¬ s.heap.size ≤ b := Nat.not_le.mpr hbl
  refine lv_aload_n hx hb dL_law_543 rfl (lv_at hl 2 rfl) ?_
  refine lawX_i (S := Unit) (fun _ => C) (fun _ => L) hP hD hS hA (fun hPc hDc => run_V (b := qa 0 0) (ci := 9) (As := []) (rest := []) cx' (c_X9_passed l H.size qa C L _ (p_passed hR)) mv_X9_passed kw_447 rfl rfl ⟨by decide, by decide⟩ hPc hDc rfl rfl rfl hl.1 rfl (Nat.le_of_ble_eq_true rfl) dL_law_544 ⟨by decide, by decide⟩) (fun r u H locs hP hD hS h => ?_)
  refine lv_aload_n hx hb dL_law_547 rfl (lv_at hl 1 rfl) ?_
  refine lawM_i (S := Mem) (fun u => u) hP hD hS hA (fun hPc hDc => run_V (b := q0 0) (ci := 10) (As := []) (rest := [.int r]) cx' (c_X10_passed l H.size q0 M _ h) mv_X10_passed kw_962 rfl rfl ⟨by decide, by decide⟩ hPc hDc rfl rfl rfl hl.1 rfl (Nat.le_of_ble_eq_true rfl) dL_law_548 ⟨by decide, by decide⟩) (fun r2 u2 H locs hP hD hS h2 => ?_)
  refine lv_icmp_eq (tgt := 1218) hx hb dL_law_551 (by decide) (fun _ => K _ _ _ _ _ hP hD hS h2.2) (fun q9 => absurd h2.1 q9)
set_option maxRecDepth 20000 in
theorem lop_14 {p : Program} {l : Launch} {e : Env} {s : State} {m : MethodId} {below : List Frame} {meth : Method} {c : Code} {b : Nat} {Q : State → Prop} {dC : Nat → ClassId} {dI : Nat → Nat → Nat} {cI cJ : ClassId} {qa : Nat → Nat → Nat} {q0 : Nat → Nat} {Ln i : Nat} {xs : Nat → Int32} (cx : CX RL cL_law ret 4 p s m #[Value.ref b] meth c (dC, dI) (TY cI cJ)) (hX : va_X b Ln xs s s.heap) (hbl : b < s.heap.size) (hi : i + 6 ≤ Ln) (hL : Ln ≤ 384) (hA : ∀ q, s.heap.size ≤ q → (fun q => s.heap.size ≤ q) q) (C : Nat → Mem) (L : MemL) (M : Mem) (hR : REL C M) (H : Heap) (locs : List Loc) (ls : Array Slot) (hP : va_P (dC, dI) vwCl (wL cI cJ qa q0 C L M) H) (hD : va_D (fun q => s.heap.size ≤ q) (wL cI cJ qa q0 C L M)) (hS : va_S (fun q => s.heap.size ≤ q) s.heap H locs) (hl : lv_has ls 4 [(3, .int (nI i)), (2, .ref (q0 0)), (1, .ref (qa 0 0)), (0, .ref b)]) (K : ∀ (C : Nat → Mem) (L : MemL) (M : Mem) (H : Heap) (locs : List Loc), va_P (dC, dI) vwCl (wL cI cJ qa q0 C L M) H → va_D (fun q => s.heap.size ≤ q) (wL cI cJ qa q0 C L M) → va_S (fun q => s.heap.size ≤ q) s.heap H locs → REL C M → W p l e room_1 s m #[Value.ref b] below meth c H locs 57 1337 Q (F0 m 1218 ls [])) : W p l e room_1 s m #[Value.ref b] below meth c H locs 57 1337 Q (F0 m 556 ls []) := by
  have cx' := cx.self
  obtain ⟨hx, hb, hr, hml, hown, hts, hlocks, hK⟩ := id cx
  have hbA : ¬ s.heap.size ≤ b := Nat.not_le.mpr hbl
  refine lv_aload_n hx hb dL_law_556 rfl (lv_at hl 2 rfl) ?_
  refine lv_aload_n hx hb dL_law_557 rfl (lv_at hl 3 rfl) ?_
  refine lv_iload_n hx hb dL_law_558 rfl (lv_at hl 0 rfl) ?_
  refine lv_iconst (v := 1) hx hb dL_law_559 (by decide) ?_
  refine lv_iadd hx hb dL_law_560 ?_
  refine va_sld hx hb hX hbl hbA hS (lw_in (k := 1) hi hL (by decide)) dL_law_561 ?_
  refine lv_aload_n hx hb dL_law_562 rfl (lv_at hl 3 rfl) ?_
  refine lv_iload_n hx hb dL_law_563 rfl (lv_at hl 0 rfl) ?_
  refine lv_iconst (v := 2) hx hb dL_law_564 (by decide) ?_
  refine lv_iadd hx hb dL_law_565 ?_
  refine va_sld hx hb hX hbl hbA hS (lw_in (k := 2) hi hL (by decide)) dL_law_566 ?_
  refine lawX_i (S := (Nat → Mem) × MemL) (fun u => u.1) (fun u => u.2) hP hD hS hA (fun hPc hDc => run_V (b := qa 0 0) (ci := 9) (As := [.int (xs (nI i + 1).toNatClampNeg), .int (xs (nI i + 2).toNatClampNeg)]) (rest := []) cx' (c_X9_live l H.size qa C L (xs (nI i + 1).toNatClampNeg) (xs (nI i + 2).toNatClampNeg) _ (p_live hR (xs (nI i + 1).toNatClampNeg) (xs (nI i + 2).toNatClampNeg))) mv_X9_live kw_451 rfl rfl ⟨by decide, by decide⟩ hPc hDc rfl rfl rfl hl.1 rfl (Nat.le_of_ble_eq_true rfl) dL_law_567 ⟨by decide, by decide⟩) (fun r u H locs hP hD hS h => ?_)
  refine lv_aload_n hx hb dL_law_570 rfl (lv_at hl 1 rfl) ?_
  refine lv_aload_n hx hb dL_law_571 rfl (lv_at hl 3 rfl) ?_
  refine lv_iload_n hx hb dL_law_572 rfl (lv_at hl 0 rfl) ?_
  refine lv_iconst (v := 1) hx hb dL_law_573 (by decide) ?_
  refine lv_iadd hx hb dL_law_574 ?_
  refine va_sld hx hb hX hbl hbA hS (lw_in (k := 1) hi hL (by decide)) dL_law_575 ?_
  refine lv_aload_n hx hb dL_law_576 rfl (lv_at hl 3 rfl) ?_
  refine lv_iload_n hx hb dL_law_577 rfl (lv_at hl 0 rfl) ?_
  refine lv_iconst (v := 2) hx hb dL_law_578 (by decide) ?_
  refine lv_iadd hx hb dL_law_579 ?_
  refine va_sld hx hb hX hbl hbA hS (lw_in (k := 2) hi hL (by decide)) dL_law_580 ?_
  refine lawM_i (S := Mem) (fun u => u) hP hD hS hA (fun hPc hDc => run_V (b := q0 0) (ci := 10) (As := [.int (xs (nI i + 1).toNatClampNeg), .int (xs (nI i + 2).toNatClampNeg)]) (rest := [.int r]) cx' (c_X10_live l H.size q0 M (xs (nI i + 1).toNatClampNeg) (xs (nI i + 2).toNatClampNeg) _ h) mv_X10_live kw_970 rfl rfl ⟨by decide, by decide⟩ hPc hDc rfl rfl rfl hl.1 rfl (Nat.le_of_ble_eq_true rfl) dL_law_581 ⟨by decide, by decide⟩) (fun r2 u2 H locs hP hD hS h2 => ?_)
  refine lv_icmp_eq (tgt := 1218) hx hb dL_law_584 (by decide) (fun _ => K _ _ _ _ _ hP hD hS h2.2) (fun q9 => absurd h2.1 q9)
set_option maxRecDepth 20000 in
theorem lop_15 {p : Program} {l : Launch} {e : Env} {s : State} {m : MethodId} {below : List Frame} {meth : Method} {c : Code} {b : Nat} {Q : State → Prop} {dC : Nat → ClassId} {dI : Nat → Nat → Nat} {cI cJ : ClassId} {qa : Nat → Nat → Nat} {q0 : Nat → Nat} {Ln i : Nat} {xs : Nat → Int32} (cx : CX RL cL_law ret 4 p s m #[Value.ref b] meth c (dC, dI) (TY cI cJ)) (hX : va_X b Ln xs s s.heap) (hbl : b < s.heap.size) (hi : i + 6 ≤ Ln) (hL : Ln ≤ 384) (hA : ∀ q, s.heap.size ≤ q → (fun q => s.heap.size ≤ q) q) (C : Nat → Mem) (L : MemL) (M : Mem) (hR : REL C M) (H : Heap) (locs : List Loc) (ls : Array Slot) (hP : va_P (dC, dI) vwCl (wL cI cJ qa q0 C L M) H) (hD : va_D (fun q => s.heap.size ≤ q) (wL cI cJ qa q0 C L M)) (hS : va_S (fun q => s.heap.size ≤ q) s.heap H locs) (hl : lv_has ls 4 [(3, .int (nI i)), (2, .ref (q0 0)), (1, .ref (qa 0 0)), (0, .ref b)]) (K : ∀ (C : Nat → Mem) (L : MemL) (M : Mem) (H : Heap) (locs : List Loc), va_P (dC, dI) vwCl (wL cI cJ qa q0 C L M) H → va_D (fun q => s.heap.size ≤ q) (wL cI cJ qa q0 C L M) → va_S (fun q => s.heap.size ≤ q) s.heap H locs → REL C M → W p l e room_1 s m #[Value.ref b] below meth c H locs 57 1337 Q (F0 m 1218 ls [])) : W p l e room_1 s m #[Value.ref b] below meth c H locs 57 1337 Q (F0 m 589 ls []) := by
  have cx' := cx.self
  obtain ⟨hx, hb, hr, hml, hown, hts, hlocks, hK⟩ := id cx
  have hbA : ¬ s.heap.size ≤ b := Nat.not_le.mpr hbl
  refine lv_aload_n hx hb dL_law_589 rfl (lv_at hl 2 rfl) ?_
  refine lv_aload_n hx hb dL_law_590 rfl (lv_at hl 3 rfl) ?_
  refine lv_iload_n hx hb dL_law_591 rfl (lv_at hl 0 rfl) ?_
  refine lv_iconst (v := 1) hx hb dL_law_592 (by decide) ?_
  refine lv_iadd hx hb dL_law_593 ?_
  refine va_sld hx hb hX hbl hbA hS (lw_in (k := 1) hi hL (by decide)) dL_law_594 ?_
  refine lv_aload_n hx hb dL_law_595 rfl (lv_at hl 3 rfl) ?_
  refine lv_iload_n hx hb dL_law_596 rfl (lv_at hl 0 rfl) ?_
  refine lv_iconst (v := 2) hx hb dL_law_597 (by decide) ?_
  refine lv_iadd hx hb dL_law_598 ?_
  refine va_sld hx hb hX hbl hbA hS (lw_in (k := 2) hi hL (by decide)) dL_law_599 ?_
  refine lawX_i (S := (Nat → Mem) × MemL) (fun u => u.1) (fun u => u.2) hP hD hS hA (fun hPc hDc => run_V (b := qa 0 0) (ci := 9) (As := [.int (xs (nI i + 1).toNatClampNeg), .int (xs (nI i + 2).toNatClampNeg)]) (rest := []) cx' (c_X9_cook l H.size qa C L (xs (nI i + 1).toNatClampNeg) (xs (nI i + 2).toNatClampNeg) _ (p_cook hR (xs (nI i + 1).toNatClampNeg) (xs (nI i + 2).toNatClampNeg))) mv_X9_cook kw_484 rfl rfl ⟨by decide, by decide⟩ hPc hDc rfl rfl rfl hl.1 rfl (Nat.le_of_ble_eq_true rfl) dL_law_600 ⟨by decide, by decide⟩) (fun r u H locs hP hD hS h => ?_)
  refine lv_aload_n hx hb dL_law_603 rfl (lv_at hl 1 rfl) ?_
  refine lv_aload_n hx hb dL_law_604 rfl (lv_at hl 3 rfl) ?_
  refine lv_iload_n hx hb dL_law_605 rfl (lv_at hl 0 rfl) ?_
  refine lv_iconst (v := 1) hx hb dL_law_606 (by decide) ?_
  refine lv_iadd hx hb dL_law_607 ?_
  refine va_sld hx hb hX hbl hbA hS (lw_in (k := 1) hi hL (by decide)) dL_law_608 ?_
  refine lv_aload_n hx hb dL_law_609 rfl (lv_at hl 3 rfl) ?_
  refine lv_iload_n hx hb dL_law_610 rfl (lv_at hl 0 rfl) ?_
  refine lv_iconst (v := 2) hx hb dL_law_611 (by decide) ?_
  refine lv_iadd hx hb dL_law_612 ?_
  refine va_sld hx hb hX hbl hbA hS (lw_in (k := 2) hi hL (by decide)) dL_law_613 ?_
  refine lawM_i (S := Mem) (fun u => u) hP hD hS hA (fun hPc hDc => run_V (b := q0 0) (ci := 10) (As := [.int (xs (nI i + 1).toNatClampNeg), .int (xs (nI i + 2).toNatClampNeg)]) (rest := [.int r]) cx' (c_X10_cook l H.size q0 M (xs (nI i + 1).toNatClampNeg) (xs (nI i + 2).toNatClampNeg) _ h) mv_X10_cook kw_986 rfl rfl ⟨by decide, by decide⟩ hPc hDc rfl rfl rfl hl.1 rfl (Nat.le_of_ble_eq_true rfl) dL_law_614 ⟨by decide, by decide⟩) (fun r2 u2 H locs hP hD hS h2 => ?_)
  refine lv_icmp_eq (tgt := 1218) hx hb dL_law_617 (by decide) (fun _ => K _ _ _ _ _ hP hD hS h2.2) (fun q9 => absurd h2.1 q9)
set_option maxRecDepth 20000 in
theorem lop_16 {p : Program} {l : Launch} {e : Env} {s : State} {m : MethodId} {below : List Frame} {meth : Method} {c : Code} {b : Nat} {Q : State → Prop} {dC : Nat → ClassId} {dI : Nat → Nat → Nat} {cI cJ : ClassId} {qa : Nat → Nat → Nat} {q0 : Nat → Nat} {Ln i : Nat} {xs : Nat → Int32} (cx : CX RL cL_law ret 4 p s m #[Value.ref b] meth c (dC, dI) (TY cI cJ)) (hX : va_X b Ln xs s s.heap) (hbl : b < s.heap.size) (hi : i + 6 ≤ Ln) (hL : Ln ≤ 384) (hA : ∀ q, s.heap.size ≤ q → (fun q => s.heap.size ≤ q) q) (C : Nat → Mem) (L : MemL) (M : Mem) (hR : REL C M) (H : Heap) (locs : List Loc) (ls : Array Slot) (hP : va_P (dC, dI) vwCl (wL cI cJ qa q0 C L M) H) (hD : va_D (fun q => s.heap.size ≤ q) (wL cI cJ qa q0 C L M)) (hS : va_S (fun q => s.heap.size ≤ q) s.heap H locs) (hl : lv_has ls 4 [(3, .int (nI i)), (2, .ref (q0 0)), (1, .ref (qa 0 0)), (0, .ref b)]) (K : ∀ (C : Nat → Mem) (L : MemL) (M : Mem) (H : Heap) (locs : List Loc), va_P (dC, dI) vwCl (wL cI cJ qa q0 C L M) H → va_D (fun q => s.heap.size ≤ q) (wL cI cJ qa q0 C L M) → va_S (fun q => s.heap.size ≤ q) s.heap H locs → REL C M → W p l e room_1 s m #[Value.ref b] below meth c H locs 57 1337 Q (F0 m 1218 ls [])) : W p l e room_1 s m #[Value.ref b] below meth c H locs 57 1337 Q (F0 m 622 ls []) := by
  have cx' := cx.self
  obtain ⟨hx, hb, hr, hml, hown, hts, hlocks, hK⟩ := id cx
  have hbA : ¬ s.heap.size ≤ b := Nat.not_le.mpr hbl
  refine lv_aload_n hx hb dL_law_622 rfl (lv_at hl 2 rfl) ?_
  refine lv_aload_n hx hb dL_law_623 rfl (lv_at hl 3 rfl) ?_
  refine lv_iload_n hx hb dL_law_624 rfl (lv_at hl 0 rfl) ?_
  refine lv_iconst (v := 1) hx hb dL_law_625 (by decide) ?_
  refine lv_iadd hx hb dL_law_626 ?_
  refine va_sld hx hb hX hbl hbA hS (lw_in (k := 1) hi hL (by decide)) dL_law_627 ?_
  refine lv_aload_n hx hb dL_law_628 rfl (lv_at hl 3 rfl) ?_
  refine lv_iload_n hx hb dL_law_629 rfl (lv_at hl 0 rfl) ?_
  refine lv_iconst (v := 2) hx hb dL_law_630 (by decide) ?_
  refine lv_iadd hx hb dL_law_631 ?_
  refine va_sld hx hb hX hbl hbA hS (lw_in (k := 2) hi hL (by decide)) dL_law_632 ?_
  refine lv_aload_n hx hb dL_law_633 rfl (lv_at hl 3 rfl) ?_
  refine lv_iload_n hx hb dL_law_634 rfl (lv_at hl 0 rfl) ?_
  refine lv_iconst (v := 3) hx hb dL_law_635 (by decide) ?_
  refine lv_iadd hx hb dL_law_636 ?_
  refine va_sld hx hb hX hbl hbA hS (lw_in (k := 3) hi hL (by decide)) dL_law_637 ?_
  refine lawX_i (S := (Nat → Mem) × MemL) (fun u => u.1) (fun u => u.2) hP hD hS hA (fun hPc hDc => run_V (b := qa 0 0) (ci := 9) (As := [.int (xs (nI i + 1).toNatClampNeg), .int (xs (nI i + 2).toNatClampNeg), .int (xs (nI i + 3).toNatClampNeg)]) (rest := []) cx' (c_X9_fast l H.size qa C L (xs (nI i + 1).toNatClampNeg) (xs (nI i + 2).toNatClampNeg) (xs (nI i + 3).toNatClampNeg) _ (p_fast hR (xs (nI i + 1).toNatClampNeg) (xs (nI i + 2).toNatClampNeg) (xs (nI i + 3).toNatClampNeg))) mv_X9_fast kw_492 rfl rfl ⟨by decide, by decide⟩ hPc hDc rfl rfl rfl hl.1 rfl (Nat.le_of_ble_eq_true rfl) dL_law_638 ⟨by decide, by decide⟩) (fun r u H locs hP hD hS h => ?_)
  refine lv_aload_n hx hb dL_law_641 rfl (lv_at hl 1 rfl) ?_
  refine lv_aload_n hx hb dL_law_642 rfl (lv_at hl 3 rfl) ?_
  refine lv_iload_n hx hb dL_law_643 rfl (lv_at hl 0 rfl) ?_
  refine lv_iconst (v := 1) hx hb dL_law_644 (by decide) ?_
  refine lv_iadd hx hb dL_law_645 ?_
  refine va_sld hx hb hX hbl hbA hS (lw_in (k := 1) hi hL (by decide)) dL_law_646 ?_
  refine lv_aload_n hx hb dL_law_647 rfl (lv_at hl 3 rfl) ?_
  refine lv_iload_n hx hb dL_law_648 rfl (lv_at hl 0 rfl) ?_
  refine lv_iconst (v := 2) hx hb dL_law_649 (by decide) ?_
  refine lv_iadd hx hb dL_law_650 ?_
  refine va_sld hx hb hX hbl hbA hS (lw_in (k := 2) hi hL (by decide)) dL_law_651 ?_
  refine lv_aload_n hx hb dL_law_652 rfl (lv_at hl 3 rfl) ?_
  refine lv_iload_n hx hb dL_law_653 rfl (lv_at hl 0 rfl) ?_
  refine lv_iconst (v := 3) hx hb dL_law_654 (by decide) ?_
  refine lv_iadd hx hb dL_law_655 ?_
  refine va_sld hx hb hX hbl hbA hS (lw_in (k := 3) hi hL (by decide)) dL_law_656 ?_
  refine lawM_i (S := Mem) (fun u => u) hP hD hS hA (fun hPc hDc => run_V (b := q0 0) (ci := 10) (As := [.int (xs (nI i + 1).toNatClampNeg), .int (xs (nI i + 2).toNatClampNeg), .int (xs (nI i + 3).toNatClampNeg)]) (rest := [.int r]) cx' (c_X10_fast l H.size q0 M (xs (nI i + 1).toNatClampNeg) (xs (nI i + 2).toNatClampNeg) (xs (nI i + 3).toNatClampNeg) _ h) mv_X10_fast kw_994 rfl rfl ⟨by decide, by decide⟩ hPc hDc rfl rfl rfl hl.1 rfl (Nat.le_of_ble_eq_true rfl) dL_law_657 ⟨by decide, by decide⟩) (fun r2 u2 H locs hP hD hS h2 => ?_)
  refine lv_icmp_eq (tgt := 1218) hx hb dL_law_660 (by decide) (fun _ => K _ _ _ _ _ hP hD hS h2.2) (fun q9 => absurd h2.1 q9)
set_option maxRecDepth 20000 in
theorem lop_17 {p : Program} {l : Launch} {e : Env} {s : State} {m : MethodId} {below : List Frame} {meth : Method} {c : Code} {b : Nat} {Q : State → Prop} {dC : Nat → ClassId} {dI : Nat → Nat → Nat} {cI cJ : ClassId} {qa : Nat → Nat → Nat} {q0 : Nat → Nat} {Ln i : Nat} {xs : Nat → Int32} (cx : CX RL cL_law ret 4 p s m #[Value.ref b] meth c (dC, dI) (TY cI cJ)) (hX : va_X b Ln xs s s.heap) (hbl : b < s.heap.size) (hi : i + 6 ≤ Ln) (hL : Ln ≤ 384) (hA : ∀ q, s.heap.size ≤ q → (fun q => s.heap.size ≤ q) q) (C : Nat → Mem) (L : MemL) (M : Mem) (hR : REL C M) (H : Heap) (locs : List Loc) (ls : Array Slot) (hP : va_P (dC, dI) vwCl (wL cI cJ qa q0 C L M) H) (hD : va_D (fun q => s.heap.size ≤ q) (wL cI cJ qa q0 C L M)) (hS : va_S (fun q => s.heap.size ≤ q) s.heap H locs) (hl : lv_has ls 4 [(3, .int (nI i)), (2, .ref (q0 0)), (1, .ref (qa 0 0)), (0, .ref b)]) (K : ∀ (C : Nat → Mem) (L : MemL) (M : Mem) (H : Heap) (locs : List Loc), va_P (dC, dI) vwCl (wL cI cJ qa q0 C L M) H → va_D (fun q => s.heap.size ≤ q) (wL cI cJ qa q0 C L M) → va_S (fun q => s.heap.size ≤ q) s.heap H locs → REL C M → W p l e room_1 s m #[Value.ref b] below meth c H locs 57 1337 Q (F0 m 1218 ls [])) : W p l e room_1 s m #[Value.ref b] below meth c H locs 57 1337 Q (F0 m 665 ls []) := by
  have cx' := cx.self
  obtain ⟨hx, hb, hr, hml, hown, hts, hlocks, hK⟩ := id cx
  have hbA : ¬ s.heap.size ≤ b := Nat.not_le.mpr hbl
  refine lv_aload_n hx hb dL_law_665 rfl (lv_at hl 2 rfl) ?_
  refine lv_aload_n hx hb dL_law_666 rfl (lv_at hl 3 rfl) ?_
  refine lv_iload_n hx hb dL_law_667 rfl (lv_at hl 0 rfl) ?_
  refine lv_iconst (v := 1) hx hb dL_law_668 (by decide) ?_
  refine lv_iadd hx hb dL_law_669 ?_
  refine va_sld hx hb hX hbl hbA hS (lw_in (k := 1) hi hL (by decide)) dL_law_670 ?_
  refine lv_aload_n hx hb dL_law_671 rfl (lv_at hl 3 rfl) ?_
  refine lv_iload_n hx hb dL_law_672 rfl (lv_at hl 0 rfl) ?_
  refine lv_iconst (v := 2) hx hb dL_law_673 (by decide) ?_
  refine lv_iadd hx hb dL_law_674 ?_
  refine va_sld hx hb hX hbl hbA hS (lw_in (k := 2) hi hL (by decide)) dL_law_675 ?_
  refine lawX_i (S := (Nat → Mem) × MemL) (fun u => u.1) (fun u => u.2) hP hD hS hA (fun hPc hDc => run_V (b := qa 0 0) (ci := 9) (As := [.int (xs (nI i + 1).toNatClampNeg), .int (xs (nI i + 2).toNatClampNeg)]) (rest := []) cx' (c_X9_soup l H.size qa C L (xs (nI i + 1).toNatClampNeg) (xs (nI i + 2).toNatClampNeg) _ (p_soup hR (xs (nI i + 1).toNatClampNeg) (xs (nI i + 2).toNatClampNeg))) mv_X9_soup kw_509 rfl rfl ⟨by decide, by decide⟩ hPc hDc rfl rfl rfl hl.1 rfl (Nat.le_of_ble_eq_true rfl) dL_law_676 ⟨by decide, by decide⟩) (fun r u H locs hP hD hS h => ?_)
  refine lv_aload_n hx hb dL_law_679 rfl (lv_at hl 1 rfl) ?_
  refine lv_aload_n hx hb dL_law_680 rfl (lv_at hl 3 rfl) ?_
  refine lv_iload_n hx hb dL_law_681 rfl (lv_at hl 0 rfl) ?_
  refine lv_iconst (v := 1) hx hb dL_law_682 (by decide) ?_
  refine lv_iadd hx hb dL_law_683 ?_
  refine va_sld hx hb hX hbl hbA hS (lw_in (k := 1) hi hL (by decide)) dL_law_684 ?_
  refine lv_aload_n hx hb dL_law_685 rfl (lv_at hl 3 rfl) ?_
  refine lv_iload_n hx hb dL_law_686 rfl (lv_at hl 0 rfl) ?_
  refine lv_iconst (v := 2) hx hb dL_law_687 (by decide) ?_
  refine lv_iadd hx hb dL_law_688 ?_
  refine va_sld hx hb hX hbl hbA hS (lw_in (k := 2) hi hL (by decide)) dL_law_689 ?_
  refine lawM_i (S := Mem) (fun u => u) hP hD hS hA (fun hPc hDc => run_V (b := q0 0) (ci := 10) (As := [.int (xs (nI i + 1).toNatClampNeg), .int (xs (nI i + 2).toNatClampNeg)]) (rest := [.int r]) cx' (c_X10_soup l H.size q0 M (xs (nI i + 1).toNatClampNeg) (xs (nI i + 2).toNatClampNeg) _ h) mv_X10_soup kw_1002 rfl rfl ⟨by decide, by decide⟩ hPc hDc rfl rfl rfl hl.1 rfl (Nat.le_of_ble_eq_true rfl) dL_law_690 ⟨by decide, by decide⟩) (fun r2 u2 H locs hP hD hS h2 => ?_)
  refine lv_icmp_eq (tgt := 1218) hx hb dL_law_693 (by decide) (fun _ => K _ _ _ _ _ hP hD hS h2.2) (fun q9 => absurd h2.1 q9)
set_option maxRecDepth 20000 in
theorem lop_18 {p : Program} {l : Launch} {e : Env} {s : State} {m : MethodId} {below : List Frame} {meth : Method} {c : Code} {b : Nat} {Q : State → Prop} {dC : Nat → ClassId} {dI : Nat → Nat → Nat} {cI cJ : ClassId} {qa : Nat → Nat → Nat} {q0 : Nat → Nat} {Ln i : Nat} {xs : Nat → Int32} (cx : CX RL cL_law ret 4 p s m #[Value.ref b] meth c (dC, dI) (TY cI cJ)) (hX : va_X b Ln xs s s.heap) (hbl : b < s.heap.size) (hi : i + 6 ≤ Ln) (hL : Ln ≤ 384) (hA : ∀ q, s.heap.size ≤ q → (fun q => s.heap.size ≤ q) q) (C : Nat → Mem) (L : MemL) (M : Mem) (hR : REL C M) (H : Heap) (locs : List Loc) (ls : Array Slot) (hP : va_P (dC, dI) vwCl (wL cI cJ qa q0 C L M) H) (hD : va_D (fun q => s.heap.size ≤ q) (wL cI cJ qa q0 C L M)) (hS : va_S (fun q => s.heap.size ≤ q) s.heap H locs) (hl : lv_has ls 4 [(3, .int (nI i)), (2, .ref (q0 0)), (1, .ref (qa 0 0)), (0, .ref b)]) (K : ∀ (C : Nat → Mem) (L : MemL) (M : Mem) (H : Heap) (locs : List Loc), va_P (dC, dI) vwCl (wL cI cJ qa q0 C L M) H → va_D (fun q => s.heap.size ≤ q) (wL cI cJ qa q0 C L M) → va_S (fun q => s.heap.size ≤ q) s.heap H locs → REL C M → W p l e room_1 s m #[Value.ref b] below meth c H locs 57 1337 Q (F0 m 1218 ls [])) : W p l e room_1 s m #[Value.ref b] below meth c H locs 57 1337 Q (F0 m 698 ls []) := by
  have cx' := cx.self
  obtain ⟨hx, hb, hr, hml, hown, hts, hlocks, hK⟩ := id cx
  have hbA : ¬ s.heap.size ≤ b := Nat.not_le.mpr hbl
  refine lv_aload_n hx hb dL_law_698 rfl (lv_at hl 2 rfl) ?_
  refine lv_aload_n hx hb dL_law_699 rfl (lv_at hl 3 rfl) ?_
  refine lv_iload_n hx hb dL_law_700 rfl (lv_at hl 0 rfl) ?_
  refine lv_iconst (v := 1) hx hb dL_law_701 (by decide) ?_
  refine lv_iadd hx hb dL_law_702 ?_
  refine va_sld hx hb hX hbl hbA hS (lw_in (k := 1) hi hL (by decide)) dL_law_703 ?_
  refine lv_aload_n hx hb dL_law_704 rfl (lv_at hl 3 rfl) ?_
  refine lv_iload_n hx hb dL_law_705 rfl (lv_at hl 0 rfl) ?_
  refine lv_iconst (v := 2) hx hb dL_law_706 (by decide) ?_
  refine lv_iadd hx hb dL_law_707 ?_
  refine va_sld hx hb hX hbl hbA hS (lw_in (k := 2) hi hL (by decide)) dL_law_708 ?_
  refine lawX_i (S := (Nat → Mem) × MemL) (fun u => u.1) (fun u => u.2) hP hD hS hA (fun hPc hDc => run_V (b := qa 0 0) (ci := 9) (As := [.int (xs (nI i + 1).toNatClampNeg), .int (xs (nI i + 2).toNatClampNeg)]) (rest := []) cx' (c_X9_seen l H.size qa C L (xs (nI i + 1).toNatClampNeg) (xs (nI i + 2).toNatClampNeg) _ (p_seen hR (xs (nI i + 1).toNatClampNeg) (xs (nI i + 2).toNatClampNeg))) mv_X9_seen kw_513 rfl rfl ⟨by decide, by decide⟩ hPc hDc rfl rfl rfl hl.1 rfl (Nat.le_of_ble_eq_true rfl) dL_law_709 ⟨by decide, by decide⟩) (fun r u H locs hP hD hS h => ?_)
  refine lv_aload_n hx hb dL_law_712 rfl (lv_at hl 1 rfl) ?_
  refine lv_aload_n hx hb dL_law_713 rfl (lv_at hl 3 rfl) ?_
  refine lv_iload_n hx hb dL_law_714 rfl (lv_at hl 0 rfl) ?_
  refine lv_iconst (v := 1) hx hb dL_law_715 (by decide) ?_
  refine lv_iadd hx hb dL_law_716 ?_
  refine va_sld hx hb hX hbl hbA hS (lw_in (k := 1) hi hL (by decide)) dL_law_717 ?_
  refine lv_aload_n hx hb dL_law_718 rfl (lv_at hl 3 rfl) ?_
  refine lv_iload_n hx hb dL_law_719 rfl (lv_at hl 0 rfl) ?_
  refine lv_iconst (v := 2) hx hb dL_law_720 (by decide) ?_
  refine lv_iadd hx hb dL_law_721 ?_
  refine va_sld hx hb hX hbl hbA hS (lw_in (k := 2) hi hL (by decide)) dL_law_722 ?_
  refine lawM_i (S := Mem) (fun u => u) hP hD hS hA (fun hPc hDc => run_V (b := q0 0) (ci := 10) (As := [.int (xs (nI i + 1).toNatClampNeg), .int (xs (nI i + 2).toNatClampNeg)]) (rest := [.int r]) cx' (c_X10_seen l H.size q0 M (xs (nI i + 1).toNatClampNeg) (xs (nI i + 2).toNatClampNeg) _ h) mv_X10_seen kw_1010 rfl rfl ⟨by decide, by decide⟩ hPc hDc rfl rfl rfl hl.1 rfl (Nat.le_of_ble_eq_true rfl) dL_law_723 ⟨by decide, by decide⟩) (fun r2 u2 H locs hP hD hS h2 => ?_)
  refine lv_icmp_eq (tgt := 1218) hx hb dL_law_726 (by decide) (fun _ => K _ _ _ _ _ hP hD hS h2.2) (fun q9 => absurd h2.1 q9)
set_option maxRecDepth 20000 in
theorem lop_19 {p : Program} {l : Launch} {e : Env} {s : State} {m : MethodId} {below : List Frame} {meth : Method} {c : Code} {b : Nat} {Q : State → Prop} {dC : Nat → ClassId} {dI : Nat → Nat → Nat} {cI cJ : ClassId} {qa : Nat → Nat → Nat} {q0 : Nat → Nat} {Ln i : Nat} {xs : Nat → Int32} (cx : CX RL cL_law ret 4 p s m #[Value.ref b] meth c (dC, dI) (TY cI cJ)) (hX : va_X b Ln xs s s.heap) (hbl : b < s.heap.size) (hi : i + 6 ≤ Ln) (hL : Ln ≤ 384) (hA : ∀ q, s.heap.size ≤ q → (fun q => s.heap.size ≤ q) q) (C : Nat → Mem) (L : MemL) (M : Mem) (hR : REL C M) (H : Heap) (locs : List Loc) (ls : Array Slot) (hP : va_P (dC, dI) vwCl (wL cI cJ qa q0 C L M) H) (hD : va_D (fun q => s.heap.size ≤ q) (wL cI cJ qa q0 C L M)) (hS : va_S (fun q => s.heap.size ≤ q) s.heap H locs) (hl : lv_has ls 4 [(3, .int (nI i)), (2, .ref (q0 0)), (1, .ref (qa 0 0)), (0, .ref b)]) (K : ∀ (C : Nat → Mem) (L : MemL) (M : Mem) (H : Heap) (locs : List Loc), va_P (dC, dI) vwCl (wL cI cJ qa q0 C L M) H → va_D (fun q => s.heap.size ≤ q) (wL cI cJ qa q0 C L M) → va_S (fun q => s.heap.size ≤ q) s.heap H locs → REL C M → W p l e room_1 s m #[Value.ref b] below meth c H locs 57 1337 Q (F0 m 1218 ls [])) : W p l e room_1 s m #[Value.ref b] below meth c H locs 57 1337 Q (F0 m 731 ls []) := by
  have cx' := cx.self
  obtain ⟨hx, hb, hr, hml, hown, hts, hlocks, hK⟩ := id cx
  have hbA : ¬ s.heap.size ≤ b := Nat.not_le.mpr hbl
  refine lv_aload_n hx hb dL_law_731 rfl (lv_at hl 2 rfl) ?_
  refine lawX_i (S := (Nat → Mem) × MemL) (fun u => u.1) (fun u => u.2) hP hD hS hA (fun hPc hDc => run_V (b := qa 0 0) (ci := 9) (As := []) (rest := []) cx' (c_X9_forget l H.size qa C L _ (p_forget hR)) mv_X9_forget kw_525 rfl rfl ⟨by decide, by decide⟩ hPc hDc rfl rfl rfl hl.1 rfl (Nat.le_of_ble_eq_true rfl) dL_law_732 ⟨by decide, by decide⟩) (fun r u H locs hP hD hS h => ?_)
  refine lv_aload_n hx hb dL_law_735 rfl (lv_at hl 1 rfl) ?_
  refine lawM_i (S := Mem) (fun u => u) hP hD hS hA (fun hPc hDc => run_V (b := q0 0) (ci := 10) (As := []) (rest := [.int r]) cx' (c_X10_forget l H.size q0 M _ h) mv_X10_forget kw_1015 rfl rfl ⟨by decide, by decide⟩ hPc hDc rfl rfl rfl hl.1 rfl (Nat.le_of_ble_eq_true rfl) dL_law_736 ⟨by decide, by decide⟩) (fun r2 u2 H locs hP hD hS h2 => ?_)
  refine lv_icmp_eq (tgt := 1218) hx hb dL_law_739 (by decide) (fun _ => K _ _ _ _ _ hP hD hS h2.2) (fun q9 => absurd h2.1 q9)
set_option maxRecDepth 20000 in
theorem lop_20 {p : Program} {l : Launch} {e : Env} {s : State} {m : MethodId} {below : List Frame} {meth : Method} {c : Code} {b : Nat} {Q : State → Prop} {dC : Nat → ClassId} {dI : Nat → Nat → Nat} {cI cJ : ClassId} {qa : Nat → Nat → Nat} {q0 : Nat → Nat} {Ln i : Nat} {xs : Nat → Int32} (cx : CX RL cL_law ret 4 p s m #[Value.ref b] meth c (dC, dI) (TY cI cJ)) (hX : va_X b Ln xs s s.heap) (hbl : b < s.heap.size) (hi : i + 6 ≤ Ln) (hL : Ln ≤ 384) (hA : ∀ q, s.heap.size ≤ q → (fun q => s.heap.size ≤ q) q) (C : Nat → Mem) (L : MemL) (M : Mem) (hR : REL C M) (H : Heap) (locs : List Loc) (ls : Array Slot) (hP : va_P (dC, dI) vwCl (wL cI cJ qa q0 C L M) H) (hD : va_D (fun q => s.heap.size ≤ q) (wL cI cJ qa q0 C L M)) (hS : va_S (fun q => s.heap.size ≤ q) s.heap H locs) (hl : lv_has ls 4 [(3, .int (nI i)), (2, .ref (q0 0)), (1, .ref (qa 0 0)), (0, .ref b)]) (K : ∀ (C : Nat → Mem) (L : MemL) (M : Mem) (H : Heap) (locs : List Loc), va_P (dC, dI) vwCl (wL cI cJ qa q0 C L M) H → va_D (fun q => s.heap.size ≤ q) (wL cI cJ qa q0 C L M) → va_S (fun q => s.heap.size ≤ q) s.heap H locs → REL C M → W p l e room_1 s m #[Value.ref b] below meth c H locs 57 1337 Q (F0 m 1218 ls [])) : W p l e room_1 s m #[Value.ref b] below meth c H locs 57 1337 Q (F0 m 744 ls []) := by
  have cx' := cx.self
  obtain ⟨hx, hb, hr, hml, hown, hts, hlocks, hK⟩ := id cx
  have hbA : ¬ s.heap.size ≤ b := Nat.not_le.mpr hbl
  refine lv_aload_n hx hb dL_law_744 rfl (lv_at hl 2 rfl) ?_
  refine lv_aload_n hx hb dL_law_745 rfl (lv_at hl 3 rfl) ?_
  refine lv_iload_n hx hb dL_law_746 rfl (lv_at hl 0 rfl) ?_
  refine lv_iconst (v := 1) hx hb dL_law_747 (by decide) ?_
  refine lv_iadd hx hb dL_law_748 ?_
  refine va_sld hx hb hX hbl hbA hS (lw_in (k := 1) hi hL (by decide)) dL_law_749 ?_
  refine lawX_i (S := (Nat → Mem) × MemL) (fun u => u.1) (fun u => u.2) hP hD hS hA (fun hPc hDc => run_V (b := qa 0 0) (ci := 9) (As := [.int (xs (nI i + 1).toNatClampNeg)]) (rest := []) cx' (c_X9_read l H.size qa C L (xs (nI i + 1).toNatClampNeg) _ (p_read hR (xs (nI i + 1).toNatClampNeg))) mv_X9_read kw_529 rfl rfl ⟨by decide, by decide⟩ hPc hDc rfl rfl rfl hl.1 rfl (Nat.le_of_ble_eq_true rfl) dL_law_750 ⟨by decide, by decide⟩) (fun r u H locs hP hD hS h => ?_)
  refine lv_aload_n hx hb dL_law_753 rfl (lv_at hl 1 rfl) ?_
  refine lv_aload_n hx hb dL_law_754 rfl (lv_at hl 3 rfl) ?_
  refine lv_iload_n hx hb dL_law_755 rfl (lv_at hl 0 rfl) ?_
  refine lv_iconst (v := 1) hx hb dL_law_756 (by decide) ?_
  refine lv_iadd hx hb dL_law_757 ?_
  refine va_sld hx hb hX hbl hbA hS (lw_in (k := 1) hi hL (by decide)) dL_law_758 ?_
  refine lawM_i (S := Mem) (fun u => u) hP hD hS hA (fun hPc hDc => run_V (b := q0 0) (ci := 10) (As := [.int (xs (nI i + 1).toNatClampNeg)]) (rest := [.int r]) cx' (c_X10_read l H.size q0 M (xs (nI i + 1).toNatClampNeg) _ h) mv_X10_read kw_1019 rfl rfl ⟨by decide, by decide⟩ hPc hDc rfl rfl rfl hl.1 rfl (Nat.le_of_ble_eq_true rfl) dL_law_759 ⟨by decide, by decide⟩) (fun r2 u2 H locs hP hD hS h2 => ?_)
  refine lv_icmp_eq (tgt := 1218) hx hb dL_law_762 (by decide) (fun _ => K _ _ _ _ _ hP hD hS h2.2) (fun q9 => absurd h2.1 q9)
set_option maxRecDepth 20000 in
theorem lop_21 {p : Program} {l : Launch} {e : Env} {s : State} {m : MethodId} {below : List Frame} {meth : Method} {c : Code} {b : Nat} {Q : State → Prop} {dC : Nat → ClassId} {dI : Nat → Nat → Nat} {cI cJ : ClassId} {qa : Nat → Nat → Nat} {q0 : Nat → Nat} {Ln i : Nat} {xs : Nat → Int32} (cx : CX RL cL_law ret 4 p s m #[Value.ref b] meth c (dC, dI) (TY cI cJ)) (hX : va_X b Ln xs s s.heap) (hbl : b < s.heap.size) (hi : i + 6 ≤ Ln) (hL : Ln ≤ 384) (hA : ∀ q, s.heap.size ≤ q → (fun q => s.heap.size ≤ q) q) (C : Nat → Mem) (L : MemL) (M : Mem) (hR : REL C M) (H : Heap) (locs : List Loc) (ls : Array Slot) (hP : va_P (dC, dI) vwCl (wL cI cJ qa q0 C L M) H) (hD : va_D (fun q => s.heap.size ≤ q) (wL cI cJ qa q0 C L M)) (hS : va_S (fun q => s.heap.size ≤ q) s.heap H locs) (hl : lv_has ls 4 [(3, .int (nI i)), (2, .ref (q0 0)), (1, .ref (qa 0 0)), (0, .ref b)]) (K : ∀ (C : Nat → Mem) (L : MemL) (M : Mem) (H : Heap) (locs : List Loc), va_P (dC, dI) vwCl (wL cI cJ qa q0 C L M) H → va_D (fun q => s.heap.size ≤ q) (wL cI cJ qa q0 C L M) → va_S (fun q => s.heap.size ≤ q) s.heap H locs → REL C M → W p l e room_1 s m #[Value.ref b] below meth c H locs 57 1337 Q (F0 m 1218 ls [])) : W p l e room_1 s m #[Value.ref b] below meth c H locs 57 1337 Q (F0 m 767 ls []) := by
  have cx' := cx.self
  obtain ⟨hx, hb, hr, hml, hown, hts, hlocks, hK⟩ := id cx
  have hbA : ¬ s.heap.size ≤ b := Nat.not_le.mpr hbl
  refine lv_aload_n hx hb dL_law_767 rfl (lv_at hl 2 rfl) ?_
  refine lawX_i (S := Unit) (fun _ => C) (fun _ => L) hP hD hS hA (fun hPc hDc => run_V (b := qa 0 0) (ci := 9) (As := []) (rest := []) cx' (c_X9_twice l H.size qa C L _ (p_twice hR)) mv_X9_twice kw_548 rfl rfl ⟨by decide, by decide⟩ hPc hDc rfl rfl rfl hl.1 rfl (Nat.le_of_ble_eq_true rfl) dL_law_768 ⟨by decide, by decide⟩) (fun r u H locs hP hD hS h => ?_)
  refine lv_aload_n hx hb dL_law_771 rfl (lv_at hl 1 rfl) ?_
  refine lawM_i (S := Mem) (fun u => u) hP hD hS hA (fun hPc hDc => run_V (b := q0 0) (ci := 10) (As := []) (rest := [.int r]) cx' (c_X10_twice l H.size q0 M _ h) mv_X10_twice kw_1024 rfl rfl ⟨by decide, by decide⟩ hPc hDc rfl rfl rfl hl.1 rfl (Nat.le_of_ble_eq_true rfl) dL_law_772 ⟨by decide, by decide⟩) (fun r2 u2 H locs hP hD hS h2 => ?_)
  refine lv_icmp_eq (tgt := 1218) hx hb dL_law_775 (by decide) (fun _ => K _ _ _ _ _ hP hD hS h2.2) (fun q9 => absurd h2.1 q9)
set_option maxRecDepth 20000 in
theorem lop_22 {p : Program} {l : Launch} {e : Env} {s : State} {m : MethodId} {below : List Frame} {meth : Method} {c : Code} {b : Nat} {Q : State → Prop} {dC : Nat → ClassId} {dI : Nat → Nat → Nat} {cI cJ : ClassId} {qa : Nat → Nat → Nat} {q0 : Nat → Nat} {Ln i : Nat} {xs : Nat → Int32} (cx : CX RL cL_law ret 4 p s m #[Value.ref b] meth c (dC, dI) (TY cI cJ)) (hX : va_X b Ln xs s s.heap) (hbl : b < s.heap.size) (hi : i + 6 ≤ Ln) (hL : Ln ≤ 384) (hA : ∀ q, s.heap.size ≤ q → (fun q => s.heap.size ≤ q) q) (C : Nat → Mem) (L : MemL) (M : Mem) (hR : REL C M) (H : Heap) (locs : List Loc) (ls : Array Slot) (hP : va_P (dC, dI) vwCl (wL cI cJ qa q0 C L M) H) (hD : va_D (fun q => s.heap.size ≤ q) (wL cI cJ qa q0 C L M)) (hS : va_S (fun q => s.heap.size ≤ q) s.heap H locs) (hl : lv_has ls 4 [(3, .int (nI i)), (2, .ref (q0 0)), (1, .ref (qa 0 0)), (0, .ref b)]) (K : ∀ (C : Nat → Mem) (L : MemL) (M : Mem) (H : Heap) (locs : List Loc), va_P (dC, dI) vwCl (wL cI cJ qa q0 C L M) H → va_D (fun q => s.heap.size ≤ q) (wL cI cJ qa q0 C L M) → va_S (fun q => s.heap.size ≤ q) s.heap H locs → REL C M → W p l e room_1 s m #[Value.ref b] below meth c H locs 57 1337 Q (F0 m 1218 ls [])) : W p l e room_1 s m #[Value.ref b] below meth c H locs 57 1337 Q (F0 m 780 ls []) := by
  have cx' := cx.self
  obtain ⟨hx, hb, hr, hml, hown, hts, hlocks, hK⟩ := id cx
  have hbA : ¬ s.heap.size ≤ b := Nat.not_le.mpr hbl
  refine lv_aload_n hx hb dL_law_780 rfl (lv_at hl 2 rfl) ?_
  refine lv_aload_n hx hb dL_law_781 rfl (lv_at hl 3 rfl) ?_
  refine lv_iload_n hx hb dL_law_782 rfl (lv_at hl 0 rfl) ?_
  refine lv_iconst (v := 1) hx hb dL_law_783 (by decide) ?_
  refine lv_iadd hx hb dL_law_784 ?_
  refine va_sld hx hb hX hbl hbA hS (lw_in (k := 1) hi hL (by decide)) dL_law_785 ?_
  refine lawX_i (S := (Nat → Mem) × MemL) (fun u => u.1) (fun u => u.2) hP hD hS hA (fun hPc hDc => run_V (b := qa 0 0) (ci := 9) (As := [.int (xs (nI i + 1).toNatClampNeg)]) (rest := []) cx' (c_X9_began l H.size qa C L (xs (nI i + 1).toNatClampNeg) _ (p_began hR (xs (nI i + 1).toNatClampNeg))) mv_X9_began kw_556 rfl rfl ⟨by decide, by decide⟩ hPc hDc rfl rfl rfl hl.1 rfl (Nat.le_of_ble_eq_true rfl) dL_law_786 ⟨by decide, by decide⟩) (fun r u H locs hP hD hS h => ?_)
  refine lv_aload_n hx hb dL_law_789 rfl (lv_at hl 1 rfl) ?_
  refine lv_aload_n hx hb dL_law_790 rfl (lv_at hl 3 rfl) ?_
  refine lv_iload_n hx hb dL_law_791 rfl (lv_at hl 0 rfl) ?_
  refine lv_iconst (v := 1) hx hb dL_law_792 (by decide) ?_
  refine lv_iadd hx hb dL_law_793 ?_
  refine va_sld hx hb hX hbl hbA hS (lw_in (k := 1) hi hL (by decide)) dL_law_794 ?_
  refine lawM_i (S := Mem) (fun u => u) hP hD hS hA (fun hPc hDc => run_V (b := q0 0) (ci := 10) (As := [.int (xs (nI i + 1).toNatClampNeg)]) (rest := [.int r]) cx' (c_X10_began l H.size q0 M (xs (nI i + 1).toNatClampNeg) _ h) mv_X10_began kw_1040 rfl rfl ⟨by decide, by decide⟩ hPc hDc rfl rfl rfl hl.1 rfl (Nat.le_of_ble_eq_true rfl) dL_law_795 ⟨by decide, by decide⟩) (fun r2 u2 H locs hP hD hS h2 => ?_)
  refine lv_icmp_eq (tgt := 1218) hx hb dL_law_798 (by decide) (fun _ => K _ _ _ _ _ hP hD hS h2.2) (fun q9 => absurd h2.1 q9)
set_option maxRecDepth 20000 in
theorem lop_23 {p : Program} {l : Launch} {e : Env} {s : State} {m : MethodId} {below : List Frame} {meth : Method} {c : Code} {b : Nat} {Q : State → Prop} {dC : Nat → ClassId} {dI : Nat → Nat → Nat} {cI cJ : ClassId} {qa : Nat → Nat → Nat} {q0 : Nat → Nat} {Ln i : Nat} {xs : Nat → Int32} (cx : CX RL cL_law ret 4 p s m #[Value.ref b] meth c (dC, dI) (TY cI cJ)) (hX : va_X b Ln xs s s.heap) (hbl : b < s.heap.size) (hi : i + 6 ≤ Ln) (hL : Ln ≤ 384) (hA : ∀ q, s.heap.size ≤ q → (fun q => s.heap.size ≤ q) q) (C : Nat → Mem) (L : MemL) (M : Mem) (hR : REL C M) (H : Heap) (locs : List Loc) (ls : Array Slot) (hP : va_P (dC, dI) vwCl (wL cI cJ qa q0 C L M) H) (hD : va_D (fun q => s.heap.size ≤ q) (wL cI cJ qa q0 C L M)) (hS : va_S (fun q => s.heap.size ≤ q) s.heap H locs) (hl : lv_has ls 4 [(3, .int (nI i)), (2, .ref (q0 0)), (1, .ref (qa 0 0)), (0, .ref b)]) (K : ∀ (C : Nat → Mem) (L : MemL) (M : Mem) (H : Heap) (locs : List Loc), va_P (dC, dI) vwCl (wL cI cJ qa q0 C L M) H → va_D (fun q => s.heap.size ≤ q) (wL cI cJ qa q0 C L M) → va_S (fun q => s.heap.size ≤ q) s.heap H locs → REL C M → W p l e room_1 s m #[Value.ref b] below meth c H locs 57 1337 Q (F0 m 1218 ls [])) : W p l e room_1 s m #[Value.ref b] below meth c H locs 57 1337 Q (F0 m 803 ls []) := by
  have cx' := cx.self
  obtain ⟨hx, hb, hr, hml, hown, hts, hlocks, hK⟩ := id cx
  have hbA : ¬ s.heap.size ≤ b := Nat.not_le.mpr hbl
  refine lv_aload_n hx hb dL_law_803 rfl (lv_at hl 2 rfl) ?_
  refine lawX_i (S := Unit) (fun _ => C) (fun _ => L) hP hD hS hA (fun hPc hDc => run_V (b := qa 0 0) (ci := 9) (As := []) (rest := []) cx' (c_X9_ask l H.size qa C L _ (p_ask hR)) mv_X9_ask kw_565 rfl rfl ⟨by decide, by decide⟩ hPc hDc rfl rfl rfl hl.1 rfl (Nat.le_of_ble_eq_true rfl) dL_law_804 ⟨by decide, by decide⟩) (fun r u H locs hP hD hS h => ?_)
  refine lv_aload_n hx hb dL_law_807 rfl (lv_at hl 1 rfl) ?_
  refine lawM_i (S := Mem) (fun u => u) hP hD hS hA (fun hPc hDc => run_V (b := q0 0) (ci := 10) (As := []) (rest := [.int r]) cx' (c_X10_ask l H.size q0 M _ h) mv_X10_ask kw_1048 rfl rfl ⟨by decide, by decide⟩ hPc hDc rfl rfl rfl hl.1 rfl (Nat.le_of_ble_eq_true rfl) dL_law_808 ⟨by decide, by decide⟩) (fun r2 u2 H locs hP hD hS h2 => ?_)
  refine lv_icmp_eq (tgt := 1218) hx hb dL_law_811 (by decide) (fun _ => K _ _ _ _ _ hP hD hS h2.2) (fun q9 => absurd h2.1 q9)
set_option maxRecDepth 20000 in
theorem lop_24 {p : Program} {l : Launch} {e : Env} {s : State} {m : MethodId} {below : List Frame} {meth : Method} {c : Code} {b : Nat} {Q : State → Prop} {dC : Nat → ClassId} {dI : Nat → Nat → Nat} {cI cJ : ClassId} {qa : Nat → Nat → Nat} {q0 : Nat → Nat} {Ln i : Nat} {xs : Nat → Int32} (cx : CX RL cL_law ret 4 p s m #[Value.ref b] meth c (dC, dI) (TY cI cJ)) (hX : va_X b Ln xs s s.heap) (hbl : b < s.heap.size) (hi : i + 6 ≤ Ln) (hL : Ln ≤ 384) (hA : ∀ q, s.heap.size ≤ q → (fun q => s.heap.size ≤ q) q) (C : Nat → Mem) (L : MemL) (M : Mem) (hR : REL C M) (H : Heap) (locs : List Loc) (ls : Array Slot) (hP : va_P (dC, dI) vwCl (wL cI cJ qa q0 C L M) H) (hD : va_D (fun q => s.heap.size ≤ q) (wL cI cJ qa q0 C L M)) (hS : va_S (fun q => s.heap.size ≤ q) s.heap H locs) (hl : lv_has ls 4 [(3, .int (nI i)), (2, .ref (q0 0)), (1, .ref (qa 0 0)), (0, .ref b)]) (K : ∀ (C : Nat → Mem) (L : MemL) (M : Mem) (H : Heap) (locs : List Loc), va_P (dC, dI) vwCl (wL cI cJ qa q0 C L M) H → va_D (fun q => s.heap.size ≤ q) (wL cI cJ qa q0 C L M) → va_S (fun q => s.heap.size ≤ q) s.heap H locs → REL C M → W p l e room_1 s m #[Value.ref b] below meth c H locs 57 1337 Q (F0 m 1218 ls [])) : W p l e room_1 s m #[Value.ref b] below meth c H locs 57 1337 Q (F0 m 816 ls []) := by
  have cx' := cx.self
  obtain ⟨hx, hb, hr, hml, hown, hts, hlocks, hK⟩ := id cx
  have hbA : ¬ s.heap.size ≤ b := Nat.not_le.mpr hbl
  refine lv_aload_n hx hb dL_law_816 rfl (lv_at hl 2 rfl) ?_
  refine lv_aload_n hx hb dL_law_817 rfl (lv_at hl 3 rfl) ?_
  refine lv_iload_n hx hb dL_law_818 rfl (lv_at hl 0 rfl) ?_
  refine lv_iconst (v := 1) hx hb dL_law_819 (by decide) ?_
  refine lv_iadd hx hb dL_law_820 ?_
  refine va_sld hx hb hX hbl hbA hS (lw_in (k := 1) hi hL (by decide)) dL_law_821 ?_
  refine lv_aload_n hx hb dL_law_822 rfl (lv_at hl 3 rfl) ?_
  refine lv_iload_n hx hb dL_law_823 rfl (lv_at hl 0 rfl) ?_
  refine lv_iconst (v := 2) hx hb dL_law_824 (by decide) ?_
  refine lv_iadd hx hb dL_law_825 ?_
  refine va_sld hx hb hX hbl hbA hS (lw_in (k := 2) hi hL (by decide)) dL_law_826 ?_
  refine lv_aload_n hx hb dL_law_827 rfl (lv_at hl 3 rfl) ?_
  refine lv_iload_n hx hb dL_law_828 rfl (lv_at hl 0 rfl) ?_
  refine lv_iconst (v := 3) hx hb dL_law_829 (by decide) ?_
  refine lv_iadd hx hb dL_law_830 ?_
  refine va_sld hx hb hX hbl hbA hS (lw_in (k := 3) hi hL (by decide)) dL_law_831 ?_
  refine lv_aload_n hx hb dL_law_832 rfl (lv_at hl 3 rfl) ?_
  refine lv_iload_n hx hb dL_law_833 rfl (lv_at hl 0 rfl) ?_
  refine lv_iconst (v := 4) hx hb dL_law_834 (by decide) ?_
  refine lv_iadd hx hb dL_law_835 ?_
  refine va_sld hx hb hX hbl hbA hS (lw_in (k := 4) hi hL (by decide)) dL_law_836 ?_
  refine lawX_l (S := (Nat → Mem) × MemL) (fun u => u.1) (fun u => u.2) hP hD hS hA (fun hPc hDc => run_V (b := qa 0 0) (ci := 9) (As := [.int (xs (nI i + 1).toNatClampNeg), .int (xs (nI i + 2).toNatClampNeg), .int (xs (nI i + 3).toNatClampNeg), .int (xs (nI i + 4).toNatClampNeg)]) (rest := []) cx' (c_X9_road l H.size qa C L (xs (nI i + 1).toNatClampNeg) (xs (nI i + 2).toNatClampNeg) (xs (nI i + 3).toNatClampNeg) (xs (nI i + 4).toNatClampNeg) _ (p_road hR (xs (nI i + 1).toNatClampNeg) (xs (nI i + 2).toNatClampNeg) (xs (nI i + 3).toNatClampNeg) (xs (nI i + 4).toNatClampNeg))) mv_X9_road kw_581 rfl rfl ⟨by decide, by decide⟩ hPc hDc rfl rfl rfl hl.1 rfl (Nat.le_of_ble_eq_true rfl) dL_law_837 ⟨by decide, by decide⟩) (fun r u H locs hP hD hS h => ?_)
  refine lv_aload_n hx hb dL_law_840 rfl (lv_at hl 1 rfl) ?_
  refine lv_aload_n hx hb dL_law_841 rfl (lv_at hl 3 rfl) ?_
  refine lv_iload_n hx hb dL_law_842 rfl (lv_at hl 0 rfl) ?_
  refine lv_iconst (v := 1) hx hb dL_law_843 (by decide) ?_
  refine lv_iadd hx hb dL_law_844 ?_
  refine va_sld hx hb hX hbl hbA hS (lw_in (k := 1) hi hL (by decide)) dL_law_845 ?_
  refine lv_aload_n hx hb dL_law_846 rfl (lv_at hl 3 rfl) ?_
  refine lv_iload_n hx hb dL_law_847 rfl (lv_at hl 0 rfl) ?_
  refine lv_iconst (v := 2) hx hb dL_law_848 (by decide) ?_
  refine lv_iadd hx hb dL_law_849 ?_
  refine va_sld hx hb hX hbl hbA hS (lw_in (k := 2) hi hL (by decide)) dL_law_850 ?_
  refine lv_aload_n hx hb dL_law_851 rfl (lv_at hl 3 rfl) ?_
  refine lv_iload_n hx hb dL_law_852 rfl (lv_at hl 0 rfl) ?_
  refine lv_iconst (v := 3) hx hb dL_law_853 (by decide) ?_
  refine lv_iadd hx hb dL_law_854 ?_
  refine va_sld hx hb hX hbl hbA hS (lw_in (k := 3) hi hL (by decide)) dL_law_855 ?_
  refine lv_aload_n hx hb dL_law_856 rfl (lv_at hl 3 rfl) ?_
  refine lv_iload_n hx hb dL_law_857 rfl (lv_at hl 0 rfl) ?_
  refine lv_iconst (v := 4) hx hb dL_law_858 (by decide) ?_
  refine lv_iadd hx hb dL_law_859 ?_
  refine va_sld hx hb hX hbl hbA hS (lw_in (k := 4) hi hL (by decide)) dL_law_860 ?_
  refine lawM_l (S := Mem) (fun u => u) hP hD hS hA (fun hPc hDc => run_V (b := q0 0) (ci := 10) (As := [.int (xs (nI i + 1).toNatClampNeg), .int (xs (nI i + 2).toNatClampNeg), .int (xs (nI i + 3).toNatClampNeg), .int (xs (nI i + 4).toNatClampNeg)]) (rest := [.long r]) cx' (c_X10_road l H.size q0 M (xs (nI i + 1).toNatClampNeg) (xs (nI i + 2).toNatClampNeg) (xs (nI i + 3).toNatClampNeg) (xs (nI i + 4).toNatClampNeg) _ h) mv_X10_road kw_1060 rfl rfl ⟨by decide, by decide⟩ hPc hDc rfl rfl rfl hl.1 rfl (Nat.le_of_ble_eq_true rfl) dL_law_861 ⟨by decide, by decide⟩) (fun r2 u2 H locs hP hD hS h2 => ?_)
  refine W.lcmp hx hb dL_law_864 ?_
  refine lv_if_eq (tgt := 1218) hx hb dL_law_865 (by decide) (fun _ => K _ _ _ _ _ hP hD hS h2.2) (fun q9 => absurd (by rw [cmp_eq]; exact h2.1) q9)
set_option maxRecDepth 20000 in
theorem lop_25 {p : Program} {l : Launch} {e : Env} {s : State} {m : MethodId} {below : List Frame} {meth : Method} {c : Code} {b : Nat} {Q : State → Prop} {dC : Nat → ClassId} {dI : Nat → Nat → Nat} {cI cJ : ClassId} {qa : Nat → Nat → Nat} {q0 : Nat → Nat} {Ln i : Nat} {xs : Nat → Int32} (cx : CX RL cL_law ret 4 p s m #[Value.ref b] meth c (dC, dI) (TY cI cJ)) (hX : va_X b Ln xs s s.heap) (hbl : b < s.heap.size) (hi : i + 6 ≤ Ln) (hL : Ln ≤ 384) (hA : ∀ q, s.heap.size ≤ q → (fun q => s.heap.size ≤ q) q) (C : Nat → Mem) (L : MemL) (M : Mem) (hR : REL C M) (H : Heap) (locs : List Loc) (ls : Array Slot) (hP : va_P (dC, dI) vwCl (wL cI cJ qa q0 C L M) H) (hD : va_D (fun q => s.heap.size ≤ q) (wL cI cJ qa q0 C L M)) (hS : va_S (fun q => s.heap.size ≤ q) s.heap H locs) (hl : lv_has ls 4 [(3, .int (nI i)), (2, .ref (q0 0)), (1, .ref (qa 0 0)), (0, .ref b)]) (K : ∀ (C : Nat → Mem) (L : MemL) (M : Mem) (H : Heap) (locs : List Loc), va_P (dC, dI) vwCl (wL cI cJ qa q0 C L M) H → va_D (fun q => s.heap.size ≤ q) (wL cI cJ qa q0 C L M) → va_S (fun q => s.heap.size ≤ q) s.heap H locs → REL C M → W p l e room_1 s m #[Value.ref b] below meth c H locs 57 1337 Q (F0 m 1218 ls [])) : W p l e room_1 s m #[Value.ref b] below meth c H locs 57 1337 Q (F0 m 870 ls []) := by
  have cx' := cx.self
  obtain ⟨hx, hb, hr, hml, hown, hts, hlocks, hK⟩ := id cx
  have hbA : ¬ s.heap.size ≤ b := Nat.not_le.mpr hbl
  refine lv_aload_n hx hb dL_law_870 rfl (lv_at hl 2 rfl) ?_
  refine lv_aload_n hx hb dL_law_871 rfl (lv_at hl 3 rfl) ?_
  refine lv_iload_n hx hb dL_law_872 rfl (lv_at hl 0 rfl) ?_
  refine lv_iconst (v := 1) hx hb dL_law_873 (by decide) ?_
  refine lv_iadd hx hb dL_law_874 ?_
  refine va_sld hx hb hX hbl hbA hS (lw_in (k := 1) hi hL (by decide)) dL_law_875 ?_
  refine lv_aload_n hx hb dL_law_876 rfl (lv_at hl 3 rfl) ?_
  refine lv_iload_n hx hb dL_law_877 rfl (lv_at hl 0 rfl) ?_
  refine lv_iconst (v := 2) hx hb dL_law_878 (by decide) ?_
  refine lv_iadd hx hb dL_law_879 ?_
  refine va_sld hx hb hX hbl hbA hS (lw_in (k := 2) hi hL (by decide)) dL_law_880 ?_
  refine lv_aload_n hx hb dL_law_881 rfl (lv_at hl 3 rfl) ?_
  refine lv_iload_n hx hb dL_law_882 rfl (lv_at hl 0 rfl) ?_
  refine lv_iconst (v := 3) hx hb dL_law_883 (by decide) ?_
  refine lv_iadd hx hb dL_law_884 ?_
  refine va_sld hx hb hX hbl hbA hS (lw_in (k := 3) hi hL (by decide)) dL_law_885 ?_
  refine lv_aload_n hx hb dL_law_886 rfl (lv_at hl 3 rfl) ?_
  refine lv_iload_n hx hb dL_law_887 rfl (lv_at hl 0 rfl) ?_
  refine lv_iconst (v := 4) hx hb dL_law_888 (by decide) ?_
  refine lv_iadd hx hb dL_law_889 ?_
  refine va_sld hx hb hX hbl hbA hS (lw_in (k := 4) hi hL (by decide)) dL_law_890 ?_
  refine lawX_i (S := Unit) (fun _ => C) (fun _ => L) hP hD hS hA (fun hPc hDc => run_V (b := qa 0 0) (ci := 9) (As := [.int (xs (nI i + 1).toNatClampNeg), .int (xs (nI i + 2).toNatClampNeg), .int (xs (nI i + 3).toNatClampNeg), .int (xs (nI i + 4).toNatClampNeg)]) (rest := []) cx' (c_X9_season l H.size qa C L (xs (nI i + 1).toNatClampNeg) (xs (nI i + 2).toNatClampNeg) (xs (nI i + 3).toNatClampNeg) (xs (nI i + 4).toNatClampNeg) _ (p_season hR (xs (nI i + 1).toNatClampNeg) (xs (nI i + 2).toNatClampNeg) (xs (nI i + 3).toNatClampNeg) (xs (nI i + 4).toNatClampNeg))) mv_X9_season kw_601 rfl rfl ⟨by decide, by decide⟩ hPc hDc rfl rfl rfl hl.1 rfl (Nat.le_of_ble_eq_true rfl) dL_law_891 ⟨by decide, by decide⟩) (fun r u H locs hP hD hS h => ?_)
  refine lv_aload_n hx hb dL_law_894 rfl (lv_at hl 1 rfl) ?_
  refine lv_aload_n hx hb dL_law_895 rfl (lv_at hl 3 rfl) ?_
  refine lv_iload_n hx hb dL_law_896 rfl (lv_at hl 0 rfl) ?_
  refine lv_iconst (v := 1) hx hb dL_law_897 (by decide) ?_
  refine lv_iadd hx hb dL_law_898 ?_
  refine va_sld hx hb hX hbl hbA hS (lw_in (k := 1) hi hL (by decide)) dL_law_899 ?_
  refine lv_aload_n hx hb dL_law_900 rfl (lv_at hl 3 rfl) ?_
  refine lv_iload_n hx hb dL_law_901 rfl (lv_at hl 0 rfl) ?_
  refine lv_iconst (v := 2) hx hb dL_law_902 (by decide) ?_
  refine lv_iadd hx hb dL_law_903 ?_
  refine va_sld hx hb hX hbl hbA hS (lw_in (k := 2) hi hL (by decide)) dL_law_904 ?_
  refine lv_aload_n hx hb dL_law_905 rfl (lv_at hl 3 rfl) ?_
  refine lv_iload_n hx hb dL_law_906 rfl (lv_at hl 0 rfl) ?_
  refine lv_iconst (v := 3) hx hb dL_law_907 (by decide) ?_
  refine lv_iadd hx hb dL_law_908 ?_
  refine va_sld hx hb hX hbl hbA hS (lw_in (k := 3) hi hL (by decide)) dL_law_909 ?_
  refine lv_aload_n hx hb dL_law_910 rfl (lv_at hl 3 rfl) ?_
  refine lv_iload_n hx hb dL_law_911 rfl (lv_at hl 0 rfl) ?_
  refine lv_iconst (v := 4) hx hb dL_law_912 (by decide) ?_
  refine lv_iadd hx hb dL_law_913 ?_
  refine va_sld hx hb hX hbl hbA hS (lw_in (k := 4) hi hL (by decide)) dL_law_914 ?_
  refine lawM_i (S := Mem) (fun u => u) hP hD hS hA (fun hPc hDc => run_V (b := q0 0) (ci := 10) (As := [.int (xs (nI i + 1).toNatClampNeg), .int (xs (nI i + 2).toNatClampNeg), .int (xs (nI i + 3).toNatClampNeg), .int (xs (nI i + 4).toNatClampNeg)]) (rest := [.int r]) cx' (c_X10_season l H.size q0 M (xs (nI i + 1).toNatClampNeg) (xs (nI i + 2).toNatClampNeg) (xs (nI i + 3).toNatClampNeg) (xs (nI i + 4).toNatClampNeg) _ h) mv_X10_season kw_1076 rfl rfl ⟨by decide, by decide⟩ hPc hDc rfl rfl rfl hl.1 rfl (Nat.le_of_ble_eq_true rfl) dL_law_915 ⟨by decide, by decide⟩) (fun r2 u2 H locs hP hD hS h2 => ?_)
  refine lv_icmp_eq (tgt := 1218) hx hb dL_law_918 (by decide) (fun _ => K _ _ _ _ _ hP hD hS h2.2) (fun q9 => absurd h2.1 q9)
set_option maxRecDepth 20000 in
theorem lop_26 {p : Program} {l : Launch} {e : Env} {s : State} {m : MethodId} {below : List Frame} {meth : Method} {c : Code} {b : Nat} {Q : State → Prop} {dC : Nat → ClassId} {dI : Nat → Nat → Nat} {cI cJ : ClassId} {qa : Nat → Nat → Nat} {q0 : Nat → Nat} {Ln i : Nat} {xs : Nat → Int32} (cx : CX RL cL_law ret 4 p s m #[Value.ref b] meth c (dC, dI) (TY cI cJ)) (hX : va_X b Ln xs s s.heap) (hbl : b < s.heap.size) (hi : i + 6 ≤ Ln) (hL : Ln ≤ 384) (hA : ∀ q, s.heap.size ≤ q → (fun q => s.heap.size ≤ q) q) (C : Nat → Mem) (L : MemL) (M : Mem) (hR : REL C M) (H : Heap) (locs : List Loc) (ls : Array Slot) (hP : va_P (dC, dI) vwCl (wL cI cJ qa q0 C L M) H) (hD : va_D (fun q => s.heap.size ≤ q) (wL cI cJ qa q0 C L M)) (hS : va_S (fun q => s.heap.size ≤ q) s.heap H locs) (hl : lv_has ls 4 [(3, .int (nI i)), (2, .ref (q0 0)), (1, .ref (qa 0 0)), (0, .ref b)]) (K : ∀ (C : Nat → Mem) (L : MemL) (M : Mem) (H : Heap) (locs : List Loc), va_P (dC, dI) vwCl (wL cI cJ qa q0 C L M) H → va_D (fun q => s.heap.size ≤ q) (wL cI cJ qa q0 C L M) → va_S (fun q => s.heap.size ≤ q) s.heap H locs → REL C M → W p l e room_1 s m #[Value.ref b] below meth c H locs 57 1337 Q (F0 m 1218 ls [])) : W p l e room_1 s m #[Value.ref b] below meth c H locs 57 1337 Q (F0 m 923 ls []) := by
  have cx' := cx.self
  obtain ⟨hx, hb, hr, hml, hown, hts, hlocks, hK⟩ := id cx
  have hbA : ¬ s.heap.size ≤ b := Nat.not_le.mpr hbl
  refine lv_aload_n hx hb dL_law_923 rfl (lv_at hl 2 rfl) ?_
  refine lv_aload_n hx hb dL_law_924 rfl (lv_at hl 3 rfl) ?_
  refine lv_iload_n hx hb dL_law_925 rfl (lv_at hl 0 rfl) ?_
  refine lv_iconst (v := 1) hx hb dL_law_926 (by decide) ?_
  refine lv_iadd hx hb dL_law_927 ?_
  refine va_sld hx hb hX hbl hbA hS (lw_in (k := 1) hi hL (by decide)) dL_law_928 ?_
  refine lv_aload_n hx hb dL_law_929 rfl (lv_at hl 3 rfl) ?_
  refine lv_iload_n hx hb dL_law_930 rfl (lv_at hl 0 rfl) ?_
  refine lv_iconst (v := 2) hx hb dL_law_931 (by decide) ?_
  refine lv_iadd hx hb dL_law_932 ?_
  refine va_sld hx hb hX hbl hbA hS (lw_in (k := 2) hi hL (by decide)) dL_law_933 ?_
  refine lv_aload_n hx hb dL_law_934 rfl (lv_at hl 3 rfl) ?_
  refine lv_iload_n hx hb dL_law_935 rfl (lv_at hl 0 rfl) ?_
  refine lv_iconst (v := 3) hx hb dL_law_936 (by decide) ?_
  refine lv_iadd hx hb dL_law_937 ?_
  refine va_sld hx hb hX hbl hbA hS (lw_in (k := 3) hi hL (by decide)) dL_law_938 ?_
  refine lawX_i (S := (Nat → Mem) × MemL) (fun u => u.1) (fun u => u.2) hP hD hS hA (fun hPc hDc => run_V (b := qa 0 0) (ci := 9) (As := [.int (xs (nI i + 1).toNatClampNeg), .int (xs (nI i + 2).toNatClampNeg), .int (xs (nI i + 3).toNatClampNeg)]) (rest := []) cx' (c_X9_sheet l H.size qa C L (xs (nI i + 1).toNatClampNeg) (xs (nI i + 2).toNatClampNeg) (xs (nI i + 3).toNatClampNeg) _ (p_sheet hR (xs (nI i + 1).toNatClampNeg) (xs (nI i + 2).toNatClampNeg) (xs (nI i + 3).toNatClampNeg))) mv_X9_sheet kw_606 rfl rfl ⟨by decide, by decide⟩ hPc hDc rfl rfl rfl hl.1 rfl (Nat.le_of_ble_eq_true rfl) dL_law_939 ⟨by decide, by decide⟩) (fun r u H locs hP hD hS h => ?_)
  refine lv_aload_n hx hb dL_law_942 rfl (lv_at hl 1 rfl) ?_
  refine lv_aload_n hx hb dL_law_943 rfl (lv_at hl 3 rfl) ?_
  refine lv_iload_n hx hb dL_law_944 rfl (lv_at hl 0 rfl) ?_
  refine lv_iconst (v := 1) hx hb dL_law_945 (by decide) ?_
  refine lv_iadd hx hb dL_law_946 ?_
  refine va_sld hx hb hX hbl hbA hS (lw_in (k := 1) hi hL (by decide)) dL_law_947 ?_
  refine lv_aload_n hx hb dL_law_948 rfl (lv_at hl 3 rfl) ?_
  refine lv_iload_n hx hb dL_law_949 rfl (lv_at hl 0 rfl) ?_
  refine lv_iconst (v := 2) hx hb dL_law_950 (by decide) ?_
  refine lv_iadd hx hb dL_law_951 ?_
  refine va_sld hx hb hX hbl hbA hS (lw_in (k := 2) hi hL (by decide)) dL_law_952 ?_
  refine lv_aload_n hx hb dL_law_953 rfl (lv_at hl 3 rfl) ?_
  refine lv_iload_n hx hb dL_law_954 rfl (lv_at hl 0 rfl) ?_
  refine lv_iconst (v := 3) hx hb dL_law_955 (by decide) ?_
  refine lv_iadd hx hb dL_law_956 ?_
  refine va_sld hx hb hX hbl hbA hS (lw_in (k := 3) hi hL (by decide)) dL_law_957 ?_
  refine lawM_i (S := Mem) (fun u => u) hP hD hS hA (fun hPc hDc => run_V (b := q0 0) (ci := 10) (As := [.int (xs (nI i + 1).toNatClampNeg), .int (xs (nI i + 2).toNatClampNeg), .int (xs (nI i + 3).toNatClampNeg)]) (rest := [.int r]) cx' (c_X10_sheet l H.size q0 M (xs (nI i + 1).toNatClampNeg) (xs (nI i + 2).toNatClampNeg) (xs (nI i + 3).toNatClampNeg) _ h) mv_X10_sheet kw_788 rfl rfl ⟨by decide, by decide⟩ hPc hDc rfl rfl rfl hl.1 rfl (Nat.le_of_ble_eq_true rfl) dL_law_958 ⟨by decide, by decide⟩) (fun r2 u2 H locs hP hD hS h2 => ?_)
  refine lv_icmp_eq (tgt := 1218) hx hb dL_law_961 (by decide) (fun _ => K _ _ _ _ _ hP hD hS h2.2) (fun q9 => absurd h2.1 q9)
set_option maxRecDepth 20000 in
theorem lop_27 {p : Program} {l : Launch} {e : Env} {s : State} {m : MethodId} {below : List Frame} {meth : Method} {c : Code} {b : Nat} {Q : State → Prop} {dC : Nat → ClassId} {dI : Nat → Nat → Nat} {cI cJ : ClassId} {qa : Nat → Nat → Nat} {q0 : Nat → Nat} {Ln i : Nat} {xs : Nat → Int32} (cx : CX RL cL_law ret 4 p s m #[Value.ref b] meth c (dC, dI) (TY cI cJ)) (hX : va_X b Ln xs s s.heap) (hbl : b < s.heap.size) (hi : i + 6 ≤ Ln) (hL : Ln ≤ 384) (hA : ∀ q, s.heap.size ≤ q → (fun q => s.heap.size ≤ q) q) (C : Nat → Mem) (L : MemL) (M : Mem) (hR : REL C M) (H : Heap) (locs : List Loc) (ls : Array Slot) (hP : va_P (dC, dI) vwCl (wL cI cJ qa q0 C L M) H) (hD : va_D (fun q => s.heap.size ≤ q) (wL cI cJ qa q0 C L M)) (hS : va_S (fun q => s.heap.size ≤ q) s.heap H locs) (hl : lv_has ls 4 [(3, .int (nI i)), (2, .ref (q0 0)), (1, .ref (qa 0 0)), (0, .ref b)]) (K : ∀ (C : Nat → Mem) (L : MemL) (M : Mem) (H : Heap) (locs : List Loc), va_P (dC, dI) vwCl (wL cI cJ qa q0 C L M) H → va_D (fun q => s.heap.size ≤ q) (wL cI cJ qa q0 C L M) → va_S (fun q => s.heap.size ≤ q) s.heap H locs → REL C M → W p l e room_1 s m #[Value.ref b] below meth c H locs 57 1337 Q (F0 m 1218 ls [])) : W p l e room_1 s m #[Value.ref b] below meth c H locs 57 1337 Q (F0 m 966 ls []) := by
  have cx' := cx.self
  obtain ⟨hx, hb, hr, hml, hown, hts, hlocks, hK⟩ := id cx
  have hbA : ¬ s.heap.size ≤ b := Nat.not_le.mpr hbl
  refine lv_aload_n hx hb dL_law_966 rfl (lv_at hl 2 rfl) ?_
  refine lv_aload_n hx hb dL_law_967 rfl (lv_at hl 3 rfl) ?_
  refine lv_iload_n hx hb dL_law_968 rfl (lv_at hl 0 rfl) ?_
  refine lv_iconst (v := 1) hx hb dL_law_969 (by decide) ?_
  refine lv_iadd hx hb dL_law_970 ?_
  refine va_sld hx hb hX hbl hbA hS (lw_in (k := 1) hi hL (by decide)) dL_law_971 ?_
  refine lawX_i (S := (Nat → Mem) × MemL) (fun u => u.1) (fun u => u.2) hP hD hS hA (fun hPc hDc => run_V (b := qa 0 0) (ci := 9) (As := [.int (xs (nI i + 1).toNatClampNeg)]) (rest := []) cx' (c_X9_lose l H.size qa C L (xs (nI i + 1).toNatClampNeg) _ (p_lose hR (xs (nI i + 1).toNatClampNeg))) mv_X9_lose kw_617 rfl rfl ⟨by decide, by decide⟩ hPc hDc rfl rfl rfl hl.1 rfl (Nat.le_of_ble_eq_true rfl) dL_law_972 ⟨by decide, by decide⟩) (fun r u H locs hP hD hS h => ?_)
  refine lv_aload_n hx hb dL_law_975 rfl (lv_at hl 1 rfl) ?_
  refine lv_aload_n hx hb dL_law_976 rfl (lv_at hl 3 rfl) ?_
  refine lv_iload_n hx hb dL_law_977 rfl (lv_at hl 0 rfl) ?_
  refine lv_iconst (v := 1) hx hb dL_law_978 (by decide) ?_
  refine lv_iadd hx hb dL_law_979 ?_
  refine va_sld hx hb hX hbl hbA hS (lw_in (k := 1) hi hL (by decide)) dL_law_980 ?_
  refine lawM_i (S := Mem) (fun u => u) hP hD hS hA (fun hPc hDc => run_V (b := q0 0) (ci := 10) (As := [.int (xs (nI i + 1).toNatClampNeg)]) (rest := [.int r]) cx' (c_X10_lose l H.size q0 M (xs (nI i + 1).toNatClampNeg) _ h) mv_X10_lose kw_804 rfl rfl ⟨by decide, by decide⟩ hPc hDc rfl rfl rfl hl.1 rfl (Nat.le_of_ble_eq_true rfl) dL_law_981 ⟨by decide, by decide⟩) (fun r2 u2 H locs hP hD hS h2 => ?_)
  refine lv_icmp_eq (tgt := 1218) hx hb dL_law_984 (by decide) (fun _ => K _ _ _ _ _ hP hD hS h2.2) (fun q9 => absurd h2.1 q9)
set_option maxRecDepth 20000 in
theorem lop_28 {p : Program} {l : Launch} {e : Env} {s : State} {m : MethodId} {below : List Frame} {meth : Method} {c : Code} {b : Nat} {Q : State → Prop} {dC : Nat → ClassId} {dI : Nat → Nat → Nat} {cI cJ : ClassId} {qa : Nat → Nat → Nat} {q0 : Nat → Nat} {Ln i : Nat} {xs : Nat → Int32} (cx : CX RL cL_law ret 4 p s m #[Value.ref b] meth c (dC, dI) (TY cI cJ)) (hX : va_X b Ln xs s s.heap) (hbl : b < s.heap.size) (hi : i + 6 ≤ Ln) (hL : Ln ≤ 384) (hA : ∀ q, s.heap.size ≤ q → (fun q => s.heap.size ≤ q) q) (C : Nat → Mem) (L : MemL) (M : Mem) (hR : REL C M) (H : Heap) (locs : List Loc) (ls : Array Slot) (hP : va_P (dC, dI) vwCl (wL cI cJ qa q0 C L M) H) (hD : va_D (fun q => s.heap.size ≤ q) (wL cI cJ qa q0 C L M)) (hS : va_S (fun q => s.heap.size ≤ q) s.heap H locs) (hl : lv_has ls 4 [(3, .int (nI i)), (2, .ref (q0 0)), (1, .ref (qa 0 0)), (0, .ref b)]) (K : ∀ (C : Nat → Mem) (L : MemL) (M : Mem) (H : Heap) (locs : List Loc), va_P (dC, dI) vwCl (wL cI cJ qa q0 C L M) H → va_D (fun q => s.heap.size ≤ q) (wL cI cJ qa q0 C L M) → va_S (fun q => s.heap.size ≤ q) s.heap H locs → REL C M → W p l e room_1 s m #[Value.ref b] below meth c H locs 57 1337 Q (F0 m 1218 ls [])) : W p l e room_1 s m #[Value.ref b] below meth c H locs 57 1337 Q (F0 m 989 ls []) := by
  have cx' := cx.self
  obtain ⟨hx, hb, hr, hml, hown, hts, hlocks, hK⟩ := id cx
  have hbA : ¬ s.heap.size ≤ b := Nat.not_le.mpr hbl
  refine lv_aload_n hx hb dL_law_989 rfl (lv_at hl 2 rfl) ?_
  refine lv_aload_n hx hb dL_law_990 rfl (lv_at hl 3 rfl) ?_
  refine lv_iload_n hx hb dL_law_991 rfl (lv_at hl 0 rfl) ?_
  refine lv_iconst (v := 1) hx hb dL_law_992 (by decide) ?_
  refine lv_iadd hx hb dL_law_993 ?_
  refine va_sld hx hb hX hbl hbA hS (lw_in (k := 1) hi hL (by decide)) dL_law_994 ?_
  refine lv_aload_n hx hb dL_law_995 rfl (lv_at hl 3 rfl) ?_
  refine lv_iload_n hx hb dL_law_996 rfl (lv_at hl 0 rfl) ?_
  refine lv_iconst (v := 2) hx hb dL_law_997 (by decide) ?_
  refine lv_iadd hx hb dL_law_998 ?_
  refine va_sld hx hb hX hbl hbA hS (lw_in (k := 2) hi hL (by decide)) dL_law_999 ?_
  refine lv_aload_n hx hb dL_law_1000 rfl (lv_at hl 3 rfl) ?_
  refine lv_iload_n hx hb dL_law_1001 rfl (lv_at hl 0 rfl) ?_
  refine lv_iconst (v := 3) hx hb dL_law_1002 (by decide) ?_
  refine lv_iadd hx hb dL_law_1003 ?_
  refine va_sld hx hb hX hbl hbA hS (lw_in (k := 3) hi hL (by decide)) dL_law_1004 ?_
  refine lv_aload_n hx hb dL_law_1005 rfl (lv_at hl 3 rfl) ?_
  refine lv_iload_n hx hb dL_law_1006 rfl (lv_at hl 0 rfl) ?_
  refine lv_iconst (v := 4) hx hb dL_law_1007 (by decide) ?_
  refine lv_iadd hx hb dL_law_1008 ?_
  refine va_sld hx hb hX hbl hbA hS (lw_in (k := 4) hi hL (by decide)) dL_law_1009 ?_
  refine lawX_i (S := (Nat → Mem) × MemL) (fun u => u.1) (fun u => u.2) hP hD hS hA (fun hPc hDc => run_V (b := qa 0 0) (ci := 9) (As := [.int (xs (nI i + 1).toNatClampNeg), .int (xs (nI i + 2).toNatClampNeg), .int (xs (nI i + 3).toNatClampNeg), .int (xs (nI i + 4).toNatClampNeg)]) (rest := []) cx' (c_X9_lay l H.size qa C L (xs (nI i + 1).toNatClampNeg) (xs (nI i + 2).toNatClampNeg) (xs (nI i + 3).toNatClampNeg) (xs (nI i + 4).toNatClampNeg) _ (p_lay hR (xs (nI i + 1).toNatClampNeg) (xs (nI i + 2).toNatClampNeg) (xs (nI i + 3).toNatClampNeg) (xs (nI i + 4).toNatClampNeg))) mv_X9_lay kw_621 rfl rfl ⟨by decide, by decide⟩ hPc hDc rfl rfl rfl hl.1 rfl (Nat.le_of_ble_eq_true rfl) dL_law_1010 ⟨by decide, by decide⟩) (fun r u H locs hP hD hS h => ?_)
  refine lv_aload_n hx hb dL_law_1013 rfl (lv_at hl 1 rfl) ?_
  refine lv_aload_n hx hb dL_law_1014 rfl (lv_at hl 3 rfl) ?_
  refine lv_iload_n hx hb dL_law_1015 rfl (lv_at hl 0 rfl) ?_
  refine lv_iconst (v := 1) hx hb dL_law_1016 (by decide) ?_
  refine lv_iadd hx hb dL_law_1017 ?_
  refine va_sld hx hb hX hbl hbA hS (lw_in (k := 1) hi hL (by decide)) dL_law_1018 ?_
  refine lv_aload_n hx hb dL_law_1019 rfl (lv_at hl 3 rfl) ?_
  refine lv_iload_n hx hb dL_law_1020 rfl (lv_at hl 0 rfl) ?_
  refine lv_iconst (v := 2) hx hb dL_law_1021 (by decide) ?_
  refine lv_iadd hx hb dL_law_1022 ?_
  refine va_sld hx hb hX hbl hbA hS (lw_in (k := 2) hi hL (by decide)) dL_law_1023 ?_
  refine lv_aload_n hx hb dL_law_1024 rfl (lv_at hl 3 rfl) ?_
  refine lv_iload_n hx hb dL_law_1025 rfl (lv_at hl 0 rfl) ?_
  refine lv_iconst (v := 3) hx hb dL_law_1026 (by decide) ?_
  refine lv_iadd hx hb dL_law_1027 ?_
  refine va_sld hx hb hX hbl hbA hS (lw_in (k := 3) hi hL (by decide)) dL_law_1028 ?_
  refine lv_aload_n hx hb dL_law_1029 rfl (lv_at hl 3 rfl) ?_
  refine lv_iload_n hx hb dL_law_1030 rfl (lv_at hl 0 rfl) ?_
  refine lv_iconst (v := 4) hx hb dL_law_1031 (by decide) ?_
  refine lv_iadd hx hb dL_law_1032 ?_
  refine va_sld hx hb hX hbl hbA hS (lw_in (k := 4) hi hL (by decide)) dL_law_1033 ?_
  refine lawM_i (S := Mem) (fun u => u) hP hD hS hA (fun hPc hDc => run_V (b := q0 0) (ci := 10) (As := [.int (xs (nI i + 1).toNatClampNeg), .int (xs (nI i + 2).toNatClampNeg), .int (xs (nI i + 3).toNatClampNeg), .int (xs (nI i + 4).toNatClampNeg)]) (rest := [.int r]) cx' (c_X10_lay l H.size q0 M (xs (nI i + 1).toNatClampNeg) (xs (nI i + 2).toNatClampNeg) (xs (nI i + 3).toNatClampNeg) (xs (nI i + 4).toNatClampNeg) _ h) mv_X10_lay kw_808 rfl rfl ⟨by decide, by decide⟩ hPc hDc rfl rfl rfl hl.1 rfl (Nat.le_of_ble_eq_true rfl) dL_law_1034 ⟨by decide, by decide⟩) (fun r2 u2 H locs hP hD hS h2 => ?_)
  refine lv_icmp_eq (tgt := 1218) hx hb dL_law_1037 (by decide) (fun _ => K _ _ _ _ _ hP hD hS h2.2) (fun q9 => absurd h2.1 q9)
set_option maxRecDepth 20000 in
theorem lop_29 {p : Program} {l : Launch} {e : Env} {s : State} {m : MethodId} {below : List Frame} {meth : Method} {c : Code} {b : Nat} {Q : State → Prop} {dC : Nat → ClassId} {dI : Nat → Nat → Nat} {cI cJ : ClassId} {qa : Nat → Nat → Nat} {q0 : Nat → Nat} {Ln i : Nat} {xs : Nat → Int32} (cx : CX RL cL_law ret 4 p s m #[Value.ref b] meth c (dC, dI) (TY cI cJ)) (hX : va_X b Ln xs s s.heap) (hbl : b < s.heap.size) (hi : i + 6 ≤ Ln) (hL : Ln ≤ 384) (hA : ∀ q, s.heap.size ≤ q → (fun q => s.heap.size ≤ q) q) (C : Nat → Mem) (L : MemL) (M : Mem) (hR : REL C M) (H : Heap) (locs : List Loc) (ls : Array Slot) (hP : va_P (dC, dI) vwCl (wL cI cJ qa q0 C L M) H) (hD : va_D (fun q => s.heap.size ≤ q) (wL cI cJ qa q0 C L M)) (hS : va_S (fun q => s.heap.size ≤ q) s.heap H locs) (hl : lv_has ls 4 [(3, .int (nI i)), (2, .ref (q0 0)), (1, .ref (qa 0 0)), (0, .ref b)]) (K : ∀ (C : Nat → Mem) (L : MemL) (M : Mem) (H : Heap) (locs : List Loc), va_P (dC, dI) vwCl (wL cI cJ qa q0 C L M) H → va_D (fun q => s.heap.size ≤ q) (wL cI cJ qa q0 C L M) → va_S (fun q => s.heap.size ≤ q) s.heap H locs → REL C M → W p l e room_1 s m #[Value.ref b] below meth c H locs 57 1337 Q (F0 m 1218 ls [])) : W p l e room_1 s m #[Value.ref b] below meth c H locs 57 1337 Q (F0 m 1042 ls []) := by
  have cx' := cx.self
  obtain ⟨hx, hb, hr, hml, hown, hts, hlocks, hK⟩ := id cx
  have hbA : ¬ s.heap.size ≤ b := Nat.not_le.mpr hbl
  refine lv_aload_n hx hb dL_law_1042 rfl (lv_at hl 2 rfl) ?_
  refine lv_aload_n hx hb dL_law_1043 rfl (lv_at hl 3 rfl) ?_
  refine lv_iload_n hx hb dL_law_1044 rfl (lv_at hl 0 rfl) ?_
  refine lv_iconst (v := 1) hx hb dL_law_1045 (by decide) ?_
  refine lv_iadd hx hb dL_law_1046 ?_
  refine va_sld hx hb hX hbl hbA hS (lw_in (k := 1) hi hL (by decide)) dL_law_1047 ?_
  refine lv_aload_n hx hb dL_law_1048 rfl (lv_at hl 3 rfl) ?_
  refine lv_iload_n hx hb dL_law_1049 rfl (lv_at hl 0 rfl) ?_
  refine lv_iconst (v := 2) hx hb dL_law_1050 (by decide) ?_
  refine lv_iadd hx hb dL_law_1051 ?_
  refine va_sld hx hb hX hbl hbA hS (lw_in (k := 2) hi hL (by decide)) dL_law_1052 ?_
  refine lv_aload_n hx hb dL_law_1053 rfl (lv_at hl 3 rfl) ?_
  refine lv_iload_n hx hb dL_law_1054 rfl (lv_at hl 0 rfl) ?_
  refine lv_iconst (v := 3) hx hb dL_law_1055 (by decide) ?_
  refine lv_iadd hx hb dL_law_1056 ?_
  refine va_sld hx hb hX hbl hbA hS (lw_in (k := 3) hi hL (by decide)) dL_law_1057 ?_
  refine lawX_i (S := (Nat → Mem) × MemL) (fun u => u.1) (fun u => u.2) hP hD hS hA (fun hPc hDc => run_V (b := qa 0 0) (ci := 9) (As := [.int (xs (nI i + 1).toNatClampNeg), .int (xs (nI i + 2).toNatClampNeg), .int (xs (nI i + 3).toNatClampNeg)]) (rest := []) cx' (c_X9_get l H.size qa C L (xs (nI i + 1).toNatClampNeg) (xs (nI i + 2).toNatClampNeg) (xs (nI i + 3).toNatClampNeg) _ (p_get hR (xs (nI i + 1).toNatClampNeg) (xs (nI i + 2).toNatClampNeg) (xs (nI i + 3).toNatClampNeg))) mv_X9_get kw_633 rfl rfl ⟨by decide, by decide⟩ hPc hDc rfl rfl rfl hl.1 rfl (Nat.le_of_ble_eq_true rfl) dL_law_1058 ⟨by decide, by decide⟩) (fun r u H locs hP hD hS h => ?_)
  refine lv_aload_n hx hb dL_law_1061 rfl (lv_at hl 1 rfl) ?_
  refine lv_aload_n hx hb dL_law_1062 rfl (lv_at hl 3 rfl) ?_
  refine lv_iload_n hx hb dL_law_1063 rfl (lv_at hl 0 rfl) ?_
  refine lv_iconst (v := 1) hx hb dL_law_1064 (by decide) ?_
  refine lv_iadd hx hb dL_law_1065 ?_
  refine va_sld hx hb hX hbl hbA hS (lw_in (k := 1) hi hL (by decide)) dL_law_1066 ?_
  refine lv_aload_n hx hb dL_law_1067 rfl (lv_at hl 3 rfl) ?_
  refine lv_iload_n hx hb dL_law_1068 rfl (lv_at hl 0 rfl) ?_
  refine lv_iconst (v := 2) hx hb dL_law_1069 (by decide) ?_
  refine lv_iadd hx hb dL_law_1070 ?_
  refine va_sld hx hb hX hbl hbA hS (lw_in (k := 2) hi hL (by decide)) dL_law_1071 ?_
  refine lv_aload_n hx hb dL_law_1072 rfl (lv_at hl 3 rfl) ?_
  refine lv_iload_n hx hb dL_law_1073 rfl (lv_at hl 0 rfl) ?_
  refine lv_iconst (v := 3) hx hb dL_law_1074 (by decide) ?_
  refine lv_iadd hx hb dL_law_1075 ?_
  refine va_sld hx hb hX hbl hbA hS (lw_in (k := 3) hi hL (by decide)) dL_law_1076 ?_
  refine lawM_i (S := Mem) (fun u => u) hP hD hS hA (fun hPc hDc => run_V (b := q0 0) (ci := 10) (As := [.int (xs (nI i + 1).toNatClampNeg), .int (xs (nI i + 2).toNatClampNeg), .int (xs (nI i + 3).toNatClampNeg)]) (rest := [.int r]) cx' (c_X10_get l H.size q0 M (xs (nI i + 1).toNatClampNeg) (xs (nI i + 2).toNatClampNeg) (xs (nI i + 3).toNatClampNeg) _ h) mv_X10_get kw_819 rfl rfl ⟨by decide, by decide⟩ hPc hDc rfl rfl rfl hl.1 rfl (Nat.le_of_ble_eq_true rfl) dL_law_1077 ⟨by decide, by decide⟩) (fun r2 u2 H locs hP hD hS h2 => ?_)
  refine lv_icmp_eq (tgt := 1218) hx hb dL_law_1080 (by decide) (fun _ => K _ _ _ _ _ hP hD hS h2.2) (fun q9 => absurd h2.1 q9)
set_option maxRecDepth 20000 in
theorem lop_30 {p : Program} {l : Launch} {e : Env} {s : State} {m : MethodId} {below : List Frame} {meth : Method} {c : Code} {b : Nat} {Q : State → Prop} {dC : Nat → ClassId} {dI : Nat → Nat → Nat} {cI cJ : ClassId} {qa : Nat → Nat → Nat} {q0 : Nat → Nat} {Ln i : Nat} {xs : Nat → Int32} (cx : CX RL cL_law ret 4 p s m #[Value.ref b] meth c (dC, dI) (TY cI cJ)) (hX : va_X b Ln xs s s.heap) (hbl : b < s.heap.size) (hi : i + 6 ≤ Ln) (hL : Ln ≤ 384) (hA : ∀ q, s.heap.size ≤ q → (fun q => s.heap.size ≤ q) q) (C : Nat → Mem) (L : MemL) (M : Mem) (hR : REL C M) (H : Heap) (locs : List Loc) (ls : Array Slot) (hP : va_P (dC, dI) vwCl (wL cI cJ qa q0 C L M) H) (hD : va_D (fun q => s.heap.size ≤ q) (wL cI cJ qa q0 C L M)) (hS : va_S (fun q => s.heap.size ≤ q) s.heap H locs) (hl : lv_has ls 4 [(3, .int (nI i)), (2, .ref (q0 0)), (1, .ref (qa 0 0)), (0, .ref b)]) (K : ∀ (C : Nat → Mem) (L : MemL) (M : Mem) (H : Heap) (locs : List Loc), va_P (dC, dI) vwCl (wL cI cJ qa q0 C L M) H → va_D (fun q => s.heap.size ≤ q) (wL cI cJ qa q0 C L M) → va_S (fun q => s.heap.size ≤ q) s.heap H locs → REL C M → W p l e room_1 s m #[Value.ref b] below meth c H locs 57 1337 Q (F0 m 1218 ls [])) : W p l e room_1 s m #[Value.ref b] below meth c H locs 57 1337 Q (F0 m 1085 ls []) := by
  have cx' := cx.self
  obtain ⟨hx, hb, hr, hml, hown, hts, hlocks, hK⟩ := id cx
  have hbA : ¬ s.heap.size ≤ b := Nat.not_le.mpr hbl
  refine lv_aload_n hx hb dL_law_1085 rfl (lv_at hl 2 rfl) ?_
  refine lv_aload_n hx hb dL_law_1086 rfl (lv_at hl 3 rfl) ?_
  refine lv_iload_n hx hb dL_law_1087 rfl (lv_at hl 0 rfl) ?_
  refine lv_iconst (v := 1) hx hb dL_law_1088 (by decide) ?_
  refine lv_iadd hx hb dL_law_1089 ?_
  refine va_sld hx hb hX hbl hbA hS (lw_in (k := 1) hi hL (by decide)) dL_law_1090 ?_
  refine lv_aload_n hx hb dL_law_1091 rfl (lv_at hl 3 rfl) ?_
  refine lv_iload_n hx hb dL_law_1092 rfl (lv_at hl 0 rfl) ?_
  refine lv_iconst (v := 2) hx hb dL_law_1093 (by decide) ?_
  refine lv_iadd hx hb dL_law_1094 ?_
  refine va_sld hx hb hX hbl hbA hS (lw_in (k := 2) hi hL (by decide)) dL_law_1095 ?_
  refine lv_aload_n hx hb dL_law_1096 rfl (lv_at hl 3 rfl) ?_
  refine lv_iload_n hx hb dL_law_1097 rfl (lv_at hl 0 rfl) ?_
  refine lv_iconst (v := 3) hx hb dL_law_1098 (by decide) ?_
  refine lv_iadd hx hb dL_law_1099 ?_
  refine va_sld hx hb hX hbl hbA hS (lw_in (k := 3) hi hL (by decide)) dL_law_1100 ?_
  refine lv_aload_n hx hb dL_law_1101 rfl (lv_at hl 3 rfl) ?_
  refine lv_iload_n hx hb dL_law_1102 rfl (lv_at hl 0 rfl) ?_
  refine lv_iconst (v := 4) hx hb dL_law_1103 (by decide) ?_
  refine lv_iadd hx hb dL_law_1104 ?_
  refine va_sld hx hb hX hbl hbA hS (lw_in (k := 4) hi hL (by decide)) dL_law_1105 ?_
  refine lv_aload_n hx hb dL_law_1106 rfl (lv_at hl 3 rfl) ?_
  refine lv_iload_n hx hb dL_law_1107 rfl (lv_at hl 0 rfl) ?_
  refine lv_iconst (v := 5) hx hb dL_law_1108 (by decide) ?_
  refine lv_iadd hx hb dL_law_1109 ?_
  refine va_sld hx hb hX hbl hbA hS (lw_in (k := 5) hi hL (by decide)) dL_law_1110 ?_
  refine lawX_i (S := (Nat → Mem) × MemL) (fun u => u.1) (fun u => u.2) hP hD hS hA (fun hPc hDc => run_V (b := qa 0 0) (ci := 9) (As := [.int (xs (nI i + 1).toNatClampNeg), .int (xs (nI i + 2).toNatClampNeg), .int (xs (nI i + 3).toNatClampNeg), .int (xs (nI i + 4).toNatClampNeg), .int (xs (nI i + 5).toNatClampNeg)]) (rest := []) cx' (c_X9_copy l H.size qa C L (xs (nI i + 1).toNatClampNeg) (xs (nI i + 2).toNatClampNeg) (xs (nI i + 3).toNatClampNeg) (xs (nI i + 4).toNatClampNeg) (xs (nI i + 5).toNatClampNeg) _ (p_copy hR (xs (nI i + 1).toNatClampNeg) (xs (nI i + 2).toNatClampNeg) (xs (nI i + 3).toNatClampNeg) (xs (nI i + 4).toNatClampNeg) (xs (nI i + 5).toNatClampNeg))) mv_X9_copy kw_638 rfl rfl ⟨by decide, by decide⟩ hPc hDc rfl rfl rfl hl.1 rfl (Nat.le_of_ble_eq_true rfl) dL_law_1111 ⟨by decide, by decide⟩) (fun r u H locs hP hD hS h => ?_)
  refine lv_aload_n hx hb dL_law_1114 rfl (lv_at hl 1 rfl) ?_
  refine lv_aload_n hx hb dL_law_1115 rfl (lv_at hl 3 rfl) ?_
  refine lv_iload_n hx hb dL_law_1116 rfl (lv_at hl 0 rfl) ?_
  refine lv_iconst (v := 1) hx hb dL_law_1117 (by decide) ?_
  refine lv_iadd hx hb dL_law_1118 ?_
  refine va_sld hx hb hX hbl hbA hS (lw_in (k := 1) hi hL (by decide)) dL_law_1119 ?_
  refine lv_aload_n hx hb dL_law_1120 rfl (lv_at hl 3 rfl) ?_
  refine lv_iload_n hx hb dL_law_1121 rfl (lv_at hl 0 rfl) ?_
  refine lv_iconst (v := 2) hx hb dL_law_1122 (by decide) ?_
  refine lv_iadd hx hb dL_law_1123 ?_
  refine va_sld hx hb hX hbl hbA hS (lw_in (k := 2) hi hL (by decide)) dL_law_1124 ?_
  refine lv_aload_n hx hb dL_law_1125 rfl (lv_at hl 3 rfl) ?_
  refine lv_iload_n hx hb dL_law_1126 rfl (lv_at hl 0 rfl) ?_
  refine lv_iconst (v := 3) hx hb dL_law_1127 (by decide) ?_
  refine lv_iadd hx hb dL_law_1128 ?_
  refine va_sld hx hb hX hbl hbA hS (lw_in (k := 3) hi hL (by decide)) dL_law_1129 ?_
  refine lv_aload_n hx hb dL_law_1130 rfl (lv_at hl 3 rfl) ?_
  refine lv_iload_n hx hb dL_law_1131 rfl (lv_at hl 0 rfl) ?_
  refine lv_iconst (v := 4) hx hb dL_law_1132 (by decide) ?_
  refine lv_iadd hx hb dL_law_1133 ?_
  refine va_sld hx hb hX hbl hbA hS (lw_in (k := 4) hi hL (by decide)) dL_law_1134 ?_
  refine lv_aload_n hx hb dL_law_1135 rfl (lv_at hl 3 rfl) ?_
  refine lv_iload_n hx hb dL_law_1136 rfl (lv_at hl 0 rfl) ?_
  refine lv_iconst (v := 5) hx hb dL_law_1137 (by decide) ?_
  refine lv_iadd hx hb dL_law_1138 ?_
  refine va_sld hx hb hX hbl hbA hS (lw_in (k := 5) hi hL (by decide)) dL_law_1139 ?_
  refine lawM_i (S := Mem) (fun u => u) hP hD hS hA (fun hPc hDc => run_V (b := q0 0) (ci := 10) (As := [.int (xs (nI i + 1).toNatClampNeg), .int (xs (nI i + 2).toNatClampNeg), .int (xs (nI i + 3).toNatClampNeg), .int (xs (nI i + 4).toNatClampNeg), .int (xs (nI i + 5).toNatClampNeg)]) (rest := [.int r]) cx' (c_X10_copy l H.size q0 M (xs (nI i + 1).toNatClampNeg) (xs (nI i + 2).toNatClampNeg) (xs (nI i + 3).toNatClampNeg) (xs (nI i + 4).toNatClampNeg) (xs (nI i + 5).toNatClampNeg) _ h) mv_X10_copy kw_824 rfl rfl ⟨by decide, by decide⟩ hPc hDc rfl rfl rfl hl.1 rfl (Nat.le_of_ble_eq_true rfl) dL_law_1140 ⟨by decide, by decide⟩) (fun r2 u2 H locs hP hD hS h2 => ?_)
  refine lv_icmp_eq (tgt := 1218) hx hb dL_law_1143 (by decide) (fun _ => K _ _ _ _ _ hP hD hS h2.2) (fun q9 => absurd h2.1 q9)
set_option maxRecDepth 20000 in
theorem lop_31 {p : Program} {l : Launch} {e : Env} {s : State} {m : MethodId} {below : List Frame} {meth : Method} {c : Code} {b : Nat} {Q : State → Prop} {dC : Nat → ClassId} {dI : Nat → Nat → Nat} {cI cJ : ClassId} {qa : Nat → Nat → Nat} {q0 : Nat → Nat} {Ln i : Nat} {xs : Nat → Int32} (cx : CX RL cL_law ret 4 p s m #[Value.ref b] meth c (dC, dI) (TY cI cJ)) (hX : va_X b Ln xs s s.heap) (hbl : b < s.heap.size) (hi : i + 6 ≤ Ln) (hL : Ln ≤ 384) (hA : ∀ q, s.heap.size ≤ q → (fun q => s.heap.size ≤ q) q) (C : Nat → Mem) (L : MemL) (M : Mem) (hR : REL C M) (H : Heap) (locs : List Loc) (ls : Array Slot) (hP : va_P (dC, dI) vwCl (wL cI cJ qa q0 C L M) H) (hD : va_D (fun q => s.heap.size ≤ q) (wL cI cJ qa q0 C L M)) (hS : va_S (fun q => s.heap.size ≤ q) s.heap H locs) (hl : lv_has ls 4 [(3, .int (nI i)), (2, .ref (q0 0)), (1, .ref (qa 0 0)), (0, .ref b)]) (K : ∀ (C : Nat → Mem) (L : MemL) (M : Mem) (H : Heap) (locs : List Loc), va_P (dC, dI) vwCl (wL cI cJ qa q0 C L M) H → va_D (fun q => s.heap.size ≤ q) (wL cI cJ qa q0 C L M) → va_S (fun q => s.heap.size ≤ q) s.heap H locs → REL C M → W p l e room_1 s m #[Value.ref b] below meth c H locs 57 1337 Q (F0 m 1218 ls [])) : W p l e room_1 s m #[Value.ref b] below meth c H locs 57 1337 Q (F0 m 1148 ls []) := by
  have cx' := cx.self
  obtain ⟨hx, hb, hr, hml, hown, hts, hlocks, hK⟩ := id cx
  have hbA : ¬ s.heap.size ≤ b := Nat.not_le.mpr hbl
  refine lv_aload_n hx hb dL_law_1148 rfl (lv_at hl 2 rfl) ?_
  refine lv_aload_n hx hb dL_law_1149 rfl (lv_at hl 3 rfl) ?_
  refine lv_iload_n hx hb dL_law_1150 rfl (lv_at hl 0 rfl) ?_
  refine lv_iconst (v := 1) hx hb dL_law_1151 (by decide) ?_
  refine lv_iadd hx hb dL_law_1152 ?_
  refine va_sld hx hb hX hbl hbA hS (lw_in (k := 1) hi hL (by decide)) dL_law_1153 ?_
  refine lv_aload_n hx hb dL_law_1154 rfl (lv_at hl 3 rfl) ?_
  refine lv_iload_n hx hb dL_law_1155 rfl (lv_at hl 0 rfl) ?_
  refine lv_iconst (v := 2) hx hb dL_law_1156 (by decide) ?_
  refine lv_iadd hx hb dL_law_1157 ?_
  refine va_sld hx hb hX hbl hbA hS (lw_in (k := 2) hi hL (by decide)) dL_law_1158 ?_
  refine lawX_i (S := (Nat → Mem) × MemL) (fun u => u.1) (fun u => u.2) hP hD hS hA (fun hPc hDc => run_V (b := qa 0 0) (ci := 9) (As := [.int (xs (nI i + 1).toNatClampNeg), .int (xs (nI i + 2).toNatClampNeg)]) (rest := []) cx' (c_X9_write l H.size qa C L (xs (nI i + 1).toNatClampNeg) (xs (nI i + 2).toNatClampNeg) _ (p_write hR (xs (nI i + 1).toNatClampNeg) (xs (nI i + 2).toNatClampNeg))) mv_X9_write kw_653 rfl rfl ⟨by decide, by decide⟩ hPc hDc rfl rfl rfl hl.1 rfl (Nat.le_of_ble_eq_true rfl) dL_law_1159 ⟨by decide, by decide⟩) (fun r u H locs hP hD hS h => ?_)
  refine lv_aload_n hx hb dL_law_1162 rfl (lv_at hl 1 rfl) ?_
  refine lv_aload_n hx hb dL_law_1163 rfl (lv_at hl 3 rfl) ?_
  refine lv_iload_n hx hb dL_law_1164 rfl (lv_at hl 0 rfl) ?_
  refine lv_iconst (v := 1) hx hb dL_law_1165 (by decide) ?_
  refine lv_iadd hx hb dL_law_1166 ?_
  refine va_sld hx hb hX hbl hbA hS (lw_in (k := 1) hi hL (by decide)) dL_law_1167 ?_
  refine lv_aload_n hx hb dL_law_1168 rfl (lv_at hl 3 rfl) ?_
  refine lv_iload_n hx hb dL_law_1169 rfl (lv_at hl 0 rfl) ?_
  refine lv_iconst (v := 2) hx hb dL_law_1170 (by decide) ?_
  refine lv_iadd hx hb dL_law_1171 ?_
  refine va_sld hx hb hX hbl hbA hS (lw_in (k := 2) hi hL (by decide)) dL_law_1172 ?_
  refine lawM_i (S := Mem) (fun u => u) hP hD hS hA (fun hPc hDc => run_V (b := q0 0) (ci := 10) (As := [.int (xs (nI i + 1).toNatClampNeg), .int (xs (nI i + 2).toNatClampNeg)]) (rest := [.int r]) cx' (c_X10_write l H.size q0 M (xs (nI i + 1).toNatClampNeg) (xs (nI i + 2).toNatClampNeg) _ h) mv_X10_write kw_1090 rfl rfl ⟨by decide, by decide⟩ hPc hDc rfl rfl rfl hl.1 rfl (Nat.le_of_ble_eq_true rfl) dL_law_1173 ⟨by decide, by decide⟩) (fun r2 u2 H locs hP hD hS h2 => ?_)
  refine lv_icmp_eq (tgt := 1218) hx hb dL_law_1176 (by decide) (fun _ => K _ _ _ _ _ hP hD hS h2.2) (fun q9 => absurd h2.1 q9)
set_option maxRecDepth 20000 in
theorem lop_32 {p : Program} {l : Launch} {e : Env} {s : State} {m : MethodId} {below : List Frame} {meth : Method} {c : Code} {b : Nat} {Q : State → Prop} {dC : Nat → ClassId} {dI : Nat → Nat → Nat} {cI cJ : ClassId} {qa : Nat → Nat → Nat} {q0 : Nat → Nat} {Ln i : Nat} {xs : Nat → Int32} (cx : CX RL cL_law ret 4 p s m #[Value.ref b] meth c (dC, dI) (TY cI cJ)) (hX : va_X b Ln xs s s.heap) (hbl : b < s.heap.size) (hi : i + 6 ≤ Ln) (hL : Ln ≤ 384) (hA : ∀ q, s.heap.size ≤ q → (fun q => s.heap.size ≤ q) q) (C : Nat → Mem) (L : MemL) (M : Mem) (hR : REL C M) (H : Heap) (locs : List Loc) (ls : Array Slot) (hP : va_P (dC, dI) vwCl (wL cI cJ qa q0 C L M) H) (hD : va_D (fun q => s.heap.size ≤ q) (wL cI cJ qa q0 C L M)) (hS : va_S (fun q => s.heap.size ≤ q) s.heap H locs) (hl : lv_has ls 4 [(3, .int (nI i)), (2, .ref (q0 0)), (1, .ref (qa 0 0)), (0, .ref b)]) (K : ∀ (C : Nat → Mem) (L : MemL) (M : Mem) (H : Heap) (locs : List Loc), va_P (dC, dI) vwCl (wL cI cJ qa q0 C L M) H → va_D (fun q => s.heap.size ≤ q) (wL cI cJ qa q0 C L M) → va_S (fun q => s.heap.size ≤ q) s.heap H locs → REL C M → W p l e room_1 s m #[Value.ref b] below meth c H locs 57 1337 Q (F0 m 1218 ls [])) : W p l e room_1 s m #[Value.ref b] below meth c H locs 57 1337 Q (F0 m 1181 ls []) := by
  have cx' := cx.self
  obtain ⟨hx, hb, hr, hml, hown, hts, hlocks, hK⟩ := id cx
  have hbA : ¬ s.heap.size ≤ b := Nat.not_le.mpr hbl
  refine lv_aload_n hx hb dL_law_1181 rfl (lv_at hl 2 rfl) ?_
  refine lv_aload_n hx hb dL_law_1182 rfl (lv_at hl 3 rfl) ?_
  refine lv_iload_n hx hb dL_law_1183 rfl (lv_at hl 0 rfl) ?_
  refine lv_iconst (v := 1) hx hb dL_law_1184 (by decide) ?_
  refine lv_iadd hx hb dL_law_1185 ?_
  refine va_sld hx hb hX hbl hbA hS (lw_in (k := 1) hi hL (by decide)) dL_law_1186 ?_
  refine lawX_i (S := Unit) (fun _ => C) (fun _ => L) hP hD hS hA (fun hPc hDc => run_V (b := qa 0 0) (ci := 9) (As := [.int (xs (nI i + 1).toNatClampNeg)]) (rest := []) cx' (c_X9_count l H.size qa C L (xs (nI i + 1).toNatClampNeg) _ (p_count hR (xs (nI i + 1).toNatClampNeg))) mv_X9_count kw_658 rfl rfl ⟨by decide, by decide⟩ hPc hDc rfl rfl rfl hl.1 rfl (Nat.le_of_ble_eq_true rfl) dL_law_1187 ⟨by decide, by decide⟩) (fun r u H locs hP hD hS h => ?_)
  refine lv_aload_n hx hb dL_law_1190 rfl (lv_at hl 1 rfl) ?_
  refine lv_aload_n hx hb dL_law_1191 rfl (lv_at hl 3 rfl) ?_
  refine lv_iload_n hx hb dL_law_1192 rfl (lv_at hl 0 rfl) ?_
  refine lv_iconst (v := 1) hx hb dL_law_1193 (by decide) ?_
  refine lv_iadd hx hb dL_law_1194 ?_
  refine va_sld hx hb hX hbl hbA hS (lw_in (k := 1) hi hL (by decide)) dL_law_1195 ?_
  refine lawM_i (S := Mem) (fun u => u) hP hD hS hA (fun hPc hDc => run_V (b := q0 0) (ci := 10) (As := [.int (xs (nI i + 1).toNatClampNeg)]) (rest := [.int r]) cx' (c_X10_count l H.size q0 M (xs (nI i + 1).toNatClampNeg) _ h) mv_X10_count kw_1094 rfl rfl ⟨by decide, by decide⟩ hPc hDc rfl rfl rfl hl.1 rfl (Nat.le_of_ble_eq_true rfl) dL_law_1196 ⟨by decide, by decide⟩) (fun r2 u2 H locs hP hD hS h2 => ?_)
  refine lv_icmp_eq (tgt := 1218) hx hb dL_law_1199 (by decide) (fun _ => K _ _ _ _ _ hP hD hS h2.2) (fun q9 => absurd h2.1 q9)
set_option maxRecDepth 20000 in
theorem lop_33 {p : Program} {l : Launch} {e : Env} {s : State} {m : MethodId} {below : List Frame} {meth : Method} {c : Code} {b : Nat} {Q : State → Prop} {dC : Nat → ClassId} {dI : Nat → Nat → Nat} {cI cJ : ClassId} {qa : Nat → Nat → Nat} {q0 : Nat → Nat} {Ln i : Nat} {xs : Nat → Int32} (cx : CX RL cL_law ret 4 p s m #[Value.ref b] meth c (dC, dI) (TY cI cJ)) (hX : va_X b Ln xs s s.heap) (hbl : b < s.heap.size) (hi : i + 6 ≤ Ln) (hL : Ln ≤ 384) (hA : ∀ q, s.heap.size ≤ q → (fun q => s.heap.size ≤ q) q) (C : Nat → Mem) (L : MemL) (M : Mem) (hR : REL C M) (H : Heap) (locs : List Loc) (ls : Array Slot) (hP : va_P (dC, dI) vwCl (wL cI cJ qa q0 C L M) H) (hD : va_D (fun q => s.heap.size ≤ q) (wL cI cJ qa q0 C L M)) (hS : va_S (fun q => s.heap.size ≤ q) s.heap H locs) (hl : lv_has ls 4 [(3, .int (nI i)), (2, .ref (q0 0)), (1, .ref (qa 0 0)), (0, .ref b)]) (K : ∀ (C : Nat → Mem) (L : MemL) (M : Mem) (H : Heap) (locs : List Loc), va_P (dC, dI) vwCl (wL cI cJ qa q0 C L M) H → va_D (fun q => s.heap.size ≤ q) (wL cI cJ qa q0 C L M) → va_S (fun q => s.heap.size ≤ q) s.heap H locs → REL C M → W p l e room_1 s m #[Value.ref b] below meth c H locs 57 1337 Q (F0 m 1218 ls [])) : W p l e room_1 s m #[Value.ref b] below meth c H locs 57 1337 Q (F0 m 1204 ls []) := by
  have cx' := cx.self
  obtain ⟨hx, hb, hr, hml, hown, hts, hlocks, hK⟩ := id cx
  have hbA : ¬ s.heap.size ≤ b := Nat.not_le.mpr hbl
  refine lv_aload_n hx hb dL_law_1204 rfl (lv_at hl 2 rfl) ?_
  refine lawX_l (S := (Nat → Mem) × MemL) (fun u => u.1) (fun u => u.2) hP hD hS hA (fun hPc hDc => run_V (b := qa 0 0) (ci := 9) (As := []) (rest := []) cx' (c_X9_digest l H.size qa C L _ (p_digest hR)) mv_X9_digest kw_670 rfl rfl ⟨by decide, by decide⟩ hPc hDc rfl rfl rfl hl.1 rfl (Nat.le_of_ble_eq_true rfl) dL_law_1205 ⟨by decide, by decide⟩) (fun r u H locs hP hD hS h => ?_)
  refine lv_aload_n hx hb dL_law_1208 rfl (lv_at hl 1 rfl) ?_
  refine lawM_l (S := Mem) (fun u => u) hP hD hS hA (fun hPc hDc => run_V (b := q0 0) (ci := 10) (As := []) (rest := [.long r]) cx' (c_X10_digest l H.size q0 M _ h) mv_X10_digest kw_1106 rfl rfl ⟨by decide, by decide⟩ hPc hDc rfl rfl rfl hl.1 rfl (Nat.le_of_ble_eq_true rfl) dL_law_1209 ⟨by decide, by decide⟩) (fun r2 u2 H locs hP hD hS h2 => ?_)
  refine W.lcmp hx hb dL_law_1212 ?_
  refine lv_if_eq (tgt := 1218) hx hb dL_law_1213 (by decide) (fun _ => K _ _ _ _ _ hP hD hS h2.2) (fun q9 => absurd (by rw [cmp_eq]; exact h2.1) q9)
