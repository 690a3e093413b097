/-! THE CLAIM OUT OF ONE WALK OF THE LAW'S BODY. Your part is whole_start (and what it stands on); all else here is the same for every law, but numbers. -/
def R_law : String := "TurnFeastLaw"
def lw_P (b : Addr) (xs : List Int32) (args : Array Value) (s : State) : Prop := args = #[.ref b] ∧ s.IntsAt b xs ∧ xs.length ≤ 384 ∧ (Jvm.Cond.and given_1 narrow_1).before args s = true
def lw_Q (_ : Array Value) (s : State) (o : Outcome) (t : State) : Prop := o = .returned (some (.int 1)) ∧ Framed s o t [] 57 1337
def lw_Z (below : List Frame) (a : Array Value) (s : State) : State → Prop := fun t => ∃ o, t.status = .running ∧ Ended t below o ∧ lw_Q a s o t
/-- the law's own end, with 1 on the stack, nothing written that was there before, its room as the claim has it -/
theorem lw_ret {p : Program} {l : Launch} {e : Env} {s : State} {m : MethodId} {below : List Frame} {meth : Method} {c : Code} {b : Nat} (hx : p.tables.exec = Jvm.exec) (hb : c.code = code) (hr : meth.sig.returnType = ret) (hlocks : meth.locks = false) {pc : Nat} {H : Heap} {ls : Array Slot} (hdg : decode code pc = .ok (.ireturn, 1)) : W p l e room_1 s m #[Value.ref b] below meth c H [] 57 1337 (lw_Z below #[Value.ref b] s) (F0 m pc ls [.int 1]) := by
  intro T hT X
  obtain ⟨fs, hret, hrun, hended, hW, hframe⟩ := X.leave (v := some (.int 1)) (hlocks := hlocks) (fun h => by rw [hr] at h; cases h)
  have hmeth' : T.vm.method? m = some meth := X.method'
  refine ⟨T.setFrames fs, ?_, .returned (some (.int 1)), hrun, hended, rfl, ⟨_, rfl⟩, hW, hframe⟩
  jvm_step X.here [X.here.top, hx, hb, hdg, hmeth', hr, ret, narrow_b1]
  (try refine ⟨rfl, ?_⟩); (try refine ⟨rfl, ?_⟩)
  first | (intro acts; rw [hret _ acts rfl rfl rfl]) | rw [hret _ _ rfl rfl rfl]
  exact Steps.refl _
/-- what holds at the law's entry: the machine, the code, the tables' words (any of lw_tbl by 'hts w (by decide +kernel)'), the script of L ints xs at the cell b, what the Statement gives of the start (any of its parts by flat_of_before) -/
def lw_At (p : Program) (s : State) (m : MethodId) (meth : Method) (c : Code) (b L : Nat) (xs : Nat → Int32) : Prop :=
  p.tables.exec = Jvm.exec ∧ c.code = code ∧ meth.sig.returnType = ret ∧ c.maxLocals = 4 ∧ s.vm.findClass R_law = some m.cls ∧ (∀ w ∈ lw_tbl, w.before #[Value.ref b] s = true) ∧ va_X b L xs s s.heap ∧ b < s.heap.size ∧ meth.locks = false ∧ (Jvm.Cond.and given_1 narrow_1).before #[Value.ref b] s = true
theorem lw_gt {Ln i : Nat} (hL : Ln ≤ 384) (hi : i ≤ 400) (h : Ln < i + 6) : (Int32.ofNat Ln - 6) < nI i := by
  have e : (nI Ln - nI 6).toInt = (Ln : Int) - 6 := pk_sub_toInt (a := Ln) (b := 6) (by omega) (by omega)
  rw [i_lt, nI_toInt (by omega)]
  show (nI Ln - nI 6).toInt < (i : Int)
  rw [e]
  omega
theorem lw_loop {p : Program} {l : Launch} {e : Env} {s : State} {m : MethodId} {below : List Frame} {meth : Method} {c : Code} {b : Nat} {dC : Nat → ClassId} {dI : Nat → Nat → Nat} {cI cJ : ClassId} {qa : Nat → Nat → Nat} {q0 : Nat → Nat} {Ln : Nat} {xs : Nat → Int32} (cx : CX RL cL_law ret 4 p s m #[Value.ref b] meth c (dC, dI) (TY cI cJ)) (hX : va_X b Ln xs s s.heap) (hbl : b < s.heap.size) (hL : Ln ≤ 384) (hA : ∀ q, s.heap.size ≤ q → (fun q => s.heap.size ≤ q) q) : ∀ (n i : Nat) (C : Nat → Mem) (L : MemL) (M : Mem) (H : Heap) (locs : List Loc) (ls : Array Slot), Ln ≤ i + 6 * n → i ≤ 400 → REL C M → va_P (dC, dI) vwCl (wL cI cJ qa q0 C L M) H → va_D (fun q => s.heap.size ≤ q) (wL cI cJ qa q0 C L M) → va_S (fun q => s.heap.size ≤ q) s.heap H locs → lv_has ls 4 [(3, .int (nI i)), (2, .ref (q0 0)), (1, .ref (qa 0 0)), (0, .ref b)] → W p l e room_1 s m #[Value.ref b] below meth c H locs 57 1337 (lw_Z below #[Value.ref b] s) (F0 m 18 ls []) := by
  have hbA : ¬ s.heap.size ≤ b := Nat.not_le.mpr hbl
  obtain ⟨hx, hb, hr, hml, hown, hts, hlocks, hK⟩ := id cx
  intro n
  induction n with
  | zero =>
    intro i C L M H locs ls hn hi4 hR hP hD hS hl
    refine lv_iload_n hx hb dL_law_18 rfl (lv_at hl 0 rfl) ?_
    refine lv_aload_n hx hb dL_law_19 rfl (lv_at hl 3 rfl) ?_
    refine va_slen hx hb hX hbl hbA hS dL_law_20 ?_
    refine lv_bipush (v := 6) hx hb dL_law_21 (by decide) ?_
    refine lv_isub hx hb dL_law_23 ?_
    refine lv_icmp_gt (tgt := 1224) hx hb dL_law_24 (by decide) (fun q => ?_) (fun q => ?_)
    · refine lv_iconst (v := 1) hx hb dL_law_1224 (by decide) ?_
      exact va_forget (fun q hq => hS.2.2 q hq) (lw_ret hx hb hr hlocks dL_law_1225)
    · exact absurd (lw_gt hL hi4 (by omega)) q
  | succ n ihn =>
    intro i C L M H locs ls hn hi4 hR hP hD hS hl
    refine lv_iload_n hx hb dL_law_18 rfl (lv_at hl 0 rfl) ?_
    refine lv_aload_n hx hb dL_law_19 rfl (lv_at hl 3 rfl) ?_
    refine va_slen hx hb hX hbl hbA hS dL_law_20 ?_
    refine lv_bipush (v := 6) hx hb dL_law_21 (by decide) ?_
    refine lv_isub hx hb dL_law_23 ?_
    refine lv_icmp_gt (tgt := 1224) hx hb dL_law_24 (by decide) (fun q => ?_) (fun q => ?_)
    · refine lv_iconst (v := 1) hx hb dL_law_1224 (by decide) ?_
      exact va_forget (fun q hq => hS.2.2 q hq) (lw_ret hx hb hr hlocks dL_law_1225)
    have hi : i + 6 ≤ Ln := Classical.byContradiction (fun z => q (lw_gt hL hi4 (by omega)))
    have K : ∀ (C : Nat → Mem) (L : MemL) (M : Mem) (H : Heap) (locs : List Loc), va_P (dC, dI) vwCl (wL cI cJ qa q0 C L M) H → va_D (fun q => s.heap.size ≤ q) (wL cI cJ qa q0 C L M) → va_S (fun q => s.heap.size ≤ q) s.heap H locs → REL C M → W p l e room_1 s m #[Value.ref b] below meth c H locs 57 1337 (lw_Z below #[Value.ref b] s) (F0 m 1218 ls []) := by
      intro C L M H locs hP hD hS hR
      obtain ⟨z, ez⟩ : ∃ z : Int32, z = nI i + 6 := ⟨_, rfl⟩
      refine lv_iinc (v := z) (lv' := [(3, .int z), (2, .ref (q0 0)), (1, .ref (qa 0 0)), (0, .ref b)]) hx hb dL_law_1218 hl (k := 0) rfl (by rw [ez]; rfl) (by decide) rfl (fun ls hl => ?_)
      refine lv_goto (tgt := 18) hx hb dL_law_1221 (by decide) ?_
      have e6 : z = nI (i + 6) := by rw [ez, show (6 : Int32) = nI 6 from rfl, nI_add]
      rw [e6] at hl
      exact ihn (i + 6) C L M H locs ls (by omega) (by omega) hR hP hD hS hl
    refine lv_aload_n hx hb dL_law_27 rfl (lv_at hl 3 rfl) ?_
    refine lv_iload_n hx hb dL_law_28 rfl (lv_at hl 0 rfl) ?_
    refine va_sld hx hb hX hbl hbA hS (vp_in_nI (by omega) (by omega)) dL_law_29 ?_
    refine lv_bipush (v := 63) hx hb dL_law_30 (by decide) ?_
    refine lv_iand hx hb dL_law_32 ?_
    refine lv_topi (fun x ex => ?_)
    by_cases ho : x.toInt < 0 ∨ 33 < x.toInt
    · exact lv_tableOut hx hb dL_law_33 ho (tgt := 1218) (by decide) (K C L M H locs hP hD hS hR)
    rcases (show x.toInt = 0 ∨ x.toInt = 1 ∨ x.toInt = 2 ∨ x.toInt = 3 ∨ x.toInt = 4 ∨ x.toInt = 5 ∨ x.toInt = 6 ∨ x.toInt = 7 ∨ x.toInt = 8 ∨ x.toInt = 9 ∨ x.toInt = 10 ∨ x.toInt = 11 ∨ x.toInt = 12 ∨ x.toInt = 13 ∨ x.toInt = 14 ∨ x.toInt = 15 ∨ x.toInt = 16 ∨ x.toInt = 17 ∨ x.toInt = 18 ∨ x.toInt = 19 ∨ x.toInt = 20 ∨ x.toInt = 21 ∨ x.toInt = 22 ∨ x.toInt = 23 ∨ x.toInt = 24 ∨ x.toInt = 25 ∨ x.toInt = 26 ∨ x.toInt = 27 ∨ x.toInt = 28 ∨ x.toInt = 29 ∨ x.toInt = 30 ∨ x.toInt = 31 ∨ x.toInt = 32 ∨ x.toInt = 33 by omega) with e9 | e9 | e9 | e9 | e9 | e9 | e9 | e9 | e9 | e9 | e9 | e9 | e9 | e9 | e9 | e9 | e9 | e9 | e9 | e9 | e9 | e9 | e9 | e9 | e9 | e9 | e9 | e9 | e9 | e9 | e9 | e9 | e9 | e9
    · refine lv_tableIn (off := 151) (tgt := 184) hx hb dL_law_33 (by rw [e9]; decide) (by rw [e9]; decide) (by rw [e9]; rfl) (by decide) ?_
      exact lop_0 cx hX hbl hi hL hA C L M hR H locs ls hP hD hS hl K
    · refine lv_tableIn (off := 184) (tgt := 217) hx hb dL_law_33 (by rw [e9]; decide) (by rw [e9]; decide) (by rw [e9]; rfl) (by decide) ?_
      exact lop_1 cx hX hbl hi hL hA C L M hR H locs ls hP hD hS hl K
    · refine lv_tableIn (off := 207) (tgt := 240) hx hb dL_law_33 (by rw [e9]; decide) (by rw [e9]; decide) (by rw [e9]; rfl) (by decide) ?_
      exact lop_2 cx hX hbl hi hL hA C L M hR H locs ls hP hD hS hl K
    · refine lv_tableIn (off := 230) (tgt := 263) hx hb dL_law_33 (by rw [e9]; decide) (by rw [e9]; decide) (by rw [e9]; rfl) (by decide) ?_
      exact lop_3 cx hX hbl hi hL hA C L M hR H locs ls hP hD hS hl K
    · refine lv_tableIn (off := 253) (tgt := 286) hx hb dL_law_33 (by rw [e9]; decide) (by rw [e9]; decide) (by rw [e9]; rfl) (by decide) ?_
      exact lop_4 cx hX hbl hi hL hA C L M hR H locs ls hP hD hS hl K
    · refine lv_tableIn (off := 286) (tgt := 319) hx hb dL_law_33 (by rw [e9]; decide) (by rw [e9]; decide) (by rw [e9]; rfl) (by decide) ?_
      exact lop_5 cx hX hbl hi hL hA C L M hR H locs ls hP hD hS hl K
    · refine lv_tableIn (off := 319) (tgt := 352) hx hb dL_law_33 (by rw [e9]; decide) (by rw [e9]; decide) (by rw [e9]; rfl) (by decide) ?_
      exact lop_6 cx hX hbl hi hL hA C L M hR H locs ls hP hD hS hl K
    · refine lv_tableIn (off := 352) (tgt := 385) hx hb dL_law_33 (by rw [e9]; decide) (by rw [e9]; decide) (by rw [e9]; rfl) (by decide) ?_
      exact lop_7 cx hX hbl hi hL hA C L M hR H locs ls hP hD hS hl K
    · refine lv_tableIn (off := 375) (tgt := 408) hx hb dL_law_33 (by rw [e9]; decide) (by rw [e9]; decide) (by rw [e9]; rfl) (by decide) ?_
      exact lop_8 cx hX hbl hi hL hA C L M hR H locs ls hP hD hS hl K
    · refine lv_tableIn (off := 408) (tgt := 441) hx hb dL_law_33 (by rw [e9]; decide) (by rw [e9]; decide) (by rw [e9]; rfl) (by decide) ?_
      exact lop_9 cx hX hbl hi hL hA C L M hR H locs ls hP hD hS hl K
    · refine lv_tableIn (off := 441) (tgt := 474) hx hb dL_law_33 (by rw [e9]; decide) (by rw [e9]; decide) (by rw [e9]; rfl) (by decide) ?_
      exact lop_10 cx hX hbl hi hL hA C L M hR H locs ls hP hD hS hl K
    · refine lv_tableIn (off := 474) (tgt := 507) hx hb dL_law_33 (by rw [e9]; decide) (by rw [e9]; decide) (by rw [e9]; rfl) (by decide) ?_
      exact lop_11 cx hX hbl hi hL hA C L M hR H locs ls hP hD hS hl K
    · refine lv_tableIn (off := 497) (tgt := 530) hx hb dL_law_33 (by rw [e9]; decide) (by rw [e9]; decide) (by rw [e9]; rfl) (by decide) ?_
      exact lop_12 cx hX hbl hi hL hA C L M hR H locs ls hP hD hS hl K
    · refine lv_tableIn (off := 510) (tgt := 543) hx hb dL_law_33 (by rw [e9]; decide) (by rw [e9]; decide) (by rw [e9]; rfl) (by decide) ?_
      exact lop_13 cx hX hbl hi hL hA C L M hR H locs ls hP hD hS hl K
    · refine lv_tableIn (off := 523) (tgt := 556) hx hb dL_law_33 (by rw [e9]; decide) (by rw [e9]; decide) (by rw [e9]; rfl) (by decide) ?_
      exact lop_14 cx hX hbl hi hL hA C L M hR H locs ls hP hD hS hl K
    · refine lv_tableIn (off := 556) (tgt := 589) hx hb dL_law_33 (by rw [e9]; decide) (by rw [e9]; decide) (by rw [e9]; rfl) (by decide) ?_
      exact lop_15 cx hX hbl hi hL hA C L M hR H locs ls hP hD hS hl K
    · refine lv_tableIn (off := 589) (tgt := 622) hx hb dL_law_33 (by rw [e9]; decide) (by rw [e9]; decide) (by rw [e9]; rfl) (by decide) ?_
      exact lop_16 cx hX hbl hi hL hA C L M hR H locs ls hP hD hS hl K
    · refine lv_tableIn (off := 632) (tgt := 665) hx hb dL_law_33 (by rw [e9]; decide) (by rw [e9]; decide) (by rw [e9]; rfl) (by decide) ?_
      exact lop_17 cx hX hbl hi hL hA C L M hR H locs ls hP hD hS hl K
    · refine lv_tableIn (off := 665) (tgt := 698) hx hb dL_law_33 (by rw [e9]; decide) (by rw [e9]; decide) (by rw [e9]; rfl) (by decide) ?_
      exact lop_18 cx hX hbl hi hL hA C L M hR H locs ls hP hD hS hl K
    · refine lv_tableIn (off := 698) (tgt := 731) hx hb dL_law_33 (by rw [e9]; decide) (by rw [e9]; decide) (by rw [e9]; rfl) (by decide) ?_
      exact lop_19 cx hX hbl hi hL hA C L M hR H locs ls hP hD hS hl K
    · refine lv_tableIn (off := 711) (tgt := 744) hx hb dL_law_33 (by rw [e9]; decide) (by rw [e9]; decide) (by rw [e9]; rfl) (by decide) ?_
      exact lop_20 cx hX hbl hi hL hA C L M hR H locs ls hP hD hS hl K
    · refine lv_tableIn (off := 734) (tgt := 767) hx hb dL_law_33 (by rw [e9]; decide) (by rw [e9]; decide) (by rw [e9]; rfl) (by decide) ?_
      exact lop_21 cx hX hbl hi hL hA C L M hR H locs ls hP hD hS hl K
    · refine lv_tableIn (off := 747) (tgt := 780) hx hb dL_law_33 (by rw [e9]; decide) (by rw [e9]; decide) (by rw [e9]; rfl) (by decide) ?_
      exact lop_22 cx hX hbl hi hL hA C L M hR H locs ls hP hD hS hl K
    · refine lv_tableIn (off := 770) (tgt := 803) hx hb dL_law_33 (by rw [e9]; decide) (by rw [e9]; decide) (by rw [e9]; rfl) (by decide) ?_
      exact lop_23 cx hX hbl hi hL hA C L M hR H locs ls hP hD hS hl K
    · refine lv_tableIn (off := 783) (tgt := 816) hx hb dL_law_33 (by rw [e9]; decide) (by rw [e9]; decide) (by rw [e9]; rfl) (by decide) ?_
      exact lop_24 cx hX hbl hi hL hA C L M hR H locs ls hP hD hS hl K
    · refine lv_tableIn (off := 837) (tgt := 870) hx hb dL_law_33 (by rw [e9]; decide) (by rw [e9]; decide) (by rw [e9]; rfl) (by decide) ?_
      exact lop_25 cx hX hbl hi hL hA C L M hR H locs ls hP hD hS hl K
    · refine lv_tableIn (off := 890) (tgt := 923) hx hb dL_law_33 (by rw [e9]; decide) (by rw [e9]; decide) (by rw [e9]; rfl) (by decide) ?_
      exact lop_26 cx hX hbl hi hL hA C L M hR H locs ls hP hD hS hl K
    · refine lv_tableIn (off := 933) (tgt := 966) hx hb dL_law_33 (by rw [e9]; decide) (by rw [e9]; decide) (by rw [e9]; rfl) (by decide) ?_
      exact lop_27 cx hX hbl hi hL hA C L M hR H locs ls hP hD hS hl K
    · refine lv_tableIn (off := 956) (tgt := 989) hx hb dL_law_33 (by rw [e9]; decide) (by rw [e9]; decide) (by rw [e9]; rfl) (by decide) ?_
      exact lop_28 cx hX hbl hi hL hA C L M hR H locs ls hP hD hS hl K
    · refine lv_tableIn (off := 1009) (tgt := 1042) hx hb dL_law_33 (by rw [e9]; decide) (by rw [e9]; decide) (by rw [e9]; rfl) (by decide) ?_
      exact lop_29 cx hX hbl hi hL hA C L M hR H locs ls hP hD hS hl K
    · refine lv_tableIn (off := 1052) (tgt := 1085) hx hb dL_law_33 (by rw [e9]; decide) (by rw [e9]; decide) (by rw [e9]; rfl) (by decide) ?_
      exact lop_30 cx hX hbl hi hL hA C L M hR H locs ls hP hD hS hl K
    · refine lv_tableIn (off := 1115) (tgt := 1148) hx hb dL_law_33 (by rw [e9]; decide) (by rw [e9]; decide) (by rw [e9]; rfl) (by decide) ?_
      exact lop_31 cx hX hbl hi hL hA C L M hR H locs ls hP hD hS hl K
    · refine lv_tableIn (off := 1148) (tgt := 1181) hx hb dL_law_33 (by rw [e9]; decide) (by rw [e9]; decide) (by rw [e9]; rfl) (by decide) ?_
      exact lop_32 cx hX hbl hi hL hA C L M hR H locs ls hP hD hS hl K
    · refine lv_tableIn (off := 1171) (tgt := 1204) hx hb dL_law_33 (by rw [e9]; decide) (by rw [e9]; decide) (by rw [e9]; rfl) (by decide) ?_
      exact lop_33 cx hX hbl hi hL hA C L M hR H locs ls hP hD hS hl K
theorem whole_start {p : Program} {e : Env} {s : State} {m : MethodId} {below : List Frame} {meth : Method} {c : Code} (l : Launch) {b L : Nat} {xs : Nat → Int32} (hL : L ≤ 384) (C0 : lw_At p s m meth c b L xs) : W p l e room_1 s m #[Value.ref b] below meth c s.heap [] 0 0 (lw_Z below #[Value.ref b] s) (entryFrame m ([Value.ref b] : List Value).toArray 4) := by
  obtain ⟨hx, hb, hret, hml, hown, hts, hX, hbl, hlocks, hgv⟩ := C0
  have hg : ∀ w ∈ gt, w.before #[Value.ref b] s = true := gt_all hts
  obtain ⟨c0, i0, k0⟩ := u_known hg i_X0 (hg _ kw_192)
  obtain ⟨c1, i1, k1⟩ := u_known hg i_X1 (hg _ kw_117)
  obtain ⟨c2, i2, k2⟩ := u_known hg i_X2 (hg _ kw_85)
  obtain ⟨c3, i3, k3⟩ := u_known hg i_X3 (hg _ kw_247)
  obtain ⟨c4, i4, k4⟩ := u_known hg i_X4 (hg _ kw_46)
  obtain ⟨c5, i5, k5⟩ := u_known hg i_X5 (hg _ kw_174)
  obtain ⟨c6, i6, k6⟩ := u_known hg i_X6 (hg _ kw_155)
  obtain ⟨c7, i7, k7⟩ := u_known hg i_X7 (hg _ kw_24)
  obtain ⟨c8, i8, k8⟩ := u_known hg i_X8 (hg _ kw_211)
  obtain ⟨c9, i9, k9⟩ := u_known hg i_X9 (hg _ kw_16)
  obtain ⟨c10, i10, k10⟩ := u_known hg i_X10 (hg _ kw_710)
  obtain ⟨cI, kA, comp, f1, f2, f3⟩ := Cond.arrayClass_spec (hg _ kw_44)
  obtain ⟨cJ, kB, comq, g1, g2, g3⟩ := Cond.arrayClass_spec (hg _ kw_209)
  obtain ⟨dC, dI, hK⟩ : ∃ (dC : Nat → ClassId) (dI : Nat → Nat → Nat), va_K (dC, dI) vwCl (TY cI cJ) s := by
    refine ⟨fun c => match c with | 0 => c0 | 1 => c1 | 2 => c2 | 3 => c3 | 4 => c4 | 5 => c5 | 6 => c6 | 7 => c7 | 8 => c8 | 9 => c9 | _ => c10, fun c => match c with | 0 => i0 | 1 => i1 | 2 => i2 | 3 => i3 | 4 => i4 | 5 => i5 | 6 => i6 | 7 => i7 | 8 => i8 | 9 => i9 | _ => i10, fun c q hq => ?_, fun k q hq => ?_⟩
    · have hc : c < 11 := (List.getElem?_eq_some_iff.mp hq).1
      rcases (show c = 0 ∨ c = 1 ∨ c = 2 ∨ c = 3 ∨ c = 4 ∨ c = 5 ∨ c = 6 ∨ c = 7 ∨ c = 8 ∨ c = 9 ∨ c = 10 by omega) with rfl | rfl | rfl | rfl | rfl | rfl | rfl | rfl | rfl | rfl | rfl <;> (cases hq; assumption)
    · have hc : k < 2 := (List.getElem?_eq_some_iff.mp hq).1
      rcases (show k = 0 ∨ k = 1 by omega) with rfl | rfl
      · cases hq
        exact ⟨fun n z => ⟨fun k h => (by cases h), kA, f2, comp, f3⟩, f1⟩
      · cases hq
        exact ⟨fun n z => ⟨fun k h => (by cases h), kB, g2, comq, g3⟩, g1⟩
  have cx : CX RL cL_law ret 4 p s m #[Value.ref b] meth c (dC, dI) (TY cI cJ) := ⟨hx, hb, hret, hml, hown, hg, hlocks, hK⟩
  have hN : ∀ w ∈ NWS, va_Nw w s := fun w hw => va_Nw.of (NWS_t w hw) (hts w (NWS_in w hw))
  have hA : ∀ q, s.heap.size ≤ q → (fun q => s.heap.size ≤ q) q := fun q h => h
  have hl := lv_entry ([.ref b]) (n := 4) (Nat.le_of_ble_eq_true rfl)
  rw [lg_entry_eq]
  generalize (lg_sl ([.ref b]) ++ List.replicate (4 - (lg_sl ([.ref b])).length) Slot.unset).toArray = ls at hl ⊢
  have hl : lv_has ls 4 [(0, .ref b)] := hl
  refine nw_o (A := fun q => s.heap.size ≤ q) (ci := 9) (fs := [.null, .null, .null, .null, .null, .null, .null, .null, .null, .null, .null, .int 0]) cx nilP nilD va_S.rf hA i_X9 tyX9 tyX9_ok kw_15 kw_16 kw_1 rfl fs_X9 (by decide) (by decide) dL_law_0 (fun q H hPn hDn hS => ?_)
  refine lv_dup hx hb dL_law_3 rfl ?_
  refine callI_v (wc := [(q, .inr (9, [.null, .null, .null, .null, .null, .null, .null, .null, .null, .null, .null, .int 0]))]) (wf := fun u => wC cI cJ u iC iX0) (k := 0) [] [] rfl rfl rfl rfl rfl hPn hDn hS hA (fun hPc hDc => run_I9 (As := []) (rest := [.ref q]) cx hN (c_X9_init l H.size q) mk_X9_init rfl mi_X9_init kw_17 rfl rfl ⟨by decide, by decide⟩ hPc hDc rfl hl.1 rfl (Nat.le_of_ble_eq_true rfl) dL_law_4 ⟨by decide, by decide⟩) (fun qa H locs hP hD hS hu => ?_)
  subst hu
  clear hPn hDn
  refine lv_astore_n (lv' := [(1, .ref (qa 0 0)), (0, .ref b)]) hx hb dL_law_7 rfl hl (by decide) rfl (fun ls hl => ?_)
  refine nw_o (ci := 10) (fs := [.null, .null, .null, .null, .int 0, .null, .null, .int 0, .null, .int 0, .null, .null, .null, .null, .null, .null, .null, .null, .int 0, .int 0, .int 0, .int 0, .null, .int 0]) cx hP hD hS hA i_X10 tyX10 tyX10_ok kw_709 kw_710 kw_11 rfl fs_X10 (by decide) (by decide) dL_law_8 (fun q H hPn hDn hS => ?_)
  refine lv_dup hx hb dL_law_11 rfl ?_
  refine callI_v (wc := [(q, .inr (10, [.null, .null, .null, .null, .int 0, .null, .null, .int 0, .null, .int 0, .null, .null, .null, .null, .null, .null, .null, .null, .int 0, .int 0, .int 0, .int 0, .null, .int 0]))]) (wf := fun u => ww_X10 cI cJ u iX10) (k := 40) (wC cI cJ qa iC iX0) [0, 1, 2, 3, 4, 5, 6, 7, 8, 9, 10, 11, 12, 13, 14, 15, 16, 17, 18, 19, 20, 21, 22, 23, 24, 25, 26, 27, 28, 29, 30, 31, 32, 33, 34, 35, 36, 37, 38, 39] rfl rfl rfl rfl rfl hPn hDn hS hA (fun hPc hDc => run_I (As := []) (rest := [.ref q]) cx (c_X10_init l H.size q) mk_X10_init rfl mi_X10_init kw_711 rfl rfl ⟨by decide, by decide⟩ hPc hDc rfl hl.1 rfl (Nat.le_of_ble_eq_true rfl) dL_law_12 ⟨by decide, by decide⟩) (fun q0 H locs hP hD hS hu => ?_)
  subst hu
  clear hPn hDn
  refine lv_astore_n (lv' := [(2, .ref (q0 0)), (1, .ref (qa 0 0)), (0, .ref b)]) hx hb dL_law_15 rfl hl (by decide) rfl (fun ls hl => ?_)
  refine lv_iconst (v := 0) hx hb dL_law_16 (by decide) ?_
  refine lv_istore_n (lv' := [(3, .int 0), (2, .ref (q0 0)), (1, .ref (qa 0 0)), (0, .ref b)]) hx hb dL_law_17 rfl hl (by decide) rfl (fun ls hl => ?_)
  refine W.widen (k := 57) (n := 1337) (by decide) (by decide) ?_
  exact lw_loop cx hX hbl hL hA 64 0 iC iX0 iX10 H locs ls (by omega) (by omega) REL_first hP hD hS hl
-- ===== YOUR PART ENDS =====
set_option maxHeartbeats 4000000 in
theorem lw_walk (l : Launch) (b : Addr) (xs : List Int32) : MetFree l x (headSpec (Jvm.Cond.code x code maxLocals ret :: tables_1) room_1) (lw_P b xs) (fun _ _ _ _ _ => True) lw_Q := by
  refine MetFree.of_bodyS (code := code) (maxLocals := maxLocals) (ret := ret) (by decide) ?_ ?_
  · intro args s m h hn
    obtain ⟨meth, c, h1, h2, h3, h4, h5, h6, -, -⟩ := Cond.code_spec hn (atoms_spec (ws := Jvm.Cond.code x code maxLocals ret :: tables_1) h _ List.mem_cons_self)
    exact ⟨meth, c, h1, h2, h3, h4, h5, h6⟩
  · intro p e s m args below meth c s₁ B hml0 hP _
    obtain ⟨rfl, hx, hbd, hgv⟩ := hP
    obtain ⟨scr, harrAt, hlist, hof, hsmall⟩ := hx
    obtain ⟨hcb, hkn, -, -⟩ := State.arrayAt?_spec harrAt
    have hown : s.vm.findClass R_law = some m.cls := findClass_of_methodNamed B.named
    have hts0 : ∀ c ∈ (Jvm.Cond.code x code maxLocals ret :: tables_1), c.before #[Value.ref b] s = true := atoms_spec (ws := Jvm.Cond.code x code maxLocals ret :: tables_1) B.pre
    have hts : ∀ w ∈ lw_tbl, w.before #[Value.ref b] s = true := k2_hts_sels lw_privs (fun w hw => hts0 w (List.mem_cons_of_mem _ hw)) lw_privs_ok
    have hml : c.maxLocals = 4 := B.maxLocals_eq (hts0 _ List.mem_cons_self)
    have X₀ : Stand p l e room_1 s m #[Value.ref b] below meth c s₁ [] 0 0 := Stand.of_body B
    have hh0 : s₁.heap = s.heap := by rw [B.state]; rfl
    have hsz : scr.slots.size = xs.length := by rw [← Array.length_toList, hlist, List.length_map]
    have hval : ∀ j : Nat, j < xs.length → scr.slots[j]? = some (.int (xs.getD j 0)) := fun j hj => by
      rw [← Array.getElem?_toList, hlist]
      simp [hj]
    have hbl : b < s.heap.size := (Array.getElem?_eq_some_iff.mp hcb).1
    have hX : va_X b xs.length (fun j => xs.getD j 0) s s.heap := ⟨scr, hcb, hof, hkn, hsz, hval⟩
    have K : W p l e room_1 s m #[Value.ref b] below meth c s₁.heap [] 0 0 (lw_Z below #[Value.ref b] s) (entryFrame m ([Value.ref b] : List Value).toArray 4) := by
      rw [hh0]
      exact whole_start l hbd ⟨B.exec, B.bytes, B.returns, hml, hown, hts, hX, hbl, B.notSynchronized, hgv⟩
    obtain ⟨t, a1, o, b1, b2, b3⟩ := K s₁ rfl X₀
    exact ⟨t, o, a1, b1, b2, b3⟩
theorem lw_pre_spec {args : Array Value} {s : State} (h : (Jvm.Cond.and given_1 narrow_1).before args s = true) (hr : rest_1_c.before args s = true) : ∃ (b : Addr) (xs : List Int32), lw_P b xs args s := by
  have hs := flat_of_before _ h
  have hq := flat_of_before _ hr
  have hc : (Cond.count 1).before args s = true := hs _ (by decide +kernel)
  have harr : (Cond.arrayOf (.arg 0) .int).before args s = true := hs _ (by decide +kernel)
  have hle : (Cond.le (.length (.arg 0)) (.int 384)).before args s = true := hs _ (by decide +kernel)
  have hlen : (Cond.isInt (.length (.arg 0))).before args s = true := hq _ (by decide +kernel)
  have hall : (Cond.all (.arg 0) (.isInt (.elem (.arg 0) (.index 0)))).before args s = true := hq _ (by decide +kernel)
  obtain ⟨b, xs, hb, hx⟩ := State.ints_of_pre rfl harr hlen hall
  have hsm : xs.length < 2 ^ 31 := hx.choose_spec.2.2.2
  have hev : (Term.length (.arg 0)).eval args s none [] s = some (.int xs.length.toInt32) := hx.length_eval hb
  have hv := Cond.le_ints hev (show (Term.int 384).eval args s none [] s = some (.int 384) from rfl)
  have hd : xs.length.toInt32 ≤ 384 := by
    simpa [Cond.before, Cond.holds, hv] using hle
  have hN : xs.length ≤ 384 := (Int32.ofNat_le_ofNat hsm (by decide)).mp (show Int32.ofNat xs.length ≤ Int32.ofNat 384 from hd)
  exact ⟨b, xs, Cond.one_arg hc (show args[0]? = some (.ref b) from hb), hx, hN, h⟩
theorem lw_comes (l : Launch) : Comes l x (Jvm.Cond.code x code maxLocals ret :: tables_1) room_1 (fun tb e args s => Calls_1 tb e args s ∧ rest_1 tb e args s ∧ Pre_1 tb e args s)
    (fun _ _ args s o t => lw_Q args s o t) := by
  intro p e ha hc hk s m args below hf hfit hheap happ hpre
  obtain ⟨b, xs, hP⟩ := lw_pre_spec hpre.2.2 hpre.2.1
  obtain ⟨k, o, h1, h2, h3, hQ⟩ := lw_walk l b xs p e ha hc hk s m args below hf ((Spec.applies_iff_loose hf).mp happ).1 hP trivial
  exact ⟨k, o, h1, h2, h3, hQ⟩
theorem lw_frame {s t : State} {o : Outcome} {args : Array Value} (h : Framed s o t [] 57 1337) :
    Framed s o t (fieldLocs frame_1_writes args s ++ arrayLocs frame_1_arrays args s ++ staticLocs frame_1_statics s) 57 1337 := h
theorem lw_limb (L : Cond) (hL : ∀ (args : Array Value) (s t : State), L.after args s (.returned (some (.int 1))) t = true) :
    ArmFor flags0 classFile x code maxLocals ret World_1 tables_1 room_1 Calls_1 rest_1 Pre_1
      (fun tb e a s o t => postC L tb e a s o t ∧ Framed s o t (fieldLocs frame_1_writes a s ++ arrayLocs frame_1_arrays a s ++ staticLocs frame_1_statics s) 57 1337) := by
  intro l _ _ _ p e ha hc hk s m args below hf hfit hheap happ hpre
  obtain ⟨k, o, h1, h2, h3, rfl, hF⟩ := lw_comes l p e ha hc hk s m args below hf hfit hheap happ hpre
  exact ⟨k, _, h1, h2, h3, hL args s _, lw_frame hF⟩
theorem i_vc : Claimed_1_1 ∧ Claimed_1_2 := ⟨lw_limb limb_1_1 (fun args s t => by simp [limb_1_1, Cond.after, Cond.holds, Cond.value]), lw_limb limb_1_2 (fun args s t => Cond.after_iff.mpr (by
  first | (rw [show limb_1_2 = Cond.eq .result (.int 1) from rfl, Cond.eq_ints (x := 1) (y := 1) rfl rfl]; simp; done) | (simp [limb_1_2, Cond.value, Term.eval]; done)))⟩
