-- what the class holds at rest
def INVC (C : Nat → Mem) (n0 n1 : Nat) : Prop := TXT true 31 n0 (C 1) ∧ TXT false 47 n1 (C 2) ∧ ROWP (C 1 1) (NHb (C 1 1) n0) (C 3 0 5) (C 3 0 6) (C 3) ∧ GSTP (C 2 1) (NGb (C 2 1) n1) (C 4) ∧ FEAST (WAYS (C 3) (C 4)) (NGb (C 2 1) n1) (C 5)
def HRNG (C : Nat → Mem) (h : Nat) : Prop := (∃ k, k ≤ 3 ∧ C 3 1 h = nI k) ∧ (∃ p, p ≤ 9 ∧ C 3 2 h = nI p) ∧ (∃ p, p ≤ 9 ∧ C 3 3 h = nI p)
def GRNG (C : Nat → Mem) (g : Nat) : Prop := (∃ a, a ≤ 99 ∧ C 4 1 g = nI a) ∧ (∃ b, b < 8 ∧ C 4 2 g = nI b) ∧ (C 4 3 g = 0 ∨ C 4 3 g = 1) ∧ (∃ t, t ≤ 9 ∧ C 4 4 g = nI t)
def CS (C : Nat → Mem) (N G : Nat) : Prop := G ≤ 8 ∧ ROK N (C 3) ∧ C 4 0 4 = nI G ∧ FEAST (WAYS (C 3) (C 4)) G (C 5) ∧ (∀ h, h < N → HRNG C h) ∧ (∀ g, g < G → GRNG C g) ∧ ∀ p, p < N → C 3 4 p = ordI (C 3 0 5) N p
theorem ordI_rng {tu : Int32} {N p : Nat} (h : p < N) : ∃ j, j < N ∧ ordI tu N p = nI j := by
  unfold ordI
  split
  · exact ⟨N - 1 - p, by omega, rfl⟩
  · exact ⟨p, h, rfl⟩
theorem fitH_at {b : Nat → Int32} {n h : Nat} (hh : h < NHb b n) {k : Nat} (hk : k < 4) : 4 * h + k ≤ n ∧ (4 * h + k < n → fitH k (b (h * 4 + k)) = true) := by
  obtain ⟨h1, h2, h3⟩ := NTH_lt (st := 4) hh (by omega)
  refine ⟨by omega, fun q => ?_⟩
  have := pre_ok h3 (h * 4 + k) (by omega)
  unfold okT fitT stT at this
  simp only [if_true] at this
  rw [show (h * 4 + k) % 4 = k by omega] at this
  exact this
theorem fitG_at {b : Nat → Int32} {n g : Nat} (hg : g < NGb b n) {k : Nat} (hk : k < 5) : fitG k (b (g * 6 + k)) = true := by
  obtain ⟨h1, h2, h3⟩ := NTH_lt (st := 6) hg (by omega)
  have := pre_ok h3 (g * 6 + k) (by omega)
  unfold okT fitT stT at this
  simp only [Bool.false_eq_true, if_false] at this
  rw [show (g * 6 + k) % 6 = k by omega] at this
  exact this
theorem INVC.cs {C : Nat → Mem} {n0 n1 : Nat} (h : INVC C n0 n1) : CS C (NHb (C 1 1) n0) (NGb (C 2 1) n1) := by
  obtain ⟨hT0, hT1, hR, hG, hF⟩ := h
  have hN8 := NHb_le (b := C 1 1) hT0.2.2.2.1
  have hG8 := NGb_le (b := C 2 1) hT1.2.2.2.1
  refine ⟨hG8, ⟨hN8, hR.1, fun p hp => ?_⟩, hG.1, hF, fun h hh => ?_, fun g hg => ?_, fun p hp => (hR.2.2.2 p hp).2.2.2⟩
  · rw [(hR.2.2.2 p hp).2.2.2]
    exact ordI_rng hp
  · obtain ⟨r1, r2, r3, r4⟩ := hR.2.2.2 h hh
    have l3 := (NTH_lt (st := 4) hh (by omega)).1
    have f0 := (fitH_at hh (k := 0) (by omega)).2 (by omega)
    have f1 := (fitH_at hh (k := 1) (by omega)).2 (by omega)
    have f2 := (fitH_at hh (k := 2) (by omega)).2 (by omega)
    obtain ⟨d0, hd0, e0⟩ := vH_rng (by omega) f0
    obtain ⟨d1, hd1, e1⟩ := vH_rng (by omega) f1
    obtain ⟨d2, hd2, e2⟩ := vH_rng (by omega) f2
    refine ⟨?_, ⟨d1, hd1, ?_⟩, ⟨d2, hd2, ?_⟩⟩
    · rw [r1]
      unfold hk
      simp only [fitH, if_true, decide_eq_true_eq] at f0
      rcases kdI_rng (C 1 1 (h * 4)) with q | q
      · exact absurd q f0
      · exact q
    · rw [r2]; exact e1
    · rw [r3]; exact e2
  · obtain ⟨r1, r2, r3, r4⟩ := hG.2 g hg
    have f0 := fitG_at hg (k := 0) (by omega)
    have f1 := fitG_at hg (k := 1) (by omega)
    have f2 := fitG_at hg (k := 2) (by omega)
    have f4 := fitG_at hg (k := 4) (by omega)
    obtain ⟨d0, hd0, e0⟩ := vG_rng (by omega) f0
    obtain ⟨d1, hd1, e1⟩ := vG_rng (by omega) f1
    obtain ⟨d4, hd4, e4⟩ := vG_rng (by omega) f4
    refine ⟨⟨10 * d0 + d1, by omega, ?_⟩, ?_, ?_, ⟨d4, hd4, ?_⟩⟩
    · rw [r1]
      unfold gh
      have e0' : C 2 1 (g * 6) - 48 = nI d0 := e0
      have e1' : C 2 1 (g * 6 + 1) - 48 = nI d1 := e1
      rw [e0', e1', show (10 : Int32) = nI 10 from rfl, pk_mul, nI_add]
    · rw [r2]
      simp [fitG] at f2
      obtain ⟨d, a1, a2, e⟩ := fig_of (l := 48) (u := 55) rfl rfl f2.1 f2.2 (by omega) (by omega)
      refine ⟨d - 48, by omega, ?_⟩
      unfold gb
      rw [e, show (48 : Int32) = nI 48 from rfl, pk_sub (by omega)]
    · rw [r3]
      unfold gd
      split
      · exact Or.inr rfl
      · exact Or.inl rfl
    · rw [r4]; exact e4
theorem e_refresh {C : Nat → Mem} {L : MemL} {n0 n1 : Nat} (hT0 : TXT true 31 n0 (C 1)) (hT1 : TXT false 47 n1 (C 2)) {post : (Nat → Mem) → MemL → Prop} (h : ∀ C', INVC C' n0 n1 → (∀ g, g ≠ 3 → g ≠ 4 → g ≠ 5 → g ≠ 10 → C' g = C g) → C' 3 0 5 = C 3 0 5 → C' 3 0 6 = C 3 0 6 → post C' L) : wp_X9_refresh C L post := by
  unfold wp_X9_refresh b_X9_refresh_0
  refine e_rowParse hT0 (fun r hr C2 e2 => ?_)
  have c22 : C2 2 = C 2 := by rw [e2]; rfl
  have c23 : C2 3 = r := by rw [e2]; rfl
  rw [c22]
  refine e_guestParse hT1 (fun gs hgs C4 e4 => ?_)
  have c43 : C4 3 = r := by rw [e4]; exact c23
  have c44 : C4 4 = gs := by rw [e4]; rfl
  rw [c43, c44]
  have hN8 := NHb_le (b := C 1 1) hT0.2.2.2.1
  have hG8 := NGb_le (b := C 2 1) hT1.2.2.2.1
  refine e_hold (N := NHb (C 1 1) n0) ⟨hN8, hr.1, fun p hp => ?_⟩ hgs.1 hG8 (fun f w hf C7 e7 => ?_)
  · rw [(hr.2.2.2 p hp).2.2.2]
    exact ordI_rng hp
  · have c73 : C7 3 = r := by rw [e7]; exact c43
    have c74 : C7 4 = gs := by rw [e7]; exact c44
    have c75 : C7 5 = f := by rw [e7]; rfl
    have c7 : ∀ g, g ≠ 3 → g ≠ 4 → g ≠ 5 → g ≠ 10 → C7 g = C g := fun g h3 h4 h5 h10 => by
      rw [e7, up3_n _ h10, up3_n _ h5, e4, up3_n _ h4, e2, up3_n _ h3]
    have c71 : C7 1 = C 1 := c7 1 (by decide) (by decide) (by decide) (by decide)
    have c72 : C7 2 = C 2 := c7 2 (by decide) (by decide) (by decide) (by decide)
    refine h C7 ?_ c7 (by rw [c73]; exact hr.2.1) (by rw [c73]; exact hr.2.2.1)
    unfold INVC
    rw [c71, c72, c73, c74, c75, hr.2.1, hr.2.2.1]
    exact ⟨hT0, hT1, hr, hgs, hf⟩
-- what class and reference hold alike
def SHT (C : Nat → Mem) (M : Mem) (s : Nat) : Prop := (C 7 3 s = (-1) ∧ M 1 s = (-1)) ∨ ∃ z f, z ≤ 60 ∧ f ≤ 2 ∧ C 7 3 s = nI z ∧ M 2 s = nI z ∧ C 7 2 s = nI f ∧ M 1 s = nI f ∧ ∀ i, i < z → C 7 1 (60 * s + i) = M 3 (60 * s + i)
def SGT (C : Nat → Mem) (M : Mem) : Prop := ∃ k, k ≤ 8 ∧ C 6 0 2 = nI k ∧ M 0 21 = nI k ∧ ∀ i, i < k → C 6 1 i = M 16 (2 * i) ∧ C 6 2 i = M 16 (2 * i + 1)
def STT (C : Nat → Mem) (M : Mem) : Prop := (C 3 0 5 = 0 ∨ C 3 0 5 = 1) ∧ (∃ e, e < 256 ∧ C 3 0 6 = nI e) ∧ M 9 0 = C 3 0 5 ∧ M 9 1 = C 3 0 6
def TXM (C : Nat → Mem) (M : Mem) (n0 n1 : Nat) : Prop := M 6 0 = nI n0 ∧ M 6 1 = nI n1 ∧ (∀ i, i < n0 → M 5 i = C 1 1 i) ∧ ∀ i, i < n1 → M 5 (48 + i) = C 2 1 i
def REL (C : Nat → Mem) (M : Mem) : Prop := ∃ n0 n1, INVC C n0 n1 ∧ TXM C M n0 n1 ∧ STT C M ∧ SGT C M ∧ (∀ s, s < 4 → SHT C M s) ∧ M 0 4 = C 0 0 11
def MF (M M' : Mem) : Prop := M' 1 = M 1 ∧ M' 2 = M 2 ∧ M' 3 = M 3 ∧ M' 5 = M 5 ∧ M' 6 = M 6 ∧ M' 9 = M 9 ∧ M' 16 = M 16 ∧ M' 0 4 = M 0 4 ∧ M' 0 21 = M 0 21
theorem MF_rf (M : Mem) : MF M M := ⟨rfl, rfl, rfl, rfl, rfl, rfl, rfl, rfl, rfl⟩
theorem MF_tr {A B D : Mem} (h : MF A B) (k : MF B D) : MF A D := by
  obtain ⟨a1, a2, a3, a4, a5, a6, a7, a8, a9⟩ := h
  obtain ⟨b1, b2, b3, b4, b5, b6, b7, b8, b9⟩ := k
  exact ⟨b1.trans a1, b2.trans a2, b3.trans a3, b4.trans a4, b5.trans a5, b6.trans a6, b7.trans a7, b8.trans a8, b9.trans a9⟩
theorem FRA.mf {M M' : Mem} (h : FRA M M') : MF M M' := ⟨h 1 (by omega), h 2 (by omega), h 3 (by omega), h 5 (by omega), h 6 (by omega), h 9 (by omega), h 16 (by omega), by rw [h 0 (by omega)], by rw [h 0 (by omega)]⟩
theorem MFx.mf {c0 s0 : Nat} {M M' : Mem} (h : MFx c0 s0 M M') (hc : c0 = 7 ∨ c0 = 8) (hs : s0 = 7 ∨ s0 = 9) : MF M M' :=
  ⟨h.1 1 (by omega) (by omega), h.1 2 (by omega) (by omega), h.1 3 (by omega) (by omega), h.1 5 (by omega) (by omega), h.1 6 (by omega) (by omega), h.1 9 (by omega) (by omega), h.1 16 (by omega) (by omega), h.2 4 (by omega), h.2 21 (by omega)⟩
theorem mf10 {M M' : Mem} (h : ∀ c, c ≠ 10 → M' c = M c) : MF M M' := ⟨h 1 (by omega), h 2 (by omega), h 3 (by omega), h 5 (by omega), h 6 (by omega), h 9 (by omega), h 16 (by omega), by rw [h 0 (by omega)], by rw [h 0 (by omega)]⟩
theorem REL.mf {C : Nat → Mem} {M M' : Mem} (h : REL C M) (k : MF M M') : REL C M' := by
  obtain ⟨n0, n1, h1, h2, h3, h4, h5, h6⟩ := h
  obtain ⟨b1, b2, b3, b4, b5, b6, b7, b8, b9⟩ := k
  refine ⟨n0, n1, h1, ?_, ?_, ?_, fun s hs => ?_, by rw [b8]; exact h6⟩
  · unfold TXM; rw [b4, b5]; exact h2
  · unfold STT; rw [b6]; exact h3
  · unfold SGT; rw [b7, b9]; exact h4
  · unfold SHT; rw [b1, b2, b3]; exact h5 s hs
def CORE (K C : Nat → Mem) : Prop := ∀ g, g < 8 → C g = K g
theorem CORE_rf (C : Nat → Mem) : CORE C C := fun _ _ => rfl
theorem CORE.up {K C : Nat → Mem} (h : CORE K C) {g : Nat} (hg : 8 ≤ g) (m : Mem) : CORE K (up3 C g m) := fun a ha => (up3_n C (by omega)).trans (h a ha)
theorem REL.core {K C : Nat → Mem} {M : Mem} (h : REL K M) (k : CORE K C) : REL C M := by
  unfold REL INVC TXM STT SGT SHT
  rw [k 0 (by omega), k 1 (by omega), k 2 (by omega), k 3 (by omega), k 4 (by omega), k 5 (by omega), k 6 (by omega), k 7 (by omega)]
  exact h
theorem CS.core {K C : Nat → Mem} {N G : Nat} (h : CS K N G) (k : CORE K C) : CS C N G := by
  unfold CS HRNG GRNG
  rw [k 3 (by omega), k 4 (by omega), k 5 (by omega)]
  exact h
-- the reference behind find()
def FND (C : Nat → Mem) (N G : Nat) (M : Mem) : Prop := M 0 7 = nI N ∧ M 0 9 = nI G ∧ (∀ h, h < N → M 7 (3 * h) = C 3 1 h ∧ M 7 (3 * h + 1) = C 3 2 h ∧ M 7 (3 * h + 2) = C 3 3 h ∧ M 10 h = C 3 4 h) ∧ (∀ g, g < G → M 8 (4 * g) = C 4 1 g ∧ M 8 (4 * g + 1) = C 4 2 g ∧ M 8 (4 * g + 2) = C 4 3 g ∧ M 8 (4 * g + 3) = C 4 4 g) ∧ (∀ g, g < G → FEDM g (WAYS (C 3) (C 4) g) M) ∧ M 9 0 = C 3 0 5 ∧ M 9 1 = C 3 0 6
/-- tables of the reference as those of a Row and of the Guests: the ways are the same -/
theorem FEEDM_row {N : Nat} {M R Gs : Mem} {g : Nat} (hR : ROK N R) (h7 : M 0 7 = nI N) (h9 : M 9 1 = R 0 6) (ht : ∀ h, h < N → M 7 (3 * h) = R 1 h ∧ M 7 (3 * h + 1) = R 2 h ∧ M 10 h = R 4 h) (hg : M 8 (4 * g) = Gs 1 g ∧ M 8 (4 * g + 1) = Gs 2 g ∧ M 8 (4 * g + 2) = Gs 3 g ∧ M 8 (4 * g + 3) = Gs 4 g) : FEEDM M g = WAYS R Gs g := by
  unfold FEEDM WAYS FEEDR
  rw [hg.1, hg.2.1, hg.2.2.1, hg.2.2.2, h7, h9, hR.2.1]
  exact FEED_cong hR.1 (fun p hp => ⟨(ht p hp).2.2, by rw [(ht p hp).2.2]; exact hR.2.2 p hp⟩) (fun h hh => ⟨(ht h hh).1, (ht h hh).2.1⟩) 8 _ _
theorem e_reads {C : Nat → Mem} {M : Mem} (hR : REL C M) {post : Mem → Prop} (h : ∀ n0 n1 M', INVC C n0 n1 → MF M M' → HV (C 1 1) (NHb (C 1 1) n0) M' → GV (C 2 1) (NGb (C 2 1) n1) M' → (∀ p, p < NHb (C 1 1) n0 → M' 10 p = C 3 4 p) → post M') : wp_X10_reads M post := by
  obtain ⟨n0, n1, hI, ⟨t0, t1, t2, t3⟩, ⟨s1, s2, s3, s4⟩, -, -, -⟩ := id hR
  obtain ⟨hT0, hT1, hRw, hGs, hF⟩ := id hI
  have hn0 : n0 ≤ 31 := hT0.2.2.2.1
  have hn1 : n1 ≤ 47 := hT1.2.2.2.1
  have hok : ∀ j, j < n0 → okT true (M 5) j = okT true (C 1 1) j := fun j hj => by unfold okT; rw [t2 j hj]
  have hNe : NHb (M 5) n0 = NHb (C 1 1) n0 := NTH_cong hok
  unfold wp_X10_reads b_X10_reads_0
  refine e_readsHouses t0 hn0 (fun M1 hv hf1 => e_readsGuests (b := C 2 1) (fun i hi => by rw [hf1.1 5 (by decide) (by decide)]; exact t3 i hi) (by rw [hf1.1 6 (by decide) (by decide)]; exact t1) hn1 (fun M2 hg hf2 => ?_))
  have hv2 : HV (C 1 1) (NHb (C 1 1) n0) M2 := by
    rw [← hNe]
    refine ⟨by rw [hf2.2 7 (by decide)]; exact hv.1, fun a ha => ?_⟩
    obtain ⟨q1, q2, q3⟩ := hv.2 a ha
    have hl := (NTH_lt (st := 4) ha (by omega)).1
    unfold HVk
    rw [hf2.1 7 (by decide) (by decide), q1, q2, q3]
    unfold hk hp hc
    rw [t2 _ (by omega), t2 _ (by omega), t2 _ (by omega)]
    exact ⟨rfl, rfl, rfl⟩
  refine e_findRow (NHb_le hn0) hv2.1 (fun M3 h10 hrow => h n0 n1 M3 hI (MF_tr (MF_tr (hf1.mf (by omega) (by omega)) (hf2.mf (by omega) (by omega))) (mf10 h10)) ?_ ?_ ?_)
  · refine ⟨by rw [h10 0 (by decide)]; exact hv2.1, fun a ha => ?_⟩
    unfold HVk
    rw [h10 7 (by decide)]
    exact hv2.2 a ha
  · refine ⟨by rw [h10 0 (by decide)]; exact hg.1, fun a ha => ?_⟩
    unfold GVk
    rw [h10 8 (by decide)]
    exact hg.2 a ha
  · intro p hp
    rw [hrow p hp, (hRw.2.2.2 p hp).2.2.2]
    congr 1
    rw [hf2.1 9 (by decide) (by decide), hf1.1 9 (by decide) (by decide)]
    exact s3
theorem e_find {C : Nat → Mem} {M : Mem} (hR : REL C M) {post : Mem → Prop} (h : ∀ N G M', CS C N G → MF M M' → FND C N G M' → post M') : wp_X10_find M post := by
  unfold wp_X10_find b_X10_find_0
  refine e_reads hR (fun n0 n1 M1 hI hf1 hv hg hrow => ?_)
  have hcs := hI.cs
  obtain ⟨hG8, hROK, hG4, hFe, hH, hGr, ho⟩ := id hcs
  obtain ⟨hT0, hT1, hRw, hGs, hF⟩ := id hI
  obtain ⟨_, _, _, _, ⟨s1, s2, s3, s4⟩, -, -, -⟩ := id hR
  have m90 : M1 9 = M 9 := hf1.2.2.2.2.2.1
  have hgt : ∀ g, g < NGb (C 2 1) n1 → M1 8 (4 * g) = C 4 1 g ∧ M1 8 (4 * g + 1) = C 4 2 g ∧ M1 8 (4 * g + 2) = C 4 3 g ∧ M1 8 (4 * g + 3) = C 4 4 g := fun g hg' => by
    obtain ⟨q1, q2, q3, q4⟩ := hg.2 g hg'
    obtain ⟨r1, r2, r3, r4⟩ := hGs.2 g hg'
    exact ⟨q1.trans r1.symm, q2.trans r2.symm, q3.trans r3.symm, q4.trans r4.symm⟩
  have hht : ∀ a, a < NHb (C 1 1) n0 → M1 7 (3 * a) = C 3 1 a ∧ M1 7 (3 * a + 1) = C 3 2 a ∧ M1 7 (3 * a + 2) = C 3 3 a ∧ M1 10 a = C 3 4 a := fun a ha => by
    obtain ⟨q1, q2, q3⟩ := hv.2 a ha
    obtain ⟨r1, r2, r3, r4⟩ := hRw.2.2.2 a ha
    exact ⟨q1.trans r1.symm, q2.trans r2.symm, q3.trans r3.symm, hrow a ha⟩
  refine e_feedsAll (N := NHb (C 1 1) n0) ⟨hROK.1, hv.1, fun p hp => by rw [hrow p hp]; exact hROK.2.2 p hp⟩ hg.1 hG8 (fun g hg' => by
    obtain ⟨b, hb, e⟩ := (hGr g hg').2.1
    exact ⟨b, hb, by rw [(hgt g hg').2.1]; exact e⟩) (fun M2 hfr hfed => h _ _ M2 hcs (MF_tr hf1 hfr.mf) ?_)
  refine ⟨by rw [hfr 0 (by omega)]; exact hv.1, by rw [hfr 0 (by omega)]; exact hg.1, ?_, ?_, fun g hg' => ?_, by rw [hfr 9 (by omega), m90]; exact s3, by rw [hfr 9 (by omega), m90]; exact s4⟩
  · rw [hfr 7 (by omega), hfr 10 (by omega)]; exact hht
  · rw [hfr 8 (by omega)]; exact hgt
  · have := hfed g hg'
    rw [FEEDM_row hROK hv.1 (by rw [m90]; exact s4) (fun a ha => ⟨(hht a ha).1, (hht a ha).2.1, (hht a ha).2.2.2⟩) (hgt g hg')] at this
    exact this
