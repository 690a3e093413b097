-- write
theorem FND_3 {C : Nat → Mem} {N G : Nat} {M M' : Mem} (h : FND C N G M) (k : ∀ c, c ≠ 3 → M' c = M c) : FND C N G M' := by
  unfold FND FEDM
  rw [k 0 (by decide), k 7 (by decide), k 8 (by decide), k 9 (by decide), k 10 (by decide), k 11 (by decide), k 12 (by decide), k 13 (by decide), k 14 (by decide), k 15 (by decide)]
  exact h
theorem FND_C {C C' : Nat → Mem} {N G : Nat} {M : Mem} (h : FND C N G M) (k3 : C' 3 = C 3) (k4 : C' 4 = C 4) : FND C' N G M := by
  unfold FND
  rw [k3, k4]
  exact h
theorem CS_C {C C' : Nat → Mem} {N G : Nat} (h : CS C N G) (k3 : C' 3 = C 3) (k4 : C' 4 = C 4) (k5 : C' 5 = C 5) : CS C' N G := by
  unfold CS HRNG GRNG
  rw [k3, k4, k5]
  exact h
/-- the value of house h that is written -/
def WV1 (C : Nat → Mem) (x1 : Int32) (h : Nat) : Int32 := if x1 = 0 then C 5 6 h else C 5 7 h
theorem c_writeLoop {C0 : Nat → Mem} {L : MemL} {x1 : Int32} {s n : Nat} (hs : s < 4) (hn : n ≤ 8) {post : Int32 → (Nat → Mem) → MemL → Prop} (h : ∀ C', (∀ g, g ≠ 7 → C' g = C0 g) → C' 7 2 = C0 7 2 → C' 7 3 = C0 7 3 → (∀ i, i < n → C' 7 1 (60 * s + i) = cutI (C0 7 2 s) (WV1 C0 x1 i)) → (∀ i, (i < 60 * s ∨ 60 * s + n ≤ i) → C' 7 1 i = C0 7 1 i) → post (nI n) C' L) : ∃ k, b_X9_write_57 post k x1 (nI s) (nI n) 0 C0 L := by
  refine loop_0 (fun k i C => b_X9_write_57 post k x1 (nI s) (nI n) (nI i) C L) (fun i C' => (∀ g, g ≠ 7 → C' g = C0 g) ∧ C' 7 2 = C0 7 2 ∧ C' 7 3 = C0 7 3 ∧ (∀ a, a < i → C' 7 1 (60 * s + a) = cutI (C0 7 2 s) (WV1 C0 x1 a)) ∧ ∀ a, (a < 60 * s ∨ 60 * s + i ≤ a) → C' 7 1 a = C0 7 1 a) n C0 ⟨fun _ _ => rfl, rfl, rfl, fun a ha => absurd ha (Nat.not_lt_zero a), fun _ _ => rfl⟩ ?_ ?_
  · intro k C' hI
    unfold b_X9_write_57
    exact ⟨fun _ => h C' hI.1 hI.2.1 hI.2.2.1 hI.2.2.2.1 hI.2.2.2.2, fun q => absurd (nI_le (Nat.le_refl n) (by omega)) q⟩
  · intro k i C' hi hI ih
    obtain ⟨hg, h2, h3, ha, hb⟩ := hI
    have vi : vp_in (nI i) 8 := vp_in_nI (by omega) (by omega)
    have fin : ∀ v : Int32, v = WV1 C0 x1 i → b_X9_write_97 post (b_X9_write_57 post k) x1 (nI s) (nI n) (nI i) v (nI i) (nI s) C' L := by
      intro v ev
      unfold b_X9_write_97
      refine e_put hs (by omega) (fun C2 e2 y ey => ?_)
      rw [ey, nI_1]
      have c7 : C2 7 = up2 (C' 7) 1 (60 * s + i) (cutI (C' 7 2 s) v) := by rw [e2]; rfl
      refine ih C2 ⟨fun g hg7 => by rw [e2, up3_n _ hg7]; exact hg g hg7, by rw [c7, up2_c _ (by decide)]; exact h2, by rw [c7, up2_c _ (by decide)]; exact h3, lt_s (fun a ha' => ?_) ?_, fun a ha' => ?_⟩
      · rw [c7, up2_i _ (by omega)]; exact ha a ha'
      · rw [c7, up2_s, ev, h2]
      · rw [c7, up2_i _ (by omega)]; exact hb a (by omega)
    unfold b_X9_write_57
    rw [nI_clamp (by omega), hg 5 (by decide)]
    refine ⟨fun q => absurd q (nI_ge hi (by omega)), fun _ => ⟨fun q => ⟨vi, fin _ ?_⟩, fun q => ⟨vi, fin _ ?_⟩⟩⟩
    · unfold WV1; rw [if_neg q]
    · unfold WV1; rw [if_pos q]
theorem m_writeLoop {C : Nat → Mem} {N G : Nat} {M0 : Mem} (hC : CS C N G) (hF : FND C N G M0) {x1 : Int32} {s n : Nat} (hs : s < 4) (hn : n ≤ 8) {post : Int32 → Mem → Prop} (h : ∀ M', (∀ c, c ≠ 3 → M' c = M0 c) → (∀ i, i < n → M' 3 (60 * s + i) = cutI (M0 1 s) (WV1 C x1 i)) → (∀ i, (i < 60 * s ∨ 60 * s + n ≤ i) → M' 3 i = M0 3 i) → post (nI n) M') : ∃ k, b_X10_write_53 post k x1 (nI s) (nI n) 0 M0 := by
  refine loop_0 (fun k i m => b_X10_write_53 post k x1 (nI s) (nI n) (nI i) m) (fun i m => (∀ c, c ≠ 3 → m c = M0 c) ∧ (∀ a, a < i → m 3 (60 * s + a) = cutI (M0 1 s) (WV1 C x1 a)) ∧ ∀ a, (a < 60 * s ∨ 60 * s + i ≤ a) → m 3 a = M0 3 a) n M0 ⟨fun _ _ => rfl, fun a ha => absurd ha (Nat.not_lt_zero a), fun _ _ => rfl⟩ ?_ ?_
  · intro k m hI
    unfold b_X10_write_53
    exact ⟨fun _ => h m hI.1 hI.2.1 hI.2.2, fun q => absurd (nI_le (Nat.le_refl n) (by omega)) q⟩
  · intro k i m hi hI ih
    unfold b_X10_write_53
    refine ⟨fun q => absurd q (nI_ge hi (by omega)), fun _ => ⟨vp_in_nI hs (by omega), e_all hC (FND_3 hF hI.1) (by omega) ?_⟩⟩
    rw [nI_clamp (by omega), hI.1 1 (by decide), e_cut, sm, nI_clamp (by omega)]
    refine ⟨vp_in_nI (by omega) (by omega), fun m4 e4 y ey => ?_⟩
    rw [ey, nI_1]
    subst e4
    refine ih _ ⟨fun c hc => by rw [up2_c _ hc]; exact hI.1 c hc, lt_s (fun a ha => ?_) ?_, fun a ha => ?_⟩
    · rw [up2_i _ (by omega)]; exact hI.2.1 a ha
    · rw [up2_s]; rfl
    · rw [up2_i _ (by omega)]; exact hI.2.2 a (by omega)
theorem p_write {C : Nat → Mem} {L : MemL} {M : Mem} (hR : REL C M) (x1 x2 : Int32) : wp_X9_write C L x1 x2 (fun r C' _ => wp_X10_write M x1 x2 (fun r' M' => r = r' ∧ REL C' M')) := by
  obtain ⟨N, G, hC⟩ := hR.cs
  have hN8 := hC.N8
  unfold wp_X9_write b_X9_write_0
  rw [e_isBit, bI_z]
  have bad : (¬ (0 ≤ x1 ∧ x1 ≤ 1) ∨ ¬ (0 ≤ x2 ∧ x2 ≤ 3)) → wp_X10_write M x1 x2 (fun r' M' => (-2) = r' ∧ REL C M') := by
    intro q
    unfold wp_X10_write b_X10_write_0
    rw [e_isTwo, bI_z]
    refine ⟨fun _ => ⟨rfl, hR⟩, fun z1 => ?_⟩
    rw [e_isSheetM, bI_z]
    exact ⟨fun z2 => (q.elim z1 z2).elim, fun _ => ⟨rfl, hR⟩⟩
  refine ⟨fun q => bad (Or.inl q), fun q1 => ?_⟩
  rw [e_isSheet, bI_z]
  refine ⟨fun q2 => ?_, fun q => bad (Or.inr q)⟩
  obtain ⟨s, hs, rfl⟩ := sh_of (Classical.not_not.mp q2)
  have vs : vp_in (nI s) 4 := vp_in_nI hs (by omega)
  have cs : (nI s).toNatClampNeg = s := nI_clamp (by omega)
  rw [e_isLost hs, bI_z]
  rcases hR.sht hs with ⟨h1, h2⟩ | ⟨z, f, hz, hf, h1, h2, h3, h4, h5⟩
  · refine ⟨fun q => absurd h1 q, fun _ => ?_⟩
    rw [e_found]
    try dsimp only
    unfold wp_X10_write b_X10_write_0
    rw [e_isTwo, bI_z]
    refine ⟨fun q => absurd q q1, fun _ => ?_⟩
    rw [e_isSheetM, bI_z, cs, h2, e_finds]
    exact ⟨fun _ => ⟨vs, fun q => absurd q (by decide), fun _ => ⟨rfl, REL_fd hR 1⟩⟩, fun q => absurd (sh_ok hs) q⟩
  refine ⟨fun _ => ⟨vs, fun x3 e3 => ?_⟩, fun q => absurd (Classical.not_not.mp q) (by rw [h1]; exact nI_ne_m1 (by omega))⟩
  obtain ⟨n, hn, hnz, hn8⟩ : ∃ n, n = (if N ≤ z then N else z) ∧ n ≤ z ∧ n ≤ 8 := ⟨_, rfl, by split <;> omega, by split <;> omega⟩
  have en : x3 = nI n := by
    rw [e3, cs, h1, hC.nH, hn]
    by_cases q : N < z
    · rw [if_pos (nI_lt q (by omega)), if_pos (by omega)]
    · rw [if_neg (nI_nlt (by omega) (by omega))]
      split
      · congr 1; omega
      · rfl
  rw [en]
  refine c_writeLoop hs hn8 (fun C' kg k2 k3 k1 kn => ?_)
  try dsimp only
  unfold wp_X10_write b_X10_write_0
  rw [e_isTwo, bI_z]
  refine ⟨fun q => absurd q q1, fun _ => ?_⟩
  rw [e_isSheetM, bI_z, cs, h4]
  refine ⟨fun _ => ⟨vs, fun _ => e_find2 hR hC (fun M1 hf1 hF1 => ⟨vs, ?_⟩), fun q => absurd (nI_pos' (by omega)) q⟩, fun q => absurd (sh_ok hs) q⟩
  rw [e_lesser, hF1.1, hf1.2.1, h2]
  have el : (if nI N ≤ nI z then nI N else nI z) = nI n := by
    rw [hn]
    by_cases q : N ≤ z
    · rw [if_pos (nI_le q (by omega)), if_pos q]
    · rw [if_neg (fun w => q ((nI_leI (by omega) (by omega)).mp w)), if_neg q]
  rw [el]
  refine m_writeLoop hC hF1 hs hn8 (fun M2 l l3 ln => ⟨rfl, ?_⟩)
  have hR1 := hR.mf hf1
  refine REL_sh hR1 (fun g hg => kg g (by omega)) (fun c hc => l c (by omega)) (fun t ht => ?_)
  by_cases e : t = s
  · subst e
    refine Or.inr ⟨z, f, hz, hf, ?_, ?_, ?_, ?_, fun i hi => ?_⟩
    · rw [k3]; exact h1
    · rw [l 2 (by decide), hf1.2.1]; exact h2
    · rw [k2]; exact h3
    · rw [l 1 (by decide), hf1.1]; exact h4
    · by_cases q : i < n
      · rw [k1 i q, l3 i q, h3, hf1.1, h4]
      · rw [kn _ (by omega), ln _ (by omega), hf1.2.2.1]; exact h5 i hi
  · refine SHT_kept (hR1.sht ht) (by rw [k2]) (by rw [k3]) (fun i hi => kn _ (by omega)) (by rw [l 1 (by decide)]) (by rw [l 2 (by decide)]) (fun i hi => ln _ (by omega))
-- count
theorem c_givenInAll {C : Nat → Mem} {L : MemL} {N G : Nat} (hC : CS C N G) {post : Int32 → Prop} (h : post (sI (fun a => C 5 6 a) N)) : wp_X9_givenInAll C L post := by
  have hN8 := hC.N8
  unfold wp_X9_givenInAll b_X9_givenInAll_0
  refine loop_0 (fun k i (s : Int32) => b_X9_givenInAll_4 C L post k s (nI i)) (fun i s => s = sI (fun a => C 5 6 a) i) N 0 rfl ?_ ?_
  · intro k s hs
    unfold b_X9_givenInAll_4
    rw [hC.nH, hs]
    exact ⟨fun _ => h, fun q => absurd (nI_le (Nat.le_refl N) (by omega)) q⟩
  · intro k i s hi hs ih
    unfold b_X9_givenInAll_4
    rw [hC.nH]
    refine ⟨fun q => absurd q (nI_ge hi (by omega)), fun _ => ⟨vp_in_nI (by omega) (by omega), fun y ey z ez => ?_⟩⟩
    rw [ez, nI_1]
    refine ih y ?_
    rw [ey, nI_clamp (by omega), hs]
    rfl
def slp (w : WS) : Int32 := if slW w = (-1) then 0 else 1
theorem c_sleepersInAll {C : Nat → Mem} {L : MemL} {N G : Nat} (hC : CS C N G) {post : Int32 → Prop} (h : post (sI (fun g => slp (WAYS (C 3) (C 4) g)) G)) : wp_X9_sleepersInAll C L post := by
  have hG8 := hC.1
  unfold wp_X9_sleepersInAll b_X9_sleepersInAll_0
  refine loop_0 (fun k i (s : Int32) => b_X9_sleepersInAll_4 C L post k s (nI i)) (fun i s => s = sI (fun g => slp (WAYS (C 3) (C 4) g)) i) G 0 rfl ?_ ?_
  · intro k s hs
    unfold b_X9_sleepersInAll_4
    rw [hC.2.2.1, hs]
    exact ⟨fun _ => h, fun q => absurd (nI_le (Nat.le_refl G) (by omega)) q⟩
  · intro k i s hi hs ih
    unfold b_X9_sleepersInAll_4 b_X9_sleepersInAll_31
    rw [hC.2.2.1, nI_clamp (by omega), (hC.fg hi).2.1]
    refine ⟨fun q => absurd q (nI_ge hi (by omega)), fun _ => ⟨vp_in_nI (by omega) (by omega), fun q y ey => ?_, fun q z ez y ey => ?_⟩⟩
    · rw [ey, nI_1]
      refine ih s ?_
      rw [hs]
      show _ = sI (fun g => slp (WAYS (C 3) (C 4) g)) i + slp (WAYS (C 3) (C 4) i)
      unfold slp
      rw [if_pos q]
      simp
    · rw [ey, nI_1]
      refine ih z ?_
      rw [ez, hs]
      show _ = sI (fun g => slp (WAYS (C 3) (C 4) g)) i + slp (WAYS (C 3) (C 4) i)
      congr 1
      unfold slp
      rw [if_neg q]
def F_count (C : Nat → Mem) (N G : Nat) (x : Int32) : Int32 := if x = 0 then C 3 0 4 else if x = 1 then C 4 0 4 else if x = 2 then C 1 0 3 else if x = 3 then C 2 0 3 else if x = 4 then sI (fun a => C 5 6 a) N else if x = 5 then sI (fun g => slp (WAYS (C 3) (C 4) g)) G else if x = 6 then C 3 0 6 else if x = 7 then C 6 0 2 else if x = 8 then C 0 0 11 else (-2)
theorem c_count {C : Nat → Mem} {L : MemL} {N G : Nat} (hC : CS C N G) {x : Int32} {post : Int32 → Prop} (h : post (F_count C N G x)) : wp_X9_count C L x post := by
  unfold wp_X9_count b_X9_count_0
  unfold F_count at h
  refine ⟨fun q => by rw [if_pos q] at h; exact h, fun q0 => ?_⟩
  rw [if_neg q0] at h
  refine ⟨fun q => by rw [if_pos q] at h; exact h, fun q1 => ?_⟩
  rw [if_neg q1] at h
  refine ⟨fun q => by rw [if_pos q] at h; exact h, fun q2 => ?_⟩
  rw [if_neg q2] at h
  refine ⟨fun q => by rw [if_pos q] at h; exact h, fun q3 => ?_⟩
  rw [if_neg q3] at h
  refine ⟨fun q => c_givenInAll hC (by rw [if_pos q] at h; exact h), fun q4 => ?_⟩
  rw [if_neg q4] at h
  refine ⟨fun q => c_sleepersInAll hC (by rw [if_pos q] at h; exact h), fun q5 => ?_⟩
  rw [if_neg q5] at h
  refine ⟨fun q => by rw [if_pos q] at h; exact h, fun q6 => ?_⟩
  rw [if_neg q6] at h
  refine ⟨fun q => by rw [if_pos q] at h; exact h, fun q7 => ?_⟩
  rw [if_neg q7] at h
  refine ⟨fun q => by rw [if_pos q] at h; exact h, fun q8 => ?_⟩
  rw [if_neg q8] at h
  exact h
theorem m_allGiven {C : Nat → Mem} {N G : Nat} {M : Mem} (hC : CS C N G) (hF : FND C N G M) {post : Int32 → Prop} (h : post (sI (fun a => C 5 6 a) N)) : wp_X10_allGiven M post := by
  have hN8 := hC.N8
  unfold wp_X10_allGiven b_X10_allGiven_0
  refine loop_0 (fun k i (s : Int32) => b_X10_allGiven_4 M post k s (nI i)) (fun i s => s = sI (fun a => C 5 6 a) i) N 0 rfl ?_ ?_
  · intro k s hs
    unfold b_X10_allGiven_4
    rw [hF.1, hs]
    exact ⟨fun _ => h, fun q => absurd (nI_le (Nat.le_refl N) (by omega)) q⟩
  · intro k i s hi hs ih
    unfold b_X10_allGiven_4
    rw [hF.1]
    refine ⟨fun q => absurd q (nI_ge hi (by omega)), fun _ => e_all hC hF (by omega) (fun y ey z ez => ?_)⟩
    rw [ez, nI_1]
    refine ih y ?_
    rw [ey, hs, if_pos rfl]
    rfl
theorem m_sleeping {C : Nat → Mem} {N G : Nat} {M : Mem} (hC : CS C N G) (hF : FND C N G M) {post : Int32 → Prop} (h : post (sI (fun g => slp (WAYS (C 3) (C 4) g)) G)) : wp_X10_sleeping M post := by
  have hG8 := hC.1
  unfold wp_X10_sleeping b_X10_sleeping_0
  refine loop_0 (fun k i (s : Int32) => b_X10_sleeping_4 M post k s (nI i)) (fun i s => s = sI (fun g => slp (WAYS (C 3) (C 4) g)) i) G 0 rfl ?_ ?_
  · intro k s hs
    unfold b_X10_sleeping_4
    rw [hF.2.1, hs]
    exact ⟨fun _ => h, fun q => absurd (nI_le (Nat.le_refl G) (by omega)) q⟩
  · intro k i s hi hs ih
    unfold b_X10_sleeping_4
    rw [hF.2.1, nI_clamp (by omega), (hF.2.2.2.2.1 i hi).2.1]
    refine ⟨fun q => absurd q (nI_ge hi (by omega)), fun _ => ⟨vp_in_nI (by omega) (by omega), fun v ev y ey z ez => ?_⟩⟩
    rw [ez, nI_1]
    refine ih y ?_
    rw [ey, ev, hs]
    rfl
theorem m_count {C : Nat → Mem} {N G : Nat} {M : Mem} (hR : REL C M) (hC : CS C N G) {x : Int32} {post : Int32 → Mem → Prop} (h : ∀ M', MF M M' → FND C N G M' → post (F_count C N G x) M') : wp_X10_count M x post := by
  unfold wp_X10_count b_X10_count_0
  refine e_find2 hR hC (fun M' hf hF => ?_)
  have h := h M' hf hF
  have hR' := hR.mf hf
  obtain ⟨n0, n1, hI, ⟨t0, t1, -, -⟩, ⟨-, -, -, s4⟩, ⟨kk, -, g1, g2, -⟩, -, hfd⟩ := id hR'
  unfold F_count at h
  refine ⟨fun q => by rw [if_pos q, hC.nH] at h; rw [hF.1]; exact h, fun q0 => ?_⟩
  rw [if_neg q0] at h
  refine ⟨fun q => by rw [if_pos q, hC.2.2.1] at h; rw [hF.2.1]; exact h, fun q1 => ?_⟩
  rw [if_neg q1] at h
  refine ⟨fun q => ?_, fun q2 => ?_⟩
  · rcases q with rfl | rfl
    · rw [if_pos rfl, hI.1.2.2.1, ← t0] at h
      exact ⟨vp0 (by decide) (by decide), h⟩
    · rw [if_neg (by decide), if_pos rfl, hI.2.1.2.2.1, ← t1] at h
      exact ⟨vp1 (by decide) (by decide), h⟩
  rw [if_neg (fun z => q2 (Or.inl z)), if_neg (fun z => q2 (Or.inr z))] at h
  refine ⟨fun q => m_allGiven hC hF (by rw [if_pos q] at h; exact h), fun q4 => ?_⟩
  rw [if_neg q4] at h
  refine ⟨fun q => m_sleeping hC hF (by rw [if_pos q] at h; exact h), fun q5 => ?_⟩
  rw [if_neg q5] at h
  refine ⟨fun q => ⟨vp1 (by decide) (by decide), by rw [if_pos q, ← s4] at h; exact h⟩, fun q6 => ?_⟩
  rw [if_neg q6] at h
  refine ⟨fun q => by rw [if_pos q, g1, ← g2] at h; exact h, fun q7 => ?_⟩
  rw [if_neg q7] at h
  refine ⟨fun q => by rw [if_pos q, ← hfd] at h; exact h, fun q8 => ?_⟩
  rw [if_neg q8] at h
  exact h
theorem p_count {C : Nat → Mem} {L : MemL} {M : Mem} (hR : REL C M) (x : Int32) : wp_X9_count C L x (fun r => wp_X10_count M x (fun r' M' => r = r' ∧ REL C M')) := by
  obtain ⟨N, G, hC⟩ := hR.cs
  exact c_count hC (m_count hR hC (fun M' hf _ => ⟨rfl, hR.mf hf⟩))
-- seen, forget, read
theorem REL_sg {C C' : Nat → Mem} {M M' : Mem} (hR : REL C M) (hc : ∀ g, g ≠ 6 → C' g = C g) (hm : ∀ c, c ≠ 0 → c ≠ 16 → M' c = M c) (hm0 : ∀ k, k ≠ 21 → M' 0 k = M 0 k) (hs : SGT C' M') : REL C' M' := by
  obtain ⟨n0, n1, hI, hT, hS, -, hSh, hf⟩ := hR
  refine ⟨n0, n1, ?_, ?_, ?_, hs, fun s h => ?_, ?_⟩
  · unfold INVC; rw [hc 1 (by decide), hc 2 (by decide), hc 3 (by decide), hc 4 (by decide), hc 5 (by decide)]; exact hI
  · unfold TXM; rw [hc 1 (by decide), hc 2 (by decide), hm 5 (by decide) (by decide), hm 6 (by decide) (by decide)]; exact hT
  · unfold STT; rw [hc 3 (by decide), hm 9 (by decide) (by decide)]; exact hS
  · unfold SHT; rw [hc 7 (by decide), hm 1 (by decide) (by decide), hm 2 (by decide) (by decide), hm 3 (by decide) (by decide)]; exact hSh s h
  · rw [hc 0 (by decide), hm0 4 (by decide)]; exact hf
theorem p_forget {C : Nat → Mem} {L : MemL} {M : Mem} (hR : REL C M) : wp_X9_forget C L (fun r C' _ => wp_X10_forget M (fun r' M' => r = r' ∧ REL C' M')) := by
  obtain ⟨_, _, -, -, -, ⟨k, hk, g1, g2, g3⟩, -, -⟩ := id hR
  unfold wp_X9_forget b_X9_forget_0
  intro x1 e1 C2 e2
  try dsimp only
  unfold wp_X10_forget b_X10_forget_0
  intro y1 f1 m2 f2
  refine ⟨by rw [e1, f1, g1, g2], ?_⟩
  subst f2
  refine REL_sg hR (fun g hg => by rw [e2, up3_n _ hg]) (fun c h0 _ => up2_c _ h0) (fun a ha => up2_i _ ha) ⟨0, by omega, ?_, ?_, fun i hi => absurd hi (Nat.not_lt_zero i)⟩
  · rw [e2, up3_s, up2_s]; rfl
  · rw [up2_s]; rfl
theorem e_allows (m : Mem) (x1 x2 : Int32) (post : Int32 → Prop) : wp_X6_allows m x1 x2 post = post (bI ((0 ≤ x1 ∧ x1 ≤ 7) ∧ (0 ≤ x2 ∧ x2 ≤ 999))) := by
  have e1 : (0 ≤ x1 ∧ x1 ≤ 7) = (¬ x1 < 0 ∧ ¬ 8 ≤ x1) := by
    rw [← le7, i_nle, i_nlt]
  have e2 : (0 ≤ x2 ∧ x2 ≤ 999) = (¬ x2 < 0 ∧ ¬ 999 < x2) := by rw [i_nlt, i_nlt]
  unfold wp_X6_allows b_X6_allows_0 bI
  simp only [e1, e2]
  by_cases h1 : x1 < 0 <;> by_cases h2 : 8 ≤ x1 <;> by_cases h3 : x2 < 0 <;> by_cases h4 : 999 < x2 <;> simp [h1, h2, h3, h4]
theorem e_add {m : Mem} {k : Nat} (hk : k < 8) (h2 : m 0 2 = nI k) {x1 x2 : Int32} {post : Mem → Prop} (h : post (up2 (up2 (up2 m 1 k x1) 2 k x2) 0 2 (nI (k + 1)))) : wp_X6_add m x1 x2 post := by
  unfold wp_X6_add b_X6_add_0
  rw [h2]
  refine ⟨fun q => absurd q (nI_ge (b := 8) hk (by omega)), fun _ => ⟨vp_in_nI hk (by omega), fun m2 e2 => ?_⟩⟩
  rw [nI_clamp (by omega)] at e2
  have f2 : m2 0 2 = nI k := by rw [e2, up2_c _ (by decide)]; exact h2
  rw [f2, nI_clamp (by omega)]
  refine ⟨vp_in_nI hk (by omega), fun m3 e3 m4 e4 => ?_⟩
  have f3 : m3 0 2 = nI k := by rw [e3, up2_c _ (by decide)]; exact f2
  rw [f3, nI_1] at e4
  rw [e4, e3, e2]
  exact h
theorem m_seen {M : Mem} {k : Nat} (hk : k ≤ 8) (h2 : M 0 21 = nI k) {x1 x2 : Int32} {post : Int32 → Mem → Prop} (hb : ¬ ((0 ≤ x1 ∧ x1 ≤ 7) ∧ (0 ≤ x2 ∧ x2 ≤ 999)) → post (-2) M) (hf : ((0 ≤ x1 ∧ x1 ≤ 7) ∧ (0 ≤ x2 ∧ x2 ≤ 999)) → k = 8 → post (-4) M) (ho : ((0 ≤ x1 ∧ x1 ≤ 7) ∧ (0 ≤ x2 ∧ x2 ≤ 999)) → k < 8 → post (nI (k + 1)) (up2 (up2 (up2 M 16 (2 * k) x1) 16 (2 * k + 1) x2) 0 21 (nI (k + 1)))) : wp_X10_seen M x1 x2 post := by
  unfold wp_X10_seen b_X10_seen_0
  rw [in07, bI_z]
  refine ⟨fun q => hb (fun z => q z.1), fun q1 => ?_⟩
  rw [in999, bI_z, h2]
  refine ⟨fun q2 => ?_, fun q => hb (fun z => q z.2)⟩
  have hr := And.intro (Classical.not_not.mp q1) (Classical.not_not.mp q2)
  rw [show (8 : Int32) = nI 8 from rfl, nI_eq (by omega) (by omega)]
  refine ⟨fun q => ?_, fun q => hf hr q⟩
  have e2k : 2 * nI k = nI (2 * k) := by rw [show (2 : Int32) = nI 2 from rfl, pk_mul]
  rw [e2k, nI_clamp (by omega)]
  refine ⟨vp_in_nI (by omega) (by omega), fun m6 e6 => ?_⟩
  have f6 : m6 0 21 = nI k := by rw [e6, up2_c _ (by decide)]; exact h2
  rw [f6, e2k, nI_1, nI_clamp (by omega)]
  refine ⟨vp_in_nI (by omega) (by omega), fun m7 e7 m8 e8 => ?_⟩
  have f7 : m7 0 21 = nI k := by rw [e7, up2_c _ (by decide)]; exact f6
  rw [f7, nI_1] at e8
  rw [e8, up2_s, e7, e6]
  exact ho hr (by omega)
theorem p_seen {C : Nat → Mem} {L : MemL} {M : Mem} (hR : REL C M) (x1 x2 : Int32) : wp_X9_seen C L x1 x2 (fun r C' _ => wp_X10_seen M x1 x2 (fun r' M' => r = r' ∧ REL C' M')) := by
  obtain ⟨_, _, -, -, -, ⟨k, hk, g1, g2, g3⟩, -, -⟩ := id hR
  unfold wp_X9_seen b_X9_seen_0
  rw [e_allows, bI_z, g1]
  refine ⟨fun q => ⟨fun q2 => ?_, fun q2 => ?_⟩, fun q => m_seen hk g2 (fun _ => ⟨rfl, hR⟩) (fun z => absurd z q) (fun z => absurd z q)⟩
  · have hk8 : k < 8 := (nI_ltI (b := 8) (by omega) (by omega)).mp q2
    refine e_add hk8 g1 (fun C5 e5 => ?_)
    refine m_seen hk g2 (fun z => absurd z q) (fun _ z => by omega) (fun _ _ => ⟨?_, ?_⟩)
    · rw [e5, up3_s, up2_s]
    · refine REL_sg hR (fun g hg => by rw [e5, up3_n _ hg]) (fun c h0 h16 => by rw [up2_c _ h0, up2_c _ h16, up2_c _ h16]) (fun a ha => by rw [up2_i _ ha, up2_c _ (by decide), up2_c _ (by decide)]) ⟨k + 1, by omega, ?_, ?_, lt_s (fun i hi => ?_) ?_⟩
      · rw [e5, up3_s, up2_s]
      · rw [up2_s]
      · obtain ⟨a1, a2⟩ := g3 i hi
        rw [e5, up3_s, up2_c _ (show (1 : Nat) ≠ 0 by decide), up2_c _ (show (1 : Nat) ≠ 2 by decide), up2_i _ (by omega), up2_c _ (show (2 : Nat) ≠ 0 by decide), up2_i _ (by omega), up2_c _ (show (2 : Nat) ≠ 1 by decide), up2_c _ (show (16 : Nat) ≠ 0 by decide), up2_i _ (by omega), up2_i _ (by omega), up2_i _ (by omega), up2_i _ (by omega)]
        exact ⟨a1, a2⟩
      · rw [e5, up3_s, up2_c _ (show (1 : Nat) ≠ 0 by decide), up2_c _ (show (1 : Nat) ≠ 2 by decide), up2_s, up2_c _ (show (2 : Nat) ≠ 0 by decide), up2_s, up2_c _ (show (16 : Nat) ≠ 0 by decide), up2_i _ (by omega), up2_s, up2_s]
        exact ⟨rfl, rfl⟩
  · have hk8 : k = 8 := by
      have : ¬ k < 8 := fun z => q2 (nI_lt (b := 8) z (by omega))
      omega
    exact m_seen hk g2 (fun z => absurd z q) (fun _ _ => ⟨rfl, hR⟩) (fun _ z => by omega)
