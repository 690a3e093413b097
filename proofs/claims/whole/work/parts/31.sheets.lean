-- sheets
theorem in02 (x : Int32) (post : Int32 → Prop) : wp_X10_in x.toInt64 0 2 post = post (bI (0 ≤ x ∧ x ≤ 2)) := e_in x 0 2 post rfl rfl
theorem in07 (x : Int32) (post : Int32 → Prop) : wp_X10_in x.toInt64 0 7 post = post (bI (0 ≤ x ∧ x ≤ 7)) := e_in x 0 7 post rfl rfl
theorem in999 (x : Int32) (post : Int32 → Prop) : wp_X10_in x.toInt64 0 999 post = post (bI (0 ≤ x ∧ x ≤ 999)) := e_in x 0 999 post rfl rfl
theorem in16 (x : Int32) (post : Int32 → Prop) : wp_X10_in x.toInt64 0 16 post = post (bI (0 ≤ x ∧ x ≤ 16)) := e_in x 0 16 post rfl rfl
theorem in99 (x : Int32) (post : Int32 → Prop) : wp_X10_in x.toInt64 1 99 post = post (bI (1 ≤ x ∧ x ≤ 99)) := e_in x 1 99 post rfl rfl
theorem e_found (C : Nat → Mem) (L : MemL) (k : Int32) (post : Int32 → (Nat → Mem) → MemL → Prop) : wp_X9_found C L k post = post ((-10) - k) (up3 C 0 (up2 (C 0) 0 11 k)) L := by
  unfold wp_X9_found b_X9_found_0
  simp only [forall_eq]
theorem e_finds (M : Mem) (k : Int32) (post : Int32 → Mem → Prop) : wp_X10_finds M k post = post ((-10) - k) (up2 M 0 4 k) := by
  unfold wp_X10_finds b_X10_finds_0
  simp only [forall_eq]
theorem REL_fd {C : Nat → Mem} {M : Mem} (hR : REL C M) (k : Int32) : REL (up3 C 0 (up2 (C 0) 0 11 k)) (up2 M 0 4 k) := by
  obtain ⟨n0, n1, hI, hT, hS, hG, hSh, hf⟩ := hR
  have cn : ∀ g, g ≠ 0 → up3 C 0 (up2 (C 0) 0 11 k) g = C g := fun g hg => up3_n _ hg
  have mn : ∀ c, c ≠ 0 → up2 M 0 4 k c = M c := fun c hc => up2_c _ hc
  refine ⟨n0, n1, ?_, ?_, ?_, ?_, fun s hs => ?_, ?_⟩
  · unfold INVC; rw [cn 1 (by decide), cn 2 (by decide), cn 3 (by decide), cn 4 (by decide), cn 5 (by decide)]; exact hI
  · unfold TXM; rw [cn 1 (by decide), cn 2 (by decide), mn 5 (by decide), mn 6 (by decide)]; exact hT
  · unfold STT; rw [cn 3 (by decide), mn 9 (by decide)]; exact hS
  · unfold SGT; rw [cn 6 (by decide), mn 16 (by decide), up2_i _ (by decide)]; exact hG
  · unfold SHT; rw [cn 7 (by decide), mn 1 (by decide), mn 2 (by decide), mn 3 (by decide)]; exact hSh s hs
  · rw [up3_s, up2_s, up2_s]
theorem REL_sh {C C' : Nat → Mem} {M M' : Mem} (hR : REL C M) (hc : ∀ g, g < 7 → C' g = C g) (hm : ∀ c, c = 0 ∨ c = 5 ∨ c = 6 ∨ c = 9 ∨ c = 16 → M' c = M c) (hs : ∀ s, s < 4 → SHT C' M' s) : REL C' M' := by
  obtain ⟨n0, n1, hI, hT, hS, hG, -, hf⟩ := hR
  refine ⟨n0, n1, ?_, ?_, ?_, ?_, hs, ?_⟩
  · unfold INVC; rw [hc 1 (by decide), hc 2 (by decide), hc 3 (by decide), hc 4 (by decide), hc 5 (by decide)]; exact hI
  · unfold TXM; rw [hc 1 (by decide), hc 2 (by decide), hm 5 (by omega), hm 6 (by omega)]; exact hT
  · unfold STT; rw [hc 3 (by decide), hm 9 (by omega)]; exact hS
  · unfold SGT; rw [hc 6 (by decide), hm 16 (by omega), hm 0 (by omega)]; exact hG
  · rw [hc 0 (by decide), hm 0 (by omega)]; exact hf
theorem REL.sht {C : Nat → Mem} {M : Mem} (hR : REL C M) {s : Nat} (hs : s < 4) : SHT C M s := by
  obtain ⟨_, _, -, -, -, -, h, -⟩ := hR
  exact h s hs
theorem sx (s i : Nat) : nI s * 60 + nI i = nI (60 * s + i) := by rw [show (60 : Int32) = nI 60 from rfl, pk_mul, nI_add, Nat.mul_comm]
theorem sm (s i : Nat) : 60 * nI s + nI i = nI (60 * s + i) := by rw [show (60 : Int32) = nI 60 from rfl, pk_mul, nI_add]
theorem sh_of {x : Int32} (h : 0 ≤ x ∧ x ≤ 3) : ∃ s, s < 4 ∧ x = nI s := by
  obtain ⟨k, hk, e⟩ := rg_of (u := 3) (by omega) h
  exact ⟨k, by omega, e⟩
theorem sh_ok {s : Nat} (h : s < 4) : 0 ≤ nI s ∧ nI s ≤ 3 := ⟨nI_pos' (by omega), nI_le (b := 3) (by omega) (by omega)⟩
theorem e_start {m : Mem} {s : Nat} (hs : s < 4) {f z : Int32} {post : Mem → Prop} (h : ∀ m', m' 2 = upd (m 2) s f → m' 3 = upd (m 3) s z → (∀ i, i < 60 → m' 1 (60 * s + i) = 0) → (∀ i, (i < 60 * s ∨ 60 * s + 60 ≤ i) → m' 1 i = m 1 i) → post m') : wp_X5_start m (nI s) f z post := by
  have vs : vp_in (nI s) 4 := vp_in_nI hs (by omega)
  unfold wp_X5_start b_X5_start_0
  rw [nI_clamp (by omega)]
  refine ⟨vs, fun m1 e1 => ⟨vs, fun m2 e2 => ?_⟩⟩
  refine loop_0 (fun k i m => b_X5_start_17 post k (nI s) (nI i) m) (fun i m' => m' 2 = upd (m 2) s f ∧ m' 3 = upd (m 3) s z ∧ (∀ a, a < i → m' 1 (60 * s + a) = 0) ∧ ∀ a, (a < 60 * s ∨ 60 * s + 60 ≤ a) → m' 1 a = m 1 a) 60 m2 ?_ ?_ ?_
  · subst e2 e1
    refine ⟨?_, ?_, fun a ha => absurd ha (Nat.not_lt_zero a), fun a _ => ?_⟩
    · rw [up2_c _ (by decide)]; unfold up2; simp
    · unfold up2; simp
    · rw [up2_c _ (by decide), up2_c _ (by decide)]
  · intro k m' hI
    unfold b_X5_start_17
    exact ⟨fun _ => h m' hI.1 hI.2.1 hI.2.2.1 hI.2.2.2, fun q => absurd (nI_le (a := 60) (Nat.le_refl 60) (by omega)) q⟩
  · intro k i m' hi hI ih
    unfold b_X5_start_17
    rw [sx, nI_clamp (by omega)]
    refine ⟨fun q => absurd q (nI_ge (b := 60) hi (by omega)), fun _ => ⟨vp_in_nI (by omega) (by omega), fun m3 e3 y ey => ?_⟩⟩
    rw [ey, nI_1]
    subst e3
    refine ih _ ⟨by rw [up2_c _ (by decide)]; exact hI.1, by rw [up2_c _ (by decide)]; exact hI.2.1, lt_s (fun a ha => ?_) (up2_s _ _ _ _), fun a ha => ?_⟩
    · rw [up2_i _ (by omega)]; exact hI.2.2.1 a ha
    · rw [up2_i _ (by omega)]; exact hI.2.2.2 a ha
theorem m_sheet55 {M : Mem} {s z : Nat} (hs : s < 4) (hz : z ≤ 60) {post : Int32 → Mem → Prop} (h : ∀ M', (∀ c, c ≠ 3 → M' c = M c) → (∀ i, i < z → M' 3 (60 * s + i) = 0) → (∀ i, (i < 60 * s ∨ 60 * s + 60 ≤ i) → M' 3 i = M 3 i) → post (nI z) M') : ∃ n, b_X10_sheet_55 post n (nI s) (nI z) 0 M := by
  refine loop_0 (fun k i m => b_X10_sheet_55 post k (nI s) (nI z) (nI i) m) (fun i m => (∀ c, c ≠ 3 → m c = M c) ∧ (∀ a, a < i → m 3 (60 * s + a) = 0) ∧ ∀ a, (a < 60 * s ∨ 60 * s + 60 ≤ a) → m 3 a = M 3 a) z M ⟨fun _ _ => rfl, fun a ha => absurd ha (Nat.not_lt_zero a), fun _ _ => rfl⟩ ?_ ?_
  · intro k m hI
    unfold b_X10_sheet_55
    exact ⟨fun _ => h m hI.1 hI.2.1 hI.2.2, fun q => absurd (nI_le (Nat.le_refl z) (by omega)) q⟩
  · intro k i m hi hI ih
    unfold b_X10_sheet_55
    rw [sm, nI_clamp (by omega)]
    refine ⟨fun q => absurd q (nI_ge hi (by omega)), fun _ => ⟨vp_in_nI (by omega) (by omega), fun m3 e3 y ey => ?_⟩⟩
    rw [ey, nI_1]
    subst e3
    refine ih _ ⟨fun c hc => by rw [up2_c _ hc]; exact hI.1 c hc, lt_s (fun a ha => ?_) (up2_s _ _ _ _), fun a ha => ?_⟩
    · rw [up2_i _ (by omega)]; exact hI.2.1 a ha
    · rw [up2_i _ (by omega)]; exact hI.2.2 a ha
theorem SHT_kept {C C' : Nat → Mem} {M M' : Mem} {t : Nat} (h : SHT C M t) (k2 : C' 7 2 t = C 7 2 t) (k3 : C' 7 3 t = C 7 3 t) (k1 : ∀ i, i < 60 → C' 7 1 (60 * t + i) = C 7 1 (60 * t + i)) (l1 : M' 1 t = M 1 t) (l2 : M' 2 t = M 2 t) (l3 : ∀ i, i < 60 → M' 3 (60 * t + i) = M 3 (60 * t + i)) : SHT C' M' t := by
  rcases h with ⟨h1, h2⟩ | ⟨z, f, hz, hf, h1, h2, h3, h4, h5⟩
  · exact Or.inl ⟨k3.trans h1, l1.trans h2⟩
  · exact Or.inr ⟨z, f, hz, hf, k3.trans h1, l2.trans h2, k2.trans h3, l1.trans h4, fun i hi => by rw [k1 i (by omega), l3 i (by omega)]; exact h5 i hi⟩
theorem upd_n {f : Nat → Int32} {k j : Nat} {x : Int32} (h : j ≠ k) : upd f k x j = f j := by simp [upd, h]
theorem upd_s {f : Nat → Int32} {k : Nat} {x : Int32} : upd f k x k = x := by simp [upd]
theorem p_sheet {C : Nat → Mem} {L : MemL} {M : Mem} (hR : REL C M) (x1 x2 x3 : Int32) : wp_X9_sheet C L x1 x2 x3 (fun r C' _ => wp_X10_sheet M x1 x2 x3 (fun r' M' => r = r' ∧ REL C' M')) := by
  unfold wp_X9_sheet b_X9_sheet_0
  rw [e_isSheet, bI_z]
  have bad : (¬ (0 ≤ x1 ∧ x1 ≤ 3) ∨ ¬ (0 ≤ x2 ∧ x2 ≤ 2) ∨ ¬ x3 ≤ 60) → wp_X10_sheet M x1 x2 x3 (fun r' M' => (-2) = r' ∧ REL C M') := by
    intro q
    try dsimp only
    unfold wp_X10_sheet b_X10_sheet_0
    rw [e_isSheetM, bI_z]
    refine ⟨fun _ => ⟨rfl, hR⟩, fun z1 => ?_⟩
    rw [in02, bI_z]
    refine ⟨fun _ => ⟨rfl, hR⟩, fun z2 => ⟨fun z3 => ?_, fun _ => ⟨rfl, hR⟩⟩⟩
    rcases q with q | q | q
    · exact absurd q z1
    · exact absurd q z2
    · exact absurd z3 q
  refine ⟨fun q => bad (Or.inl q), fun q1 => ?_⟩
  rw [e_isForm, bI_z]
  refine ⟨fun q => bad (Or.inr (Or.inl q)), fun q2 => ⟨fun q3 => ⟨fun q4 => ?_, fun q4 => ?_⟩, fun q => bad (Or.inr (Or.inr q))⟩⟩
  · obtain ⟨s, hs, rfl⟩ := sh_of (Classical.not_not.mp q1)
    obtain ⟨f, hf, rfl⟩ := rg_of (u := 2) (by omega) (Classical.not_not.mp q2)
    obtain ⟨z, hz, rfl⟩ := rg_of (u := 60) (by omega) ⟨q4, q3⟩
    have vs : vp_in (nI s) 4 := vp_in_nI hs (by omega)
    refine e_start hs (fun m' k2 k3 k1 kn C8 e8 => ?_)
    have c7 : C8 7 = m' := by rw [e8]; rfl
    have cn : ∀ g, g < 7 → C8 g = C g := fun g hg => by rw [e8, up3_n _ (by omega)]
    try dsimp only
    unfold wp_X10_sheet b_X10_sheet_0
    rw [e_isSheetM, bI_z]
    refine ⟨fun q => absurd (Classical.not_not.mp q1) q, fun _ => ?_⟩
    rw [in02, bI_z]
    refine ⟨fun q => absurd (Classical.not_not.mp q2) q, fun _ => ⟨fun _ => ⟨fun _ => ⟨vs, fun m7 em7 => ⟨vs, fun m8 em8 => ?_⟩⟩, fun q => absurd q4 q⟩, fun q => absurd q3 q⟩⟩
    rw [nI_clamp (by omega)] at em7 em8
    refine m_sheet55 hs hz (fun M' l l3 ln => ⟨rfl, REL_sh hR cn (fun c hc => ?_) (fun t ht => ?_)⟩)
    · rw [l c (by omega), em8, up2_c _ (by omega), em7, up2_c _ (by omega)]
    · by_cases e : t = s
      · subst e
        refine Or.inr ⟨z, f, hz, hf, ?_, ?_, ?_, ?_, fun i hi => ?_⟩
        · rw [c7, k3, upd_s]
        · rw [l 2 (by decide), em8, up2_s]
        · rw [c7, k2, upd_s]
        · rw [l 1 (by decide), em8, up2_c _ (by decide), em7, up2_s]
        · rw [c7, k1 i (by omega), l3 i hi]
      · refine SHT_kept (hR.sht ht) ?_ ?_ (fun i hi => ?_) ?_ ?_ (fun i hi => ?_)
        · rw [c7, k2, upd_n e]
        · rw [c7, k3, upd_n e]
        · rw [c7, kn _ (by omega)]
        · rw [l 1 (by decide), em8, up2_c _ (by decide), em7, up2_i _ e]
        · rw [l 2 (by decide), em8, up2_i _ e, em7, up2_c _ (by decide)]
        · rw [ln _ (by omega), em8, up2_c _ (by decide), em7, up2_c _ (by decide)]
  · rw [e_found]
    dsimp only
    unfold wp_X10_sheet b_X10_sheet_0
    rw [e_isSheetM, bI_z]
    refine ⟨fun q => absurd q q1, fun _ => ?_⟩
    rw [in02, bI_z]
    refine ⟨fun q => absurd q q2, fun _ => ⟨fun _ => ⟨fun q => absurd q q4, fun _ => ?_⟩, fun q => absurd q3 q⟩⟩
    rw [e_finds]
    exact ⟨rfl, REL_fd hR 5⟩
theorem e_isLost {m : Mem} {s : Nat} (hs : s < 4) (post : Int32 → Prop) : wp_X5_isLost m (nI s) post = post (bI (m 3 s = (-1))) := by
  unfold wp_X5_isLost b_X5_isLost_0
  rw [nI_clamp (by omega)]
  simp only [forall_eq]
  have vs : vp_in (nI s) 4 := vp_in_nI hs (by omega)
  have := zo_and (c := m 3 s = (-1)) (P := post (bI (m 3 s = (-1))))
  simp only [vs, true_and]
  exact this
theorem le_0_nI {f : Nat} (h : f < 2 ^ 31) : (0 ≤ nI f) = True := eq_true (nI_pos' h)
theorem p_lose {C : Nat → Mem} {L : MemL} {M : Mem} (hR : REL C M) (x1 : Int32) : wp_X9_lose C L x1 (fun r C' _ => wp_X10_lose M x1 (fun r' M' => r = r' ∧ REL C' M')) := by
  unfold wp_X9_lose b_X9_lose_0
  rw [e_isSheet, bI_z]
  refine ⟨fun q => ?_, fun q => ?_⟩
  · obtain ⟨s, hs, rfl⟩ := sh_of (Classical.not_not.mp q)
    have vs : vp_in (nI s) 4 := vp_in_nI hs (by omega)
    rw [e_isLost hs, bI_z]
    rcases hR.sht hs with ⟨h1, h2⟩ | ⟨z, f, hz, hf, h1, h2, h3, h4, h5⟩
    · refine ⟨fun q => absurd h1 q, fun _ => ?_⟩
      rw [e_found]
      dsimp only
      unfold wp_X10_lose b_X10_lose_0
      rw [e_isSheetM, bI_z, nI_clamp (by omega), h2, e_finds]
      exact ⟨fun _ => ⟨vs, fun q => absurd q (by decide), fun _ => ⟨rfl, REL_fd hR 1⟩⟩, fun q => absurd (sh_ok hs) q⟩
    · refine ⟨fun _ => ⟨vs, fun y ey => ⟨vs, fun C6 e6 => ?_⟩⟩, fun q => absurd (by rw [h1]; exact nI_ne_m1 (by omega)) q⟩
      rw [nI_clamp (by omega)] at ey e6
      have c7 : C6 7 = up2 (C 7) 3 s (-1) := by rw [e6]; rfl
      try dsimp only
      unfold wp_X10_lose b_X10_lose_0
      rw [e_isSheetM, bI_z, nI_clamp (by omega), h4]
      refine ⟨fun _ => ⟨vs, fun _ => ⟨vs, fun m4 e4 => ⟨vs, ?_, ?_⟩⟩, fun q => absurd (nI_pos' (by omega)) q⟩, fun q => absurd (sh_ok hs) q⟩
      · rw [ey, h1, e4, up2_c _ (by decide), h2]
      · subst e4
        refine REL_sh hR (fun g hg => by rw [e6, up3_n _ (by omega)]) (fun c hc => up2_c _ (by omega)) (fun t ht => ?_)
        by_cases e : t = s
        · subst e
          exact Or.inl ⟨by rw [c7, up2_s], up2_s _ _ _ _⟩
        · refine SHT_kept (hR.sht ht) ?_ ?_ (fun i hi => ?_) ?_ ?_ (fun i hi => ?_)
          · rw [c7, up2_c _ (by decide)]
          · rw [c7, up2_i _ e]
          · rw [c7, up2_c _ (by decide)]
          · rw [up2_i _ e]
          · rw [up2_c _ (by decide)]
          · rw [up2_c _ (by decide)]
  · dsimp only
    try dsimp only
    unfold wp_X10_lose b_X10_lose_0
    rw [e_isSheetM, bI_z]
    exact ⟨fun z => absurd q z, fun _ => ⟨rfl, hR⟩⟩
/-- what is found against an item, alike on both sides: 0 where it is there -/
def ITF (C : Nat → Mem) (s : Nat) (x2 x3 : Int32) : Int32 := if C 7 3 s = (-1) then 1 else if C 7 2 s = x2 then (if 0 ≤ x3 ∧ x3 < C 7 3 s then 0 else 2) else 3
theorem c_itf {C : Nat → Mem} {L : MemL} {s : Nat} (hs : s < 4) {x2 x3 : Int32} {post : Int32 → Prop} (h : post (ITF C s x2 x3)) : wp_X9_itemFinding C L (nI s) x2 x3 post := by
  have vs : vp_in (nI s) 4 := vp_in_nI hs (by omega)
  unfold wp_X9_itemFinding b_X9_itemFinding_0
  rw [e_isLost hs, bI_z, nI_clamp (by omega)]
  unfold ITF at h
  refine ⟨fun q => ⟨vs, fun q2 => ⟨fun q3 => ?_, fun q3 => ⟨vs, fun q4 => ?_, fun q4 => ?_⟩⟩, fun q2 => ?_⟩, fun q => ?_⟩
  · rw [if_neg q, if_pos q2, if_neg (fun z => absurd z.1 (by rw [i_nle]; exact q3))] at h; exact h
  · rw [if_neg q, if_pos q2, if_pos ⟨by rw [← i_nlt]; exact q3, q4⟩] at h; exact h
  · rw [if_neg q, if_pos q2, if_neg (fun z => q4 z.2)] at h; exact h
  · rw [if_neg q, if_neg q2] at h; exact h
  · rw [if_pos (Classical.not_not.mp q)] at h; exact h
theorem m_lacks {C : Nat → Mem} {M : Mem} {s : Nat} (hs : s < 4) (hS : SHT C M s) {x2 x3 : Int32} {post : Int32 → Mem → Prop} (h0 : ITF C s x2 x3 = 0 → post 0 M) (h1 : ITF C s x2 x3 ≠ 0 → post ((-10) - ITF C s x2 x3) (up2 M 0 4 (ITF C s x2 x3))) : wp_X10_lacks M (nI s) x2 x3 post := by
  have vs : vp_in (nI s) 4 := vp_in_nI hs (by omega)
  unfold wp_X10_lacks b_X10_lacks_0
  rw [nI_clamp (by omega)]
  simp only [e_finds]
  unfold ITF at h0 h1
  rcases hS with ⟨k1, k2⟩ | ⟨z, f, hz, hf, k1, k2, k3, k4, k5⟩
  · rw [k2]
    rw [if_pos k1] at h1
    exact ⟨vs, fun q => absurd q (by decide), fun _ => h1 (by decide)⟩
  · rw [k4, k2]
    rw [k1, k3] at h0 h1
    rw [if_neg (nI_ne_m1 (by omega))] at h0 h1
    refine ⟨vs, fun _ => ⟨vs, fun q => ⟨vs, ?_⟩, fun q => ?_⟩, fun q => absurd (nI_pos' (by omega)) q⟩
    · rw [if_pos q] at h0 h1
      have ez : (0 ≤ x3 ∧ x3 ≤ nI z - 1) ↔ (0 ≤ x3 ∧ x3 < nI z) := by
        rw [i_le, i_le, i_lt, m1_toInt (by omega), nI_toInt (by omega)]
        omega
      rw [e_in (a := 0) x3 0 (nI z - 1) _ rfl rfl, bI_cong ez, bI_z]
      refine ⟨fun q2 => ?_, fun q2 => ?_⟩
      · rw [if_neg q2] at h1; exact h1 (by decide)
      · rw [if_pos (Classical.not_not.mp q2)] at h0; exact h0 rfl
    · rw [if_neg q] at h1
      exact h1 (by decide)
theorem ITF_0 {C : Nat → Mem} {M : Mem} {s : Nat} (hS : SHT C M s) {x2 x3 : Int32} (h : ITF C s x2 x3 = 0) : ∃ z i, z ≤ 60 ∧ i < z ∧ x3 = nI i ∧ C 7 3 s = nI z ∧ M 2 s = nI z ∧ C 7 2 s = x2 ∧ M 1 s = x2 ∧ ∀ a, a < z → C 7 1 (60 * s + a) = M 3 (60 * s + a) := by
  unfold ITF at h
  rcases hS with ⟨k1, k2⟩ | ⟨z, f, hz, hf, k1, k2, k3, k4, k5⟩
  · rw [if_pos k1] at h
    exact absurd h (by decide)
  · rw [k1, if_neg (nI_ne_m1 (by omega))] at h
    split at h
    · rename_i q
      split at h
      · rename_i q2
        obtain ⟨i, hi, e⟩ := in_of (x := x3) (N := z) (by rw [i_nlt]; exact q2.1) (by rw [i_nle]; exact q2.2) (by omega)
        exact ⟨z, i, hz, hi, e, k1, k2, q, k4.trans (k3.symm.trans q), k5⟩
      · exact absurd h (by decide)
    · exact absurd h (by decide)
theorem e_put {m : Mem} {s i : Nat} (hs : s < 4) (hi : i < 60) {v : Int32} {post : Mem → Prop} (h : post (up2 m 1 (60 * s + i) (cutI (m 2 s) v))) : wp_X5_put m (nI s) (nI i) v post := by
  have vs : vp_in (nI s) 4 := vp_in_nI hs (by omega)
  unfold wp_X5_put b_X5_put_0 b_X5_put_33
  rw [nI_clamp (by omega), sx, nI_clamp (by omega)]
  simp only [forall_eq]
  have vi : vp_in (nI (60 * s + i)) 240 := vp_in_nI (by omega) (by omega)
  unfold cutI at h
  refine ⟨vs, fun q => ⟨vs, fun q2 => ⟨vi, ?_⟩, fun q2 => ⟨vi, ?_⟩⟩, fun q => ⟨vi, ?_⟩⟩
  · rw [if_neg q, if_neg q2] at h; exact h
  · rw [if_neg q, if_pos q2] at h; exact h
  · rw [if_pos q] at h; exact h
theorem p_lay {C : Nat → Mem} {L : MemL} {M : Mem} (hR : REL C M) (x1 x2 x3 x4 : Int32) : wp_X9_lay C L x1 x2 x3 x4 (fun r C' _ => wp_X10_lay M x1 x2 x3 x4 (fun r' M' => r = r' ∧ REL C' M')) := by
  unfold wp_X9_lay b_X9_lay_0
  rw [e_isSheet, bI_z]
  have bad : (¬ (0 ≤ x1 ∧ x1 ≤ 3) ∨ ¬ (0 ≤ x2 ∧ x2 ≤ 2)) → wp_X10_lay M x1 x2 x3 x4 (fun r' M' => (-2) = r' ∧ REL C M') := by
    intro q
    try dsimp only
    unfold wp_X10_lay b_X10_lay_0
    rw [e_isSheetM, bI_z]
    refine ⟨fun _ => ⟨rfl, hR⟩, fun z1 => ?_⟩
    rw [in02, bI_z]
    exact ⟨fun z2 => (q.elim z1 z2).elim, fun _ => ⟨rfl, hR⟩⟩
  refine ⟨fun q => bad (Or.inl q), fun q1 => ?_⟩
  rw [e_isForm, bI_z]
  refine ⟨fun q2 => ?_, fun q => bad (Or.inr q)⟩
  obtain ⟨s, hs, rfl⟩ := sh_of (Classical.not_not.mp q1)
  refine c_itf hs ⟨fun q => ?_, fun q => ?_⟩
  · obtain ⟨z, i, hz, hi, rfl, k1, k2, k3, k4, k5⟩ := ITF_0 (hR.sht hs) q
    refine e_put hs (by omega) (fun C8 e8 => ?_)
    have c7 : C8 7 = up2 (C 7) 1 (60 * s + i) (cutI (C 7 2 s) x4) := by rw [e8]; rfl
    try dsimp only
    unfold wp_X10_lay b_X10_lay_0
    rw [e_isSheetM, bI_z]
    refine ⟨fun q => absurd q q1, fun _ => ?_⟩
    rw [in02, bI_z]
    refine ⟨fun _ => m_lacks hs (hR.sht hs) (fun _ => ⟨fun _ => ?_, fun q => absurd rfl q⟩) (fun q2 => absurd q q2), fun q => absurd q q2⟩
    rw [e_cut, sm, nI_clamp (by omega)]
    refine ⟨vp_in_nI (by omega) (by omega), fun m9 e9 => ⟨rfl, ?_⟩⟩
    subst e9
    refine REL_sh hR (fun g hg => by rw [e8, up3_n _ (by omega)]) (fun c hc => up2_c _ (by omega)) (fun t ht => ?_)
    obtain ⟨f, hf, ef⟩ := rg_of (u := 2) (by omega) (Classical.not_not.mp q2)
    by_cases e : t = s
    · subst e
      refine Or.inr ⟨z, f, hz, hf, ?_, ?_, ?_, ?_, fun a ha => ?_⟩
      · rw [c7, up2_c _ (by decide)]; exact k1
      · rw [up2_c _ (by decide)]; exact k2
      · rw [c7, up2_c _ (by decide), k3]; exact ef
      · rw [up2_c _ (by decide), k4]; exact ef
      · rw [c7]
        by_cases z2 : a = i
        · rw [z2, up2_s, up2_s, k3]
        · rw [up2_i _ (by omega), up2_i _ (by omega)]; exact k5 a ha
    · refine SHT_kept (hR.sht ht) ?_ ?_ (fun a ha => ?_) ?_ ?_ (fun a ha => ?_)
      · rw [c7, up2_c _ (by decide)]
      · rw [c7, up2_c _ (by decide)]
      · rw [c7, up2_i _ (by omega)]
      · rw [up2_c _ (by decide)]
      · rw [up2_c _ (by decide)]
      · rw [up2_i _ (by omega)]
  · rw [e_found]
    dsimp only
    unfold wp_X10_lay b_X10_lay_0
    rw [e_isSheetM, bI_z]
    refine ⟨fun q => absurd q q1, fun _ => ?_⟩
    rw [in02, bI_z]
    refine ⟨fun _ => m_lacks hs (hR.sht hs) (fun q2 => absurd q2 q) (fun _ => ⟨fun q2 => ?_, fun _ => ⟨rfl, REL_fd hR _⟩⟩), fun q => absurd q q2⟩
    exfalso
    unfold ITF at q2
    split at q2
    · exact absurd q2 (by decide)
    · split at q2
      · split at q2 <;> exact absurd q2 (by decide)
      · exact absurd q2 (by decide)
theorem p_get {C : Nat → Mem} {L : MemL} {M : Mem} (hR : REL C M) (x1 x2 x3 : Int32) : wp_X9_get C L x1 x2 x3 (fun r C' _ => wp_X10_get M x1 x2 x3 (fun r' M' => r = r' ∧ REL C' M')) := by
  unfold wp_X9_get b_X9_get_0
  rw [e_isSheet, bI_z]
  have bad : (¬ (0 ≤ x1 ∧ x1 ≤ 3) ∨ ¬ (0 ≤ x2 ∧ x2 ≤ 2)) → b_X9_get_14 (fun r C' _ => wp_X10_get M x1 x2 x3 (fun r' M' => r = r' ∧ REL C' M')) C L := by
    intro q
    unfold b_X9_get_14
    try dsimp only
    unfold wp_X10_get b_X10_get_0
    rw [e_isSheetM, bI_z]
    refine ⟨fun _ => ⟨rfl, hR⟩, fun z1 => ?_⟩
    rw [in02, bI_z]
    exact ⟨fun _ => ⟨rfl, hR⟩, fun z2 => (q.elim z1 z2).elim⟩
  refine ⟨fun q => bad (Or.inl q), fun q1 => ?_⟩
  rw [e_isForm, bI_z]
  refine ⟨fun q2 => ?_, fun q => bad (Or.inr q)⟩
  obtain ⟨s, hs, rfl⟩ := sh_of (Classical.not_not.mp q1)
  refine c_itf hs ⟨fun q => ?_, fun q C8 e8 => ?_⟩
  · obtain ⟨z, i, hz, hi, rfl, k1, k2, k3, k4, k5⟩ := ITF_0 (hR.sht hs) q
    unfold wp_X5_item b_X5_item_0
    rw [sx, nI_clamp (by omega)]
    refine ⟨vp_in_nI (by omega) (by omega), ?_⟩
    try dsimp only
    unfold wp_X10_get b_X10_get_0
    rw [e_isSheetM, bI_z]
    refine ⟨fun q => absurd q q1, fun _ => ?_⟩
    rw [in02, bI_z]
    refine ⟨fun q => absurd q q2, fun _ => m_lacks hs (hR.sht hs) (fun _ => ⟨fun _ => ?_, fun q => absurd rfl q⟩) (fun q2 => absurd q q2)⟩
    rw [sm, nI_clamp (by omega)]
    exact ⟨vp_in_nI (by omega) (by omega), k5 i hi, hR⟩
  · dsimp only
    unfold wp_X10_get b_X10_get_0
    rw [e_isSheetM, bI_z]
    refine ⟨fun q => absurd q q1, fun _ => ?_⟩
    rw [in02, bI_z]
    refine ⟨fun q => absurd q q2, fun _ => m_lacks hs (hR.sht hs) (fun q2 => absurd q2 q) (fun _ => ⟨fun q2 => ?_, fun _ => ⟨rfl, by rw [e8]; exact REL_fd hR _⟩⟩)⟩
    exfalso
    unfold ITF at q2
    split at q2
    · exact absurd q2 (by decide)
    · split at q2
      · split at q2 <;> exact absurd q2 (by decide)
      · exact absurd q2 (by decide)
