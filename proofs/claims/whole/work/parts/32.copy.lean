theorem toL {i : Nat} (h : i < 2 ^ 31) : (nI i).toInt64 = lN i := nI_l h
theorem cmpN {i n z : Nat} (hi : i < 2 ^ 31) (hn : n < 2 ^ 31) (hz : z < 2 ^ 31) : (0 < lg_cmp ((nI i).toInt64 + (nI n).toInt64) (nI z).toInt64) = (z < i + n) := by
  rw [cmp_gt, toL hi, toL hn, toL hz, lN_add]
  exact propext (pk_lLT (by omega) (by omega))
theorem cmpN2 {i n z : Nat} (hi : i < 2 ^ 31) (hn : n < 2 ^ 31) (hz : z < 2 ^ 31) : (lg_cmp ((nI i).toInt64 + (nI n).toInt64) (nI z).toInt64 ≤ 0) = (i + n ≤ z) := by
  have h := cmpN hi hn hz
  rw [← i_nlt, h]
  exact propext (by omega)
theorem e_has {m : Mem} {s z : Nat} (hs : s < 4) (hz : z ≤ 60) (h3 : m 3 s = nI z) (x2 x3 : Int32) {post : Int32 → Prop} (h0 : (x2 < 0 ∨ x3 < 0 ∨ ∃ i n, x2 = nI i ∧ x3 = nI n ∧ i < 2 ^ 31 ∧ n < 2 ^ 31 ∧ z < i + n) → post 0) (h1 : ∀ i n, x2 = nI i → x3 = nI n → i + n ≤ z → post 1) : wp_X5_has m (nI s) x2 x3 post := by
  have vs : vp_in (nI s) 4 := vp_in_nI hs (by omega)
  unfold wp_X5_has b_X5_has_0
  rw [nI_clamp (by omega), h3]
  refine ⟨fun q => h0 (Or.inl q), fun q1 => ⟨fun q => h0 (Or.inr (Or.inl q)), fun q2 => ?_⟩⟩
  obtain ⟨i, hi, rfl⟩ := nI_of q1
  obtain ⟨n, hn, rfl⟩ := nI_of q2
  refine ⟨vs, fun q => ?_, fun q => ⟨vs, ?_⟩⟩
  · have := (nI_ltI (by omega) hi).mp q
    exact h0 (Or.inr (Or.inr ⟨i, n, rfl, rfl, hi, hn, by omega⟩))
  · have hiz : i ≤ z := Nat.le_of_not_lt (fun z1 => q (nI_lt z1 hi))
    rw [pk_sub hiz, nI_ltI (by omega) hn]
    exact ⟨fun q => h0 (Or.inr (Or.inr ⟨i, n, rfl, rfl, hi, hn, by omega⟩)), fun q => h1 i n rfl rfl (by omega)⟩
theorem m_copyLoop {M : Mem} {s t i j n : Nat} (hs : s < 4) (ht : t < 4) (hi : i + n ≤ 60) (hj : j + n ≤ 60) {post : Int32 → Mem → Prop} (h : ∀ M', (∀ c, c ≠ 3 → c ≠ 4 → M' c = M c) → (∀ a, a < n → M' 3 (60 * t + j + a) = M 3 (60 * s + i + a)) → (∀ a, (a < 60 * t + j ∨ 60 * t + j + n ≤ a) → M' 3 a = M 3 a) → post 1 M') : ∃ k, b_X10_copy_120 post k (nI s) (nI i) (nI t) (nI j) (nI n) 0 M := by
  have esi : ∀ a, 60 * nI s + nI i + nI a = nI (60 * s + i + a) := fun a => by rw [sm, nI_add]
  have etj : ∀ a, 60 * nI t + nI j + nI a = nI (60 * t + j + a) := fun a => by rw [sm, nI_add]
  refine loop_0 (fun k a m => b_X10_copy_120 post k (nI s) (nI i) (nI t) (nI j) (nI n) (nI a) m) (fun a m => (∀ c, c ≠ 4 → m c = M c) ∧ ∀ b, b < a → m 4 b = M 3 (60 * s + i + b)) n M ⟨fun _ _ => rfl, fun b hb => absurd hb (Nat.not_lt_zero b)⟩ ?_ ?_
  · intro k m hI
    unfold b_X10_copy_120
    refine ⟨fun _ => ?_, fun q => absurd (nI_le (Nat.le_refl n) (by omega)) q⟩
    refine loop_0 (fun k a m => b_X10_copy_157 post k (nI t) (nI j) (nI n) (nI a) m) (fun a m' => (∀ c, c ≠ 3 → c ≠ 4 → m' c = M c) ∧ (∀ b, b < n → m' 4 b = M 3 (60 * s + i + b)) ∧ (∀ b, b < a → m' 3 (60 * t + j + b) = M 3 (60 * s + i + b)) ∧ ∀ b, (b < 60 * t + j ∨ 60 * t + j + a ≤ b) → m' 3 b = M 3 b) n m ⟨fun c _ h4 => hI.1 c h4, hI.2, fun b hb => absurd hb (Nat.not_lt_zero b), fun b _ => by rw [hI.1 3 (by decide)]⟩ ?_ ?_
    · intro k m' hJ
      unfold b_X10_copy_157
      exact ⟨fun _ => h m' hJ.1 hJ.2.2.1 hJ.2.2.2, fun q => absurd (nI_le (Nat.le_refl n) (by omega)) q⟩
    · intro k a m' ha hJ ih
      unfold b_X10_copy_157
      rw [etj, nI_clamp (by omega), nI_clamp (by omega)]
      refine ⟨fun q => absurd q (nI_ge ha (by omega)), fun _ => ⟨vp_in_nI (by omega) (by omega), vp_in_nI (by omega) (by omega), fun m2 e2 y ey => ?_⟩⟩
      rw [ey, nI_1]
      subst e2
      refine ih _ ⟨fun c h3 h4 => by rw [up2_c _ h3]; exact hJ.1 c h3 h4, fun b hb => by rw [up2_c _ (by decide)]; exact hJ.2.1 b hb, lt_s (fun b hb => ?_) ?_, fun b hb => ?_⟩
      · rw [up2_i _ (by omega)]; exact hJ.2.2.1 b hb
      · rw [up2_s]; exact hJ.2.1 a ha
      · rw [up2_i _ (by omega)]; exact hJ.2.2.2 b (by omega)
  · intro k a m ha hI ih
    unfold b_X10_copy_120
    rw [esi, nI_clamp (by omega), nI_clamp (by omega)]
    refine ⟨fun q => absurd q (nI_ge ha (by omega)), fun _ => ⟨vp_in_nI (by omega) (by omega), vp_in_nI (by omega) (by omega), fun m2 e2 y ey => ?_⟩⟩
    rw [ey, nI_1]
    subst e2
    refine ih _ ⟨fun c h4 => by rw [up2_c _ h4]; exact hI.1 c h4, lt_s (fun b hb => ?_) ?_⟩
    · rw [up2_i _ (by omega)]; exact hI.2 b hb
    · rw [up2_s, hI.1 3 (by decide)]
theorem e_move {m : Mem} {s t i j n : Nat} (hs : s < 4) (ht : t < 4) (hi : i + n ≤ 60) (hj : j + n ≤ 60) {post : Mem → Prop} (h : post (cpy2 m 1 (60 * s + i) (60 * t + j) n)) : wp_X5_move m (nI s) (nI i) (nI t) (nI j) (nI n) post := by
  unfold wp_X5_move b_X5_move_0
  rw [sx, sx, nI_clamp (by omega), nI_clamp (by omega), nI_clamp (by omega)]
  refine ⟨⟨nI_pos (by omega), nI_pos (by omega), nI_pos (by omega), by omega, by omega⟩, fun m1 e1 => ?_⟩
  rw [e1]
  exact h
theorem cpy2_c (m : Mem) {c sp dp n a : Nat} (h : a ≠ c) : cpy2 m c sp dp n a = m a := by unfold cpy2; simp [h]
theorem cpy2_in (m : Mem) {c sp dp n k : Nat} (h1 : dp ≤ k) (h2 : k < dp + n) : cpy2 m c sp dp n c k = m c (sp + (k - dp)) := by
  unfold cpy2; simp only [if_true]; exact pk_cpy_in h1 h2
theorem cpy2_out (m : Mem) {c sp dp n k : Nat} (h : k < dp ∨ dp + n ≤ k) : cpy2 m c sp dp n c k = m c k := by
  unfold cpy2; simp only [if_true]; exact pk_cpy_out h
theorem lt_0_nI {f : Nat} (h : f < 2 ^ 31) : ¬ nI f < 0 := nI_pos h
theorem p_copy {C : Nat → Mem} {L : MemL} {M : Mem} (hR : REL C M) (x1 x2 x3 x4 x5 : Int32) : wp_X9_copy C L x1 x2 x3 x4 x5 (fun r C' _ => wp_X10_copy M x1 x2 x3 x4 x5 (fun r' M' => r = r' ∧ REL C' M')) := by
  unfold wp_X9_copy b_X9_copy_0
  rw [e_isSheet, bI_z]
  have bad : (¬ (0 ≤ x1 ∧ x1 ≤ 3) ∨ ¬ (0 ≤ x3 ∧ x3 ≤ 3)) → wp_X10_copy M x1 x2 x3 x4 x5 (fun r' M' => (-2) = r' ∧ REL C M') := by
    intro q
    unfold wp_X10_copy b_X10_copy_0
    rw [e_isSheetM, bI_z]
    refine ⟨fun _ => ⟨rfl, hR⟩, fun z1 => ?_⟩
    rw [e_isSheetM, bI_z]
    exact ⟨fun z2 => (q.elim z1 z2).elim, fun _ => ⟨rfl, hR⟩⟩
  refine ⟨fun q => bad (Or.inl q), fun q1 => ?_⟩
  rw [e_isSheet, bI_z]
  refine ⟨fun q2 => ?_, fun q => bad (Or.inr q)⟩
  obtain ⟨s, hs, rfl⟩ := sh_of (Classical.not_not.mp q1)
  obtain ⟨t, ht, rfl⟩ := sh_of (Classical.not_not.mp q2)
  have vs : vp_in (nI s) 4 := vp_in_nI hs (by omega)
  have vt : vp_in (nI t) 4 := vp_in_nI ht (by omega)
  have cs : (nI s).toNatClampNeg = s := nI_clamp (by omega)
  have ct : (nI t).toNatClampNeg = t := nI_clamp (by omega)
  rw [e_isLost hs, bI_z]
  have b39 : (M 1 s < 0 ∨ M 1 t < 0) → b_X9_copy_39 (fun r C' _ => wp_X10_copy M (nI s) x2 (nI t) x4 x5 (fun r' M' => r = r' ∧ REL C' M')) C L := by
    intro q
    unfold b_X9_copy_39
    rw [e_found]
    dsimp only
    unfold wp_X10_copy b_X10_copy_0 b_X10_copy_35
    rw [e_isSheetM, bI_z]
    refine ⟨fun z => absurd (sh_ok hs) z, fun _ => ?_⟩
    rw [e_isSheetM, bI_z, cs, ct]
    refine ⟨fun _ => ⟨vs, fun _ => ?_, fun z => ⟨vt, fun z2 => ?_, fun _ => ?_⟩⟩, fun z => absurd (sh_ok ht) z⟩
    · rw [e_finds]; exact ⟨rfl, REL_fd hR 1⟩
    · exact (q.elim z (fun y => absurd z2 (by rw [i_nle]; exact y))).elim
    · rw [e_finds]; exact ⟨rfl, REL_fd hR 1⟩
  rcases hR.sht hs with ⟨h1, h2⟩ | ⟨z, f, hz, hf, h1, h2, h3, h4, h5⟩
  · exact ⟨fun _ => b39 (Or.inl (by rw [h2]; decide)), fun q => absurd h1 q⟩
  refine ⟨fun q => absurd (Classical.not_not.mp q) (by rw [h1]; exact nI_ne_m1 (by omega)), fun _ => ?_⟩
  rw [e_isLost ht, bI_z]
  rcases hR.sht ht with ⟨g1, g2⟩ | ⟨w, k, hw, hk, g1, g2, g3, g4, g5⟩
  · exact ⟨fun q => absurd g1 q, fun _ => b39 (Or.inr (by rw [g2]; decide))⟩
  refine ⟨fun _ => ⟨vs, vt, ?_⟩, fun q => absurd (Classical.not_not.mp q) (by rw [g1]; exact nI_ne_m1 (by omega))⟩
  rw [cs, ct, h3, g3]
  -- the reference, behind the same questions
  have mod : ∀ post : Int32 → Mem → Prop, (nI f = nI k → (x2 < 0 → b_X10_copy_111 post M) ∧ (¬ x2 < 0 → (x4 < 0 → b_X10_copy_111 post M) ∧ (¬ x4 < 0 → (x5 < 0 → b_X10_copy_111 post M) ∧ (¬ x5 < 0 → ((0 < lg_cmp (x2.toInt64 + x5.toInt64) (nI z).toInt64) → b_X10_copy_111 post M) ∧ (¬ (0 < lg_cmp (x2.toInt64 + x5.toInt64) (nI z).toInt64) → ((lg_cmp (x4.toInt64 + x5.toInt64) (nI w).toInt64 ≤ 0) → ∃ n, b_X10_copy_120 post n (nI s) x2 (nI t) x4 x5 0 M) ∧ (¬ (lg_cmp (x4.toInt64 + x5.toInt64) (nI w).toInt64 ≤ 0) → b_X10_copy_111 post M)))))) → (¬ nI f = nI k → post (-14) (up2 M 0 4 4)) → wp_X10_copy M (nI s) x2 (nI t) x4 x5 post := by
    intro post p1 p2
    unfold wp_X10_copy b_X10_copy_0
    rw [e_isSheetM, bI_z]
    refine ⟨fun z => absurd (sh_ok hs) z, fun _ => ?_⟩
    rw [e_isSheetM, bI_z, cs, ct, h4, g4, h2, g2]
    refine ⟨fun _ => ⟨vs, fun q => absurd q (nI_pos (by omega)), fun _ => ⟨vt, fun _ => ⟨vs, vt, fun q => ?_, fun q => by rw [e_finds]; exact p2 q⟩, fun q => absurd (nI_pos' (by omega)) q⟩⟩, fun z => absurd (sh_ok ht) z⟩
    obtain ⟨a1, a2⟩ := p1 q
    exact ⟨a1, fun z1 => ⟨(a2 z1).1, fun z2 => ⟨((a2 z1).2 z2).1, fun z3 => ⟨vs, (((a2 z1).2 z2).2 z3).1, fun z4 => ⟨vt, (((a2 z1).2 z2).2 z3).2 z4⟩⟩⟩⟩⟩
  refine ⟨fun qf => ?_, fun qf => ?_⟩
  · have b101 : (x2 < 0 ∨ x4 < 0 ∨ x5 < 0 ∨ ∃ i j n, x2 = nI i ∧ x4 = nI j ∧ x5 = nI n ∧ i < 2 ^ 31 ∧ j < 2 ^ 31 ∧ n < 2 ^ 31 ∧ (z < i + n ∨ w < j + n)) → b_X9_copy_101 (fun r C' _ => wp_X10_copy M (nI s) x2 (nI t) x4 x5 (fun r' M' => r = r' ∧ REL C' M')) C L := by
      intro q
      unfold b_X9_copy_101
      rw [e_found]
      have p111 : b_X10_copy_111 (fun r' M' => (-10) - 2 = r' ∧ REL (up3 C 0 (up2 (C 0) 0 11 2)) M') M := by
        unfold b_X10_copy_111
        rw [e_finds]
        exact ⟨rfl, REL_fd hR 2⟩
      refine mod _ (fun _ => ⟨fun _ => p111, fun z1 => ⟨fun _ => p111, fun z2 => ⟨fun _ => p111, fun z3 => ⟨fun _ => p111, fun z4 => ⟨fun z5 => ?_, fun _ => p111⟩⟩⟩⟩⟩) (fun z => absurd qf z)
      exfalso
      rcases q with q | q | q | ⟨i, j, n, rfl, rfl, rfl, hi, hj, hn, q⟩
      · exact z1 q
      · exact z2 q
      · exact z3 q
      · rw [cmpN hi hn (by omega)] at z4
        rw [cmpN2 hj hn (by omega)] at z5
        omega
    have neg4 : ∀ {i n : Nat}, x2 = nI i → x5 = nI n → i < 2 ^ 31 → n < 2 ^ 31 → z < i + n → b_X9_copy_101 (fun r C' _ => wp_X10_copy M (nI s) x2 (nI t) x4 x5 (fun r' M' => r = r' ∧ REL C' M')) C L := by
      intro i n e2 e5 hi hn hlt
      by_cases q4 : x4 < 0
      · exact b101 (Or.inr (Or.inl q4))
      · obtain ⟨j, hj, e4⟩ := nI_of q4
        exact b101 (Or.inr (Or.inr (Or.inr ⟨i, j, n, e2, e4, e5, hi, hj, hn, Or.inl hlt⟩)))
    refine e_has hs hz h1 x2 x5 (fun q => ⟨fun _ => ?_, fun z => absurd rfl z⟩) (fun i n e2 e5 hin => ⟨fun z => absurd z (by decide), fun _ => ?_⟩)
    · rcases q with q | q | ⟨i, n, e2, e5, hi, hn, hlt⟩
      · exact b101 (Or.inl q)
      · exact b101 (Or.inr (Or.inr (Or.inl q)))
      · exact neg4 e2 e5 hi hn hlt
    · refine e_has ht hw g1 x4 x5 (fun q => ⟨fun z => absurd rfl z, fun _ => ?_⟩) (fun j n' e4 e5' hjn => ⟨fun _ => ?_, fun z => absurd z (by decide)⟩)
      · rcases q with q | q | ⟨j, n', e4, e5', hj, hn', hlt⟩
        · exact b101 (Or.inr (Or.inl q))
        · exact b101 (Or.inr (Or.inr (Or.inl q)))
        · exact b101 (Or.inr (Or.inr (Or.inr ⟨i, j, n', e2, e4, e5', by omega, hj, hn', Or.inr hlt⟩)))
      · have en : n' = n := (nI_eq (by omega) (by omega)).mp (e5'.symm.trans e5)
        subst en e2 e4 e5
        refine e_move hs ht (by omega) (by omega) (fun C15 e15 => ?_)
        have c7 : C15 7 = cpy2 (C 7) 1 (60 * s + i) (60 * t + j) n' := by rw [e15]; rfl
        refine mod _ (fun _ => ⟨fun q => absurd q (nI_pos (by omega)), fun _ => ⟨fun q => absurd q (nI_pos (by omega)), fun _ => ⟨fun q => absurd q (nI_pos (by omega)), fun _ => ⟨fun q => ?_, fun _ => ⟨fun _ => m_copyLoop hs ht (by omega) (by omega) (fun M' l l3 ln => ⟨rfl, ?_⟩), fun q => ?_⟩⟩⟩⟩⟩) (fun z => absurd qf z)
        · rw [cmpN (by omega) (by omega) (by omega)] at q; omega
        · refine REL_sh hR (fun g hg => by rw [e15, up3_n _ (by omega)]) (fun c hc => l c (by omega) (by omega)) (fun u hu => ?_)
          have kk : ∀ a, a < 60 → (u = t → j ≤ a ∧ a < j + n' → C15 7 1 (60 * u + a) = C 7 1 (60 * s + i + (a - j))) ∧ ((u ≠ t ∨ a < j ∨ j + n' ≤ a) → C15 7 1 (60 * u + a) = C 7 1 (60 * u + a)) := by
            intro a ha
            rw [c7]
            refine ⟨fun e q => ?_, fun q => cpy2_out _ (by omega)⟩
            subst e
            rw [cpy2_in _ (by omega) (by omega), show 60 * u + a - (60 * u + j) = a - j by omega]
          have mm : ∀ a, a < 60 → (u = t → j ≤ a ∧ a < j + n' → M' 3 (60 * u + a) = M 3 (60 * s + i + (a - j))) ∧ ((u ≠ t ∨ a < j ∨ j + n' ≤ a) → M' 3 (60 * u + a) = M 3 (60 * u + a)) := by
            intro a ha
            refine ⟨fun e q => ?_, fun q => ln _ (by omega)⟩
            subst e
            rw [← l3 (a - j) (by omega), show 60 * u + j + (a - j) = 60 * u + a by omega]
          by_cases e : u = t
          · subst e
            refine Or.inr ⟨w, k, hw, hk, ?_, ?_, ?_, ?_, fun a ha => ?_⟩
            · rw [c7, cpy2_c _ (by decide)]; exact g1
            · rw [l 2 (by decide) (by decide)]; exact g2
            · rw [c7, cpy2_c _ (by decide)]; exact g3
            · rw [l 1 (by decide) (by decide)]; exact g4
            · by_cases q : j ≤ a ∧ a < j + n'
              · rw [(kk a (by omega)).1 rfl q, (mm a (by omega)).1 rfl q, show 60 * s + i + (a - j) = 60 * s + (i + (a - j)) by omega]
                exact h5 _ (by omega)
              · rw [(kk a (by omega)).2 (by omega), (mm a (by omega)).2 (by omega)]
                exact g5 a ha
          · refine SHT_kept (hR.sht hu) ?_ ?_ (fun a ha => (kk a ha).2 (Or.inl e)) ?_ ?_ (fun a ha => (mm a ha).2 (Or.inl e))
            · rw [c7, cpy2_c _ (by decide)]
            · rw [c7, cpy2_c _ (by decide)]
            · rw [l 1 (by decide) (by decide)]
            · rw [l 2 (by decide) (by decide)]
        · rw [cmpN2 (by omega) (by omega) (by omega)] at q; omega
  · rw [e_found]
    exact mod _ (fun z => absurd z qf) (fun _ => ⟨rfl, REL_fd hR 4⟩)
