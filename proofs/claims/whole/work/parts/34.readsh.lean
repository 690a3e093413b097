-- read
def okS (it : Nat → Int32) (z k n : Nat) : Bool := decide (2 * n + 1 < z ∧ ((0 ≤ it (2 * n) ∧ it (2 * n) ≤ 7) ∧ (0 ≤ it (2 * n + 1) ∧ it (2 * n + 1) ≤ 999)) ∧ k + n < 8)
/-- sights k on, behind T more -/
def SGX (m0 : Mem) (it : Nat → Int32) (k T : Nat) (m : Mem) : Prop := m 0 2 = nI (k + T) ∧ (∀ i, i < k → m 1 i = m0 1 i ∧ m 2 i = m0 2 i) ∧ ∀ i, i < T → m 1 (k + i) = it (2 * i) ∧ m 2 (k + i) = it (2 * i + 1)
theorem SGX_add {m0 : Mem} {it : Nat → Int32} {k T : Nat} {m : Mem} (h : SGX m0 it k T m) : SGX m0 it k (T + 1) (up2 (up2 (up2 m 1 (k + T) (it (2 * T))) 2 (k + T) (it (2 * T + 1))) 0 2 (nI (k + T + 1))) := by
  obtain ⟨h1, h2, h3⟩ := h
  refine ⟨by rw [up2_s]; rfl, fun i hi => ?_, lt_s (fun i hi => ?_) ?_⟩
  · rw [up2_c _ (by decide), up2_c _ (by decide), up2_i _ (by omega), up2_c _ (by decide), up2_i _ (by omega), up2_c _ (by decide)]
    exact h2 i hi
  · rw [up2_c _ (by decide), up2_c _ (by decide), up2_i _ (by omega), up2_c _ (by decide), up2_i _ (by omega), up2_c _ (by decide)]
    exact h3 i hi
  · rw [up2_c _ (by decide), up2_c _ (by decide), up2_s, up2_c _ (by decide), up2_s]
    exact ⟨rfl, rfl⟩
theorem pre_stop {ok : Nat → Bool} {n : Nat} (h : ok n = false) : ok (pre ok (n + 1)) = false ∧ (∀ j, j < pre ok (n + 1) → ok j = true) ∧ pre ok (n + 1) ≤ n := by
  have hle := pre_le ok (n + 1)
  have key : ∀ n, (pre ok n < n → ok (pre ok n) = false) ∧ ∀ j, j < pre ok n → ok j = true := by
    intro n
    induction n with
    | zero => exact ⟨fun q => absurd q (Nat.lt_irrefl 0), fun j hj => absurd hj (Nat.not_lt_zero j)⟩
    | succ n ih =>
      have hle := pre_le ok n
      unfold pre
      by_cases q : pre ok n < n
      · rw [if_pos q]
        exact ⟨fun _ => ih.1 q, ih.2⟩
      · rw [if_neg q]
        have e : pre ok n = n := by omega
        rw [e] at ih
        by_cases q2 : ok n = true
        · rw [if_pos q2]
          exact ⟨fun z => absurd z (Nat.lt_irrefl _), lt_s ih.2 q2⟩
        · rw [if_neg q2]
          exact ⟨fun _ => by simpa using q2, ih.2⟩
  have hlt : pre ok (n + 1) ≤ n := by
    rcases Nat.lt_or_ge n (pre ok (n + 1)) with q | q
    · have := (key (n + 1)).2 n q
      rw [h] at this
      exact absurd this (by decide)
    · exact q
  exact ⟨(key (n + 1)).1 (by omega), (key (n + 1)).2, hlt⟩
theorem c_readLoop {C0 : Nat → Mem} {L : MemL} {s z k : Nat} (hs : s < 4) (hz : z ≤ 60) (hk : k ≤ 8) (h3 : C0 7 3 s = nI z) (h6 : C0 6 0 2 = nI k) {post : Int32 → (Nat → Mem) → MemL → Prop} (h : ∀ C', (∀ g, g ≠ 6 → C' g = C0 g) → SGX (C0 6) (fun a => C0 7 1 (60 * s + a)) k (pre (okS (fun a => C0 7 1 (60 * s + a)) z k) 31) (C' 6) → post (nI (pre (okS (fun a => C0 7 1 (60 * s + a)) z k) 31)) C' L) : ∃ n, b_X9_read_31 post n (nI s) 0 0 C0 L := by
  obtain ⟨hstop, hall, hT⟩ := pre_stop (ok := okS (fun a => C0 7 1 (60 * s + a)) z k) (n := 30) (by unfold okS; simp only [decide_eq_false_iff_not]; exact fun w => by have := w.1; omega)
  generalize pre (okS (fun a => C0 7 1 (60 * s + a)) z k) 31 = T at *
  have vs : vp_in (nI s) 4 := vp_in_nI hs (by omega)
  refine loop_0 (fun n i C => b_X9_read_31 post n (nI s) (nI i) (nI (2 * i)) C L) (fun i C' => (∀ g, g ≠ 6 → C' g = C0 g) ∧ SGX (C0 6) (fun a => C0 7 1 (60 * s + a)) k i (C' 6)) T C0 ⟨fun _ _ => rfl, h6, fun _ _ => ⟨rfl, rfl⟩, fun i hi => absurd hi (Nat.not_lt_zero i)⟩ ?_ ?_
  · intro n C' hI
    obtain ⟨hg, hX⟩ := hI
    have fin := h C' hg hX
    unfold b_X9_read_31
    rw [nI_clamp (by omega), hg 7 (by decide), h3, nI_1]
    refine ⟨vs, fun _ => fin, fun q => ?_⟩
    have hlt : 2 * T + 1 < z := Nat.lt_of_not_le (fun w => q (nI_le w (by omega)))
    unfold wp_X5_item b_X5_item_0
    rw [sx, sx, nI_clamp (by omega), nI_clamp (by omega)]
    refine ⟨vp_in_nI (by omega) (by omega), vp_in_nI (by omega) (by omega), ?_⟩
    dsimp only
    rw [e_allows, bI_z, hX.1]
    refine ⟨fun _ => fin, fun q2 => ⟨fun q3 => ?_, fun _ => fin⟩⟩
    have hk8 : k + T < 8 := (nI_ltI (b := 8) (by omega) (by omega)).mp q3
    unfold okS at hstop
    simp only [decide_eq_false_iff_not] at hstop
    exact absurd ⟨hlt, Classical.not_not.mp q2, hk8⟩ hstop
  · intro n i C' hi hI ih
    obtain ⟨hg, hX⟩ := hI
    have hok := hall i hi
    unfold okS at hok
    simp only [decide_eq_true_eq] at hok
    obtain ⟨o1, o2, o3⟩ := hok
    unfold b_X9_read_31
    rw [nI_clamp (by omega), hg 7 (by decide), h3, nI_1]
    refine ⟨vs, fun q => absurd q (nI_ge o1 (by omega)), fun q => ?_⟩
    unfold wp_X5_item b_X5_item_0
    rw [sx, sx, nI_clamp (by omega), nI_clamp (by omega)]
    refine ⟨vp_in_nI (by omega) (by omega), vp_in_nI (by omega) (by omega), ?_⟩
    dsimp only
    rw [e_allows, bI_z, hX.1]
    refine ⟨fun q2 => absurd o2 q2, fun _ => ⟨fun _ => e_add o3 hX.1 (fun C8 e8 y ey w ew => ?_), fun q3 => absurd (nI_lt (b := 8) o3 (by omega)) q3⟩⟩
    rw [ey, ew, nI_1, show (2 : Int32) = nI 2 from rfl, nI_add, show 2 * i + 2 = 2 * (i + 1) by omega]
    refine ih C8 ⟨fun g h => by rw [e8, up3_n _ h]; exact hg g h, ?_⟩
    rw [e8, up3_s]
    exact SGX_add hX
def MGX (M0 : Mem) (it : Nat → Int32) (k T : Nat) (M : Mem) : Prop := (∀ c, c ≠ 0 → c ≠ 16 → M c = M0 c) ∧ (∀ a, a ≠ 21 → M 0 a = M0 0 a) ∧ M 0 21 = nI (k + T) ∧ (∀ i, i < 2 * k → M 16 i = M0 16 i) ∧ ∀ i, i < T → M 16 (2 * (k + i)) = it (2 * i) ∧ M 16 (2 * (k + i) + 1) = it (2 * i + 1)
theorem MGX_add {M0 : Mem} {it : Nat → Int32} {k T : Nat} {M : Mem} (h : MGX M0 it k T M) : MGX M0 it k (T + 1) (up2 (up2 (up2 M 16 (2 * (k + T)) (it (2 * T))) 16 (2 * (k + T) + 1) (it (2 * T + 1))) 0 21 (nI (k + T + 1))) := by
  obtain ⟨h1, h2, h3, h4, h5⟩ := h
  refine ⟨fun c h0 h16 => ?_, fun a ha => ?_, by rw [up2_s]; rfl, fun i hi => ?_, lt_s (fun i hi => ?_) ?_⟩
  · rw [up2_c _ h0, up2_c _ h16, up2_c _ h16]; exact h1 c h0 h16
  · rw [up2_i _ ha, up2_c _ (by decide), up2_c _ (by decide)]; exact h2 a ha
  · rw [up2_c _ (by decide), up2_i _ (by omega), up2_i _ (by omega)]; exact h4 i hi
  · rw [up2_c _ (by decide), up2_i _ (by omega), up2_i _ (by omega), up2_i _ (by omega), up2_i _ (by omega)]; exact h5 i hi
  · rw [up2_c _ (by decide), up2_i _ (by omega), up2_s, up2_s]
    exact ⟨rfl, rfl⟩
theorem m_readLoop {M0 : Mem} {s z k : Nat} (hs : s < 4) (hz : z ≤ 60) (hk : k ≤ 8) (h2 : M0 2 s = nI z) (h21 : M0 0 21 = nI k) {post : Int32 → Mem → Prop} (h : ∀ M', MGX M0 (fun a => M0 3 (60 * s + a)) k (pre (okS (fun a => M0 3 (60 * s + a)) z k) 31) M' → post (nI (pre (okS (fun a => M0 3 (60 * s + a)) z k) 31)) M') : ∃ n, b_X10_read_29 post n (nI s) 0 1 M0 := by
  obtain ⟨hstop, hall, hT⟩ := pre_stop (ok := okS (fun a => M0 3 (60 * s + a)) z k) (n := 30) (by unfold okS; simp only [decide_eq_false_iff_not]; exact fun w => by have := w.1; omega)
  generalize pre (okS (fun a => M0 3 (60 * s + a)) z k) 31 = T at *
  have vs : vp_in (nI s) 4 := vp_in_nI hs (by omega)
  have e2n : ∀ i : Nat, 2 * nI i = nI (2 * i) := fun i => by rw [show (2 : Int32) = nI 2 from rfl, pk_mul]
  have key : ∀ (d i : Nat) (M : Mem), d + i = T → MGX M0 (fun a => M0 3 (60 * s + a)) k i M → b_X10_read_29 post (d + 2) (nI s) (nI i) 1 M := by
    intro d
    induction d with
    | zero =>
      intro i M hd hX
      have hi : i = T := by omega
      subst hi
      have fin := h M hX
      unfold b_X10_read_29
      rw [nI_clamp (by omega), hX.1 2 (by decide) (by decide), h2, e2n, show (2 : Int32) = nI 2 from rfl, nI_add]
      refine ⟨fun q => absurd q (by decide), fun _ => ⟨vs, fun _ => fin, fun q => ?_⟩⟩
      have hlt : 2 * i + 1 < z := by
        have : ¬ z < 2 * i + 2 := fun w => q (nI_lt w (by omega))
        omega
      rw [sm, nI_1, nI_clamp (by omega), nI_clamp (by omega), hX.1 3 (by decide) (by decide)]
      refine ⟨vp_in_nI (by omega) (by omega), vp_in_nI (by omega) (by omega), ?_⟩
      have last : ∀ r : Int32, r < 0 → ∀ v6 : Int32, v6 = (if r < 0 then 0 else 1) → ∀ v8 : Int32, v8 = (if v6 = 0 then 0 else 1) → ∀ y : Int32, y = nI i + v8 → b_X10_read_29 post 1 (nI s) y v6 M := by
        intro r hr v6 e6 v8 e8 y ey
        rw [if_pos hr] at e6
        subst e6
        rw [if_pos rfl] at e8
        subst e8
        have : y = nI i := by rw [ey]; simp
        subst this
        unfold b_X10_read_29
        exact ⟨fun _ => fin, fun q => absurd rfl q⟩
      have hkT : k + i ≤ 8 := by
        rcases Nat.eq_zero_or_pos i with w | w
        · omega
        · have := hall (i - 1) (by omega)
          unfold okS at this
          simp only [decide_eq_true_eq] at this
          omega
      refine m_seen hkT hX.2.2.1 (fun _ => last _ (by decide)) (fun _ _ => last _ (by decide)) (fun q2 q3 => ?_)
      unfold okS at hstop
      simp only [decide_eq_false_iff_not] at hstop
      exact absurd ⟨hlt, q2, q3⟩ hstop
    | succ d ih =>
      intro i M hd hX
      have hok := hall i (by omega)
      unfold okS at hok
      simp only [decide_eq_true_eq] at hok
      obtain ⟨o1, o2, o3⟩ := hok
      unfold b_X10_read_29
      rw [nI_clamp (by omega), hX.1 2 (by decide) (by decide), h2, e2n, show (2 : Int32) = nI 2 from rfl, nI_add]
      refine ⟨fun q => absurd q (by decide), fun _ => ⟨vs, fun q => absurd q (nI_nlt (by omega) (by omega)), fun q => ?_⟩⟩
      rw [sm, nI_1, nI_clamp (by omega), nI_clamp (by omega), hX.1 3 (by decide) (by decide)]
      refine ⟨vp_in_nI (by omega) (by omega), vp_in_nI (by omega) (by omega), ?_⟩
      refine m_seen (by omega) hX.2.2.1 (fun q2 => absurd o2 q2) (fun _ q2 => by omega) (fun _ _ v6 e6 v8 e8 y ey => ?_)
      rw [if_neg (nI_pos (by omega))] at e6
      subst e6
      rw [if_neg (by decide)] at e8
      subst e8
      rw [ey, nI_1]
      exact ih (i + 1) _ (by omega) (MGX_add hX)
  exact ⟨T + 2, key T 0 M0 (by omega) ⟨fun _ _ _ => rfl, fun _ _ => rfl, h21, fun _ _ => rfl, fun i hi => absurd hi (Nat.not_lt_zero i)⟩⟩
theorem okS_cong {it it' : Nat → Int32} {z k n : Nat} (h : ∀ a, a < z → it a = it' a) : okS it z k n = okS it' z k n := by
  unfold okS
  by_cases q : 2 * n + 1 < z
  · rw [h _ (by omega), h _ q]
  · simp [q]
theorem p_read {C : Nat → Mem} {L : MemL} {M : Mem} (hR : REL C M) (x1 : Int32) : wp_X9_read C L x1 (fun r C' _ => wp_X10_read M x1 (fun r' M' => r = r' ∧ REL C' M')) := by
  obtain ⟨_, _, -, -, -, ⟨k, hk, g1, g2, g3⟩, -, -⟩ := id hR
  unfold wp_X9_read b_X9_read_0
  rw [e_isSheet, bI_z]
  refine ⟨fun q => ?_, fun q => ?_⟩
  · obtain ⟨s, hs, rfl⟩ := sh_of (Classical.not_not.mp q)
    have vs : vp_in (nI s) 4 := vp_in_nI hs (by omega)
    rw [e_isLost hs, bI_z]
    rcases hR.sht hs with ⟨h1, h2⟩ | ⟨z, f, hz, hf, h1, h2, h3, h4, h5⟩
    · refine ⟨fun q => absurd h1 q, fun _ => ?_⟩
      rw [e_found]
      dsimp only
      unfold wp_X10_read b_X10_read_0
      rw [e_isSheetM, bI_z, nI_clamp (by omega), h2, e_finds]
      exact ⟨fun _ => ⟨vs, fun q => absurd q (by decide), fun _ => ⟨rfl, REL_fd hR 1⟩⟩, fun q => absurd (sh_ok hs) q⟩
    · refine ⟨fun _ => c_readLoop hs hz hk h1 g1 (fun C' kg kX => ?_), fun q => absurd (Classical.not_not.mp q) (by rw [h1]; exact nI_ne_m1 (by omega))⟩
      try dsimp only
      unfold wp_X10_read b_X10_read_0
      rw [e_isSheetM, bI_z, nI_clamp (by omega), h4]
      refine ⟨fun _ => ⟨vs, fun _ => m_readLoop hs hz hk h2 g2 (fun M' mX => ?_), fun q => absurd (nI_pos' (by omega)) q⟩, fun q => absurd (sh_ok hs) q⟩
      have hpe : pre (okS (fun a => M 3 (60 * s + a)) z k) 31 = pre (okS (fun a => C 7 1 (60 * s + a)) z k) 31 := pre_cong (fun j _ => okS_cong (fun a ha => (h5 a ha).symm))
      rw [hpe] at mX
      rw [hpe]
      refine ⟨rfl, REL_sg hR kg mX.1 mX.2.1 ?_⟩
      obtain ⟨hstop, hall, hT⟩ := pre_stop (ok := okS (fun a => C 7 1 (60 * s + a)) z k) (n := 30) (by unfold okS; simp only [decide_eq_false_iff_not]; exact fun w => by have := w.1; omega)
      generalize pre (okS (fun a => C 7 1 (60 * s + a)) z k) 31 = T at *
      obtain ⟨c1, c2, c3⟩ := kX
      obtain ⟨-, -, m1, m2, m3⟩ := mX
      have hkT : k + T ≤ 8 := by
        rcases Nat.eq_zero_or_pos T with w | w
        · omega
        · have := hall (T - 1) (by omega)
          unfold okS at this
          simp only [decide_eq_true_eq] at this
          omega
      refine ⟨k + T, hkT, c1, m1, fun i hi => ?_⟩
      rcases Nat.lt_or_ge i k with w | w
      · obtain ⟨a1, a2⟩ := g3 i w
        rw [(c2 i w).1, (c2 i w).2, m2 _ (by omega), m2 _ (by omega)]
        exact ⟨a1, a2⟩
      · obtain ⟨j, rfl⟩ : ∃ j, i = k + j := ⟨i - k, by omega⟩
        have hok := hall j (by omega)
        unfold okS at hok
        simp only [decide_eq_true_eq] at hok
        rw [(c3 j (by omega)).1, (c3 j (by omega)).2, (m3 j (by omega)).1, (m3 j (by omega)).2]
        exact ⟨h5 _ (by omega), h5 _ (by omega)⟩
  · dsimp only
    unfold wp_X10_read b_X10_read_0
    rw [e_isSheetM, bI_z]
    exact ⟨fun z => absurd q z, fun _ => ⟨rfl, hR⟩⟩
