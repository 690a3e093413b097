-- arguments
abbrev HB (N : Nat) (x : Int32) : Prop := ¬ x < 0 ∧ ¬ nI N ≤ x
theorem HB_of {N : Nat} {x : Int32} (h : HB N x) (hN : N ≤ 8) : ∃ j, j < N ∧ x = nI j := in_of h.1 h.2 (by omega)
theorem HB_nI {N j : Nat} (h : j < N) (hN : N ≤ 8) : HB N (nI j) := ⟨nI_pos (by omega), nI_ge h (by omega)⟩
theorem rg_of {x : Int32} {u : Nat} (hu : u < 2 ^ 31) (h : 0 ≤ x ∧ x ≤ nI u) : ∃ k, k ≤ u ∧ x = nI k := by
  obtain ⟨d, -, h2, e⟩ := fig_of (l := 0) (u := u) (lo := 0) rfl rfl h.1 h.2 hu (by omega)
  exact ⟨d, h2, e⟩
theorem rg_not {x y : Int32} (h : ¬ (0 ≤ x ∧ x ≤ y)) : x < 0 ∨ ¬ x ≤ y := by
  by_cases q : x < 0
  · exact Or.inl q
  · exact Or.inr (fun z => h ⟨by rw [← i_nlt]; exact q, z⟩)
theorem rg_nlt {x y : Int32} (h : 0 ≤ x ∧ x ≤ y) : ¬ x < 0 := by rw [i_nlt]; exact h.1
theorem bit_of {x : Int32} (h : 0 ≤ x ∧ x ≤ 1) : x = 0 ∨ x = 1 := by
  obtain ⟨k, hk, rfl⟩ := rg_of (u := 1) (by omega) h
  rcases (show k = 0 ∨ k = 1 by omega) with rfl | rfl
  · exact Or.inl rfl
  · exact Or.inr rfl
theorem e_isHouse {C : Nat → Mem} {L : MemL} {N : Nat} (hN : C 3 0 4 = nI N) (x : Int32) (post : Int32 → Prop) : wp_X9_isHouse C L x post = post (bI (HB N x)) := by
  unfold wp_X9_isHouse b_X9_isHouse_0 bI HB
  rw [hN]
  by_cases h1 : x < 0 <;> by_cases h2 : nI N ≤ x <;> simp [h1, h2]
theorem e_isGuest {C : Nat → Mem} {L : MemL} {G : Nat} (hG : C 4 0 4 = nI G) (x : Int32) (post : Int32 → Prop) : wp_X9_isGuest C L x post = post (bI (HB G x)) := by
  unfold wp_X9_isGuest b_X9_isGuest_0 bI HB
  rw [hG]
  by_cases h1 : x < 0 <;> by_cases h2 : nI G ≤ x <;> simp [h1, h2]
theorem e_isHouseM {M : Mem} {N : Nat} (hN8 : N ≤ 8) (hN : M 0 7 = nI N) (x : Int32) (post : Int32 → Prop) : wp_X10_isHouse M x post = post (bI (HB N x)) := by
  unfold wp_X10_isHouse b_X10_isHouse_0
  rw [hN, e_inM hN8, zo_and]
theorem e_isGuestM {M : Mem} {G : Nat} (hG8 : G ≤ 8) (hG : M 0 9 = nI G) (x : Int32) (post : Int32 → Prop) : wp_X10_isGuest M x post = post (bI (HB G x)) := by
  unfold wp_X10_isGuest b_X10_isGuest_0
  rw [hG, e_inM hG8, zo_and]
-- texts
def limT (t : Nat) : Nat := if t = 0 then 31 else 47
theorem bit_nI {x : Int32} (h : 0 ≤ x ∧ x ≤ 1) : ∃ t, t < 2 ∧ x = nI t := by
  obtain ⟨k, hk, e⟩ := rg_of (u := 1) (by omega) h
  exact ⟨k, by omega, e⟩
theorem bit_ok {t : Nat} (h : t < 2) : 0 ≤ nI t ∧ nI t ≤ 1 := ⟨nI_pos' (by omega), nI_le (b := 1) (by omega) (by omega)⟩
theorem m_type_bad {M : Mem} {x1 x2 : Int32} (h : ¬ (0 ≤ x1 ∧ x1 ≤ 1) ∨ ¬ (0 ≤ x2 ∧ x2 ≤ 255)) {post : Int32 → Mem → Prop} (hp : post (-2) M) : wp_X10_type M x1 x2 post := by
  unfold wp_X10_type b_X10_type_0
  rw [e_isTwo, bI_z]
  refine ⟨fun _ => hp, fun q => ?_⟩
  rw [e_in (a := 0) (b := 255) x2 0 255 _ rfl rfl, bI_z]
  exact ⟨fun z => (h.elim (fun y => q y) (fun y => z y)).elim, fun _ => hp⟩
theorem lim_if {t : Nat} (ht : t < 2) : (if nI t = 0 then (31 : Int32) else 47) = nI (limT t) := by
  rcases (show t = 0 ∨ t = 1 by omega) with rfl | rfl <;> rfl
theorem m_type {M : Mem} {t n : Nat} (ht : t < 2) (hn : M 6 t = nI n) (hl : n ≤ limT t) {x2 : Int32} (h2 : 0 ≤ x2 ∧ x2 ≤ 255) {post : Int32 → Mem → Prop} (hf : n = limT t → post (-4) M) (hp : n < limT t → post (nI (n + 1)) (up2 (up2 M 5 (48 * t + n) x2) 6 t (nI (n + 1)))) : wp_X10_type M (nI t) x2 post := by
  have hl2 : limT t ≤ 47 := by unfold limT; split <;> omega
  have vt : vp_in (nI t) 2 := vp_in_nI ht (by omega)
  unfold wp_X10_type b_X10_type_0
  rw [e_isTwo, bI_z]
  refine ⟨fun q => absurd (bit_ok ht) q, fun _ => ?_⟩
  rw [e_in (a := 0) (b := 255) x2 0 255 _ rfl rfl, bI_z]
  refine ⟨fun _ => ⟨vt, fun v ev => ?_⟩, fun q => absurd h2 q⟩
  rw [nI_clamp (by omega), hn, ev, lim_if ht, nI_eq (by omega) (by omega)]
  refine ⟨fun q => ?_, fun q => hf q⟩
  rw [show (48 : Int32) = nI 48 from rfl, pk_mul, nI_add, nI_clamp (by omega)]
  refine ⟨vt, vp_in_nI (by unfold limT at hl; split at hl <;> omega) (by omega), fun m8 e8 => ⟨vt, vt, fun m9 e9 => ⟨vt, ?_⟩⟩⟩
  have : m8 6 t = nI n := by rw [e8, up2_c _ (by decide)]; exact hn
  rw [this, nI_1] at e9
  rw [e9, up2_s, e8]
  exact hp (by omega)
theorem REL_txt {C C' : Nat → Mem} {M M' : Mem} {n0 n1 : Nat} (hR : REL C M) (hI : INVC C' n0 n1) (hT : TXM C' M' n0 n1) (k0 : C' 0 = C 0) (k6 : C' 6 = C 6) (k7 : C' 7 = C 7) (h5 : C' 3 0 5 = C 3 0 5) (h6 : C' 3 0 6 = C 3 0 6) (hm : ∀ c, c ≠ 5 → c ≠ 6 → M' c = M c) : REL C' M' := by
  obtain ⟨_, _, -, -, hS, hG, hSh, hf⟩ := hR
  refine ⟨n0, n1, hI, hT, ?_, ?_, fun s hs => ?_, by rw [k0, hm 0 (by decide) (by decide)]; exact hf⟩
  · unfold STT
    rw [h5, h6, hm 9 (by decide) (by decide)]; exact hS
  · unfold SGT
    rw [k6, hm 0 (by decide) (by decide), hm 16 (by decide) (by decide)]; exact hG
  · unfold SHT
    rw [k7, hm 1 (by decide) (by decide), hm 2 (by decide) (by decide), hm 3 (by decide) (by decide)]; exact hSh s hs
theorem p_type {C : Nat → Mem} {L : MemL} {M : Mem} (hR : REL C M) (x1 x2 : Int32) : wp_X9_type C L x1 x2 (fun r C' _ => wp_X10_type M x1 x2 (fun r' M' => r = r' ∧ REL C' M')) := by
  unfold wp_X9_type b_X9_type_0
  rw [e_isBit, bI_z]
  refine ⟨fun q => m_type_bad (Or.inl q) ⟨rfl, hR⟩, fun q => ?_⟩
  have hb : 0 ≤ x1 ∧ x1 ≤ 1 := Classical.not_not.mp q
  by_cases h2 : ¬ (0 ≤ x2 ∧ x2 ≤ 255)
  · have bad := m_type_bad (M := M) (x1 := x1) (x2 := x2) (Or.inr h2) (post := fun r' M' => (-2) = r' ∧ REL C M') ⟨rfl, hR⟩
    rcases rg_not h2 with q | q
    · exact ⟨fun _ => bad, fun z => absurd q z⟩
    · exact ⟨fun _ => bad, fun _ => ⟨fun z => absurd z q, fun _ => bad⟩⟩
  have h2 : 0 ≤ x2 ∧ x2 ≤ 255 := Classical.not_not.mp h2
  refine ⟨fun q => absurd q (rg_nlt h2), fun _ => ⟨fun _ => ?_, fun q => absurd h2.2 q⟩⟩
  obtain ⟨n0, n1, hI, ⟨t0, t1, t2, t3⟩, -, -, -, -⟩ := id hR
  obtain ⟨hT0, hT1, -, -, -⟩ := id hI
  obtain ⟨a0, a1, a3, an, -⟩ := id hT0
  obtain ⟨b0, b1, b3, bn, -⟩ := id hT1
  unfold wp_X9_textOf b_X9_textOf_0
  obtain ⟨t, ht, rfl⟩ := bit_nI hb
  rcases (show t = 0 ∨ t = 1 by omega) with rfl | rfl
  · refine ⟨fun q => absurd rfl q, fun _ => Or.inl ⟨rfl, ?_⟩⟩
    rw [a3]
    refine ⟨fun q => ⟨vp_in_nI ((nI_ltI (b := 31) (by omega) (by omega)).mp q) (by omega), fun C7 e7 C8 e8 => ?_⟩, fun q => ?_⟩
    · have hn : n0 < 31 := (nI_ltI (b := 31) (by omega) (by omega)).mp q
      rw [nI_clamp (by omega)] at e7
      have c71 : C7 1 = up2 (C 1) 1 n0 x2 := by rw [e7]; rfl
      have c81 : C8 1 = up2 (up2 (C 1) 1 n0 x2) 0 3 (nI (n0 + 1)) := by
        rw [e8, up3_s, c71, up2_c _ (by decide), a3, nI_1]
      have c8n : ∀ g, g ≠ 1 → C8 g = C g := fun g hg => by rw [e8, up3_n _ hg, e7, up3_n _ hg]
      refine e_refresh (n0 := n0 + 1) (n1 := n1) ?_ (by rw [c8n 2 (by decide)]; exact hT1) (fun C' hI' hk h5 h6 => ?_)
      · rw [c81]
        refine ⟨by simpa [up2_app] using a0, by simpa [up2_app] using a1, up2_s _ _ _ _, by omega, by omega⟩
      · have c1 : C' 1 = C8 1 := hk 1 (by decide) (by decide) (by decide) (by decide)
        rw [c1, c81, up2_s]
        refine m_type ht t0 (by show n0 ≤ 31; omega) h2 (fun z => absurd z (by show ¬ n0 = 31; omega)) (fun _ => ⟨rfl, ?_⟩)
        refine REL_txt (n0 := n0 + 1) (n1 := n1) hR hI' ⟨up2_s _ _ _ _, ?_, fun i hi => ?_, fun i hi => ?_⟩ (by rw [hk 0 (by decide) (by decide) (by decide) (by decide), c8n 0 (by decide)]) (by rw [hk 6 (by decide) (by decide) (by decide) (by decide), c8n 6 (by decide)]) (by rw [hk 7 (by decide) (by decide) (by decide) (by decide), c8n 7 (by decide)]) (by rw [h5, c8n 3 (by decide)]) (by rw [h6, c8n 3 (by decide)]) (fun c q5 q6 => by rw [up2_c _ q6, up2_c _ q5])
        · rw [up2_i _ (by decide), up2_c _ (by decide)]; exact t1
        · rw [up2_c _ (by decide), c1, c81, up2_c _ (show (1 : Nat) ≠ 0 by decide)]
          by_cases z : i = n0
          · rw [z, show 48 * 0 + n0 = n0 by omega, up2_s, up2_s]
          · rw [up2_i _ (by omega), up2_i _ z]; exact t2 i (by omega)
        · rw [up2_c _ (by decide), up2_i _ (by omega), hk 2 (by decide) (by decide) (by decide) (by decide), c8n 2 (by decide)]
          exact t3 i hi
    · have hn : n0 = 31 := by
        have : ¬ n0 < 31 := fun z => q (nI_lt (b := 31) z (by omega))
        omega
      exact m_type ht t0 (by show n0 ≤ 31; omega) h2 (fun _ => ⟨rfl, hR⟩) (fun z => absurd z (by show ¬ n0 < 31; omega))
  · refine ⟨fun _ => Or.inr ⟨rfl, ?_⟩, fun q => absurd q (by decide)⟩
    rw [b3]
    refine ⟨fun q => ⟨vp_in_nI ((nI_ltI (b := 47) (by omega) (by omega)).mp q) (by omega), fun C7 e7 C8 e8 => ?_⟩, fun q => ?_⟩
    · have hn : n1 < 47 := (nI_ltI (b := 47) (by omega) (by omega)).mp q
      rw [nI_clamp (by omega)] at e7
      have c71 : C7 2 = up2 (C 2) 1 n1 x2 := by rw [e7]; rfl
      have c81 : C8 2 = up2 (up2 (C 2) 1 n1 x2) 0 3 (nI (n1 + 1)) := by
        rw [e8, up3_s, c71, up2_c _ (by decide), b3, nI_1]
      have c8n : ∀ g, g ≠ 2 → C8 g = C g := fun g hg => by rw [e8, up3_n _ hg, e7, up3_n _ hg]
      refine e_refresh (n0 := n0) (n1 := n1 + 1) (by rw [c8n 1 (by decide)]; exact hT0) ?_ (fun C' hI' hk h5 h6 => ?_)
      · rw [c81]
        refine ⟨by simpa [up2_app] using b0, by simpa [up2_app] using b1, up2_s _ _ _ _, by omega, by omega⟩
      · have c1 : C' 2 = C8 2 := hk 2 (by decide) (by decide) (by decide) (by decide)
        rw [c1, c81, up2_s]
        refine m_type ht t1 (by show n1 ≤ 47; omega) h2 (fun z => absurd z (by show ¬ n1 = 47; omega)) (fun _ => ⟨rfl, ?_⟩)
        refine REL_txt (n0 := n0) (n1 := n1 + 1) hR hI' ⟨?_, up2_s _ _ _ _, fun i hi => ?_, fun i hi => ?_⟩ (by rw [hk 0 (by decide) (by decide) (by decide) (by decide), c8n 0 (by decide)]) (by rw [hk 6 (by decide) (by decide) (by decide) (by decide), c8n 6 (by decide)]) (by rw [hk 7 (by decide) (by decide) (by decide) (by decide), c8n 7 (by decide)]) (by rw [h5, c8n 3 (by decide)]) (by rw [h6, c8n 3 (by decide)]) (fun c q5 q6 => by rw [up2_c _ q6, up2_c _ q5])
        · rw [up2_i _ (by decide), up2_c _ (by decide)]; exact t0
        · rw [up2_c _ (by decide), up2_i _ (by omega), hk 1 (by decide) (by decide) (by decide) (by decide), c8n 1 (by decide)]
          exact t2 i hi
        · rw [up2_c _ (by decide), c1, c81, up2_c _ (show (1 : Nat) ≠ 0 by decide)]
          by_cases z : i = n1
          · rw [z, show 48 * 1 + n1 = 48 + n1 by omega, up2_s, up2_s]
          · rw [up2_i _ (by omega), up2_i _ z]; exact t3 i (by omega)
    · have hn : n1 = 47 := by
        have : ¬ n1 < 47 := fun z => q (nI_lt (b := 47) z (by omega))
        omega
      exact m_type ht t1 (by show n1 ≤ 47; omega) h2 (fun _ => ⟨rfl, hR⟩) (fun z => absurd z (by show ¬ n1 < 47; omega))
theorem m_wipe {M : Mem} {t n : Nat} (ht : t < 2) (hn : M 6 t = nI n) {post : Int32 → Mem → Prop} (hp : post (nI n) (up2 M 6 t 0)) : wp_X10_wipe M (nI t) post := by
  have vt : vp_in (nI t) 2 := vp_in_nI ht (by omega)
  unfold wp_X10_wipe b_X10_wipe_0
  rw [e_isTwo, bI_z]
  refine ⟨fun _ => ⟨vt, fun x ex => ⟨vt, fun m4 e4 => ?_⟩⟩, fun q => absurd (bit_ok ht) q⟩
  rw [nI_clamp (by omega)] at ex e4
  rw [ex, e4, hn]
  exact hp
theorem m_undo {M : Mem} {t n : Nat} (ht : t < 2) (hn : M 6 t = nI n) (hn47 : n ≤ 47) {post : Int32 → Mem → Prop} (h0 : n = 0 → post (-3) M) (hp : 0 < n → post (nI (n - 1)) (up2 M 6 t (nI (n - 1)))) : wp_X10_undo M (nI t) post := by
  have vt : vp_in (nI t) 2 := vp_in_nI ht (by omega)
  unfold wp_X10_undo b_X10_undo_0
  rw [e_isTwo, bI_z]
  refine ⟨fun _ => ⟨vt, fun q => ⟨vt, vt, fun m4 e4 => ⟨vt, ?_⟩⟩, fun q => ?_⟩, fun q => absurd (bit_ok ht) q⟩
  · rw [nI_clamp (by omega)] at e4 q ⊢
    rw [hn] at e4 q
    have h1 : 0 < n := by
      rcases Nat.eq_zero_or_pos n with z | z
      · exact absurd (by rw [z]; rfl) q
      · exact z
    rw [show (1 : Int32) = nI 1 from rfl, pk_sub (by omega)] at e4
    rw [e4, up2_s]
    exact hp h1
  · rw [nI_clamp (by omega), hn] at q
    exact h0 ((nI_eq (b := 0) (by omega) (by omega)).mp q)
/-- the class's text t is n bytes long -/
theorem c_len {C : Nat → Mem} {L : MemL} {n0 n1 : Nat} (hI : INVC C n0 n1) {t : Nat} (ht : t < 2) (n' : Nat) (hn' : n' ≤ (if t = 0 then n0 else n1)) {post : (Nat → Mem) → MemL → Prop} {C5 : Nat → Mem} (e5 : C5 = up3 C (t + 1) (up2 (C (t + 1)) 0 3 (nI n'))) (h : ∀ C', INVC C' (if t = 0 then n' else n0) (if t = 0 then n1 else n') → C' 0 = C 0 → C' 6 = C 6 → C' 7 = C 7 → C' 3 0 5 = C 3 0 5 → C' 3 0 6 = C 3 0 6 → C' 1 1 = C 1 1 → C' 2 1 = C 2 1 → C' (t + 1) 0 3 = nI n' → post C' L) : wp_X9_refresh C5 L post := by
  obtain ⟨hT0, hT1, -, -, -⟩ := id hI
  obtain ⟨a0, a1, a3, an, -⟩ := id hT0
  obtain ⟨b0, b1, b3, bn, -⟩ := id hT1
  rcases (show t = 0 ∨ t = 1 by omega) with rfl | rfl
  · have c1 : C5 1 = up2 (C 1) 0 3 (nI n') := by rw [e5]; rfl
    have cn : ∀ g, g ≠ 1 → C5 g = C g := fun g hg => by rw [e5, up3_n _ hg]
    simp only [if_true] at hn' h
    refine e_refresh (n0 := n') (n1 := n1) ?_ (by rw [cn 2 (by decide)]; exact hT1) (fun C' hI' hk h5 h6 => ?_)
    · rw [c1]
      exact ⟨by simpa [up2_app] using a0, by simpa [up2_app] using a1, up2_s _ _ _ _, by omega, by omega⟩
    · refine h C' hI' ?_ ?_ ?_ ?_ ?_ ?_ ?_ ?_
      · rw [hk 0 (by decide) (by decide) (by decide) (by decide), cn 0 (by decide)]
      · rw [hk 6 (by decide) (by decide) (by decide) (by decide), cn 6 (by decide)]
      · rw [hk 7 (by decide) (by decide) (by decide) (by decide), cn 7 (by decide)]
      · rw [h5, cn 3 (by decide)]
      · rw [h6, cn 3 (by decide)]
      · rw [hk 1 (by decide) (by decide) (by decide) (by decide), c1, up2_c _ (by decide)]
      · rw [hk 2 (by decide) (by decide) (by decide) (by decide), cn 2 (by decide)]
      · rw [hk 1 (by decide) (by decide) (by decide) (by decide), c1, up2_s]
  · have c1 : C5 2 = up2 (C 2) 0 3 (nI n') := by rw [e5]; rfl
    have cn : ∀ g, g ≠ 2 → C5 g = C g := fun g hg => by rw [e5, up3_n _ hg]
    simp only [Nat.one_ne_zero, if_false] at hn' h
    refine e_refresh (n0 := n0) (n1 := n') (by rw [cn 1 (by decide)]; exact hT0) ?_ (fun C' hI' hk h5 h6 => ?_)
    · rw [c1]
      exact ⟨by simpa [up2_app] using b0, by simpa [up2_app] using b1, up2_s _ _ _ _, by omega, by omega⟩
    · refine h C' hI' ?_ ?_ ?_ ?_ ?_ ?_ ?_ ?_
      · rw [hk 0 (by decide) (by decide) (by decide) (by decide), cn 0 (by decide)]
      · rw [hk 6 (by decide) (by decide) (by decide) (by decide), cn 6 (by decide)]
      · rw [hk 7 (by decide) (by decide) (by decide) (by decide), cn 7 (by decide)]
      · rw [h5, cn 3 (by decide)]
      · rw [h6, cn 3 (by decide)]
      · rw [hk 1 (by decide) (by decide) (by decide) (by decide), cn 1 (by decide)]
      · rw [hk 2 (by decide) (by decide) (by decide) (by decide), c1, up2_c _ (by decide)]
      · rw [hk 2 (by decide) (by decide) (by decide) (by decide), c1, up2_s]
theorem TXM_len {C C' : Nat → Mem} {M : Mem} {n0 n1 n' t : Nat} (ht : t < 2) (h : TXM C M n0 n1) (hn' : n' ≤ (if t = 0 then n0 else n1)) (k1 : C' 1 1 = C 1 1) (k2 : C' 2 1 = C 2 1) : TXM C' (up2 M 6 t (nI n')) (if t = 0 then n' else n0) (if t = 0 then n1 else n') := by
  obtain ⟨t0, t1, t2, t3⟩ := h
  unfold TXM
  rw [k1, k2, up2_c M (show (5 : Nat) ≠ 6 by decide)]
  rcases (show t = 0 ∨ t = 1 by omega) with rfl | rfl
  · simp only [if_true] at hn' ⊢
    exact ⟨up2_s _ _ _ _, by rw [up2_i _ (by decide)]; exact t1, fun i hi => t2 i (by omega), t3⟩
  · simp only [Nat.one_ne_zero, if_false] at hn' ⊢
    exact ⟨by rw [up2_i _ (by decide)]; exact t0, up2_s _ _ _ _, t2, fun i hi => t3 i (by omega)⟩
theorem p_wipe {C : Nat → Mem} {L : MemL} {M : Mem} (hR : REL C M) (x1 : Int32) : wp_X9_wipe C L x1 (fun r C' _ => wp_X10_wipe M x1 (fun r' M' => r = r' ∧ REL C' M')) := by
  unfold wp_X9_wipe b_X9_wipe_0
  rw [e_isBit, bI_z]
  refine ⟨fun q => ?_, fun q => ?_⟩
  · have hb : 0 ≤ x1 ∧ x1 ≤ 1 := Classical.not_not.mp q
    obtain ⟨n0, n1, hI, hT, -, -, -, -⟩ := id hR
    obtain ⟨hT0, hT1, -, -, -⟩ := id hI
    obtain ⟨t, ht, rfl⟩ := bit_nI hb
    unfold wp_X9_textOf b_X9_textOf_0
    rcases (show t = 0 ∨ t = 1 by omega) with rfl | rfl
    · refine ⟨fun q => absurd rfl q, fun _ => Or.inl ⟨rfl, fun x3 e3 C5 e5 => ?_⟩⟩
      refine c_len hI ht 0 (Nat.zero_le _) e5 (fun C' hI' k0 k6 k7 h5 h6 k1 k2 kl => m_wipe ht hT.1 ⟨e3.trans hT0.2.2.1, REL_txt hR hI' (TXM_len (n' := 0) ht hT (Nat.zero_le _) k1 k2) k0 k6 k7 h5 h6 (fun c q5 q6 => up2_c _ q6)⟩)
    · refine ⟨fun _ => Or.inr ⟨rfl, fun x3 e3 C5 e5 => ?_⟩, fun q => absurd q (by decide)⟩
      refine c_len hI ht 0 (Nat.zero_le _) e5 (fun C' hI' k0 k6 k7 h5 h6 k1 k2 kl => m_wipe ht hT.2.1 ⟨e3.trans hT1.2.2.1, REL_txt hR hI' (TXM_len (n' := 0) ht hT (Nat.zero_le _) k1 k2) k0 k6 k7 h5 h6 (fun c q5 q6 => up2_c _ q6)⟩)
  · dsimp only
    unfold wp_X10_wipe b_X10_wipe_0
    rw [e_isTwo, bI_z]
    exact ⟨fun z => absurd q z, fun _ => ⟨rfl, hR⟩⟩
theorem p_undo {C : Nat → Mem} {L : MemL} {M : Mem} (hR : REL C M) (x1 : Int32) : wp_X9_undo C L x1 (fun r C' _ => wp_X10_undo M x1 (fun r' M' => r = r' ∧ REL C' M')) := by
  unfold wp_X9_undo b_X9_undo_0
  rw [e_isBit, bI_z]
  refine ⟨fun q => ?_, fun q => ?_⟩
  · have hb : 0 ≤ x1 ∧ x1 ≤ 1 := Classical.not_not.mp q
    obtain ⟨n0, n1, hI, hT, -, -, -, -⟩ := id hR
    obtain ⟨hT0, hT1, -, -, -⟩ := id hI
    have hn0 := hT0.2.2.2.1
    have hn1 := hT1.2.2.2.1
    have z1 : ∀ k : Nat, k < 2 ^ 31 → ¬ nI k = 0 → 0 < k := fun k hk q => by
      rcases Nat.eq_zero_or_pos k with z | z
      · exact absurd (by rw [z]; rfl) q
      · exact z
    obtain ⟨t, ht, rfl⟩ := bit_nI hb
    unfold wp_X9_textOf b_X9_textOf_0
    rcases (show t = 0 ∨ t = 1 by omega) with rfl | rfl
    · refine ⟨fun q => absurd rfl q, fun _ => Or.inl ⟨rfl, ?_⟩⟩
      rw [hT0.2.2.1]
      refine ⟨fun q C5 e5 => ?_, fun q => m_undo ht hT.1 (by omega) (fun _ => ⟨rfl, hR⟩) (fun z => absurd ((nI_eq (b := 0) (by omega) (by omega)).mp q) (by omega))⟩
      have hp := z1 n0 (by omega) q
      rw [show (1 : Int32) = nI 1 from rfl, pk_sub (by omega)] at e5
      refine c_len hI ht (n0 - 1) (Nat.sub_le _ _) e5 (fun C' hI' k0 k6 k7 h5 h6 k1 k2 kl => m_undo ht hT.1 (by omega) (fun z => absurd z (by omega)) (fun _ => ⟨kl, REL_txt hR hI' (TXM_len (n' := n0 - 1) ht hT (Nat.sub_le _ _) k1 k2) k0 k6 k7 h5 h6 (fun c q5 q6 => up2_c _ q6)⟩))
    · refine ⟨fun _ => Or.inr ⟨rfl, ?_⟩, fun q => absurd q (by decide)⟩
      rw [hT1.2.2.1]
      refine ⟨fun q C5 e5 => ?_, fun q => m_undo ht hT.2.1 (by omega) (fun _ => ⟨rfl, hR⟩) (fun z => absurd ((nI_eq (b := 0) (by omega) (by omega)).mp q) (by omega))⟩
      have hp := z1 n1 (by omega) q
      rw [show (1 : Int32) = nI 1 from rfl, pk_sub (by omega)] at e5
      refine c_len hI ht (n1 - 1) (Nat.sub_le _ _) e5 (fun C' hI' k0 k6 k7 h5 h6 k1 k2 kl => m_undo ht hT.2.1 (by omega) (fun z => absurd z (by omega)) (fun _ => ⟨kl, REL_txt hR hI' (TXM_len (n' := n1 - 1) ht hT (Nat.sub_le _ _) k1 k2) k0 k6 k7 h5 h6 (fun c q5 q6 => up2_c _ q6)⟩))
  · dsimp only
    unfold wp_X10_undo b_X10_undo_0
    rw [e_isTwo, bI_z]
    exact ⟨fun z => absurd q z, fun _ => ⟨rfl, hR⟩⟩
