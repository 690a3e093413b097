-- what the bytes tell
def hk (b : Nat → Int32) (h : Nat) : Int32 := kdI (b (h * 4))
def hp (b : Nat → Int32) (h : Nat) : Int32 := b (h * 4 + 1) - 48
def hc (b : Nat → Int32) (h : Nat) : Int32 := b (h * 4 + 2) - 48
def gh (b : Nat → Int32) (g : Nat) : Int32 := 10 * (b (g * 6) - 48) + (b (g * 6 + 1) - 48)
def gb (b : Nat → Int32) (g : Nat) : Int32 := b (g * 6 + 2) - 48
def gd (b : Nat → Int32) (g : Nat) : Int32 := if b (g * 6 + 3) = 100 then 1 else 0
def gr (b : Nat → Int32) (g : Nat) : Int32 := b (g * 6 + 4) - 48
def ordI (tu : Int32) (N h : Nat) : Int32 := if tu = 1 then nI (N - 1 - h) else nI h
def NHb (b : Nat → Int32) (n : Nat) : Nat := NTH (okT true b) n 4
def NGb (b : Nat → Int32) (n : Nat) : Nat := NTH (okT false b) n 6
theorem NHb_le {b : Nat → Int32} {n : Nat} (h : n ≤ 31) : NHb b n ≤ 8 := by
  unfold NHb NTH
  split
  · omega
  · split <;> omega
theorem NGb_le {b : Nat → Int32} {n : Nat} (h : n ≤ 47) : NGb b n ≤ 8 := by
  unfold NGb NTH
  split
  · omega
  · split <;> omega
def RH (b : Nat → Int32) (tu : Int32) (N h : Nat) (m : Mem) : Prop := m 1 h = hk b h ∧ m 2 h = hp b h ∧ m 3 h = hc b h ∧ m 4 h = ordI tu N h
def ROWP (b : Nat → Int32) (N : Nat) (tu em : Int32) (m : Mem) : Prop := m 0 4 = nI N ∧ m 0 5 = tu ∧ m 0 6 = em ∧ ∀ h, h < N → RH b tu N h m
theorem e_rowParse {n : Nat} {m0 m1 : Mem} (hT : TXT true 31 n m1) {post : Mem → Prop} (h : ∀ m, ROWP (m1 1) (NHb (m1 1) n) (m0 0 5) (m0 0 6) m → post m) : wp_X4_parse m0 31 m1 post := by
  obtain ⟨-, -, -, hn, -⟩ := id hT
  unfold wp_X4_parse b_X4_parse_0
  refine e_things hT ?_
  have hN8 := NHb_le (b := m1 1) hn
  have hlt : ∀ t, t < NHb (m1 1) n → t * 4 + 3 ≤ n := fun t ht => (NTH_lt (st := 4) ht (by omega)).1
  change ∀ m2 : Mem, m2 = up2 m0 0 4 (if 8 < nI (NHb (m1 1) n) then 8 else nI (NHb (m1 1) n)) → _
  generalize NHb (m1 1) n = N at *
  intro m2 em2
  rw [if_neg (show ¬ (8 : Int32) < nI N from nI_nlt (a := 8) hN8 (by omega))] at em2
  refine loop_0 (fun k i m => b_X4_parse_15 31 m1 post k (nI i) m) (fun i m => m 0 4 = nI N ∧ m 0 5 = m0 0 5 ∧ m 0 6 = m0 0 6 ∧ ∀ h, h < i → RH (m1 1) (m0 0 5) N h m) N m2 ?_ ?_ ?_
  · subst em2
    exact ⟨by simp [up2_app], by simp [up2_app], by simp [up2_app], fun h hh => absurd hh (Nat.not_lt_zero h)⟩
  · intro k m hI
    unfold b_X4_parse_15
    rw [hI.1]
    exact ⟨fun _ => h m hI, fun q => absurd (nI_le (Nat.le_refl N) (by omega)) q⟩
  · intro k i m hi hI ih
    obtain ⟨i4, i5, i6, ih'⟩ := hI
    unfold b_X4_parse_15
    rw [i4]
    refine ⟨fun q => absurd q (nI_ge hi (by omega)), fun _ => ?_⟩
    have hv : vp_in (nI i) 8 := vp_in_nI (by omega) (by omega)
    have hc9 : (nI i).toNatClampNeg = i := nI_clamp (by omega)
    have hl := hlt i hi
    refine e_byteOf (t := i) (k := 0) hT (show i * 4 + 0 < n by omega) ?_
    rw [e_kindOf]
    refine ⟨hv, fun m4 e4 => e_figureOf (t := i) (k := 1) hT (show i * 4 + 1 < n by omega) ⟨hv, fun m6 e6 => e_figureOf (t := i) (k := 2) hT (show i * 4 + 2 < n by omega) ⟨hv, fun m8 e8 v ev => ⟨hv, fun m9 e9 y ey => ?_⟩⟩⟩⟩
    rw [hc9] at e4 e6 e8 e9
    subst ey
    rw [nI_1]
    refine ih m9 ?_
    have hv2 : v = ordI (m0 0 5) N i := by
      rw [ev]
      unfold ordI
      have : m8 0 5 = m0 0 5 := by rw [e8, e6, e4]; simp [up2_app, i5]
      rw [this]
      have : m8 0 4 = nI N := by rw [e8, e6, e4]; simp [up2_app, i4]
      rw [this, show (1 : Int32) = nI 1 from rfl, pk_sub (by omega), pk_sub (by omega)]
    subst e9 e8 e6 e4
    refine ⟨by simp [up2_app, i4], by simp [up2_app, i5], by simp [up2_app, i6], lt_s (fun a ha => ?_) ?_⟩
    · obtain ⟨a1, a2, a3, a4⟩ := ih' a ha
      have hne : a ≠ i := by omega
      exact ⟨by simp [up2_app, hne, a1], by simp [up2_app, hne, a2], by simp [up2_app, hne, a3], by simp [up2_app, hne, a4]⟩
    · exact ⟨by simp [up2_app, hk, stT], by simp [up2_app, hp, stT], by simp [up2_app, hc, stT], by simp [up2_app, hv2]⟩
def GG (b : Nat → Int32) (g : Nat) (m : Mem) : Prop := m 1 g = gh b g ∧ m 2 g = gb b g ∧ m 3 g = gd b g ∧ m 4 g = gr b g
def GSTP (b : Nat → Int32) (N : Nat) (m : Mem) : Prop := m 0 4 = nI N ∧ ∀ g, g < N → GG b g m
theorem e_guestParse {n : Nat} {m0 m1 : Mem} (hT : TXT false 47 n m1) {post : Mem → Prop} (h : ∀ m, GSTP (m1 1) (NGb (m1 1) n) m → post m) : wp_X2_parse m0 47 m1 post := by
  obtain ⟨-, -, -, hn, -⟩ := id hT
  unfold wp_X2_parse b_X2_parse_0
  refine e_things hT ?_
  have hN8 := NGb_le (b := m1 1) hn
  have hlt : ∀ t, t < NGb (m1 1) n → t * 6 + 5 ≤ n := fun t ht => (NTH_lt (st := 6) ht (by omega)).1
  change ∀ m2 : Mem, m2 = up2 m0 0 4 (if 8 < nI (NGb (m1 1) n) then 8 else nI (NGb (m1 1) n)) → _
  generalize NGb (m1 1) n = N at *
  intro m2 em2
  rw [if_neg (show ¬ (8 : Int32) < nI N from nI_nlt (a := 8) hN8 (by omega))] at em2
  refine loop_0 (fun k i m => b_X2_parse_15 47 m1 post k (nI i) m) (fun i m => m 0 4 = nI N ∧ ∀ g, g < i → GG (m1 1) g m) N m2 ?_ ?_ ?_
  · subst em2
    exact ⟨by simp [up2_app], fun h hh => absurd hh (Nat.not_lt_zero h)⟩
  · intro k m hI
    unfold b_X2_parse_15
    rw [hI.1]
    exact ⟨fun _ => h m hI, fun q => absurd (nI_le (Nat.le_refl N) (by omega)) q⟩
  · intro k i m hi hI ih
    obtain ⟨i4, ih'⟩ := hI
    unfold b_X2_parse_15
    rw [i4]
    refine ⟨fun q => absurd q (nI_ge hi (by omega)), fun _ => ?_⟩
    have hv : vp_in (nI i) 8 := vp_in_nI (by omega) (by omega)
    have hc9 : (nI i).toNatClampNeg = i := nI_clamp (by omega)
    have hl := hlt i hi
    refine e_figureOf (t := i) (k := 0) hT (show i * 6 + 0 < n by omega) (e_figureOf (t := i) (k := 1) hT (show i * 6 + 1 < n by omega) ⟨hv, fun m4 e4 => e_figureOf (t := i) (k := 2) hT (show i * 6 + 2 < n by omega) ⟨hv, fun m6 e6 => e_byteOf (t := i) (k := 3) hT (show i * 6 + 3 < n by omega) (fun v ev => ⟨hv, fun m8 e8 => e_figureOf (t := i) (k := 4) hT (show i * 6 + 4 < n by omega) ⟨hv, fun m9 e9 y ey => ?_⟩⟩)⟩⟩)
    rw [hc9] at e4 e6 e8 e9
    subst ey
    rw [nI_1]
    refine ih m9 ?_
    subst e9 e8 ev e6 e4
    refine ⟨by simp [up2_app, i4], lt_s (fun a ha => ?_) ?_⟩
    · obtain ⟨a1, a2, a3, a4⟩ := ih' a ha
      have hne : a ≠ i := by omega
      exact ⟨by simp [up2_app, hne, a1], by simp [up2_app, hne, a2], by simp [up2_app, hne, a3], by simp [up2_app, hne, a4]⟩
    · exact ⟨by simp [up2_app, gh, stT], by simp [up2_app, gb, stT], by simp [up2_app, gd, stT], by simp [up2_app, gr, stT]⟩
-- figures
theorem fig_of {b lo hi : Int32} {l u : Nat} (hl : lo = nI l) (hh : hi = nI u) (h1 : lo ≤ b) (h2 : b ≤ hi) (hu : u < 2 ^ 31) (hlu : l < 2 ^ 31) : ∃ d, l ≤ d ∧ d ≤ u ∧ b = nI d := by
  subst hl hh
  have h0 : ¬ b < 0 := by
    rw [i_le, nI_toInt hlu] at h1
    rw [i_lt]
    have : (0 : Int32).toInt = 0 := rfl
    omega
  obtain ⟨j, hj, rfl⟩ := nI_of h0
  exact ⟨j, (nI_leI hlu hj).mp h1, (nI_leI hj hu).mp h2, rfl⟩
theorem fig9 {b : Int32} (h1 : 48 ≤ b) (h2 : b ≤ 57) : ∃ d, d ≤ 9 ∧ b = nI (48 + d) ∧ b - 48 = nI d := by
  obtain ⟨d, a1, a2, rfl⟩ := fig_of (l := 48) (u := 57) rfl rfl h1 h2 (by omega) (by omega)
  refine ⟨d - 48, by omega, by congr 1; omega, ?_⟩
  rw [show (48 : Int32) = nI 48 from rfl, pk_sub (by omega)]
theorem nI_ne_neg {n : Nat} (h : n < 2 ^ 31) {z : Int32} (hz : z < 0) : ¬ nI n = z := fun e => nI_pos h (e ▸ hz)
-- the reference's reading
theorem e_figOfM (b lo hi : Int32) (post : Int32 → Prop) : wp_X10_figureOf b lo hi post = post (if 48 + lo ≤ b ∧ b ≤ 48 + hi then b - 48 else (-9)) := by
  unfold wp_X10_figureOf b_X10_figureOf_0
  rw [e_in b (48 + lo) (48 + hi) _ rfl rfl]
  simp only [bI_z, forall_eq]
  by_cases q : 48 + lo ≤ b ∧ b ≤ 48 + hi <;> simp [q]
def vH (k : Nat) (b : Int32) : Int32 := if k = 0 then kdI b else if k = 3 then 0 else b - 48
theorem e_houseOf {k : Nat} (hk : k < 4) (b : Int32) (post : Int32 → Prop) : wp_X10_houseOf (nI k) b post = post (if fitH k b = true then vH k b else (-9)) := by
  unfold wp_X10_houseOf b_X10_houseOf_0
  simp only [e_figOfM]
  rcases (show k = 0 ∨ k = 1 ∨ k = 2 ∨ k = 3 by omega) with rfl | rfl | rfl | rfl
  · simp only [show nI 0 = 0 from rfl, fitH, vH, kdI]
    by_cases h1 : b = 112
    · simp [h1]
    · by_cases h2 : b = 115
      · simp [h2]
      · by_cases h3 : b = 118
        · simp [h3]
        · by_cases h4 : b = 119 <;> simp [h1, h2, h3, h4]
  · simp only [show nI 1 = 1 from rfl, fitH, vH]
    simp
  · simp only [show nI 2 = 2 from rfl, fitH, vH]
    simp
  · simp only [show nI 3 = 3 from rfl, fitH, vH]
    by_cases h : b = 59 <;> simp [h]
theorem kdI_rng (b : Int32) : kdI b = (-1) ∨ ∃ d, d ≤ 3 ∧ kdI b = nI d := by
  unfold kdI
  split
  · exact Or.inr ⟨0, by omega, rfl⟩
  · split
    · exact Or.inr ⟨1, by omega, rfl⟩
    · split
      · exact Or.inr ⟨3, by omega, rfl⟩
      · split
        · exact Or.inr ⟨2, by omega, rfl⟩
        · exact Or.inl rfl
theorem vH_rng {k : Nat} {b : Int32} (hk : k < 4) (h : fitH k b = true) : ∃ d, d ≤ 9 ∧ vH k b = nI d := by
  rcases (show k = 0 ∨ k = 1 ∨ k = 2 ∨ k = 3 by omega) with rfl | rfl | rfl | rfl
  · simp only [fitH, vH, if_true, decide_eq_true_eq] at h ⊢
    rcases kdI_rng b with q | ⟨d, hd, q⟩
    · exact absurd q h
    · exact ⟨d, by omega, q⟩
  · simp [fitH] at h
    simp only [vH]
    obtain ⟨d, hd, -, e⟩ := fig9 (b := b) (by rw [i_le] at *; have : (48 : Int32).toInt = 48 := rfl; have : (49 : Int32).toInt = 49 := rfl; omega) h.2
    exact ⟨d, hd, by simpa using e⟩
  · simp [fitH] at h
    simp only [vH]
    obtain ⟨d, hd, -, e⟩ := fig9 h.1 h.2
    exact ⟨d, hd, by simpa using e⟩
  · exact ⟨0, by omega, rfl⟩
def vG (k : Nat) (b : Int32) : Int32 := if k = 3 then (if b = 100 then 1 else 0) else if k = 5 then 0 else b - 48
theorem e_guestOf {k : Nat} (hk : k < 6) (b : Int32) (post : Int32 → Prop) : wp_X10_guestOf (nI k) b post = post (if fitG k b = true then vG k b else (-9)) := by
  unfold wp_X10_guestOf b_X10_guestOf_0
  simp only [e_figOfM]
  rcases (show k = 0 ∨ k = 1 ∨ k = 2 ∨ k = 3 ∨ k = 4 ∨ k = 5 by omega) with rfl | rfl | rfl | rfl | rfl | rfl
  · simp only [show nI 0 = 0 from rfl, fitG, vG]
    simp
  · simp only [show nI 1 = 1 from rfl, fitG, vG]
    simp
  · simp only [show nI 2 = 2 from rfl, fitG, vG]
    simp
  · simp only [show nI 3 = 3 from rfl, fitG, vG]
    by_cases h : b = 100 <;> by_cases h2 : b = 117 <;> simp [h, h2]
  · simp only [show nI 4 = 4 from rfl, fitG, vG]
    simp
  · simp only [show nI 5 = 5 from rfl, fitG, vG]
    by_cases h : b = 59 <;> simp [h]
theorem vG_rng {k : Nat} {b : Int32} (hk : k < 6) (h : fitG k b = true) : ∃ d, d ≤ 9 ∧ vG k b = nI d := by
  rcases (show k = 0 ∨ k = 1 ∨ k = 2 ∨ k = 3 ∨ k = 4 ∨ k = 5 by omega) with rfl | rfl | rfl | rfl | rfl | rfl
  · simp [fitG] at h
    obtain ⟨d, hd, -, e⟩ := fig9 h.1 h.2
    exact ⟨d, hd, by simpa [vG] using e⟩
  · simp [fitG] at h
    obtain ⟨d, hd, -, e⟩ := fig9 h.1 h.2
    exact ⟨d, hd, by simpa [vG] using e⟩
  · simp [fitG] at h
    obtain ⟨d, hd, -, e⟩ := fig9 h.1 (by have h2 := h.2; rw [i_le] at h2 ⊢; have : (55 : Int32).toInt = 55 := rfl; have : (57 : Int32).toInt = 57 := rfl; omega)
    exact ⟨d, hd, by simpa [vG] using e⟩
  · by_cases h : b = 100
    · exact ⟨1, by omega, by simp [vG, h]; rfl⟩
    · exact ⟨0, by omega, by simp [vG, h]; rfl⟩
  · simp [fitG] at h
    obtain ⟨d, hd, -, e⟩ := fig9 h.1 h.2
    exact ⟨d, hd, by simpa [vG] using e⟩
  · exact ⟨0, by omega, rfl⟩

-- the reference's houses
def MFx (c0 s0 : Nat) (M M' : Mem) : Prop := (∀ c, c ≠ 0 → c ≠ c0 → M' c = M c) ∧ ∀ k, k ≠ s0 → M' 0 k = M 0 k
theorem MFx_rf (c0 s0 : Nat) (M : Mem) : MFx c0 s0 M M := ⟨fun _ _ _ => rfl, fun _ _ => rfl⟩
theorem MFx_arr {c0 s0 : Nat} {M M1 : Mem} (h : MFx c0 s0 M M1) (h0 : c0 ≠ 0) (i : Nat) (x : Int32) : MFx c0 s0 M (up2 M1 c0 i x) :=
  ⟨fun c h1 h2 => (up2_c M1 h2).trans (h.1 c h1 h2), fun k hk => by rw [up2_c M1 (Ne.symm h0)]; exact h.2 k hk⟩
theorem MFx_sc {c0 s0 : Nat} {M M1 : Mem} (h : MFx c0 s0 M M1) (x : Int32) : MFx c0 s0 M (up2 M1 0 s0 x) :=
  ⟨fun c h1 h2 => (up2_c M1 h1).trans (h.1 c h1 h2), fun k hk => by rw [up2_i M1 hk]; exact h.2 k hk⟩
def HVk (b : Nat → Int32) (h : Nat) (M : Mem) : Prop := M 7 (3 * h) = hk b h ∧ M 7 (3 * h + 1) = hp b h ∧ M 7 (3 * h + 2) = hc b h
def HV (b : Nat → Int32) (N : Nat) (M : Mem) : Prop := M 0 7 = nI N ∧ ∀ h, h < N → HVk b h M
theorem NTH_of_pre {ok : Nat → Bool} {n st : Nat} (hp : pre ok n = n) (h : n = 0 ∨ n % st = st - 1) : NTH ok n st = (n + 1) / st := by
  unfold NTH
  rw [hp, if_neg (Nat.lt_irrefl n), if_pos h]
theorem NTH_of_lt {ok : Nat → Bool} {n st : Nat} (hp : pre ok n < n) : NTH ok n st = 0 := by
  unfold NTH
  rw [if_pos hp]
theorem NTH_of_mid {ok : Nat → Bool} {n st : Nat} (h : ¬ (n = 0 ∨ n % st = st - 1)) : NTH ok n st = 0 := by
  unfold NTH
  split
  · rfl
  · rfl
theorem ite_nI {α : Type} {a b : Nat} {x y : α} (ha : a < 2 ^ 31) (hb : b < 2 ^ 31) : (if nI a = nI b then x else y) = if a = b then x else y := by
  by_cases h : a = b
  · rw [if_pos h, if_pos ((nI_eq ha hb).mpr h)]
  · rw [if_neg h, if_neg (fun e => h ((nI_eq ha hb).mp e))]
theorem vp0 {N : Nat} (h : 0 < N) (hN : N < 2 ^ 31) : vp_in 0 N := vp_in_nI (n := 0) h hN
theorem vp1 {N : Nat} (h : 1 < N) (hN : N < 2 ^ 31) : vp_in 1 N := vp_in_nI (n := 1) h hN
theorem e_readsHouses {n : Nat} {M : Mem} (hn : M 6 0 = nI n) (hn31 : n ≤ 31) {post : Int32 → Mem → Prop} (h : ∀ M', HV (M 5) (NHb (M 5) n) M' → MFx 7 7 M M' → post (FLT (okT true (M 5)) n 4) M') : wp_X10_readsHouses M post := by
  unfold wp_X10_readsHouses b_X10_readsHouses_0
  intro M1 eM1
  refine ⟨vp0 (by decide) (by decide), ?_⟩
  have e6 : M1 6 (Int32.toNatClampNeg 0) = nI n := by subst eM1; rw [up2_c M (by decide)]; exact hn
  rw [e6]
  intro x1 ex1
  subst ex1
  refine loop_0 (fun k i m => b_X10_readsHouses_14 post k (nI n) (nI i) m) (fun i m => MFx 7 7 M m ∧ m 0 7 = nI ((i + 1) / 4) ∧ (∀ j, j < i → okT true (M 5) j = true) ∧ ∀ j, j < i → j % 4 < 3 → m 7 (3 * (j / 4) + j % 4) = vH (j % 4) (M 5 j)) n M1 ?_ ?_ ?_
  · subst eM1
    exact ⟨MFx_sc (MFx_rf 7 7 M) 0, up2_s M 0 7 0, fun j hj => absurd hj (Nat.not_lt_zero j), fun j hj => absurd hj (Nat.not_lt_zero j)⟩
  · intro k m hI
    obtain ⟨hF, h7, hok, hv⟩ := hI
    unfold b_X10_readsHouses_14
    have hp := pre_all hok
    unfold FLT at h
    rw [hp, if_neg (Nat.lt_irrefl n)] at h
    have good : (n = 0 ∨ n % 4 = 4 - 1) → post (-1) m := by
      intro q
      rw [if_pos q] at h
      have hN : NHb (M 5) n = (n + 1) / 4 := NTH_of_pre hp q
      refine h m ⟨by rw [hN]; exact h7, fun a ha => ?_⟩ hF
      have hl := (NTH_lt (st := 4) ha (by omega)).1
      have g0 := hv (4 * a) (by omega) (by omega)
      have g1 := hv (4 * a + 1) (by omega) (by omega)
      have g2 := hv (4 * a + 2) (by omega) (by omega)
      rw [show 4 * a / 4 = a by omega, show 4 * a % 4 = 0 by omega] at g0
      rw [show (4 * a + 1) / 4 = a by omega, show (4 * a + 1) % 4 = 1 by omega] at g1
      rw [show (4 * a + 2) / 4 = a by omega, show (4 * a + 2) % 4 = 2 by omega] at g2
      refine ⟨g0.trans ?_, g1.trans ?_, g2.trans ?_⟩
      · rw [Nat.mul_comm 4 a]; rfl
      · rw [Nat.mul_comm 4 a]; rfl
      · rw [Nat.mul_comm 4 a]; rfl
    refine ⟨fun _ => ⟨fun q => ?_, fun q => ⟨fun q2 => ?_, fun q2 => ?_⟩⟩, fun q => absurd (nI_le (Nat.le_refl n) (by omega)) q⟩
    · have e0 : n ≤ 0 := (nI_leI (by omega) (by omega)).mp (show nI n ≤ nI 0 from q)
      exact good (Or.inl (by omega))
    · rw [show (4 : Int32) = nI 4 from rfl, pk_rem (by omega) (by omega) (by omega), show (3 : Int32) = nI 3 from rfl, nI_eq (by omega) (by omega)] at q2
      exact good (Or.inr q2)
    · rw [show (4 : Int32) = nI 4 from rfl, pk_rem (by omega) (by omega) (by omega), show (3 : Int32) = nI 3 from rfl, nI_eq (by omega) (by omega)] at q2
      intro m4 e4
      have hn0 : ¬ n ≤ 0 := fun e => q (show nI n ≤ nI 0 from nI_le e (by omega))
      have q3 : ¬ (n = 0 ∨ n % 4 = 4 - 1) := by omega
      rw [if_neg q3] at h
      subst e4
      refine h _ ⟨?_, fun a ha => ?_⟩ (MFx_sc hF 0)
      · rw [up2_s, show NHb (M 5) n = 0 from NTH_of_mid q3]; rfl
      · rw [show NHb (M 5) n = 0 from NTH_of_mid q3] at ha
        omega
  · intro k i m hi hI ih
    obtain ⟨hF, h7, hok, hv⟩ := hI
    unfold b_X10_readsHouses_14
    refine ⟨fun q => absurd q (nI_ge hi (by omega)), fun _ => ?_⟩
    intro x3 ex3
    rw [show (4 : Int32) = nI 4 from rfl, pk_rem (by omega) (by omega) (by omega)] at ex3
    subst ex3
    refine ⟨vp_in_nI (by omega) (by omega), ?_⟩
    have hm4 : i % 4 < 4 := Nat.mod_lt _ (by omega)
    rw [nI_clamp (by omega), hF.1 5 (by decide) (by decide), e_houseOf hm4]
    by_cases hf : fitH (i % 4) (M 5 i) = true
    · rw [if_pos hf]
      obtain ⟨d, hd, ed⟩ := vH_rng hm4 hf
      have hok' : ∀ j, j < i + 1 → okT true (M 5) j = true := lt_s hok hf
      refine ⟨fun _ => ?_, fun q => absurd q (by rw [ed]; exact nI_ne_neg (by omega) (by decide))⟩
      have fin : ∀ m', MFx 7 7 M m' → m' 0 7 = nI ((i + 1) / 4) → (∀ j, j < i + 1 → j % 4 < 3 → m' 7 (3 * (j / 4) + j % 4) = vH (j % 4) (M 5 j)) → b_X10_readsHouses_68 post (b_X10_readsHouses_14 post k) (nI n) (nI i) (nI (i % 4)) m' := by
        intro m' hF' h7' hv'
        unfold b_X10_readsHouses_68
        intro v ev m3 e3 y ey
        subst ey
        rw [nI_1]
        refine ih m3 ⟨?_, ?_, hok', ?_⟩
        · subst e3; exact MFx_sc hF' _
        · subst e3 ev
          rw [up2_s, h7', show (2 : Int32) = nI 2 from rfl, ite_nI (by omega) (by omega)]
          by_cases q : i % 4 = 2
          · rw [if_pos q, show (1 : Int32) = nI 1 from rfl, nI_add]; congr 1; omega
          · rw [if_neg q, show (0 : Int32) = nI 0 from rfl, nI_add]; congr 1; omega
        · subst e3
          intro j hj hj3
          rw [up2_c m' (by decide)]
          exact hv' j hj hj3
      refine ⟨fun q => ?_, fun q => ⟨?_, ?_⟩⟩
      · have q3 : 3 ≤ i % 4 := (nI_leI (by omega) (by omega)).mp (show nI 3 ≤ nI (i % 4) from q)
        refine fin m hF h7 (fun j hj hj3 => ?_)
        rcases Nat.lt_or_ge j i with a | a
        · exact hv j a hj3
        · have : j = i := by omega
          subst this
          omega
      · rw [show (4 : Int32) = nI 4 from rfl, pk_div (by omega) (by omega) (by omega), show (3 : Int32) = nI 3 from rfl, pk_mul, nI_add]
        exact vp_in_nI (by omega) (by omega)
      · intro m9 e9
        rw [show (4 : Int32) = nI 4 from rfl, pk_div (by omega) (by omega) (by omega), show (3 : Int32) = nI 3 from rfl, pk_mul, nI_add, nI_clamp (by omega)] at e9
        have q3 : ¬ 3 ≤ i % 4 := fun e => q (show nI 3 ≤ nI (i % 4) from nI_le e (by omega))
        subst e9
        refine fin _ (MFx_arr hF (by decide) _ _) (by rw [up2_c m (by decide)]; exact h7) (fun j hj hj3 => ?_)
        rcases Nat.lt_or_ge j i with a | a
        · rw [up2_i m (by omega)]
          exact hv j a hj3
        · have : j = i := by omega
          subst this
          rw [up2_s]
    · rw [if_neg hf]
      refine ⟨fun q => absurd rfl q, fun _ => ?_⟩
      intro m9 e9
      have hp := pre_fst hok (show okT true (M 5) i = false by simpa [okT, fitT, stT] using hf) hi
      unfold FLT at h
      rw [hp, if_pos hi] at h
      subst e9
      have hN : NHb (M 5) n = 0 := NTH_of_lt (by rw [hp]; exact hi)
      refine h _ ⟨?_, fun a ha => ?_⟩ (MFx_sc hF 0)
      · rw [up2_s, hN]; rfl
      · rw [hN] at ha
        omega

-- the reference's guests
def GVk (b : Nat → Int32) (g : Nat) (M : Mem) : Prop := M 8 (4 * g) = gh b g ∧ M 8 (4 * g + 1) = gb b g ∧ M 8 (4 * g + 2) = gd b g ∧ M 8 (4 * g + 3) = gr b g
def GV (b : Nat → Int32) (N : Nat) (M : Mem) : Prop := M 0 9 = nI N ∧ ∀ g, g < N → GVk b g M
/-- what item a of the guests holds behind i bytes -/
def GP (b : Nat → Int32) (i : Nat) (M : Mem) : Prop := ∀ g, (6 * g < i → 6 * g + 1 = i → M 8 (4 * g) = 10 * (b (6 * g) - 48)) ∧ (6 * g + 1 < i → M 8 (4 * g) = gh b g) ∧ (6 * g + 2 < i → M 8 (4 * g + 1) = gb b g) ∧ (6 * g + 3 < i → M 8 (4 * g + 2) = gd b g) ∧ (6 * g + 4 < i → M 8 (4 * g + 3) = gr b g)
theorem e_readsGuests {n : Nat} {M : Mem} {b : Nat → Int32} (hb : ∀ i, i < n → M 5 (48 + i) = b i) (hn : M 6 1 = nI n) (hn47 : n ≤ 47) {post : Int32 → Mem → Prop} (h : ∀ M', GV b (NGb b n) M' → MFx 8 9 M M' → post (FLT (okT false b) n 6) M') : wp_X10_readsGuests M post := by
  unfold wp_X10_readsGuests b_X10_readsGuests_0
  intro M1 eM1
  refine ⟨vp1 (by decide) (by decide), ?_⟩
  have e6 : M1 6 (Int32.toNatClampNeg 1) = nI n := by subst eM1; rw [up2_c M (by decide)]; exact hn
  rw [e6]
  intro x1 ex1
  subst ex1
  refine loop_0 (fun k i m => b_X10_readsGuests_14 post k (nI n) (nI i) m) (fun i m => MFx 8 9 M m ∧ m 0 9 = nI ((i + 1) / 6) ∧ (∀ j, j < i → okT false b j = true) ∧ GP b i m) n M1 ?_ ?_ ?_
  · subst eM1
    exact ⟨MFx_sc (MFx_rf 8 9 M) 0, up2_s M 0 9 0, fun j hj => absurd hj (Nat.not_lt_zero j), fun g => ⟨fun q => absurd q (by omega), fun q => absurd q (by omega), fun q => absurd q (by omega), fun q => absurd q (by omega), fun q => absurd q (by omega)⟩⟩
  · intro k m hI
    obtain ⟨hF, h7, hok, hv⟩ := hI
    unfold b_X10_readsGuests_14
    have hp := pre_all hok
    unfold FLT at h
    rw [hp, if_neg (Nat.lt_irrefl n)] at h
    have good : (n = 0 ∨ n % 6 = 6 - 1) → post (-1) m := by
      intro q
      rw [if_pos q] at h
      have hN : NGb b n = (n + 1) / 6 := NTH_of_pre hp q
      refine h m ⟨by rw [hN]; exact h7, fun a ha => ?_⟩ hF
      have hl := (NTH_lt (st := 6) ha (by omega)).1
      obtain ⟨-, g0, g1, g2, g3⟩ := hv a
      exact ⟨g0 (by omega), g1 (by omega), g2 (by omega), g3 (by omega)⟩
    refine ⟨fun _ => ⟨fun q => ?_, fun q => ⟨fun q2 => ?_, fun q2 => ?_⟩⟩, fun q => absurd (nI_le (Nat.le_refl n) (by omega)) q⟩
    · have e0 : n ≤ 0 := (nI_leI (by omega) (by omega)).mp (show nI n ≤ nI 0 from q)
      exact good (Or.inl (by omega))
    · rw [show (6 : Int32) = nI 6 from rfl, pk_rem (by omega) (by omega) (by omega), show (5 : Int32) = nI 5 from rfl, nI_eq (by omega) (by omega)] at q2
      exact good (Or.inr q2)
    · rw [show (6 : Int32) = nI 6 from rfl, pk_rem (by omega) (by omega) (by omega), show (5 : Int32) = nI 5 from rfl, nI_eq (by omega) (by omega)] at q2
      intro m4 e4
      have hn0 : ¬ n ≤ 0 := fun e => q (show nI n ≤ nI 0 from nI_le e (by omega))
      have q3 : ¬ (n = 0 ∨ n % 6 = 6 - 1) := by omega
      rw [if_neg q3] at h
      subst e4
      refine h _ ⟨?_, fun a ha => ?_⟩ (MFx_sc hF 0)
      · rw [up2_s, show NGb b n = 0 from NTH_of_mid q3]; rfl
      · rw [show NGb b n = 0 from NTH_of_mid q3] at ha
        omega
  · intro k i m hi hI ih
    obtain ⟨hF, h7, hok, hv⟩ := hI
    unfold b_X10_readsGuests_14
    refine ⟨fun q => absurd q (nI_ge hi (by omega)), fun _ => ?_⟩
    intro x3 ex3
    rw [show (6 : Int32) = nI 6 from rfl, pk_rem (by omega) (by omega) (by omega)] at ex3
    subst ex3
    rw [show (48 : Int32) = nI 48 from rfl, nI_add]
    refine ⟨vp_in_nI (by omega) (by omega), ?_⟩
    have hm6 : i % 6 < 6 := Nat.mod_lt _ (by omega)
    rw [nI_clamp (by omega), hF.1 5 (by decide) (by decide), hb i hi, e_guestOf hm6]
    have e46 : 4 * (nI i / 6) = nI (4 * (i / 6)) := by rw [show (6 : Int32) = nI 6 from rfl, pk_div (by omega) (by omega) (by omega), show (4 : Int32) = nI 4 from rfl, pk_mul]
    rw [e46]
    obtain ⟨t, r, hr, hir⟩ : ∃ t r, r < 6 ∧ i = 6 * t + r := ⟨i / 6, i % 6, hm6, by omega⟩
    have ht : i / 6 = t := by omega
    have hr6 : i % 6 = r := by omega
    have hok6 : okT false b i = fitG r (b i) := by rw [← hr6]; rfl
    rw [ht, hr6]
    by_cases hf : fitG r (b i) = true
    · rw [if_pos hf]
      obtain ⟨d, hd, ed⟩ := vG_rng hr hf
      have hok' : ∀ j, j < i + 1 → okT false b j = true := lt_s hok (hok6.trans hf)
      refine ⟨fun _ => ?_, fun q => absurd q (by rw [ed]; exact nI_ne_neg (by omega) (by decide))⟩
      have fin : ∀ m', MFx 8 9 M m' → m' 0 9 = nI ((i + 1) / 6) → GP b (i + 1) m' → ∀ v : Int32, v = (if nI r = 4 then 1 else 0) → ∀ m3 : Mem, m3 = up2 m' 0 9 (m' 0 9 + v) → ∀ y : Int32, y = nI i + 1 → b_X10_readsGuests_14 post k (nI n) y m3 := by
        intro m' hF' h7' hv' v ev m3 e3 y ey
        subst ey
        rw [nI_1]
        refine ih m3 ⟨?_, ?_, hok', ?_⟩
        · subst e3; exact MFx_sc hF' _
        · subst e3 ev
          rw [up2_s, h7', show (4 : Int32) = nI 4 from rfl, ite_nI (by omega) (by omega)]
          by_cases q : r = 4
          · rw [if_pos q, show (1 : Int32) = nI 1 from rfl, nI_add]; congr 1; omega
          · rw [if_neg q, show (0 : Int32) = nI 0 from rfl, nI_add]; congr 1; omega
        · subst e3
          intro g
          rw [up2_c m' (by decide)]
          exact hv' g
      unfold wp_X10_tellsGuest b_X10_tellsGuest_0
      rcases (show r = 0 ∨ r = 1 ∨ r = 2 ∨ r = 3 ∨ r = 4 ∨ r = 5 by omega) with rfl | rfl | rfl | rfl | rfl | rfl
      · refine ⟨fun q => absurd rfl q, fun _ => ⟨vp_in_nI (by omega) (by omega), fun m6 e6 => ?_⟩⟩
        rw [nI_clamp (by omega)] at e6
        subst e6
        refine fin _ (MFx_arr (c0 := 8) hF (by decide) _ _) (by rw [up2_c m (by decide)]; exact h7) (fun g => ?_)
        obtain ⟨a0, a1, a2, a3, a4⟩ := hv g
        refine ⟨fun q q2 => ?_, fun q => ?_, fun q => ?_, fun q => ?_, fun q => ?_⟩
        · have : g = t := by omega
          subst this
          rw [up2_s, hir]; rfl
        · rw [up2_i m (by omega)]; exact a1 (by omega)
        · rw [up2_i m (by omega)]; exact a2 (by omega)
        · rw [up2_i m (by omega)]; exact a3 (by omega)
        · rw [up2_i m (by omega)]; exact a4 (by omega)
      · refine ⟨fun _ => ⟨fun q => absurd rfl q, fun _ => ⟨vp_in_nI (by omega) (by omega), vp_in_nI (by omega) (by omega), fun m6 e6 => ?_⟩⟩, fun q => absurd q (by decide)⟩
        rw [nI_clamp (by omega)] at e6
        subst e6
        refine fin _ (MFx_arr (c0 := 8) hF (by decide) _ _) (by rw [up2_c m (by decide)]; exact h7) (fun g => ?_)
        obtain ⟨a0, a1, a2, a3, a4⟩ := hv g
        refine ⟨fun q q2 => absurd q2 (by omega), fun q => ?_, fun q => ?_, fun q => ?_, fun q => ?_⟩
        · rcases Nat.lt_or_ge (6 * g + 1) i with z | z
          · rw [up2_i m (by omega)]; exact a1 z
          · have : g = t := by omega
            subst this
            rw [up2_s, a0 (by omega) (by omega), hir]
            unfold gh vG
            rw [Nat.mul_comm g 6]
            simp
        · rw [up2_i m (by omega)]; exact a2 (by omega)
        · rw [up2_i m (by omega)]; exact a3 (by omega)
        · rw [up2_i m (by omega)]; exact a4 (by omega)
      · refine ⟨fun _ => ⟨fun _ => ⟨fun q => absurd q (by decide), fun _ => ?_⟩, fun q => absurd q (by decide)⟩, fun q => absurd q (by decide)⟩
        rw [nI_add, show (1 : Int32) = nI 1 from rfl, pk_sub (by omega)]
        refine ⟨vp_in_nI (by omega) (by omega), fun m6 e6 => ?_⟩
        rw [nI_clamp (by omega)] at e6
        subst e6
        refine fin _ (MFx_arr (c0 := 8) hF (by decide) _ _) (by rw [up2_c m (by decide)]; exact h7) (fun g => ?_)
        obtain ⟨a0, a1, a2, a3, a4⟩ := hv g
        refine ⟨fun q q2 => absurd q2 (by omega), fun q => ?_, fun q => ?_, fun q => ?_, fun q => ?_⟩
        · rw [up2_i m (by omega)]; exact a1 (by omega)
        · rcases Nat.lt_or_ge (6 * g + 2) i with z | z
          · rw [up2_i m (by omega)]; exact a2 z
          · have : g = t := by omega
            subst this
            rw [show 4 * g + 1 = 4 * g + 2 - 1 by omega, up2_s, hir]
            unfold gb vG
            rw [Nat.mul_comm g 6]
            simp
        · rw [up2_i m (by omega)]; exact a3 (by omega)
        · rw [up2_i m (by omega)]; exact a4 (by omega)
      · refine ⟨fun _ => ⟨fun _ => ⟨fun q => absurd q (by decide), fun _ => ?_⟩, fun q => absurd q (by decide)⟩, fun q => absurd q (by decide)⟩
        rw [nI_add, show (1 : Int32) = nI 1 from rfl, pk_sub (by omega)]
        refine ⟨vp_in_nI (by omega) (by omega), fun m6 e6 => ?_⟩
        rw [nI_clamp (by omega)] at e6
        subst e6
        refine fin _ (MFx_arr (c0 := 8) hF (by decide) _ _) (by rw [up2_c m (by decide)]; exact h7) (fun g => ?_)
        obtain ⟨a0, a1, a2, a3, a4⟩ := hv g
        refine ⟨fun q q2 => absurd q2 (by omega), fun q => ?_, fun q => ?_, fun q => ?_, fun q => ?_⟩
        · rw [up2_i m (by omega)]; exact a1 (by omega)
        · rw [up2_i m (by omega)]; exact a2 (by omega)
        · rcases Nat.lt_or_ge (6 * g + 3) i with z | z
          · rw [up2_i m (by omega)]; exact a3 z
          · have : g = t := by omega
            subst this
            rw [show 4 * g + 2 = 4 * g + 3 - 1 by omega, up2_s, hir]
            unfold gd vG
            rw [Nat.mul_comm g 6]
            simp
        · rw [up2_i m (by omega)]; exact a4 (by omega)
      · refine ⟨fun _ => ⟨fun _ => ⟨fun q => absurd q (by decide), fun _ => ?_⟩, fun q => absurd q (by decide)⟩, fun q => absurd q (by decide)⟩
        rw [nI_add, show (1 : Int32) = nI 1 from rfl, pk_sub (by omega)]
        refine ⟨vp_in_nI (by omega) (by omega), fun m6 e6 => ?_⟩
        rw [nI_clamp (by omega)] at e6
        subst e6
        refine fin _ (MFx_arr (c0 := 8) hF (by decide) _ _) (by rw [up2_c m (by decide)]; exact h7) (fun g => ?_)
        obtain ⟨a0, a1, a2, a3, a4⟩ := hv g
        refine ⟨fun q q2 => absurd q2 (by omega), fun q => ?_, fun q => ?_, fun q => ?_, fun q => ?_⟩
        · rw [up2_i m (by omega)]; exact a1 (by omega)
        · rw [up2_i m (by omega)]; exact a2 (by omega)
        · rw [up2_i m (by omega)]; exact a3 (by omega)
        · rcases Nat.lt_or_ge (6 * g + 4) i with z | z
          · rw [up2_i m (by omega)]; exact a4 z
          · have : g = t := by omega
            subst this
            rw [show 4 * g + 3 = 4 * g + 4 - 1 by omega, up2_s, hir]
            unfold gr vG
            rw [Nat.mul_comm g 6]
            simp
      · refine ⟨fun _ => ⟨fun _ => ⟨fun _ => ?_, fun q => absurd (show (5 : Int32) ≤ nI 5 by decide) q⟩, fun q => absurd q (by decide)⟩, fun q => absurd q (by decide)⟩
        refine fin _ hF h7 (fun g => ?_)
        obtain ⟨a0, a1, a2, a3, a4⟩ := hv g
        exact ⟨fun q q2 => absurd q2 (by omega), fun q => a1 (by omega), fun q => a2 (by omega), fun q => a3 (by omega), fun q => a4 (by omega)⟩
    · rw [if_neg hf]
      refine ⟨fun q => absurd rfl q, fun _ => ?_⟩
      intro m9 e9
      have hp := pre_fst hok (show okT false b i = false by rw [hok6]; simpa using hf) hi
      unfold FLT at h
      rw [hp, if_pos hi] at h
      subst e9
      have hN : NGb b n = 0 := NTH_of_lt (by rw [hp]; exact hi)
      refine h _ ⟨?_, fun a ha => ?_⟩ (MFx_sc hF 0)
      · rw [up2_s, hN]; rfl
      · rw [hN] at ha
        omega
