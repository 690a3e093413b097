-- the reference's tables as those of a row and guests
def MT (N G : Nat) (R Gs M : Mem) : Prop := M 0 7 = nI N ∧ M 0 9 = nI G ∧ M 9 1 = R 0 6 ∧ (∀ h, h < N → M 7 (3 * h) = R 1 h ∧ M 7 (3 * h + 1) = R 2 h ∧ M 10 h = R 4 h) ∧ ∀ g, g < G → M 8 (4 * g) = Gs 1 g ∧ M 8 (4 * g + 1) = Gs 2 g ∧ M 8 (4 * g + 2) = Gs 3 g ∧ M 8 (4 * g + 3) = Gs 4 g
theorem MT.mok {N G : Nat} {R Gs M : Mem} (h : MT N G R Gs M) (hR : ROK N R) : MOK N M := ⟨hR.1, h.1, fun p hp => by rw [(h.2.2.2.1 p hp).2.2]; exact hR.2.2 p hp⟩
theorem e_feedsT {N G : Nat} {R Gs M : Mem} (hR : ROK N R) (hG8 : G ≤ 8) (hB : ∀ g, g < G → ∃ b, b < 8 ∧ Gs 2 g = nI b) (hM : MT N G R Gs M) {post : Mem → Prop} (h : ∀ M', FRA M M' → (∀ g, g < G → FEDM g (WAYS R Gs g) M') → post M') : wp_X10_feedsAll M post := by
  refine e_feedsAll (hM.mok hR) hM.2.1 hG8 (fun g hg => ?_) (fun M' hf hfed => h M' hf (fun g hg => ?_))
  · obtain ⟨b, hb, e⟩ := hB g hg
    exact ⟨b, hb, by rw [(hM.2.2.2.2 g hg).2.1]; exact e⟩
  · have := hfed g hg
    rw [FEEDM_row hR hM.1 hM.2.2.1 hM.2.2.2.1 (hM.2.2.2.2 g hg)] at this
    exact this
theorem e_feedT {N G g : Nat} {R Gs M : Mem} (hR : ROK N R) (hG8 : G ≤ 8) (hg : g < G) (hB : ∃ b, b < 8 ∧ Gs 2 g = nI b) (hM : MT N G R Gs M) {post : Mem → Prop} (h : ∀ M', FRM g M M' → FEDM g (WAYS R Gs g) M' → post M') : wp_X10_feeds M (nI g) post := by
  refine e_feeds (hM.mok hR) (by omega) ?_ (fun M' hfed hf => h M' hf ?_)
  · obtain ⟨b, hb, e⟩ := hB
    exact ⟨b, hb, by rw [(hM.2.2.2.2 g hg).2.1]; exact e⟩
  · rw [FEEDM_row hR hM.1 hM.2.2.1 hM.2.2.2.1 (hM.2.2.2.2 g hg)] at hfed
    exact hfed
theorem FND.mt {C : Nat → Mem} {N G : Nat} {M : Mem} (h : FND C N G M) : MT N G (C 3) (C 4) M := ⟨h.1, h.2.1, h.2.2.2.2.2.2, fun a ha => ⟨(h.2.2.1 a ha).1, (h.2.2.1 a ha).2.1, (h.2.2.1 a ha).2.2.2⟩, h.2.2.2.1⟩
theorem CS.bg {C : Nat → Mem} {N G : Nat} (h : CS C N G) (g : Nat) (hg : g < G) : ∃ b, b < 8 ∧ C 4 2 g = nI b := (h.2.2.2.2.2.1 g hg).2.1
/-- cells kept by a trial: all but the row, the guests' ways and the best -/
def KM (M D : Mem) : Prop := (∀ c, c ≠ 0 → c < 10 ∨ 15 < c → D c = M c) ∧ ∀ i, i ≠ 18 → i ≠ 19 → i ≠ 20 → D 0 i = M 0 i
theorem KM.mf {M D : Mem} (h : KM M D) : MF M D := ⟨h.1 1 (by omega) (by omega), h.1 2 (by omega) (by omega), h.1 3 (by omega) (by omega), h.1 5 (by omega) (by omega), h.1 6 (by omega) (by omega), h.1 9 (by omega) (by omega), h.1 16 (by omega) (by omega), h.2 4 (by omega) (by omega) (by omega), h.2 21 (by omega) (by omega) (by omega)⟩
def fra (hm p i : Nat) : Nat := if i ≤ p then (if i ≤ hm then i else i + 1) else (if i - 1 ≤ hm then i - 1 else i)
theorem fra_lt {hm p i N : Nat} (hi : i < N) (hp : p < N) (hm' : hm < N) (q : i ≠ p) : fra hm p i < N := by
  unfold fra
  (repeat' split) <;> omega
theorem fra_le {hm p i : Nat} : fra hm p i ≤ i + 1 := by
  unfold fra
  (repeat' split) <;> omega
theorem fra_skp {hm p i : Nat} (q : i ≠ p) (e : fra hm p i ≠ hm) : fra hm p i = skp hm p i ∧ fra hm p i + 1 = fra hm p (i + 1) := by
  revert e
  unfold fra skp
  (repeat' split) <;> omega
theorem fra_skp1 {hm p i N : Nat} (hi : i < N) (hp : p < N) (q : i ≠ p) (e : fra hm p i = hm) : hm + 1 < N ∧ hm + 1 = skp hm p i ∧ hm + 1 + 1 = fra hm p (i + 1) := by
  revert e
  unfold fra skp
  (repeat' split) <;> omega
theorem fra_p (hm p : Nat) : fra hm p p = fra hm p (p + 1) := by
  unfold fra
  (repeat' split) <;> omega
theorem e_livesAt {M : Mem} {N h p : Nat} (hN8 : N ≤ 8) (hN : M 0 7 = nI N) (hh : h < N) (hp : p < N) {post : Mem → Prop} (hk : ∀ M', (∀ c, c ≠ 10 → M' c = M c) → (∀ j, j < N → M' 10 j = moI (M 9 0) N h p j) → post M') : wp_X10_livesAt M (nI h) (nI p) post := by
  have hl := hom_lt (tu := M 9 0) hh
  unfold wp_X10_livesAt b_X10_livesAt_0
  refine loop_0 (fun k i (u : Int32 × Mem) => b_X10_livesAt_5 post k (nI h) (nI p) u.1 (nI i) u.2) (fun i u => u.1 = nI (fra (hom (M 9 0) N h) p i) ∧ (∀ c, c ≠ 10 → u.2 c = M c) ∧ ∀ j, j < i → u.2 10 j = moI (M 9 0) N h p j) N (0, M) ⟨?_, fun _ _ => rfl, fun a ha => absurd ha (Nat.not_lt_zero a)⟩ ?_ ?_
  · dsimp only
    unfold fra
    rw [if_pos (Nat.zero_le p), if_pos (Nat.zero_le _)]
    rfl
  · intro k u hI
    obtain ⟨x, D⟩ := u
    obtain ⟨h1, h2, h3⟩ := hI
    dsimp only at h1 h2 h3
    dsimp only
    unfold b_X10_livesAt_5
    rw [h2 0 (by decide), hN]
    exact ⟨fun _ => hk D h2 h3, fun q => absurd (nI_le (Nat.le_refl N) (by omega)) q⟩
  · intro k i u hi hI ih
    obtain ⟨x, D⟩ := u
    obtain ⟨h1, h2, h3⟩ := hI
    dsimp only at h1 h2 h3
    dsimp only
    have stp : ∀ fr : Nat, fr < 20 → ∀ v : Int32, v = nI (i + 1) → (i ≠ p → fr < N ∧ fr = skp (hom (M 9 0) N h) p i) → nI (fr + (if i = p then 0 else 1)) = nI (fra (hom (M 9 0) N h) p (i + 1)) → ∀ z0 z1 : Int32, z1 + z0 = nI fr → b_X10_livesAt_56 post (b_X10_livesAt_5 post k) (nI h) (nI p) (nI i) z0 z1 D := by
      intro fr hfr v ev hsk hnx z0 z1 ez
      unfold b_X10_livesAt_56
      intro x3 e3
      rw [ez] at e3
      rw [h2 0 (by decide), h2 9 (by decide), hN, show Int32.toNatClampNeg 0 = 0 from rfl, nI_clamp (by omega), e3]
      have nz : i ≠ p → ¬ nI i = nI p := fun q z => q ((nI_eq (by omega) (by omega)).mp z)
      refine ⟨vp0 (by decide) (by decide), fun v3 ev3 v5 ev5 => ⟨vp_in_nI (by omega) (by omega), fun m6 e6 v8 ev8 x9 e9 x10 e10 => ?_⟩⟩
      rw [e10, nI_1]
      refine ih (x9, m6) ⟨?_, fun c hc => ?_, lt_s (fun a ha => ?_) ?_⟩
      · dsimp only
        have e0 : x9 = nI (fr + (if i = p then 0 else 1)) := by
          rw [e9, ev8]
          by_cases q : i = p
          · rw [if_pos (congrArg nI q), if_pos q, show (0 : Int32) = nI 0 from rfl, nI_add]
          · rw [if_neg (nz q), if_neg q, nI_1]
        rw [e0]
        exact hnx
      · dsimp only
        rw [e6, up2_c _ hc]
        exact h2 c hc
      · dsimp only
        rw [e6, up2_i _ (by omega)]
        exact h3 a ha
      · dsimp only
        rw [e6, up2_s, ev5]
        unfold moI
        by_cases q : i = p
        · rw [if_pos (congrArg nI q), if_pos q]
        · rw [if_neg (nz q), if_neg q, ev3, ← (hsk q).2]
          unfold ordI
          have := (hsk q).1
          rw [show (1 : Int32) = nI 1 from rfl, pk_sub (by omega), pk_sub (by omega)]
    unfold b_X10_livesAt_5
    rw [h2 0 (by decide), h2 9 (by decide), hN, h1, nI_eq (by omega) (by omega), show Int32.toNatClampNeg 0 = 0 from rfl]
    have hfl := fra_le (hm := hom (M 9 0) N h) (p := p) (i := i)
    refine ⟨fun q => absurd q (nI_ge hi (by omega)), fun _ => ⟨vp0 (by decide) (by decide), fun v3 ev3 => ⟨fun q => ?_, fun q => ?_⟩⟩⟩
    · unfold b_X10_livesAt_55
      refine stp (fra (hom (M 9 0) N h) p i) (by omega) _ rfl (fun z => absurd q z) ?_ 0 _ (by simp)
      rw [if_pos q, q]
      exact congrArg nI (fra_p _ p)
    · have hlt := fra_lt hi hp hl q
      have hv3 : v3 = ordI (M 9 0) N (fra (hom (M 9 0) N h) p i) := by
        rw [ev3]
        unfold ordI
        rw [show (1 : Int32) = nI 1 from rfl, pk_sub (by omega), pk_sub (by omega)]
      refine ⟨fun q2 => ?_, fun q2 => ?_⟩
      · unfold b_X10_livesAt_55
        have hne : fra (hom (M 9 0) N h) p i ≠ hom (M 9 0) N h := by
          intro z
          rw [z, ord_hom hh] at hv3
          exact q2 hv3
        have hs := fra_skp q hne
        refine stp (fra (hom (M 9 0) N h) p i) (by omega) _ rfl (fun _ => ⟨hlt, hs.1⟩) ?_ 0 _ (by simp)
        rw [if_neg q]
        exact congrArg nI hs.2
      · have heq : fra (hom (M 9 0) N h) p i = hom (M 9 0) N h := Classical.byContradiction (fun z => ord_ne hN8 hh hlt z (hv3 ▸ q2))
        have hs := fra_skp1 hi hp q heq
        rw [heq]
        refine stp (hom (M 9 0) N h + 1) (by omega) _ rfl (fun _ => ⟨hs.1, hs.2.1⟩) ?_ 1 _ (by rw [nI_1])
        rw [if_neg q]
        exact congrArg nI hs.2.2
theorem m_weighs {M : Mem} {ws : Nat → WS} {G h k : Nat} {f t : Nat → Int32} (hG8 : G ≤ 8) (hG : M 0 9 = nI G) (hf : ∀ g, g < G → FEDM g (ws g) M) (hh : h < 8) (hk : k < 2 ^ 31) (ef : f k = sI (fun g => gvW (ws g) h) G) (et : t k = sI (sl1 ws h) G) (hm : PLR f t (PLb f t k) (M 0 18) (M 0 19) (M 0 20)) {post : Mem → Prop} (hp : ∀ M', (∀ c, c ≠ 0 → M' c = M c) → (∀ i, i ≠ 18 → i ≠ 19 → i ≠ 20 → M' 0 i = M 0 i) → PLR f t (PLb f t (k + 1)) (M' 0 18) (M' 0 19) (M' 0 20) → post M') : wp_X10_weighs M (nI h) (nI k) post := by
  unfold wp_X10_weighs b_X10_weighs_0
  refine e_allBy hG8 hG hf hh (e_allBy hG8 hG hf hh ?_)
  rw [if_pos rfl, if_neg (by decide), ← ef, ← et]
  have set : (PLb f t (k + 1) = some k) → b_X10_weighs_48 post (nI k) (f k) (t k) M := by
    intro e
    unfold b_X10_weighs_48
    intro m1 e1 m2 e2 m3 e3
    subst e3 e2 e1
    refine hp _ (fun c hc => by rw [up2_c _ hc, up2_c _ hc, up2_c _ hc]) (fun i h1 h2 h3 => by rw [up2_i _ h3, up2_i _ h2, up2_i _ h1]) ?_
    rw [e]
    exact ⟨by simp [up2_app], by simp [up2_app], by simp [up2_app]⟩
  cases hc : PLb f t k with
  | none =>
    rw [hc] at hm
    exact ⟨fun _ => set (PLb_n hc), fun q => absurd hm q⟩
  | some b =>
    rw [hc] at hm
    obtain ⟨e0, e1, e2⟩ := hm
    have hb := PLb_lt hc
    have hn := PLb_s hc
    have keep : ¬ (f k < f b ∨ (f k = f b ∧ ¬ t k ≤ t b)) → post M := fun q => by
      rw [if_neg q] at hn
      exact hp M (fun _ _ => rfl) (fun _ _ _ _ => rfl) (by rw [hn]; exact ⟨e0, e1, e2⟩)
    rw [e0, e1, e2]
    refine ⟨fun z => absurd z (nI_ne_m1 (by omega)), fun _ => ⟨fun q => set (by rw [hn, if_pos (Or.inl q)]), fun q => ⟨fun q2 => keep (fun z => z.elim q (fun z => q2 z.1)), fun q2 => ⟨fun q3 => keep (fun z => z.elim q (fun z => z.2 q3)), fun q3 => set (by rw [hn, if_pos (Or.inr ⟨q2, q3⟩)])⟩⟩⟩⟩
theorem KM_tr {A B D : Mem} (h : KM A B) (k : KM B D) : KM A D := ⟨fun c h0 hc => (k.1 c h0 hc).trans (h.1 c h0 hc), fun i h1 h2 h3 => (k.2 i h1 h2 h3).trans (h.2 i h1 h2 h3)⟩
theorem KM_10 {M D : Mem} (h : ∀ c, c ≠ 10 → D c = M c) : KM M D := ⟨fun c _ hc => h c (by omega), fun i _ _ _ => by rw [h 0 (by omega)]⟩
theorem FRA.km {M D : Mem} (h : FRA M D) : KM M D := ⟨fun c _ hc => h c (by omega), fun i _ _ _ => by rw [h 0 (by omega)]⟩
theorem KM_0 {M D : Mem} (h : ∀ c, c ≠ 0 → D c = M c) (h2 : ∀ i, i ≠ 18 → i ≠ 19 → i ≠ 20 → D 0 i = M 0 i) : KM M D := ⟨fun c hc _ => h c hc, h2⟩
theorem KM_s (M : Mem) (v : Int32) : KM M (up2 M 0 18 v) := ⟨fun c hc _ => up2_c _ hc, fun i hi _ _ => up2_i _ hi⟩
theorem m_liveOf {C : Nat → Mem} {M : Mem} {N G h : Nat} {x2 : Int32} (hC : CS C N G) (hF : FND C N G M) (hh : h < N) {post : Int32 → Mem → Prop} (hp : ∀ M', MF M M' → FND C N G M' → post (F_live C N G h x2) M') : wp_X10_liveOf M (nI h) x2 post := by
  have hN8 := hC.N8
  have hG8 := hC.1
  obtain ⟨f7, f9, ft, fg, fw, f0, f6⟩ := id hF
  unfold wp_X10_liveOf b_X10_liveOf_0
  intro M1 e1
  refine loop_0 (fun k i D => b_X10_liveOf_7 post k (nI h) x2 (nI i) D) (fun i D => KM M D ∧ PLR (fun p => gsW (RPl C N h p) (C 4) G h) (fun p => tsW (RPl C N h p) (C 4) G h) (PLb (fun p => gsW (RPl C N h p) (C 4) G h) (fun p => tsW (RPl C N h p) (C 4) G h) i) (D 0 18) (D 0 19) (D 0 20)) N M1 ⟨by rw [e1]; exact KM_s M _, by rw [e1]; exact up2_s _ _ _ _⟩ ?_ ?_
  · intro k D hD
    obtain ⟨hk, hpl⟩ := hD
    have d7 : D 0 7 = nI N := by rw [hk.2 7 (by omega) (by omega) (by omega)]; exact f7
    unfold b_X10_liveOf_7
    refine ⟨fun _ => ?_, fun q => absurd (by rw [d7]; exact nI_le (Nat.le_refl N) (by omega)) q⟩
    refine e_findRow hN8 d7 (fun D1 k1 o1 => ?_)
    have hk1 := KM_tr hk (KM_10 k1)
    have t1 : ∀ a, a < N → D1 10 a = C 3 4 a := fun a ha => by rw [o1 a ha, hk.1 9 (by omega) (by omega), f0, hC.2.2.2.2.2.2 a ha]
    refine e_feedsT (N := N) (G := G) (R := C 3) (Gs := C 4) hC.2.1 hG8 hC.bg ⟨?_, ?_, ?_, fun a ha => ?_, fun g hg => ?_⟩ (fun D2 hfr hfed v ev => ?_)
    · rw [hk1.2 7 (by omega) (by omega) (by omega)]; exact f7
    · rw [hk1.2 9 (by omega) (by omega) (by omega)]; exact f9
    · rw [hk1.1 9 (by omega) (by omega)]; exact f6
    · rw [hk1.1 7 (by omega) (by omega)]; exact ⟨(ft a ha).1, (ft a ha).2.1, t1 a ha⟩
    · rw [hk1.1 8 (by omega) (by omega)]; exact fg g hg
    · have hk2 := KM_tr hk1 hfr.km
      have hv : v = F_live C N G h x2 := by
        obtain ⟨n', hn'⟩ : ∃ n', N = n' + 1 := ⟨N - 1, by omega⟩
        obtain ⟨b, hb⟩ := PLb_pos (f := fun p => gsW (RPl C N h p) (C 4) G h) (t := fun p => tsW (RPl C N h p) (C 4) G h) (k := n')
        rw [← hn'] at hb
        rw [hb] at hpl
        unfold F_live
        rw [hb, ev, hfr 0 (by omega), k1 0 (by omega), hpl.1, hpl.2.1]
        rfl
      rw [hv]
      refine hp D2 hk2.mf ⟨?_, ?_, fun a ha => ?_, fun g hg => ?_, hfed, ?_, ?_⟩
      · rw [hk2.2 7 (by omega) (by omega) (by omega)]; exact f7
      · rw [hk2.2 9 (by omega) (by omega) (by omega)]; exact f9
      · rw [hk2.1 7 (by omega) (by omega), hfr 10 (by omega)]; exact ⟨(ft a ha).1, (ft a ha).2.1, (ft a ha).2.2.1, t1 a ha⟩
      · rw [hk2.1 8 (by omega) (by omega)]; exact fg g hg
      · rw [hk2.1 9 (by omega) (by omega)]; exact f0
      · rw [hk2.1 9 (by omega) (by omega)]; exact f6
  · intro k i D hi hD ih
    obtain ⟨hk, hpl⟩ := hD
    have d7 : D 0 7 = nI N := by rw [hk.2 7 (by omega) (by omega) (by omega)]; exact f7
    unfold b_X10_liveOf_7
    refine ⟨fun q => absurd (by rw [d7] at q; exact q) (nI_ge hi (by omega)), fun _ => ?_⟩
    refine e_livesAt hN8 d7 hh hi (fun D1 k1 o1 => ?_)
    have hk1 := KM_tr hk (KM_10 k1)
    have hRP : ROK N (RPl C N h i) := ⟨hN8, hC.nH, fun p hp => moI_rng hh hi hp⟩
    refine e_feedsT (N := N) (G := G) (R := RPl C N h i) (Gs := C 4) hRP hG8 hC.bg ⟨?_, ?_, ?_, fun a ha => ?_, fun g hg => ?_⟩ (fun D2 hfr hfed => ?_)
    · rw [hk1.2 7 (by omega) (by omega) (by omega)]; exact f7
    · rw [hk1.2 9 (by omega) (by omega) (by omega)]; exact f9
    · rw [hk1.1 9 (by omega) (by omega)]; exact f6
    · rw [hk1.1 7 (by omega) (by omega)]
      refine ⟨(ft a ha).1, (ft a ha).2.1, ?_⟩
      rw [o1 a ha, hk.1 9 (by omega) (by omega), f0]
      rfl
    · rw [hk1.1 8 (by omega) (by omega)]; exact fg g hg
    · have hk2 := KM_tr hk1 hfr.km
      have d20 : D2 0 = D 0 := by rw [hfr 0 (by omega), k1 0 (by omega)]
      refine m_weighs (ws := WAYS (RPl C N h i) (C 4)) (f := fun p => gsW (RPl C N h p) (C 4) G h) (t := fun p => tsW (RPl C N h p) (C 4) G h) hG8 (by rw [hk2.2 9 (by omega) (by omega) (by omega)]; exact f9) hfed (by omega) (by omega) rfl rfl (by rw [d20]; exact hpl) (fun D3 z1 z2 hpl3 y ey => ?_)
      rw [ey, nI_1]
      exact ih D3 ⟨KM_tr hk2 (KM_0 z1 z2), hpl3⟩
theorem p_live {C : Nat → Mem} {L : MemL} {M : Mem} (hR : REL C M) (x1 x2 : Int32) : wp_X9_live C L x1 x2 (fun r C' _ => wp_X10_live M x1 x2 (fun r' M' => r = r' ∧ REL C' M')) := by
  obtain ⟨N, G, hC⟩ := hR.cs
  have hN8 := hC.N8
  refine c_live hC (fun C' hco => ?_)
  unfold wp_X10_live b_X10_live_0
  refine e_find2 hR hC (fun M' hf hF => ?_)
  have hR' := (hR.mf hf).core hco
  rw [e_isHouseM hN8 hF.1, bI_z]
  refine ⟨fun q => ⟨by rw [if_neg (fun z => q z.1)], hR'⟩, fun q => ?_⟩
  have h1 : HB N x1 := Classical.not_not.mp q
  rw [e_isTwo, bI_z]
  refine ⟨fun q => ⟨by rw [if_neg (fun z => q z.2)], hR'⟩, fun q => ?_⟩
  rw [if_pos ⟨h1, Classical.not_not.mp q⟩]
  obtain ⟨k, hk, rfl⟩ := HB_of h1 hN8
  rw [nI_clamp (by omega)]
  exact m_liveOf hC hF hk (fun M2 hf2 _ => ⟨rfl, hR'.mf hf2⟩)
-- cook
/-- cells kept by a trial of one number of a house -/
def KH (j : Nat) (M D : Mem) : Prop := (∀ c, c ≠ 0 → c ≠ 7 → c < 11 ∨ 15 < c → D c = M c) ∧ (∀ i, i ≠ j → D 7 i = M 7 i) ∧ ∀ i, i ≠ 18 → i ≠ 19 → i ≠ 20 → D 0 i = M 0 i
theorem KH_tr {j : Nat} {A B D : Mem} (h : KH j A B) (k : KH j B D) : KH j A D := ⟨fun c h0 h7 hc => (k.1 c h0 h7 hc).trans (h.1 c h0 h7 hc), fun i hi => (k.2.1 i hi).trans (h.2.1 i hi), fun i h1 h2 h3 => (k.2.2 i h1 h2 h3).trans (h.2.2 i h1 h2 h3)⟩
theorem KH.mf {j : Nat} {M D : Mem} (h : KH j M D) : MF M D := ⟨h.1 1 (by omega) (by omega) (by omega), h.1 2 (by omega) (by omega) (by omega), h.1 3 (by omega) (by omega) (by omega), h.1 5 (by omega) (by omega) (by omega), h.1 6 (by omega) (by omega) (by omega), h.1 9 (by omega) (by omega) (by omega), h.1 16 (by omega) (by omega) (by omega), h.2.2 4 (by omega) (by omega) (by omega), h.2.2 21 (by omega) (by omega) (by omega)⟩
theorem KH_7 (j : Nat) (M : Mem) (v : Int32) : KH j M (up2 M 7 j v) := ⟨fun c _ h7 _ => up2_c _ h7, fun i hi => up2_i _ hi, fun i _ _ _ => by rw [up2_c _ (by decide)]⟩
theorem FRA.kh {M D : Mem} (j : Nat) (h : FRA M D) : KH j M D := ⟨fun c _ _ hc => h c hc, fun i _ => by rw [h 7 (by omega)], fun i _ _ _ => by rw [h 0 (by omega)]⟩
theorem KH_0 {M D : Mem} (j : Nat) (h : ∀ c, c ≠ 0 → D c = M c) (h2 : ∀ i, i ≠ 18 → i ≠ 19 → i ≠ 20 → D 0 i = M 0 i) : KH j M D := ⟨fun c hc _ _ => h c hc, fun i _ => by rw [h 7 (by omega)], h2⟩
theorem m_cookOf {C : Nat → Mem} {M : Mem} {N G h : Nat} {x2 : Int32} (hC : CS C N G) (hF : FND C N G M) (hh : h < N) {post : Int32 → Mem → Prop} (hp : ∀ M', MF M M' → FND C N G M' → post (F_cook C G h x2) M') : wp_X10_cookOf M (nI h) x2 post := by
  have hN8 := hC.N8
  have hG8 := hC.1
  obtain ⟨f7, f9, ft, fg, fw, f0, f6⟩ := id hF
  have e3 : 3 * nI h = nI (3 * h) := by rw [show (3 : Int32) = nI 3 from rfl, pk_mul]
  have v3 : vp_in (nI (3 * h)) 24 := vp_in_nI (by omega) (by omega)
  unfold wp_X10_cookOf b_X10_cookOf_0
  rw [e3, nI_clamp (by omega)]
  refine ⟨v3, fun x3 ex3 M1 e1 => ?_⟩
  rw [(ft h hh).1] at ex3
  refine loop_0 (fun k i D => b_X10_cookOf_17 post k (nI h) x2 x3 (nI i) D) (fun i D => KH (3 * h) M D ∧ PLR (fun p => gsW (RKd C h (nI p)) (C 4) G h) (fun p => tsW (RKd C h (nI p)) (C 4) G h) (PLb (fun p => gsW (RKd C h (nI p)) (C 4) G h) (fun p => tsW (RKd C h (nI p)) (C 4) G h) i) (D 0 18) (D 0 19) (D 0 20)) 4 M1 ⟨by rw [e1]; exact KH_0 _ (fun c hc => up2_c _ hc) (fun i hi _ _ => up2_i _ hi), by rw [e1]; exact up2_s _ _ _ _⟩ ?_ ?_
  · intro k D hD
    obtain ⟨hk, hpl⟩ := hD
    unfold b_X10_cookOf_17
    rw [e3, nI_clamp (by omega)]
    refine ⟨fun _ => ⟨v3, fun D1 ed1 => ?_⟩, fun q => absurd (show (4 : Int32) ≤ nI 4 by decide) q⟩
    have hk1 : KH (3 * h) M D1 := by rw [ed1]; exact KH_tr hk (KH_7 _ _ _)
    have t7 : ∀ a, a < N → D1 7 (3 * a) = C 3 1 a ∧ D1 7 (3 * a + 1) = C 3 2 a ∧ D1 7 (3 * a + 2) = C 3 3 a := fun a ha => by
      refine ⟨?_, ?_, ?_⟩
      · by_cases e : a = h
        · rw [e, ed1, up2_s, ex3]
        · rw [hk1.2.1 _ (by omega)]; exact (ft a ha).1
      · rw [hk1.2.1 _ (by omega)]; exact (ft a ha).2.1
      · rw [hk1.2.1 _ (by omega)]; exact (ft a ha).2.2.1
    have t10 : ∀ a, a < N → D1 10 a = C 3 4 a := fun a ha => by rw [hk1.1 10 (by omega) (by omega) (by omega)]; exact (ft a ha).2.2.2
    refine e_feedsT (N := N) (G := G) (R := C 3) (Gs := C 4) hC.2.1 hG8 hC.bg ⟨?_, ?_, ?_, fun a ha => ⟨(t7 a ha).1, (t7 a ha).2.1, t10 a ha⟩, fun g hg => ?_⟩ (fun D2 hfr hfed v ev => ?_)
    · rw [hk1.2.2 7 (by omega) (by omega) (by omega)]; exact f7
    · rw [hk1.2.2 9 (by omega) (by omega) (by omega)]; exact f9
    · rw [hk1.1 9 (by omega) (by omega) (by omega)]; exact f6
    · rw [hk1.1 8 (by omega) (by omega) (by omega)]; exact fg g hg
    · have hk2 := KH_tr hk1 (hfr.kh (3 * h))
      have hv : v = F_cook C G h x2 := by
        obtain ⟨b, hb⟩ := PLb_pos (f := fun p => gsW (RKd C h (nI p)) (C 4) G h) (t := fun p => tsW (RKd C h (nI p)) (C 4) G h) (k := 3)
        rw [hb] at hpl
        unfold F_cook
        rw [hb, ev, hfr 0 (by omega), ed1, up2_c _ (by decide), hpl.1, hpl.2.1]
        rfl
      rw [hv]
      refine hp D2 hk2.mf ⟨?_, ?_, fun a ha => ?_, fun g hg => ?_, hfed, ?_, ?_⟩
      · rw [hk2.2.2 7 (by omega) (by omega) (by omega)]; exact f7
      · rw [hk2.2.2 9 (by omega) (by omega) (by omega)]; exact f9
      · rw [hfr 7 (by omega), hfr 10 (by omega)]; exact ⟨(t7 a ha).1, (t7 a ha).2.1, (t7 a ha).2.2, t10 a ha⟩
      · rw [hk2.1 8 (by omega) (by omega) (by omega)]; exact fg g hg
      · rw [hk2.1 9 (by omega) (by omega) (by omega)]; exact f0
      · rw [hk2.1 9 (by omega) (by omega) (by omega)]; exact f6
  · intro k i D hi hD ih
    obtain ⟨hk, hpl⟩ := hD
    unfold b_X10_cookOf_17
    rw [e3, nI_clamp (by omega)]
    refine ⟨fun q => absurd q (nI_ge (b := 4) hi (by omega)), fun _ => ⟨v3, fun D1 ed1 => ?_⟩⟩
    have hk1 : KH (3 * h) M D1 := by rw [ed1]; exact KH_tr hk (KH_7 _ _ _)
    refine e_feedsT (N := N) (G := G) (R := RKd C h (nI i)) (Gs := C 4) (ROK_kd hC _) hG8 hC.bg ⟨?_, ?_, ?_, fun a ha => ?_, fun g hg => ?_⟩ (fun D2 hfr hfed => ?_)
    · rw [hk1.2.2 7 (by omega) (by omega) (by omega)]; exact f7
    · rw [hk1.2.2 9 (by omega) (by omega) (by omega)]; exact f9
    · rw [hk1.1 9 (by omega) (by omega) (by omega)]; exact f6
    · unfold RKd
      rw [up2_c _ (show (2 : Nat) ≠ 1 by decide), up2_c _ (show (4 : Nat) ≠ 1 by decide)]
      refine ⟨?_, ?_, ?_⟩
      · by_cases e : a = h
        · rw [e, ed1, up2_s, up2_s]
        · rw [hk1.2.1 _ (by omega), up2_i _ e]; exact (ft a ha).1
      · rw [hk1.2.1 _ (by omega)]; exact (ft a ha).2.1
      · rw [hk1.1 10 (by omega) (by omega) (by omega)]; exact (ft a ha).2.2.2
    · rw [hk1.1 8 (by omega) (by omega) (by omega)]; exact fg g hg
    · have hk2 := KH_tr hk1 (hfr.kh (3 * h))
      have d20 : D2 0 = D 0 := by rw [hfr 0 (by omega), ed1, up2_c _ (by decide)]
      refine m_weighs (ws := WAYS (RKd C h (nI i)) (C 4)) (f := fun p => gsW (RKd C h (nI p)) (C 4) G h) (t := fun p => tsW (RKd C h (nI p)) (C 4) G h) hG8 (by rw [hk2.2.2 9 (by omega) (by omega) (by omega)]; exact f9) hfed (by omega) (by omega) rfl rfl (by rw [d20]; exact hpl) (fun D3 z1 z2 hpl3 y ey => ?_)
      rw [ey, nI_1]
      exact ih D3 ⟨KH_tr hk2 (KH_0 _ z1 z2), hpl3⟩
theorem p_cook {C : Nat → Mem} {L : MemL} {M : Mem} (hR : REL C M) (x1 x2 : Int32) : wp_X9_cook C L x1 x2 (fun r C' _ => wp_X10_cook M x1 x2 (fun r' M' => r = r' ∧ REL C' M')) := by
  obtain ⟨N, G, hC⟩ := hR.cs
  have hN8 := hC.N8
  refine c_cook hC (fun C' hco => ?_)
  unfold wp_X10_cook b_X10_cook_0
  refine e_find2 hR hC (fun M' hf hF => ?_)
  have hR' := (hR.mf hf).core hco
  rw [e_isHouseM hN8 hF.1, bI_z]
  refine ⟨fun q => ⟨by rw [if_neg (fun z => q z.1)], hR'⟩, fun q => ?_⟩
  have h1 : HB N x1 := Classical.not_not.mp q
  rw [e_isTwo, bI_z]
  refine ⟨fun q => ⟨by rw [if_neg (fun z => q z.2)], hR'⟩, fun q => ?_⟩
  rw [if_pos ⟨h1, Classical.not_not.mp q⟩]
  obtain ⟨k, hk, rfl⟩ := HB_of h1 hN8
  rw [nI_clamp (by omega)]
  exact m_cookOf hC hF hk (fun M2 hf2 _ => ⟨rfl, hR'.mf hf2⟩)
