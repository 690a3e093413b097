-- the reference's feeding
def FEEDM (M : Mem) (g : Nat) : WS := FEED (M 0 7) (M 9 1) (M 8 (4 * g + 3)) (M 8 (4 * g + 2)) (M 10) (fun h => M 7 (3 * h)) (fun h => M 7 (3 * h + 1)) 8 (M 8 (4 * g + 1)) (W0 (M 8 (4 * g)))
def FEDM (g : Nat) (w : WS) (M : Mem) : Prop := (∀ h, h < 8 → M 11 (8 * g + h) = gvW w h) ∧ M 12 g = slW w ∧ M 13 g = lfW w ∧ M 14 g = rfW w ∧ M 15 g = vsW w
def FRM (g : Nat) (M M' : Mem) : Prop := (∀ c, c < 11 ∨ 15 < c → M' c = M c) ∧ (∀ i, (i < 8 * g ∨ 8 * g + 8 ≤ i) → M' 11 i = M 11 i) ∧ ∀ c, 12 ≤ c → c ≤ 15 → ∀ i, i ≠ g → M' c i = M c i
theorem FRM_rf (g : Nat) (M : Mem) : FRM g M M := ⟨fun _ _ => rfl, fun _ _ => rfl, fun _ _ _ _ _ => rfl⟩
theorem FRM_g {g : Nat} {M M1 : Mem} (h : FRM g M M1) {j : Nat} (hj : 8 * g ≤ j ∧ j < 8 * g + 8) (x : Int32) : FRM g M (up2 M1 11 j x) :=
  ⟨fun c hc => (up2_c M1 (by omega)).trans (h.1 c hc), fun i hi => by rw [up2_i M1 (by omega)]; exact h.2.1 i hi, fun c h1 h2 i hi => by rw [up2_c M1 (by omega)]; exact h.2.2 c h1 h2 i hi⟩
theorem FRM_c {g : Nat} {M M1 : Mem} (h : FRM g M M1) {c : Nat} (hc : 12 ≤ c ∧ c ≤ 15) (x : Int32) : FRM g M (up2 M1 c g x) :=
  ⟨fun a ha => (up2_c M1 (by omega)).trans (h.1 a ha), fun i hi => by rw [up2_c M1 (by omega)]; exact h.2.1 i hi, fun a h1 h2 i hi => by
    by_cases q : a = c
    · subst q; rw [up2_i M1 hi]; exact h.2.2 a h1 h2 i hi
    · rw [up2_c M1 q]; exact h.2.2 a h1 h2 i hi⟩
/-- a Model's houses and row: N houses, the row's numbers in range -/
def MOK (N : Nat) (M : Mem) : Prop := N ≤ 8 ∧ M 0 7 = nI N ∧ ∀ p, p < N → ∃ j, j < N ∧ M 10 p = nI j
theorem nI_m1' (n : Nat) : nI n - 1 = nI n + (-1) := by rw [Int32.sub_eq_add_neg]
theorem m1_toInt {p : Nat} (h : p < 2 ^ 30) : (nI p - 1).toInt = (p : Int) - 1 := pk_sub_toInt (a := p) (b := 1) h (by omega)
theorem bI_cong {c d : Prop} [Decidable c] [Decidable d] (h : c ↔ d) : bI c = bI d := by unfold bI; by_cases q : d <;> simp [h, q]
theorem lt_pred {x : Int32} {N : Nat} (hN : N ≤ 8) : (x ≤ nI N - 1) = (¬ nI N ≤ x) := propext (by
  have e : (nI N - 1).toInt = (N : Int) - 1 := pk_sub_toInt (a := N) (b := 1) (by omega) (by omega)
  rw [i_le, i_le, e, nI_toInt (by omega)]
  omega)
theorem e_inM {x : Int32} {N : Nat} (hN : N ≤ 8) (post : Int32 → Prop) : wp_X10_in x.toInt64 0 (Int32.toInt64 (nI N - 1)) post = post (bI (¬ x < 0 ∧ ¬ nI N ≤ x)) := by
  rw [e_in (a := 0) x 0 (nI N - 1) post rfl rfl]
  rw [bI_cong (d := ¬ x < 0 ∧ ¬ nI N ≤ x)]
  rw [← lt_pred hN, i_nlt]
/-- between two doors: the model's numbers and the way -/
def FM1 (g : Nat) (M0 M : Mem) (w : WS) (x2 x3 : Int32) : Prop := FRM g M0 M ∧ (∀ h, h < 8 → M 11 (8 * g + h) = w.2.2.2.2.2.2 h) ∧ M 12 g = w.2.2.2.1 ∧ M 14 g = w.2.2.1 ∧ M 15 g = w.2.2.2.2.1 ∧ x2 = w.1 ∧ w.2.1 = (if x3 = 1 then 1 else 0) ∧ (w.1 ≠ 0 → w.2.2.2.1 = (-1))
theorem e_feeds70 {N g : Nat} {M0 : Mem} (hM : MOK N M0) (hg : g < 8) {post : Mem → Prop} : ∀ (n : Nat) (pl x2 x3 : Int32) (M : Mem) (w : WS), FM1 g M0 M w x2 x3 → (-1 ≤ pl.toInt ∧ pl.toInt ≤ 8) → (if M0 8 (4 * g + 2) = 1 then 8 - (n : Int) ≤ pl.toInt else pl.toInt ≤ (n : Int) - 1) →
    (∀ M', FEDM g (FEED (M0 0 7) (M0 9 1) (M0 8 (4 * g + 3)) (M0 8 (4 * g + 2)) (M0 10) (fun h => M0 7 (3 * h)) (fun h => M0 7 (3 * h + 1)) n pl w) M' → FRM g M0 M' → post M') → b_X10_feeds_70 post (n + 1) (nI g) x2 x3 pl M := by
  intro n
  induction n with
  | zero =>
    intro pl x2 x3 M w hI hpl hst h
    obtain ⟨hN8, hN, ho⟩ := hM
    obtain ⟨hF, h11, h12, h14, h15, hx2, hx3, hsl⟩ := hI
    unfold FEED at h
    have fin : b_X10_feeds_273 post (nI g) x2 M := by
      unfold b_X10_feeds_273
      refine ⟨vp_in_nI hg (by omega), fun m1 e1 => ?_⟩
      rw [nI_clamp (by omega)] at e1
      subst e1
      refine h _ ⟨fun a ha => ?_, ?_, ?_, ?_, ?_⟩ (FRM_c hF (by omega) _)
      · rw [up2_c M (by decide)]; exact h11 a ha
      · rw [up2_c M (by decide)]; exact h12
      · rw [up2_s]; exact hx2
      · rw [up2_c M (by decide)]; exact h14
      · rw [up2_c M (by decide)]; exact h15
    unfold b_X10_feeds_70
    refine ⟨fun _ => fin, fun _ => ?_⟩
    rw [hF.1 0 (by omega), hN, e_inM hN8, bI_z]
    refine ⟨fun _ => fin, fun q => ?_⟩
    exfalso
    refine q ?_
    rw [i_lt, i_le, nI_toInt (by omega)]
    have z0 : (0 : Int32).toInt = 0 := rfl
    split at hst <;> omega
  | succ n ihn =>
    intro pl x2 x3 M w hI hpl hst h
    obtain ⟨hN8, hN, ho⟩ := id hM
    obtain ⟨hF, h11, h12, h14, h15, hx2, hx3, hsl⟩ := hI
    unfold FEED at h
    have fin : (w.1 ≤ 0 ∨ pl < 0 ∨ M0 0 7 ≤ pl) → b_X10_feeds_273 post (nI g) x2 M := by
      intro q
      rw [if_pos q] at h
      unfold b_X10_feeds_273
      refine ⟨vp_in_nI hg (by omega), fun m1 e1 => ?_⟩
      rw [nI_clamp (by omega)] at e1
      subst e1
      refine h _ ⟨fun a ha => ?_, ?_, ?_, ?_, ?_⟩ (FRM_c hF (by omega) _)
      · rw [up2_c M (by decide)]; exact h11 a ha
      · rw [up2_c M (by decide)]; exact h12
      · rw [up2_s]; exact hx2
      · rw [up2_c M (by decide)]; exact h14
      · rw [up2_c M (by decide)]; exact h15
    unfold b_X10_feeds_70
    refine ⟨fun q => fin (Or.inl (hx2 ▸ q)), fun q0 => ?_⟩
    rw [hF.1 0 (by omega), hN, e_inM hN8, bI_z]
    refine ⟨fun q => fin (Or.inr ?_), fun q => ?_⟩
    · rw [hN]
      by_cases z : pl < 0
      · exact Or.inl z
      · by_cases z2 : nI N ≤ pl
        · exact Or.inr z2
        · exact absurd ⟨z, z2⟩ q
    · have q : ¬ pl < 0 ∧ ¬ nI N ≤ pl := Classical.not_not.mp q
      rw [if_neg (by rw [hN, ← hx2]; exact fun z => z.elim q0 (fun z => z.elim q.1 q.2))] at h
      obtain ⟨p, hp, rfl⟩ := in_of q.1 q.2 (by omega)
      obtain ⟨j, hj, eo⟩ := ho p hp
      have cp : (nI p).toNatClampNeg = p := nI_clamp (by omega)
      have cj : (nI j).toNatClampNeg = j := nI_clamp (by omega)
      have cg : (nI g).toNatClampNeg = g := nI_clamp (by omega)
      have vg : vp_in (nI g) 8 := vp_in_nI hg (by omega)
      have e41 : 4 * nI g + 2 = nI (4 * g + 2) := by rw [show (4 : Int32) = nI 4 from rfl, show (2 : Int32) = nI 2 from rfl, pk_mul, nI_add]
      have e43 : 4 * nI g + 3 = nI (4 * g + 3) := by rw [show (4 : Int32) = nI 4 from rfl, show (3 : Int32) = nI 3 from rfl, pk_mul, nI_add]
      have e3j : 3 * nI j = nI (3 * j) := by rw [show (3 : Int32) = nI 3 from rfl, pk_mul]
      have e31 : 3 * nI j + 1 = nI (3 * j + 1) := by rw [e3j, nI_1]
      have e8 : 8 * nI g + nI j = nI (8 * g + j) := by rw [show (8 : Int32) = nI 8 from rfl, pk_mul, nI_add]
      refine ⟨vp_in_nI (by omega) (by omega), fun x5 e5 => ⟨vg, vg, fun m5 em5 => ?_⟩⟩
      rw [cp, hF.1 10 (by omega), eo] at e5
      subst e5
      rw [cp, eo, cj] at h
      rw [cg] at em5
      rw [h15] at em5
      rw [e31]
      refine ⟨vp_in_nI (by omega) (by omega), fun v7 e7 x6 e6 => ⟨vp1 (by decide) (by decide), ?_⟩⟩
      have hF5 : FRM g M0 m5 := by rw [em5]; exact FRM_c hF (by omega) _
      rw [nI_clamp (by omega), hF5.1 7 (by omega)] at e6
      rw [hF5.1 9 (by omega), e_isIn, bI_z, show Int32.toNatClampNeg 1 = 1 from rfl]
      rw [e43, nI_clamp (by omega), hF5.1 8 (by omega)]
      have g11 : ∀ a, a < 8 → m5 11 (8 * g + a) = w.2.2.2.2.2.2 a := fun a ha => by rw [em5, up2_c M (by decide)]; exact h11 a ha
      have g12 : m5 12 g = w.2.2.2.1 := by rw [em5, up2_c M (by decide)]; exact h12
      have g14 : m5 14 g = w.2.2.1 := by rw [em5, up2_c M (by decide)]; exact h14
      have g15 : m5 15 g = w.2.2.2.2.1 ||| (1 <<< (nI j &&& 31)) := by rw [em5, up2_s]
      rw [cg, g14]
      -- one door further
      have fin2 : ∀ (m9 : Mem) (w9 : WS) (y2 y3 : Int32), w9 = stpW (M0 9 1) (M0 8 (4 * g + 3)) (nI j) (M0 7 (3 * j)) (M0 7 (3 * j + 1)) w → FM1 g M0 m9 w9 y2 y3 → b_X10_feeds_246 post (b_X10_feeds_70 post (n + 1)) (nI g) y2 y3 (nI p) m9 := by
        intro m9 w9 y2 y3 ew hI9
        unfold b_X10_feeds_246
        rw [e41]
        refine ⟨vp_in_nI (by omega) (by omega), fun v ev x4 ex4 => ?_⟩
        rw [nI_clamp (by omega), hI9.1.1 8 (by omega)] at ev
        rw [ev] at ex4
        have tp : (nI p).toInt = (p : Int) := nI_toInt (by omega)
        rw [tp] at hst hpl
        refine ihn x4 y2 y3 m9 w9 hI9 ?_ ?_ (by rw [ew, ex4]; exact h)
        · rw [ex4]
          split
          · rw [nI_1, nI_toInt (by omega)]; omega
          · rw [← nI_m1', m1_toInt (by omega)]; omega
        · rw [ex4]
          split
          · rename_i z
            rw [if_pos z] at hst
            rw [nI_1, nI_toInt (by omega)]; omega
          · rename_i z
            rw [if_neg z] at hst
            rw [← nI_m1', m1_toInt (by omega)]; omega
      have hof : x6 = (if w.2.1 = 0 then M0 7 (3 * j + 1) else M0 7 (3 * j + 1) + 2) := by
        rw [e6, e7, hx3]
        by_cases z : x3 = 1 <;> simp [z]
      have eat : (M0 9 1 >>> (nI j &&& 31)) &&& 1 = 0 → (x6 ≤ x2 ∨ M0 8 (4 * g + 3) ≤ w.2.2.1) → b_X10_feeds_189 post (b_X10_feeds_70 post (n + 1)) (nI g) x2 (nI p) (nI j) x6 m5 := by
        intro qe qo
        unfold b_X10_feeds_189
        rw [e_lesser, e8]
        refine ⟨vp_in_nI (by omega) (by omega), fun m2 em2 => ?_⟩
        rw [nI_clamp (by omega)] at em2
        rw [e3j]
        refine ⟨vp_in_nI (by omega) (by omega), fun y3 ey3 => ?_⟩
        have hF2 : FRM g M0 m2 := by rw [em2]; exact FRM_g hF5 (by omega) _
        rw [nI_clamp (by omega), hF2.1 7 (by omega)] at ey3
        rw [e_behind]
        intro v6 ev6
        refine ⟨vg, fun m7 em7 => ?_⟩
        rw [cg] at em7
        refine fin2 m7 _ _ _ rfl ?_
        unfold stpW
        rw [if_pos qe]
        unfold offW dorW
        dsimp only
        rw [← hof, ← hx2, if_pos qo]
        refine ⟨by rw [em7]; exact FRM_c hF2 (by omega) _, fun a ha => ?_, ?_, ?_, ?_, by rw [ey3], by rw [ey3], fun z => ?_⟩
        · rw [em7, up2_c m2 (by decide), em2, cj]
          unfold upd
          by_cases z : a = j
          · rw [z, up2_s]; simp
          · rw [up2_i m5 (by omega), g11 a ha]; simp [z]
        · rw [em7, up2_s, ev6, ey3]
          dsimp only
          rw [hsl (by rw [← hx2]; intro z; exact q0 (by rw [z]; decide))]
        · rw [em7, up2_c m2 (by decide), em2, up2_c m5 (by decide)]; exact g14
        · rw [em7, up2_c m2 (by decide), em2, up2_c m5 (by decide)]; exact g15
        · dsimp only at z ⊢
          rw [if_neg z]
          exact hsl (by rw [← hx2]; intro z; exact q0 (by rw [z]; decide))
      refine ⟨fun qi => ?_, fun qi => ?_⟩
      · have qi : (M0 9 1 >>> (nI j &&& 31)) &&& 1 = 1 := Classical.not_not.mp qi
        refine fin2 m5 _ _ _ rfl ?_
        unfold stpW
        rw [if_neg (by rw [qi]; decide)]
        exact ⟨hF5, g11, g12, g14, g15, hx2, hx3, hsl⟩
      · have qi : (M0 9 1 >>> (nI j &&& 31)) &&& 1 = 0 := (and1 _).resolve_right qi
        refine ⟨fun qo => eat qi (Or.inl qo), fun qo => ⟨vg, vp_in_nI (by omega) (by omega), fun qt => eat qi (Or.inr qt), fun qt => ⟨vg, vg, fun m13 em13 => ?_⟩⟩⟩
        refine fin2 m13 _ _ _ rfl ?_
        unfold stpW
        rw [if_pos qi]
        unfold offW dorW
        dsimp only
        rw [← hof, ← hx2, if_neg (fun z => z.elim qo qt)]
        refine ⟨by rw [em13]; exact FRM_c hF5 (by omega) _, fun a ha => ?_, ?_, ?_, ?_, rfl, hx3, fun z => ?_⟩
        · rw [em13, up2_c m5 (by decide)]; exact g11 a ha
        · rw [em13, up2_c m5 (by decide)]; exact g12
        · rw [em13, up2_s]
        · rw [em13, up2_c m5 (by decide)]; exact g15
        · exact hsl (by rw [← hx2]; exact z)
/-- guest g of a Model's table begins in the row's range -/
def MBG (g : Nat) (M : Mem) : Prop := ∃ b, b < 8 ∧ M 8 (4 * g + 1) = nI b
theorem e_feeds {N g : Nat} {M : Mem} (hM : MOK N M) (hg : g < 8) (hB : MBG g M) {post : Mem → Prop} (h : ∀ M', FEDM g (FEEDM M g) M' → FRM g M M' → post M') : wp_X10_feeds M (nI g) post := by
  have cg : (nI g).toNatClampNeg = g := nI_clamp (by omega)
  have vg : vp_in (nI g) 8 := vp_in_nI hg (by omega)
  have e40 : 4 * nI g = nI (4 * g) := by rw [show (4 : Int32) = nI 4 from rfl, pk_mul]
  have e41 : 4 * nI g + 1 = nI (4 * g + 1) := by rw [e40, nI_1]
  unfold wp_X10_feeds b_X10_feeds_0
  refine loop_0 (fun k i m => b_X10_feeds_2 post k (nI g) (nI i) m) (fun i m => FRM g M m ∧ ∀ a, a < i → m 11 (8 * g + a) = 0) 8 M ⟨FRM_rf g M, fun a ha => absurd ha (Nat.not_lt_zero a)⟩ ?_ ?_
  · intro k m hI
    unfold b_X10_feeds_2
    refine ⟨fun _ => ⟨vg, fun m2 e2 => ⟨vg, fun m3 e3 => ⟨vg, fun m4 e4 => ?_⟩⟩⟩, fun q => absurd (nI_le (Nat.le_refl 8) (by omega)) q⟩
    rw [cg] at e2 e3 e4
    rw [e41, e40]
    have hF4 : FRM g M m4 := by rw [e4, e3, e2]; exact FRM_c (FRM_c (FRM_c hI.1 (by omega) _) (by omega) _) (by omega) _
    refine ⟨vp_in_nI (by omega) (by omega), fun x2 ex2 => ⟨vp_in_nI (by omega) (by omega), fun x4 ex4 => ?_⟩⟩
    rw [nI_clamp (by omega), hF4.1 8 (by omega)] at ex2 ex4
    obtain ⟨b, hb, eb⟩ := hB
    refine ⟨9, e_feeds70 hM hg 8 x4 x2 0 m4 (W0 (M 8 (4 * g))) ?_ ?_ ?_ (by rw [ex4]; exact h)⟩
    · refine ⟨hF4, fun a ha => ?_, ?_, ?_, ?_, ex2, rfl, fun _ => rfl⟩
      · rw [e4, e3, e2, up2_c _ (by decide), up2_c _ (by decide), up2_c _ (by decide)]; exact hI.2 a ha
      · rw [e4, e3, e2, up2_c _ (by decide), up2_c _ (by decide), up2_s]; rfl
      · rw [e4, e3, e2, up2_c _ (by decide), up2_s]; rfl
      · rw [e4, e3, e2, up2_s]; rfl
    · rw [ex4, eb, nI_toInt (by omega)]; omega
    · rw [ex4, eb, nI_toInt (by omega)]
      split <;> omega
  · intro k i m hi hI ih
    unfold b_X10_feeds_2
    have e8 : 8 * nI g + nI i = nI (8 * g + i) := by rw [show (8 : Int32) = nI 8 from rfl, pk_mul, nI_add]
    rw [e8]
    refine ⟨fun q => absurd q (nI_ge (b := 8) hi (by omega)), fun _ => ⟨vp_in_nI (by omega) (by omega), fun m8 em8 y ey => ?_⟩⟩
    rw [nI_clamp (by omega)] at em8
    subst ey
    rw [nI_1]
    refine ih m8 ⟨by rw [em8]; exact FRM_g hI.1 (by omega) _, lt_s (fun a ha => ?_) (by rw [em8, up2_s])⟩
    rw [em8, up2_i m (by omega)]
    exact hI.2 a ha
