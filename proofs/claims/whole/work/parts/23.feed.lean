-- a guest's way: (hunger left, salted, turned down, sleeps, visited bits, doors, given)
abbrev WS : Type := Int32 × Int32 × Int32 × Int32 × Int32 × Int32 × (Nat → Int32)
def lfW (w : WS) : Int32 := w.1
def rfW (w : WS) : Int32 := w.2.2.1
def slW (w : WS) : Int32 := w.2.2.2.1
def vsW (w : WS) : Int32 := w.2.2.2.2.1
def drW (w : WS) : Int32 := w.2.2.2.2.2.1
def gvW (w : WS) : Nat → Int32 := w.2.2.2.2.2.2
def W0 (hu : Int32) : WS := (hu, 0, 0, (-1), 0, 0, fun _ => 0)
/-- a house offers its course -/
def offW (h k p tn : Int32) (w : WS) : WS :=
  if (if w.2.1 = 0 then p else p + 2) ≤ w.1 ∨ tn ≤ w.2.2.1 then
    (behI k (w.1 - (if w.1 ≤ (if w.2.1 = 0 then p else p + 2) then w.1 else (if w.2.1 = 0 then p else p + 2))), (if k = 1 then 1 else 0), w.2.2.1, (if behI k (w.1 - (if w.1 ≤ (if w.2.1 = 0 then p else p + 2) then w.1 else (if w.2.1 = 0 then p else p + 2))) = 0 then h else w.2.2.2.1), w.2.2.2.2.1, w.2.2.2.2.2.1, upd w.2.2.2.2.2.2 h.toNatClampNeg (if w.1 ≤ (if w.2.1 = 0 then p else p + 2) then w.1 else (if w.2.1 = 0 then p else p + 2)))
  else (w.1, w.2.1, w.2.2.1 + 1, w.2.2.2.1, w.2.2.2.2.1, w.2.2.2.2.2.1, w.2.2.2.2.2.2)
/-- it comes to a door -/
def dorW (h : Int32) (w : WS) : WS := (w.1, w.2.1, w.2.2.1, w.2.2.2.1, w.2.2.2.2.1 ||| (1 <<< (h &&& 31)), w.2.2.2.2.2.1 + 1, w.2.2.2.2.2.2)
def stpW (em tn h k p : Int32) (w : WS) : WS := if ((em >>> (h &&& 31)) &&& 1) = 0 then offW h k p tn (dorW h w) else dorW h w
def FEED (nH em tn dn : Int32) (o kd po : Nat → Int32) : Nat → Int32 → WS → WS
  | 0, _, w => w
  | n + 1, pl, w => if w.1 ≤ 0 ∨ pl < 0 ∨ nH ≤ pl then w else
      FEED nH em tn dn o kd po n (pl + (if dn = 1 then 1 else (-1))) (stpW em tn (o pl.toNatClampNeg) (kd (o pl.toNatClampNeg).toNatClampNeg) (po (o pl.toNatClampNeg).toNatClampNeg) w)
/-- a Walk's memory holds the way -/
def WREP (m : Mem) (w : WS) : Prop := m 0 2 = w.1 ∧ m 0 6 = w.2.1 ∧ m 0 3 = w.2.2.1 ∧ m 0 1 = w.2.2.2.1 ∧ m 0 5 = w.2.2.2.2.1 ∧ m 0 4 = w.2.2.2.2.2.1 ∧ ∀ h, h < 8 → m 1 h = w.2.2.2.2.2.2 h
theorem e_clear {m : Mem} {hu : Int32} {post : Mem → Prop} (h : ∀ m', WREP m' (W0 hu) → post m') : wp_X8_clear m hu post := by
  unfold wp_X8_clear b_X8_clear_0
  refine loop_0 (fun k i m => b_X8_clear_2 post k hu (nI i) m) (fun i m => ∀ a, a < i → m 1 a = 0) 8 m (fun a ha => absurd ha (Nat.not_lt_zero a)) ?_ ?_
  · intro k m hI
    unfold b_X8_clear_2
    refine ⟨fun _ => ?_, fun q => absurd (nI_le (Nat.le_refl 8) (by omega)) q⟩
    intro m2 e2 m3 e3 m4 e4 m5 e5 m6 e6 m7 e7
    subst e7 e6 e5 e4 e3 e2
    refine h _ ⟨by simp [up2_app, W0], by simp [up2_app, W0], by simp [up2_app, W0], by simp [up2_app, W0], by simp [up2_app, W0], by simp [up2_app, W0], fun a ha => ?_⟩
    simp [up2_app, W0, hI a ha]
  · intro k i m hi hI ih
    unfold b_X8_clear_2
    refine ⟨fun q => absurd q (nI_ge (b := 8) hi (by omega)), fun _ => ⟨vp_in_nI hi (by omega), fun m8 e8 y ey => ?_⟩⟩
    rw [nI_clamp (by omega)] at e8
    subst ey e8
    rw [nI_1]
    refine ih _ (lt_s (fun a ha => ?_) (up2_s _ _ _ _))
    rw [up2_i m (by omega)]
    exact hI a ha
theorem e_offer {m : Mem} {w : WS} {x k p tn : Int32} (hw : WREP m w) (hx : vp_in x 8) {post : Mem → Prop} (h : ∀ m', WREP m' (offW x k p tn w) → post m') : wp_X8_offer m x k p tn post := by
  obtain ⟨lf, sa, rf, sl, vs, dr, gv⟩ := w
  obtain ⟨h2, h6, h3, h1, h5, h4, hg⟩ := hw
  dsimp only at h2 h6 h3 h1 h5 h4 hg
  obtain ⟨j, hj, rfl⟩ := vp_in_of hx (by omega)
  have cj : (nI j).toNatClampNeg = j := nI_clamp (by omega)
  unfold wp_X8_offer b_X8_offer_0
  rw [h2, h3, h6]
  unfold offW at h
  dsimp only at h
  intro of eof
  rw [← eof] at h
  have eat : (of ≤ lf ∨ tn ≤ rf) → b_X8_offer_45 post (nI j) k of m := by
    intro q
    rw [if_pos q] at h
    unfold b_X8_offer_45
    rw [h2, cj]
    rw [cj] at h
    intro ea eea
    rw [← eea] at h
    refine ⟨hx, fun m3 e3 m4 e4 => ?_⟩
    have f2 : m3 0 2 = lf := by subst e3; simp [up2_app, h2]
    rw [f2] at e4
    have fin : ∀ m5 : Mem, m5 = up2 m4 0 2 (behI k (lf - ea)) → b_X8_offer_140 post (nI j) k m5 := by
      intro m5 e5
      unfold b_X8_offer_140
      intro v ev
      refine ⟨?_, fun m6 e6 => ?_⟩
      · rw [ev]; by_cases hk : k = 1 <;> simp [hk]
      · have f3 : m6 0 2 = behI k (lf - ea) := by subst e6 e5; simp [up2_app]
        rw [f3]
        refine ⟨fun q => ?_, fun q => ?_⟩
        · refine h m6 ⟨f3, ?_, ?_, ?_, ?_, ?_, ?_⟩ <;> subst e6 e5 e4 e3 <;> simp [up2_app, ev, h3, h1, h5, h4, q]
          intro a ha
          rw [hg a ha]
          unfold upd
          rfl
        · intro m7 e7
          refine h m7 ⟨by subst e7; simpa [up2_app] using f3, ?_, ?_, ?_, ?_, ?_, ?_⟩ <;> subst e7 e6 e5 e4 e3 <;> simp [up2_app, ev, h3, h1, h5, h4, q]
          intro a ha
          rw [hg a ha]
          unfold upd
          rfl
    have f4 : m4 0 2 = lf - ea := by subst e4; simp [up2_app]
    have hself : up2 m4 0 2 (lf - ea) = m4 := by
      subst e4
      funext a b
      by_cases q1 : a = 0 <;> by_cases q2 : b = 2 <;> simp [up2_app, q1, q2]
    rw [f4]
    refine ⟨fun hk2 => ⟨fun hk3 => ?_, fun hk3 => ⟨fun q2 => ?_, fun q2 => ?_⟩⟩, fun hk2 => ?_⟩
    · refine fin m4 ?_
      unfold behI
      rw [if_neg hk2, if_neg hk3]
      exact hself.symm
    · refine fin m4 ?_
      unfold behI
      rw [if_neg hk2, if_pos hk3, if_pos q2]
      exact hself.symm
    · intro v9 e9 m10 e10
      refine fin m10 ?_
      rw [e10, e9]
      unfold behI
      rw [if_neg hk2, if_pos hk3, if_neg q2]
    · intro m11 e11
      refine fin m11 ?_
      rw [e11]
      unfold behI
      rw [if_pos hk2]
  refine ⟨fun q => eat (Or.inl q), fun q => ⟨fun q2 => eat (Or.inr q2), fun q2 m5 e5 => ?_⟩⟩
  rw [if_neg (fun z => z.elim q q2)] at h
  refine h m5 ⟨?_, ?_, ?_, ?_, ?_, ?_, ?_⟩ <;> subst e5 <;> simp [up2_app, h2, h6, h3, h1, h5, h4]
  exact hg
theorem and1 (x : Int32) : x &&& 1 = 0 ∨ x &&& 1 = 1 := by
  obtain ⟨j, hj, e⟩ := pk_andE x (m := 1) 1 (by decide)
  rcases (show j = 0 ∨ j = 1 by omega) with rfl | rfl
  · exact Or.inl e
  · exact Or.inr e
theorem e_isEmpty {m : Mem} {h : Int32} {post : Int32 → Prop} : wp_X4_isEmpty m h post = post (if (m 0 6 >>> (h &&& 31)) &&& 1 = 0 then 0 else 1) := by
  unfold wp_X4_isEmpty b_X4_isEmpty_0
  simp only [forall_eq]
  by_cases q : (m 0 6 >>> (h &&& 31)) &&& 1 = 0 <;> simp [q]
/-- a Row's memory: N houses, the order's numbers in range -/
def ROK (N : Nat) (R : Mem) : Prop := N ≤ 8 ∧ R 0 4 = nI N ∧ ∀ p, p < N → ∃ j, j < N ∧ R 4 p = nI j
def FEEDR (R : Mem) (hu be dn tn : Int32) : WS := FEED (R 0 4) (R 0 6) tn dn (R 4) (R 1) (R 2) 8 be (W0 hu)
theorem in_of {x : Int32} {N : Nat} (h0 : ¬ x < 0) (h : ¬ nI N ≤ x) (hN : N < 2 ^ 31) : ∃ j, j < N ∧ x = nI j := by
  rcases pk_ix x hN with q | q | q
  · exact absurd q h0
  · exact absurd q h
  · exact q
theorem e_goLoop {N : Nat} {m1 m2 : Mem} (hR : ROK N m1) {g : Nat} (hg : g < 8) {dn : Int32} {post : Mem → Prop} : ∀ (n i : Nat) (pl : Int32) (m : Mem) (w : WS), i + n = 8 → WREP m w → (∀ m', WREP m' (FEED (m1 0 4) (m1 0 6) (m2 4 g) dn (m1 4) (m1 1) (m1 2) n pl w) → post m') → b_X8_goFrom_17 m1 m2 post (n + 1) (nI g) dn pl (nI i) m
  | 0, i, pl, m, w, hi, hw, h => by
    unfold b_X8_goFrom_17
    have : i = 8 := by omega
    subst this
    exact ⟨fun _ => h m hw, fun q => absurd (nI_le (Nat.le_refl 8) (by omega)) q⟩
  | n + 1, i, pl, m, w, hi, hw, h => by
    obtain ⟨hN8, hN, ho⟩ := hR
    unfold b_X8_goFrom_17
    unfold FEED at h
    obtain ⟨h2, h6, h3, h1, h5, h4, hgv⟩ := id hw
    rw [h2, hN]
    refine ⟨fun q => absurd q (nI_ge (b := 8) (show i < 8 by omega) (by omega)), fun _ => ⟨fun q => ?_, fun q => ⟨fun q2 => ?_, fun q2 => ⟨fun q3 => ?_, fun q3 => ?_⟩⟩⟩⟩
    · rw [if_pos (Or.inl q)] at h
      exact h m hw
    · rw [if_pos (Or.inr (Or.inl q2))] at h
      exact h m hw
    · rw [hN, if_pos (Or.inr (Or.inr q3))] at h
      exact h m hw
    · rw [if_neg (by rw [hN]; exact fun z => z.elim q (fun z => z.elim q2 q3))] at h
      obtain ⟨p, hp, rfl⟩ := in_of q2 q3 (by omega)
      obtain ⟨j, hj, eo⟩ := ho p hp
      have cp : (nI p).toNatClampNeg = p := nI_clamp (by omega)
      have cj : (nI j).toNatClampNeg = j := nI_clamp (by omega)
      have cg : (nI g).toNatClampNeg = g := nI_clamp (by omega)
      refine ⟨vp_in_nI (by omega) (by omega), fun x8 e8 m6 e6 m7 e7 => ?_⟩
      rw [cp, eo] at e8
      subst e8
      rw [cp, eo, cj] at h
      have hd : WREP m7 (dorW (nI j) w) := by
        have f5 : m6 0 5 = w.2.2.2.2.1 := by subst e6; simp [up2_app, h5]
        rw [f5] at e7
        refine ⟨?_, ?_, ?_, ?_, ?_, ?_, fun a ha => ?_⟩ <;> subst e7 e6 <;> simp [up2_app, dorW, h2, h6, h3, h1, h4]
        exact hgv a ha
      have fin : ∀ m9, WREP m9 (stpW (m1 0 6) (m2 4 g) (nI j) (m1 1 j) (m1 2 j) w) → b_X8_goFrom_112 m1 m2 post (b_X8_goFrom_17 m1 m2 post (n + 1)) (nI g) dn (nI p) (nI i) m9 := by
        intro m9 hw9
        unfold b_X8_goFrom_112
        intro v ev x6 ex6 x7 ex7
        subst ev ex6 ex7
        rw [nI_1]
        exact e_goLoop ⟨hN8, hN, ho⟩ hg n (i + 1) _ m9 _ (by omega) hw9 h
      rw [e_isEmpty, cj, cg]
      have hvj : vp_in (nI j) 8 := vp_in_nI (by omega) (by omega)
      by_cases qe : (m1 0 6 >>> (nI j &&& 31)) &&& 1 = 0
      · rw [if_pos qe]
        refine ⟨fun z => absurd rfl z, fun _ => ⟨hvj, hvj, vp_in_nI (by omega) (by omega), ?_⟩⟩
        refine e_offer hd hvj (fun m9 hm9 => fin m9 ?_)
        unfold stpW
        rw [if_pos qe]
        exact hm9
      · rw [if_neg qe]
        refine ⟨fun _ => fin m7 ?_, fun z => absurd z (by decide)⟩
        unfold stpW
        rw [if_neg qe]
        exact hd
theorem e_goFrom {N : Nat} {m0 m1 m2 : Mem} (hR : ROK N m1) {g : Nat} (hg : g < 8) {be dn : Int32} {post : Mem → Prop} (h : ∀ m', WREP m' (FEEDR m1 (m2 1 g) be dn (m2 4 g)) → post m') : wp_X8_goFrom m0 m1 m2 (nI g) be dn post := by
  unfold wp_X8_goFrom b_X8_goFrom_0
  refine ⟨vp_in_nI (by omega) (by omega), ?_⟩
  rw [nI_clamp (by omega)]
  exact e_clear (fun m' hm' => ⟨9, e_goLoop hR hg 8 0 be m' _ rfl hm' h⟩)
theorem e_go {N : Nat} {m0 m1 m2 : Mem} (hR : ROK N m1) {g : Nat} (hg : g < 8) {post : Mem → Prop} (h : ∀ m', WREP m' (FEEDR m1 (m2 1 g) (m2 2 g) (m2 3 g) (m2 4 g)) → post m') : wp_X8_go m0 m1 m2 (nI g) post := by
  unfold wp_X8_go b_X8_go_0
  refine ⟨vp_in_nI (by omega) (by omega), vp_in_nI (by omega) (by omega), ?_⟩
  rw [nI_clamp (by omega)]
  exact e_goFrom hR hg h
