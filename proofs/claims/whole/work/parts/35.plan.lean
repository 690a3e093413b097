-- rows that are alike where it matters
def RE (N : Nat) (R' R : Mem) : Prop := R' 0 4 = R 0 4 ∧ R' 0 6 = R 0 6 ∧ ∀ h, h < N → R' 1 h = R 1 h ∧ R' 2 h = R 2 h ∧ R' 4 h = R 4 h
theorem FEEDR_re {N : Nat} {R R' : Mem} (hR : ROK N R) (h : RE N R' R) (hu be dn tn : Int32) : FEEDR R' hu be dn tn = FEEDR R hu be dn tn := by
  unfold FEEDR
  rw [h.1, h.2.1, hR.2.1]
  exact FEED_cong hR.1 (fun p hp => ⟨(h.2.2 p hp).2.2, by rw [(h.2.2 p hp).2.2]; exact hR.2.2 p hp⟩) (fun a ha => ⟨(h.2.2 a ha).1, (h.2.2 a ha).2.1⟩) 8 _ _
theorem WAYS_re {N : Nat} {R R' Gs : Mem} (hR : ROK N R) (h : RE N R' R) (g : Nat) : WAYS R' Gs g = WAYS R Gs g := FEEDR_re hR h _ _ _ _
theorem ROK_re {N : Nat} {R R' : Mem} (hR : ROK N R) (h : RE N R' R) : ROK N R' := ⟨hR.1, h.1.trans hR.2.1, fun p hp => by rw [(h.2.2 p hp).2.2]; exact hR.2.2 p hp⟩
-- the best of the options weighed
def PLb (f t : Nat → Int32) : Nat → Option Nat
  | 0 => none
  | k + 1 => match PLb f t k with
    | none => some k
    | some b => if f k < f b ∨ (f k = f b ∧ ¬ t k ≤ t b) then some k else some b
theorem PLb_n {f t : Nat → Int32} {k : Nat} (h : PLb f t k = none) : PLb f t (k + 1) = some k := by
  show (match PLb f t k with | none => some k | some b => if f k < f b ∨ (f k = f b ∧ ¬ t k ≤ t b) then some k else some b) = some k
  rw [h]
theorem PLb_s {f t : Nat → Int32} {k b : Nat} (h : PLb f t k = some b) : PLb f t (k + 1) = if f k < f b ∨ (f k = f b ∧ ¬ t k ≤ t b) then some k else some b := by
  show (match PLb f t k with | none => some k | some b => if f k < f b ∨ (f k = f b ∧ ¬ t k ≤ t b) then some k else some b) = _
  rw [h]
theorem PLb_lt {f t : Nat → Int32} : ∀ {k b : Nat}, PLb f t k = some b → b < k
  | 0, b, h => by simp [PLb] at h
  | k + 1, b, h => by
    cases hc : PLb f t k with
    | none => rw [PLb_n hc] at h; cases h; omega
    | some c =>
      rw [PLb_s hc] at h
      have := PLb_lt hc
      split at h <;> cases h <;> omega
theorem PLb_pos {f t : Nat → Int32} {k : Nat} : ∃ b, PLb f t (k + 1) = some b := by
  cases hc : PLb f t k with
  | none => exact ⟨k, PLb_n hc⟩
  | some c =>
    rw [PLb_s hc]
    split
    · exact ⟨k, rfl⟩
    · exact ⟨c, rfl⟩
theorem PLb_cong {f t f' t' : Nat → Int32} : ∀ {k : Nat}, (∀ a, a < k → f a = f' a ∧ t a = t' a) → PLb f t k = PLb f' t' k
  | 0, _ => rfl
  | k + 1, h => by
    have ih := PLb_cong (f := f) (t := t) (f' := f') (t' := t') (k := k) (fun a ha => h a (by omega))
    cases hc : PLb f t k with
    | none => rw [PLb_n hc, PLb_n (by rw [← ih]; exact hc)]
    | some c =>
      have := PLb_lt hc
      rw [PLb_s hc, PLb_s (by rw [← ih]; exact hc), (h k (by omega)).1, (h k (by omega)).2, (h c (by omega)).1, (h c (by omega)).2]
def PLR (f t : Nat → Int32) (o : Option Nat) (a b c : Int32) : Prop := match o with
  | none => a = (-1)
  | some k => a = nI k ∧ b = f k ∧ c = t k
theorem e_weigh {f t : Nat → Int32} {k : Nat} {m : Mem} (hk : k < 2 ^ 31) (hm : PLR f t (PLb f t k) (m 0 0) (m 0 1) (m 0 2)) {post : Mem → Prop} (h : ∀ m', PLR f t (PLb f t (k + 1)) (m' 0 0) (m' 0 1) (m' 0 2) → post m') : wp_X3_weigh m (nI k) (f k) (t k) post := by
  have set : (PLb f t (k + 1) = some k) → b_X3_weigh_44 post (nI k) (f k) (t k) m := by
    intro e
    unfold b_X3_weigh_44
    intro m1 e1 m2 e2 m3 e3
    refine h m3 ?_
    rw [e]
    subst e3 e2 e1
    exact ⟨by simp [up2_app], by simp [up2_app], by simp [up2_app]⟩
  cases hc : PLb f t k with
  | none =>
    rw [hc] at hm
    have e0 : m 0 0 = (-1) := hm
    have s := set (PLb_n hc)
    have all : ∀ z : Int32, b_X3_weigh_29 post (nI k) (f k) (t k) z m := fun z => by
      unfold b_X3_weigh_29
      rw [e0]
      exact ⟨fun _ => s, fun q => absurd rfl q⟩
    unfold wp_X3_weigh b_X3_weigh_0 b_X3_weigh_24 b_X3_weigh_28
    exact ⟨fun _ => all 1, fun _ => ⟨fun _ => all 0, fun _ => ⟨fun _ => all 0, fun _ => all 1⟩⟩⟩
  | some b =>
    rw [hc] at hm
    obtain ⟨e0, e1, e2⟩ := hm
    have hb := PLb_lt hc
    have hn := PLb_s hc
    have yes : (f k < f b ∨ (f k = f b ∧ ¬ t k ≤ t b)) → b_X3_weigh_29 post (nI k) (f k) (t k) 1 m := fun q => by
      rw [if_pos q] at hn
      unfold b_X3_weigh_29
      exact ⟨fun _ => set hn, fun _ => ⟨fun z => absurd z (by decide), fun _ => set hn⟩⟩
    have no : ¬ (f k < f b ∨ (f k = f b ∧ ¬ t k ≤ t b)) → b_X3_weigh_29 post (nI k) (f k) (t k) 0 m := fun q => by
      rw [if_neg q] at hn
      unfold b_X3_weigh_29
      rw [e0]
      refine ⟨fun z => absurd z (nI_ne_m1 (by omega)), fun _ => ⟨fun _ => h m ?_, fun z => absurd rfl z⟩⟩
      rw [hn]
      exact ⟨e0, e1, e2⟩
    unfold wp_X3_weigh b_X3_weigh_0 b_X3_weigh_24 b_X3_weigh_28
    rw [e1, e2]
    exact ⟨fun q => yes (Or.inl q), fun q => ⟨fun q2 => no (fun z => z.elim q (fun z => q2 z.1)), fun q2 => ⟨fun q3 => no (fun z => z.elim q (fun z => z.2 q3)), fun q3 => yes (Or.inr ⟨q2, q3⟩)⟩⟩⟩
theorem e_pclear {m : Mem} {post : Mem → Prop} (h : ∀ m', m' 0 0 = (-1) → post m') : wp_X3_clear m post := by
  unfold wp_X3_clear b_X3_clear_0
  intro m1 e1 m2 e2 m3 e3
  refine h m3 ?_
  subst e3 e2 e1
  simp [up2_app]
-- the trial row
theorem e_takeFrom {m m1 : Mem} {post : Mem → Prop} (h : ∀ m', m' 0 4 = m1 0 4 → m' 0 5 = m1 0 5 → m' 0 6 = m1 0 6 → (∀ i, i < 8 → m' 1 i = m1 1 i ∧ m' 2 i = m1 2 i ∧ m' 3 i = m1 3 i ∧ m' 4 i = m1 4 i) → post m') : wp_X4_takeFrom m m1 post := by
  unfold wp_X4_takeFrom b_X4_takeFrom_0
  intro a1 e1 a2 e2 a3 e3
  refine loop_0 (fun k i m => b_X4_takeFrom_26 m1 post k (nI i) m) (fun i m' => m' 0 4 = m1 0 4 ∧ m' 0 5 = m1 0 5 ∧ m' 0 6 = m1 0 6 ∧ ∀ a, a < i → m' 1 a = m1 1 a ∧ m' 2 a = m1 2 a ∧ m' 3 a = m1 3 a ∧ m' 4 a = m1 4 a) 8 a3 ?_ ?_ ?_
  · subst e3 e2 e1
    exact ⟨by simp [up2_app], by simp [up2_app], by simp [up2_app], fun a ha => absurd ha (Nat.not_lt_zero a)⟩
  · intro k m' hI
    unfold b_X4_takeFrom_26
    exact ⟨fun _ => h m' hI.1 hI.2.1 hI.2.2.1 hI.2.2.2, fun q => absurd (nI_le (a := 8) (Nat.le_refl 8) (by omega)) q⟩
  · intro k i m' hi hI ih
    obtain ⟨i4, i5, i6, ih'⟩ := hI
    have vi : vp_in (nI i) 8 := vp_in_nI hi (by omega)
    unfold b_X4_takeFrom_26
    rw [nI_clamp (by omega)]
    refine ⟨fun q => absurd q (nI_ge (b := 8) hi (by omega)), fun _ => ⟨vi, vi, fun b2 f2 => ⟨vi, vi, fun b3 f3 => ⟨vi, vi, fun b4 f4 => ⟨vi, vi, fun b5 f5 y ey => ?_⟩⟩⟩⟩⟩
    rw [ey, nI_1]
    subst f5 f4 f3 f2
    refine ih _ ⟨by simp [up2_app, i4], by simp [up2_app, i5], by simp [up2_app, i6], lt_s (fun a ha => ?_) ?_⟩
    · obtain ⟨q1, q2, q3, q4⟩ := ih' a ha
      have hne : a ≠ i := by omega
      exact ⟨by simp [up2_app, hne, q1], by simp [up2_app, hne, q2], by simp [up2_app, hne, q3], by simp [up2_app, hne, q4]⟩
    · exact ⟨by simp [up2_app], by simp [up2_app], by simp [up2_app], by simp [up2_app]⟩
def hom (tu : Int32) (N h : Nat) : Nat := if tu = 1 then N - 1 - h else h
def skp (hm p j : Nat) : Nat := if (if j < p then j else j - 1) < hm then (if j < p then j else j - 1) else (if j < p then j else j - 1) + 1
def moI (tu : Int32) (N h p j : Nat) : Int32 := if j = p then nI h else ordI tu N (skp (hom tu N h) p j)
theorem hom_lt {tu : Int32} {N h : Nat} (hh : h < N) : hom tu N h < N := by unfold hom; split <;> omega
theorem ord_hom {tu : Int32} {N h : Nat} (hh : h < N) : ordI tu N (hom tu N h) = nI h := by
  unfold ordI hom
  split
  · congr 1; omega
  · rfl
theorem ord_ne {tu : Int32} {N h p : Nat} (hN : N ≤ 8) (hh : h < N) (hp : p < N) (hne : p ≠ hom tu N h) : ¬ ordI tu N p = nI h := fun e => hne (ordI_inj hN hp (hom_lt hh) (e.trans (ord_hom hh).symm))
theorem e_placeOf {m : Mem} {N h : Nat} {tu : Int32} (hN8 : N ≤ 8) (hN : m 0 4 = nI N) (ho : ∀ p, p < N → m 4 p = ordI tu N p) (hh : h < N) {post : Int32 → Prop} (hp : post (nI (hom tu N h))) : wp_X4_placeOf m (nI h) post := by
  have hl := hom_lt (tu := tu) hh
  unfold wp_X4_placeOf b_X4_placeOf_0
  refine loop_0 (fun k i (_ : Unit) => b_X4_placeOf_2 m post k (nI h) (nI i)) (fun _ _ => True) (hom tu N h) () trivial ?_ ?_
  · intro k _ _
    unfold b_X4_placeOf_2
    rw [hN, nI_clamp (by omega), ho _ hl, ord_hom hh]
    exact ⟨fun q => absurd q (nI_ge hl (by omega)), fun _ => ⟨vp_in_nI (by omega) (by omega), fun q => absurd rfl q, fun _ => hp⟩⟩
  · intro k i _ hi _ ih
    unfold b_X4_placeOf_2
    rw [hN, nI_clamp (by omega), ho i (by omega)]
    refine ⟨fun q => absurd q (nI_ge (by omega) (by omega)), fun _ => ⟨vp_in_nI (by omega) (by omega), fun _ y ey => ?_, fun q => absurd q (ord_ne hN8 hh (by omega) (by omega))⟩⟩
    rw [ey, nI_1]
    exact ih () trivial
theorem skp_lt {hm p j N : Nat} (hm' : hm < N) (hp : p < N) (hj : j < N) (hne : j ≠ p) : skp hm p j < N := by
  unfold skp
  split <;> split <;> omega
theorem e_moveFrom {m m1 : Mem} {N h p : Nat} {tu : Int32} (hN8 : N ≤ 8) (hN : m1 0 4 = nI N) (hN' : m 0 4 = nI N) (ho : ∀ p, p < N → m1 4 p = ordI tu N p) (hh : h < N) (hp : p < N) {post : Mem → Prop} (hk : ∀ m', (∀ c, c ≠ 4 → m' c = m c) → (∀ j, j < N → m' 4 j = moI tu N h p j) → post m') : wp_X4_moveFrom m m1 (nI h) (nI p) post := by
  have hl := hom_lt (tu := tu) hh
  unfold wp_X4_moveFrom b_X4_moveFrom_0
  refine e_placeOf hN8 hN ho hh ?_
  refine loop_0 (fun k i m => b_X4_moveFrom_10 m1 post k (nI h) (nI p) (nI (hom tu N h)) (nI i) m) (fun i m' => (∀ c, c ≠ 4 → m' c = m c) ∧ ∀ j, j < i → m' 4 j = moI tu N h p j) N m ⟨fun _ _ => rfl, fun a ha => absurd ha (Nat.not_lt_zero a)⟩ ?_ ?_
  · intro k m' hI
    unfold b_X4_moveFrom_10
    rw [hI.1 0 (by decide), hN']
    exact ⟨fun _ => hk m' hI.1 hI.2, fun q => absurd (nI_le (Nat.le_refl N) (by omega)) q⟩
  · intro k i m' hi hI ih
    have fin : ∀ v : Int32, v = moI tu N h p i → b_X4_moveFrom_81 m1 post (b_X4_moveFrom_10 m1 post k) (nI h) (nI p) (nI (hom tu N h)) (nI i) (up2 m' 4 i v) := by
      intro v ev
      unfold b_X4_moveFrom_81
      intro y ey
      rw [ey, nI_1]
      refine ih _ ⟨fun c hc => by rw [up2_c _ hc]; exact hI.1 c hc, lt_s (fun a ha => ?_) ?_⟩
      · rw [up2_i _ (by omega)]; exact hI.2 a ha
      · rw [up2_s]; exact ev
    unfold b_X4_moveFrom_10
    rw [hI.1 0 (by decide), hN', nI_clamp (by omega), nI_eq (by omega) (by omega)]
    refine ⟨fun q => absurd q (nI_ge hi (by omega)), fun _ => ⟨fun q v4 e4 v6 e6 => ?_, fun q => ⟨vp_in_nI (by omega) (by omega), fun m8 e8 => ?_⟩⟩⟩
    · have f4 : v4 = nI (if i < p then i else i - 1) := by
        rw [e4]
        by_cases z : i < p
        · rw [if_neg (fun w => absurd ((nI_leI (by omega) (by omega)).mp w) (by omega)), if_pos z]
        · rw [if_pos (nI_le (by omega) (by omega)), if_neg z, show (1 : Int32) = nI 1 from rfl, pk_sub (by omega)]
      have f6 : v6 = nI (skp (hom tu N h) p i) := by
        rw [e6, f4]
        unfold skp
        by_cases z : (if i < p then i else i - 1) < hom tu N h
        · rw [if_neg (fun w => absurd ((nI_leI (by omega) (by split <;> omega)).mp w) (by omega)), if_pos z]
        · rw [if_pos (nI_le (by omega) (by split <;> omega)), if_neg z, nI_1]
      have hs := skp_lt (hm := hom tu N h) hl hp hi q
      rw [f6, nI_clamp (by omega)]
      refine ⟨vp_in_nI (by omega) (by omega), vp_in_nI (by omega) (by omega), fun m7 e7 => ?_⟩
      rw [e7]
      refine fin _ ?_
      unfold moI
      rw [if_neg q, ho _ hs]
    · rw [e8]
      refine fin _ ?_
      unfold moI
      rw [if_pos q]
theorem moI_rng {tu : Int32} {N h p j : Nat} (hh : h < N) (hp : p < N) (hj : j < N) : ∃ a, a < N ∧ moI tu N h p j = nI a := by
  unfold moI
  split
  · exact ⟨h, hh, rfl⟩
  · exact ordI_rng (skp_lt (hom_lt hh) hp hj (by assumption))
/-- the row with house h at place p; with house h cooking k; with bits b empty; with portion v of house h -/
def RPl (C : Nat → Mem) (N h p : Nat) : Mem := fun c => if c = 4 then moI (C 3 0 5) N h p else C 3 c
def RKd (C : Nat → Mem) (h : Nat) (k : Int32) : Mem := up2 (C 3) 1 h k
def REm (C : Nat → Mem) (b : Int32) : Mem := up2 (C 3) 0 6 b
def RPo (C : Nat → Mem) (h : Nat) (v : Int32) : Mem := up2 (C 3) 2 h v
def gsW (R Gs : Mem) (G h : Nat) : Int32 := sI (fun g => gvW (WAYS R Gs g) h) G
def tsW (R Gs : Mem) (G h : Nat) : Int32 := sI (sl1 (WAYS R Gs) h) G
theorem gsW_re {N : Nat} {R R' Gs : Mem} (hR : ROK N R) (h : RE N R' R) (G a : Nat) : gsW R' Gs G a = gsW R Gs G a ∧ tsW R' Gs G a = tsW R Gs G a := by
  unfold gsW tsW
  refine ⟨sI_cong (fun k _ => by rw [WAYS_re hR h]), sI_cong (fun k _ => ?_)⟩
  unfold sl1
  rw [WAYS_re hR h]
theorem c_weighTrial {C : Nat → Mem} {L : MemL} {N G h : Nat} {x1 : Int32} (hR : ROK N (C 9)) (hG8 : G ≤ 8) (hG : C 4 0 4 = nI G) (hh : h < 8) {post : (Nat → Mem) → MemL → Prop} (hp : ∀ C5, (∀ g, g ≠ 10 → C5 g = C g) → wp_X3_weigh (C 11) x1 (gsW (C 9) (C 4) G h) (tsW (C 9) (C 4) G h) (fun u => post (up3 C5 11 u) L)) : wp_X9_weighTrial C L x1 (nI h) post := by
  unfold wp_X9_weighTrial b_X9_weighTrial_0
  refine loop_0 (fun k i (u : Int32 × Int32 × (Nat → Mem)) => b_X9_weighTrial_8 post k x1 (nI h) u.1 u.2.1 (nI i) u.2.2 L) (fun i u => u.1 = gsW (C 9) (C 4) i h ∧ u.2.1 = tsW (C 9) (C 4) i h ∧ ∀ g, g ≠ 10 → u.2.2 g = C g) G (0, 0, C) ⟨rfl, rfl, fun _ _ => rfl⟩ ?_ ?_
  · intro k u hu
    obtain ⟨a, b, C'⟩ := u
    obtain ⟨h1, h2, h3⟩ := hu
    dsimp only at h1 h2 h3
    dsimp only
    unfold b_X9_weighTrial_8
    rw [h3 4 (by decide), hG, h3 11 (by decide), h1, h2]
    refine ⟨fun _ => ?_, fun q => absurd (nI_le (Nat.le_refl G) (by omega)) q⟩
    simp only [forall_eq]
    exact hp C' h3
  · intro k i u hi hu ih
    obtain ⟨a, b, C'⟩ := u
    obtain ⟨h1, h2, h3⟩ := hu
    dsimp only at h1 h2 h3
    dsimp only
    unfold b_X9_weighTrial_8
    rw [h3 4 (by decide), hG, h3 9 (by decide)]
    refine ⟨fun q => absurd q (nI_ge hi (by omega)), fun _ => e_go hR (by omega) (fun w hw C5 e5 => ?_)⟩
    have c10 : C5 10 = w := by rw [e5]; rfl
    rw [c10, nI_clamp (by omega)]
    obtain ⟨-, -, -, w1, -, -, wg⟩ := hw
    refine ⟨vp_in_nI hh (by omega), fun y ey => ?_⟩
    have hC5 : ∀ g, g ≠ 10 → C5 g = C g := fun g hg => by rw [e5, up3_n _ hg]; exact h3 g hg
    have ey2 : y = gsW (C 9) (C 4) (i + 1) h := by rw [ey, h1, wg h hh]; rfl
    rw [w1]
    have fin : ∀ b' : Int32, b' = tsW (C 9) (C 4) (i + 1) h → b_X9_weighTrial_63 post (b_X9_weighTrial_8 post k) x1 (nI h) y b' (nI i) C5 L := by
      intro b' eb
      unfold b_X9_weighTrial_63
      intro z ez
      rw [ez, nI_1]
      exact ih (y, b', C5) ⟨ey2, eb, hC5⟩
    refine ⟨fun q => fin b ?_, fun q z ez => fin z ?_⟩
    · rw [h2]
      show _ = sI (sl1 (WAYS (C 9) (C 4)) h) i + sl1 (WAYS (C 9) (C 4)) h i
      unfold sl1
      rw [if_neg (show ¬ slW (WAYS (C 9) (C 4) i) = nI h from q)]
      simp
      rfl
    · rw [ez, h2]
      show _ = sI (sl1 (WAYS (C 9) (C 4)) h) i + sl1 (WAYS (C 9) (C 4)) h i
      unfold sl1
      rw [if_pos (show slW (WAYS (C 9) (C 4) i) = nI h from q)]
      rfl
theorem c_planPlace {C : Nat → Mem} {L : MemL} {N G h : Nat} (hC : CS C N G) (hh : h < N) {post : (Nat → Mem) → MemL → Prop} (hp : ∀ C' b, CORE C C' → PLb (fun p => gsW (RPl C N h p) (C 4) G h) (fun p => tsW (RPl C N h p) (C 4) G h) N = some b → C' 11 0 0 = nI b → C' 11 0 1 = gsW (RPl C N h b) (C 4) G h → post C' L) : wp_X9_planPlace C L (nI h) post := by
  have hN8 := hC.N8
  obtain ⟨hG8, hROK, hG4, hFe, hH, hGr, ho⟩ := id hC
  unfold wp_X9_planPlace b_X9_planPlace_0
  refine e_takeFrom (fun m9 t4 t5 t6 ta C2 e2 => e_pclear (fun m11 p0 C4 e4 => ?_))
  have c4n : ∀ g, g ≠ 9 → g ≠ 11 → C4 g = C g := fun g h9 h11 => by rw [e4, up3_n _ h11, e2, up3_n _ h9]
  have c49 : C4 9 = m9 := by rw [e4, up3_n _ (by decide), e2, up3_s]
  have c411 : C4 11 = m11 := by rw [e4, up3_s]
  refine loop_0 (fun k i (D : Nat → Mem) => b_X9_planPlace_20 post k (nI h) (nI i) D L) (fun i D => CORE C D ∧ (D 9 0 4 = C 3 0 4 ∧ D 9 0 6 = C 3 0 6 ∧ ∀ a, a < N → D 9 1 a = C 3 1 a ∧ D 9 2 a = C 3 2 a) ∧ PLR (fun p => gsW (RPl C N h p) (C 4) G h) (fun p => tsW (RPl C N h p) (C 4) G h) (PLb (fun p => gsW (RPl C N h p) (C 4) G h) (fun p => tsW (RPl C N h p) (C 4) G h) i) (D 11 0 0) (D 11 0 1) (D 11 0 2)) N C4 ⟨fun g hg => c4n g (by omega) (by omega), ?_, ?_⟩ ?_ ?_
  · rw [c49]
    exact ⟨t4, t6, fun a ha => ⟨(ta a (by omega)).1, (ta a (by omega)).2.1⟩⟩
  · rw [c411]
    exact p0
  · intro k D hD
    unfold b_X9_planPlace_20
    rw [hD.1 3 (by omega), hC.nH]
    refine ⟨fun _ => ?_, fun q => absurd (nI_le (Nat.le_refl N) (by omega)) q⟩
    obtain ⟨n', hn'⟩ : ∃ n', N = n' + 1 := ⟨N - 1, by omega⟩
    obtain ⟨b, hb⟩ := PLb_pos (f := fun p => gsW (RPl C N h p) (C 4) G h) (t := fun p => tsW (RPl C N h p) (C 4) G h) (k := n')
    rw [← hn'] at hb
    have hl := hD.2.2
    rw [hb] at hl
    exact hp D b hD.1 hb hl.1 hl.2.1
  · intro k i D hi hD ih
    obtain ⟨hco, ⟨d4, d6, da⟩, hpl⟩ := hD
    unfold b_X9_planPlace_20
    rw [hco 3 (by omega), hC.nH]
    refine ⟨fun q => absurd q (nI_ge hi (by omega)), fun _ => e_moveFrom hN8 hC.nH (by rw [d4]; exact hC.nH) ho hh hi (fun m' mk mo C3 e3 => ?_)⟩
    have c39 : C3 9 = m' := by rw [e3, up3_s]
    have c3n : ∀ g, g ≠ 9 → C3 g = D g := fun g hg => by rw [e3, up3_n _ hg]
    have hRP : ROK N (RPl C N h i) := ⟨hN8, hC.nH, fun p hp => moI_rng hh hi hp⟩
    have hre : RE N (C3 9) (RPl C N h i) := by
      rw [c39]
      refine ⟨?_, ?_, fun a ha => ⟨?_, ?_, mo a ha⟩⟩
      · rw [mk 0 (by decide)]; exact d4
      · rw [mk 0 (by decide)]; exact d6
      · rw [mk 1 (by decide)]; exact (da a ha).1
      · rw [mk 2 (by decide)]; exact (da a ha).2
    have c34 : C3 4 = C 4 := by rw [c3n 4 (by decide), hco 4 (by omega)]
    refine c_weighTrial (ROK_re hRP hre) hG8 (by rw [c34]; exact hG4) (by omega) (fun C5 h5 => ?_)
    rw [c34, (gsW_re hRP hre G h).1, (gsW_re hRP hre G h).2, c3n 11 (by decide)]
    refine e_weigh (f := fun p => gsW (RPl C N h p) (C 4) G h) (t := fun p => tsW (RPl C N h p) (C 4) G h) (by omega) hpl (fun u hu y ey => ?_)
    rw [ey, nI_1]
    refine ih _ ⟨fun g hg => ?_, ?_, by rw [up3_s]; exact hu⟩
    · rw [up3_n _ (by omega), h5 g (by omega), c3n g (by omega)]; exact hco g hg
    · rw [up3_n _ (by decide), h5 9 (by decide), c39, mk 0 (by decide), mk 1 (by decide), mk 2 (by decide)]
      exact ⟨d4, d6, da⟩
def F_live (C : Nat → Mem) (N G h : Nat) (x2 : Int32) : Int32 := if x2 = 0 then oI1 (PLb (fun p => gsW (RPl C N h p) (C 4) G h) (fun p => tsW (RPl C N h p) (C 4) G h) N) else oF1 (fun p => gsW (RPl C N h p) (C 4) G h) (PLb (fun p => gsW (RPl C N h p) (C 4) G h) (fun p => tsW (RPl C N h p) (C 4) G h) N)
def F_cook (C : Nat → Mem) (G h : Nat) (x2 : Int32) : Int32 := if x2 = 0 then oI1 (PLb (fun p => gsW (RKd C h (nI p)) (C 4) G h) (fun p => tsW (RKd C h (nI p)) (C 4) G h) 4) else oF1 (fun p => gsW (RKd C h (nI p)) (C 4) G h) (PLb (fun p => gsW (RKd C h (nI p)) (C 4) G h) (fun p => tsW (RKd C h (nI p)) (C 4) G h) 4)
theorem ROK_kd {C : Nat → Mem} {N G h : Nat} (hC : CS C N G) (k : Int32) : ROK N (RKd C h k) := ⟨hC.N8, by unfold RKd; rw [up2_c _ (by decide)]; exact hC.nH, fun p hp => by unfold RKd; rw [up2_c _ (by decide)]; exact hC.2.1.2.2 p hp⟩
theorem c_planKind {C : Nat → Mem} {L : MemL} {N G h : Nat} (hC : CS C N G) (hh : h < N) {post : (Nat → Mem) → MemL → Prop} (hp : ∀ C' b, CORE C C' → PLb (fun p => gsW (RKd C h (nI p)) (C 4) G h) (fun p => tsW (RKd C h (nI p)) (C 4) G h) 4 = some b → C' 11 0 0 = nI b → C' 11 0 1 = gsW (RKd C h (nI b)) (C 4) G h → post C' L) : wp_X9_planKind C L (nI h) post := by
  have hN8 := hC.N8
  obtain ⟨hG8, hROK, hG4, hFe, hH, hGr, ho⟩ := id hC
  unfold wp_X9_planKind b_X9_planKind_0
  refine e_takeFrom (fun m9 t4 t5 t6 ta C2 e2 => e_pclear (fun m11 p0 C4 e4 => ?_))
  have c4n : ∀ g, g ≠ 9 → g ≠ 11 → C4 g = C g := fun g h9 h11 => by rw [e4, up3_n _ h11, e2, up3_n _ h9]
  have c49 : C4 9 = m9 := by rw [e4, up3_n _ (by decide), e2, up3_s]
  have c411 : C4 11 = m11 := by rw [e4, up3_s]
  refine loop_0 (fun k i (D : Nat → Mem) => b_X9_planKind_20 post k (nI h) (nI i) D L) (fun i D => CORE C D ∧ (D 9 0 4 = C 3 0 4 ∧ D 9 0 6 = C 3 0 6 ∧ ∀ a, a < N → (a ≠ h → D 9 1 a = C 3 1 a) ∧ D 9 2 a = C 3 2 a ∧ D 9 4 a = C 3 4 a) ∧ PLR (fun p => gsW (RKd C h (nI p)) (C 4) G h) (fun p => tsW (RKd C h (nI p)) (C 4) G h) (PLb (fun p => gsW (RKd C h (nI p)) (C 4) G h) (fun p => tsW (RKd C h (nI p)) (C 4) G h) i) (D 11 0 0) (D 11 0 1) (D 11 0 2)) 4 C4 ⟨fun g hg => c4n g (by omega) (by omega), ?_, ?_⟩ ?_ ?_
  · rw [c49]
    exact ⟨t4, t6, fun a ha => ⟨fun _ => (ta a (by omega)).1, (ta a (by omega)).2.1, (ta a (by omega)).2.2.2⟩⟩
  · rw [c411]
    exact p0
  · intro k D hD
    unfold b_X9_planKind_20
    refine ⟨fun _ => ?_, fun q => absurd (show nI 3 < nI 4 by decide) q⟩
    obtain ⟨b, hb⟩ := PLb_pos (f := fun p => gsW (RKd C h (nI p)) (C 4) G h) (t := fun p => tsW (RKd C h (nI p)) (C 4) G h) (k := 3)
    have hl := hD.2.2
    rw [hb] at hl
    exact hp D b hD.1 hb hl.1 hl.2.1
  · intro k i D hi hD ih
    obtain ⟨hco, ⟨d4, d6, da⟩, hpl⟩ := hD
    unfold b_X9_planKind_20
    rw [nI_clamp (by omega)]
    refine ⟨fun q => absurd q (nI_nlt (b := i) (a := 3) (by omega) (by omega)), fun _ => ⟨vp_in_nI (by omega) (by omega), fun C3 e3 => ?_⟩⟩
    have c39 : C3 9 = up2 (D 9) 1 h (nI i) := by rw [e3, up3_s]
    have c3n : ∀ g, g ≠ 9 → C3 g = D g := fun g hg => by rw [e3, up3_n _ hg]
    have hRP := ROK_kd (h := h) hC (nI i)
    have hre : RE N (C3 9) (RKd C h (nI i)) := by
      rw [c39]
      unfold RKd
      refine ⟨?_, ?_, fun a ha => ⟨?_, ?_, ?_⟩⟩
      · rw [up2_c _ (by decide), up2_c _ (by decide)]; exact d4
      · rw [up2_c _ (by decide), up2_c _ (by decide)]; exact d6
      · by_cases e : a = h
        · rw [e, up2_s, up2_s]
        · rw [up2_i _ e, up2_i _ e]; exact (da a ha).1 e
      · rw [up2_c _ (by decide), up2_c _ (by decide)]; exact (da a ha).2.1
      · rw [up2_c _ (by decide), up2_c _ (by decide)]; exact (da a ha).2.2
    have c34 : C3 4 = C 4 := by rw [c3n 4 (by decide), hco 4 (by omega)]
    refine c_weighTrial (ROK_re hRP hre) hG8 (by rw [c34]; exact hG4) (by omega) (fun C5 h5 => ?_)
    rw [c34, (gsW_re hRP hre G h).1, (gsW_re hRP hre G h).2, c3n 11 (by decide)]
    refine e_weigh (f := fun p => gsW (RKd C h (nI p)) (C 4) G h) (t := fun p => tsW (RKd C h (nI p)) (C 4) G h) (by omega) hpl (fun u hu y ey => ?_)
    rw [ey, nI_1]
    refine ih _ ⟨fun g hg => ?_, ?_, by rw [up3_s]; exact hu⟩
    · rw [up3_n _ (by omega), h5 g (by omega), c3n g (by omega)]; exact hco g hg
    · rw [up3_n _ (by decide), h5 9 (by decide), c39, up2_c _ (by decide), up2_c _ (show (2 : Nat) ≠ 1 by decide), up2_c _ (show (4 : Nat) ≠ 1 by decide)]
      exact ⟨d4, d6, fun a ha => ⟨fun e => by rw [up2_i _ e]; exact (da a ha).1 e, (da a ha).2⟩⟩
theorem c_live {C : Nat → Mem} {L : MemL} {N G : Nat} (hC : CS C N G) {x1 x2 : Int32} {post : Int32 → (Nat → Mem) → MemL → Prop} (h : ∀ C', CORE C C' → post (if HB N x1 ∧ (0 ≤ x2 ∧ x2 ≤ 1) then F_live C N G x1.toNatClampNeg x2 else (-2)) C' L) : wp_X9_live C L x1 x2 post := by
  have hN8 := hC.N8
  unfold wp_X9_live b_X9_live_0
  rw [e_isHouse hC.nH, bI_z]
  refine ⟨fun q => by have h := h C (CORE_rf C); rw [if_neg (fun z => q z.1)] at h; exact h, fun q => ?_⟩
  have h1 : HB N x1 := Classical.not_not.mp q
  rw [e_isBit, bI_z]
  refine ⟨fun q2 => ?_, fun q => by have h := h C (CORE_rf C); rw [if_neg (fun z => q z.2)] at h; exact h⟩
  obtain ⟨k, hk, rfl⟩ := HB_of h1 hN8
  refine c_planPlace hC hk (fun C' b hco hb e0 e1 v ev => ?_)
  have h := h C' hco
  rw [if_pos ⟨h1, Classical.not_not.mp q2⟩, nI_clamp (by omega)] at h
  unfold F_live at h
  rw [hb] at h
  rw [ev, e0, e1]
  exact h
theorem c_cook {C : Nat → Mem} {L : MemL} {N G : Nat} (hC : CS C N G) {x1 x2 : Int32} {post : Int32 → (Nat → Mem) → MemL → Prop} (h : ∀ C', CORE C C' → post (if HB N x1 ∧ (0 ≤ x2 ∧ x2 ≤ 1) then F_cook C G x1.toNatClampNeg x2 else (-2)) C' L) : wp_X9_cook C L x1 x2 post := by
  have hN8 := hC.N8
  unfold wp_X9_cook b_X9_cook_0
  rw [e_isHouse hC.nH, bI_z]
  refine ⟨fun q => by have h := h C (CORE_rf C); rw [if_neg (fun z => q z.1)] at h; exact h, fun q => ?_⟩
  have h1 : HB N x1 := Classical.not_not.mp q
  rw [e_isBit, bI_z]
  refine ⟨fun q2 => ?_, fun q => by have h := h C (CORE_rf C); rw [if_neg (fun z => q z.2)] at h; exact h⟩
  obtain ⟨k, hk, rfl⟩ := HB_of h1 hN8
  refine c_planKind hC hk (fun C' b hco hb e0 e1 v ev => ?_)
  have h := h C' hco
  rw [if_pos ⟨h1, Classical.not_not.mp q2⟩, nI_clamp (by omega)] at h
  unfold F_cook at h
  rw [hb] at h
  rw [ev, e0, e1]
  exact h
