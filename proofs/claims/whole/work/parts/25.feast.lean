-- all guests
def sI (f : Nat → Int32) : Nat → Int32
  | 0 => 0
  | k + 1 => sI f k + f k
def oI (f : Nat → Int32) : Nat → Int32
  | 0 => 0
  | k + 1 => oI f k ||| f k
theorem sI_cong {f g : Nat → Int32} : ∀ {n : Nat}, (∀ k, k < n → f k = g k) → sI f n = sI g n
  | 0, _ => rfl
  | n + 1, h => by unfold sI; rw [sI_cong (fun k hk => h k (by omega)), h n (by omega)]
theorem oI_cong {f g : Nat → Int32} : ∀ {n : Nat}, (∀ k, k < n → f k = g k) → oI f n = oI g n
  | 0, _ => rfl
  | n + 1, h => by unfold oI; rw [oI_cong (fun k hk => h k (by omega)), h n (by omega)]
def FG (w : WS) (g : Nat) (m : Mem) : Prop := (∀ h, h < 8 → m 1 (8 * g + h) = gvW w h) ∧ m 2 g = slW w ∧ m 3 g = lfW w ∧ m 4 g = rfW w ∧ m 5 g = drW w
def sl1 (ws : Nat → WS) (h g : Nat) : Int32 := if slW (ws g) = nI h then 1 else 0
def FEAST (ws : Nat → WS) (G : Nat) (m : Mem) : Prop := (∀ g, g < G → FG (ws g) g m) ∧ m 0 7 = oI (fun g => vsW (ws g)) G ∧ ∀ h, h < 8 → m 6 h = sI (fun g => gvW (ws g) h) G ∧ m 7 h = sI (sl1 ws h) G
theorem e_enter {m m1 : Mem} {ws : Nat → WS} {g : Nat} (hg : g < 8) (hw : WREP m1 (ws g)) (hF : FEAST ws g m) {post : Mem → Prop} (h : ∀ m', FEAST ws (g + 1) m' → post m') : wp_X1_enter m m1 (nI g) post := by
  have cg : (nI g).toNatClampNeg = g := nI_clamp (by omega)
  have vg : vp_in (nI g) 8 := vp_in_nI hg (by omega)
  obtain ⟨w2, w6, w3, w1, w5, w4, wg⟩ := hw
  obtain ⟨hG, h7, hT⟩ := hF
  unfold wp_X1_enter b_X1_enter_0
  refine ⟨vg, fun a1 e1 => ⟨vg, fun a2 e2 => ⟨vg, fun a3 e3 => ⟨vg, fun a4 e4 a5 e5 => ?_⟩⟩⟩⟩
  rw [cg] at e1 e2 e3 e4
  refine loop_0 (fun k i m => b_X1_enter_55 m1 post k (nI g) (nI i) m) (fun i m' => (∀ a, a < g → FG (ws a) a m') ∧ (∀ a, a < i → m' 1 (8 * g + a) = gvW (ws g) a) ∧ m' 2 g = slW (ws g) ∧ m' 3 g = lfW (ws g) ∧ m' 4 g = rfW (ws g) ∧ m' 5 g = drW (ws g) ∧ m' 0 7 = oI (fun g => vsW (ws g)) (g + 1) ∧ ∀ a, a < 8 → m' 6 a = sI (fun g => gvW (ws g) a) (if a < i then g + 1 else g) ∧ m' 7 a = sI (sl1 ws a) (if a < i then g + 1 else g)) 8 a5 ?_ ?_ ?_
  · have f7 : a4 0 7 = m 0 7 := by subst e4 e3 e2 e1; simp [up2_app]
    rw [f7, h7] at e5
    refine ⟨fun a ha => ?_, fun a ha => absurd ha (Nat.not_lt_zero a), ?_, ?_, ?_, ?_, ?_, fun a ha => ?_⟩
    · obtain ⟨q0, q1, q2, q3, q4⟩ := hG a ha
      have hne : a ≠ g := by omega
      refine ⟨fun b hb => ?_, ?_, ?_, ?_, ?_⟩ <;> subst e5 e4 e3 e2 e1 <;> simp [up2_app, hne, q1, q2, q3, q4]
      exact q0 b hb
    · subst e5 e4 e3 e2 e1; simp [up2_app, w1, slW]
    · subst e5 e4 e3 e2 e1; simp [up2_app, w2, lfW]
    · subst e5 e4 e3 e2 e1; simp [up2_app, w3, rfW]
    · subst e5 e4 e3 e2 e1; simp [up2_app, w4, drW]
    · subst e5; rw [up2_s, w5]; rfl
    · rw [if_neg (Nat.not_lt_zero a)]
      obtain ⟨t1, t2⟩ := hT a ha
      subst e5 e4 e3 e2 e1
      exact ⟨by simpa [up2_app] using t1, by simpa [up2_app] using t2⟩
  · intro k m' hI
    obtain ⟨i1, i2, i3, i4, i5, i6, i7, i8⟩ := hI
    unfold b_X1_enter_55
    refine ⟨fun _ => h m' ⟨lt_s i1 ⟨i2, i3, i4, i5, i6⟩, i7, fun a ha => ?_⟩, fun q => absurd (nI_le (Nat.le_refl 8) (by omega)) q⟩
    have := i8 a ha
    rw [if_pos ha] at this
    exact this
  · intro k i m' hi hI ih
    obtain ⟨i1, i2, i3, i4, i5, i6, i7, i8⟩ := hI
    have ci : (nI i).toNatClampNeg = i := nI_clamp (by omega)
    have vi : vp_in (nI i) 8 := vp_in_nI hi (by omega)
    have e8 : nI g * 8 + nI i = nI (8 * g + i) := by rw [show (8 : Int32) = nI 8 from rfl, pk_mul, nI_add, Nat.mul_comm]
    unfold b_X1_enter_55
    rw [e8, ci, nI_clamp (by omega)]
    refine ⟨fun q => absurd q (nI_ge (b := 8) hi (by omega)), fun _ => ⟨vi, vp_in_nI (by omega) (by omega), fun b2 eb2 => ⟨vi, vi, vi, fun b3 eb3 => ?_⟩⟩⟩
    obtain ⟨t1, t2⟩ := i8 i hi
    rw [if_neg (Nat.lt_irrefl i)] at t1 t2
    have f6 : b2 6 i = sI (fun g => gvW (ws g) i) g := by subst eb2; rw [up2_c m' (by decide)]; exact t1
    rw [f6, wg i hi] at eb3
    rw [wg i hi] at eb2
    have hb3 : (∀ a, a < g → FG (ws a) a b3) ∧ (∀ a, a < i + 1 → b3 1 (8 * g + a) = gvW (ws g) a) ∧ b3 2 g = slW (ws g) ∧ b3 3 g = lfW (ws g) ∧ b3 4 g = rfW (ws g) ∧ b3 5 g = drW (ws g) ∧ b3 0 7 = oI (fun g => vsW (ws g)) (g + 1) ∧ (∀ a, a < 8 → b3 6 a = sI (fun g => gvW (ws g) a) (if a < i + 1 then g + 1 else g)) ∧ (∀ a, a < 8 → b3 7 a = sI (sl1 ws a) (if a < i then g + 1 else g)) := by
      refine ⟨fun a ha => ?_, lt_s (fun a ha => ?_) ?_, ?_, ?_, ?_, ?_, ?_, fun a ha => ?_, fun a ha => ?_⟩
      · obtain ⟨q0, q1, q2, q3, q4⟩ := i1 a ha
        refine ⟨fun b hb => ?_, ?_, ?_, ?_, ?_⟩ <;> subst eb3 eb2 <;> simp [up2_app, q1, q2, q3, q4]
        rw [if_neg (by omega)]
        exact q0 b hb
      · subst eb3 eb2
        rw [up2_c _ (by decide), up2_i m' (by omega)]
        exact i2 a ha
      · subst eb3 eb2
        rw [up2_c _ (by decide), up2_s]
        rfl
      · subst eb3 eb2; simp [up2_app, i3]
      · subst eb3 eb2; simp [up2_app, i4]
      · subst eb3 eb2; simp [up2_app, i5]
      · subst eb3 eb2; simp [up2_app, i6]
      · subst eb3 eb2; simp [up2_app, i7]
      · by_cases q : a = i
        · subst q
          subst eb3
          rw [up2_s, if_pos (by omega)]
          rfl
        · have := (i8 a ha).1
          subst eb3 eb2
          rw [up2_i _ q, up2_c _ (by decide), this]
          congr 1
          by_cases z : a < i
          · rw [if_pos z, if_pos (by omega)]
          · rw [if_neg z, if_neg (by omega)]
      · have := (i8 a ha).2
        subst eb3 eb2
        rw [up2_c _ (by decide), up2_c _ (by decide)]
        exact this
    obtain ⟨j1, j2, j3, j4, j5, j6, j7, j8, j9⟩ := hb3
    rw [w1]
    refine ⟨fun q => ?_, fun q => ⟨vi, vi, fun b5 eb5 => ?_⟩⟩
    · unfold b_X1_enter_111
      intro y ey
      subst ey
      rw [nI_1]
      refine ih b3 ⟨j1, j2, j3, j4, j5, j6, j7, fun a ha => ⟨j8 a ha, ?_⟩⟩
      rw [j9 a ha]
      by_cases z : a = i
      · subst z
        rw [if_neg (Nat.lt_irrefl a), if_pos (by omega)]
        show _ = sI (sl1 ws a) g + sl1 ws a g
        unfold sl1
        rw [if_neg (show ¬ slW (ws g) = nI a from q)]
        simp
      · congr 1
        by_cases z2 : a < i
        · rw [if_pos z2, if_pos (by omega)]
        · rw [if_neg z2, if_neg (by omega)]
    · unfold b_X1_enter_111
      intro y ey
      subst ey
      rw [nI_1]
      rw [j9 i hi, if_neg (Nat.lt_irrefl i)] at eb5
      refine ih b5 ⟨fun a ha => ?_, fun a ha => ?_, ?_, ?_, ?_, ?_, ?_, fun a ha => ⟨?_, ?_⟩⟩
      · obtain ⟨q0, q1, q2, q3, q4⟩ := j1 a ha
        subst eb5
        exact ⟨fun b hb => by rw [up2_c _ (by decide)]; exact q0 b hb, by rw [up2_c _ (by decide)]; exact q1, by rw [up2_c _ (by decide)]; exact q2, by rw [up2_c _ (by decide)]; exact q3, by rw [up2_c _ (by decide)]; exact q4⟩
      · subst eb5; rw [up2_c _ (by decide)]; exact j2 a ha
      · subst eb5; rw [up2_c _ (by decide)]; exact j3
      · subst eb5; rw [up2_c _ (by decide)]; exact j4
      · subst eb5; rw [up2_c _ (by decide)]; exact j5
      · subst eb5; rw [up2_c _ (by decide)]; exact j6
      · subst eb5; rw [up2_c _ (by decide)]; exact j7
      · subst eb5; rw [up2_c _ (by decide)]; exact j8 a ha
      · by_cases z : a = i
        · subst z
          subst eb5
          rw [up2_s, if_pos (by omega)]
          show _ = sI (sl1 ws a) g + sl1 ws a g
          congr 1
          unfold sl1
          rw [if_pos (show slW (ws g) = nI a from q)]
        · subst eb5
          rw [up2_i _ z, j9 a ha]
          congr 1
          by_cases z2 : a < i
          · rw [if_pos z2, if_pos (by omega)]
          · rw [if_neg z2, if_neg (by omega)]
def WAYS (R Gs : Mem) (g : Nat) : WS := FEEDR R (Gs 1 g) (Gs 2 g) (Gs 3 g) (Gs 4 g)
theorem e_hold {N G : Nat} {m0 m1 m2 m3 : Mem} (hR : ROK N m1) (hG : m2 0 4 = nI G) (hG8 : G ≤ 8) {post : Mem → Mem → Prop} (h : ∀ m' w', FEAST (WAYS m1 m2) G m' → post m' w') : wp_X1_hold m0 m1 m2 m3 post := by
  unfold wp_X1_hold b_X1_hold_0
  intro a0 e0
  refine loop_0 (fun k i m => b_X1_hold_8 m1 m2 post k (nI i) m m3) (fun i m => m 0 7 = 0 ∧ ∀ a, a < i → m 6 a = 0 ∧ m 7 a = 0) 8 a0 ⟨by subst e0; exact up2_s _ _ _ _, fun a ha => absurd ha (Nat.not_lt_zero a)⟩ ?_ ?_
  · intro k m hI
    unfold b_X1_hold_8
    refine ⟨fun _ => ?_, fun q => absurd (nI_le (Nat.le_refl 8) (by omega)) q⟩
    refine loop_0 (fun k i (u : Mem × Mem) => b_X1_hold_40 m1 m2 post k (nI i) u.1 u.2) (fun i u => FEAST (WAYS m1 m2) i u.1) G (m, m3) ⟨fun a ha => absurd ha (Nat.not_lt_zero a), hI.1, hI.2⟩ ?_ ?_
    · intro k u hu
      unfold b_X1_hold_40
      rw [hG]
      exact ⟨fun _ => h _ _ hu, fun q => absurd (nI_le (Nat.le_refl G) (by omega)) q⟩
    · intro k i u hi hu ih
      unfold b_X1_hold_40
      rw [hG]
      refine ⟨fun q => absurd q (nI_ge hi (by omega)), fun _ => e_go hR (by omega) (fun w' hw' => e_enter (ws := WAYS m1 m2) (by omega) hw' hu (fun m' hm' y ey => ?_))⟩
      subst ey
      rw [nI_1]
      exact ih (m', w') hm'
  · intro k i m hi hI ih
    unfold b_X1_hold_8
    have vi : vp_in (nI i) 8 := vp_in_nI hi (by omega)
    refine ⟨fun q => absurd q (nI_ge (b := 8) hi (by omega)), fun _ => ⟨vi, fun b3 e3 => ⟨vi, fun b4 e4 y ey => ?_⟩⟩⟩
    rw [nI_clamp (by omega)] at e3 e4
    subst ey
    rw [nI_1]
    refine ih b4 ⟨by subst e4 e3; simp [up2_app, hI.1], lt_s (fun a ha => ?_) ?_⟩
    · obtain ⟨q1, q2⟩ := hI.2 a ha
      have hne : a ≠ i := by omega
      subst e4 e3
      simp [up2_app, q1, q2, hne]
    · subst e4 e3
      simp [up2_app]
-- the same way by other tables
theorem FEED_cong {N : Nat} {em tn dn : Int32} {o o' kd kd' po po' : Nat → Int32} (hN : N ≤ 8) (ho : ∀ p, p < N → o p = o' p ∧ ∃ j, j < N ∧ o p = nI j) (hk : ∀ h, h < N → kd h = kd' h ∧ po h = po' h) : ∀ (n : Nat) (pl : Int32) (w : WS), FEED (nI N) em tn dn o kd po n pl w = FEED (nI N) em tn dn o' kd' po' n pl w
  | 0, _, _ => rfl
  | n + 1, pl, w => by
    unfold FEED
    by_cases q : w.1 ≤ 0 ∨ pl < 0 ∨ nI N ≤ pl
    · rw [if_pos q, if_pos q]
    · rw [if_neg q, if_neg q]
      obtain ⟨p, hp, rfl⟩ := in_of (fun z => q (Or.inr (Or.inl z))) (fun z => q (Or.inr (Or.inr z))) (by omega)
      obtain ⟨e, j, hj, ej⟩ := ho p hp
      rw [nI_clamp (by omega), ← e, ej, nI_clamp (by omega), (hk j hj).1, (hk j hj).2]
      exact FEED_cong hN ho hk n _ _
-- the reference: row, all guests
theorem e_findRow {N : Nat} {M : Mem} (hN8 : N ≤ 8) (hN : M 0 7 = nI N) {post : Mem → Prop} (h : ∀ M', (∀ c, c ≠ 10 → M' c = M c) → (∀ p, p < N → M' 10 p = ordI (M 9 0) N p) → post M') : wp_X10_findRow M post := by
  unfold wp_X10_findRow b_X10_findRow_0
  refine loop_0 (fun k i m => b_X10_findRow_2 post k (nI i) m) (fun i m => (∀ c, c ≠ 10 → m c = M c) ∧ ∀ p, p < i → m 10 p = ordI (M 9 0) N p) N M ⟨fun _ _ => rfl, fun a ha => absurd ha (Nat.not_lt_zero a)⟩ ?_ ?_
  · intro k m hI
    unfold b_X10_findRow_2
    rw [hI.1 0 (by decide), hN]
    exact ⟨fun _ => h m hI.1 hI.2, fun q => absurd (nI_le (Nat.le_refl N) (by omega)) q⟩
  · intro k i m hi hI ih
    unfold b_X10_findRow_2
    rw [hI.1 0 (by decide), hI.1 9 (by decide), hN]
    refine ⟨fun q => absurd q (nI_ge hi (by omega)), fun _ => ⟨vp0 (by decide) (by decide), fun v ev => ⟨vp_in_nI (by omega) (by omega), fun m4 e4 y ey => ?_⟩⟩⟩
    rw [nI_clamp (by omega)] at e4
    subst ey
    rw [nI_1]
    refine ih m4 ⟨fun c hc => by rw [e4, up2_c m hc]; exact hI.1 c hc, lt_s (fun a ha => ?_) ?_⟩
    · rw [e4, up2_i m (by omega)]
      exact hI.2 a ha
    · rw [e4, up2_s, ev]
      unfold ordI
      rw [show (1 : Int32) = nI 1 from rfl, pk_sub (by omega), pk_sub (by omega)]
      rfl
def FRA (M M' : Mem) : Prop := ∀ c, c < 11 ∨ 15 < c → M' c = M c
theorem FRA_rf (M : Mem) : FRA M M := fun _ _ => rfl
theorem FRA_tr {M1 M2 M3 : Mem} (h : FRA M1 M2) (h2 : FRA M2 M3) : FRA M1 M3 := fun c hc => (h2 c hc).trans (h c hc)
theorem FRM.all {g : Nat} {M M' : Mem} (h : FRM g M M') : FRA M M' := h.1
theorem FEEDM_eq {M M' : Mem} (h : FRA M M') (g : Nat) : FEEDM M' g = FEEDM M g := by
  unfold FEEDM
  rw [h 0 (by omega), h 9 (by omega), h 8 (by omega), h 10 (by omega), h 7 (by omega)]
theorem FEDM_kept {g k : Nat} {w : WS} {M M' : Mem} (h : FRM k M M') (hne : g ≠ k) (hf : FEDM g w M) : FEDM g w M' := by
  obtain ⟨h1, h2, h3, h4, h5⟩ := hf
  refine ⟨fun a ha => ?_, ?_, ?_, ?_, ?_⟩
  · rw [h.2.1 _ (by omega)]; exact h1 a ha
  · rw [h.2.2 12 (by omega) (by omega) g hne]; exact h2
  · rw [h.2.2 13 (by omega) (by omega) g hne]; exact h3
  · rw [h.2.2 14 (by omega) (by omega) g hne]; exact h4
  · rw [h.2.2 15 (by omega) (by omega) g hne]; exact h5
theorem e_feedsAll {N G : Nat} {M : Mem} (hM : MOK N M) (hG : M 0 9 = nI G) (hG8 : G ≤ 8) (hB : ∀ g, g < G → MBG g M) {post : Mem → Prop} (h : ∀ M', FRA M M' → (∀ g, g < G → FEDM g (FEEDM M g) M') → post M') : wp_X10_feedsAll M post := by
  unfold wp_X10_feedsAll b_X10_feedsAll_0
  refine loop_0 (fun k i m => b_X10_feedsAll_2 post k (nI i) m) (fun i m => FRA M m ∧ ∀ g, g < i → FEDM g (FEEDM M g) m) G M ⟨FRA_rf M, fun a ha => absurd ha (Nat.not_lt_zero a)⟩ ?_ ?_
  · intro k m hI
    unfold b_X10_feedsAll_2
    rw [hI.1 0 (by omega), hG]
    exact ⟨fun _ => h m hI.1 hI.2, fun q => absurd (nI_le (Nat.le_refl G) (by omega)) q⟩
  · intro k i m hi hI ih
    unfold b_X10_feedsAll_2
    rw [hI.1 0 (by omega), hG]
    have hMm : MOK N m := ⟨hM.1, by rw [hI.1 0 (by omega)]; exact hM.2.1, fun p hp => by rw [hI.1 10 (by omega)]; exact hM.2.2 p hp⟩
    have hBm : MBG i m := by
      obtain ⟨b, hb, e⟩ := hB i hi
      exact ⟨b, hb, by rw [hI.1 8 (by omega)]; exact e⟩
    refine ⟨fun q => absurd q (nI_ge hi (by omega)), fun _ => e_feeds hMm (by omega) hBm (fun m' hf hr y ey => ?_)⟩
    subst ey
    rw [nI_1]
    rw [FEEDM_eq hI.1] at hf
    exact ih m' ⟨FRA_tr hI.1 hr.all, lt_s (fun a ha => FEDM_kept hr (by omega) (hI.2 a ha)) hf⟩
