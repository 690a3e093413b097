-- ranges of a way
theorem min_nI {a b : Nat} (ha : a < 2 ^ 31) (hb : b < 2 ^ 31) : (if nI a ≤ nI b then nI a else nI b) = nI (if a ≤ b then a else b) := by
  by_cases h : a ≤ b
  · rw [if_pos h, if_pos (nI_le h hb)]
  · rw [if_neg h, if_neg (fun z => h ((nI_leI ha hb).mp z))]
theorem beh_rng {k : Int32} {l : Nat} (hl : l ≤ 99) : ∃ l', l' ≤ 99 ∧ behI k (nI l) = nI l' := by
  unfold behI
  split
  · exact ⟨l / 2, by omega, by rw [show (2 : Int32) = nI 2 from rfl, pk_div (by omega) (by omega) (by omega)]⟩
  · split
    · split
      · exact ⟨l, hl, rfl⟩
      · rw [show (3 : Int32) = nI 3 from rfl, nI_add]
        split
        · exact ⟨99, by omega, rfl⟩
        · rename_i h
          have : ¬ 99 ≤ l + 3 := fun z => h (nI_le (a := 99) z (by omega))
          exact ⟨l + 3, by omega, rfl⟩
    · exact ⟨l, hl, rfl⟩
/-- hunger and what is given, in range -/
def WR (w : WS) : Prop := (∃ l, l ≤ 99 ∧ w.1 = nI l) ∧ ∀ h, ∃ a, a ≤ 11 ∧ w.2.2.2.2.2.2 h = nI a
theorem stpW_rng {em tn h k : Int32} {p : Nat} (hp : p ≤ 9) {w : WS} (hw : WR w) : WR (stpW em tn h k (nI p) w) := by
  obtain ⟨lf, sa, rf, sl, vs, dr, gv⟩ := w
  obtain ⟨⟨l, hl, e⟩, hg⟩ := hw
  dsimp only at e hg
  subst e
  unfold stpW
  split
  · obtain ⟨of, hof, eof⟩ : ∃ of, of ≤ 11 ∧ (if sa = 0 then nI p else nI p + 2) = nI of := by
      split
      · exact ⟨p, by omega, rfl⟩
      · exact ⟨p + 2, by omega, by rw [show (2 : Int32) = nI 2 from rfl, nI_add]⟩
    unfold offW dorW
    dsimp only
    rw [eof]
    split
    · rw [min_nI (by omega) (by omega), pk_sub (by split <;> omega)]
      refine ⟨beh_rng (by split <;> omega), fun a => ?_⟩
      dsimp only
      unfold upd
      split
      · exact ⟨if l ≤ of then l else of, by split <;> omega, rfl⟩
      · exact hg a
    · exact ⟨⟨l, hl, rfl⟩, hg⟩
  · exact ⟨⟨l, hl, rfl⟩, hg⟩
theorem FEED_rng {N : Nat} {em tn dn : Int32} {o kd po : Nat → Int32} (hN : N ≤ 8) (ho : ∀ p, p < N → ∃ j, j < N ∧ o p = nI j) (hp : ∀ h, h < N → ∃ p, p ≤ 9 ∧ po h = nI p) : ∀ (n : Nat) (pl : Int32) (w : WS), WR w → WR (FEED (nI N) em tn dn o kd po n pl w)
  | 0, _, _, hw => hw
  | n + 1, pl, w, hw => by
    unfold FEED
    by_cases q : w.1 ≤ 0 ∨ pl < 0 ∨ nI N ≤ pl
    · rw [if_pos q]; exact hw
    · rw [if_neg q]
      obtain ⟨p, hpp, rfl⟩ := in_of (fun z => q (Or.inr (Or.inl z))) (fun z => q (Or.inr (Or.inr z))) (by omega)
      obtain ⟨j, hj, ej⟩ := ho p hpp
      obtain ⟨r, hr, er⟩ := hp j hj
      rw [nI_clamp (by omega), ej, nI_clamp (by omega), er]
      exact FEED_rng hN ho hp n _ _ (stpW_rng hr hw)
theorem FEEDR_rng {N a : Nat} {R : Mem} {be dn tn : Int32} (hR : ROK N R) (hp : ∀ h, h < N → ∃ p, p ≤ 9 ∧ R 2 h = nI p) (ha : a ≤ 99) : WR (FEEDR R (nI a) be dn tn) := by
  unfold FEEDR
  rw [hR.2.1]
  exact FEED_rng hR.1 hR.2.2 hp 8 _ _ ⟨⟨a, ha, rfl⟩, fun h => ⟨0, by omega, rfl⟩⟩
theorem WAYS_rng {C : Nat → Mem} {N G g : Nat} (h : CS C N G) (hg : g < G) : WR (WAYS (C 3) (C 4) g) := by
  obtain ⟨-, hR, -, -, hH, hGr, -⟩ := h
  obtain ⟨⟨a, ha, e⟩, -⟩ := hGr g hg
  unfold WAYS
  rw [e]
  exact FEEDR_rng hR (fun h hh => (hH h hh).2.1) ha
theorem sI_rng {f : Nat → Int32} {c : Nat} (hc : c ≤ 1000) : ∀ {n : Nat}, n ≤ 100 → (∀ k, k < n → ∃ a, a ≤ c ∧ f k = nI a) → ∃ s, s ≤ n * c ∧ sI f n = nI s
  | 0, _, _ => ⟨0, by omega, rfl⟩
  | n + 1, hn, h => by
    obtain ⟨s, hs, e⟩ := sI_rng hc (n := n) (by omega) (fun k hk => h k (by omega))
    obtain ⟨a, ha, e2⟩ := h n (by omega)
    refine ⟨s + a, ?_, ?_⟩
    · rw [Nat.add_mul]; omega
    · unfold sI; rw [e, e2, nI_add]
-- bits
def popN (v : Nat) : Nat := v % 2 + v / 2 % 2 + v / 4 % 2 + v / 8 % 2 + v / 16 % 2 + v / 32 % 2 + v / 64 % 2 + v / 128 % 2
theorem pop_or : ∀ v, v < 256 → ∀ h, h < 8 → v.testBit h = false → popN (v ||| 2 ^ h) = popN v + 1 := by decide +kernel
theorem pop_dn : ∀ v, v < 256 → v ≠ 0 → v &&& (v - 1) < v ∧ popN v = popN (v &&& (v - 1)) + 1 := by decide +kernel
theorem nI_andN : ∀ v, v < 256 → v ≠ 0 → nI v &&& (nI v - 1) = nI (v &&& (v - 1)) := by decide +kernel
theorem pop_le (v : Nat) : popN v ≤ 8 := by unfold popN; omega
theorem or_lt {v h : Nat} (hv : v < 256) (hh : h < 8) : v ||| 2 ^ h < 256 := Nat.or_lt_two_pow (n := 8) hv (Nat.pow_lt_pow_right (by omega) hh)
theorem shl_bit : ∀ h, h < 8 → (1 : Int32) <<< (nI h &&& 31) = nI (2 ^ h) := by decide +kernel
theorem nI_orN : ∀ v, v < 256 → ∀ h, h < 8 → nI v ||| nI (2 ^ h) = nI (v ||| 2 ^ h) := by decide +kernel
theorem e_ones4 {post : Int32 → Prop} : ∀ (v : Nat), v < 256 → ∀ c, post (nI (c + popN v)) → ∃ n, b_X10_ones_4 post n (nI c) (nI v) := by
  intro v
  induction v using Nat.strongRecOn with
  | ind v ih =>
    intro hv c h
    by_cases q : v = 0
    · subst q
      refine ⟨1, ?_⟩
      unfold b_X10_ones_4
      exact ⟨fun _ => h, fun z => absurd rfl z⟩
    · obtain ⟨h1, h2⟩ := pop_dn v hv q
      obtain ⟨n, hn⟩ := ih _ h1 (by omega) (c + 1) (by rw [show c + 1 + popN (v &&& (v - 1)) = c + popN v by omega]; exact h)
      refine ⟨n + 1, ?_⟩
      unfold b_X10_ones_4
      refine ⟨fun z => absurd ((nI_eq (b := 0) (by omega) (by omega)).mp z) q, fun _ y ey z ez => ?_⟩
      rw [ey, ez, nI_1, nI_andN v hv q]
      exact hn
theorem e_ones {v : Nat} (hv : v < 256) {post : Int32 → Prop} (h : post (nI (popN v))) : wp_X10_ones (nI v) post := by
  unfold wp_X10_ones b_X10_ones_0
  exact e_ones4 v hv 0 (by rw [Nat.zero_add]; exact h)
def bcI (x0 : Int32) : Int32 :=
  ((fun x5 => x5 &&& 63) ((fun x4 : Int32 => x4 + ushr x4 16) ((fun x3 : Int32 => x3 + ushr x3 8) ((fun x2 : Int32 => (x2 + ushr x2 4) &&& 252645135) ((fun x1 : Int32 => (x1 &&& 858993459) + (ushr x1 2 &&& 858993459)) (x0 - (ushr x0 1 &&& 1431655765)))))))
theorem bcI_pop : ∀ v, v < 256 → bcI (nI v) = nI (popN v) := by decide +kernel
theorem e_bitCount {v : Nat} (hv : v < 256) (post : Int32 → Prop) : wp_J6_bitCount_0f7a4 (nI v) post = post (nI (popN v)) := by
  unfold wp_J6_bitCount_0f7a4 b_J6_bitCount_0f7a4_0
  simp only [forall_eq]
  rw [← bcI_pop v hv]
  rfl
-- doors and visited bits
def WV (w : WS) : Prop := ∃ v, v < 256 ∧ w.2.2.2.2.1 = nI v ∧ w.2.2.2.2.2.1 = nI (popN v)
theorem stpW_vs (em tn h k p : Int32) (w : WS) : (stpW em tn h k p w).2.2.2.2.1 = w.2.2.2.2.1 ||| (1 <<< (h &&& 31)) ∧ (stpW em tn h k p w).2.2.2.2.2.1 = w.2.2.2.2.2.1 + 1 := by
  unfold stpW
  split
  · unfold offW dorW
    dsimp only
    generalize (if w.2.1 = 0 then p else p + 2) = of
    split <;> exact ⟨rfl, rfl⟩
  · exact ⟨rfl, rfl⟩
theorem FEED_pop {N : Nat} {em tn dn : Int32} {o kd po : Nat → Int32} (hN : N ≤ 8) (ho : ∀ p, p < N → ∃ j, j < N ∧ o p = nI j) (hinj : ∀ p q, p < N → q < N → o p = o q → p = q) : ∀ (n : Nat) (pl : Int32) (w : WS) (v : Nat), v < 256 → w.2.2.2.2.1 = nI v → w.2.2.2.2.2.1 = nI (popN v) → (∀ q j, q < N → o q = nI j → j < N → (if dn = 1 then pl.toInt ≤ q else (q : Int) ≤ pl.toInt) → v.testBit j = false) → WV (FEED (nI N) em tn dn o kd po n pl w)
  | 0, _, _, v, hv, e1, e2, _ => ⟨v, hv, e1, e2⟩
  | n + 1, pl, w, v, hv, e1, e2, hb => by
    unfold FEED
    by_cases q : w.1 ≤ 0 ∨ pl < 0 ∨ nI N ≤ pl
    · rw [if_pos q]; exact ⟨v, hv, e1, e2⟩
    · rw [if_neg q]
      obtain ⟨p, hp, rfl⟩ := in_of (fun z => q (Or.inr (Or.inl z))) (fun z => q (Or.inr (Or.inr z))) (by omega)
      obtain ⟨j, hj, ej⟩ := ho p hp
      rw [nI_toInt (show p < 2 ^ 31 by omega)] at hb
      have hbit : v.testBit j = false := hb p j hp ej hj (by split <;> omega)
      rw [nI_clamp (by omega), ej]
      obtain ⟨s1, s2⟩ := stpW_vs em tn (nI j) (kd (nI j).toNatClampNeg) (po (nI j).toNatClampNeg) w
      rw [e1, shl_bit j (by omega), nI_orN v hv j (by omega)] at s1
      rw [e2, nI_1] at s2
      refine FEED_pop hN ho hinj n _ _ (v ||| 2 ^ j) (or_lt hv (by omega)) s1 (by rw [s2, pop_or v hv j (by omega) hbit]) (fun q2 j2 hq2 eq2 hj2 hle => ?_)
      rw [Nat.testBit_or, Nat.testBit_two_pow]
      have hne : q2 ≠ p := by
        intro z
        subst z
        split at hle
        · rw [nI_1, nI_toInt (by omega)] at hle; omega
        · rw [← nI_m1', m1_toInt (by omega)] at hle; omega
      have hjj : ¬ j = j2 := fun z => hne (hinj q2 p hq2 hp (by rw [eq2, ej, z]))
      simp only [hjj, decide_false, Bool.or_false]
      refine hb q2 j2 hq2 eq2 hj2 ?_
      split
      · rename_i z
        rw [if_pos z, if_pos z, nI_1, nI_toInt (by omega)] at hle
        omega
      · rename_i z
        rw [if_neg z, if_neg z, ← nI_m1', m1_toInt (by omega)] at hle
        omega
theorem ordI_inj {tu : Int32} {N p q : Nat} (hN : N ≤ 8) (hp : p < N) (hq : q < N) (h : ordI tu N p = ordI tu N q) : p = q := by
  unfold ordI at h
  split at h
  · have := (nI_eq (by omega) (by omega)).mp h
    omega
  · exact (nI_eq (by omega) (by omega)).mp h
theorem WAYS_pop {C : Nat → Mem} {N G : Nat} (h : CS C N G) (g : Nat) : WV (WAYS (C 3) (C 4) g) := by
  obtain ⟨-, hR, -, -, -, -, ho⟩ := h
  unfold WAYS FEEDR
  rw [hR.2.1]
  refine FEED_pop hR.1 hR.2.2 (fun p q hp hq e => ?_) 8 _ _ 0 (by omega) rfl rfl (fun q j _ _ _ _ => Nat.zero_testBit j)
  rw [ho p hp, ho q hq] at e
  exact ordI_inj hR.1 hp hq e
-- the reference's sums
theorem e_allBy {G : Nat} {M : Mem} {ws : Nat → WS} (hG8 : G ≤ 8) (hG : M 0 9 = nI G) (hf : ∀ g, g < G → FEDM g (ws g) M) {h : Nat} (hh : h < 8) {x2 : Int32} {post : Int32 → Prop} (hp : post (if x2 = 0 then sI (fun g => gvW (ws g) h) G else sI (sl1 ws h) G)) : wp_X10_allBy M (nI h) x2 post := by
  unfold wp_X10_allBy b_X10_allBy_0
  refine loop_0 (fun k i (s : Int32) => b_X10_allBy_5 M post k (nI h) x2 s (nI i)) (fun i s => s = (if x2 = 0 then sI (fun g => gvW (ws g) h) i else sI (sl1 ws h) i)) G 0 (by split <;> rfl) ?_ ?_
  · intro k s hs
    unfold b_X10_allBy_5
    rw [hG]
    subst hs
    exact ⟨fun _ => hp, fun q => absurd (nI_le (Nat.le_refl G) (by omega)) q⟩
  · intro k i s hi hs ih
    obtain ⟨f1, f2, -, -, -⟩ := hf i hi
    unfold b_X10_allBy_5
    rw [hG]
    refine ⟨fun q => absurd q (nI_ge hi (by omega)), fun _ => ⟨fun q => ⟨vp_in_nI (by omega) (by omega), fun v ev => ?_⟩, fun q => ?_⟩⟩
    · unfold b_X10_allBy_50
      intro y ey z ez
      subst ez
      rw [nI_1]
      refine ih y ?_
      rw [ey, ev, hs, if_neg q, if_neg q, nI_clamp (by omega), f2]
      rfl
    · have e8 : 8 * nI i + nI h = nI (8 * i + h) := by rw [show (8 : Int32) = nI 8 from rfl, pk_mul, nI_add]
      rw [e8]
      refine ⟨vp_in_nI (by omega) (by omega), ?_⟩
      unfold b_X10_allBy_50
      intro y ey z ez
      subst ez
      rw [nI_1]
      refine ih y ?_
      rw [ey, hs, if_pos q, if_pos q, nI_clamp (by omega), f1 h hh]
      rfl
theorem e_all {C : Nat → Mem} {N G : Nat} {M : Mem} (hC : CS C N G) (hF : FND C N G M) {h : Nat} (hh : h < 8) {x2 : Int32} {post : Int32 → Prop} (hp : post (if x2 = 0 then C 5 6 h else C 5 7 h)) : wp_X10_allBy M (nI h) x2 post := by
  obtain ⟨t1, t2⟩ := hC.2.2.2.1.2.2 h hh
  refine e_allBy hC.1 hF.2.1 hF.2.2.2.2.1 hh ?_
  rw [← t1, ← t2]
  exact hp
