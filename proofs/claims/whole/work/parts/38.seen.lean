-- sights that fit
def sfit (C : Nat → Mem) (N : Nat) (f : Nat → Int32) : Nat → Bool
  | 0 => true
  | k + 1 => sfit C N f k && decide (HB N (C 6 1 k) ∧ f (C 6 1 k).toNatClampNeg = C 6 2 k)
theorem sfit_t {C : Nat → Mem} {N : Nat} {f : Nat → Int32} {k : Nat} (h : sfit C N f k = true) (h2 : HB N (C 6 1 k) ∧ f (C 6 1 k).toNatClampNeg = C 6 2 k) : sfit C N f (k + 1) = true := by
  unfold sfit
  rw [h, decide_eq_true h2]
  rfl
theorem sfit_f {C : Nat → Mem} {N : Nat} {f : Nat → Int32} {k : Nat} (h2 : ¬ (HB N (C 6 1 k) ∧ f (C 6 1 k).toNatClampNeg = C 6 2 k)) : sfit C N f (k + 1) = false := by
  unfold sfit
  rw [decide_eq_false h2, Bool.and_false]
theorem sfit_up {C : Nat → Mem} {N : Nat} {f : Nat → Int32} {k : Nat} (h : sfit C N f k = false) : ∀ {n : Nat}, k ≤ n → sfit C N f n = false
  | 0, hn => by
    have : k = 0 := by omega
    subst this
    exact h
  | n + 1, hn => by
    by_cases e : k = n + 1
    · rw [← e]; exact h
    · unfold sfit
      rw [sfit_up h (show k ≤ n by omega), Bool.false_and]
theorem sfit_cong {C : Nat → Mem} {N : Nat} {f f' : Nat → Int32} (hN : N ≤ 8) (h : ∀ a, a < N → f a = f' a) : ∀ {k : Nat}, sfit C N f k = sfit C N f' k
  | 0 => rfl
  | k + 1 => by
    unfold sfit
    rw [sfit_cong hN h (k := k)]
    congr 1
    by_cases q : HB N (C 6 1 k)
    · obtain ⟨j, hj, e⟩ := HB_of q hN
      rw [e, nI_clamp (by omega), h j hj]
    · rw [decide_eq_false (fun z => q z.1), decide_eq_false (fun z => q z.1)]
def bitsI (s : Nat → Bool) : Nat → Int32
  | 0 => 0
  | k + 1 => bitsI s k ||| (if s k = true then 1 <<< (nI k &&& 31) else 0)
theorem or_z (x : Int32) : x ||| 0 = x := by simp
theorem bitsI_t {s : Nat → Bool} {k : Nat} (h : s k = true) : bitsI s (k + 1) = bitsI s k ||| (1 <<< (nI k &&& 31)) := by
  show bitsI s k ||| (if s k = true then 1 <<< (nI k &&& 31) else 0) = _
  rw [if_pos h]
theorem bitsI_f {s : Nat → Bool} {k : Nat} (h : s k = false) : bitsI s (k + 1) = bitsI s k := by
  show bitsI s k ||| (if s k = true then 1 <<< (nI k &&& 31) else 0) = _
  rw [if_neg (by rw [h]; decide), or_z]
/-- the number of sights -/
def nSg (C : Nat → Mem) : Nat := (C 6 0 2).toNatClampNeg
theorem SGT.n {C : Nat → Mem} {M : Mem} (h : SGT C M) : nSg C ≤ 8 ∧ C 6 0 2 = nI (nSg C) ∧ M 0 21 = nI (nSg C) ∧ ∀ i, i < nSg C → C 6 1 i = M 16 (2 * i) ∧ C 6 2 i = M 16 (2 * i + 1) := by
  obtain ⟨k, hk, e1, e2, e3⟩ := h
  have : nSg C = k := by unfold nSg; rw [e1, nI_clamp (by omega)]
  rw [this]
  exact ⟨hk, e1, e2, e3⟩
theorem e_isSeen {C : Nat → Mem} {M : Mem} {N G : Nat} {ws : Nat → WS} (hN8 : N ≤ 8) (hN : M 0 7 = nI N) (hG8 : G ≤ 8) (hG : M 0 9 = nI G) (hf : ∀ g, g < G → FEDM g (ws g) M) (hS : nSg C ≤ 8 ∧ C 6 0 2 = nI (nSg C) ∧ M 0 21 = nI (nSg C) ∧ ∀ i, i < nSg C → C 6 1 i = M 16 (2 * i) ∧ C 6 2 i = M 16 (2 * i + 1)) {x1 : Int32} {ex : Nat → Int32} (hx : (x1 = (-1) ∧ ∀ h, ex h = 0) ∨ ∃ g, g < G ∧ x1 = nI g ∧ ∀ h, ex h = gvW (ws g) h) {post : Int32 → Prop} (hp : post (bI (sfit C N (fun h => sI (fun g => gvW (ws g) h) G + ex h) (nSg C) = true))) : wp_X10_isSeen M x1 post := by
  obtain ⟨k8, -, s2, s3⟩ := hS
  revert hp k8 s2 s3
  generalize nSg C = K
  intro hp k8 s2 s3
  unfold wp_X10_isSeen b_X10_isSeen_0
  refine loop_0 (fun k i (s : Int32) => b_X10_isSeen_4 M post k x1 s (nI i)) (fun i s => s = bI (sfit C N (fun h => sI (fun g => gvW (ws g) h) G + ex h) i = true)) K 1 rfl ?_ ?_
  · intro k s hs
    unfold b_X10_isSeen_4
    rw [s2, hs]
    exact ⟨fun _ => ⟨bI_zo, hp⟩, fun q => absurd (nI_le (Nat.le_refl K) (by omega)) q⟩
  · intro k i s hi hs ih
    obtain ⟨t1, t2⟩ := s3 i hi
    unfold b_X10_isSeen_4
    have e2 : 2 * nI i = nI (2 * i) := by rw [show (2 : Int32) = nI 2 from rfl, pk_mul]
    have v2 : vp_in (nI (2 * i)) 16 := vp_in_nI (by omega) (by omega)
    rw [s2, hs, bI_z, e2, nI_1, nI_clamp (by omega), nI_clamp (by omega), ← t1, ← t2, e_isHouseM hN8 hN, bI_z]
    have bad : ¬ (HB N (C 6 1 i) ∧ (fun h => sI (fun g => gvW (ws g) h) G + ex h) (C 6 1 i).toNatClampNeg = C 6 2 i) → b_X10_isSeen_61 M post (b_X10_isSeen_4 M post k) x1 (nI i) := by
      intro q
      unfold b_X10_isSeen_61 b_X10_isSeen_62
      intro y ey
      rw [ey, nI_1]
      refine ih 0 ?_
      rw [sfit_f q]
      rfl
    refine ⟨fun q => absurd q (nI_ge hi (by omega)), fun _ => ⟨fun q => ⟨Or.inl q, ?_⟩, fun q => ⟨v2, fun q2 => bad (fun z => q2 z.1), fun q2 => ⟨v2, ?_⟩⟩⟩⟩
    · have z : sfit C N (fun h => sI (fun g => gvW (ws g) h) G + ex h) i = false := by simpa using q
      rw [z]
      rw [sfit_up z (show i ≤ K by omega)] at hp
      exact hp
    · have h1 : HB N (C 6 1 i) := Classical.not_not.mp q2
      obtain ⟨j, hj, ej⟩ := HB_of h1 hN8
      have z : sfit C N (fun h => sI (fun g => gvW (ws g) h) G + ex h) i = true := Classical.not_not.mp q
      rw [ej]
      unfold wp_X10_givesBy b_X10_givesBy_0
      refine e_allBy hG8 hG hf (by omega) ?_
      rw [if_pos rfl]
      have fin : ∀ r : Int32, r = (fun h => sI (fun g => gvW (ws g) h) G + ex h) j → vp_in (nI (2 * i + 1)) 16 ∧ ((¬ r = C 6 2 i) → b_X10_isSeen_61 M post (b_X10_isSeen_4 M post k) x1 (nI i)) ∧ ((r = C 6 2 i) → b_X10_isSeen_62 M post (b_X10_isSeen_4 M post k) x1 (nI i) 1) := by
        intro r er
        refine ⟨vp_in_nI (by omega) (by omega), fun q3 => bad (fun w => q3 ?_), fun q3 => ?_⟩
        · rw [er, ← w.2, ej, nI_clamp (by omega)]
        · unfold b_X10_isSeen_62
          intro y ey
          rw [ey, nI_1]
          refine ih 1 ?_
          rw [sfit_t z ⟨h1, by rw [ej, nI_clamp (by omega)]; exact er.symm.trans q3⟩]
          rfl
      rcases hx with ⟨e, e0⟩ | ⟨g, hg, e, e0⟩
      · refine ⟨fun q3 => absurd e q3, fun _ => fin _ ?_⟩
        dsimp only
        rw [e0]
      · rw [e]
        have e8 : 8 * nI g + nI j = nI (8 * g + j) := by rw [show (8 : Int32) = nI 8 from rfl, pk_mul, nI_add]
        rw [e8, nI_clamp (by omega), (hf g hg).1 j (by omega)]
        rw [e] at fin
        refine ⟨fun _ => ⟨vp_in_nI (by omega) (by omega), fin _ ?_⟩, fun q3 => absurd q3 (nI_ne_m1 (by omega))⟩
        dsimp only
        rw [e0]
-- twice
def twS (C : Nat → Mem) (N g : Nat) : Bool := sfit C N (fun h => C 5 6 h + gvW (WAYS (C 3) (C 4) g) h) (nSg C)
theorem c_twiceFits {C : Nat → Mem} {L : MemL} {N G g : Nat} (hC : CS C N G) (h8 : nSg C ≤ 8) (hs : C 6 0 2 = nI (nSg C)) (hg : g < G) {post : Int32 → Prop} (hp : post (bI (twS C N g = true))) : wp_X9_twiceFits C L (nI g) post := by
  have hN8 := hC.N8
  have hG8 := hC.1
  unfold twS at hp
  revert hp h8 hs
  generalize nSg C = K
  intro h8 hs hp
  unfold wp_X9_twiceFits b_X9_twiceFits_0
  refine loop_0 (fun k i (_ : Unit) => b_X9_twiceFits_2 C L post k (nI g) (nI i)) (fun i _ => sfit C N (fun h => C 5 6 h + gvW (WAYS (C 3) (C 4) g) h) i = true) K () rfl ?_ ?_
  · intro k _ hI
    unfold b_X9_twiceFits_2
    rw [hs]
    rw [hI] at hp
    exact ⟨fun _ => hp, fun q => absurd (nI_le (Nat.le_refl K) (by omega)) q⟩
  · intro k i _ hi hI ih
    have bad : ¬ (HB N (C 6 1 i) ∧ (fun h => C 5 6 h + gvW (WAYS (C 3) (C 4) g) h) (C 6 1 i).toNatClampNeg = C 6 2 i) → post 0 := fun q => by
      rw [sfit_up (sfit_f q) (show i + 1 ≤ K by omega)] at hp
      exact hp
    unfold b_X9_twiceFits_2
    rw [hs]
    have vi : vp_in (nI i) 8 := vp_in_nI (by omega) (by omega)
    refine ⟨fun q => absurd q (nI_ge hi (by omega)), fun _ => ⟨vi, fun x3 e3 => ?_⟩⟩
    rw [nI_clamp (by omega)] at e3
    rw [nI_clamp (by omega), e3, e_isHouse hC.nH, bI_z]
    refine ⟨fun q => bad (fun z => q z.1), fun q => ?_⟩
    have h1 : HB N (C 6 1 i) := Classical.not_not.mp q
    obtain ⟨j, hj, ej⟩ := HB_of h1 hN8
    rw [ej, nI_clamp (by omega)]
    refine ⟨vp_in_nI (by omega) (by omega), e_gaveTo hC hg (by omega) ⟨vi, fun q2 y ey => ?_, fun q2 => bad (fun z => q2 ?_)⟩⟩
    · rw [ey, nI_1]
      exact ih () (sfit_t hI ⟨h1, by rw [ej, nI_clamp (by omega)]; exact q2⟩)
    · have := z.2
      rw [ej, nI_clamp (by omega)] at this
      exact this
def F_twice (C : Nat → Mem) (N G : Nat) : Int32 := bitsI (twS C N) G
theorem c_twice {C : Nat → Mem} {L : MemL} {N G : Nat} (hC : CS C N G) (h8 : nSg C ≤ 8) (hs : C 6 0 2 = nI (nSg C)) {post : Int32 → Prop} (hp : post (F_twice C N G)) : wp_X9_twice C L post := by
  have hG8 := hC.1
  unfold wp_X9_twice b_X9_twice_0
  unfold F_twice at hp
  refine loop_0 (fun k i (s : Int32) => b_X9_twice_4 C L post k s (nI i)) (fun i s => s = bitsI (twS C N) i) G 0 rfl ?_ ?_
  · intro k s hs
    unfold b_X9_twice_4
    rw [hC.2.2.1, hs]
    exact ⟨fun _ => hp, fun q => absurd (nI_le (Nat.le_refl G) (by omega)) q⟩
  · intro k i s hi hI ih
    unfold b_X9_twice_4
    rw [hC.2.2.1]
    refine ⟨fun q => absurd q (nI_ge hi (by omega)), fun _ => c_twiceFits hC h8 hs hi ?_⟩
    rw [bI_z]
    refine ⟨fun q => ?_, fun q y ey => ?_⟩
    · unfold b_X9_twice_29
      intro z ez
      rw [ez, nI_1]
      exact ih s (by rw [bitsI_f (by simpa using q)]; exact hI)
    · unfold b_X9_twice_29
      intro z ez
      rw [ez, nI_1]
      exact ih y (by rw [bitsI_t (Classical.not_not.mp q), ey, hI])
theorem m_twiceNow {C : Nat → Mem} {M : Mem} {N G : Nat} (hC : CS C N G) (hF : FND C N G M) (hS : SGT C M) {post : Int32 → Prop} (hp : post (F_twice C N G)) : wp_X10_twiceNow M post := by
  have hG8 := hC.1
  have hN8 := hC.N8
  unfold wp_X10_twiceNow b_X10_twiceNow_0
  unfold F_twice at hp
  refine loop_0 (fun k i (s : Int32) => b_X10_twiceNow_4 M post k s (nI i)) (fun i s => s = bitsI (twS C N) i) G 0 rfl ?_ ?_
  · intro k s hs
    unfold b_X10_twiceNow_4
    rw [hF.2.1, hs]
    exact ⟨fun _ => hp, fun q => absurd (nI_le (Nat.le_refl G) (by omega)) q⟩
  · intro k i s hi hI ih
    unfold b_X10_twiceNow_4
    rw [hF.2.1]
    refine ⟨fun q => absurd q (nI_ge hi (by omega)), fun _ => ?_⟩
    refine e_isSeen (C := C) (ws := WAYS (C 3) (C 4)) (ex := fun h => gvW (WAYS (C 3) (C 4) i) h) hN8 hF.1 hG8 hF.2.1 hF.2.2.2.2.1 hS.n (Or.inr ⟨i, hi, rfl, fun _ => rfl⟩) ?_
    rw [sfit_cong (f' := fun h => C 5 6 h + gvW (WAYS (C 3) (C 4) i) h) hN8 (fun a ha => by rw [(hC.2.2.2.1.2.2 a (by omega)).1]), bI_z]
    refine ⟨fun q => ?_, fun q => ?_⟩
    · unfold b_X10_twiceNow_28
      intro y ey z ez
      rw [ez, nI_1]
      exact ih y (by rw [ey, or_z, bitsI_f (by simpa [twS] using q)]; exact hI)
    · unfold b_X10_twiceNow_28
      intro y ey z ez
      rw [ez, nI_1]
      exact ih y (by rw [ey, bitsI_t (show twS C N i = true from Classical.not_not.mp q), hI])
theorem MF.sg {C : Nat → Mem} {M M' : Mem} (h : MF M M') (hS : SGT C M) : SGT C M' := by
  unfold SGT
  rw [h.2.2.2.2.2.2.1, h.2.2.2.2.2.2.2.2]
  exact hS
theorem REL.sg {C : Nat → Mem} {M : Mem} (h : REL C M) : SGT C M := by
  obtain ⟨_, _, -, -, -, hs, -, -⟩ := h
  exact hs
theorem p_twice {C : Nat → Mem} {L : MemL} {M : Mem} (hR : REL C M) : wp_X9_twice C L (fun r => wp_X10_twice M (fun r' M' => r = r' ∧ REL C M')) := by
  obtain ⟨N, G, hC⟩ := hR.cs
  have hn := hR.sg.n
  refine c_twice hC hn.1 hn.2.1 ?_
  unfold wp_X10_twice b_X10_twice_0
  exact e_find2 hR hC (fun M' hf hF => m_twiceNow hC hF (hf.sg hR.sg) ⟨rfl, hR.mf hf⟩)
-- began
def GBe (C : Nat → Mem) (g : Nat) (be dn : Int32) : Mem := up2 (up2 (C 4) 2 g be) 3 g dn
def bgW (C : Nat → Mem) (g v : Nat) : WS := FEEDR (C 3) (C 4 1 g) (nI (v / 2)) (nI (v % 2)) (C 4 4 g)
theorem GBe_W (C : Nat → Mem) (g v : Nat) : WAYS (C 3) (GBe C g (nI (v / 2)) (nI (v % 2))) g = bgW C g v := by
  unfold WAYS GBe bgW
  rw [up2_c _ (by decide), up2_c _ (by decide), up2_c _ (by decide), up2_s, up2_s, up2_c _ (by decide), up2_c _ (by decide)]
def bgS (C : Nat → Mem) (N g v : Nat) : Bool := sfit C N (fun h => (C 5 6 h - gvW (WAYS (C 3) (C 4) g) h) + gvW (bgW C g v) h) (nSg C)
theorem bg_ar : ∀ v, v < 16 → nI v / 2 = nI (v / 2) ∧ nI v - nI v / 2 * 2 = nI (v % 2) ∧ nI v >>> ((1 : Int32) &&& 31) = nI (v / 2) ∧ nI v &&& 1 = nI (v % 2) := by decide +kernel
theorem c_walkFits {C : Nat → Mem} {L : MemL} {N G g v : Nat} (hC : CS C N G) (h8 : nSg C ≤ 8) (hs : C 6 0 2 = nI (nSg C)) (hg : g < G) (hw : WREP (C 10) (bgW C g v)) {post : Int32 → Prop} (hp : post (bI (bgS C N g v = true))) : wp_X9_walkFits C L (nI g) post := by
  have hN8 := hC.N8
  have hG8 := hC.1
  unfold bgS at hp
  revert hp h8 hs
  generalize nSg C = K
  intro h8 hs hp
  unfold wp_X9_walkFits b_X9_walkFits_0
  refine loop_0 (fun k i (_ : Unit) => b_X9_walkFits_2 C L post k (nI g) (nI i)) (fun i _ => sfit C N (fun h => (C 5 6 h - gvW (WAYS (C 3) (C 4) g) h) + gvW (bgW C g v) h) i = true) K () rfl ?_ ?_
  · intro k _ hI
    unfold b_X9_walkFits_2
    rw [hs]
    rw [hI] at hp
    exact ⟨fun _ => hp, fun q => absurd (nI_le (Nat.le_refl K) (by omega)) q⟩
  · intro k i _ hi hI ih
    have bad : ¬ (HB N (C 6 1 i) ∧ (fun h => (C 5 6 h - gvW (WAYS (C 3) (C 4) g) h) + gvW (bgW C g v) h) (C 6 1 i).toNatClampNeg = C 6 2 i) → post 0 := fun q => by
      rw [sfit_up (sfit_f q) (show i + 1 ≤ K by omega)] at hp
      exact hp
    unfold b_X9_walkFits_2
    rw [hs]
    have vi : vp_in (nI i) 8 := vp_in_nI (by omega) (by omega)
    refine ⟨fun q => absurd q (nI_ge hi (by omega)), fun _ => ⟨vi, fun x3 e3 => ?_⟩⟩
    rw [nI_clamp (by omega)] at e3
    rw [nI_clamp (by omega), e3, e_isHouse hC.nH, bI_z]
    refine ⟨fun q => ?_, fun q => bad (fun z => q z.1)⟩
    have h1 : HB N (C 6 1 i) := Classical.not_not.mp q
    obtain ⟨j, hj, ej⟩ := HB_of h1 hN8
    have vj : vp_in (nI j) 8 := vp_in_nI (by omega) (by omega)
    rw [ej, nI_clamp (by omega), hw.2.2.2.2.2.2 j (by omega)]
    refine ⟨vj, e_gaveTo hC hg (by omega) (fun x4 e4 => ⟨vj, vi, fun q2 y ey => ?_, fun q2 => bad (fun z => q2 ?_)⟩)⟩
    · rw [ey, nI_1]
      exact ih () (sfit_t hI ⟨h1, by rw [ej, nI_clamp (by omega), ← q2, e4]; rfl⟩)
    · have := z.2
      rw [ej, nI_clamp (by omega)] at this
      rw [e4]
      exact this
def F_began (C : Nat → Mem) (N g : Nat) : Int32 := bitsI (bgS C N g) 16
theorem bgS_core {K C : Nat → Mem} (h : CORE K C) (N g v : Nat) : bgS C N g v = bgS K N g v := by
  have a : ∀ {f : Nat → Int32} {k : Nat}, sfit C N f k = sfit K N f k := by
    intro f k
    induction k with
    | zero => rfl
    | succ k ih => unfold sfit; rw [ih, h 6 (by omega)]
  unfold bgS bgW nSg
  rw [a, h 3 (by omega), h 4 (by omega), h 5 (by omega), h 6 (by omega)]
theorem c_began {C : Nat → Mem} {L : MemL} {N G : Nat} (hC : CS C N G) (h8 : nSg C ≤ 8) (hs : C 6 0 2 = nI (nSg C)) {x1 : Int32} {post : Int32 → (Nat → Mem) → MemL → Prop} (hp : ∀ C', CORE C C' → post (if HB G x1 then F_began C N x1.toNatClampNeg else (-2)) C' L) : wp_X9_began C L x1 post := by
  have hG8 := hC.1
  unfold wp_X9_began b_X9_began_0
  rw [e_isGuest hC.2.2.1, bI_z]
  refine ⟨fun q => ?_, fun q => by have h := hp C (CORE_rf C); rw [if_neg q] at h; exact h⟩
  have h1 : HB G x1 := Classical.not_not.mp q
  rw [if_pos h1] at hp
  obtain ⟨g, hg, rfl⟩ := HB_of h1 hG8
  rw [nI_clamp (by omega)] at hp
  unfold F_began at hp
  refine loop_0 (fun k i (u : Int32 × (Nat → Mem)) => b_X9_began_15 post k (nI g) u.1 (nI i) u.2 L) (fun i u => u.1 = bitsI (bgS C N g) i ∧ CORE C u.2) 16 (0, C) ⟨rfl, CORE_rf C⟩ ?_ ?_
  · intro k u hI
    obtain ⟨x2, D⟩ := u
    obtain ⟨i1, i2⟩ := hI
    dsimp only at i1 i2
    dsimp only
    unfold b_X9_began_15
    rw [i1]
    exact ⟨fun _ => hp D i2, fun q => absurd (show (16 : Int32) ≤ nI 16 by decide) q⟩
  · intro k i u hi hI ih
    obtain ⟨x2, D⟩ := u
    obtain ⟨i1, i2⟩ := hI
    dsimp only at i1 i2
    dsimp only
    unfold b_X9_began_15
    obtain ⟨-, -, a3, a4⟩ := bg_ar i hi
    rw [a3, a4]
    refine ⟨fun q => absurd q (nI_ge (b := 16) hi (by omega)), fun _ => e_goFrom (N := N) (by rw [i2 3 (by omega)]; exact hC.2.1) (by omega) (fun w hw D2 e2 => ?_)⟩
    have hco : CORE C D2 := by rw [e2]; exact i2.up (by omega) _
    have hw' : WREP (D2 10) (bgW D2 g i) := by
      unfold bgW
      rw [hco 3 (by omega), hco 4 (by omega), e2, up3_s, ← i2 3 (by omega), ← i2 4 (by omega)]
      exact hw
    have e6 : nSg D2 = nSg C := by unfold nSg; rw [hco 6 (by omega)]
    refine c_walkFits (v := i) (hC.core hco) (by rw [e6]; exact h8) (by rw [e6, hco 6 (by omega)]; exact hs) hg hw' ?_
    rw [bgS_core hco, bI_z]
    refine ⟨fun q => ?_, fun q y ey => ?_⟩
    · unfold b_X9_began_57
      intro z ez
      rw [ez, nI_1]
      exact ih (x2, D2) ⟨by rw [bitsI_f (by simpa using q)]; exact i1, hco⟩
    · unfold b_X9_began_57
      intro z ez
      rw [ez, nI_1]
      exact ih (y, D2) ⟨by rw [bitsI_t (Classical.not_not.mp q), ey, i1], hco⟩
theorem sI_upd {f : Nat → Int32} {g : Nat} {v : Int32} : ∀ (n : Nat), sI (fun k => if k = g then v else f k) n = if g < n then (sI f n - f g) + v else sI f n
  | 0 => rfl
  | n + 1 => by
    show sI (fun k => if k = g then v else f k) n + (if n = g then v else f n) = if g < n + 1 then ((sI f n + f n) - f g) + v else sI f n + f n
    rw [sI_upd n]
    by_cases q : n = g
    · subst q
      rw [if_neg (Nat.lt_irrefl n), if_pos rfl, if_pos (by omega), Int32.add_sub_cancel]
    · by_cases q2 : g < n
      · rw [if_pos q2, if_neg q, if_pos (by omega), Int32.sub_eq_add_neg, Int32.sub_eq_add_neg]
        ac_rfl
      · rw [if_neg q2, if_neg q, if_neg (by omega)]
/-- cells kept by a trial of a guest's begin -/
def KB (g : Nat) (M D : Mem) : Prop := (∀ c, c ≠ 8 → c < 11 ∨ 15 < c → D c = M c) ∧ (∀ i, i ≠ 4 * g + 1 → i ≠ 4 * g + 2 → D 8 i = M 8 i) ∧ (∀ i, (i < 8 * g ∨ 8 * g + 8 ≤ i) → D 11 i = M 11 i) ∧ ∀ c, 12 ≤ c → c ≤ 15 → ∀ i, i ≠ g → D c i = M c i
theorem KB_rf (g : Nat) (M : Mem) : KB g M M := ⟨fun _ _ _ => rfl, fun _ _ _ => rfl, fun _ _ => rfl, fun _ _ _ _ _ => rfl⟩
theorem KB_up {g j : Nat} {M D : Mem} (hj : j = 4 * g + 1 ∨ j = 4 * g + 2) (h : KB g M D) (v : Int32) : KB g M (up2 D 8 j v) :=
  ⟨fun c hc hr => (up2_c _ hc).trans (h.1 c hc hr), fun i h1 h2 => (up2_i _ (by omega)).trans (h.2.1 i h1 h2), fun i hi => by rw [up2_c _ (by omega)]; exact h.2.2.1 i hi, fun c h1 h2 i hi => by rw [up2_c _ (by omega)]; exact h.2.2.2 c h1 h2 i hi⟩
theorem KB_fr {g : Nat} {M D D' : Mem} (h : KB g M D) (k : FRM g D D') : KB g M D' :=
  ⟨fun c hc hr => (k.1 c hr).trans (h.1 c hc hr), fun i h1 h2 => by rw [k.1 8 (by omega)]; exact h.2.1 i h1 h2, fun i hi => (k.2.1 i hi).trans (h.2.2.1 i hi), fun c h1 h2 i hi => (k.2.2 c h1 h2 i hi).trans (h.2.2.2 c h1 h2 i hi)⟩
theorem KB_back {g : Nat} {M D : Mem} (h : KB g M D) (e1 : D 8 (4 * g + 1) = M 8 (4 * g + 1)) (e2 : D 8 (4 * g + 2) = M 8 (4 * g + 2)) : FRM g M D := by
  refine ⟨fun c hc => ?_, h.2.2.1, h.2.2.2⟩
  by_cases q : c = 8
  · subst q
    funext i
    by_cases z : i = 4 * g + 1
    · rw [z]; exact e1
    · by_cases z2 : i = 4 * g + 2
      · rw [z2]; exact e2
      · exact h.2.1 i z z2
  · exact h.1 c q hc
theorem KB.fed {a g : Nat} {M D : Mem} {w : WS} (h : KB g M D) (hne : a ≠ g) (hf : FEDM a w M) : FEDM a w D := by
  obtain ⟨h1, h2, h3, h4, h5⟩ := hf
  refine ⟨fun b hb => ?_, ?_, ?_, ?_, ?_⟩
  · rw [h.2.2.1 _ (by omega)]; exact h1 b hb
  · rw [h.2.2.2 12 (by omega) (by omega) a hne]; exact h2
  · rw [h.2.2.2 13 (by omega) (by omega) a hne]; exact h3
  · rw [h.2.2.2 14 (by omega) (by omega) a hne]; exact h4
  · rw [h.2.2.2 15 (by omega) (by omega) a hne]; exact h5
theorem m_beganOf {C : Nat → Mem} {M : Mem} {N G g : Nat} (hC : CS C N G) (hF : FND C N G M) (hS : SGT C M) (hg : g < G) {post : Int32 → Mem → Prop} (hp : ∀ M', MF M M' → FND C N G M' → post (F_began C N g) M') : wp_X10_beganOf M (nI g) post := by
  have hN8 := hC.N8
  have hG8 := hC.1
  have hSn := hS.n
  obtain ⟨f7, f9, ft, fg, fw, f0, f6⟩ := id hF
  have e41 : 4 * nI g + 1 = nI (4 * g + 1) := by rw [show (4 : Int32) = nI 4 from rfl, pk_mul, nI_1]
  have e42 : 4 * nI g + 2 = nI (4 * g + 2) := by rw [show (4 : Int32) = nI 4 from rfl, show (2 : Int32) = nI 2 from rfl, pk_mul, nI_add]
  have v1 : vp_in (nI (4 * g + 1)) 32 := vp_in_nI (by omega) (by omega)
  have v2 : vp_in (nI (4 * g + 2)) 32 := vp_in_nI (by omega) (by omega)
  unfold wp_X10_beganOf b_X10_beganOf_0
  rw [e41, e42, nI_clamp (by omega), nI_clamp (by omega)]
  refine ⟨v1, fun x2 ex2 => ⟨v2, fun x3 ex3 => ?_⟩⟩
  unfold F_began at hp
  refine loop_0 (fun k i (u : Int32 × Mem) => b_X10_beganOf_28 post k (nI g) x2 x3 u.1 (nI i) u.2) (fun i u => u.1 = bitsI (bgS C N g) i ∧ KB g M u.2) 16 (0, M) ⟨rfl, KB_rf g M⟩ ?_ ?_
  · intro k u hI
    obtain ⟨x4, D⟩ := u
    obtain ⟨i1, i2⟩ := hI
    dsimp only at i1 i2
    dsimp only
    unfold b_X10_beganOf_28
    rw [e41, e42, nI_clamp (by omega), nI_clamp (by omega)]
    refine ⟨fun _ => ⟨v1, fun D2 e2 => ⟨v2, fun D3 e3 => ?_⟩⟩, fun q => absurd (show (16 : Int32) ≤ nI 16 by decide) q⟩
    have hfr : FRM g M D3 := by
      rw [e3, e2]
      refine KB_back (KB_up (Or.inr rfl) (KB_up (Or.inl rfl) i2 _) _) ?_ ?_
      · rw [up2_i _ (by omega), up2_s]; exact ex2
      · rw [up2_s]; exact ex3
    refine e_feedT hC.2.1 hG8 hg (hC.bg g hg) (MT_frm hF.mt hfr) (fun D4 hf4 hfed => ?_)
    rw [i1]
    exact hp D4 (FRM_tr hfr hf4).all.mf (FND_frm hF (FRM_tr hfr hf4) hfed)
  · intro k i u hi hI ih
    obtain ⟨x4, D⟩ := u
    obtain ⟨i1, i2⟩ := hI
    dsimp only at i1 i2
    dsimp only
    unfold b_X10_beganOf_28
    obtain ⟨a1, a2, -, -⟩ := bg_ar i hi
    rw [e41, e42, nI_clamp (by omega), nI_clamp (by omega), a2, a1]
    refine ⟨fun q => absurd q (nI_ge (b := 16) hi (by omega)), fun _ => ⟨v1, fun D2 e2 => ⟨v2, fun D3 e3 => ?_⟩⟩⟩
    have k3 : KB g M D3 := by rw [e3, e2]; exact KB_up (Or.inr rfl) (KB_up (Or.inl rfl) i2 _) _
    have d81 : D3 8 (4 * g + 1) = nI (i / 2) := by rw [e3, up2_i _ (by omega), e2, up2_s]
    have d82 : D3 8 (4 * g + 2) = nI (i % 2) := by rw [e3, up2_s]
    refine e_feedT (N := N) (G := G) (R := C 3) (Gs := GBe C g (nI (i / 2)) (nI (i % 2))) hC.2.1 hG8 hg ⟨i / 2, by omega, ?_⟩ ⟨?_, ?_, ?_, fun a ha => ?_, fun a ha => ?_⟩ (fun D4 hf4 hfed => ?_)
    · unfold GBe; rw [up2_c _ (by decide), up2_s]
    · rw [k3.1 0 (by omega) (by omega)]; exact f7
    · rw [k3.1 0 (by omega) (by omega)]; exact f9
    · rw [k3.1 9 (by omega) (by omega)]; exact f6
    · rw [k3.1 7 (by omega) (by omega), k3.1 10 (by omega) (by omega)]; exact ⟨(ft a ha).1, (ft a ha).2.1, (ft a ha).2.2.2⟩
    · unfold GBe
      obtain ⟨g1, g2, g3, g4⟩ := fg a ha
      rw [up2_c _ (show (1 : Nat) ≠ 3 by decide), up2_c _ (show (1 : Nat) ≠ 2 by decide), up2_c _ (show (4 : Nat) ≠ 3 by decide), up2_c _ (show (4 : Nat) ≠ 2 by decide), up2_c _ (show (2 : Nat) ≠ 3 by decide)]
      refine ⟨by rw [k3.2.1 _ (by omega) (by omega)]; exact g1, ?_, ?_, by rw [k3.2.1 _ (by omega) (by omega)]; exact g4⟩
      · by_cases e : a = g
        · rw [e, d81, up2_s]
        · rw [k3.2.1 _ (by omega) (by omega), up2_i _ e]; exact g2
      · by_cases e : a = g
        · rw [e, d82, up2_s]
        · rw [k3.2.1 _ (by omega) (by omega), up2_i _ e, up2_c _ (by decide)]; exact g3
    · have k4 := KB_fr k3 hf4
      rw [GBe_W] at hfed
      refine e_isSeen (C := C) (N := N) (G := G) (ws := fun a => if a = g then bgW C g i else WAYS (C 3) (C 4) a) (ex := fun _ => 0) hN8 ?_ hG8 ?_ (fun a ha => ?_) ⟨hSn.1, hSn.2.1, ?_, ?_⟩ (Or.inl ⟨rfl, fun _ => rfl⟩) ?_
      · rw [k4.1 0 (by omega) (by omega)]; exact f7
      · rw [k4.1 0 (by omega) (by omega)]; exact f9
      · by_cases e : a = g
        · rw [e, if_pos rfl]; exact hfed
        · rw [if_neg e]; exact k4.fed e (fw a ha)
      · rw [k4.1 0 (by omega) (by omega)]; exact hSn.2.2.1
      · rw [k4.1 16 (by omega) (by omega)]; exact hSn.2.2.2
      · rw [sfit_cong (f' := fun h => (C 5 6 h - gvW (WAYS (C 3) (C 4) g) h) + gvW (bgW C g i) h) hN8 (fun a ha => by
          have hc : (fun k => gvW (if k = g then bgW C g i else WAYS (C 3) (C 4) k) a) = (fun k => if k = g then gvW (bgW C g i) a else gvW (WAYS (C 3) (C 4) k) a) := by
            funext k
            split <;> rfl
          rw [hc, sI_upd (f := fun k => gvW (WAYS (C 3) (C 4) k) a), if_pos hg, (hC.2.2.2.1.2.2 a (by omega)).1]
          simp), bI_z]
        refine ⟨fun q => ?_, fun q => ?_⟩
        · unfold b_X10_beganOf_86
          intro y ey z ez
          rw [ez, nI_1]
          exact ih (y, D4) ⟨by rw [ey, or_z, bitsI_f (by simpa [bgS] using q)]; exact i1, k4⟩
        · unfold b_X10_beganOf_86
          intro y ey z ez
          rw [ez, nI_1]
          exact ih (y, D4) ⟨by rw [ey, bitsI_t (show bgS C N g i = true from Classical.not_not.mp q), i1], k4⟩
theorem p_began {C : Nat → Mem} {L : MemL} {M : Mem} (hR : REL C M) (x1 : Int32) : wp_X9_began C L x1 (fun r C' _ => wp_X10_began M x1 (fun r' M' => r = r' ∧ REL C' M')) := by
  obtain ⟨N, G, hC⟩ := hR.cs
  have hG8 := hC.1
  have hn := hR.sg.n
  refine c_began hC hn.1 hn.2.1 (fun C' hco => ?_)
  unfold wp_X10_began b_X10_began_0
  refine e_find2 hR hC (fun M' hf hF => ?_)
  have hR' := (hR.mf hf).core hco
  rw [e_isGuestM hG8 hF.2.1, bI_z]
  refine ⟨fun q => ⟨by rw [if_neg q], hR'⟩, fun q => ?_⟩
  have h1 : HB G x1 := Classical.not_not.mp q
  rw [if_pos h1]
  obtain ⟨g, hg, rfl⟩ := HB_of h1 hG8
  rw [nI_clamp (by omega)]
  exact m_beganOf hC hF (hf.sg hR.sg) hg (fun M2 hf2 _ => ⟨rfl, hR'.mf hf2⟩)
