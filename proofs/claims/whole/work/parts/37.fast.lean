-- fast: the least bits
def FB (s : Nat → Int32) (x : Int32) : Nat → Option Nat
  | 0 => none
  | k + 1 => match FB s x k with
    | none => if s k = x then some k else none
    | some b => if s k = x ∧ popN k < popN b then some k else some b
theorem FB_n {s : Nat → Int32} {x : Int32} {k : Nat} (h : FB s x k = none) : FB s x (k + 1) = if s k = x then some k else none := by
  show (match FB s x k with | none => if s k = x then some k else none | some b => if s k = x ∧ popN k < popN b then some k else some b) = _
  rw [h]
theorem FB_s {s : Nat → Int32} {x : Int32} {k b : Nat} (h : FB s x k = some b) : FB s x (k + 1) = if s k = x ∧ popN k < popN b then some k else some b := by
  show (match FB s x k with | none => if s k = x then some k else none | some b => if s k = x ∧ popN k < popN b then some k else some b) = _
  rw [h]
theorem FB_lt {s : Nat → Int32} {x : Int32} : ∀ {k b : Nat}, FB s x k = some b → b < k
  | 0, b, h => by simp [FB] at h
  | k + 1, b, h => by
    cases hc : FB s x k with
    | none =>
      rw [FB_n hc] at h
      split at h
      · cases h; omega
      · cases h
    | some c =>
      rw [FB_s hc] at h
      have := FB_lt hc
      split at h <;> cases h <;> omega
def fwI (o : Option Nat) : Int32 := match o with
  | none => 9
  | some b => nI (popN b)
theorem shl_N : ∀ h, h ≤ 8 → (1 : Int32) <<< (nI h &&& 31) = nI (2 ^ h) := by decide +kernel
theorem p2_le {N : Nat} (h : N ≤ 8) : 2 ^ N ≤ 256 := Nat.pow_le_pow_right (n := 2) (by omega) h
theorem ROK_em {C : Nat → Mem} {N G : Nat} (hC : CS C N G) (b : Int32) : ROK N (REm C b) := ⟨hC.N8, by unfold REm; rw [up2_i _ (by decide)]; exact hC.nH, fun p hp => by unfold REm; rw [up2_c _ (by decide)]; exact hC.2.1.2.2 p hp⟩
theorem ROK_po {C : Nat → Mem} {N G h : Nat} (hC : CS C N G) (b : Int32) : ROK N (RPo C h b) := ⟨hC.N8, by unfold RPo; rw [up2_c _ (by decide)]; exact hC.nH, fun p hp => by unfold RPo; rw [up2_c _ (by decide)]; exact hC.2.1.2.2 p hp⟩
theorem c_fewest {C : Nat → Mem} {L : MemL} {N G h g : Nat} (hC : CS C N G) (hg : g < G) {post : Int32 → (Nat → Mem) → MemL → Prop} (hp : ∀ C', CORE C C' → post (oI1 (FB (fun b => slW (WAYS (REm C (nI b)) (C 4) g)) (nI h) (2 ^ N))) C' L) : wp_X9_fewestEmpty C L (nI h) (nI g) post := by
  have hN8 := hC.N8
  have hG8 := hC.1
  unfold wp_X9_fewestEmpty b_X9_fewestEmpty_0
  refine e_takeFrom (fun m9 t4 t5 t6 ta C2 e2 => ?_)
  have hE := p2_le hN8
  have sh := shl_N N hN8
  revert hp hE sh
  generalize 2 ^ N = E
  intro hp hE sh
  refine loop_0 (fun k i (u : Int32 × Int32 × (Nat → Mem)) => b_X9_fewestEmpty_20 post k (nI h) (nI g) u.1 u.2.1 (nI i) u.2.2 L) (fun i u => u.1 = oI1 (FB (fun b => slW (WAYS (REm C (nI b)) (C 4) g)) (nI h) i) ∧ u.2.1 = fwI (FB (fun b => slW (WAYS (REm C (nI b)) (C 4) g)) (nI h) i) ∧ CORE C u.2.2 ∧ u.2.2 9 0 4 = nI N ∧ ∀ a, a < N → u.2.2 9 1 a = C 3 1 a ∧ u.2.2 9 2 a = C 3 2 a ∧ u.2.2 9 4 a = C 3 4 a) E ((-1), 9, C2) ⟨rfl, rfl, by rw [e2]; exact (CORE_rf C).up (by omega) _, ?_, ?_⟩ ?_ ?_
  · dsimp only
    rw [e2, up3_s, t4]
    exact hC.nH
  · dsimp only
    rw [e2, up3_s]
    exact fun a ha => ⟨(ta a (by omega)).1, (ta a (by omega)).2.1, (ta a (by omega)).2.2.2⟩
  · intro k u hI
    obtain ⟨x3, x4, D⟩ := u
    obtain ⟨i1, i2, i3, i4, i5⟩ := hI
    dsimp only at i1 i2 i3 i4 i5
    dsimp only
    unfold b_X9_fewestEmpty_20
    rw [i3 3 (by omega), hC.nH, sh, i1]
    exact ⟨fun _ => hp D i3, fun q => absurd (nI_le (Nat.le_refl E) (by omega)) q⟩
  · intro k i u hi hI ih
    obtain ⟨x3, x4, D⟩ := u
    obtain ⟨i1, i2, i3, i4, i5⟩ := hI
    dsimp only at i1 i2 i3 i4 i5
    dsimp only
    have nx : ∀ (y3 y4 : Int32) (D' : Nat → Mem), y3 = oI1 (FB (fun b => slW (WAYS (REm C (nI b)) (C 4) g)) (nI h) (i + 1)) → y4 = fwI (FB (fun b => slW (WAYS (REm C (nI b)) (C 4) g)) (nI h) (i + 1)) → CORE C D' → D' 9 0 4 = nI N → (∀ a, a < N → D' 9 1 a = C 3 1 a ∧ D' 9 2 a = C 3 2 a ∧ D' 9 4 a = C 3 4 a) → b_X9_fewestEmpty_94 post (b_X9_fewestEmpty_20 post k) (nI h) (nI g) y3 y4 (nI i) D' L := by
      intro y3 y4 D' a1 a2 a3 a4 a5
      unfold b_X9_fewestEmpty_94
      intro z ez
      rw [ez, nI_1]
      exact ih (y3, y4, D') ⟨a1, a2, a3, a4, a5⟩
    unfold b_X9_fewestEmpty_20
    rw [i3 3 (by omega), hC.nH, sh, e_bitCount (by omega)]
    refine ⟨fun q => absurd q (nI_ge hi (by omega)), fun _ => ⟨fun q D4 e4 => ?_, fun q => ?_⟩⟩
    · have d49 : D4 9 = up2 (D 9) 0 6 (nI i) := by rw [e4, up3_s]
      have hre : RE N (D4 9) (REm C (nI i)) := by
        rw [d49]
        unfold REm
        refine ⟨?_, ?_, fun a ha => ⟨?_, ?_, ?_⟩⟩
        · rw [up2_i _ (by decide), up2_i _ (by decide), i4, hC.nH]
        · rw [up2_s, up2_s]
        · rw [up2_c _ (by decide), up2_c _ (by decide)]; exact (i5 a ha).1
        · rw [up2_c _ (by decide), up2_c _ (by decide)]; exact (i5 a ha).2.1
        · rw [up2_c _ (by decide), up2_c _ (by decide)]; exact (i5 a ha).2.2
      have hRP := ROK_em hC (nI i)
      have d4c : CORE C D4 := by rw [e4]; exact i3.up (by omega) _
      refine e_go (ROK_re hRP hre) (by omega) (fun w hw D6 e6 => ?_)
      have d6c : CORE C D6 := by rw [e6]; exact d4c.up (by omega) _
      have d610 : D6 10 0 1 = slW (WAYS (REm C (nI i)) (C 4) g) := by
        rw [e6, up3_s, hw.2.2.2.1, ← WAYS_re hRP hre]
        rw [d4c 4 (by omega)]
        rfl
      have d69 : D6 9 = up2 (D 9) 0 6 (nI i) := by rw [e6, up3_n _ (by decide)]; exact d49
      have d6a : D6 9 0 4 = nI N := by rw [d69, up2_i _ (by decide)]; exact i4
      have d6b : ∀ a, a < N → D6 9 1 a = C 3 1 a ∧ D6 9 2 a = C 3 2 a ∧ D6 9 4 a = C 3 4 a := fun a ha => by
        rw [d69, up2_c _ (by decide), up2_c _ (by decide), up2_c _ (by decide)]; exact i5 a ha
      rw [d610]
      cases hb : FB (fun b => slW (WAYS (REm C (nI b)) (C 4) g)) (nI h) i with
      | none =>
        rw [hb] at i1 i2
        have hn := FB_n hb
        refine ⟨fun q2 => nx _ _ _ ?_ ?_ d6c d6a d6b, fun q2 => nx _ _ _ ?_ ?_ d6c d6a d6b⟩
        · rw [hn, if_neg q2]; exact i1
        · rw [hn, if_neg q2]; exact i2
        · rw [hn, if_pos q2]; rfl
        · rw [hn, if_pos q2]; rfl
      | some b =>
        rw [hb] at i1 i2
        have hn := FB_s hb
        have hbl := FB_lt hb
        have pb := pop_le b
        have pi := pop_le i
        have q' : popN i < popN b := by
          rw [i2] at q
          exact (nI_ltI (by omega) (by omega)).mp q
        refine ⟨fun q2 => nx _ _ _ ?_ ?_ d6c d6a d6b, fun q2 => nx _ _ _ ?_ ?_ d6c d6a d6b⟩
        · rw [hn, if_neg (fun z => q2 z.1)]; exact i1
        · rw [hn, if_neg (fun z => q2 z.1)]; exact i2
        · rw [hn, if_pos ⟨q2, q'⟩]; rfl
        · rw [hn, if_pos ⟨q2, q'⟩]; rfl
    · have pi := pop_le i
      cases hb : FB (fun b => slW (WAYS (REm C (nI b)) (C 4) g)) (nI h) i with
      | none =>
        rw [hb] at i2
        rw [i2] at q
        exact absurd (nI_lt (b := 9) (show popN i < 9 by omega) (by omega)) q
      | some b =>
        rw [hb] at i1 i2
        have hn := FB_s hb
        have pb := pop_le b
        rw [i2] at q
        have q' : ¬ popN i < popN b := fun z => q (nI_lt z (by omega))
        refine nx _ _ _ ?_ ?_ i3 i4 i5
        · rw [hn, if_neg (fun z => q' z.2)]; exact i1
        · rw [hn, if_neg (fun z => q' z.2)]; exact i2
def fsI (x3 : Int32) (o : Option Nat) : Int32 := match o with
  | none => (-1)
  | some b => if x3 = 0 then nI (popN b) else nI b
def F_fast (C : Nat → Mem) (N h g : Nat) (x3 : Int32) : Int32 := fsI x3 (FB (fun b => slW (WAYS (REm C (nI b)) (C 4) g)) (nI h) (2 ^ N))
theorem c_fast {C : Nat → Mem} {L : MemL} {N G : Nat} (hC : CS C N G) {x1 x2 x3 : Int32} {post : Int32 → (Nat → Mem) → MemL → Prop} (hp : ∀ C', CORE C C' → post (if HB N x1 ∧ HB G x2 ∧ (0 ≤ x3 ∧ x3 ≤ 1) then F_fast C N x1.toNatClampNeg x2.toNatClampNeg x3 else (-2)) C' L) : wp_X9_fast C L x1 x2 x3 post := by
  have hN8 := hC.N8
  have hG8 := hC.1
  unfold wp_X9_fast b_X9_fast_0
  rw [e_isHouse hC.nH, bI_z]
  refine ⟨fun q => by have h := hp C (CORE_rf C); rw [if_neg (fun z => q z.1)] at h; exact h, fun q => ?_⟩
  have h1 : HB N x1 := Classical.not_not.mp q
  rw [e_isGuest hC.2.2.1, bI_z]
  refine ⟨fun q => by have h := hp C (CORE_rf C); rw [if_neg (fun z => q z.2.1)] at h; exact h, fun q => ?_⟩
  have h2 : HB G x2 := Classical.not_not.mp q
  rw [e_isBit, bI_z]
  refine ⟨fun q => ?_, fun q => by have h := hp C (CORE_rf C); rw [if_neg (fun z => q z.2.2)] at h; exact h⟩
  have h3 : 0 ≤ x3 ∧ x3 ≤ 1 := Classical.not_not.mp q
  obtain ⟨k, hk, rfl⟩ := HB_of h1 hN8
  obtain ⟨g, hg, rfl⟩ := HB_of h2 hG8
  refine c_fewest hC hg (fun C' hco => ?_)
  have h := hp C' hco
  rw [if_pos ⟨h1, h2, h3⟩, nI_clamp (by omega), nI_clamp (by omega)] at h
  unfold F_fast at h
  have hE := p2_le hN8
  cases hb : FB (fun b => slW (WAYS (REm C (nI b)) (C 4) g)) (nI k) (2 ^ N) with
  | none =>
    rw [hb] at h
    refine ⟨fun _ => h, fun _ => ?_⟩
    unfold wp_X9_howMany b_X9_howMany_0
    exact ⟨fun q => absurd rfl q, fun _ => h⟩
  | some b =>
    rw [hb] at h
    have hbl := FB_lt hb
    refine ⟨fun q => ?_, fun q => ?_⟩
    · unfold fsI at h
      dsimp only at h
      rw [if_neg q] at h
      exact h
    · unfold fsI at h
      dsimp only at h
      rw [if_pos q] at h
      unfold wp_X9_howMany b_X9_howMany_0
      refine ⟨fun _ => ?_, fun z => absurd z (nI_ne_m1 (by omega))⟩
      show wp_J6_bitCount_0f7a4 (nI b) _
      rw [e_bitCount (by omega)]
      exact h
-- the reference: one number tried, one guest fed
def KE (c0 j g : Nat) (M D : Mem) : Prop := (∀ c, c ≠ c0 → c < 11 ∨ 15 < c → D c = M c) ∧ (∀ i, i ≠ j → D c0 i = M c0 i) ∧ (∀ i, (i < 8 * g ∨ 8 * g + 8 ≤ i) → D 11 i = M 11 i) ∧ ∀ c, 12 ≤ c → c ≤ 15 → ∀ i, i ≠ g → D c i = M c i
theorem KE_rf (c0 j g : Nat) (M : Mem) : KE c0 j g M M := ⟨fun _ _ _ => rfl, fun _ _ => rfl, fun _ _ => rfl, fun _ _ _ _ _ => rfl⟩
theorem KE_up {c0 j g : Nat} {M D : Mem} (h0 : c0 < 11) (h : KE c0 j g M D) (v : Int32) : KE c0 j g M (up2 D c0 j v) :=
  ⟨fun c hc hr => (up2_c _ hc).trans (h.1 c hc hr), fun i hi => (up2_i _ hi).trans (h.2.1 i hi), fun i hi => by rw [up2_c _ (by omega)]; exact h.2.2.1 i hi, fun c h1 h2 i hi => by rw [up2_c _ (by omega)]; exact h.2.2.2 c h1 h2 i hi⟩
theorem KE_fr {c0 j g : Nat} {M D D' : Mem} (h0 : c0 < 11) (h : KE c0 j g M D) (k : FRM g D D') : KE c0 j g M D' :=
  ⟨fun c hc hr => (k.1 c hr).trans (h.1 c hc hr), fun i hi => by rw [k.1 c0 (by omega)]; exact h.2.1 i hi, fun i hi => (k.2.1 i hi).trans (h.2.2.1 i hi), fun c h1 h2 i hi => (k.2.2 c h1 h2 i hi).trans (h.2.2.2 c h1 h2 i hi)⟩
theorem KE_back {c0 j g : Nat} {M D : Mem} (h0 : c0 < 11) (h : KE c0 j g M D) (e : D c0 j = M c0 j) : FRM g M D := by
  refine ⟨fun c hc => ?_, h.2.2.1, h.2.2.2⟩
  by_cases q : c = c0
  · subst q
    funext i
    by_cases z : i = j
    · rw [z]; exact e
    · exact h.2.1 i z
  · exact h.1 c q hc
theorem FRM_tr {g : Nat} {A B D : Mem} (h : FRM g A B) (k : FRM g B D) : FRM g A D := ⟨fun c hc => (k.1 c hc).trans (h.1 c hc), fun i hi => (k.2.1 i hi).trans (h.2.1 i hi), fun c h1 h2 i hi => (k.2.2 c h1 h2 i hi).trans (h.2.2 c h1 h2 i hi)⟩
theorem FND_frm {C : Nat → Mem} {N G g : Nat} {M D : Mem} (hF : FND C N G M) (h : FRM g M D) (hf : FEDM g (WAYS (C 3) (C 4) g) D) : FND C N G D := by
  obtain ⟨f7, f9, ft, fg, fw, f0, f6⟩ := hF
  refine ⟨by rw [h.1 0 (by omega)]; exact f7, by rw [h.1 0 (by omega)]; exact f9, ?_, by rw [h.1 8 (by omega)]; exact fg, fun a ha => ?_, by rw [h.1 9 (by omega)]; exact f0, by rw [h.1 9 (by omega)]; exact f6⟩
  · rw [h.1 7 (by omega), h.1 10 (by omega)]; exact ft
  · by_cases q : a = g
    · rw [q]; exact hf
    · exact FEDM_kept h q (fw a ha)
theorem MT_frm {N G g : Nat} {R Gs M D : Mem} (h : MT N G R Gs M) (k : FRM g M D) : MT N G R Gs D := by
  unfold MT
  rw [k.1 0 (by omega), k.1 9 (by omega), k.1 7 (by omega), k.1 10 (by omega), k.1 8 (by omega)]
  exact h
theorem m_fastOf {C : Nat → Mem} {M : Mem} {N G h g : Nat} {x3 : Int32} (hC : CS C N G) (hF : FND C N G M) (hg : g < G) (h3 : 0 ≤ x3 ∧ x3 ≤ 1) {post : Int32 → Mem → Prop} (hp : ∀ M', MF M M' → FND C N G M' → post (F_fast C N h g x3) M') : wp_X10_fastOf M (nI h) (nI g) x3 post := by
  have hN8 := hC.N8
  have hG8 := hC.1
  obtain ⟨f7, f9, ft, fg, fw, f0, f6⟩ := id hF
  have vg : vp_in (nI g) 8 := vp_in_nI (by omega) (by omega)
  have v1 : vp_in 1 2 := vp1 (by decide) (by decide)
  unfold wp_X10_fastOf b_X10_fastOf_0
  refine ⟨v1, fun x4 e4 => ?_⟩
  rw [show Int32.toNatClampNeg 1 = 1 from rfl] at e4
  unfold F_fast at hp
  have hE := p2_le hN8
  have sh := shl_N N hN8
  revert hp hE sh
  generalize 2 ^ N = E
  intro hp hE sh
  refine loop_0 (fun k i (u : Int32 × Mem) => b_X10_fastOf_14 post k (nI h) (nI g) x3 x4 u.1 (nI i) u.2) (fun i u => u.1 = oI1 (FB (fun b => slW (WAYS (REm C (nI b)) (C 4) g)) (nI h) i) ∧ KE 9 1 g M u.2) E ((-1), M) ⟨rfl, KE_rf 9 1 g M⟩ ?_ ?_
  · intro k u hI
    obtain ⟨x5, D⟩ := u
    obtain ⟨i1, i2⟩ := hI
    dsimp only at i1 i2
    dsimp only
    unfold b_X10_fastOf_14
    rw [i2.1 0 (by omega) (by omega), f7, sh, show Int32.toNatClampNeg 1 = 1 from rfl]
    refine ⟨fun _ => ⟨v1, fun D2 e2 => ?_⟩, fun q => absurd (nI_le (Nat.le_refl E) (by omega)) q⟩
    have hfr : FRM g M D2 := by
      rw [e2]
      exact KE_back (by omega) (KE_up (by omega) i2 _) (by rw [up2_s]; exact e4)
    refine e_feedT hC.2.1 hG8 hg (hC.bg g hg) (MT_frm hF.mt hfr) (fun D3 hf3 hfed => ?_)
    have hpp := hp D3 (FRM_tr hfr hf3).all.mf (FND_frm hF (FRM_tr hfr hf3) hfed)
    rw [i1]
    cases hb : FB (fun b => slW (WAYS (REm C (nI b)) (C 4) g)) (nI h) E with
    | none =>
      rw [hb] at hpp
      exact ⟨fun _ => hpp, fun q => absurd rfl q⟩
    | some b =>
      have hbl := FB_lt hb
      rw [hb] at hpp
      unfold fsI at hpp
      dsimp only at hpp
      obtain ⟨k3, hk3, rfl⟩ := rg_of (u := 1) (by omega) h3
      refine ⟨fun q => absurd q (nI_ne_m1 (by omega)), fun _ => ⟨fun q => ?_, fun q => ?_⟩⟩
      · have z : k3 = 0 := by
          rcases (show k3 = 0 ∨ k3 = 1 by omega) with r | r
          · exact r
          · subst r; exact absurd rfl q
        subst z
        rw [if_pos (show nI 0 = 0 from rfl)] at hpp
        exact e_ones (v := b) (by omega) hpp
      · rw [if_neg (by rw [q]; decide)] at hpp
        exact hpp
  · intro k i u hi hI ih
    obtain ⟨x5, D⟩ := u
    obtain ⟨i1, i2⟩ := hI
    dsimp only at i1 i2
    dsimp only
    unfold b_X10_fastOf_14
    rw [i2.1 0 (by omega) (by omega), f7, sh, show Int32.toNatClampNeg 1 = 1 from rfl, nI_clamp (by omega)]
    refine ⟨fun q => absurd q (nI_ge hi (by omega)), fun _ => ⟨v1, fun D2 e2 => ?_⟩⟩
    have k2 : KE 9 1 g M D2 := by rw [e2]; exact KE_up (by omega) i2 _
    refine e_feedT (R := REm C (nI i)) (Gs := C 4) (ROK_em hC _) hG8 hg (hC.bg g hg) ⟨?_, ?_, ?_, fun a ha => ?_, fun a ha => ?_⟩ (fun D3 hf3 hfed => ?_)
    · rw [k2.1 0 (by omega) (by omega)]; exact f7
    · rw [k2.1 0 (by omega) (by omega)]; exact f9
    · rw [e2, up2_s]; unfold REm; rw [up2_s]
    · unfold REm
      rw [k2.1 7 (by omega) (by omega), k2.1 10 (by omega) (by omega), up2_c _ (by decide), up2_c _ (by decide), up2_c _ (by decide)]
      exact ⟨(ft a ha).1, (ft a ha).2.1, (ft a ha).2.2.2⟩
    · rw [k2.1 8 (by omega) (by omega)]; exact fg a ha
    · have k3 := KE_fr (by omega) k2 hf3
      have keep : FB (fun b => slW (WAYS (REm C (nI b)) (C 4) g)) (nI h) (i + 1) = FB (fun b => slW (WAYS (REm C (nI b)) (C 4) g)) (nI h) i → b_X10_fastOf_72 post (b_X10_fastOf_14 post k) (nI h) (nI g) x3 x4 x5 (nI i) D3 := by
        intro e
        unfold b_X10_fastOf_72 b_X10_fastOf_74
        intro y ey
        rw [ey, nI_1]
        exact ih (x5, D3) ⟨by rw [e]; exact i1, k3⟩
      have take : FB (fun b => slW (WAYS (REm C (nI b)) (C 4) g)) (nI h) (i + 1) = some i → b_X10_fastOf_67 post (b_X10_fastOf_14 post k) (nI h) (nI g) x3 x4 (nI i) D3 := by
        intro e
        unfold b_X10_fastOf_67 b_X10_fastOf_74
        intro y ey
        rw [ey, nI_1]
        exact ih (nI i, D3) ⟨by rw [e]; rfl, k3⟩
      rw [hfed.2.1]
      refine ⟨vg, fun q => keep ?_, fun q => ?_⟩
      · cases hb : FB (fun b => slW (WAYS (REm C (nI b)) (C 4) g)) (nI h) i with
        | none => rw [FB_n hb, if_neg q]
        | some b => rw [FB_s hb, if_neg (fun z => q z.1)]
      · rw [i1]
        cases hb : FB (fun b => slW (WAYS (REm C (nI b)) (C 4) g)) (nI h) i with
        | none => exact ⟨fun _ => take (by rw [FB_n hb, if_pos q]), fun z => absurd rfl z⟩
        | some b =>
          have hbl := FB_lt hb
          have pb := pop_le b
          have pi := pop_le i
          rw [hb] at i1
          refine ⟨fun z => absurd z (nI_ne_m1 (by omega)), fun _ => e_ones (v := i) (by omega) (e_ones (v := b) (by omega) ⟨fun q2 => ?_, fun q2 => take ?_⟩)⟩
          · have := (nI_leI (by omega) (by omega)).mp q2
            have kk := keep (by rw [FB_s hb, if_neg (fun z => absurd z.2 (by omega)), hb])
            rw [i1] at kk
            exact kk
          · rw [FB_s hb, if_pos ⟨q, Nat.lt_of_not_le (fun z => q2 (nI_le z (by omega)))⟩]
theorem p_fast {C : Nat → Mem} {L : MemL} {M : Mem} (hR : REL C M) (x1 x2 x3 : Int32) : wp_X9_fast C L x1 x2 x3 (fun r C' _ => wp_X10_fast M x1 x2 x3 (fun r' M' => r = r' ∧ REL C' M')) := by
  obtain ⟨N, G, hC⟩ := hR.cs
  have hN8 := hC.N8
  have hG8 := hC.1
  refine c_fast hC (fun C' hco => ?_)
  unfold wp_X10_fast b_X10_fast_0
  refine e_find2 hR hC (fun M' hf hF => ?_)
  have hR' := (hR.mf hf).core hco
  rw [e_isHouseM hN8 hF.1, bI_z]
  refine ⟨fun q => ⟨by rw [if_neg (fun z => q z.1)], hR'⟩, fun q => ?_⟩
  have h1 : HB N x1 := Classical.not_not.mp q
  rw [e_isGuestM hG8 hF.2.1, bI_z]
  refine ⟨fun q => ⟨by rw [if_neg (fun z => q z.2.1)], hR'⟩, fun q => ?_⟩
  have h2 : HB G x2 := Classical.not_not.mp q
  rw [e_isTwo, bI_z]
  refine ⟨fun q => ⟨by rw [if_neg (fun z => q z.2.2)], hR'⟩, fun q => ?_⟩
  have h3 : 0 ≤ x3 ∧ x3 ≤ 1 := Classical.not_not.mp q
  rw [if_pos ⟨h1, h2, h3⟩]
  obtain ⟨k, hk, rfl⟩ := HB_of h1 hN8
  obtain ⟨g, hg, rfl⟩ := HB_of h2 hG8
  rw [nI_clamp (by omega), nI_clamp (by omega)]
  exact m_fastOf hC hF hg h3 (fun M2 hf2 _ => ⟨rfl, hR'.mf hf2⟩)
-- soup
def SPd (s : Nat → Int32) (x : Int32) : Nat → Int32
  | 0 => (-1)
  | k + 1 => if s (9 - k) = x then nI (9 - k) else SPd s x k
theorem SPd_p {s : Nat → Int32} {x : Int32} {k : Nat} (h : s (9 - k) = x) : SPd s x (k + 1) = nI (9 - k) := by unfold SPd; rw [if_pos h]
theorem SPd_m {s : Nat → Int32} {x : Int32} {k : Nat} (h : ¬ s (9 - k) = x) : SPd s x (k + 1) = SPd s x k := by
  show (if s (9 - k) = x then nI (9 - k) else SPd s x k) = _
  rw [if_neg h]
def F_soup (C : Nat → Mem) (h g : Nat) : Int32 := SPd (fun v => slW (WAYS (RPo C h (nI v)) (C 4) g)) (nI h) 9
theorem c_soup {C : Nat → Mem} {L : MemL} {N G : Nat} (hC : CS C N G) {x1 x2 : Int32} {post : Int32 → (Nat → Mem) → MemL → Prop} (hp : ∀ C', CORE C C' → post (if HB N x1 ∧ HB G x2 then F_soup C x1.toNatClampNeg x2.toNatClampNeg else (-2)) C' L) : wp_X9_soup C L x1 x2 post := by
  have hN8 := hC.N8
  have hG8 := hC.1
  unfold wp_X9_soup b_X9_soup_0
  rw [e_isHouse hC.nH, bI_z]
  refine ⟨fun q => by have h := hp C (CORE_rf C); rw [if_neg (fun z => q z.1)] at h; exact h, fun q => ?_⟩
  have h1 : HB N x1 := Classical.not_not.mp q
  rw [e_isGuest hC.2.2.1, bI_z]
  refine ⟨fun q => ?_, fun q => by have h := hp C (CORE_rf C); rw [if_neg (fun z => q z.2)] at h; exact h⟩
  have h2 : HB G x2 := Classical.not_not.mp q
  rw [if_pos ⟨h1, h2⟩] at hp
  obtain ⟨h, hh, rfl⟩ := HB_of h1 hN8
  obtain ⟨g, hg, rfl⟩ := HB_of h2 hG8
  rw [nI_clamp (by omega), nI_clamp (by omega)] at hp
  unfold F_soup at hp
  have vh : vp_in (nI h) 8 := vp_in_nI (by omega) (by omega)
  refine e_takeFrom (fun m9 t4 t5 t6 ta C2 e2 => ?_)
  refine loop_0 (fun k i (D : Nat → Mem) => b_X9_soup_32 post k (nI h) (nI g) (nI (i + 1)) D L) (fun i D => SPd (fun v => slW (WAYS (RPo C h (nI v)) (C 4) g)) (nI h) 9 = SPd (fun v => slW (WAYS (RPo C h (nI v)) (C 4) g)) (nI h) (9 - i) ∧ CORE C D ∧ D 9 0 4 = nI N ∧ D 9 0 6 = C 3 0 6 ∧ ∀ a, a < N → D 9 1 a = C 3 1 a ∧ (a ≠ h → D 9 2 a = C 3 2 a) ∧ D 9 4 a = C 3 4 a) 9 C2 ⟨rfl, by rw [e2]; exact (CORE_rf C).up (by omega) _, ?_, ?_, ?_⟩ ?_ ?_
  · rw [e2, up3_s, t4]; exact hC.nH
  · rw [e2, up3_s, t6]
  · rw [e2, up3_s]
    exact fun a ha => ⟨(ta a (by omega)).1, fun _ => (ta a (by omega)).2.1, (ta a (by omega)).2.2.2⟩
  · intro k D hI
    obtain ⟨i1, i2, -⟩ := hI
    unfold b_X9_soup_32
    have h := hp D i2
    rw [i1] at h
    exact ⟨fun _ => h, fun q => absurd (show (9 : Int32) < nI 10 by decide) q⟩
  · intro k i D hi hI ih
    obtain ⟨i1, i2, i3, i4, i5⟩ := hI
    unfold b_X9_soup_32
    rw [nI_clamp (by omega)]
    refine ⟨fun q => absurd q (nI_nlt (b := i + 1) (a := 9) (by omega) (by omega)), fun _ => ⟨vh, fun D4 e4 => ?_⟩⟩
    have d49 : D4 9 = up2 (D 9) 2 h (nI (i + 1)) := by rw [e4, up3_s]
    have hRP := ROK_po (h := h) hC (nI (i + 1))
    have hre : RE N (D4 9) (RPo C h (nI (i + 1))) := by
      rw [d49]
      unfold RPo
      refine ⟨?_, ?_, fun a ha => ⟨?_, ?_, ?_⟩⟩
      · rw [up2_c _ (by decide), up2_c _ (by decide), i3, hC.nH]
      · rw [up2_c _ (by decide), up2_c _ (by decide), i4]
      · rw [up2_c _ (by decide), up2_c _ (by decide)]; exact (i5 a ha).1
      · by_cases e : a = h
        · rw [e, up2_s, up2_s]
        · rw [up2_i _ e, up2_i _ e]; exact (i5 a ha).2.1 e
      · rw [up2_c _ (by decide), up2_c _ (by decide)]; exact (i5 a ha).2.2
    have d4c : CORE C D4 := by rw [e4]; exact i2.up (by omega) _
    refine e_go (ROK_re hRP hre) (by omega) (fun w hw D6 e6 => ?_)
    have d6c : CORE C D6 := by rw [e6]; exact d4c.up (by omega) _
    have d610 : D6 10 0 1 = slW (WAYS (RPo C h (nI (i + 1))) (C 4) g) := by
      rw [e6, up3_s, hw.2.2.2.1, ← WAYS_re hRP hre]
      rw [d4c 4 (by omega)]
      rfl
    have d69 : D6 9 = up2 (D 9) 2 h (nI (i + 1)) := by rw [e6, up3_n _ (by decide)]; exact d49
    rw [d610]
    have e9 : 9 - i = (8 - i) + 1 := by omega
    have e8 : 9 - (8 - i) = i + 1 := by omega
    refine ⟨fun q y ey => ?_, fun q => ?_⟩
    · rw [ey, nI_1]
      refine ih D6 ⟨?_, d6c, ?_, ?_, fun a ha => ?_⟩
      · rw [i1, e9, SPd_m (by rw [e8]; exact q)]
        congr 1
        omega
      · rw [d69, up2_c _ (by decide)]; exact i3
      · rw [d69, up2_c _ (by decide)]; exact i4
      · rw [d69, up2_c _ (by decide), up2_c _ (show (4 : Nat) ≠ 2 by decide)]
        exact ⟨(i5 a ha).1, fun e => by rw [up2_i _ e]; exact (i5 a ha).2.1 e, (i5 a ha).2.2⟩
    · have h := hp D6 d6c
      rw [i1, e9, SPd_p (by rw [e8]; exact q), e8] at h
      exact h
theorem m_soupOf {C : Nat → Mem} {M : Mem} {N G h g : Nat} (hC : CS C N G) (hF : FND C N G M) (hh : h < N) (hg : g < G) {post : Int32 → Mem → Prop} (hp : ∀ M', MF M M' → FND C N G M' → post (F_soup C h g) M') : wp_X10_soupOf M (nI h) (nI g) post := by
  have hN8 := hC.N8
  have hG8 := hC.1
  obtain ⟨f7, f9, ft, fg, fw, f0, f6⟩ := id hF
  have vg : vp_in (nI g) 8 := vp_in_nI (by omega) (by omega)
  have e3 : 3 * nI h + 1 = nI (3 * h + 1) := by rw [show (3 : Int32) = nI 3 from rfl, pk_mul, nI_1]
  have v3 : vp_in (nI (3 * h + 1)) 24 := vp_in_nI (by omega) (by omega)
  unfold wp_X10_soupOf b_X10_soupOf_0
  rw [e3, nI_clamp (by omega)]
  refine ⟨v3, fun x3 ex3 => ?_⟩
  unfold F_soup at hp
  refine loop_0 (fun k i (u : Int32 × Mem) => b_X10_soupOf_18 post k (nI h) (nI g) x3 u.1 (nI (9 - i)) u.2) (fun i u => u.1 = SPd (fun v => slW (WAYS (RPo C h (nI v)) (C 4) g)) (nI h) i ∧ KE 7 (3 * h + 1) g M u.2) 9 ((-1), M) ⟨rfl, KE_rf _ _ g M⟩ ?_ ?_
  · intro k u hI
    obtain ⟨x5, D⟩ := u
    obtain ⟨i1, i2⟩ := hI
    dsimp only at i1 i2
    dsimp only
    unfold b_X10_soupOf_18
    rw [e3, nI_clamp (by omega)]
    refine ⟨fun _ => ⟨v3, fun D2 e2 => ?_⟩, fun q => absurd (show nI (9 - 9) ≤ 0 by decide) q⟩
    have hfr : FRM g M D2 := by
      rw [e2]
      exact KE_back (by omega) (KE_up (by omega) i2 _) (by rw [up2_s]; exact ex3)
    refine e_feedT hC.2.1 hG8 hg (hC.bg g hg) (MT_frm hF.mt hfr) (fun D3 hf3 hfed => ?_)
    rw [i1]
    exact hp D3 (FRM_tr hfr hf3).all.mf (FND_frm hF (FRM_tr hfr hf3) hfed)
  · intro k i u hi hI ih
    obtain ⟨x5, D⟩ := u
    obtain ⟨i1, i2⟩ := hI
    dsimp only at i1 i2
    dsimp only
    unfold b_X10_soupOf_18
    rw [e3, nI_clamp (by omega), nI_clamp (by omega)]
    refine ⟨fun q => absurd q (fun z => absurd ((nI_leI (b := 0) (by omega) (by omega)).mp z) (by omega)), fun _ => ⟨v3, fun D2 e2 => ?_⟩⟩
    have k2 : KE 7 (3 * h + 1) g M D2 := by rw [e2]; exact KE_up (by omega) i2 _
    refine e_feedT (R := RPo C h (nI (9 - i))) (Gs := C 4) (ROK_po hC _) hG8 hg (hC.bg g hg) ⟨?_, ?_, ?_, fun a ha => ?_, fun a ha => ?_⟩ (fun D3 hf3 hfed => ⟨vg, fun v ev y ey => ?_⟩)
    · rw [k2.1 0 (by omega) (by omega)]; exact f7
    · rw [k2.1 0 (by omega) (by omega)]; exact f9
    · unfold RPo; rw [k2.1 9 (by omega) (by omega), up2_c _ (by decide)]; exact f6
    · unfold RPo
      rw [k2.1 10 (by omega) (by omega), up2_c _ (show (1 : Nat) ≠ 2 by decide), up2_c _ (show (4 : Nat) ≠ 2 by decide)]
      refine ⟨by rw [k2.2.1 _ (by omega)]; exact (ft a ha).1, ?_, (ft a ha).2.2.2⟩
      by_cases e : a = h
      · rw [e, e2, up2_s, up2_s]
      · rw [k2.2.1 _ (by omega), up2_i _ e]; exact (ft a ha).2.1
    · rw [k2.1 8 (by omega) (by omega)]; exact fg a ha
    · have k3 := KE_fr (by omega) k2 hf3
      have ey' : y = nI (9 - (i + 1)) := by
        rw [ey, ← nI_m1', show (1 : Int32) = nI 1 from rfl, pk_sub (by omega)]
        congr 1
      rw [ey']
      refine ih (v, D3) ⟨?_, k3⟩
      dsimp only
      rw [ev, hfed.2.1, i1]
      rfl
theorem p_soup {C : Nat → Mem} {L : MemL} {M : Mem} (hR : REL C M) (x1 x2 : Int32) : wp_X9_soup C L x1 x2 (fun r C' _ => wp_X10_soup M x1 x2 (fun r' M' => r = r' ∧ REL C' M')) := by
  obtain ⟨N, G, hC⟩ := hR.cs
  have hN8 := hC.N8
  have hG8 := hC.1
  refine c_soup hC (fun C' hco => ?_)
  unfold wp_X10_soup b_X10_soup_0
  refine e_find2 hR hC (fun M' hf hF => ?_)
  have hR' := (hR.mf hf).core hco
  rw [e_isHouseM hN8 hF.1, bI_z]
  refine ⟨fun q => ⟨by rw [if_neg (fun z => q z.1)], hR'⟩, fun q => ?_⟩
  have h1 : HB N x1 := Classical.not_not.mp q
  rw [e_isGuestM hG8 hF.2.1, bI_z]
  refine ⟨fun q => ⟨by rw [if_neg (fun z => q z.2)], hR'⟩, fun q => ?_⟩
  have h2 : HB G x2 := Classical.not_not.mp q
  rw [if_pos ⟨h1, h2⟩]
  obtain ⟨k, hk, rfl⟩ := HB_of h1 hN8
  obtain ⟨g, hg, rfl⟩ := HB_of h2 hG8
  rw [nI_clamp (by omega), nI_clamp (by omega)]
  exact m_soupOf hC hF hk hg (fun M2 hf2 _ => ⟨rfl, hR'.mf hf2⟩)
