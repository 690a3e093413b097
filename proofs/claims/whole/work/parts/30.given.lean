-- gives, fed, all, price, poor, passed
theorem CS.N8 {C : Nat → Mem} {N G : Nat} (h : CS C N G) : N ≤ 8 := h.2.1.1
theorem CS.nH {C : Nat → Mem} {N G : Nat} (h : CS C N G) : C 3 0 4 = nI N := h.2.1.2.1
theorem CS.fg {C : Nat → Mem} {N G g : Nat} (h : CS C N G) (hg : g < G) : FG (WAYS (C 3) (C 4) g) g (C 5) := h.2.2.2.1.1 g hg
theorem REL.cs {C : Nat → Mem} {M : Mem} (h : REL C M) : ∃ N G, CS C N G := by
  obtain ⟨n0, n1, hI, -⟩ := h
  exact ⟨_, _, hI.cs⟩
theorem CS_uniq {C : Nat → Mem} {N G N' G' : Nat} (h : CS C N G) (h' : CS C N' G') : N = N' ∧ G = G' := by
  have a := h.N8
  have b := h'.N8
  have c := h.1
  have d := h'.1
  exact ⟨(nI_eq (by omega) (by omega)).mp (h.nH.symm.trans h'.nH), (nI_eq (by omega) (by omega)).mp (h.2.2.1.symm.trans h'.2.2.1)⟩
theorem e_find2 {C : Nat → Mem} {M : Mem} {N G : Nat} (hR : REL C M) (hC : CS C N G) {post : Mem → Prop} (h : ∀ M', MF M M' → FND C N G M' → post M') : wp_X10_find M post :=
  e_find hR (fun N' G' M' hC' hf hF => by
    obtain ⟨rfl, rfl⟩ := CS_uniq hC hC'
    exact h M' hf hF)
theorem e_gaveTo {C : Nat → Mem} {N G g h : Nat} (hC : CS C N G) (hg : g < G) (hh : h < 8) {post : Int32 → Prop} (hp : post (gvW (WAYS (C 3) (C 4) g) h)) : wp_X1_gaveTo (C 5) (nI g) (nI h) post := by
  have hG8 := hC.1
  unfold wp_X1_gaveTo b_X1_gaveTo_0
  rw [show (8 : Int32) = nI 8 from rfl, pk_mul, nI_add, nI_clamp (by omega), Nat.mul_comm, (hC.fg hg).1 h hh]
  exact ⟨vp_in_nI (by omega) (by omega), hp⟩
def F_gives (C : Nat → Mem) (N G : Nat) (x1 x2 : Int32) : Int32 := if HB G x1 ∧ HB N x2 then gvW (WAYS (C 3) (C 4) x1.toNatClampNeg) x2.toNatClampNeg else (-2)
theorem c_gives {C : Nat → Mem} {L : MemL} {N G : Nat} (hC : CS C N G) {x1 x2 : Int32} {post : Int32 → Prop} (h : post (F_gives C N G x1 x2)) : wp_X9_gives C L x1 x2 post := by
  have hN8 := hC.N8
  have hG8 := hC.1
  unfold wp_X9_gives b_X9_gives_0
  rw [e_isGuest hC.2.2.1, bI_z]
  unfold F_gives at h
  refine ⟨fun q => by rw [if_neg (fun z => q z.1)] at h; exact h, fun q => ?_⟩
  have h1 : HB G x1 := Classical.not_not.mp q
  rw [e_isHouse hC.nH, bI_z]
  refine ⟨fun q => by rw [if_neg (fun z => q z.2)] at h; exact h, fun q => ?_⟩
  have h2 : HB N x2 := Classical.not_not.mp q
  rw [if_pos ⟨h1, h2⟩] at h
  obtain ⟨g, hg, rfl⟩ := HB_of h1 hG8
  obtain ⟨k, hk, rfl⟩ := HB_of h2 hN8
  rw [nI_clamp (by omega), nI_clamp (by omega)] at h
  exact e_gaveTo hC hg (by omega) h
theorem p_gives {C : Nat → Mem} {L : MemL} {M : Mem} (hR : REL C M) (x1 x2 : Int32) : wp_X9_gives C L x1 x2 (fun r => wp_X10_gives M x1 x2 (fun r' M' => r = r' ∧ REL C M')) := by
  obtain ⟨N, G, hC⟩ := hR.cs
  have hN8 := hC.N8
  have hG8 := hC.1
  refine c_gives hC ?_
  unfold wp_X10_gives b_X10_gives_0
  refine e_find2 hR hC (fun M' hf hF => ?_)
  have hR' := hR.mf hf
  rw [e_isGuestM hG8 hF.2.1, bI_z]
  unfold F_gives
  refine ⟨fun q => ⟨by rw [if_neg (fun z => q z.1)], hR'⟩, fun q => ?_⟩
  have h1 : HB G x1 := Classical.not_not.mp q
  rw [e_isHouseM hN8 hF.1, bI_z]
  refine ⟨fun q => ⟨by rw [if_neg (fun z => q z.2)], hR'⟩, fun q => ?_⟩
  have h2 : HB N x2 := Classical.not_not.mp q
  rw [if_pos ⟨h1, h2⟩]
  obtain ⟨g, hg, rfl⟩ := HB_of h1 hG8
  obtain ⟨k, hk, rfl⟩ := HB_of h2 hN8
  rw [show (8 : Int32) = nI 8 from rfl, pk_mul, nI_add, nI_clamp (by omega), nI_clamp (by omega), nI_clamp (by omega)]
  exact ⟨vp_in_nI (by omega) (by omega), ((hF.2.2.2.2.1 g hg).1 k (by omega)).symm, hR'⟩
def F_fedk (w : WS) (k : Nat) : Int32 := if k = 0 then slW w else if k = 1 then lfW w else if k = 2 then rfW w else drW w
def F_fed (C : Nat → Mem) (G : Nat) (x1 x2 : Int32) : Int32 := if HB G x1 ∧ (0 ≤ x2 ∧ x2 ≤ 3) then F_fedk (WAYS (C 3) (C 4) x1.toNatClampNeg) x2.toNatClampNeg else (-2)
theorem c_fed {C : Nat → Mem} {L : MemL} {N G : Nat} (hC : CS C N G) {x1 x2 : Int32} {post : Int32 → Prop} (h : post (F_fed C G x1 x2)) : wp_X9_fed C L x1 x2 post := by
  have hG8 := hC.1
  unfold wp_X9_fed b_X9_fed_0
  rw [e_isGuest hC.2.2.1, bI_z]
  unfold F_fed at h
  refine ⟨fun q => by rw [if_neg (fun z => q z.1)] at h; exact h, fun q => ?_⟩
  have hh : HB G x1 := Classical.not_not.mp q
  obtain ⟨j, hj, rfl⟩ := HB_of hh hG8
  have vj : vp_in (nI j) 8 := vp_in_nI (by omega) (by omega)
  obtain ⟨-, f1, f2, f3, f4⟩ := hC.fg hj
  by_cases h2 : 0 ≤ x2 ∧ x2 ≤ 3
  · rw [if_pos ⟨hh, h2⟩, nI_clamp (by omega)] at h
    refine ⟨fun q => absurd q (rg_nlt h2), fun _ => ⟨fun _ => ?_, fun q => absurd h2.2 q⟩⟩
    rw [nI_clamp (by omega), f1, f2, f3, f4]
    obtain ⟨k, hk, rfl⟩ := rg_of (u := 3) (by omega) h2
    rcases (show k = 0 ∨ k = 1 ∨ k = 2 ∨ k = 3 by omega) with rfl | rfl | rfl | rfl
    · exact ⟨fun _ => ⟨vj, h⟩, fun q => absurd rfl q⟩
    · exact ⟨fun q => absurd q (by decide), fun _ => ⟨fun _ => ⟨vj, h⟩, fun q => absurd rfl q⟩⟩
    · exact ⟨fun q => absurd q (by decide), fun _ => ⟨fun q => absurd q (by decide), fun _ => ⟨fun _ => ⟨vj, h⟩, fun q => absurd rfl q⟩⟩⟩
    · exact ⟨fun q => absurd q (by decide), fun _ => ⟨fun q => absurd q (by decide), fun _ => ⟨fun q => absurd q (by decide), fun _ => ⟨vj, h⟩⟩⟩⟩
  · rw [if_neg (fun z => h2 z.2)] at h
    rcases rg_not h2 with q | q
    · exact ⟨fun _ => h, fun z => absurd q z⟩
    · exact ⟨fun _ => h, fun _ => ⟨fun z => absurd z q, fun _ => h⟩⟩
theorem m_fedBy {C : Nat → Mem} {M : Mem} {N G g k : Nat} (hC : CS C N G) (hF : FND C N G M) (hg : g < G) (hk : k ≤ 3) {post : Int32 → Prop} (h : post (F_fedk (WAYS (C 3) (C 4) g) k)) : wp_X10_fedBy M (nI g) (nI k) post := by
  have hG8 := hC.1
  obtain ⟨-, f1, f2, f3, f4⟩ := hF.2.2.2.2.1 g hg
  have vj : vp_in (nI g) 8 := vp_in_nI (by omega) (by omega)
  unfold wp_X10_fedBy b_X10_fedBy_0
  rw [nI_clamp (by omega), f1, f2, f3, f4]
  rcases (show k = 0 ∨ k = 1 ∨ k = 2 ∨ k = 3 by omega) with rfl | rfl | rfl | rfl
  · exact ⟨fun _ => ⟨vj, h⟩, fun q => absurd rfl q⟩
  · exact ⟨fun q => absurd q (by decide), fun _ => ⟨fun _ => ⟨vj, h⟩, fun q => absurd rfl q⟩⟩
  · exact ⟨fun q => absurd q (by decide), fun _ => ⟨fun q => absurd q (by decide), fun _ => ⟨fun _ => ⟨vj, h⟩, fun q => absurd rfl q⟩⟩⟩
  · refine ⟨fun q => absurd q (by decide), fun _ => ⟨fun q => absurd q (by decide), fun _ => ⟨fun q => absurd q (by decide), fun _ => ⟨vj, ?_⟩⟩⟩⟩
    obtain ⟨v, hv, e1, e2⟩ := WAYS_pop hC g
    rw [show vsW (WAYS (C 3) (C 4) g) = nI v from e1]
    refine e_ones hv ?_
    rw [← e2]
    exact h
theorem p_fed {C : Nat → Mem} {L : MemL} {M : Mem} (hR : REL C M) (x1 x2 : Int32) : wp_X9_fed C L x1 x2 (fun r => wp_X10_fed M x1 x2 (fun r' M' => r = r' ∧ REL C M')) := by
  obtain ⟨N, G, hC⟩ := hR.cs
  have hG8 := hC.1
  refine c_fed hC ?_
  unfold wp_X10_fed b_X10_fed_0
  refine e_find2 hR hC (fun M' hf hF => ?_)
  have hR' := hR.mf hf
  rw [e_isGuestM hG8 hF.2.1, bI_z]
  unfold F_fed
  refine ⟨fun q => ⟨by rw [if_neg (fun z => q z.1)], hR'⟩, fun q => ?_⟩
  have h1 : HB G x1 := Classical.not_not.mp q
  rw [e_in (a := 0) (b := 3) x2 0 3 _ rfl rfl, bI_z]
  refine ⟨fun q => ⟨by rw [if_neg (fun z => q z.2)], hR'⟩, fun q => ?_⟩
  have h2 : 0 ≤ x2 ∧ x2 ≤ 3 := Classical.not_not.mp q
  rw [if_pos ⟨h1, h2⟩]
  obtain ⟨g, hg, rfl⟩ := HB_of h1 hG8
  obtain ⟨k, hk, rfl⟩ := rg_of (u := 3) (by omega) h2
  rw [nI_clamp (by omega), nI_clamp (by omega)]
  exact m_fedBy hC hF hg hk ⟨rfl, hR'⟩
def F_all (C : Nat → Mem) (N : Nat) (x1 x2 : Int32) : Int32 := if HB N x1 ∧ (0 ≤ x2 ∧ x2 ≤ 1) then (if x2 = 0 then C 5 6 x1.toNatClampNeg else C 5 7 x1.toNatClampNeg) else (-2)
theorem c_all {C : Nat → Mem} {L : MemL} {N G : Nat} (hC : CS C N G) {x1 x2 : Int32} {post : Int32 → Prop} (h : post (F_all C N x1 x2)) : wp_X9_all C L x1 x2 post := by
  have hN8 := hC.N8
  unfold wp_X9_all b_X9_all_0
  rw [e_isHouse hC.nH, bI_z]
  unfold F_all at h
  refine ⟨fun q => by rw [if_neg (fun z => q z.1)] at h; exact h, fun q => ?_⟩
  have h1 : HB N x1 := Classical.not_not.mp q
  rw [e_isBit, bI_z]
  refine ⟨fun q => ?_, fun q => by rw [if_neg (fun z => q z.2)] at h; exact h⟩
  rw [if_pos ⟨h1, Classical.not_not.mp q⟩] at h
  obtain ⟨k, hk, rfl⟩ := HB_of h1 hN8
  have vk : vp_in (nI k) 8 := vp_in_nI (by omega) (by omega)
  exact ⟨fun q => ⟨vk, by rw [if_neg q] at h; exact h⟩, fun q => ⟨vk, by rw [if_pos q] at h; exact h⟩⟩
theorem p_all {C : Nat → Mem} {L : MemL} {M : Mem} (hR : REL C M) (x1 x2 : Int32) : wp_X9_all C L x1 x2 (fun r => wp_X10_all M x1 x2 (fun r' M' => r = r' ∧ REL C M')) := by
  obtain ⟨N, G, hC⟩ := hR.cs
  have hN8 := hC.N8
  refine c_all hC ?_
  unfold wp_X10_all b_X10_all_0
  refine e_find2 hR hC (fun M' hf hF => ?_)
  have hR' := hR.mf hf
  rw [e_isHouseM hN8 hF.1, bI_z]
  unfold F_all
  refine ⟨fun q => ⟨by rw [if_neg (fun z => q z.1)], hR'⟩, fun q => ?_⟩
  have h1 : HB N x1 := Classical.not_not.mp q
  rw [e_isTwo, bI_z]
  refine ⟨fun q => ⟨by rw [if_neg (fun z => q z.2)], hR'⟩, fun q => ?_⟩
  rw [if_pos ⟨h1, Classical.not_not.mp q⟩]
  obtain ⟨k, hk, rfl⟩ := HB_of h1 hN8
  rw [nI_clamp (by omega)]
  exact e_all hC hF (by omega) ⟨rfl, hR'⟩
def F_price (C : Nat → Mem) (N : Nat) (x1 : Int32) : Int32 := if HB N x1 then (C 3 3 x1.toNatClampNeg + 3 * C 5 7 x1.toNatClampNeg) - C 5 6 x1.toNatClampNeg else (-10002)
theorem c_price {C : Nat → Mem} {L : MemL} {N G : Nat} (hC : CS C N G) {x1 : Int32} {post : Int32 → Prop} (h : post (F_price C N x1)) : wp_X9_price C L x1 post := by
  have hN8 := hC.N8
  unfold wp_X9_price b_X9_price_0
  rw [e_isHouse hC.nH, bI_z]
  unfold F_price at h
  refine ⟨fun q => ?_, fun q => by rw [if_neg q] at h; exact h⟩
  have h1 : HB N x1 := Classical.not_not.mp q
  rw [if_pos h1] at h
  obtain ⟨k, hk, rfl⟩ := HB_of h1 hN8
  have vk : vp_in (nI k) 8 := vp_in_nI (by omega) (by omega)
  exact ⟨vk, vk, vk, h⟩
theorem m_priceOf {C : Nat → Mem} {M : Mem} {N G h : Nat} (hC : CS C N G) (hF : FND C N G M) (hh : h < N) {post : Int32 → Prop} (hp : post ((C 3 3 h + 3 * C 5 7 h) - C 5 6 h)) : wp_X10_priceOf M (nI h) post := by
  have hN8 := hC.N8
  unfold wp_X10_priceOf b_X10_priceOf_0
  rw [show (3 : Int32) = nI 3 from rfl, pk_mul, show (2 : Int32) = nI 2 from rfl, nI_add, nI_clamp (by omega)]
  refine ⟨vp_in_nI (by omega) (by omega), e_all hC hF (by omega) (e_all hC hF (by omega) ?_)⟩
  rw [if_neg (by decide), if_pos rfl, (hF.2.2.1 h hh).2.2.1]
  exact hp
theorem p_price {C : Nat → Mem} {L : MemL} {M : Mem} (hR : REL C M) (x1 : Int32) : wp_X9_price C L x1 (fun r => wp_X10_price M x1 (fun r' M' => r = r' ∧ REL C M')) := by
  obtain ⟨N, G, hC⟩ := hR.cs
  have hN8 := hC.N8
  refine c_price hC ?_
  unfold wp_X10_price b_X10_price_0
  refine e_find2 hR hC (fun M' hf hF => ?_)
  have hR' := hR.mf hf
  rw [e_isHouseM hN8 hF.1, bI_z]
  unfold F_price
  refine ⟨fun q => ⟨by rw [if_neg q], hR'⟩, fun q => ?_⟩
  have h1 : HB N x1 := Classical.not_not.mp q
  rw [if_pos h1]
  obtain ⟨k, hk, rfl⟩ := HB_of h1 hN8
  rw [nI_clamp (by omega)]
  exact m_priceOf hC hF hk ⟨rfl, hR'⟩
theorem tot_rng {C : Nat → Mem} {N G h : Nat} (hC : CS C N G) (hh : h < 8) : ∃ a, a ≤ 88 ∧ C 5 6 h = nI a := by
  have hG8 := hC.1
  rw [(hC.2.2.2.1.2.2 h hh).1]
  obtain ⟨s, hs, e⟩ := sI_rng (c := 11) (by omega) (n := G) (by omega) (fun k hk => (WAYS_rng hC hk).2 h)
  exact ⟨s, by omega, e⟩
/-- the first house that gives most -/
def PO (f : Nat → Int32) : Nat → Option Nat
  | 0 => none
  | k + 1 => match PO f k with
    | none => some k
    | some b => if f k ≤ f b then some b else some k
def oI1 (o : Option Nat) : Int32 := match o with
  | none => (-1)
  | some b => nI b
def oF1 (f : Nat → Int32) (o : Option Nat) : Int32 := match o with
  | none => (-1)
  | some b => f b
theorem PO_n {f : Nat → Int32} {k : Nat} (h : PO f k = none) : PO f (k + 1) = some k := by
  show (match PO f k with | none => some k | some b => if f k ≤ f b then some b else some k) = some k
  rw [h]
theorem PO_s {f : Nat → Int32} {k b : Nat} (h : PO f k = some b) : PO f (k + 1) = if f k ≤ f b then some b else some k := by
  show (match PO f k with | none => some k | some b => if f k ≤ f b then some b else some k) = _
  rw [h]
theorem PO_lt {f : Nat → Int32} : ∀ {k b : Nat}, PO f k = some b → b < k
  | 0, b, h => by simp [PO] at h
  | k + 1, b, h => by
    cases hc : PO f k with
    | none =>
      rw [PO_n hc] at h
      cases h; omega
    | some c =>
      rw [PO_s hc] at h
      have := PO_lt hc
      split at h <;> cases h <;> omega
theorem c_poor {C : Nat → Mem} {L : MemL} {N G : Nat} (hC : CS C N G) {post : Int32 → Prop} (h : post (oI1 (PO (fun a => C 5 6 a) N))) : wp_X9_poor C L post := by
  have hN8 := hC.N8
  unfold wp_X9_poor b_X9_poor_0
  refine loop_0 (fun k i (s : Int32 × Int32) => b_X9_poor_6 C L post k s.1 s.2 (nI i)) (fun i s => s.1 = oI1 (PO (fun a => C 5 6 a) i) ∧ s.2 = oF1 (fun a => C 5 6 a) (PO (fun a => C 5 6 a) i)) N ((-1), (-1)) ⟨rfl, rfl⟩ ?_ ?_
  · intro k s hs
    unfold b_X9_poor_6
    rw [hC.nH, hs.1]
    exact ⟨fun _ => h, fun q => absurd (nI_le (Nat.le_refl N) (by omega)) q⟩
  · intro k i s hi hs ih
    obtain ⟨s1, s2⟩ := s
    obtain ⟨e1, e2⟩ := hs
    dsimp only at e1 e2
    dsimp only
    unfold b_X9_poor_6
    rw [hC.nH]
    have vi : vp_in (nI i) 8 := vp_in_nI (by omega) (by omega)
    refine ⟨fun q => absurd q (nI_ge hi (by omega)), fun _ => ⟨vi, ?_⟩⟩
    rw [nI_clamp (by omega)]
    obtain ⟨a, ha, ea⟩ := tot_rng hC (h := i) (by omega)
    have ih' : ∀ s' t' : Int32, s' = oI1 (PO (fun a => C 5 6 a) (i + 1)) → t' = oF1 (fun a => C 5 6 a) (PO (fun a => C 5 6 a) (i + 1)) → ∀ y : Int32, y = nI i + 1 → b_X9_poor_6 C L post k s' t' y := fun s' t' hs' ht' y ey => by
      rw [ey, nI_1]
      exact ih (s', t') ⟨hs', ht'⟩
    cases hb : PO (fun a => C 5 6 a) i with
    | none =>
      rw [hb] at e1 e2
      rw [PO_n hb] at ih'
      refine ⟨fun q => ?_, fun q => ⟨vi, fun y ey => ?_⟩⟩
      · rw [e2, ea] at q
        exact absurd q (by show ¬ nI a ≤ (-1); rw [i_le, nI_toInt (by omega)]; have : (-1 : Int32).toInt = -1 := rfl; omega)
      · unfold b_X9_poor_42
        exact ih' _ _ rfl ey
    | some b =>
      rw [hb] at e1 e2
      rw [PO_s hb] at ih'
      refine ⟨fun q => ?_, fun q => ⟨vi, fun y ey => ?_⟩⟩
      · rw [if_pos (show C 5 6 i ≤ C 5 6 b by rw [e2] at q; exact q)] at ih'
        unfold b_X9_poor_42
        exact ih' _ _ e1 e2
      · rw [if_neg (show ¬ C 5 6 i ≤ C 5 6 b by rw [e2] at q; exact q)] at ih'
        unfold b_X9_poor_42
        exact ih' _ _ rfl ey
theorem m_poorNow {C : Nat → Mem} {M : Mem} {N G : Nat} (hC : CS C N G) (hF : FND C N G M) {post : Int32 → Prop} (h : post (oI1 (PO (fun a => C 5 6 a) N))) : wp_X10_poorNow M post := by
  have hN8 := hC.N8
  unfold wp_X10_poorNow b_X10_poorNow_0
  refine loop_0 (fun k i (s : Int32) => b_X10_poorNow_4 M post k s (nI i)) (fun i s => s = oI1 (PO (fun a => C 5 6 a) i)) N (-1) rfl ?_ ?_
  · intro k s hs
    unfold b_X10_poorNow_4
    rw [hF.1, hs]
    exact ⟨fun _ => h, fun q => absurd (nI_le (Nat.le_refl N) (by omega)) q⟩
  · intro k i s hi hs ih
    have ih' : ∀ s' : Int32, s' = oI1 (PO (fun a => C 5 6 a) (i + 1)) → ∀ y : Int32, y = nI i + 1 → b_X10_poorNow_4 M post k s' y := fun s' hs' y ey => by
      rw [ey, nI_1]
      exact ih s' hs'
    unfold b_X10_poorNow_4
    rw [hF.1]
    refine ⟨fun q => absurd q (nI_ge hi (by omega)), fun _ => ⟨fun q => ?_, fun q => ?_⟩⟩
    · unfold b_X10_poorNow_32 b_X10_poorNow_37
      refine ih' _ ?_
      rw [hs] at q
      cases hb : PO (fun a => C 5 6 a) i with
      | none => rw [PO_n hb]; rfl
      | some b =>
        rw [hb] at q
        have := PO_lt hb
        exact absurd q (nI_ne_m1 (by omega))
    · cases hb : PO (fun a => C 5 6 a) i with
      | none =>
        rw [hs, hb] at q
        exact absurd rfl q
      | some b =>
        have hbl := PO_lt hb
        have es : s = nI b := by rw [hs, hb]; rfl
        rw [es]
        rw [PO_s hb] at ih'
        refine e_all hC hF (by omega) (e_all hC hF (by omega) ?_)
        rw [if_pos rfl, if_pos rfl]
        refine ⟨fun q2 => ?_, fun q2 => ?_⟩
        · unfold b_X10_poorNow_37
          rw [if_pos q2] at ih'
          exact ih' _ rfl
        · unfold b_X10_poorNow_32 b_X10_poorNow_37
          rw [if_neg q2] at ih'
          exact ih' _ rfl
theorem p_poor {C : Nat → Mem} {L : MemL} {M : Mem} (hR : REL C M) : wp_X9_poor C L (fun r => wp_X10_poor M (fun r' M' => r = r' ∧ REL C M')) := by
  obtain ⟨N, G, hC⟩ := hR.cs
  refine c_poor hC ?_
  unfold wp_X10_poor b_X10_poor_0
  exact e_find2 hR hC (fun M' hf hF => m_poorNow hC hF ⟨rfl, hR.mf hf⟩)
theorem not_or (b a c : Int32) : (b &&& (a ^^^ (-1))) &&& (c ^^^ (-1)) = b &&& ((a ||| c) ^^^ (-1)) := by
  apply Int32.toBitVec_inj.mp
  simp only [Int32.toBitVec_and, Int32.toBitVec_xor, Int32.toBitVec_or]
  have e : (-1 : Int32).toBitVec = BitVec.allOnes 32 := by decide
  rw [e]
  ext i hi
  simp only [BitVec.getElem_and, BitVec.getElem_xor, BitVec.getElem_or, BitVec.getElem_allOnes]
  cases b.toBitVec[i] <;> cases a.toBitVec[i] <;> cases c.toBitVec[i] <;> rfl
theorem and_m1 (b : Int32) : b &&& (0 ^^^ (-1)) = b := by
  apply Int32.toBitVec_inj.mp
  simp only [Int32.toBitVec_and, Int32.toBitVec_xor]
  have e : (-1 : Int32).toBitVec = BitVec.allOnes 32 := by decide
  have e0 : (0 : Int32).toBitVec = 0#32 := rfl
  rw [e, e0]
  ext i hi
  simp only [BitVec.getElem_and, BitVec.getElem_xor, BitVec.getElem_allOnes, BitVec.getElem_zero]
  cases b.toBitVec[i] <;> rfl
def F_passed (C : Nat → Mem) : Int32 := ((1 <<< (C 3 0 4 &&& 31)) - 1) &&& (C 5 0 7 ^^^ (-1))
theorem m_passedNow {C : Nat → Mem} {M : Mem} {N G : Nat} (hC : CS C N G) (hF : FND C N G M) {post : Int32 → Prop} (h : post (F_passed C)) : wp_X10_passedNow M post := by
  have hG8 := hC.1
  unfold wp_X10_passedNow b_X10_passedNow_0
  intro x1 e1
  rw [hF.1, ← hC.nH] at e1
  unfold F_passed at h
  rw [← e1, hC.2.2.2.1.2.1] at h
  refine loop_0 (fun k i (s : Int32) => b_X10_passedNow_11 M post k s (nI i)) (fun i s => s = x1 &&& (oI (fun g => vsW (WAYS (C 3) (C 4) g)) i ^^^ (-1))) G x1 (and_m1 x1).symm ?_ ?_
  · intro k s hs
    unfold b_X10_passedNow_11
    rw [hF.2.1, hs]
    exact ⟨fun _ => h, fun q => absurd (nI_le (Nat.le_refl G) (by omega)) q⟩
  · intro k i s hi hs ih
    unfold b_X10_passedNow_11
    rw [hF.2.1]
    refine ⟨fun q => absurd q (nI_ge hi (by omega)), fun _ => ⟨vp_in_nI (by omega) (by omega), fun y ey z ez => ?_⟩⟩
    rw [ez, nI_1]
    refine ih y ?_
    rw [ey, nI_clamp (by omega), (hF.2.2.2.2.1 i hi).2.2.2.2, hs, not_or]
    rfl
theorem p_passed {C : Nat → Mem} {L : MemL} {M : Mem} (hR : REL C M) : wp_X9_passed C L (fun r => wp_X10_passed M (fun r' M' => r = r' ∧ REL C M')) := by
  obtain ⟨N, G, hC⟩ := hR.cs
  unfold wp_X9_passed b_X9_passed_0 wp_X10_passed b_X10_passed_0
  exact e_find2 hR hC (fun M' hf hF => m_passedNow hC hF ⟨rfl, hR.mf hf⟩)
