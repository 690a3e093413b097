-- fault, house, guest, set, at
theorem p_fault {C : Nat → Mem} {L : MemL} {M : Mem} (hR : REL C M) (x1 : Int32) : wp_X9_fault C L x1 (fun r => wp_X10_fault M x1 (fun r' M' => r = r' ∧ REL C M')) := by
  unfold wp_X9_fault b_X9_fault_0
  rw [e_isBit, bI_z]
  obtain ⟨n0, n1, hI, ⟨t0, t1, t2, t3⟩, -, -, -, -⟩ := id hR
  obtain ⟨hT0, hT1, -, -, -⟩ := id hI
  refine ⟨fun q => ?_, fun q => ?_⟩
  · dsimp only
    unfold wp_X10_fault b_X10_fault_0
    rw [e_isTwo, bI_z]
    exact ⟨fun z => absurd q z, fun _ => ⟨rfl, hR⟩⟩
  · have hb : 0 ≤ x1 ∧ x1 ≤ 1 := Classical.not_not.mp q
    obtain ⟨t, ht, rfl⟩ := bit_nI hb
    unfold wp_X9_textOf b_X9_textOf_0
    rcases (show t = 0 ∨ t = 1 by omega) with rfl | rfl
    · refine ⟨fun q => absurd rfl q, fun _ => Or.inl ⟨rfl, e_firstFault hT0 ?_⟩⟩
      dsimp only
      unfold wp_X10_fault b_X10_fault_0
      rw [e_isTwo, bI_z]
      refine ⟨fun _ => ⟨fun q => absurd rfl q, fun _ => e_readsHouses t0 hT0.2.2.2.1 (fun M' _ hf => ⟨?_, hR.mf (hf.mf (by omega) (by omega))⟩)⟩, fun q => absurd hb q⟩
      exact (FLT_cong (fun j hj => by unfold okT; rw [t2 j hj])).symm
    · refine ⟨fun _ => Or.inr ⟨rfl, e_firstFault hT1 ?_⟩, fun q => absurd q (by decide)⟩
      dsimp only
      unfold wp_X10_fault b_X10_fault_0
      rw [e_isTwo, bI_z]
      exact ⟨fun _ => ⟨fun _ => e_readsGuests t3 t1 hT1.2.2.2.1 (fun M' _ hf => ⟨rfl, hR.mf (hf.mf (by omega) (by omega))⟩), fun q => absurd q (by decide)⟩, fun q => absurd hb q⟩
def F_house (C : Nat → Mem) (N : Nat) (x1 x2 : Int32) : Int32 := if HB N x1 ∧ (0 ≤ x2 ∧ x2 ≤ 2) then C 3 (x2.toNatClampNeg + 1) x1.toNatClampNeg else (-2)
theorem c_house {C : Nat → Mem} {L : MemL} {N : Nat} (hN8 : N ≤ 8) (hN : C 3 0 4 = nI N) {x1 x2 : Int32} {post : Int32 → Prop} (h : post (F_house C N x1 x2)) : wp_X9_house C L x1 x2 post := by
  unfold wp_X9_house b_X9_house_0
  rw [e_isHouse hN, bI_z]
  unfold F_house at h
  refine ⟨fun q => by rw [if_neg (fun z => q z.1)] at h; exact h, fun q => ?_⟩
  have hh : HB N x1 := Classical.not_not.mp q
  obtain ⟨j, hj, rfl⟩ := HB_of hh hN8
  have vj : vp_in (nI j) 8 := vp_in_nI (by omega) (by omega)
  by_cases h2 : 0 ≤ x2 ∧ x2 ≤ 2
  · rw [if_pos ⟨hh, h2⟩] at h
    refine ⟨fun q => absurd q (rg_nlt h2), fun _ => ⟨fun _ => ?_, fun q => absurd h2.2 q⟩⟩
    obtain ⟨k, hk, rfl⟩ := rg_of (u := 2) (by omega) h2
    rcases (show k = 0 ∨ k = 1 ∨ k = 2 by omega) with rfl | rfl | rfl
    · exact ⟨fun q => absurd rfl q, fun _ => ⟨vj, h⟩⟩
    · exact ⟨fun _ => ⟨fun q => absurd rfl q, fun _ => ⟨vj, h⟩⟩, fun q => absurd q (by decide)⟩
    · exact ⟨fun _ => ⟨fun _ => ⟨vj, h⟩, fun q => absurd q (by decide)⟩, fun q => absurd q (by decide)⟩
  · rw [if_neg (fun z => h2 z.2)] at h
    rcases rg_not h2 with q | q
    · exact ⟨fun _ => h, fun z => absurd q z⟩
    · exact ⟨fun _ => h, fun _ => ⟨fun z => absurd z q, fun _ => h⟩⟩
theorem p_house {C : Nat → Mem} {L : MemL} {M : Mem} (hR : REL C M) (x1 x2 : Int32) : wp_X9_house C L x1 x2 (fun r => wp_X10_house M x1 x2 (fun r' M' => r = r' ∧ REL C M')) := by
  obtain ⟨n0, n1, hI, ⟨t0, t1, t2, t3⟩, -, -, -, -⟩ := id hR
  obtain ⟨hT0, hT1, hRw, -, -⟩ := id hI
  have hN8 := NHb_le (b := C 1 1) hT0.2.2.2.1
  have hNe : NHb (M 5) n0 = NHb (C 1 1) n0 := NTH_cong (fun j hj => by unfold okT; rw [t2 j hj])
  refine c_house hN8 hRw.1 ?_
  unfold wp_X10_house b_X10_house_0
  refine e_readsHouses t0 hT0.2.2.2.1 (fun M' hv hf => ?_)
  have hR' := hR.mf (hf.mf (by omega) (by omega))
  rw [hNe] at hv
  rw [e_isHouseM hN8 hv.1, bI_z]
  unfold F_house
  refine ⟨fun q => ⟨by rw [if_neg (fun z => q z.1)], hR'⟩, fun q => ?_⟩
  have hh : HB (NHb (C 1 1) n0) x1 := Classical.not_not.mp q
  rw [e_in (a := 0) (b := 2) x2 0 2 _ rfl rfl, bI_z]
  refine ⟨fun q => ⟨by rw [if_neg (fun z => q z.2)], hR'⟩, fun q => ?_⟩
  have h2 : 0 ≤ x2 ∧ x2 ≤ 2 := Classical.not_not.mp q
  rw [if_pos ⟨hh, h2⟩]
  obtain ⟨j, hj, rfl⟩ := HB_of hh hN8
  obtain ⟨k, hkk, rfl⟩ := rg_of (u := 2) (by omega) h2
  rw [show (3 : Int32) = nI 3 from rfl, pk_mul, nI_add, nI_clamp (by omega), nI_clamp (by omega), nI_clamp (by omega)]
  refine ⟨vp_in_nI (by omega) (by omega), ?_, hR'⟩
  obtain ⟨r1, r2, r3, r4⟩ := hRw.2.2.2 j hj
  obtain ⟨q1, q2, q3⟩ := hv.2 j (by rw [hNe] at *; exact hj)
  have l3 := (NTH_lt (st := 4) hj (by omega)).1
  rcases (show k = 0 ∨ k = 1 ∨ k = 2 by omega) with rfl | rfl | rfl
  · show C 3 1 j = M' 7 (3 * j)
    rw [r1, q1]; unfold hk; rw [t2 _ (by omega)]
  · show C 3 2 j = M' 7 (3 * j + 1)
    rw [r2, q2]; unfold hp; rw [t2 _ (by omega)]
  · show C 3 3 j = M' 7 (3 * j + 2)
    rw [r3, q3]; unfold hc; rw [t2 _ (by omega)]
def F_guest (C : Nat → Mem) (G : Nat) (x1 x2 : Int32) : Int32 := if HB G x1 ∧ (0 ≤ x2 ∧ x2 ≤ 3) then C 4 (x2.toNatClampNeg + 1) x1.toNatClampNeg else (-2)
theorem c_guest {C : Nat → Mem} {L : MemL} {G : Nat} (hG8 : G ≤ 8) (hG : C 4 0 4 = nI G) {x1 x2 : Int32} {post : Int32 → Prop} (h : post (F_guest C G x1 x2)) : wp_X9_guest C L x1 x2 post := by
  unfold wp_X9_guest b_X9_guest_0
  rw [e_isGuest hG, bI_z]
  unfold F_guest at h
  refine ⟨fun q => by rw [if_neg (fun z => q z.1)] at h; exact h, fun q => ?_⟩
  have hh : HB G x1 := Classical.not_not.mp q
  obtain ⟨j, hj, rfl⟩ := HB_of hh hG8
  have vj : vp_in (nI j) 8 := vp_in_nI (by omega) (by omega)
  by_cases h2 : 0 ≤ x2 ∧ x2 ≤ 3
  · rw [if_pos ⟨hh, h2⟩] at h
    refine ⟨fun q => absurd q (rg_nlt h2), fun _ => ⟨fun _ => ?_, fun q => absurd h2.2 q⟩⟩
    obtain ⟨k, hk, rfl⟩ := rg_of (u := 3) (by omega) h2
    rcases (show k = 0 ∨ k = 1 ∨ k = 2 ∨ k = 3 by omega) with rfl | rfl | rfl | rfl
    · exact ⟨fun _ => ⟨vj, h⟩, fun q => absurd rfl q⟩
    · exact ⟨fun q => absurd q (by decide), fun _ => ⟨fun _ => ⟨vj, h⟩, fun q => absurd rfl q⟩⟩
    · exact ⟨fun q => absurd q (by decide), fun _ => ⟨fun q => absurd q (by decide), fun _ => ⟨fun _ => ⟨vj, h⟩, fun q => absurd rfl q⟩⟩⟩
    · exact ⟨fun q => absurd q (by decide), fun _ => ⟨fun q => absurd q (by decide), fun _ => ⟨fun q => absurd q (by decide), fun _ => ⟨vj, h⟩⟩⟩⟩
  · rw [if_neg (fun z => h2 z.2)] at h
    rcases rg_not h2 with q | q
    · exact ⟨fun _ => h, fun z => absurd q z⟩
    · exact ⟨fun _ => h, fun _ => ⟨fun z => absurd z q, fun _ => h⟩⟩
theorem p_guest {C : Nat → Mem} {L : MemL} {M : Mem} (hR : REL C M) (x1 x2 : Int32) : wp_X9_guest C L x1 x2 (fun r => wp_X10_guest M x1 x2 (fun r' M' => r = r' ∧ REL C M')) := by
  obtain ⟨n0, n1, hI, ⟨t0, t1, t2, t3⟩, -, -, -, -⟩ := id hR
  obtain ⟨hT0, hT1, -, hGs, -⟩ := id hI
  have hG8 := NGb_le (b := C 2 1) hT1.2.2.2.1
  refine c_guest hG8 hGs.1 ?_
  unfold wp_X10_guest b_X10_guest_0
  refine e_readsGuests t3 t1 hT1.2.2.2.1 (fun M' hv hf => ?_)
  have hR' := hR.mf (hf.mf (by omega) (by omega))
  rw [e_isGuestM hG8 hv.1, bI_z]
  unfold F_guest
  refine ⟨fun q => ⟨by rw [if_neg (fun z => q z.1)], hR'⟩, fun q => ?_⟩
  have hh : HB (NGb (C 2 1) n1) x1 := Classical.not_not.mp q
  rw [e_in (a := 0) (b := 3) x2 0 3 _ rfl rfl, bI_z]
  refine ⟨fun q => ⟨by rw [if_neg (fun z => q z.2)], hR'⟩, fun q => ?_⟩
  have h2 : 0 ≤ x2 ∧ x2 ≤ 3 := Classical.not_not.mp q
  rw [if_pos ⟨hh, h2⟩]
  obtain ⟨j, hj, rfl⟩ := HB_of hh hG8
  obtain ⟨k, hk, rfl⟩ := rg_of (u := 3) (by omega) h2
  rw [show (4 : Int32) = nI 4 from rfl, pk_mul, nI_add, nI_clamp (by omega), nI_clamp (by omega), nI_clamp (by omega)]
  refine ⟨vp_in_nI (by omega) (by omega), ?_, hR'⟩
  obtain ⟨r1, r2, r3, r4⟩ := hGs.2 j hj
  obtain ⟨q1, q2, q3, q4⟩ := hv.2 j hj
  rcases (show k = 0 ∨ k = 1 ∨ k = 2 ∨ k = 3 by omega) with rfl | rfl | rfl | rfl
  · show C 4 1 j = M' 8 (4 * j)
    rw [r1, q1]
  · show C 4 2 j = M' 8 (4 * j + 1)
    rw [r2, q2]
  · show C 4 3 j = M' 8 (4 * j + 2)
    rw [r3, q3]
  · show C 4 4 j = M' 8 (4 * j + 3)
    rw [r4, q4]
theorem m_set_bad {M : Mem} {x1 x2 : Int32} (h : ¬ (0 ≤ x1 ∧ x1 ≤ 1) ∨ ¬ (0 ≤ x2 ∧ x2 ≤ (if x1 = 0 then 1 else 255))) {post : Int32 → Mem → Prop} (hp : post (-2) M) : wp_X10_set M x1 x2 post := by
  unfold wp_X10_set b_X10_set_0
  rw [e_isTwo, bI_z]
  refine ⟨fun _ => hp, fun q v ev => ?_⟩
  have ev2 : v = Int32.toInt64 (if x1 = 0 then 1 else 255) := by
    rw [ev]
    split <;> rfl
  rw [e_in (a := 0) x2 0 (if x1 = 0 then 1 else 255) _ rfl ev2, bI_z]
  exact ⟨fun z => (h.elim (fun y => q y) (fun y => z y)).elim, fun _ => hp⟩
theorem m_set {M : Mem} {t : Nat} (ht : t < 2) {x2 : Int32} (h : 0 ≤ x2 ∧ x2 ≤ (if nI t = 0 then 1 else 255)) {post : Int32 → Mem → Prop} (hp : post (M 9 t) (up2 M 9 t x2)) : wp_X10_set M (nI t) x2 post := by
  have vt : vp_in (nI t) 2 := vp_in_nI ht (by omega)
  unfold wp_X10_set b_X10_set_0
  rw [e_isTwo, bI_z]
  refine ⟨fun q => absurd (bit_ok ht) q, fun q v ev => ?_⟩
  have ev2 : v = Int32.toInt64 (if nI t = 0 then 1 else 255) := by
    rw [ev]
    split <;> rfl
  rw [e_in (a := 0) x2 0 (if nI t = 0 then 1 else 255) _ rfl ev2, bI_z]
  refine ⟨fun _ => ⟨vt, fun x ex => ⟨vt, fun m e => ?_⟩⟩, fun q => absurd h q⟩
  rw [nI_clamp (by omega)] at ex e
  rw [ex, e]
  exact hp
theorem REL_set {C C' : Nat → Mem} {M M' : Mem} {n0 n1 : Nat} (hR : REL C M) (hI : INVC C' n0 n1) (hT : TXM C' M' n0 n1) (hS : STT C' M') (k0 : C' 0 = C 0) (k6 : C' 6 = C 6) (k7 : C' 7 = C 7) (hm : ∀ c, c ≠ 9 → M' c = M c) : REL C' M' := by
  obtain ⟨_, _, -, -, -, hG, hSh, hf⟩ := hR
  refine ⟨n0, n1, hI, hT, hS, ?_, fun s hs => ?_, by rw [k0, hm 0 (by decide)]; exact hf⟩
  · unfold SGT
    rw [k6, hm 0 (by decide), hm 16 (by decide)]; exact hG
  · unfold SHT
    rw [k7, hm 1 (by decide), hm 2 (by decide), hm 3 (by decide)]; exact hSh s hs
theorem p_set {C : Nat → Mem} {L : MemL} {M : Mem} (hR : REL C M) (x1 x2 : Int32) : wp_X9_set C L x1 x2 (fun r C' _ => wp_X10_set M x1 x2 (fun r' M' => r = r' ∧ REL C' M')) := by
  unfold wp_X9_set b_X9_set_0
  rw [e_isBit, bI_z]
  refine ⟨fun q => m_set_bad (Or.inl q) ⟨rfl, hR⟩, fun q => ?_⟩
  have hb : 0 ≤ x1 ∧ x1 ≤ 1 := Classical.not_not.mp q
  by_cases h2 : ¬ (0 ≤ x2 ∧ x2 ≤ (if x1 = 0 then 1 else 255))
  · have bad := m_set_bad (M := M) (x1 := x1) (x2 := x2) (Or.inr h2) (post := fun r' M' => (-2) = r' ∧ REL C M') ⟨rfl, hR⟩
    rcases rg_not h2 with q | q
    · exact ⟨fun _ => bad, fun z => absurd q z⟩
    · exact ⟨fun _ => bad, fun _ v ev => ⟨fun z => absurd (ev ▸ z) q, fun _ => bad⟩⟩
  have h2 : 0 ≤ x2 ∧ x2 ≤ (if x1 = 0 then 1 else 255) := Classical.not_not.mp h2
  refine ⟨fun q => absurd q (rg_nlt h2), fun _ v ev => ⟨fun _ => ?_, fun q => absurd (ev ▸ h2.2) q⟩⟩
  obtain ⟨n0, n1, hI, hT, ⟨s1, s2, s3, s4⟩, -, -, -⟩ := id hR
  obtain ⟨hT0, hT1, -, -, -⟩ := id hI
  obtain ⟨t, ht, rfl⟩ := bit_nI hb
  rcases (show t = 0 ∨ t = 1 by omega) with rfl | rfl
  · refine ⟨fun q => absurd rfl q, fun _ x3 e3 C9 e9 => ?_⟩
    have c3 : C9 3 = up2 (C 3) 0 5 x2 := by rw [e9]; rfl
    have cn : ∀ g, g ≠ 3 → C9 g = C g := fun g hg => by rw [e9, up3_n _ hg]
    unfold b_X9_set_68
    refine e_refresh (n0 := n0) (n1 := n1) (by rw [cn 1 (by decide)]; exact hT0) (by rw [cn 2 (by decide)]; exact hT1) (fun C' hI' hk h5 h6 => m_set ht h2 ⟨e3.trans s3.symm, ?_⟩)
    have k1 : C' 1 = C 1 := by rw [hk 1 (by decide) (by decide) (by decide) (by decide), cn 1 (by decide)]
    have k2 : C' 2 = C 2 := by rw [hk 2 (by decide) (by decide) (by decide) (by decide), cn 2 (by decide)]
    rw [c3, up2_s] at h5
    rw [c3, up2_i _ (by decide)] at h6
    refine REL_set hR hI' ?_ ?_ (by rw [hk 0 (by decide) (by decide) (by decide) (by decide), cn 0 (by decide)]) (by rw [hk 6 (by decide) (by decide) (by decide) (by decide), cn 6 (by decide)]) (by rw [hk 7 (by decide) (by decide) (by decide) (by decide), cn 7 (by decide)]) (fun c q => up2_c _ q)
    · unfold TXM
      rw [k1, k2, up2_c _ (by decide), up2_c _ (by decide)]; exact hT
    · unfold STT
      rw [h5, h6, up2_s, up2_i _ (by decide)]
      rw [if_pos (show nI 0 = 0 from rfl)] at h2
      exact ⟨bit_of h2, s2, rfl, s4⟩
  · refine ⟨fun _ x3 e3 C9 e9 => ?_, fun q => absurd q (by decide)⟩
    have c3 : C9 3 = up2 (C 3) 0 6 x2 := by rw [e9]; rfl
    have cn : ∀ g, g ≠ 3 → C9 g = C g := fun g hg => by rw [e9, up3_n _ hg]
    unfold b_X9_set_68
    refine e_refresh (n0 := n0) (n1 := n1) (by rw [cn 1 (by decide)]; exact hT0) (by rw [cn 2 (by decide)]; exact hT1) (fun C' hI' hk h5 h6 => m_set ht h2 ⟨e3.trans s4.symm, ?_⟩)
    have k1 : C' 1 = C 1 := by rw [hk 1 (by decide) (by decide) (by decide) (by decide), cn 1 (by decide)]
    have k2 : C' 2 = C 2 := by rw [hk 2 (by decide) (by decide) (by decide) (by decide), cn 2 (by decide)]
    rw [c3, up2_i _ (by decide)] at h5
    rw [c3, up2_s] at h6
    refine REL_set hR hI' ?_ ?_ (by rw [hk 0 (by decide) (by decide) (by decide) (by decide), cn 0 (by decide)]) (by rw [hk 6 (by decide) (by decide) (by decide) (by decide), cn 6 (by decide)]) (by rw [hk 7 (by decide) (by decide) (by decide) (by decide), cn 7 (by decide)]) (fun c q => up2_c _ q)
    · unfold TXM
      rw [k1, k2, up2_c _ (by decide), up2_c _ (by decide)]; exact hT
    · unfold STT
      rw [h5, h6, up2_s, up2_i _ (by decide)]
      refine ⟨s1, ?_, s3, rfl⟩
      rw [if_neg (by decide)] at h2
      obtain ⟨k, hk', e⟩ := rg_of (u := 255) (by omega) h2
      exact ⟨k, by omega, e⟩
def F_at (C : Nat → Mem) (N : Nat) (x1 : Int32) : Int32 := if 0 ≤ x1 ∧ x1 ≤ 7 then if nI N ≤ x1 then (-1) else C 3 4 x1.toNatClampNeg else (-2)
theorem le7 (x : Int32) : (x < 8) = (x ≤ 7) := propext (by
  rw [i_lt, i_le]
  have h7 : (7 : Int32).toInt = 7 := rfl
  have h8 : (8 : Int32).toInt = 8 := rfl
  omega)
theorem c_at {C : Nat → Mem} {L : MemL} {N : Nat} (hN8 : N ≤ 8) (hN : C 3 0 4 = nI N) {x1 : Int32} {post : Int32 → Prop} (h : post (F_at C N x1)) : wp_X9_at C L x1 post := by
  unfold wp_X9_at b_X9_at_0
  unfold F_at at h
  rw [hN, le7]
  by_cases h2 : 0 ≤ x1 ∧ x1 ≤ 7
  · rw [if_pos h2] at h
    refine ⟨fun q => absurd q (rg_nlt h2), fun _ => ⟨fun _ => ⟨fun q => by rw [if_pos q] at h; exact h, fun q => ?_⟩, fun q => absurd h2.2 q⟩⟩
    rw [if_neg q] at h
    obtain ⟨k, hk, rfl⟩ := rg_of (u := 7) (by omega) h2
    exact ⟨vp_in_nI (by omega) (by omega), h⟩
  · rw [if_neg h2] at h
    rcases rg_not h2 with q | q
    · exact ⟨fun _ => h, fun z => absurd q z⟩
    · exact ⟨fun _ => h, fun _ => ⟨fun z => absurd z q, fun _ => h⟩⟩
theorem p_at {C : Nat → Mem} {L : MemL} {M : Mem} (hR : REL C M) (x1 : Int32) : wp_X9_at C L x1 (fun r => wp_X10_at M x1 (fun r' M' => r = r' ∧ REL C M')) := by
  obtain ⟨n0, n1, hI, -, -, -, -, -⟩ := id hR
  have hN8 := NHb_le (b := C 1 1) hI.1.2.2.2.1
  refine c_at hN8 hI.2.2.1.1 ?_
  unfold wp_X10_at b_X10_at_0
  refine e_reads hR (fun a0 a1 M' hI' hf hv hg hrow => ?_)
  have hNN : NHb (C 1 1) a0 = NHb (C 1 1) n0 := by
    have h1 := hI'.2.2.1.1
    rw [hI.2.2.1.1] at h1
    have := NHb_le (b := C 1 1) hI'.1.2.2.2.1
    exact ((nI_eq (by omega) (by omega)).mp h1).symm
  rw [hNN] at hv hrow
  have hR' := hR.mf hf
  rw [e_in (a := 0) (b := 7) x1 0 7 _ rfl rfl, bI_z, hv.1]
  unfold F_at
  refine ⟨fun q => ?_, fun q => ⟨by rw [if_neg q], hR'⟩⟩
  have h2 : 0 ≤ x1 ∧ x1 ≤ 7 := Classical.not_not.mp q
  rw [if_pos h2]
  refine ⟨fun q => ⟨by rw [if_pos q], hR'⟩, fun q => ?_⟩
  rw [if_neg q]
  obtain ⟨k, hk, rfl⟩ := rg_of (u := 7) (by omega) h2
  rw [nI_clamp (by omega)]
  exact ⟨vp_in_nI (by omega) (by omega), (hrow k (Nat.lt_of_not_le (fun z => q (nI_le z (by omega))))).symm, hR'⟩
