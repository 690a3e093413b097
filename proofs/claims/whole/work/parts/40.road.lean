-- sums
def SS (f : Nat → Nat) : Nat → Nat
  | 0 => 0
  | n + 1 => SS f n + f n
theorem SS_cong {f g : Nat → Nat} : ∀ {n : Nat}, (∀ k, k < n → f k = g k) → SS f n = SS g n
  | 0, _ => rfl
  | n + 1, h => by unfold SS; rw [SS_cong (fun k hk => h k (by omega)), h n (by omega)]
theorem SS_add {f : Nat → Nat} {n : Nat} : ∀ (k : Nat), SS f (n + k) = SS f n + SS (fun m => f (n + m)) k
  | 0 => rfl
  | k + 1 => by
    show SS f (n + k) + f (n + k) = SS f n + (SS (fun m => f (n + m)) k + f (n + k))
    rw [SS_add k]
    omega
theorem SS_mul {f : Nat → Nat} {c : Nat} : ∀ {n : Nat}, SS (fun m => f m * c) n = SS f n * c
  | 0 => by unfold SS; omega
  | n + 1 => by
    show SS (fun m => f m * c) n + f n * c = (SS f n + f n) * c
    rw [SS_mul, Nat.add_mul]
theorem SS_pl {f g : Nat → Nat} : ∀ {n : Nat}, SS (fun m => f m + g m) n = SS f n + SS g n
  | 0 => rfl
  | n + 1 => by
    show SS (fun m => f m + g m) n + (f n + g n) = (SS f n + f n) + (SS g n + g n)
    rw [SS_pl]
    omega
theorem SS_z {f : Nat → Nat} : ∀ {n : Nat}, (∀ k, k < n → f k = 0) → SS f n = 0
  | 0, _ => rfl
  | n + 1, h => by unfold SS; rw [SS_z (fun k hk => h k (by omega)), h n (by omega)]
theorem SS_le {f : Nat → Nat} : ∀ {n k : Nat}, k < n → f k ≤ SS f n
  | 0, k, h => by omega
  | n + 1, k, h => by
    show f k ≤ SS f n + f n
    by_cases e : k = n
    · rw [e]; omega
    · have := SS_le (f := f) (show k < n by omega)
      omega
-- the chances
def RC (p : Nat) (a : Nat → Nat) : Nat → Nat → Nat
  | 0, u => if 0 < u then 0 else 1
  | k + 1, u => RC p a k u * (16 - p) + RC p a k (u - a k) * p
theorem RC_le {p : Nat} {a : Nat → Nat} (hp : p ≤ 16) : ∀ (k u : Nat), RC p a k u ≤ 16 ^ k
  | 0, u => by unfold RC; split <;> simp
  | k + 1, u => by
    unfold RC
    have h1 := Nat.mul_le_mul_right (16 - p) (RC_le hp (a := a) k u)
    have h2 := Nat.mul_le_mul_right p (RC_le hp (a := a) k (u - a k))
    have h3 : 16 ^ k * (16 - p) + 16 ^ k * p = 16 ^ k * 16 := by rw [← Nat.mul_add]; congr 1; omega
    rw [Nat.pow_succ]
    omega
def PT (p : Nat) (a : Nat → Nat) : Nat → Nat → Nat
  | 0, s => if s = 0 then 1 else 0
  | k + 1, s => PT p a k s * (16 - p) + (if a k ≤ s then PT p a k (s - a k) * p else 0)
theorem PT_0 {p : Nat} {a : Nat → Nat} : ∀ (k s : Nat), (∀ i, i < k → a i ≤ 11) → 11 * k < s → PT p a k s = 0
  | 0, s, _, h => by unfold PT; rw [if_neg (by omega)]
  | k + 1, s, ha, h => by
    unfold PT
    have h11 := ha k (by omega)
    rw [PT_0 k s (fun i hi => ha i (by omega)) (by omega)]
    split
    · rw [PT_0 k (s - a k) (fun i hi => ha i (by omega)) (by omega)]
      simp
    · simp
theorem SS_sh {g : Nat → Nat} {a : Nat} (n : Nat) : SS (fun s => if a ≤ s then g (s - a) else 0) (a + n) = SS g n := by
  rw [SS_add, SS_z (fun k hk => if_neg (by omega)), Nat.zero_add]
  refine SS_cong (fun k _ => ?_)
  rw [if_pos (by omega)]
  congr 1
  omega
theorem PT_RC {p : Nat} {a : Nat → Nat} : ∀ (k : Nat), k ≤ 8 → (∀ i, i < k → a i ≤ 11) → ∀ u, SS (fun s => if s < u then 0 else PT p a k s) 89 = RC p a k u
  | 0, _, _, u => by
    have e : SS (fun s => if s < u then 0 else PT p a 0 s) 89 = (if 0 < u then 0 else 1) + SS (fun m => if 1 + m < u then 0 else PT p a 0 (1 + m)) 88 := by
      rw [show 89 = 1 + 88 from rfl, SS_add]
      congr 1
      show 0 + (if 0 < u then 0 else PT p a 0 0) = _
      unfold PT
      simp
    rw [e, SS_z (fun k _ => ?_)]
    · rfl
    · unfold PT
      rw [if_neg (show ¬ 1 + k = 0 by omega)]
      split <;> rfl
  | k + 1, hk, ha, u => by
    have h11 := ha k (by omega)
    have ih := PT_RC k (by omega) (fun i hi => ha i (by omega)) (p := p)
    have e : ∀ s, s < 89 → (if s < u then 0 else PT p a (k + 1) s) = (if s < u then 0 else PT p a k s) * (16 - p) + (if a k ≤ s then (fun s => if s < u - a k then 0 else PT p a k s) (s - a k) else 0) * p := by
      intro s _
      show (if s < u then 0 else PT p a k s * (16 - p) + (if a k ≤ s then PT p a k (s - a k) * p else 0)) = _
      by_cases q : s < u
      · rw [if_pos q, if_pos q]
        by_cases q2 : a k ≤ s
        · rw [if_pos q2]
          dsimp only
          rw [if_pos (by omega)]
          simp
        · rw [if_neg q2]
          simp
      · rw [if_neg q, if_neg q]
        by_cases q2 : a k ≤ s
        · rw [if_pos q2, if_pos q2]
          dsimp only
          rw [if_neg (by omega)]
        · rw [if_neg q2, if_neg q2]
          simp
    rw [SS_cong e, SS_pl, SS_mul, SS_mul, ih u, show 89 = a k + (89 - a k) by omega, SS_sh (g := fun s => if s < u - a k then 0 else PT p a k s) (a := a k)]
    show _ = RC p a k u * (16 - p) + RC p a k (u - a k) * p
    congr 2
    rw [← ih (u - a k)]
    have : (89 : Nat) = (89 - a k) + a k := by omega
    conv => rhs; rw [this]
    rw [SS_add, SS_z (n := a k) (fun j hj => ?_), Nat.add_zero]
    rw [PT_0 k _ (fun i hi => ha i (by omega)) (by omega)]
    split <;> rfl
-- the same by sets of guests
def sumM (a : Nat → Nat) (m : Nat) : Nat → Nat
  | 0 => 0
  | k + 1 => sumM a m k + (if m.testBit k = true then a k else 0)
def wM (p : Nat) (m : Nat) : Nat → Nat
  | 0 => 1
  | k + 1 => wM p m k * (if m.testBit k = true then p else 16 - p)
theorem tb_hi {k m i : Nat} (hi : i < k) : (2 ^ k + m).testBit i = m.testBit i := by
  rw [Nat.testBit_two_pow_add_gt hi]
theorem sumM_hi {a : Nat → Nat} {K m : Nat} : ∀ (k : Nat), k ≤ K → sumM a (2 ^ K + m) k = sumM a m k
  | 0, _ => rfl
  | k + 1, h => by
    show sumM a (2 ^ K + m) k + (if (2 ^ K + m).testBit k = true then a k else 0) = sumM a m k + (if m.testBit k = true then a k else 0)
    rw [sumM_hi k (by omega), tb_hi (by omega)]
theorem wM_hi {p : Nat} {K m : Nat} : ∀ (k : Nat), k ≤ K → wM p (2 ^ K + m) k = wM p m k
  | 0, _ => rfl
  | k + 1, h => by
    show wM p (2 ^ K + m) k * (if (2 ^ K + m).testBit k = true then p else 16 - p) = wM p m k * (if m.testBit k = true then p else 16 - p)
    rw [wM_hi k (by omega), tb_hi (by omega)]
theorem SU_RC {p : Nat} {a : Nat → Nat} : ∀ (k u : Nat), SS (fun m => if sumM a m k < u then 0 else wM p m k) (2 ^ k) = RC p a k u
  | 0, u => by
    show 0 + (if sumM a 0 0 < u then 0 else wM p 0 0) = _
    unfold RC sumM wM
    omega
  | k + 1, u => by
    have ih := SU_RC (p := p) (a := a) k
    rw [Nat.pow_succ, Nat.mul_two, SS_add]
    have e1 : ∀ m, m < 2 ^ k → (if sumM a m (k + 1) < u then 0 else wM p m (k + 1)) = (if sumM a m k < u then 0 else wM p m k) * (16 - p) := by
      intro m hm
      have tb : m.testBit k = false := Nat.testBit_lt_two_pow hm
      show (if sumM a m k + (if m.testBit k = true then a k else 0) < u then 0 else wM p m k * (if m.testBit k = true then p else 16 - p)) = _
      rw [tb]
      simp only [Bool.false_eq_true, if_false, Nat.add_zero]
      split <;> simp
    have e2 : ∀ m, m < 2 ^ k → (if sumM a (2 ^ k + m) (k + 1) < u then 0 else wM p (2 ^ k + m) (k + 1)) = (if sumM a m k < u - a k then 0 else wM p m k) * p := by
      intro m hm
      have tb : (2 ^ k + m).testBit k = true := by
        rw [Nat.testBit_two_pow_add_eq, Nat.testBit_lt_two_pow hm]
        rfl
      show (if sumM a (2 ^ k + m) k + (if (2 ^ k + m).testBit k = true then a k else 0) < u then 0 else wM p (2 ^ k + m) k * (if (2 ^ k + m).testBit k = true then p else 16 - p)) = _
      rw [tb, sumM_hi k (Nat.le_refl k), wM_hi k (Nat.le_refl k)]
      simp only [if_true]
      by_cases q : sumM a m k + a k < u
      · rw [if_pos q, if_pos (by omega)]; simp
      · rw [if_neg q, if_neg (by omega)]
    rw [SS_cong e1, SS_cong (f := fun m => if sumM a (2 ^ k + m) (k + 1) < u then 0 else wM p (2 ^ k + m) (k + 1)) e2, SS_mul, SS_mul, ih u, ih (u - a k)]
    rfl
-- halving and Euclid
def RD : Nat → Nat → Nat → Nat × Nat
  | 0, A, B => (A, B)
  | f + 1, A, B => if A % 2 = 0 ∧ B % 2 = 0 then RD f (A / 2) (B / 2) else (A, B)
theorem RD_gcd : ∀ (f n A : Nat), n ≤ f → RD f A (2 ^ n) = (A / Nat.gcd A (2 ^ n), 2 ^ n / Nat.gcd A (2 ^ n))
  | 0, n, A, h => by
    have : n = 0 := by omega
    subst this
    unfold RD
    simp
  | f + 1, n, A, h => by
    unfold RD
    by_cases q : A % 2 = 0 ∧ 2 ^ n % 2 = 0
    · rw [if_pos q]
      obtain ⟨m, rfl⟩ : ∃ m, n = m + 1 := by
        cases n with
        | zero => simp at q
        | succ m => exact ⟨m, rfl⟩
      have e2 : 2 ^ (m + 1) / 2 = 2 ^ m := by rw [Nat.pow_succ]; omega
      rw [e2, RD_gcd f m (A / 2) (by omega)]
      obtain ⟨B, hB⟩ : ∃ B, A = 2 * B := ⟨A / 2, by omega⟩
      subst hB
      rw [Nat.mul_div_cancel_left B (by omega), Nat.pow_succ, Nat.mul_comm (2 ^ m) 2, Nat.gcd_mul_left, Nat.mul_div_mul_left _ _ (by omega), Nat.mul_div_mul_left _ _ (by omega)]
    · rw [if_neg q]
      have g1 : Nat.gcd A (2 ^ n) = 1 := by
        cases n with
        | zero => simp
        | succ m =>
          have ha : A % 2 = 1 := by
            have : 2 ^ (m + 1) % 2 = 0 := by rw [Nat.pow_succ]; omega
            omega
          have c2 : Nat.Coprime A 2 := by
            unfold Nat.Coprime
            rw [Nat.gcd_comm, Nat.gcd_rec, ha]
            rfl
          exact Nat.Coprime.pow_right (m + 1) c2
      rw [g1, Nat.div_one, Nat.div_one]
-- longs
theorem up2L_s (m : MemL) (c i : Nat) (x : Int64) : up2L m c i x c i = x := by unfold up2L vp_updL; simp
theorem up2L_c (m : MemL) {c i : Nat} {x : Int64} {a : Nat} (h : a ≠ c) : up2L m c i x a = m a := by unfold up2L; simp [h]
theorem up2L_i (m : MemL) {c i : Nat} {x : Int64} {j : Nat} (h : j ≠ i) : up2L m c i x c j = m c j := by unfold up2L vp_updL; simp [h]
theorem lN_and1 (A : Nat) : lN A &&& 1 = lN (A % 2) := by
  apply Int64.toBitVec_inj.mp
  rw [Int64.toBitVec_and]
  show BitVec.ofNat 64 A &&& 1#64 = BitVec.ofNat 64 (A % 2)
  apply BitVec.eq_of_toNat_eq
  rw [BitVec.toNat_and, BitVec.toNat_ofNat, BitVec.toNat_ofNat]
  show (A % 2 ^ 64) &&& 1 = (A % 2) % 2 ^ 64
  rw [Nat.and_one_is_mod]
  omega
theorem ev_l (A : Nat) : (lg_cmp (lN A &&& 1) 0 = 0) = (A % 2 = 0) := by
  rw [cmp_eq, lN_and1]
  exact propext (pk_lEQ (b := 0) (by omega) (by omega))
theorem RD_st {f A B : Nat} (h : ¬ (A % 2 = 0 ∧ B % 2 = 0)) : RD f A B = (A, B) := by
  cases f with
  | zero => rfl
  | succ f => unfold RD; rw [if_neg h]
theorem e_reduce {m : MemL} {A B : Nat} (hA : A < 2 ^ 62) (hB : B < 2 ^ 62) (h1 : m 0 1 = lN A) (h2 : m 0 2 = lN B) {post : MemL → Prop} (hp : ∀ m', m' 0 1 = lN (RD 32 A B).1 → m' 0 2 = lN (RD 32 A B).2 → post m') : wp_X0_reduce m post := by
  unfold wp_X0_reduce b_X0_reduce_0
  refine loop_0 (fun k i (m : MemL) => b_X0_reduce_2 post k (nI i) m) (fun i m => ∃ A' B', A' < 2 ^ 62 ∧ B' < 2 ^ 62 ∧ m 0 1 = lN A' ∧ m 0 2 = lN B' ∧ RD (32 - i) A' B' = RD 32 A B) 32 m ⟨A, B, hA, hB, h1, h2, rfl⟩ ?_ ?_
  · intro k m hI
    obtain ⟨A', B', a1, a2, a3, a4, a5⟩ := hI
    unfold b_X0_reduce_2
    have e : RD 32 A B = (A', B') := a5.symm
    exact ⟨fun _ => hp m (by rw [e]; exact a3) (by rw [e]; exact a4), fun q => absurd (show (32 : Int32) ≤ nI 32 by decide) q⟩
  · intro k i m hi hI ih
    obtain ⟨A', B', a1, a2, a3, a4, a5⟩ := hI
    have out : ¬ (A' % 2 = 0 ∧ B' % 2 = 0) → post m := fun q => by
      rw [RD_st q] at a5
      exact hp m (by rw [← a5]; exact a3) (by rw [← a5]; exact a4)
    unfold b_X0_reduce_2
    rw [a3, a4, ev_l, ev_l]
    refine ⟨fun q => absurd q (nI_ge (b := 32) hi (by omega)), fun _ => ⟨fun q => out (fun z => q z.1), fun q => ⟨fun q2 => out (fun z => q2 z.2), fun q2 m4 e4 m5 e5 y ey => ?_⟩⟩⟩
    rw [ey, nI_1]
    refine ih m5 ⟨A' / 2, B' / 2, by omega, by omega, ?_, ?_, ?_⟩
    · rw [e5, up2L_i _ (by decide), e4, up2L_s, show (2 : Int64) = lN 2 from rfl, pk_lDiv (by omega) (by omega) (by omega)]
    · rw [e5, up2L_s, e4, up2L_i _ (by decide), a4, show (2 : Int64) = lN 2 from rfl, pk_lDiv (by omega) (by omega) (by omega)]
    · rw [← a5, show 32 - i = (32 - (i + 1)) + 1 by omega]
      show _ = if A' % 2 = 0 ∧ B' % 2 = 0 then RD (32 - (i + 1)) (A' / 2) (B' / 2) else (A', B')
      rw [if_pos ⟨q, q2⟩]
theorem e_join {m : MemL} {p a : Nat} {f : Nat → Nat} (hp16 : p ≤ 16) (ha : a ≤ 11) (hf : ∀ s, s < 89 → m 1 s = lN (f s)) {post : MemL → Prop} (hp : ∀ m', m' 0 = m 0 → (∀ s, s < 89 → m' 1 s = lN (f s * (16 - p) + (if a ≤ s then f (s - a) * p else 0))) → post m') : wp_X0_join m (nI p) (nI a) post := by
  unfold wp_X0_join b_X0_join_0
  have e16 : Int32.toInt64 (16 - nI p) = lN (16 - p) := by rw [show (16 : Int32) = nI 16 from rfl, pk_sub (by omega), nI_l (by omega)]
  have ep : Int32.toInt64 (nI p) = lN p := nI_l (by omega)
  refine ⟨90, pk_loopD (fun k i (m : MemL) => b_X0_join_3 post k (nI p) (nI a) (nI i - 1) m) (fun i m' => i ≤ 89 ∧ m' 0 = m 0 ∧ ∀ s, s < 89 → m' 1 s = if s < i then lN (f s) else lN (f s * (16 - p) + (if a ≤ s then f (s - a) * p else 0))) ?_ ?_ 89 m ⟨Nat.le_refl 89, rfl, fun s hs => by rw [if_pos hs]; exact hf s hs⟩⟩
  · intro k m' hI
    unfold b_X0_join_3
    refine ⟨fun _ => hp m' hI.2.1 (fun s hs => ?_), fun q => absurd (show nI 0 - 1 < 0 by decide) q⟩
    have := hI.2.2 s hs
    rw [if_neg (Nat.not_lt_zero s)] at this
    exact this
  · intro k i m' hI ih
    obtain ⟨i1, i2, i3⟩ := hI
    have e1 : nI (i + 1) - 1 = nI i := by rw [show (1 : Int32) = nI 1 from rfl, pk_sub (by omega)]; rfl
    rw [e1]
    have mi : m' 1 i = lN (f i) := by rw [i3 i (by omega), if_pos (by omega)]
    have fin : ∀ z0 : Int64, z0 = lN (if a ≤ i then f (i - a) * p else 0) → b_X0_join_31 post (b_X0_join_3 post k) (nI p) (nI a) (nI i) z0 m' := by
      intro z0 ez
      unfold b_X0_join_31
      rw [nI_clamp (by omega), mi, e16, ez, lN_mul, lN_add]
      refine ⟨vp_in_nI (by omega) (by omega), vp_in_nI (by omega) (by omega), fun m2 e2 y ey => ?_⟩
      rw [ey, ← nI_m1']
      refine ih m2 ⟨by omega, by rw [e2, up2L_c _ (by decide)]; exact i2, fun s hs => ?_⟩
      by_cases q : s = i
      · rw [q, e2, up2L_s, if_neg (Nat.lt_irrefl i)]
      · rw [e2, up2L_i _ q, i3 s hs]
        by_cases q2 : s < i
        · rw [if_pos q2, if_pos (by omega)]
        · rw [if_neg q2, if_neg (by omega)]
    unfold b_X0_join_3
    refine ⟨fun q => absurd q (nI_pos (by omega)), fun _ => ⟨fun q => absurd q (nI_pos (by omega)), fun _ => ⟨fun q => ?_, fun q => ?_⟩⟩⟩
    · have q' := (nI_ltI (by omega) (by omega)).mp q
      unfold b_X0_join_30
      exact fin 0 (by rw [if_neg (by omega)]; rfl)
    · have q' : ¬ i < a := fun z => q (nI_lt z (by omega))
      rw [pk_sub (by omega), nI_clamp (by omega), i3 (i - a) (by omega), if_pos (by omega), ep, lN_mul]
      exact ⟨vp_in_nI (by omega) (by omega), fin _ (by rw [if_pos (by omega)])⟩
/-- what house h gives guest g, as a number -/
def av (C : Nat → Mem) (h g : Nat) : Nat := (gvW (WAYS (C 3) (C 4) g) h).toNatClampNeg
theorem av_ok {C : Nat → Mem} {N G h g : Nat} (hC : CS C N G) (hg : g < G) : av C h g ≤ 11 ∧ gvW (WAYS (C 3) (C 4) g) h = nI (av C h g) := by
  obtain ⟨a, ha, e⟩ := (WAYS_rng hC hg).2 h
  have e' : gvW (WAYS (C 3) (C 4) g) h = nI a := e
  have : av C h g = a := by unfold av; rw [e', nI_clamp (by omega)]
  rw [this]
  exact ⟨ha, e'⟩
theorem p16 {G : Nat} (h : G ≤ 8) : 16 ^ G ≤ 4294967296 := Nat.pow_le_pow_right (n := 16) (by omega) h
theorem p16_2 (G : Nat) : 16 ^ G = 2 ^ (4 * G) := by rw [Nat.pow_mul]
theorem e_reckon {C : Nat → Mem} {L : MemL} {N G p h t : Nat} (hC : CS C N G) (hp16 : p ≤ 16) (hh : h < 8) (ht : t ≤ 999) {post : MemL → Prop} (hpo : ∀ L', L' 0 1 = lN (RC p (av C h) G t / Nat.gcd (RC p (av C h) G t) (2 ^ (4 * G))) → L' 0 2 = lN (2 ^ (4 * G) / Nat.gcd (RC p (av C h) G t) (2 ^ (4 * G))) → post L') : wp_X0_reckon L (C 5) (nI p) (nI h) (nI G) (nI t) post := by
  have hG8 := hC.1
  have h16 := p16 hG8
  unfold wp_X0_reckon b_X0_reckon_0
  refine loop_0 (fun k i (m : MemL) => b_X0_reckon_3 (C 5) post k (nI p) (nI h) (nI G) (nI t) (nI i) m) (fun i m => ∀ s, s < i → m 1 s = 0) 89 L (fun s hs => absurd hs (Nat.not_lt_zero s)) ?_ ?_
  · intro k m hI
    unfold b_X0_reckon_3
    refine ⟨fun _ => ⟨vp0 (by decide) (by decide), fun m2 e2 m3 e3 m4 e4 => ?_⟩, fun q => absurd (show (88 : Int32) < nI 89 by decide) q⟩
    rw [show Int32.toNatClampNeg 0 = 0 from rfl] at e2
    refine loop_0 (fun k i (m : MemL) => b_X0_reckon_44 (C 5) post k (nI p) (nI h) (nI G) (nI t) (nI i) m) (fun i m => (∀ s, s < 89 → m 1 s = lN (PT p (av C h) i s)) ∧ m 0 2 = lN (16 ^ i) ∧ m 0 1 = 0) G m4 ⟨fun s hs => ?_, ?_, ?_⟩ ?_ ?_
    · rw [e4, up2L_c _ (by decide), e3, up2L_c _ (by decide), e2]
      by_cases q : s = 0
      · rw [q, up2L_s]; rfl
      · rw [up2L_i _ q, hI s hs]
        unfold PT
        rw [if_neg q]
        rfl
    · rw [e4, up2L_s]; rfl
    · rw [e4, up2L_i _ (by decide), e3, up2L_s]
    · intro k5 m5 hI5
      obtain ⟨j1, j2, j3⟩ := hI5
      unfold b_X0_reckon_44
      refine ⟨fun _ => ?_, fun q => absurd (nI_le (Nat.le_refl G) (by omega)) q⟩
      have fin : ∀ m6 : MemL, m6 0 1 = lN (RC p (av C h) G t) → m6 0 2 = lN (16 ^ G) → wp_X0_reduce m6 (fun m0_2 => post m0_2) := by
        intro m6 a1 a2
        have hl := RC_le (a := av C h) hp16 G t
        refine e_reduce (A := RC p (av C h) G t) (B := 16 ^ G) (by omega) (by omega) a1 a2 (fun m7 b1 b2 => ?_)
        rw [p16_2 G, RD_gcd 32 (4 * G) _ (by omega)] at b1 b2
        exact hpo m7 b1 b2
      have hPR := PT_RC (p := p) (a := av C h) G hG8 (fun i hi => (av_ok hC hi).1) t
      by_cases q : t ≤ 89
      · refine pk_loop (fun k i (m : MemL) => b_X0_reckon_85 (C 5) post k (nI i) m) (fun i m => t ≤ i ∧ (∀ s, s < 89 → m 1 s = lN (PT p (av C h) G s)) ∧ m 0 2 = lN (16 ^ G) ∧ m 0 1 = lN (SS (fun s => if s < t then 0 else PT p (av C h) G s) i)) 89 t m5 q ⟨Nat.le_refl t, j1, j2, ?_⟩ ?_ ?_
        · rw [j3, SS_z (fun s hs => if_pos hs)]; rfl
        · intro k6 m6 hI6
          unfold b_X0_reckon_85
          refine ⟨fun _ => fin m6 ?_ hI6.2.2.1, fun q => absurd (show (88 : Int32) < nI 89 by decide) q⟩
          rw [hI6.2.2.2, hPR]
        · intro k6 i m6 hi hI6 ih6
          obtain ⟨l0, l1, l2, l3⟩ := hI6
          unfold b_X0_reckon_85
          refine ⟨fun q => absurd q (nI_nlt (b := i) (a := 88) (by omega) (by omega)), fun _ => ⟨vp_in_nI (by omega) (by omega), fun m7 e7 y ey => ?_⟩⟩
          rw [ey, nI_1]
          rw [nI_clamp (by omega), l1 i hi, l3, lN_add] at e7
          refine ih6 m7 ⟨by omega, fun s hs => by rw [e7, up2L_c _ (by decide)]; exact l1 s hs, by rw [e7, up2L_i _ (by decide)]; exact l2, ?_⟩
          rw [e7, up2L_s]
          show _ = lN (SS (fun s => if s < t then 0 else PT p (av C h) G s) i + (if i < t then 0 else PT p (av C h) G i))
          rw [if_neg (by omega)]
      · refine ⟨1, ?_⟩
        unfold b_X0_reckon_85
        refine ⟨fun _ => fin m5 ?_ j2, fun z => absurd (nI_lt (a := 88) (show 88 < t by omega) (by omega)) z⟩
        rw [j3, ← hPR, SS_z (fun s hs => if_pos (by omega))]
        rfl
    · intro k5 i m5 hi hI5 ih5
      obtain ⟨j1, j2, j3⟩ := hI5
      unfold b_X0_reckon_44
      obtain ⟨a1, a2⟩ := av_ok (h := h) hC hi
      refine ⟨fun q => absurd q (nI_ge hi (by omega)), fun _ => e_gaveTo hC hi hh ?_⟩
      rw [a2]
      refine e_join hp16 a1 j1 (fun m6 k0 k1 m7 e7 y ey => ?_)
      rw [ey, nI_1]
      refine ih5 m7 ⟨fun s hs => ?_, ?_, ?_⟩
      · rw [e7, up2L_c _ (by decide), k1 s hs]
        rfl
      · rw [e7, up2L_s, k0, j2, show (16 : Int64) = lN 16 from rfl, lN_mul, Nat.pow_succ]
      · rw [e7, up2L_i _ (by decide), k0, j3]
  · intro k i m hi hI ih
    unfold b_X0_reckon_3
    refine ⟨fun q => absurd q (nI_nlt (b := i) (a := 88) (by omega) (by omega)), fun _ => ⟨vp_in_nI (by omega) (by omega), fun m6 e6 y ey => ?_⟩⟩
    rw [ey, nI_1]
    rw [nI_clamp (by omega)] at e6
    refine ih m6 (lt_s (fun s hs => ?_) ?_)
    · rw [e6, up2L_i _ (by omega)]; exact hI s hs
    · rw [e6, up2L_s]
def F_road (C : Nat → Mem) (N G : Nat) (x1 x2 x3 x4 : Int32) : Int64 := if ((0 ≤ x1 ∧ x1 ≤ 16) ∧ HB N x2) ∧ (0 ≤ x3 ∧ x3 ≤ 999) ∧ (0 ≤ x4 ∧ x4 ≤ 1) then (if x4 = 0 then lN (RC x1.toNatClampNeg (av C x2.toNatClampNeg) G x3.toNatClampNeg / Nat.gcd (RC x1.toNatClampNeg (av C x2.toNatClampNeg) G x3.toNatClampNeg) (2 ^ (4 * G))) else lN (2 ^ (4 * G) / Nat.gcd (RC x1.toNatClampNeg (av C x2.toNatClampNeg) G x3.toNatClampNeg) (2 ^ (4 * G)))) else (-9223372036854775806)
theorem rg_cut {x u : Int32} (h1 : ¬ x < 0) (h2 : ¬ u < x) : 0 ≤ x ∧ x ≤ u := ⟨by rw [← i_nlt]; exact h1, by rw [← i_nlt]; exact h2⟩
theorem c_road {C : Nat → Mem} {L : MemL} {N G : Nat} (hC : CS C N G) {x1 x2 x3 x4 : Int32} {post : Int64 → (Nat → Mem) → MemL → Prop} (hp : ∀ L', post (F_road C N G x1 x2 x3 x4) C L') : wp_X9_road C L x1 x2 x3 x4 post := by
  have hN8 := hC.N8
  have hG8 := hC.1
  have no : ¬ (((0 ≤ x1 ∧ x1 ≤ 16) ∧ HB N x2) ∧ (0 ≤ x3 ∧ x3 ≤ 999) ∧ (0 ≤ x4 ∧ x4 ≤ 1)) → post (-9223372036854775806) C L := fun q => by
    have h := hp L
    unfold F_road at h
    rw [if_neg q] at h
    exact h
  unfold wp_X9_road b_X9_road_0
  refine ⟨fun q => no (fun z => rg_nlt z.1.1 q), fun q1 => ⟨fun q => no (fun z => absurd z.1.1.2 (by rw [i_nle]; exact q)), fun q2 => ?_⟩⟩
  have h1 := rg_cut q1 q2
  rw [e_isHouse hC.nH, bI_z]
  refine ⟨fun q => no (fun z => q z.1.2), fun q => ?_⟩
  have h2 : HB N x2 := Classical.not_not.mp q
  refine ⟨fun q => no (fun z => rg_nlt z.2.1 q), fun q3 => ⟨fun q => no (fun z => absurd z.2.1.2 (by rw [i_nle]; exact q)), fun q4 => ?_⟩⟩
  have h3 := rg_cut q3 q4
  rw [e_isBit, bI_z]
  refine ⟨fun q => ?_, fun q => no (fun z => q z.2.2)⟩
  have h4 : 0 ≤ x4 ∧ x4 ≤ 1 := Classical.not_not.mp q
  unfold F_road at hp
  rw [if_pos ⟨⟨h1, h2⟩, h3, h4⟩] at hp
  obtain ⟨p, hp16, rfl⟩ := rg_of (u := 16) (by omega) h1
  obtain ⟨h, hh, rfl⟩ := HB_of h2 hN8
  obtain ⟨t, ht, rfl⟩ := rg_of (u := 999) (by omega) h3
  rw [nI_clamp (by omega), nI_clamp (by omega), nI_clamp (by omega)] at hp
  rw [hC.2.2.1]
  refine e_reckon hC hp16 (by omega) ht (fun L' a1 a2 v ev => ?_)
  rw [ev, a1, a2]
  exact hp L'
theorem tb_I : ∀ m, m < 256 → ∀ i, i < 8 → (((nI m >>> (nI i &&& 31)) &&& 1 = 1) ↔ m.testBit i = true) := by decide +kernel
theorem sumM_le {a : Nat → Nat} {m : Nat} : ∀ {k : Nat}, (∀ i, i < k → a i ≤ 11) → sumM a m k ≤ 11 * k
  | 0, _ => Nat.le_refl 0
  | k + 1, h => by
    unfold sumM
    have := sumM_le (m := m) (k := k) (fun i hi => h i (by omega))
    have := h k (by omega)
    split <;> omega
theorem e_part6 {A B : Nat} {x4 : Int32} {post : Int64 → Prop} : ∀ (b a : Nat), a < 2 ^ 62 → b < 2 ^ 62 → 0 < Nat.gcd a b → post ((if x4 = 0 then lN A else lN B) / lN (Nat.gcd a b)) → ∃ n, b_X10_part_6 post n (lN A) (lN B) x4 (lN a) (lN b) := by
  intro b
  induction b using Nat.strongRecOn with
  | ind b ih =>
    intro a ha hb hg h
    have gl : Nat.gcd a b < 2 ^ 63 := by
      have : Nat.gcd a b ≤ a + b := by
        by_cases z : a = 0
        · rw [z, Nat.gcd_zero_left]; omega
        · have := Nat.gcd_le_left b (show 0 < a by omega); omega
      omega
    have nz : (lg_cmp (lN b) 0 = 0) = (b = 0) := by
      rw [cmp_eq]
      exact propext (pk_lEQ (b := 0) (by omega) (by omega))
    by_cases q : b = 0
    · refine ⟨1, ?_⟩
      unfold b_X10_part_6
      rw [nz]
      refine ⟨fun _ v ev => ⟨fun z => ?_, ?_⟩, fun z => absurd q z⟩
      · rw [q, Nat.gcd_zero_right] at hg
        have := (pk_lEQ (b := 0) (by omega) (by omega)).mp z
        omega
      · rw [ev]
        rw [q, Nat.gcd_zero_right] at h
        exact h
    · have gs : Nat.gcd b (a % b) = Nat.gcd a b := by rw [Nat.gcd_comm b, ← Nat.gcd_rec, Nat.gcd_comm]
      obtain ⟨n, hn⟩ := ih (a % b) (Nat.mod_lt a (by omega)) b hb (by have := Nat.mod_lt a (show b > 0 by omega); omega) (by rw [gs]; exact hg) (by rw [gs]; exact h)
      refine ⟨n + 1, ?_⟩
      unfold b_X10_part_6
      rw [nz]
      refine ⟨fun z => absurd z q, fun _ => ⟨fun z => q ((pk_lEQ (b := 0) (by omega) (by omega)).mp z), fun x9 e9 => ?_⟩⟩
      rw [e9, pk_lRem (by omega) (by omega) (by omega)]
      exact hn
theorem e_part {A B : Nat} {x4 : Int32} (hA : A < 2 ^ 62) (hB : B < 2 ^ 62) (h0 : 0 < B) {post : Int64 → Prop} (h : post (if x4 = 0 then lN (A / Nat.gcd A B) else lN (B / Nat.gcd A B))) : wp_X10_part (lN A) (lN B) x4 post := by
  unfold wp_X10_part b_X10_part_0
  have g0 : 0 < Nat.gcd A B := Nat.gcd_pos_of_pos_right A h0
  have gl : Nat.gcd A B ≤ B := Nat.gcd_le_right A h0
  refine e_part6 B A hA hB g0 ?_
  have e : (if x4 = 0 then lN A else lN B) / lN (Nat.gcd A B) = if x4 = 0 then lN (A / Nat.gcd A B) else lN (B / Nat.gcd A B) := by
    split
    · exact pk_lDiv (by omega) g0 (by omega)
    · exact pk_lDiv (by omega) g0 (by omega)
  rw [e]
  exact h
theorem shl4 : ∀ G, G ≤ 8 → (1 : Int64) <<< (Int32.toInt64 (4 * nI G) &&& 63) = lN (2 ^ (4 * G)) := by decide +kernel
theorem m_roadOf {C : Nat → Mem} {M : Mem} {N G p h t : Nat} {x4 : Int32} (hC : CS C N G) (hF : FND C N G M) (hp16 : p ≤ 16) (hh : h < 8) (ht : t ≤ 999) {post : Int64 → Prop} (hp : post (if x4 = 0 then lN (RC p (av C h) G t / Nat.gcd (RC p (av C h) G t) (2 ^ (4 * G))) else lN (2 ^ (4 * G) / Nat.gcd (RC p (av C h) G t) (2 ^ (4 * G))))) : wp_X10_roadOf M (nI p) (nI h) (nI t) x4 post := by
  have hG8 := hC.1
  have h16 := p16 hG8
  have hl := RC_le (a := av C h) hp16 G t
  have hE := p2_le hG8
  have sh := shl_N G hG8
  have hSU := SU_RC (p := p) (a := av C h) G t
  have e16 : Int32.toInt64 (16 - nI p) = lN (16 - p) := by rw [show (16 : Int32) = nI 16 from rfl, pk_sub (by omega), nI_l (by omega)]
  have ep : Int32.toInt64 (nI p) = lN p := nI_l (by omega)
  unfold wp_X10_roadOf b_X10_roadOf_0
  revert hE sh hSU
  generalize 2 ^ G = E
  intro hE sh hSU
  refine loop_0 (fun k m (s : Int64) => b_X10_roadOf_6 M post k (nI p) (nI h) (nI t) x4 s (nI m)) (fun m s => s = lN (SS (fun m => if sumM (av C h) m G < t then 0 else wM p m G) m)) E 0 rfl ?_ ?_
  · intro k s hs
    unfold b_X10_roadOf_6
    rw [hF.2.1, sh, hs, hSU, shl4 G hG8]
    refine ⟨fun _ => e_part (by omega) (by rw [← p16_2]; omega) (Nat.pow_pos (by omega)) hp, fun q => absurd (nI_le (Nat.le_refl E) (by omega)) q⟩
  · intro k m s hm hs ih
    unfold b_X10_roadOf_6
    rw [hF.2.1, sh]
    refine ⟨fun q => absurd q (nI_ge hm (by omega)), fun _ => ?_⟩
    refine loop_0 (fun k2 i (u : Int32 × Int64) => b_X10_roadOf_26 M post (b_X10_roadOf_6 M post k) k2 (nI p) (nI h) (nI t) x4 s (nI m) u.1 u.2 (nI i)) (fun i u => u.1 = nI (sumM (av C h) m i) ∧ u.2 = lN (wM p m i)) G (0, 1) ⟨rfl, rfl⟩ ?_ ?_
    · intro k2 u hu
      obtain ⟨x8, x9⟩ := u
      obtain ⟨u1, u2⟩ := hu
      dsimp only at u1 u2
      dsimp only
      unfold b_X10_roadOf_26
      rw [hF.2.1]
      refine ⟨fun _ v ev x5 e5 y ey => ?_, fun q => absurd (nI_le (Nat.le_refl G) (by omega)) q⟩
      rw [ey, nI_1]
      refine ih x5 ?_
      have sl := sumM_le (m := m) (k := G) (a := av C h) (fun i hi => (av_ok hC hi).1)
      have hv : v = lN (if sumM (av C h) m G < t then 0 else wM p m G) := by
        rw [ev, u1, u2]
        by_cases q : sumM (av C h) m G < t
        · rw [if_pos q, if_pos (nI_lt q (by omega))]; rfl
        · rw [if_neg q, if_neg (fun z => q ((nI_ltI (by omega) (by omega)).mp z))]
      rw [e5, hs, hv, lN_add]
      rfl
    · intro k2 i u hi hu ih2
      obtain ⟨x8, x9⟩ := u
      obtain ⟨u1, u2⟩ := hu
      dsimp only at u1 u2
      dsimp only
      obtain ⟨a1, a2⟩ := av_ok (h := h) hC hi
      have tb := tb_I m (by omega) i (by omega)
      have e8 : 8 * nI i + nI h = nI (8 * i + h) := by rw [show (8 : Int32) = nI 8 from rfl, pk_mul, nI_add]
      have nx : ∀ z0 : Int32, z0 = nI (if m.testBit i = true then av C h i else 0) → b_X10_roadOf_63 M post (b_X10_roadOf_6 M post k) (b_X10_roadOf_26 M post (b_X10_roadOf_6 M post k) k2) (nI p) (nI h) (nI t) x4 s (nI m) x9 (nI i) z0 x8 := by
        intro z0 ez
        unfold b_X10_roadOf_63
        intro y8 e8'
        rw [e_isIn, e16, ep]
        intro v ev y9 e9 z ezz
        rw [ezz, nI_1]
        refine ih2 (y8, y9) ⟨?_, ?_⟩
        · dsimp only
          rw [e8', u1, ez, nI_add]
          rfl
        · dsimp only
          have hv : v = lN (if m.testBit i = true then p else 16 - p) := by
            rw [ev]
            by_cases q : m.testBit i = true
            · rw [if_pos q, if_neg (by rw [bI_z]; exact fun w => w (tb.mpr q))]
            · rw [if_neg q, if_pos (by rw [bI_z]; exact fun w => q (tb.mp w))]
          rw [e9, u2, hv, lN_mul]
          rfl
      unfold b_X10_roadOf_26
      rw [hF.2.1, e_isIn, bI_z, e8, nI_clamp (by omega), (hF.2.2.2.2.1 i hi).1 h hh, a2]
      refine ⟨fun q => absurd q (nI_ge hi (by omega)), fun _ => ⟨fun q => nx 0 ?_, fun q => ⟨vp_in_nI (by omega) (by omega), nx _ ?_⟩⟩⟩
      · rw [if_neg (fun z => q (tb.mpr z))]; rfl
      · rw [if_pos (tb.mp (Classical.not_not.mp q))]
theorem p_road {C : Nat → Mem} {L : MemL} {M : Mem} (hR : REL C M) (x1 x2 x3 x4 : Int32) : wp_X9_road C L x1 x2 x3 x4 (fun r C' _ => wp_X10_road M x1 x2 x3 x4 (fun r' M' => r = r' ∧ REL C' M')) := by
  obtain ⟨N, G, hC⟩ := hR.cs
  have hN8 := hC.N8
  refine c_road hC (fun L' => ?_)
  unfold wp_X10_road b_X10_road_0
  refine e_find2 hR hC (fun M' hf hF => ?_)
  have hR' := hR.mf hf
  have no : ¬ (((0 ≤ x1 ∧ x1 ≤ 16) ∧ HB N x2) ∧ (0 ≤ x3 ∧ x3 ≤ 999) ∧ (0 ≤ x4 ∧ x4 ≤ 1)) → b_X10_road_56 (fun r' M' => F_road C N G x1 x2 x3 x4 = r' ∧ REL C M') M' := fun q => by
    unfold b_X10_road_56
    rw [e_no]
    refine ⟨?_, hR'⟩
    unfold F_road
    rw [if_neg q]
    decide
  rw [e_in (a := 0) (b := 16) x1 0 16 _ rfl rfl, bI_z]
  refine ⟨fun q => no (fun z => q z.1.1), fun q => ?_⟩
  have h1 : 0 ≤ x1 ∧ x1 ≤ 16 := Classical.not_not.mp q
  rw [e_isHouseM hN8 hF.1, bI_z]
  refine ⟨fun q => no (fun z => q z.1.2), fun q => ?_⟩
  have h2 : HB N x2 := Classical.not_not.mp q
  rw [e_in (a := 0) (b := 999) x3 0 999 _ rfl rfl, bI_z]
  refine ⟨fun q => no (fun z => q z.2.1), fun q => ?_⟩
  have h3 : 0 ≤ x3 ∧ x3 ≤ 999 := Classical.not_not.mp q
  rw [e_isTwo, bI_z]
  refine ⟨fun q => no (fun z => q z.2.2), fun q => ?_⟩
  have h4 : 0 ≤ x4 ∧ x4 ≤ 1 := Classical.not_not.mp q
  unfold F_road
  rw [if_pos ⟨⟨h1, h2⟩, h3, h4⟩]
  obtain ⟨p, hp16, rfl⟩ := rg_of (u := 16) (by omega) h1
  obtain ⟨h, hh, rfl⟩ := HB_of h2 hN8
  obtain ⟨t, ht, rfl⟩ := rg_of (u := 999) (by omega) h3
  rw [nI_clamp (by omega), nI_clamp (by omega), nI_clamp (by omega)]
  exact m_roadOf hC hF hp16 (by omega) ht ⟨rfl, hR'⟩
