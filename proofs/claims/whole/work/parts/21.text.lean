-- memories
theorem up2_app (m : Mem) (c i : Nat) (x : Int32) (a j : Nat) : up2 m c i x a j = if a = c then (if j = i then x else m c j) else m a j := by
  unfold up2 upd
  by_cases h : a = c <;> simp [h]
theorem up2_s (m : Mem) (c i : Nat) (x : Int32) : up2 m c i x c i = x := by simp [up2_app]
theorem up2_c (m : Mem) {c i : Nat} {x : Int32} {a : Nat} (h : a ≠ c) : up2 m c i x a = m a := by unfold up2; simp [h]
theorem up2_i (m : Mem) {c i : Nat} {x : Int32} {j : Nat} (h : j ≠ i) : up2 m c i x c j = m c j := by simp [up2_app, h]
theorem up3_s (C : Nat → Mem) (g : Nat) (m : Mem) : up3 C g m g = m := by simp [up3]
theorem up3_n (C : Nat → Mem) {g a : Nat} {m : Mem} (h : a ≠ g) : up3 C g m a = C a := by simp [up3, h]
theorem nI_ne_m1 {n : Nat} (h : n < 2 ^ 31) : ¬ nI n = (-1) := by
  rw [i_eq, nI_toInt h]
  have : (-1 : Int32).toInt = -1 := rfl
  omega
theorem nI_m1_ne {n : Nat} (h : n < 2 ^ 31) : ¬ (-1) = nI n := fun e => nI_ne_m1 h e.symm
-- prefixes
def pre (ok : Nat → Bool) : Nat → Nat
  | 0 => 0
  | n + 1 => if pre ok n < n then pre ok n else if ok n then n + 1 else n
theorem pre_le (ok : Nat → Bool) : ∀ n, pre ok n ≤ n
  | 0 => Nat.le_refl 0
  | n + 1 => by
    have h := pre_le ok n
    unfold pre
    split
    · omega
    · split <;> omega
theorem pre_all {ok : Nat → Bool} : ∀ {n : Nat}, (∀ j, j < n → ok j = true) → pre ok n = n
  | 0, _ => rfl
  | n + 1, h => by
    unfold pre
    rw [pre_all (fun j hj => h j (by omega)), if_neg (by omega), if_pos (h n (by omega))]
theorem pre_fst {ok : Nat → Bool} {i : Nat} (h : ∀ j, j < i → ok j = true) (hf : ok i = false) : ∀ {n : Nat}, i < n → pre ok n = i
  | 0, hi => absurd hi (Nat.not_lt_zero i)
  | n + 1, hi => by
    unfold pre
    rcases Nat.lt_or_ge i n with q | q
    · rw [pre_fst h hf q, if_pos q]
    · have e : i = n := by omega
      subst e
      rw [pre_all h, if_neg (by omega), if_neg (by rw [hf]; decide)]
theorem pre_ok {ok : Nat → Bool} : ∀ {n : Nat}, pre ok n = n → ∀ j, j < n → ok j = true
  | 0, _, j, hj => absurd hj (Nat.not_lt_zero j)
  | n + 1, h, j, hj => by
    unfold pre at h
    have hle := pre_le ok n
    split at h
    · omega
    · split at h
      · rcases Nat.lt_or_ge j n with q | q
        · exact pre_ok (by omega) j q
        · have e : j = n := by omega
          subst e
          assumption
      · omega
theorem pre_cong {ok ok' : Nat → Bool} : ∀ {n : Nat}, (∀ j, j < n → ok j = ok' j) → pre ok n = pre ok' n
  | 0, _ => rfl
  | n + 1, h => by
    unfold pre
    rw [pre_cong (fun j hj => h j (by omega)), h n (by omega)]
def FLT (ok : Nat → Bool) (n st : Nat) : Int32 := if pre ok n < n then nI (pre ok n) else if n = 0 ∨ n % st = st - 1 then (-1) else nI n
def NTH (ok : Nat → Bool) (n st : Nat) : Nat := if pre ok n < n then 0 else if n = 0 ∨ n % st = st - 1 then (n + 1) / st else 0
theorem FLT_cong {ok ok' : Nat → Bool} {n st : Nat} (h : ∀ j, j < n → ok j = ok' j) : FLT ok n st = FLT ok' n st := by unfold FLT; rw [pre_cong h]
theorem NTH_cong {ok ok' : Nat → Bool} {n st : Nat} (h : ∀ j, j < n → ok j = ok' j) : NTH ok n st = NTH ok' n st := by unfold NTH; rw [pre_cong h]
-- bytes
def kdI (b : Int32) : Int32 := if b = 112 then 0 else if b = 115 then 1 else if b = 118 then 3 else if b = 119 then 2 else (-1)
theorem e_kindOf (b : Int32) (post : Int32 → Prop) : wp_X7_kindOf b post = post (kdI b) := by
  unfold wp_X7_kindOf b_X7_kindOf_0 kdI
  by_cases h1 : b = 112
  · simp [h1]
  · by_cases h2 : b = 115
    · simp [h2]
    · by_cases h3 : b = 118
      · simp [h3]
      · by_cases h4 : b = 119 <;> simp [h1, h2, h3, h4]
def fitH (k : Nat) (b : Int32) : Bool := if k = 0 then decide (¬ kdI b = (-1)) else if k = 1 then decide (49 ≤ b ∧ b ≤ 57) else if k = 2 then decide (48 ≤ b ∧ b ≤ 57) else decide (b = 59)
def fitG (k : Nat) (b : Int32) : Bool := if k = 2 then decide (48 ≤ b ∧ b ≤ 55) else if k = 3 then decide (b = 117 ∨ b = 100) else if k = 5 then decide (b = 59) else decide (48 ≤ b ∧ b ≤ 57)
theorem e_fitsHouse {k : Nat} (hk : k < 4) (b : Int32) (post : Int32 → Prop) : wp_X7_fitsHouse (nI k) b post = post (bI (fitH k b = true)) := by
  unfold wp_X7_fitsHouse b_X7_fitsHouse_0
  have a1 : ∀ z : Int32, (¬ z < 49 ∧ ¬ 57 < z) = (49 ≤ z ∧ z ≤ 57) := fun z => propext (by simp only [i_le, i_lt]; omega)
  have a2 : ∀ z : Int32, (¬ z < 48 ∧ ¬ 57 < z) = (48 ≤ z ∧ z ≤ 57) := fun z => propext (by simp only [i_le, i_lt]; omega)
  rcases (show k = 0 ∨ k = 1 ∨ k = 2 ∨ k = 3 by omega) with rfl | rfl | rfl | rfl
  · simp only [show nI 0 = 0 from rfl, e_kindOf, fitH, bI]
    by_cases h : kdI b = (-1) <;> simp [h]
  · simp only [show nI 1 = 1 from rfl, fitH, bI, ← a1]
    by_cases h : b < 49 <;> by_cases h2 : 57 < b <;> simp [h, h2]
  · simp only [show nI 2 = 2 from rfl, fitH, bI, ← a2]
    by_cases h : b < 48 <;> by_cases h2 : 57 < b <;> simp [h, h2]
  · simp only [show nI 3 = 3 from rfl, fitH, bI]
    by_cases h : b = 59 <;> simp [h]
theorem e_fitsGuest {k : Nat} (hk : k < 6) (b : Int32) (post : Int32 → Prop) : wp_X7_fitsGuest (nI k) b post = post (bI (fitG k b = true)) := by
  unfold wp_X7_fitsGuest b_X7_fitsGuest_0
  have a1 : ∀ z : Int32, (¬ z < 48 ∧ ¬ 57 < z) = (48 ≤ z ∧ z ≤ 57) := fun z => propext (by simp only [i_le, i_lt]; omega)
  have a2 : ∀ z : Int32, (¬ z < 48 ∧ ¬ 55 < z) = (48 ≤ z ∧ z ≤ 55) := fun z => propext (by simp only [i_le, i_lt]; omega)
  rcases (show k = 0 ∨ k = 1 ∨ k = 2 ∨ k = 3 ∨ k = 4 ∨ k = 5 by omega) with rfl | rfl | rfl | rfl | rfl | rfl
  · simp only [show nI 0 = 0 from rfl, fitG, bI, ← a1]
    by_cases h : b < 48 <;> by_cases h2 : 57 < b <;> simp [h, h2]
  · simp only [show nI 1 = 1 from rfl, fitG, bI, ← a1]
    by_cases h : b < 48 <;> by_cases h2 : 57 < b <;> simp [h, h2]
  · simp only [show nI 2 = 2 from rfl, fitG, bI, ← a2]
    by_cases h : b < 48 <;> by_cases h2 : 55 < b <;> simp [h, h2]
  · simp only [show nI 3 = 3 from rfl, fitG, bI]
    by_cases h : b = 117 <;> by_cases h2 : b = 100 <;> simp [h, h2]
  · simp only [show nI 4 = 4 from rfl, fitG, bI, ← a1]
    by_cases h : b < 48 <;> by_cases h2 : 57 < b <;> simp [h, h2]
  · simp only [show nI 5 = 5 from rfl, fitG, bI]
    by_cases h : b = 59 <;> simp [h]
def stT (hs : Bool) : Nat := if hs then 4 else 6
def fitT (hs : Bool) (k : Nat) (b : Int32) : Bool := if hs then fitH k b else fitG k b
def okT (hs : Bool) (b : Nat → Int32) (i : Nat) : Bool := fitT hs (i % stT hs) (b i)
/-- a Text's memory, with n bytes of at most n0 -/
def TXT (hs : Bool) (n0 n : Nat) (m : Mem) : Prop := m 0 0 = (if hs then 1 else 0) ∧ m 0 1 = nI (stT hs) ∧ m 0 3 = nI n ∧ n ≤ n0 ∧ n0 ≤ 47
theorem e_firstFault {hs : Bool} {n0 n : Nat} {m : Mem} (hT : TXT hs n0 n m) {post : Int32 → Prop} (h : post (FLT (okT hs (m 1)) n (stT hs))) : wp_X7_firstFault n0 m post := by
  obtain ⟨h0, h1, h3, hn, hn0⟩ := hT
  have hst : 4 ≤ stT hs ∧ stT hs ≤ 6 := by cases hs <;> decide
  have hne : ¬ nI (stT hs) = 0 := nI_ne0 (by omega) (by omega)
  unfold wp_X7_firstFault b_X7_firstFault_0
  refine loop_0 (fun k i (_ : Unit) => b_X7_firstFault_2 n0 m post k (nI i)) (fun i _ => ∀ j, j < i → okT hs (m 1) j = true) n () (fun j hj => absurd hj (Nat.not_lt_zero j)) ?_ ?_
  · intro k _ hI
    unfold b_X7_firstFault_2
    have hp := pre_all hI
    unfold FLT at h
    rw [hp, if_neg (Nat.lt_irrefl n)] at h
    rw [h3, h1]
    refine ⟨fun _ => ⟨fun e => ?_, fun e => ⟨hne, ?_⟩⟩, fun q => absurd (nI_le (Nat.le_refl n) (by omega)) q⟩
    · unfold b_X7_firstFault_85 b_X7_firstFault_90
      have e2 : n = 0 := (nI_eq (by omega) (by omega)).mp (show nI n = nI 0 from e)
      rw [if_pos (Or.inl e2)] at h
      simpa using h
    · rw [pk_rem (by omega) (by omega) (by omega), show (1 : Int32) = nI 1 from rfl, pk_sub (by omega), nI_eq (Nat.lt_of_le_of_lt (Nat.mod_le _ _) (by omega)) (by omega)]
      have hn0' : n ≠ 0 := fun q => e (by rw [q]; rfl)
      refine ⟨fun q => ?_, fun q => ?_⟩
      · rw [if_neg (by omega)] at h
        unfold b_X7_firstFault_90
        simpa [h3] using h
      · rw [if_pos (Or.inr q)] at h
        unfold b_X7_firstFault_85 b_X7_firstFault_90
        simpa using h
  · intro k i _ hi hI ih
    unfold b_X7_firstFault_2
    rw [h3, h1]
    refine ⟨fun q => absurd q (nI_ge hi (by omega)), fun _ => ⟨hne, ?_⟩⟩
    intro x2 ex2
    rw [pk_rem (by omega) (by omega) (by omega)] at ex2
    subst ex2
    have hv : vp_in (nI i) n0 := vp_in_nI (by omega) (by omega)
    have hm : i % stT hs < stT hs := Nat.mod_lt _ (by omega)
    have fin : ∀ r : Int32, r = bI (okT hs (m 1) i = true) → b_X7_firstFault_47 n0 m post (b_X7_firstFault_2 n0 m post k) (nI i) r := by
      intro r er
      subst er
      unfold b_X7_firstFault_47
      rw [bI_z]
      refine ⟨fun q => ?_, fun q => ?_⟩
      · intro y ey
        subst ey
        rw [nI_1]
        refine ih () (lt_s hI (by simpa using q))
      · unfold FLT at h
        rw [pre_fst hI (by simpa using q) hi, if_pos hi] at h
        exact h
    rw [nI_clamp (by omega), h0]
    cases hs with
    | true =>
      refine ⟨fun q => absurd q (by decide), fun _ => ⟨hv, ?_⟩⟩
      rw [e_fitsHouse hm]
      exact fin _ rfl
    | false =>
      refine ⟨fun _ => ⟨hv, ?_⟩, fun q => absurd rfl q⟩
      rw [e_fitsGuest hm]
      exact fin _ rfl
theorem FLT_none {ok : Nat → Bool} {n st : Nat} (hn : n < 2 ^ 31) : FLT ok n st = (-1) ↔ pre ok n = n ∧ (n = 0 ∨ n % st = st - 1) := by
  have hle := pre_le ok n
  unfold FLT
  split
  · exact ⟨fun q => absurd q (nI_ne_m1 (by omega)), fun q => by omega⟩
  · split
    · exact ⟨fun _ => ⟨by omega, by assumption⟩, fun _ => rfl⟩
    · exact ⟨fun q => absurd q (nI_ne_m1 (by omega)), fun q => absurd q.2 (by assumption)⟩
theorem NTH_eq {ok : Nat → Bool} {n st : Nat} (hn : n < 2 ^ 31) : NTH ok n st = if FLT ok n st = (-1) then (n + 1) / st else 0 := by
  have hle := pre_le ok n
  by_cases h : FLT ok n st = (-1)
  · rw [if_pos h]
    obtain ⟨h1, h2⟩ := (FLT_none hn).mp h
    unfold NTH
    rw [if_neg (by omega), if_pos h2]
  · rw [if_neg h]
    unfold NTH
    split
    · rfl
    · rw [if_neg]
      intro q
      exact h ((FLT_none hn).mpr ⟨by omega, q⟩)
theorem e_things {hs : Bool} {n0 n : Nat} {m : Mem} (hT : TXT hs n0 n m) {post : Int32 → Prop} (h : post (nI (NTH (okT hs (m 1)) n (stT hs)))) : wp_X7_things n0 m post := by
  obtain ⟨h0, h1, h3, hn, hn0⟩ := id hT
  have hst : 4 ≤ stT hs ∧ stT hs ≤ 6 := by cases hs <;> decide
  unfold wp_X7_things b_X7_things_0
  refine e_firstFault hT ?_
  rw [NTH_eq (by omega)] at h
  refine ⟨fun q => ?_, fun q => ⟨?_, ?_⟩⟩
  · rw [if_neg q] at h
    exact h
  · rw [h1]
    exact nI_ne0 (by omega) (by omega)
  · rw [if_pos q] at h
    rw [h3, h1, nI_1, pk_div (by omega) (by omega) (by omega)]
    exact h
theorem e_byteOf {hs : Bool} {n0 n : Nat} {m : Mem} (hT : TXT hs n0 n m) {t k : Nat} (h2 : t * stT hs + k < n) {post : Int32 → Prop} (h : post (m 1 (t * stT hs + k))) : wp_X7_byteOf n0 m (nI t) (nI k) post := by
  obtain ⟨h0, h1, h3, hn, hn0⟩ := id hT
  unfold wp_X7_byteOf b_X7_byteOf_0
  intro x ex
  rw [h1, pk_mul, nI_add] at ex
  subst ex
  rw [h3]
  refine ⟨fun q => absurd q (nI_pos (by omega)), fun _ => ⟨fun q => absurd q (nI_ge h2 (by omega)), fun _ => ⟨vp_in_nI (by omega) (by omega), ?_⟩⟩⟩
  rw [nI_clamp (by omega)]
  exact h
theorem e_figureOf {hs : Bool} {n0 n : Nat} {m : Mem} (hT : TXT hs n0 n m) {t k : Nat} (h2 : t * stT hs + k < n) {post : Int32 → Prop} (h : post (m 1 (t * stT hs + k) - 48)) : wp_X7_figureOf n0 m (nI t) (nI k) post := by
  unfold wp_X7_figureOf b_X7_figureOf_0
  exact e_byteOf hT h2 h
theorem NTH_lt {ok : Nat → Bool} {n st t : Nat} (h : t < NTH ok n st) (hst : 1 < st) : t * st + (st - 1) ≤ n ∧ NTH ok n st * st = n + 1 ∧ pre ok n = n := by
  have hle := pre_le ok n
  unfold NTH at h ⊢
  split at h
  · omega
  · rename_i h1
    rw [if_neg h1]
    split at h
    · rename_i h2
      rw [if_pos h2]
      have h3 : n % st = st - 1 := by
        rcases h2 with e | e
        · subst e
          simp only [Nat.zero_add] at h
          rw [Nat.div_eq_of_lt (by omega)] at h
          omega
        · exact e
      have h4 := Nat.div_add_mod n st
      have h5 : (n + 1) / st = n / st + 1 := by
        have : n + 1 = st * (n / st + 1) := by rw [Nat.mul_add]; omega
        rw [this, Nat.mul_div_cancel_left _ (by omega)]
      rw [h5] at h ⊢
      have h6 : t ≤ n / st := by omega
      have h7 : t * st ≤ n / st * st := Nat.mul_le_mul_right _ h6
      rw [Nat.mul_comm (n / st) st] at h7
      refine ⟨by omega, ?_, by omega⟩
      rw [Nat.add_mul, Nat.mul_comm (n / st) st]
      omega
    · omega
