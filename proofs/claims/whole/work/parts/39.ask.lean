-- ask
def inS (x : Int32) (k : Nat) : Prop := ¬ ((x >>> (nI k &&& 31)) &&& 1) = 0
def cnt (x : Int32) (gv : Nat → Int32) (a : Nat) : Nat → Int32
  | 0 => 0
  | k + 1 => if ((x >>> (nI k &&& 31)) &&& 1) = 0 then cnt x gv a k else if gv k = gv a then cnt x gv a k + 1 else cnt x gv a k
theorem cnt_o {x : Int32} {gv : Nat → Int32} {a k : Nat} (h : ((x >>> (nI k &&& 31)) &&& 1) = 0) : cnt x gv a (k + 1) = cnt x gv a k := by
  show (if ((x >>> (nI k &&& 31)) &&& 1) = 0 then cnt x gv a k else if gv k = gv a then cnt x gv a k + 1 else cnt x gv a k) = _
  rw [if_pos h]
theorem cnt_y {x : Int32} {gv : Nat → Int32} {a k : Nat} (h : ¬ ((x >>> (nI k &&& 31)) &&& 1) = 0) (h2 : gv k = gv a) : cnt x gv a (k + 1) = cnt x gv a k + 1 := by
  show (if ((x >>> (nI k &&& 31)) &&& 1) = 0 then cnt x gv a k else if gv k = gv a then cnt x gv a k + 1 else cnt x gv a k) = _
  rw [if_neg h, if_pos h2]
theorem cnt_n {x : Int32} {gv : Nat → Int32} {a k : Nat} (h : ¬ ((x >>> (nI k &&& 31)) &&& 1) = 0) (h2 : ¬ gv k = gv a) : cnt x gv a (k + 1) = cnt x gv a k := by
  show (if ((x >>> (nI k &&& 31)) &&& 1) = 0 then cnt x gv a k else if gv k = gv a then cnt x gv a k + 1 else cnt x gv a k) = _
  rw [if_neg h, if_neg h2]
theorem cnt_rng {x : Int32} {gv : Nat → Int32} {a : Nat} : ∀ {k : Nat}, ∃ n, n ≤ k ∧ cnt x gv a k = nI n
  | 0 => ⟨0, Nat.le_refl 0, rfl⟩
  | k + 1 => by
    obtain ⟨n, hn, e⟩ := cnt_rng (x := x) (gv := gv) (a := a) (k := k)
    by_cases h : ((x >>> (nI k &&& 31)) &&& 1) = 0
    · exact ⟨n, by omega, (cnt_o h).trans e⟩
    · by_cases h2 : gv k = gv a
      · exact ⟨n + 1, by omega, (cnt_y h h2).trans (by rw [e, nI_1])⟩
      · exact ⟨n, by omega, (cnt_n h h2).trans e⟩
def MA (x : Int32) (gv : Nat → Int32) (G : Nat) : Nat → Int32
  | 0 => 0
  | k + 1 => if ((x >>> (nI k &&& 31)) &&& 1) = 0 then MA x gv G k else if MA x gv G k < cnt x gv k G then cnt x gv k G else MA x gv G k
theorem MA_o {x : Int32} {gv : Nat → Int32} {G k : Nat} (h : ((x >>> (nI k &&& 31)) &&& 1) = 0) : MA x gv G (k + 1) = MA x gv G k := by
  show (if ((x >>> (nI k &&& 31)) &&& 1) = 0 then MA x gv G k else if MA x gv G k < cnt x gv k G then cnt x gv k G else MA x gv G k) = _
  rw [if_pos h]
theorem MA_i {x : Int32} {gv : Nat → Int32} {G k : Nat} (h : ¬ ((x >>> (nI k &&& 31)) &&& 1) = 0) : MA x gv G (k + 1) = if MA x gv G k < cnt x gv k G then cnt x gv k G else MA x gv G k := by
  show (if ((x >>> (nI k &&& 31)) &&& 1) = 0 then MA x gv G k else if MA x gv G k < cnt x gv k G then cnt x gv k G else MA x gv G k) = _
  rw [if_neg h]
theorem MA_rng {x : Int32} {gv : Nat → Int32} {G : Nat} : ∀ {k : Nat}, ∃ n, n ≤ G ∧ MA x gv G k = nI n
  | 0 => ⟨0, Nat.zero_le G, rfl⟩
  | k + 1 => by
    obtain ⟨n, hn, e⟩ := MA_rng (x := x) (gv := gv) (G := G) (k := k)
    obtain ⟨c, hc, e2⟩ := cnt_rng (x := x) (gv := gv) (a := k) (k := G)
    by_cases h : ((x >>> (nI k &&& 31)) &&& 1) = 0
    · exact ⟨n, by omega, (MA_o h).trans e⟩
    · rw [MA_i h]
      split
      · exact ⟨c, hc, e2⟩
      · exact ⟨n, hn, e⟩
theorem c_alikeTo {C : Nat → Mem} {L : MemL} {N G a h : Nat} {x : Int32} (hC : CS C N G) (ha : a < G) (hh : h < 8) {post : Int32 → Prop} (hp : post (cnt x (fun g => gvW (WAYS (C 3) (C 4) g) h) a G)) : wp_X9_alikeTo C L (nI a) (nI h) x post := by
  have hG8 := hC.1
  unfold wp_X9_alikeTo b_X9_alikeTo_0
  refine loop_0 (fun k i (s : Int32) => b_X9_alikeTo_6 C L post k (nI a) (nI h) x s (nI i)) (fun i s => s = cnt x (fun g => gvW (WAYS (C 3) (C 4) g) h) a i) G 0 rfl ?_ ?_
  · intro k s hs
    unfold b_X9_alikeTo_6
    rw [hC.2.2.1, hs]
    exact ⟨fun _ => hp, fun q => absurd (nI_le (Nat.le_refl G) (by omega)) q⟩
  · intro k i s hi hs ih
    have nx : ∀ s' : Int32, s' = cnt x (fun g => gvW (WAYS (C 3) (C 4) g) h) a (i + 1) → b_X9_alikeTo_52 C L post (b_X9_alikeTo_6 C L post k) (nI a) (nI h) x s' (nI i) := by
      intro s' e
      unfold b_X9_alikeTo_52
      intro y ey
      rw [ey, nI_1]
      exact ih s' e
    unfold b_X9_alikeTo_6
    rw [hC.2.2.1]
    refine ⟨fun q => absurd q (nI_ge hi (by omega)), fun _ => ⟨fun q => nx s (by rw [cnt_o q]; exact hs), fun q => e_gaveTo hC hi hh (e_gaveTo hC ha hh ⟨fun q2 => nx s (by rw [cnt_n q q2]; exact hs), fun q2 y ey => nx y (by rw [cnt_y q q2, ey, hs])⟩)⟩⟩
theorem c_mostAlike {C : Nat → Mem} {L : MemL} {N G h : Nat} {x : Int32} (hC : CS C N G) (hh : h < 8) {post : Int32 → Prop} (hp : post (MA x (fun g => gvW (WAYS (C 3) (C 4) g) h) G G)) : wp_X9_mostAlike C L (nI h) x post := by
  have hG8 := hC.1
  unfold wp_X9_mostAlike b_X9_mostAlike_0
  refine loop_0 (fun k i (s : Int32) => b_X9_mostAlike_5 C L post k (nI h) x s (nI i)) (fun i s => s = MA x (fun g => gvW (WAYS (C 3) (C 4) g) h) G i) G 0 rfl ?_ ?_
  · intro k s hs
    unfold b_X9_mostAlike_5
    rw [hC.2.2.1, hs]
    exact ⟨fun _ => hp, fun q => absurd (nI_le (Nat.le_refl G) (by omega)) q⟩
  · intro k i s hi hs ih
    have nx : ∀ s' : Int32, s' = MA x (fun g => gvW (WAYS (C 3) (C 4) g) h) G (i + 1) → b_X9_mostAlike_39 C L post (b_X9_mostAlike_5 C L post k) (nI h) x s' (nI i) := by
      intro s' e
      unfold b_X9_mostAlike_39
      intro y ey
      rw [ey, nI_1]
      exact ih s' e
    unfold b_X9_mostAlike_5
    rw [hC.2.2.1]
    refine ⟨fun q => absurd q (nI_ge hi (by omega)), fun _ => ⟨fun q => nx s (by rw [MA_o q]; exact hs), fun q => c_alikeTo hC hi hh (fun y ey => nx y ?_)⟩⟩
    rw [MA_i q, ey, hs]
theorem and1' {x : Int32} {k : Nat} : ((x >>> (nI k &&& 31)) &&& 1 = 1) ↔ ¬ ((x >>> (nI k &&& 31)) &&& 1) = 0 := by
  rcases and1 (x >>> (nI k &&& 31)) with e | e <;> rw [e] <;> decide
theorem m_mostAlike {C : Nat → Mem} {M : Mem} {N G h : Nat} {x : Int32} (hC : CS C N G) (hF : FND C N G M) (hh : h < 8) {post : Int32 → Prop} (hp : post (MA x (fun g => gvW (WAYS (C 3) (C 4) g) h) G G)) : wp_X10_mostAlike M (nI h) x post := by
  have hG8 := hC.1
  unfold wp_X10_mostAlike b_X10_mostAlike_0
  refine loop_0 (fun k i (s : Int32) => b_X10_mostAlike_5 M post k (nI h) x s (nI i)) (fun i s => s = MA x (fun g => gvW (WAYS (C 3) (C 4) g) h) G i) G 0 rfl ?_ ?_
  · intro k s hs
    unfold b_X10_mostAlike_5
    rw [hF.2.1, hs]
    exact ⟨fun _ => hp, fun q => absurd (nI_le (Nat.le_refl G) (by omega)) q⟩
  · intro k i s hi hs ih
    unfold b_X10_mostAlike_5
    rw [hF.2.1]
    refine ⟨fun q => absurd q (nI_ge hi (by omega)), fun _ => ?_⟩
    have e8 : ∀ a, 8 * nI a + nI h = nI (8 * a + h) := fun a => by rw [show (8 : Int32) = nI 8 from rfl, pk_mul, nI_add]
    refine loop_0 (fun k2 j (t : Int32) => b_X10_mostAlike_20 M post (b_X10_mostAlike_5 M post k) k2 (nI h) x s (nI i) t (nI j)) (fun j t => t = if ((x >>> (nI i &&& 31)) &&& 1) = 0 then 0 else cnt x (fun g => gvW (WAYS (C 3) (C 4) g) h) i j) G 0 (by split <;> rfl) ?_ ?_
    · intro k2 t ht
      unfold b_X10_mostAlike_20
      rw [hF.2.1]
      refine ⟨fun _ v ev y ey => ?_, fun q => absurd (nI_le (Nat.le_refl G) (by omega)) q⟩
      rw [ey, nI_1]
      refine ih v ?_
      obtain ⟨n, hn, en⟩ := MA_rng (x := x) (gv := fun g => gvW (WAYS (C 3) (C 4) g) h) (G := G) (k := i)
      rw [ev, ht, hs]
      by_cases q : ((x >>> (nI i &&& 31)) &&& 1) = 0
      · rw [MA_o q, if_pos q, if_pos (by rw [en]; exact nI_le (a := 0) (by omega) (by omega))]
      · rw [MA_i q, if_neg q]
        by_cases q2 : cnt x (fun g => gvW (WAYS (C 3) (C 4) g) h) i G ≤ MA x (fun g => gvW (WAYS (C 3) (C 4) g) h) G i
        · rw [if_pos q2, if_neg (by rw [i_nlt]; exact q2)]
        · rw [if_neg q2, if_pos (by rw [← i_nle]; exact q2)]
    · intro k2 j t hj ht ih2
      have nx : ∀ z0 z1 : Int32, (z1 + z0 = if ((x >>> (nI i &&& 31)) &&& 1) = 0 then 0 else cnt x (fun g => gvW (WAYS (C 3) (C 4) g) h) i (j + 1)) → b_X10_mostAlike_81 M post (b_X10_mostAlike_5 M post k) (b_X10_mostAlike_20 M post (b_X10_mostAlike_5 M post k) k2) (nI h) x s (nI i) (nI j) z0 z1 := by
        intro z0 z1 e
        unfold b_X10_mostAlike_81
        intro y ey z ez
        rw [ez, nI_1]
        exact ih2 y (by rw [ey]; exact e)
      have nx0 : (t = if ((x >>> (nI i &&& 31)) &&& 1) = 0 then 0 else cnt x (fun g => gvW (WAYS (C 3) (C 4) g) h) i (j + 1)) → b_X10_mostAlike_80 M post (b_X10_mostAlike_5 M post k) (b_X10_mostAlike_20 M post (b_X10_mostAlike_5 M post k) k2) (nI h) x s (nI i) (nI j) t := by
        intro e
        unfold b_X10_mostAlike_80
        exact nx 0 t (by rw [Int32.add_zero]; exact e)
      unfold b_X10_mostAlike_20
      rw [hF.2.1, e_isIn, bI_z, e8, e8, nI_clamp (by omega), nI_clamp (by omega), (hF.2.2.2.2.1 i hi).1 h hh, (hF.2.2.2.2.1 j hj).1 h hh]
      refine ⟨fun q => absurd q (nI_ge hj (by omega)), fun _ => ⟨fun q => nx0 ?_, fun q => ?_⟩⟩
      · have q' : ((x >>> (nI i &&& 31)) &&& 1) = 0 := Classical.byContradiction (fun z => q (and1'.mpr z))
        rw [ht, if_pos q', if_pos q']
      · have q' := and1'.mp (Classical.not_not.mp q)
        rw [if_neg q'] at ht nx0 nx
        rw [e_isIn, bI_z]
        refine ⟨fun q2 => nx0 ?_, fun q2 => ⟨vp_in_nI (by omega) (by omega), vp_in_nI (by omega) (by omega), fun q3 => nx0 ?_, fun q3 => nx _ _ ?_⟩⟩
        · rw [cnt_o (Classical.byContradiction (fun z => q2 (and1'.mpr z)))]; exact ht
        · rw [cnt_n (and1'.mp (Classical.not_not.mp q2)) (fun z => q3 z.symm)]; exact ht
        · rw [cnt_y (and1'.mp (Classical.not_not.mp q2)) q3.symm, ht]
def AK (f : Nat → Int32) : Nat → Option Nat
  | 0 => none
  | k + 1 => match AK f k with
    | none => some k
    | some b => if f b ≤ f k then some b else some k
theorem AK_n {f : Nat → Int32} {k : Nat} (h : AK f k = none) : AK f (k + 1) = some k := by
  show (match AK f k with | none => some k | some b => if f b ≤ f k then some b else some k) = some k
  rw [h]
theorem AK_s {f : Nat → Int32} {k b : Nat} (h : AK f k = some b) : AK f (k + 1) = if f b ≤ f k then some b else some k := by
  show (match AK f k with | none => some k | some b => if f b ≤ f k then some b else some k) = _
  rw [h]
theorem AK_lt {f : Nat → Int32} : ∀ {k b : Nat}, AK f k = some b → b < k
  | 0, b, h => by simp [AK] at h
  | k + 1, b, h => by
    cases hc : AK f k with
    | none => rw [AK_n hc] at h; cases h; omega
    | some c =>
      rw [AK_s hc] at h
      have := AK_lt hc
      split at h <;> cases h <;> omega
def oZ (f : Nat → Int32) (o : Option Nat) : Int32 := match o with
  | none => 0
  | some b => f b
def akF (C : Nat → Mem) (N G h : Nat) : Int32 := MA (F_twice C N G) (fun g => gvW (WAYS (C 3) (C 4) g) h) G G
def F_ask (C : Nat → Mem) (N G : Nat) : Int32 := oI1 (AK (akF C N G) N)
theorem c_ask {C : Nat → Mem} {L : MemL} {N G : Nat} (hC : CS C N G) (h8 : nSg C ≤ 8) (hs : C 6 0 2 = nI (nSg C)) {post : Int32 → Prop} (hp : post (F_ask C N G)) : wp_X9_ask C L post := by
  have hN8 := hC.N8
  unfold wp_X9_ask b_X9_ask_0
  refine c_twice hC h8 hs ?_
  unfold F_ask at hp
  refine loop_0 (fun k i (u : Int32 × Int32) => b_X9_ask_12 C L post k (F_twice C N G) u.1 u.2 (nI i)) (fun i u => u.1 = oI1 (AK (akF C N G) i) ∧ u.2 = oZ (akF C N G) (AK (akF C N G) i)) N ((-1), 0) ⟨rfl, rfl⟩ ?_ ?_
  · intro k u hu
    unfold b_X9_ask_12
    rw [hC.nH, hu.1]
    exact ⟨fun _ => hp, fun q => absurd (nI_le (Nat.le_refl N) (by omega)) q⟩
  · intro k i u hi hu ih
    obtain ⟨x2, x3⟩ := u
    obtain ⟨e2, e3⟩ := hu
    dsimp only at e2 e3
    dsimp only
    have nx : ∀ y2 y3 : Int32, y2 = oI1 (AK (akF C N G) (i + 1)) → y3 = oZ (akF C N G) (AK (akF C N G) (i + 1)) → b_X9_ask_50 C L post (b_X9_ask_12 C L post k) (F_twice C N G) y2 y3 (nI i) := by
      intro y2 y3 a1 a2
      unfold b_X9_ask_50
      intro y ey
      rw [ey, nI_1]
      exact ih (y2, y3) ⟨a1, a2⟩
    unfold b_X9_ask_12
    rw [hC.nH]
    refine ⟨fun q => absurd q (nI_ge hi (by omega)), fun _ => c_mostAlike hC (by omega) ?_⟩
    show (x2 = (-1) → b_X9_ask_44 C L post _ _ _ (akF C N G i)) ∧ (¬ x2 = (-1) → ((x3 ≤ akF C N G i → _) ∧ (¬ x3 ≤ akF C N G i → b_X9_ask_44 C L post _ _ _ (akF C N G i))))
    cases hb : AK (akF C N G) i with
    | none =>
      rw [hb] at e2
      have hn := AK_n hb
      refine ⟨fun _ => ?_, fun q => absurd e2 q⟩
      unfold b_X9_ask_44
      exact nx _ _ (by rw [hn]; rfl) (by rw [hn]; rfl)
    | some b =>
      have hbl := AK_lt hb
      rw [hb] at e2 e3
      have hn := AK_s hb
      refine ⟨fun q => absurd (e2 ▸ q) (nI_ne_m1 (by omega)), fun _ => ⟨fun q => nx _ _ ?_ ?_, fun q => ?_⟩⟩
      · rw [hn, if_pos (show akF C N G b ≤ akF C N G i by rw [e3] at q; exact q)]; exact e2
      · rw [hn, if_pos (show akF C N G b ≤ akF C N G i by rw [e3] at q; exact q)]; exact e3
      · unfold b_X9_ask_44
        have hn' : AK (akF C N G) (i + 1) = some i := by rw [hn, if_neg (show ¬ akF C N G b ≤ akF C N G i by rw [e3] at q; exact q)]
        exact nx _ _ (by rw [hn']; rfl) (by rw [hn']; rfl)
theorem m_askNow {C : Nat → Mem} {M : Mem} {N G : Nat} (hC : CS C N G) (hF : FND C N G M) (hS : SGT C M) {post : Int32 → Prop} (hp : post (F_ask C N G)) : wp_X10_askNow M post := by
  have hN8 := hC.N8
  unfold wp_X10_askNow b_X10_askNow_0
  refine m_twiceNow hC hF hS ?_
  unfold F_ask at hp
  refine loop_0 (fun k i (u : Int32 × Int32) => b_X10_askNow_12 M post k (F_twice C N G) u.1 u.2 (nI i)) (fun i u => u.1 = oI1 (AK (akF C N G) i) ∧ u.2 = oZ (akF C N G) (AK (akF C N G) i)) N ((-1), 0) ⟨rfl, rfl⟩ ?_ ?_
  · intro k u hu
    unfold b_X10_askNow_12
    rw [hF.1, hu.1]
    exact ⟨fun _ => hp, fun q => absurd (nI_le (Nat.le_refl N) (by omega)) q⟩
  · intro k i u hi hu ih
    obtain ⟨x2, x3⟩ := u
    obtain ⟨e2, e3⟩ := hu
    dsimp only at e2 e3
    dsimp only
    have keep : AK (akF C N G) (i + 1) = AK (akF C N G) i → b_X10_askNow_46 M post (b_X10_askNow_12 M post k) (F_twice C N G) x2 x3 (nI i) (akF C N G i) 0 := by
      intro e
      unfold b_X10_askNow_46
      intro v ev w ew y ey
      rw [ey, nI_1]
      exact ih (v, w) ⟨by rw [e, ev, if_pos rfl]; exact e2, by rw [e, ew, if_pos rfl]; exact e3⟩
    have take : AK (akF C N G) (i + 1) = some i → b_X10_askNow_41 M post (b_X10_askNow_12 M post k) (F_twice C N G) x2 x3 (nI i) (akF C N G i) := by
      intro e
      unfold b_X10_askNow_41 b_X10_askNow_46
      intro v ev w ew y ey
      rw [ey, nI_1]
      exact ih (v, w) ⟨by rw [e, ev, if_neg (by decide)]; rfl, by rw [e, ew, if_neg (by decide)]; rfl⟩
    unfold b_X10_askNow_12
    rw [hF.1]
    refine ⟨fun q => absurd q (nI_ge hi (by omega)), fun _ => m_mostAlike hC hF (by omega) ?_⟩
    show (x2 = (-1) → b_X10_askNow_41 M post _ _ _ _ _ (akF C N G i)) ∧ (¬ x2 = (-1) → ((x3 ≤ akF C N G i → b_X10_askNow_46 M post _ _ _ _ _ (akF C N G i) 0) ∧ (¬ x3 ≤ akF C N G i → b_X10_askNow_41 M post _ _ _ _ _ (akF C N G i))))
    cases hb : AK (akF C N G) i with
    | none =>
      rw [hb] at e2
      exact ⟨fun _ => take (AK_n hb), fun q => absurd e2 q⟩
    | some b =>
      have hbl := AK_lt hb
      rw [hb] at e2 e3
      have hn := AK_s hb
      refine ⟨fun q => absurd (e2 ▸ q) (nI_ne_m1 (by omega)), fun _ => ⟨fun q => keep ?_, fun q => take ?_⟩⟩
      · rw [hn, if_pos (show akF C N G b ≤ akF C N G i by rw [e3] at q; exact q), hb]
      · rw [hn, if_neg (show ¬ akF C N G b ≤ akF C N G i by rw [e3] at q; exact q)]
theorem p_ask {C : Nat → Mem} {L : MemL} {M : Mem} (hR : REL C M) : wp_X9_ask C L (fun r => wp_X10_ask M (fun r' M' => r = r' ∧ REL C M')) := by
  obtain ⟨N, G, hC⟩ := hR.cs
  have hn := hR.sg.n
  refine c_ask hC hn.1 hn.2.1 ?_
  unfold wp_X10_ask b_X10_ask_0
  exact e_find2 hR hC (fun M' hf hF => m_askNow hC hF (hf.sg hR.sg) ⟨rfl, hR.mf hf⟩)
-- season
theorem ushr16 (v : Int32) : ∃ m, m < 65536 ∧ ushr v 16 = nI m := by
  have hl := v.toBitVec.isLt
  refine ⟨v.toBitVec.toNat / 65536, by omega, ?_⟩
  apply Int32.toBitVec_inj.mp
  apply BitVec.eq_of_toNat_eq
  rw [pk_tn (by omega)]
  exact pk_ushr v 16 16 (by decide)
def lotI (l : Int32) : Int32 := (1103515245 * l) + 12345
def seaV (C : Nat → Mem) (h : Nat) (x4 : Int32) (g : Nat) : Int32 := if x4 = 0 then gvW (WAYS (C 3) (C 4) g) h else if slW (WAYS (C 3) (C 4) g) = nI h then 1 else 0
def SEA (G : Nat) (v : Nat → Int32) (l : Int32) : Nat → Int32 × Int32
  | 0 => (l, 0)
  | k + 1 => (lotI (SEA G v l k).1, (SEA G v l k).2 + v ((ushr (lotI (SEA G v l k).1) 16) - (ushr (lotI (SEA G v l k).1) 16) / nI G * nI G).toNatClampNeg)
theorem lot_rng {G : Nat} (h0 : 0 < G) (h8 : G ≤ 8) (l : Int32) : ∃ g, g < G ∧ (ushr l 16) - (ushr l 16) / nI G * nI G = nI g := by
  obtain ⟨m, hm, e⟩ := ushr16 l
  refine ⟨m % G, Nat.mod_lt m h0, ?_⟩
  rw [e, pk_rem (by omega) h0 (by omega)]
def F_season (C : Nat → Mem) (N G : Nat) (x1 x2 x3 x4 : Int32) : Int32 := if (1 ≤ x2 ∧ x2 ≤ 99) ∧ HB N x3 ∧ (0 ≤ x4 ∧ x4 ≤ 1) then (if G = 0 then 0 else (SEA G (seaV C x3.toNatClampNeg x4) x1 x2.toNatClampNeg).2) else (-2)
theorem one_of {x : Int32} (h : 1 ≤ x ∧ x ≤ 99) : ∃ n, 1 ≤ n ∧ n ≤ 99 ∧ x = nI n := by
  have h0 : 0 ≤ x ∧ x ≤ nI 99 := by
    refine ⟨?_, h.2⟩
    have a := (i_le _ _).mp h.1
    rw [i_le]
    have : (1 : Int32).toInt = 1 := rfl
    have : (0 : Int32).toInt = 0 := rfl
    omega
  obtain ⟨n, hn, e⟩ := rg_of (by omega) h0
  refine ⟨n, ?_, hn, e⟩
  have a := (i_le _ _).mp h.1
  rw [e, nI_toInt (by omega)] at a
  have : (1 : Int32).toInt = 1 := rfl
  omega
theorem c_season {C : Nat → Mem} {L : MemL} {N G : Nat} (hC : CS C N G) {x1 x2 x3 x4 : Int32} {post : Int32 → Prop} (hp : post (F_season C N G x1 x2 x3 x4)) : wp_X9_season C L x1 x2 x3 x4 post := by
  have hN8 := hC.N8
  have hG8 := hC.1
  unfold wp_X9_season b_X9_season_0
  unfold F_season at hp
  by_cases h2 : 1 ≤ x2 ∧ x2 ≤ 99
  case neg =>
    rw [if_neg (fun z => h2 z.1)] at hp
    refine ⟨fun _ => hp, fun q => ⟨fun _ => hp, fun q2 => absurd ⟨?_, ?_⟩ h2⟩⟩
    · rw [← i_nlt]; exact q
    · rw [← i_nlt]; exact q2
  refine ⟨fun q => absurd h2.1 (by rw [i_nle]; exact q), fun _ => ⟨fun q => absurd h2.2 (by rw [i_nle]; exact q), fun _ => ?_⟩⟩
  rw [e_isHouse hC.nH, bI_z]
  refine ⟨fun q => by rw [if_neg (fun z => q z.2.1)] at hp; exact hp, fun q => ?_⟩
  have h3 : HB N x3 := Classical.not_not.mp q
  rw [e_isBit, bI_z]
  refine ⟨fun q => ?_, fun q => by rw [if_neg (fun z => q z.2.2)] at hp; exact hp⟩
  rw [if_pos ⟨h2, h3, Classical.not_not.mp q⟩] at hp
  rw [hC.2.2.1]
  refine ⟨fun qg => ?_, fun q => by rw [if_pos ((nI_eq (b := 0) (by omega) (by omega)).mp q)] at hp; exact hp⟩
  have g0 : G ≠ 0 := fun z => qg (by rw [z]; rfl)
  rw [if_neg g0] at hp
  obtain ⟨n, hn1, hn, rfl⟩ := one_of h2
  obtain ⟨h, hh, rfl⟩ := HB_of h3 hN8
  rw [nI_clamp (by omega), nI_clamp (by omega)] at hp
  refine loop_0 (fun k i (u : Int32 × Int32) => b_X9_season_51 C L post k (nI n) (nI h) x4 u.2 u.1 (nI i)) (fun i u => u = SEA G (seaV C h x4) x1 i) n (x1, 0) rfl ?_ ?_
  · intro k u hu
    unfold b_X9_season_51
    rw [hu]
    exact ⟨fun _ => hp, fun q => absurd (nI_le (Nat.le_refl n) (by omega)) q⟩
  · intro k i u hi hu ih
    unfold b_X9_season_51
    rw [hC.2.2.1]
    refine ⟨fun q => absurd q (nI_ge hi (by omega)), fun _ x6 e6 => ⟨qg, fun x8 e8 => ?_⟩⟩
    obtain ⟨g, hg, eg⟩ := lot_rng (by omega) hG8 x6
    rw [eg] at e8
    rw [e8, nI_clamp (by omega)]
    have e6' : x6 = lotI (SEA G (seaV C h x4) x1 i).1 := by rw [e6, hu]; rfl
    have nx : ∀ y : Int32, y = u.2 + seaV C h x4 g → b_X9_season_123 C L post (b_X9_season_51 C L post k) (nI n) (nI h) x4 y x6 (nI i) := by
      intro y ey
      unfold b_X9_season_123
      intro z ez
      rw [ez, nI_1]
      refine ih (x6, y) ?_
      show (x6, y) = (lotI (SEA G (seaV C h x4) x1 i).1, (SEA G (seaV C h x4) x1 i).2 + seaV C h x4 ((ushr (lotI (SEA G (seaV C h x4) x1 i).1) 16) - (ushr (lotI (SEA G (seaV C h x4) x1 i).1) 16) / nI G * nI G).toNatClampNeg)
      rw [← e6', eg, nI_clamp (by omega), ey, hu]
    have vg : vp_in (nI g) 8 := vp_in_nI (by omega) (by omega)
    unfold seaV at nx
    refine ⟨fun q4 => ⟨vg, ?_⟩, fun q4 => e_gaveTo hC hg (by omega) (fun y ey => nx y (by rw [if_pos q4]; exact ey))⟩
    rw [if_neg q4] at nx
    rw [(hC.fg hg).2.1]
    refine ⟨fun q5 => nx _ ?_, fun q5 y ey => nx y ?_⟩
    · rw [if_neg q5, Int32.add_zero]
    · rw [if_pos q5]; exact ey
theorem FND_23 {C : Nat → Mem} {N G : Nat} {M D : Mem} (h : FND C N G M) (h1 : ∀ c, c ≠ 0 → D c = M c) (h2 : ∀ i, i ≠ 23 → D 0 i = M 0 i) : FND C N G D := by
  unfold FND FEDM
  rw [h2 7 (by decide), h2 9 (by decide), h1 7 (by decide), h1 8 (by decide), h1 9 (by decide), h1 10 (by decide), h1 11 (by decide), h1 12 (by decide), h1 13 (by decide), h1 14 (by decide), h1 15 (by decide)]
  exact h
theorem m_seasonOf {C : Nat → Mem} {M : Mem} {N G n h : Nat} {x1 x4 : Int32} (hC : CS C N G) (hF : FND C N G M) (hn : n ≤ 99) (hn1 : 1 ≤ n) (hh : h < N) {post : Int32 → Mem → Prop} (hp : ∀ M', MF M M' → FND C N G M' → post (if G = 0 then 0 else (SEA G (seaV C h x4) x1 n).2) M') : wp_X10_seasonOf M x1 (nI n) (nI h) x4 post := by
  have hN8 := hC.N8
  have hG8 := hC.1
  obtain ⟨f7, f9, ft, fg, fw, f0, f6⟩ := id hF
  unfold wp_X10_seasonOf b_X10_seasonOf_0
  intro M1 e1
  have mf : ∀ D : Mem, (∀ c, c ≠ 0 → D c = M c) → (∀ i, i ≠ 23 → D 0 i = M 0 i) → MF M D := fun D h1 h2 => ⟨h1 1 (by omega), h1 2 (by omega), h1 3 (by omega), h1 5 (by omega), h1 6 (by omega), h1 9 (by omega), h1 16 (by omega), h2 4 (by omega), h2 21 (by omega)⟩
  by_cases g0 : G = 0
  · rw [if_pos g0] at hp
    refine ⟨1, ?_⟩
    unfold b_X10_seasonOf_11
    have m1 : MF M M1 := mf M1 (fun c hc => by rw [e1, up2_c _ hc]) (fun i hi => by rw [e1, up2_i _ hi])
    have f1 : FND C N G M1 := FND_23 hF (fun c hc => by rw [e1, up2_c _ hc]) (fun i hi => by rw [e1, up2_i _ hi])
    refine ⟨fun _ => hp M1 m1 f1, fun _ => ⟨fun _ => hp M1 m1 f1, fun q => absurd ?_ q⟩⟩
    rw [e1, up2_i _ (by decide), f9, g0]
    decide
  rw [if_neg g0] at hp
  refine loop_0 (fun k i (u : Int32 × Mem) => b_X10_seasonOf_11 post k (nI n) (nI h) x4 u.1 (nI i) u.2) (fun i u => u.1 = (SEA G (seaV C h x4) x1 i).2 ∧ u.2 0 23 = (SEA G (seaV C h x4) x1 i).1 ∧ (∀ c, c ≠ 0 → u.2 c = M c) ∧ ∀ i, i ≠ 23 → u.2 0 i = M 0 i) n (0, M1) ⟨rfl, by dsimp only; rw [e1, up2_s]; rfl, fun c hc => by dsimp only; rw [e1, up2_c _ hc], fun i hi => by dsimp only; rw [e1, up2_i _ hi]⟩ ?_ ?_
  · intro k u hu
    obtain ⟨x5, D⟩ := u
    obtain ⟨u1, u2, u3, u4⟩ := hu
    dsimp only at u1 u2 u3 u4
    dsimp only
    unfold b_X10_seasonOf_11
    rw [u1]
    exact ⟨fun _ => hp D (mf D u3 u4) (FND_23 hF u3 u4), fun q => absurd (nI_le (Nat.le_refl n) (by omega)) q⟩
  · intro k i u hi hu ih
    obtain ⟨x5, D⟩ := u
    obtain ⟨u1, u2, u3, u4⟩ := hu
    dsimp only at u1 u2 u3 u4
    dsimp only
    unfold b_X10_seasonOf_11
    rw [u4 9 (by omega), f9]
    refine ⟨fun q => absurd q (nI_ge hi (by omega)), fun _ => ⟨fun q => absurd ((nI_leI (b := 0) (by omega) (by omega)).mp q) (by omega), fun _ => ?_⟩⟩
    unfold wp_X10_lot b_X10_lot_0
    intro D2 e2
    have d23 : D2 0 23 = lotI (SEA G (seaV C h x4) x1 i).1 := by rw [e2, up2_s, u2]; rfl
    have d2c : ∀ c, c ≠ 0 → D2 c = M c := fun c hc => by rw [e2, up2_c _ hc]; exact u3 c hc
    have d20 : ∀ i, i ≠ 23 → D2 0 i = M 0 i := fun i hi => by rw [e2, up2_i _ hi]; exact u4 i hi
    obtain ⟨g, hg, eg⟩ := lot_rng (by omega) hG8 (D2 0 23)
    rw [eg]
    dsimp only
    rw [nI_clamp (by omega)]
    have e8 : 8 * nI g + nI h = nI (8 * g + h) := by rw [show (8 : Int32) = nI 8 from rfl, pk_mul, nI_add]
    rw [e8, nI_clamp (by omega), d2c 12 (by omega), d2c 11 (by omega), (fw g hg).2.1, (fw g hg).1 h (by omega)]
    have nx : ∀ z0 : Int32, z0 = seaV C h x4 g → b_X10_seasonOf_72 post (b_X10_seasonOf_11 post k) (nI n) (nI h) x4 (nI i) z0 x5 D2 := by
      intro z0 ez0
      unfold b_X10_seasonOf_72
      intro y ey z ez
      rw [ez, nI_1]
      refine ih (y, D2) ⟨?_, d23, d2c, d20⟩
      show y = (SEA G (seaV C h x4) x1 i).2 + seaV C h x4 ((ushr (lotI (SEA G (seaV C h x4) x1 i).1) 16) - (ushr (lotI (SEA G (seaV C h x4) x1 i).1) 16) / nI G * nI G).toNatClampNeg
      rw [← d23, eg, nI_clamp (by omega), ey, u1, ez0]
    unfold seaV at nx
    refine ⟨fun z => g0 ((nI_eq (b := 0) (by omega) (by omega)).mp z), fun q4 => ⟨vp_in_nI (by omega) (by omega), fun v ev => nx v (by rw [if_neg q4]; exact ev)⟩, fun q4 => ⟨vp_in_nI (by omega) (by omega), nx _ (by rw [if_pos q4])⟩⟩
theorem p_season {C : Nat → Mem} {L : MemL} {M : Mem} (hR : REL C M) (x1 x2 x3 x4 : Int32) : wp_X9_season C L x1 x2 x3 x4 (fun r => wp_X10_season M x1 x2 x3 x4 (fun r' M' => r = r' ∧ REL C M')) := by
  obtain ⟨N, G, hC⟩ := hR.cs
  have hN8 := hC.N8
  refine c_season hC ?_
  unfold wp_X10_season b_X10_season_0
  refine e_find2 hR hC (fun M' hf hF => ?_)
  have hR' := hR.mf hf
  rw [e_in (a := 1) (b := 99) x2 1 99 _ rfl rfl, bI_z]
  unfold F_season
  refine ⟨fun q => ⟨by rw [if_neg (fun z => q z.1)], hR'⟩, fun q => ?_⟩
  have h2 : 1 ≤ x2 ∧ x2 ≤ 99 := Classical.not_not.mp q
  rw [e_isHouseM hN8 hF.1, bI_z]
  refine ⟨fun q => ⟨by rw [if_neg (fun z => q z.2.1)], hR'⟩, fun q => ?_⟩
  have h3 : HB N x3 := Classical.not_not.mp q
  rw [e_isTwo, bI_z]
  refine ⟨fun q => ⟨by rw [if_neg (fun z => q z.2.2)], hR'⟩, fun q => ?_⟩
  rw [if_pos ⟨h2, h3, Classical.not_not.mp q⟩]
  obtain ⟨n, hn1, hn, rfl⟩ := one_of h2
  obtain ⟨h, hh, rfl⟩ := HB_of h3 hN8
  rw [nI_clamp (by omega), nI_clamp (by omega)]
  exact m_seasonOf hC hF hn hn1 hh (fun M2 hf2 _ => ⟨rfl, hR'.mf hf2⟩)
