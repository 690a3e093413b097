-- digest
def MI (x : Int64) (r : Int32) : Int64 := (31 * x) + r.toInt64
def mixf (x : Int64) (f : Nat → Int32) : Nat → Int64
  | 0 => x
  | k + 1 => MI (mixf x f k) (f k)
theorem mixf_cong {x : Int64} {f g : Nat → Int32} : ∀ {n : Nat}, (∀ k, k < n → f k = g k) → mixf x f n = mixf x g n
  | 0, _ => rfl
  | n + 1, h => by unfold mixf; rw [mixf_cong (fun k hk => h k (by omega)), h n (by omega)]
def FF (C : Nat → Mem) (N G : Nat) (x1 x2 x3 : Int32) : Int32 := if HB N x1 ∧ HB G x2 ∧ (0 ≤ x3 ∧ x3 ≤ 1) then F_fast C N x1.toNatClampNeg x2.toNatClampNeg x3 else (-2)
def FS (C : Nat → Mem) (N G : Nat) (x1 x2 : Int32) : Int32 := if HB N x1 ∧ HB G x2 then F_soup C x1.toNatClampNeg x2.toNatClampNeg else (-2)
def dgH1 (C : Nat → Mem) (h : Nat) (x : Int64) : Int64 := MI (MI (MI (MI (mixf x (fun k => C 3 (k + 1) h) 3) (C 3 4 h)) (C 5 6 h)) (C 5 7 h)) ((C 3 3 h + 3 * C 5 7 h) - C 5 6 h)
def dgH2 (C : Nat → Mem) (N G h : Nat) (x : Int64) : Int64 := MI (MI (MI (MI (MI (MI (MI x (F_live C N G h 0)) (F_live C N G h 1)) (F_cook C G h 0)) (F_cook C G h 1)) (FF C N G (nI h) 0 0)) (FF C N G (nI h) 0 1)) (FS C N G (nI h) 0)
def dgH3 (C : Nat → Mem) (N G h : Nat) (x : Int64) : Int64 := MI (MI ((31 * ((31 * x) + F_road C N G 5 (nI h) 9 0)) + F_road C N G 5 (nI h) 9 1) (F_season C N G 7 30 (nI h) 0)) (F_season C N G 7 30 (nI h) 1)
def dgH (C : Nat → Mem) (N G h : Nat) (x : Int64) : Int64 := dgH3 C N G h (dgH2 C N G h (dgH1 C h x))
def dgG (C : Nat → Mem) (N g : Nat) (x : Int64) : Int64 := mixf (MI (mixf (mixf x (fun k => C 4 (k + 1) g) 4) (fun k => F_fedk (WAYS (C 3) (C 4) g) k) 4) (F_began C N g)) (fun h => gvW (WAYS (C 3) (C 4) g) h) N
def fdN (f : Nat → Int64 → Int64) (x : Int64) : Nat → Int64
  | 0 => x
  | k + 1 => f k (fdN f x k)
def dgE (C : Nat → Mem) (N G : Nat) (x : Int64) : Int64 := MI (MI (MI (MI x (oI1 (PO (fun a => C 5 6 a) N))) (F_passed C)) (F_twice C N G)) (F_ask C N G)
-- the same by alike memories
theorem cr_live {K C : Nat → Mem} (h : CORE K C) (N G a : Nat) (x : Int32) : F_live C N G a x = F_live K N G a x := by
  unfold F_live RPl
  rw [h 3 (by omega), h 4 (by omega)]
theorem cr_cook {K C : Nat → Mem} (h : CORE K C) (G a : Nat) (x : Int32) : F_cook C G a x = F_cook K G a x := by
  unfold F_cook RKd
  rw [h 3 (by omega), h 4 (by omega)]
theorem cr_fast {K C : Nat → Mem} (h : CORE K C) (N a g : Nat) (x : Int32) : F_fast C N a g x = F_fast K N a g x := by
  unfold F_fast REm
  rw [h 3 (by omega), h 4 (by omega)]
theorem cr_FF {K C : Nat → Mem} (h : CORE K C) (N G : Nat) (x1 x2 x3 : Int32) : FF C N G x1 x2 x3 = FF K N G x1 x2 x3 := by
  unfold FF
  rw [cr_fast h]
theorem cr_FS {K C : Nat → Mem} (h : CORE K C) (N G : Nat) (x1 x2 : Int32) : FS C N G x1 x2 = FS K N G x1 x2 := by
  unfold FS F_soup RPo
  rw [h 3 (by omega), h 4 (by omega)]
theorem cr_road {K C : Nat → Mem} (h : CORE K C) (N G : Nat) (x1 x2 x3 x4 : Int32) : F_road C N G x1 x2 x3 x4 = F_road K N G x1 x2 x3 x4 := by
  have e : av C = av K := by
    unfold av
    rw [h 3 (by omega), h 4 (by omega)]
  unfold F_road
  rw [e]
theorem cr_season {K C : Nat → Mem} (h : CORE K C) (N G : Nat) (x1 x2 x3 x4 : Int32) : F_season C N G x1 x2 x3 x4 = F_season K N G x1 x2 x3 x4 := by
  have e : seaV C = seaV K := by
    unfold seaV
    rw [h 3 (by omega), h 4 (by omega)]
  unfold F_season
  rw [e]
theorem cr_H {K C : Nat → Mem} (h : CORE K C) (N G a : Nat) (x : Int64) : dgH C N G a x = dgH K N G a x := by
  unfold dgH dgH3 dgH2 dgH1
  rw [cr_live h, cr_live h, cr_cook h, cr_cook h, cr_FF h, cr_FF h, cr_FS h, cr_road h, cr_road h, cr_season h, cr_season h, h 3 (by omega), h 5 (by omega)]
theorem cr_began {K C : Nat → Mem} (h : CORE K C) (N g : Nat) : F_began C N g = F_began K N g := by
  have e : bgS C N g = bgS K N g := funext (fun v => bgS_core h N g v)
  unfold F_began
  rw [e]
theorem cr_G {K C : Nat → Mem} (h : CORE K C) (N g : Nat) (x : Int64) : dgG C N g x = dgG K N g x := by
  unfold dgG
  rw [cr_began h, h 3 (by omega), h 4 (by omega)]
theorem cr_twice {K C : Nat → Mem} (h : CORE K C) (N G : Nat) : F_twice C N G = F_twice K N G := by
  have a : ∀ {f : Nat → Int32} {k : Nat}, sfit C N f k = sfit K N f k := by
    intro f k
    induction k with
    | zero => rfl
    | succ k ih => unfold sfit; rw [ih, h 6 (by omega)]
  have e : twS C N = twS K N := by
    funext g
    unfold twS nSg
    rw [a, h 3 (by omega), h 4 (by omega), h 5 (by omega), h 6 (by omega)]
  unfold F_twice
  rw [e]
theorem cr_ask {K C : Nat → Mem} (h : CORE K C) (N G : Nat) : F_ask C N G = F_ask K N G := by
  have e : akF C N G = akF K N G := by
    funext a
    unfold akF
    rw [cr_twice h, h 3 (by omega), h 4 (by omega)]
  unfold F_ask
  rw [e]
theorem cr_E {K C : Nat → Mem} (h : CORE K C) (N G : Nat) (x : Int64) : dgE C N G x = dgE K N G x := by
  unfold dgE F_passed
  rw [cr_twice h, cr_ask h, h 3 (by omega), h 5 (by omega)]
theorem CORE_tr {A B D : Nat → Mem} (h : CORE A B) (k : CORE B D) : CORE A D := fun g hg => (k g hg).trans (h g hg)
theorem HBn {j N : Nat} (hj : j < N) (hN : N ≤ 8) : HB N (nI j) := ⟨nI_pos (by omega), nI_ge hj (by omega)⟩
theorem rg_nI {k u : Nat} (h : k ≤ u) (hu : u < 2 ^ 31) : (0 : Int32) ≤ nI k ∧ nI k ≤ nI u := ⟨nI_le (a := 0) (by omega) (by omega), nI_le h hu⟩
-- the class
theorem c_mixHouse {C : Nat → Mem} {L : MemL} {N G h : Nat} {x : Int64} (hC : CS C N G) (hh : h < N) {post : Int64 → Prop} (hp : post (dgH1 C h x)) : wp_X9_mixHouse C L x (nI h) post := by
  have hN8 := hC.N8
  have hb := HBn hh hN8
  have ch : (nI h).toNatClampNeg = h := nI_clamp (by omega)
  unfold wp_X9_mixHouse b_X9_mixHouse_0
  refine loop_0 (fun k i (s : Int64) => b_X9_mixHouse_6 C L post k (nI h) s (nI i)) (fun i s => s = mixf x (fun k => C 3 (k + 1) h) i) 3 x rfl ?_ ?_
  · intro k s hs
    unfold b_X9_mixHouse_6
    refine ⟨fun _ => c_at hN8 hC.nH (fun y1 e1 => c_all hC (fun y2 e2 => c_all hC (fun y3 e3 => c_price hC ?_))), fun q => absurd (show (2 : Int32) < nI 3 by decide) q⟩
    unfold F_at at e1
    rw [if_pos (show (0 : Int32) ≤ nI h ∧ nI h ≤ 7 from ⟨nI_le (a := 0) (by omega) (by omega), nI_le (b := 7) (by omega) (by omega)⟩), if_neg (nI_ge hh (by omega)), ch] at e1
    unfold F_all at e2 e3
    rw [if_pos ⟨hb, by decide⟩, ch, if_pos rfl] at e2
    rw [if_pos ⟨hb, by decide⟩, ch, if_neg (by decide)] at e3
    unfold F_price
    rw [if_pos hb, ch, e3, e2, e1, hs]
    exact hp
  · intro k i s hi hs ih
    unfold b_X9_mixHouse_6
    refine ⟨fun q => absurd q (nI_nlt (b := i) (a := 2) (by omega) (by omega)), fun _ => c_house hN8 hC.nH (fun y ey z ez => ?_)⟩
    rw [ez, nI_1]
    refine ih y ?_
    unfold F_house at ey
    rw [if_pos ⟨hb, rg_nI (u := 2) (by omega) (by omega)⟩, ch, nI_clamp (by omega)] at ey
    rw [ey, hs]
    rfl
theorem c_howMany {o : Option Nat} (ho : ∀ b, o = some b → b < 256) {post : Int32 → Prop} (hp : post (fsI 0 o)) : wp_X9_howMany (oI1 o) post := by
  unfold wp_X9_howMany b_X9_howMany_0
  cases o with
  | none => exact ⟨fun q => absurd rfl q, fun _ => hp⟩
  | some b =>
    have hb := ho b rfl
    refine ⟨fun _ => ?_, fun z => absurd z (nI_ne_m1 (by omega))⟩
    show wp_J6_bitCount_0f7a4 (nI b) _
    rw [e_bitCount hb]
    exact hp
theorem fs1 (o : Option Nat) : oI1 o = fsI 1 o := by cases o <;> rfl
theorem c_mixPlans {C : Nat → Mem} {L : MemL} {N G h : Nat} {x : Int64} (hC : CS C N G) (hh : h < N) {post : Int64 → (Nat → Mem) → MemL → Prop} (hp : ∀ C' L', CORE C C' → post (dgH2 C N G h x) C' L') : wp_X9_mixPlans C L x (nI h) post := by
  have hN8 := hC.N8
  have hG8 := hC.1
  have hbh := HBn hh hN8
  have ch : (nI h).toNatClampNeg = h := nI_clamp (by omega)
  have hE := p2_le hN8
  unfold wp_X9_mixPlans b_X9_mixPlans_0
  refine c_planPlace hC hh (fun C1 b1 co1 pb1 p10 p11 y1 e1 y2 e2 => ?_)
  have l0 : F_live C N G h 0 = nI b1 := by unfold F_live; rw [if_pos rfl, pb1]; rfl
  have l1 : F_live C N G h 1 = gsW (RPl C N h b1) (C 4) G h := by unfold F_live; rw [if_neg (by decide), pb1]; rfl
  rw [p10, ← l0] at e1
  rw [p11, ← l1] at e2
  refine c_planKind (hC.core co1) hh (fun C5 b5 co5 pb5 p50 p51 y3 e3 y4 e4 => ?_)
  have k0 : F_cook C1 G h 0 = nI b5 := by unfold F_cook; rw [if_pos rfl, pb5]; rfl
  have k1 : F_cook C1 G h 1 = gsW (RKd C1 h (nI b5)) (C1 4) G h := by unfold F_cook; rw [if_neg (by decide), pb5]; rfl
  rw [p50, ← k0, cr_cook co1] at e3
  rw [p51, ← k1, cr_cook co1] at e4
  have co : CORE C C5 := CORE_tr co1 co5
  have hC5 := hC.core co
  have fin : ∀ (y6 : Int64) (C6 : Nat → Mem) (L6 : MemL), CORE C C6 → y6 = MI (MI y4 (FF C N G (nI h) 0 0)) (FF C N G (nI h) 0 1) → b_X9_mixPlans_153 post (nI h) y6 C6 L6 := by
    intro y6 C6 L6 co6 e6
    unfold b_X9_mixPlans_153
    refine c_soup (hC.core co6) (fun C7 co7 => ?_)
    have hpp := hp C7 L6 (CORE_tr co6 co7)
    have es : (if HB N (nI h) ∧ HB G 0 then F_soup C6 (nI h).toNatClampNeg (0 : Int32).toNatClampNeg else (-2)) = FS C N G (nI h) 0 := cr_FS co6 N G (nI h) 0
    rw [es, e6, e4, e3, e2, e1]
    exact hpp
  rw [hC5.2.2.1]
  refine ⟨fun q => ?_, fun q y5 e5 y6 e6 => fin y6 C5 L co ?_⟩
  · have g0 : 0 < G := Nat.pos_of_ne_zero (fun z => q (by rw [z]; rfl))
    have hb0 : HB G 0 := HBn g0 hG8
    show wp_X9_fewestEmpty C5 L (nI h) (nI 0) _
    refine c_fewest hC5 g0 (fun C11 co11 => c_howMany (fun b hb => Nat.lt_of_lt_of_le (FB_lt hb) hE) (fun y5 e5 y6 e6 => fin y6 C11 L (CORE_tr co co11) ?_))
    have f0 : FF C N G (nI h) 0 0 = fsI 0 (FB (fun b => slW (WAYS (REm C5 (nI b)) (C5 4) 0)) (nI h) (2 ^ N)) := by
      rw [← cr_FF co]
      unfold FF F_fast
      rw [if_pos ⟨hbh, hb0, by decide⟩, ch]
      rfl
    have f1 : FF C N G (nI h) 0 1 = oI1 (FB (fun b => slW (WAYS (REm C5 (nI b)) (C5 4) 0)) (nI h) (2 ^ N)) := by
      rw [← cr_FF co, fs1]
      unfold FF F_fast
      rw [if_pos ⟨hbh, hb0, by decide⟩, ch]
      rfl
    rw [e6, e5, f0, f1]
    rfl
  · have g0 : G = 0 := (nI_eq (b := 0) (by omega) (by omega)).mp q
    have nb : ¬ HB G 0 := fun z => z.2 (by rw [g0]; decide)
    have f : ∀ x3, FF C N G (nI h) 0 x3 = (-2) := fun x3 => by unfold FF; rw [if_neg (fun z => nb z.2.1)]
    rw [f, f, e6, e5]
    rfl
theorem c_mixRoads {C : Nat → Mem} {L : MemL} {N G h : Nat} {x : Int64} (hC : CS C N G) {post : Int64 → (Nat → Mem) → MemL → Prop} (hp : ∀ L', post (dgH3 C N G h x) C L') : wp_X9_mixRoads C L x (nI h) post := by
  unfold wp_X9_mixRoads b_X9_mixRoads_0
  refine c_road hC (fun L1 y1 e1 => c_road hC (fun L2 y2 e2 => c_season hC (fun y3 e3 => c_season hC ?_)))
  rw [e3, e2, e1]
  exact hp L2
theorem c_mixGuest {C : Nat → Mem} {L : MemL} {N G g : Nat} {x : Int64} (hC : CS C N G) (h8 : nSg C ≤ 8) (hs : C 6 0 2 = nI (nSg C)) (hg : g < G) {post : Int64 → (Nat → Mem) → MemL → Prop} (hp : ∀ C', CORE C C' → post (dgG C N g x) C' L) : wp_X9_mixGuest C L x (nI g) post := by
  have hN8 := hC.N8
  have hG8 := hC.1
  have hb := HBn hg hG8
  have cg : (nI g).toNatClampNeg = g := nI_clamp (by omega)
  unfold wp_X9_mixGuest b_X9_mixGuest_0
  refine loop_0 (fun k i (s : Int64) => b_X9_mixGuest_6 post k (nI g) s (nI i) C L) (fun i s => s = mixf x (fun k => C 4 (k + 1) g) i) 4 x rfl ?_ ?_
  · intro k s hs'
    unfold b_X9_mixGuest_6
    refine ⟨fun _ => ?_, fun q => absurd (show (3 : Int32) < nI 4 by decide) q⟩
    refine loop_0 (fun k i (s : Int64) => b_X9_mixGuest_38 post k (nI g) s (nI i) C L) (fun i s => s = mixf (mixf x (fun k => C 4 (k + 1) g) 4) (fun k => F_fedk (WAYS (C 3) (C 4) g) k) i) 4 s hs' ?_ ?_
    · intro k2 s2 hs2
      unfold b_X9_mixGuest_38
      refine ⟨fun _ => c_began hC h8 hs (fun D co y ey => ?_), fun q => absurd (show (3 : Int32) < nI 4 by decide) q⟩
      rw [if_pos hb, cg, hs2] at ey
      refine loop_0 (fun k i (s : Int64) => b_X9_mixGuest_85 post k (nI g) s (nI i) D L) (fun i s => s = mixf y (fun h => gvW (WAYS (C 3) (C 4) g) h) i) N y rfl ?_ ?_
      · intro k3 s3 hs3
        unfold b_X9_mixGuest_85
        rw [co 3 (by omega), hC.nH, hs3, ey]
        exact ⟨fun _ => hp D co, fun q => absurd (nI_le (Nat.le_refl N) (by omega)) q⟩
      · intro k3 i s3 hi hs3 ih3
        unfold b_X9_mixGuest_85
        rw [co 3 (by omega), hC.nH]
        refine ⟨fun q => absurd q (nI_ge hi (by omega)), fun _ => c_gives (hC.core co) (fun z ez w ew => ?_)⟩
        rw [ew, nI_1]
        refine ih3 z ?_
        unfold F_gives at ez
        rw [if_pos ⟨hb, HBn hi hN8⟩, cg, nI_clamp (by omega), co 3 (by omega), co 4 (by omega)] at ez
        rw [ez, hs3]
        rfl
    · intro k2 i s2 hi hs2 ih2
      unfold b_X9_mixGuest_38
      refine ⟨fun q => absurd q (nI_nlt (b := i) (a := 3) (by omega) (by omega)), fun _ => c_fed hC (fun z ez w ew => ?_)⟩
      rw [ew, nI_1]
      refine ih2 z ?_
      unfold F_fed at ez
      rw [if_pos ⟨hb, rg_nI (u := 3) (by omega) (by omega)⟩, cg, nI_clamp (by omega)] at ez
      rw [ez, hs2]
      rfl
  · intro k i s hi hs' ih
    unfold b_X9_mixGuest_6
    refine ⟨fun q => absurd q (nI_nlt (b := i) (a := 3) (by omega) (by omega)), fun _ => c_guest hG8 hC.2.2.1 (fun z ez w ew => ?_)⟩
    rw [ew, nI_1]
    refine ih z ?_
    unfold F_guest at ez
    rw [if_pos ⟨hb, rg_nI (u := 3) (by omega) (by omega)⟩, cg, nI_clamp (by omega)] at ez
    rw [ez, hs']
    rfl
def dgF (C : Nat → Mem) (n0 n1 N G : Nat) : Int64 := dgE C N G (fdN (dgG C N) (fdN (dgH C N G) (MI (MI (mixf 17 (fun k => F_count C N G (nI k)) 8) (FLT (okT true (C 1 1)) n0 4)) (FLT (okT false (C 2 1)) n1 6)) N) G)
theorem c_digest {C : Nat → Mem} {L : MemL} {n0 n1 N G : Nat} (hC : CS C N G) (hT0 : TXT true 31 n0 (C 1)) (hT1 : TXT false 47 n1 (C 2)) (h8 : nSg C ≤ 8) (hs : C 6 0 2 = nI (nSg C)) {post : Int64 → (Nat → Mem) → MemL → Prop} (hp : ∀ C' L', CORE C C' → post (dgF C n0 n1 N G) C' L') : wp_X9_digest C L post := by
  have hN8 := hC.N8
  have hG8 := hC.1
  unfold wp_X9_digest b_X9_digest_0
  refine loop_0 (fun k i (s : Int64) => b_X9_digest_6 post k s (nI i) C L) (fun i s => s = mixf 17 (fun k => F_count C N G (nI k)) i) 8 17 rfl ?_ ?_
  · intro k s hs'
    unfold b_X9_digest_6
    refine ⟨fun _ => ?_, fun q => absurd (show (7 : Int32) < nI 8 by decide) q⟩
    have cf0 : ∀ {P : Int32 → Prop}, P (FLT (okT true (C 1 1)) n0 4) → wp_X9_fault C L 0 P := by
      intro P hP
      unfold wp_X9_fault b_X9_fault_0
      rw [e_isBit, bI_z]
      refine ⟨fun q => absurd (by decide) q, fun _ => ?_⟩
      unfold wp_X9_textOf b_X9_textOf_0
      exact ⟨fun q => absurd rfl q, fun _ => Or.inl ⟨rfl, e_firstFault hT0 hP⟩⟩
    have cf1 : ∀ {P : Int32 → Prop}, P (FLT (okT false (C 2 1)) n1 6) → wp_X9_fault C L 1 P := by
      intro P hP
      unfold wp_X9_fault b_X9_fault_0
      rw [e_isBit, bI_z]
      refine ⟨fun q => absurd (by decide) q, fun _ => ?_⟩
      unfold wp_X9_textOf b_X9_textOf_0
      exact ⟨fun _ => Or.inr ⟨rfl, e_firstFault hT1 hP⟩, fun q => absurd q (by decide)⟩
    refine cf0 (fun y1 e1 => cf1 (fun y2 e2 => ?_))
    have ey : y2 = MI (MI (mixf 17 (fun k => F_count C N G (nI k)) 8) (FLT (okT true (C 1 1)) n0 4)) (FLT (okT false (C 2 1)) n1 6) := by rw [e2, e1, hs']; rfl
    unfold dgF at hp
    rw [← ey] at hp
    refine loop_0 (fun k i (u : Int64 × (Nat → Mem) × MemL) => b_X9_digest_59 post k u.1 (nI i) u.2.1 u.2.2) (fun i u => u.1 = fdN (dgH C N G) y2 i ∧ CORE C u.2.1) N (y2, C, L) ⟨rfl, CORE_rf C⟩ ?_ ?_
    · intro k2 u hu
      obtain ⟨s2, D, L2⟩ := u
      obtain ⟨u1, u2⟩ := hu
      dsimp only at u1 u2
      dsimp only
      unfold b_X9_digest_59
      rw [u2 3 (by omega), hC.nH]
      refine ⟨fun _ => ?_, fun q => absurd (nI_le (Nat.le_refl N) (by omega)) q⟩
      refine loop_0 (fun k i (u : Int64 × (Nat → Mem) × MemL) => b_X9_digest_99 post k u.1 (nI i) u.2.1 u.2.2) (fun i u => u.1 = fdN (dgG C N) (fdN (dgH C N G) y2 N) i ∧ CORE C u.2.1) G (s2, D, L2) ⟨u1, u2⟩ ?_ ?_
      · intro k3 w hw
        obtain ⟨s3, E, L3⟩ := w
        obtain ⟨w1, w2⟩ := hw
        dsimp only at w1 w2
        dsimp only
        unfold b_X9_digest_99
        have hE := hC.core w2
        have e6 : nSg E = nSg C := by unfold nSg; rw [w2 6 (by omega)]
        have h8E : nSg E ≤ 8 := by rw [e6]; exact h8
        have hsE : E 6 0 2 = nI (nSg E) := by rw [e6, w2 6 (by omega)]; exact hs
        rw [hE.2.2.1]
        refine ⟨fun _ => c_poor hE (fun z1 ez1 => ?_), fun q => absurd (nI_le (Nat.le_refl G) (by omega)) q⟩
        unfold wp_X9_passed b_X9_passed_0
        intro z2 ez2
        refine c_twice hE h8E hsE (fun z3 ez3 => c_ask hE h8E hsE ?_)
        have hpp := hp E L3 w2
        rw [← cr_E w2, ← w1] at hpp
        rw [ez3, ez2, ez1]
        exact hpp
      · intro k3 i w hi hw ih3
        obtain ⟨s3, E, L3⟩ := w
        obtain ⟨w1, w2⟩ := hw
        dsimp only at w1 w2
        dsimp only
        unfold b_X9_digest_99
        have hE := hC.core w2
        have e6 : nSg E = nSg C := by unfold nSg; rw [w2 6 (by omega)]
        rw [hE.2.2.1]
        refine ⟨fun q => absurd q (nI_ge hi (by omega)), fun _ => c_mixGuest hE (by rw [e6]; exact h8) (by rw [e6, w2 6 (by omega)]; exact hs) hi (fun E2 coE z ez => ?_)⟩
        rw [ez, nI_1]
        refine ih3 (_, E2, L3) ⟨?_, CORE_tr w2 coE⟩
        show dgG E N i s3 = dgG C N i (fdN (dgG C N) (fdN (dgH C N G) y2 N) i)
        rw [cr_G w2, w1]
    · intro k2 i u hi hu ih2
      obtain ⟨s2, D, L2⟩ := u
      obtain ⟨u1, u2⟩ := hu
      dsimp only at u1 u2
      dsimp only
      have hD := hC.core u2
      unfold b_X9_digest_59
      rw [hD.nH]
      refine ⟨fun q => absurd q (nI_ge hi (by omega)), fun _ => c_mixHouse hD hi (c_mixPlans hD hi (fun D1 L3 co1 => c_mixRoads (hD.core co1) (fun L4 z ez => ?_)))⟩
      rw [ez, nI_1]
      refine ih2 (_, D1, L4) ⟨?_, CORE_tr u2 co1⟩
      dsimp only
      show _ = dgH C N G i (fdN (dgH C N G) y2 i)
      rw [← u1, ← cr_H u2]
      unfold dgH dgH3
      rw [cr_road co1, cr_road co1, cr_season co1, cr_season co1]
      rfl
  · intro k i s hi hs' ih
    unfold b_X9_digest_6
    refine ⟨fun q => absurd q (nI_nlt (b := i) (a := 7) (by omega) (by omega)), fun _ => c_count hC (fun y ey z ez => ?_)⟩
    rw [ez, nI_1]
    refine ih y ?_
    rw [ey, hs']
    rfl
-- the reference
theorem m_fast {C : Nat → Mem} {M : Mem} {N G : Nat} (hR : REL C M) (hC : CS C N G) {x1 x2 x3 : Int32} {post : Int32 → Mem → Prop} (hp : ∀ M', MF M M' → FND C N G M' → post (FF C N G x1 x2 x3) M') : wp_X10_fast M x1 x2 x3 post := by
  have hN8 := hC.N8
  have hG8 := hC.1
  unfold wp_X10_fast b_X10_fast_0
  refine e_find2 hR hC (fun M' hf hF => ?_)
  unfold FF at hp
  rw [e_isHouseM hN8 hF.1, bI_z]
  refine ⟨fun q => by rw [if_neg (fun z => q z.1)] at hp; exact hp M' hf hF, fun q => ?_⟩
  have h1 : HB N x1 := Classical.not_not.mp q
  rw [e_isGuestM hG8 hF.2.1, bI_z]
  refine ⟨fun q => by rw [if_neg (fun z => q z.2.1)] at hp; exact hp M' hf hF, fun q => ?_⟩
  have h2 : HB G x2 := Classical.not_not.mp q
  rw [e_isTwo, bI_z]
  refine ⟨fun q => by rw [if_neg (fun z => q z.2.2)] at hp; exact hp M' hf hF, fun q => ?_⟩
  have h3 : 0 ≤ x3 ∧ x3 ≤ 1 := Classical.not_not.mp q
  rw [if_pos ⟨h1, h2, h3⟩] at hp
  obtain ⟨k, hk, rfl⟩ := HB_of h1 hN8
  obtain ⟨g, hg, rfl⟩ := HB_of h2 hG8
  rw [nI_clamp (by omega), nI_clamp (by omega)] at hp
  exact m_fastOf hC hF hg h3 (fun M2 hf2 hF2 => hp M2 (MF_tr hf hf2) hF2)
theorem m_soup {C : Nat → Mem} {M : Mem} {N G : Nat} (hR : REL C M) (hC : CS C N G) {x1 x2 : Int32} {post : Int32 → Mem → Prop} (hp : ∀ M', MF M M' → FND C N G M' → post (FS C N G x1 x2) M') : wp_X10_soup M x1 x2 post := by
  have hN8 := hC.N8
  have hG8 := hC.1
  unfold wp_X10_soup b_X10_soup_0
  refine e_find2 hR hC (fun M' hf hF => ?_)
  unfold FS at hp
  rw [e_isHouseM hN8 hF.1, bI_z]
  refine ⟨fun q => by rw [if_neg (fun z => q z.1)] at hp; exact hp M' hf hF, fun q => ?_⟩
  have h1 : HB N x1 := Classical.not_not.mp q
  rw [e_isGuestM hG8 hF.2.1, bI_z]
  refine ⟨fun q => by rw [if_neg (fun z => q z.2)] at hp; exact hp M' hf hF, fun q => ?_⟩
  have h2 : HB G x2 := Classical.not_not.mp q
  rw [if_pos ⟨h1, h2⟩] at hp
  obtain ⟨k, hk, rfl⟩ := HB_of h1 hN8
  obtain ⟨g, hg, rfl⟩ := HB_of h2 hG8
  rw [nI_clamp (by omega), nI_clamp (by omega)] at hp
  exact m_soupOf hC hF hk hg (fun M2 hf2 hF2 => hp M2 (MF_tr hf hf2) hF2)
theorem m_tellsHouse {C : Nat → Mem} {M : Mem} {N G h : Nat} {x : Int64} (hR : REL C M) (hC : CS C N G) (hF : FND C N G M) (hh : h < N) {post : Int64 → Mem → Prop} (hp : ∀ M', MF M M' → FND C N G M' → post (dgH C N G h x) M') : wp_X10_tellsHouse M x (nI h) post := by
  have hN8 := hC.N8
  have hG8 := hC.1
  have hbh := HBn hh hN8
  have ch : (nI h).toNatClampNeg = h := nI_clamp (by omega)
  have ft := hF.2.2.1 h hh
  unfold wp_X10_tellsHouse b_X10_tellsHouse_0
  refine loop_0 (fun k i (s : Int64) => b_X10_tellsHouse_6 post k (nI h) s (nI i) M) (fun i s => s = mixf x (fun k => C 3 (k + 1) h) i) 3 x rfl ?_ ?_
  · intro k s hs
    unfold b_X10_tellsHouse_6
    rw [ch]
    refine ⟨fun _ => ⟨vp_in_nI (by omega) (by omega), fun y1 e1 => e_all hC hF (by omega) (fun y2 e2 => e_all hC hF (by omega) (fun y3 e3 => m_priceOf hC hF hh (fun y4 e4 => ?_)))⟩, fun q => absurd (show (3 : Int32) ≤ nI 3 by decide) q⟩
    rw [if_pos rfl] at e2
    rw [if_neg (by decide)] at e3
    refine m_liveOf hC hF hh (fun M1 f1 F1 y5 e5 => m_liveOf hC F1 hh (fun M2 f2 F2 y6 e6 => m_cookOf hC F2 hh (fun M3 f3 F3 y7 e7 => m_cookOf hC F3 hh (fun M4 f4 F4 y8 e8 => ?_))))
    have m4 : MF M M4 := MF_tr (MF_tr (MF_tr f1 f2) f3) f4
    refine m_fast (hR.mf m4) hC (fun M5 f5 F5 y9 e9 => ?_)
    have m5 := MF_tr m4 f5
    refine m_fast (hR.mf m5) hC (fun M6 f6 F6 y10 e10 => ?_)
    have m6 := MF_tr m5 f6
    refine m_soup (hR.mf m6) hC (fun M7 f7 F7 y11 e11 => ?_)
    have m7 := MF_tr m6 f7
    have r0 : ∀ x4 : Int32, (0 ≤ x4 ∧ x4 ≤ 1) → (if x4 = 0 then lN (RC 5 (av C h) G 9 / Nat.gcd (RC 5 (av C h) G 9) (2 ^ (4 * G))) else lN (2 ^ (4 * G) / Nat.gcd (RC 5 (av C h) G 9) (2 ^ (4 * G)))) = F_road C N G 5 (nI h) 9 x4 := fun x4 h4 => by
      unfold F_road
      rw [if_pos (show (((0 : Int32) ≤ 5 ∧ (5 : Int32) ≤ 16) ∧ HB N (nI h)) ∧ ((0 : Int32) ≤ 9 ∧ (9 : Int32) ≤ 999) ∧ (0 ≤ x4 ∧ x4 ≤ 1) from ⟨⟨by decide, hbh⟩, by decide, h4⟩), ch]
      rfl
    have s0 : ∀ x4 : Int32, (0 ≤ x4 ∧ x4 ≤ 1) → (if G = 0 then 0 else (SEA G (seaV C h x4) 7 30).2) = F_season C N G 7 30 (nI h) x4 := fun x4 h4 => by
      unfold F_season
      rw [if_pos (show ((1 : Int32) ≤ 30 ∧ (30 : Int32) ≤ 99) ∧ HB N (nI h) ∧ (0 ≤ x4 ∧ x4 ≤ 1) from ⟨by decide, hbh, h4⟩), ch]
      rfl
    refine m_roadOf (p := 5) (t := 9) hC F7 (by omega) (by omega) (by omega) (fun y12 e12 => m_roadOf (p := 5) (t := 9) hC F7 (by omega) (by omega) (by omega) (fun y13 e13 => ?_))
    refine m_seasonOf (n := 30) hC F7 (by omega) (by omega) hh (fun M8 f8 F8 y14 e14 => m_seasonOf (n := 30) hC F8 (by omega) (by omega) hh (fun M9 f9 F9 => ?_))
    have hpp := hp M9 (MF_tr (MF_tr m7 f8) f9) F9
    rw [r0 0 (by decide)] at e12
    rw [r0 1 (by decide)] at e13
    rw [s0 0 (by decide)] at e14
    rw [s0 1 (by decide), e14, e13, e12, e11, e10, e9, e8, e7, e6, e5, e4, e3, e2, e1, hs, ft.2.2.2]
    exact hpp
  · intro k i s hi hs ih
    unfold b_X10_tellsHouse_6
    have e3 : 3 * nI h + nI i = nI (3 * h + i) := by rw [show (3 : Int32) = nI 3 from rfl, pk_mul, nI_add]
    rw [e3, nI_clamp (show 3 * h + i < 2 ^ 31 by omega)]
    refine ⟨fun q => absurd q (nI_ge (b := 3) hi (by omega)), fun _ => ⟨vp_in_nI (by omega) (by omega), fun y ey z ez => ?_⟩⟩
    rw [ez, nI_1]
    refine ih y ?_
    have e7 : M 7 (3 * h + i) = C 3 (i + 1) h := by
      rcases (show i = 0 ∨ i = 1 ∨ i = 2 by omega) with rfl | rfl | rfl
      · exact ft.1
      · exact ft.2.1
      · exact ft.2.2.1
    rw [ey, e7, hs]
    rfl
theorem m_digest {C : Nat → Mem} {M : Mem} {n0 n1 N G : Nat} (hR : REL C M) (hC : CS C N G) (hT0 : TXT true 31 n0 (C 1)) (hT1 : TXT false 47 n1 (C 2)) (hX : TXM C M n0 n1) {post : Int64 → Mem → Prop} (hp : ∀ M', MF M M' → post (dgF C n0 n1 N G) M') : wp_X10_digest M post := by
  have hN8 := hC.N8
  have hG8 := hC.1
  unfold wp_X10_digest b_X10_digest_0
  refine loop_0 (fun k i (u : Int64 × Mem) => b_X10_digest_6 post k u.1 (nI i) u.2) (fun i u => u.1 = mixf 17 (fun k => F_count C N G (nI k)) i ∧ MF M u.2) 8 (17, M) ⟨rfl, MF_rf M⟩ ?_ ?_
  · intro k u hu
    obtain ⟨s, D⟩ := u
    obtain ⟨u1, u2⟩ := hu
    dsimp only at u1 u2
    dsimp only
    unfold b_X10_digest_6
    refine ⟨fun _ => ?_, fun q => absurd (show (8 : Int32) ≤ nI 8 by decide) q⟩
    obtain ⟨t0, t1, t2, t3⟩ := hX
    have d5 : D 5 = M 5 := u2.2.2.2.1
    have d6 : D 6 = M 6 := u2.2.2.2.2.1
    refine e_readsHouses (n := n0) (by rw [d6]; exact t0) hT0.2.2.2.1 (fun M1 _ hf1 y1 e1 => e_readsGuests (n := n1) (b := C 2 1) (fun i hi => by rw [hf1.1 5 (by decide) (by decide), d5]; exact t3 i hi) (by rw [hf1.1 6 (by decide) (by decide), d6]; exact t1) hT1.2.2.2.1 (fun M2 _ hf2 y2 e2 => ?_))
    rw [show FLT (okT true (D 5)) n0 4 = FLT (okT true (C 1 1)) n0 4 from FLT_cong (fun j hj => by unfold okT; rw [d5, t2 j hj])] at e1
    have m2 : MF M M2 := MF_tr (MF_tr u2 (hf1.mf (by omega) (by omega))) (hf2.mf (by omega) (by omega))
    have ey : y2 = MI (MI (mixf 17 (fun k => F_count C N G (nI k)) 8) (FLT (okT true (C 1 1)) n0 4)) (FLT (okT false (C 2 1)) n1 6) := by rw [e2, e1, u1]; rfl
    unfold dgF at hp
    rw [← ey] at hp
    refine e_find2 (hR.mf m2) hC (fun M3 hf3 hF3 => ?_)
    have m3 := MF_tr m2 hf3
    refine loop_0 (fun k i (u : Int64 × Mem) => b_X10_digest_61 post k u.1 (nI i) u.2) (fun i u => u.1 = fdN (dgH C N G) y2 i ∧ MF M u.2 ∧ FND C N G u.2) N (y2, M3) ⟨rfl, m3, hF3⟩ ?_ ?_
    · intro k2 w hw
      obtain ⟨s2, D2⟩ := w
      obtain ⟨w1, w2, w3⟩ := hw
      dsimp only at w1 w2 w3
      dsimp only
      unfold b_X10_digest_61
      rw [w3.1]
      refine ⟨fun _ => ?_, fun q => absurd (nI_le (Nat.le_refl N) (by omega)) q⟩
      refine loop_0 (fun k i (u : Int64 × Mem) => b_X10_digest_84 post k u.1 (nI i) u.2) (fun i u => u.1 = fdN (dgG C N) (fdN (dgH C N G) y2 N) i ∧ MF M u.2 ∧ FND C N G u.2) G (s2, D2) ⟨w1, w2, w3⟩ ?_ ?_
      · intro k3 w hw
        obtain ⟨s3, D3⟩ := w
        obtain ⟨w1, w2, w3⟩ := hw
        dsimp only at w1 w2 w3
        dsimp only
        unfold b_X10_digest_84
        rw [w3.2.1]
        have hS := w2.sg hR.sg
        refine ⟨fun _ => m_poorNow hC w3 (fun z1 ez1 => m_passedNow hC w3 (fun z2 ez2 => m_twiceNow hC w3 hS (fun z3 ez3 => m_askNow hC w3 hS ?_))), fun q => absurd (nI_le (Nat.le_refl G) (by omega)) q⟩
        have hpp := hp D3 w2
        rw [← w1] at hpp
        rw [ez3, ez2, ez1]
        exact hpp
      · intro k3 i w hi hw ih3
        obtain ⟨s3, D3⟩ := w
        obtain ⟨w1, w2, w3⟩ := hw
        dsimp only at w1 w2 w3
        dsimp only
        unfold b_X10_digest_84
        rw [w3.2.1]
        refine ⟨fun q => absurd q (nI_ge hi (by omega)), fun _ => ?_⟩
        have fg := w3.2.2.2.1 i hi
        refine loop_0 (fun k2 j (s : Int64) => b_X10_digest_95 post (b_X10_digest_84 post k3) k2 s (nI i) (nI j) D3) (fun j s => s = mixf s3 (fun k => C 4 (k + 1) i) j) 4 s3 rfl ?_ ?_
        · intro k4 s4 hs4
          unfold b_X10_digest_95
          refine ⟨fun _ => ?_, fun q => absurd (show (4 : Int32) ≤ nI 4 by decide) q⟩
          refine loop_0 (fun k2 j (s : Int64) => b_X10_digest_129 post (b_X10_digest_84 post k3) k2 s (nI i) (nI j) D3) (fun j s => s = mixf (mixf s3 (fun k => C 4 (k + 1) i) 4) (fun k => F_fedk (WAYS (C 3) (C 4) i) k) j) 4 s4 hs4 ?_ ?_
          · intro k5 s5 hs5
            unfold b_X10_digest_129
            refine ⟨fun _ => m_beganOf hC w3 (w2.sg hR.sg) hi (fun D4 f4 F4 y ey => ?_), fun q => absurd (show (4 : Int32) ≤ nI 4 by decide) q⟩
            refine loop_0 (fun k2 j (s : Int64) => b_X10_digest_172 post (b_X10_digest_84 post k3) k2 s (nI i) (nI j) D4) (fun j s => s = mixf y (fun h => gvW (WAYS (C 3) (C 4) i) h) j) N y rfl ?_ ?_
            · intro k6 s6 hs6
              unfold b_X10_digest_172
              rw [F4.1]
              refine ⟨fun _ z ez => ?_, fun q => absurd (nI_le (Nat.le_refl N) (by omega)) q⟩
              rw [ez, nI_1]
              refine ih3 (s6, D4) ⟨?_, MF_tr w2 f4, F4⟩
              dsimp only
              rw [hs6, ey, hs5, w1]
              rfl
            · intro k6 j s6 hj hs6 ih6
              unfold b_X10_digest_172
              have e8 : 8 * nI i + nI j = nI (8 * i + j) := by rw [show (8 : Int32) = nI 8 from rfl, pk_mul, nI_add]
              rw [F4.1, e8, nI_clamp (by omega), (F4.2.2.2.2.1 i hi).1 j (by omega)]
              refine ⟨fun q => absurd q (nI_ge hj (by omega)), fun _ => ⟨vp_in_nI (by omega) (by omega), fun z ez w ew => ?_⟩⟩
              rw [ew, nI_1]
              refine ih6 z ?_
              rw [ez, hs6]
              rfl
          · intro k5 j s5 hj hs5 ih5
            unfold b_X10_digest_129
            refine ⟨fun q => absurd q (nI_ge (b := 4) hj (by omega)), fun _ => m_fedBy hC w3 hi (by omega) (fun z ez w ew => ?_)⟩
            rw [ew, nI_1]
            refine ih5 z ?_
            rw [ez, hs5]
            rfl
        · intro k4 j s4 hj hs4 ih4
          unfold b_X10_digest_95
          have e4 : 4 * nI i + nI j = nI (4 * i + j) := by rw [show (4 : Int32) = nI 4 from rfl, pk_mul, nI_add]
          rw [e4, nI_clamp (by omega)]
          refine ⟨fun q => absurd q (nI_ge (b := 4) hj (by omega)), fun _ => ⟨vp_in_nI (by omega) (by omega), fun z ez w ew => ?_⟩⟩
          rw [ew, nI_1]
          refine ih4 z ?_
          have e8 : D3 8 (4 * i + j) = C 4 (j + 1) i := by
            rcases (show j = 0 ∨ j = 1 ∨ j = 2 ∨ j = 3 by omega) with rfl | rfl | rfl | rfl
            · exact fg.1
            · exact fg.2.1
            · exact fg.2.2.1
            · exact fg.2.2.2
          rw [ez, e8, hs4]
          rfl
    · intro k2 i w hi hw ih2
      obtain ⟨s2, D2⟩ := w
      obtain ⟨w1, w2, w3⟩ := hw
      dsimp only at w1 w2 w3
      dsimp only
      unfold b_X10_digest_61
      rw [w3.1]
      refine ⟨fun q => absurd q (nI_ge hi (by omega)), fun _ => m_tellsHouse (hR.mf w2) hC w3 hi (fun D3 f3 F3 z ez => ?_)⟩
      rw [ez, nI_1]
      refine ih2 (_, D3) ⟨?_, MF_tr w2 f3, F3⟩
      dsimp only
      rw [w1]
      rfl
  · intro k i u hi hu ih
    obtain ⟨s, D⟩ := u
    obtain ⟨u1, u2⟩ := hu
    dsimp only at u1 u2
    dsimp only
    unfold b_X10_digest_6
    refine ⟨fun q => absurd q (nI_ge (b := 8) hi (by omega)), fun _ => m_count (hR.mf u2) hC (fun D2 f2 _ y ey z ez => ?_)⟩
    rw [ez, nI_1]
    refine ih (y, D2) ⟨?_, MF_tr u2 f2⟩
    dsimp only
    rw [ey, u1]
    rfl
theorem p_digest {C : Nat → Mem} {L : MemL} {M : Mem} (hR : REL C M) : wp_X9_digest C L (fun r C' _ => wp_X10_digest M (fun r' M' => r = r' ∧ REL C' M')) := by
  have hn := hR.sg.n
  obtain ⟨n0, n1, hI, hX, -, -, -, -⟩ := id hR
  obtain ⟨hT0, hT1, -, -, -⟩ := id hI
  refine c_digest hI.cs hT0 hT1 hn.1 hn.2.1 (fun C' L' hco => ?_)
  exact m_digest hR hI.cs hT0 hT1 hX (fun M' hf => ⟨rfl, (hR.mf hf).core hco⟩)
