-- numbers
def bI (c : Prop) [Decidable c] : Int32 := if c then 1 else 0
theorem bI_z {c : Prop} [Decidable c] : (bI c = 0) = ¬ c := by unfold bI; by_cases h : c <;> simp [h]
theorem bI_o {c : Prop} [Decidable c] : (bI c = 1) = c := by unfold bI; by_cases h : c <;> simp [h]
theorem bI_zo {c : Prop} [Decidable c] : bI c = 0 ∨ bI c = 1 := by unfold bI; by_cases h : c <;> simp [h]
theorem i_lt (a b : Int32) : a < b ↔ a.toInt < b.toInt := Int32.lt_iff_toInt_lt
theorem i_le (a b : Int32) : a ≤ b ↔ a.toInt ≤ b.toInt := Int32.le_iff_toInt_le
theorem i_eq (a b : Int32) : a = b ↔ a.toInt = b.toInt := Int32.toInt_inj.symm
theorem l_lt (a b : Int64) : a < b ↔ a.toInt < b.toInt := Int64.lt_iff_toInt_lt
theorem l_le (a b : Int64) : a ≤ b ↔ a.toInt ≤ b.toInt := Int64.le_iff_toInt_le
theorem l_eq (a b : Int64) : a = b ↔ a.toInt = b.toInt := Int64.toInt_inj.symm
theorem i_nlt (a b : Int32) : (¬ a < b) = (b ≤ a) := propext (by rw [i_lt, i_le]; omega)
theorem i_nle (a b : Int32) : (¬ a ≤ b) = (b < a) := propext (by rw [i_lt, i_le]; omega)
theorem cmp_lt (x y : Int64) : (lg_cmp x y < 0) = (x < y) := propext (by
  unfold lg_cmp
  simp only [l_lt, l_eq, gt_iff_lt]
  by_cases h : y.toInt < x.toInt
  · rw [if_pos h]; exact ⟨fun q => absurd q (by decide), fun q => by omega⟩
  · rw [if_neg h]
    by_cases h2 : x.toInt = y.toInt
    · rw [if_pos h2]; exact ⟨fun q => absurd q (by decide), fun q => by omega⟩
    · rw [if_neg h2]; exact ⟨fun _ => by omega, fun _ => by decide⟩)
theorem cmp_gt (x y : Int64) : (0 < lg_cmp x y) = (y < x) := propext (by
  unfold lg_cmp
  simp only [l_lt, l_eq, gt_iff_lt]
  by_cases h : y.toInt < x.toInt
  · rw [if_pos h]; exact ⟨fun _ => h, fun _ => by decide⟩
  · rw [if_neg h]
    by_cases h2 : x.toInt = y.toInt
    · rw [if_pos h2]; exact ⟨fun q => absurd q (by decide), fun q => by omega⟩
    · rw [if_neg h2]; exact ⟨fun q => absurd q (by decide), fun q => by omega⟩)
theorem cmp_eq (x y : Int64) : (lg_cmp x y = 0) = (x = y) := propext (by
  unfold lg_cmp
  simp only [l_lt, l_eq, gt_iff_lt]
  by_cases h : y.toInt < x.toInt
  · rw [if_pos h]; exact ⟨fun q => absurd q (by decide), fun q => by omega⟩
  · rw [if_neg h]
    by_cases h2 : x.toInt = y.toInt
    · rw [if_pos h2]; exact ⟨fun _ => h2, fun _ => rfl⟩
    · rw [if_neg h2]; exact ⟨fun q => absurd q (by decide), fun q => absurd q h2⟩)
theorem w_lt (a b : Int32) : (a.toInt64 < b.toInt64) = (a < b) := propext (by rw [l_lt, i_lt, Int32.toInt_toInt64, Int32.toInt_toInt64])
-- the stateless ones
theorem e_in (x lo hi : Int32) (post : Int32 → Prop) {a b : Int64} (ha : a = lo.toInt64) (hb : b = hi.toInt64) : wp_X10_in x.toInt64 a b post = post (bI (lo ≤ x ∧ x ≤ hi)) := by
  subst ha hb
  unfold wp_X10_in b_X10_in_0 bI
  simp only [cmp_lt, cmp_gt, w_lt, ← i_nlt]
  by_cases h1 : x < lo <;> by_cases h2 : hi < x <;> simp [h1, h2]
theorem e_no (x : Int32) (post : Int64 → Prop) : wp_X10_no x post = post ((-9223372036854775808) - x.toInt64) := rfl
theorem zo_and {c : Prop} [Decidable c] {P : Prop} : ((bI c = 0 ∨ bI c = 1) ∧ P) = P := by simp [bI_zo]
theorem e_isTwo (x : Int32) (post : Int32 → Prop) : wp_X10_isTwo x post = post (bI (0 ≤ x ∧ x ≤ 1)) := by
  unfold wp_X10_isTwo b_X10_isTwo_0
  rw [e_in (a := 0) (b := 1) x 0 1 _ rfl rfl, zo_and]
theorem e_isSheetM (x : Int32) (post : Int32 → Prop) : wp_X10_isSheet x post = post (bI (0 ≤ x ∧ x ≤ 3)) := by
  unfold wp_X10_isSheet b_X10_isSheet_0
  rw [e_in (a := 0) (b := 3) x 0 3 _ rfl rfl, zo_and]
theorem e_isIn (x k : Int32) (post : Int32 → Prop) : wp_X10_isIn x k post = post (bI ((x >>> (k &&& 31)) &&& 1 = 1)) := by
  unfold wp_X10_isIn b_X10_isIn_0
  simp only [forall_eq]
  exact zo_and
theorem e_lesser (a b : Int32) (post : Int32 → Prop) : wp_X10_lesser a b post = post (if b ≤ a then b else a) := by
  unfold wp_X10_lesser b_X10_lesser_0
  simp only [forall_eq]
def cutI (f v : Int32) : Int32 := if f = 0 then i2bv v else if f = 1 then i2sv v else v
theorem e_cut (f v : Int32) (post : Int32 → Prop) : wp_X10_cut f v post = post (cutI f v) := by
  unfold wp_X10_cut b_X10_cut_0 cutI
  by_cases h0 : f = 0 <;> by_cases h1 : f = 1 <;> simp [h0, h1]
def behI (k v : Int32) : Int32 := if k = 2 then v / 2 else if k = 3 then if v ≤ 0 then v else if 99 ≤ v + 3 then 99 else v + 3 else v
theorem e_behind (k v : Int32) (post : Int32 → Prop) : wp_X10_behind k v post = post (behI k v) := by
  unfold wp_X10_behind b_X10_behind_0 behI
  simp only [e_lesser]
  by_cases h2 : k = 2 <;> by_cases h3 : k = 3 <;> by_cases h0 : v ≤ 0 <;> simp [h2, h3, h0]
theorem e_isBit (x : Int32) (post : Int32 → Prop) : wp_X9_isBit x post = post (bI (0 ≤ x ∧ x ≤ 1)) := by
  have e : (0 ≤ x ∧ x ≤ 1) ↔ (x = 0 ∨ x = 1) := by
    simp only [i_le, i_eq]
    have h0 : (0 : Int32).toInt = 0 := rfl
    have h1 : (1 : Int32).toInt = 1 := rfl
    omega
  unfold wp_X9_isBit b_X9_isBit_0 bI
  by_cases h0 : x = 0 <;> by_cases h1 : x = 1 <;> simp [e, h0, h1]
theorem e_isSheet (x : Int32) (post : Int32 → Prop) : wp_X9_isSheet x post = post (bI (0 ≤ x ∧ x ≤ 3)) := by
  have e : (0 ≤ x ∧ x ≤ 3) ↔ (¬ x < 0 ∧ ¬ 4 ≤ x) := by
    simp only [i_le, i_lt]
    have h0 : (0 : Int32).toInt = 0 := rfl
    have h1 : (3 : Int32).toInt = 3 := rfl
    have h2 : (4 : Int32).toInt = 4 := rfl
    omega
  unfold wp_X9_isSheet b_X9_isSheet_0 bI
  by_cases h0 : x < 0 <;> by_cases h1 : 4 ≤ x <;> simp only [e, h0, h1] <;> simp
theorem e_isForm (x : Int32) (post : Int32 → Prop) : wp_X9_isForm x post = post (bI (0 ≤ x ∧ x ≤ 2)) := by
  have e : (0 ≤ x ∧ x ≤ 2) ↔ (¬ x < 0 ∧ ¬ 2 < x) := by simp only [i_le, i_lt]; omega
  unfold wp_X9_isForm b_X9_isForm_0 bI
  by_cases h0 : x < 0 <;> by_cases h1 : 2 < x <;> simp only [e, h0, h1] <;> simp
