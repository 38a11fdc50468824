/-! ===== numbers and reads of the pure heap ===== -/
theorem litI (n : Nat) : (no_index (OfNat.ofNat n) : Int32) = nI (OfNat.ofNat n) := rfl
theorem nI_le_lit {a n : Nat} (ha : a < 2 ^ 31) (hn : (OfNat.ofNat n : Nat) < 2 ^ 31) : (nI a ≤ (no_index (OfNat.ofNat n) : Int32)) ↔ a ≤ (OfNat.ofNat n : Nat) := nI_leI ha hn
theorem nI_lt_lit {a n : Nat} (ha : a < 2 ^ 31) (hn : (OfNat.ofNat n : Nat) < 2 ^ 31) : (nI a < (no_index (OfNat.ofNat n) : Int32)) ↔ a < (OfNat.ofNat n : Nat) := nI_ltI ha hn
theorem lit_le_nI {a n : Nat} (ha : a < 2 ^ 31) (hn : (OfNat.ofNat n : Nat) < 2 ^ 31) : ((no_index (OfNat.ofNat n) : Int32) ≤ nI a) ↔ (OfNat.ofNat n : Nat) ≤ a := nI_leI hn ha
theorem lit_lt_nI {a n : Nat} (ha : a < 2 ^ 31) (hn : (OfNat.ofNat n : Nat) < 2 ^ 31) : ((no_index (OfNat.ofNat n) : Int32) < nI a) ↔ (OfNat.ofNat n : Nat) < a := nI_ltI hn ha
theorem nI_eq_lit {a n : Nat} (ha : a < 2 ^ 31) (hn : (OfNat.ofNat n : Nat) < 2 ^ 31) : (nI a = (no_index (OfNat.ofNat n) : Int32)) ↔ a = (OfNat.ofNat n : Nat) := nI_eq ha hn
theorem lit_eq_nI {a n : Nat} (ha : a < 2 ^ 31) (hn : (OfNat.ofNat n : Nat) < 2 ^ 31) : ((no_index (OfNat.ofNat n) : Int32) = nI a) ↔ (OfNat.ofNat n : Nat) = a := nI_eq hn ha
theorem nI_add_lit (a n : Nat) : nI a + (no_index (OfNat.ofNat n) : Int32) = nI (a + OfNat.ofNat n) := nI_add a n
theorem lit_add_nI (a n : Nat) : (no_index (OfNat.ofNat n) : Int32) + nI a = nI (OfNat.ofNat n + a) := nI_add n a
theorem lit_mul_nI (a n : Nat) : (no_index (OfNat.ofNat n) : Int32) * nI a = nI (OfNat.ofNat n * a) := pk_mul n a
theorem nI_rem_lit {a n : Nat} (ha : a < 2 ^ 31) (h0 : 0 < (OfNat.ofNat n : Nat)) (hn : (OfNat.ofNat n : Nat) < 2 ^ 31) : nI a - nI a / (no_index (OfNat.ofNat n) : Int32) * (no_index (OfNat.ofNat n) : Int32) = nI (a % OfNat.ofNat n) := pk_rem ha h0 hn
theorem nI_rem {a n : Nat} (ha : a < 2 ^ 31) (h0 : 0 < n) (hn : n < 2 ^ 31) : nI a - nI a / nI n * nI n = nI (a % n) := pk_rem ha h0 hn
theorem nI_div_lit {a n : Nat} (ha : a < 2 ^ 31) (h0 : 0 < (OfNat.ofNat n : Nat)) (hn : (OfNat.ofNat n : Nat) < 2 ^ 31) : nI a / (no_index (OfNat.ofNat n) : Int32) = nI (a / OfNat.ofNat n) := pk_div ha h0 hn
theorem nI_sub_lit {a n : Nat} (h : (OfNat.ofNat n : Nat) ≤ a) : nI a - (no_index (OfNat.ofNat n) : Int32) = nI (a - OfNat.ofNat n) := pk_sub h
theorem ix_nI {j n : Nat} (h : j < n) (hn : n < 2 ^ 31) : ix (nI j) n = true := decide_eq_true (vp_in_nI h hn : ¬ (nI j < 0 ∨ n ≤ (nI j).toNatClampNeg))
theorem ix_of {x : Int32} {n : Nat} (h : ix x n = true) (hn : n < 2 ^ 31) : ∃ j, j < n ∧ x = nI j := vp_in_of (ix_in h) hn
theorem ix_iff {x : Int32} {n : Nat} : ix x n = true ↔ 0 ≤ x.toInt ∧ x.toInt < n := by
  have e : ix x n = true ↔ vp_in x n := by simp [ix, vp_in]
  rw [e, vp_in_iff]
theorem cl0 : (0 : Int32).toNatClampNeg = 0 := by decide
theorem cl1 : (1 : Int32).toNatClampNeg = 1 := by decide
theorem cl2 : (2 : Int32).toNatClampNeg = 2 := by decide
theorem cl3 : (3 : Int32).toNatClampNeg = 3 := by decide
theorem ixc02 : ix 0 2 = true := by decide
theorem ixc12 : ix 1 2 = true := by decide
theorem ixc03 : ix 0 3 = true := by decide
theorem ixc13 : ix 1 3 = true := by decide
theorem ixc23 : ix 2 3 = true := by decide
theorem pw_at (h : pH) (k j : Nat) (v : Int32) (a b : Nat) : (pw h k j v).1 a b = if a = k ∧ b = j then v else h.1 a b := by
  by_cases ha : a = k
  · subst ha
    by_cases hb : b = j <;> simp [pw, upd, hb]
  · simp [pw, ha]
theorem pw_2 (h : pH) (k j : Nat) (v : Int32) : (pw h k j v).2 = h.2 := rfl
theorem pw_o {h : pH} {k j : Nat} {v : Int32} {a : Nat} (ha : a ≠ k) : (pw h k j v).1 a = h.1 a := by simp [pw, ha]
/-! the reference's 'in' -/
theorem lg_lt (x y : Int64) : lg_cmp x y < 0 ↔ x < y := by
  unfold lg_cmp
  by_cases h1 : y < x
  · simp [h1, Int64.not_lt.mpr (Int64.le_of_lt h1)]
  · by_cases h2 : x = y
    · subst h2; simp
    · have : x < y := by
        rcases Int64.lt_or_eq_of_le (Int64.not_lt.mp h1) with q | q
        · exact q
        · exact absurd q h2
      simp [h1, h2, this]
theorem lg_gt (x y : Int64) : 0 < lg_cmp x y ↔ y < x := by
  unfold lg_cmp
  by_cases h1 : y < x
  · simp [h1]
  · by_cases h2 : x = y
    · subst h2; simp
    · simp [h1, h2]
theorem lg_le (x y : Int64) : lg_cmp x y ≤ 0 ↔ x ≤ y := by
  rw [← Int32.not_lt, lg_gt, Int64.not_lt]
theorem lg_eq (x y : Int64) : lg_cmp x y = 0 ↔ x = y := by
  unfold lg_cmp
  by_cases h1 : y < x
  · simp [h1]
    intro h; subst h; exact absurd h1 (Int64.lt_irrefl)
  · by_cases h2 : x = y
    · subst h2; simp
    · simp [h1, h2]
theorem in_eq (N : Nat) (h : pH) (a b c : Int64) : fX9_in N h a b c = some (if b ≤ a ∧ a ≤ c then 1 else 0, h) := by
  simp only [fX9_in, fX9_in_b17, fX9_in_b18, lg_lt, lg_gt]
  by_cases h1 : a < b
  · simp [h1, Int64.not_le.mpr h1]
  · by_cases h2 : c < a
    · simp [h1, h2, Int64.not_le.mpr h2]
    · simp [h1, h2, Int64.not_lt.mp h1, Int64.not_lt.mp h2]
theorem i2l_le (a b : Int32) : a.toInt64 ≤ b.toInt64 ↔ a ≤ b := by
  rw [Int64.le_iff_toInt_le, Int32.le_iff_toInt_le, Int32.toInt_toInt64, Int32.toInt_toInt64]
theorem i2l_lit (n : Nat) (hn : n < 2 ^ 31) : (OfNat.ofNat n : Int64) = (nI n).toInt64 := (nI_l hn).symm
/-- 'in' of ints, as the callers use it -/
theorem inI_eq (N : Nat) (h : pH) (x : Int32) (a b : Nat) (ha : a < 2 ^ 31) (hb : b < 2 ^ 31) : fX9_in N h x.toInt64 (OfNat.ofNat a) (OfNat.ofNat b) = some (if nI a ≤ x ∧ x ≤ nI b then 1 else 0, h) := by
  rw [in_eq, i2l_lit a ha, i2l_lit b hb]
  simp only [i2l_le]
theorem in2_eq (N : Nat) (h : pH) (x y : Int32) (a : Nat) (ha : a < 2 ^ 31) : fX9_in N h x.toInt64 (OfNat.ofNat a) y.toInt64 = some (if nI a ≤ x ∧ x ≤ y then 1 else 0, h) := by
  rw [in_eq, i2l_lit a ha]
  simp only [i2l_le]
theorem rng_of {x : Int32} {n : Nat} (hn : n < 2 ^ 31) (h : (nI 0 : Int32) ≤ x ∧ x ≤ nI n) : ∃ j, j ≤ n ∧ x = nI j := by
  have h0 : ¬ x < 0 := Int32.not_lt.mpr h.1
  obtain ⟨j, hj, e⟩ := nI_of h0
  refine ⟨j, ?_, e⟩
  rw [e] at h
  exact (nI_leI hj hn).mp h.2
theorem in0_eq (N : Nat) (h : pH) (x : Int32) (b : Nat) (hb : b < 2 ^ 31) : fX9_in N h x.toInt64 0 (OfNat.ofNat b) = some (if nI 0 ≤ x ∧ x ≤ nI b then 1 else 0, h) := inI_eq N h x 0 b (by decide) hb
theorem isTwo_eq (N : Nat) (h : pH) (x : Int32) : fX9_isTwo N h x = some (if nI 0 ≤ x ∧ x ≤ nI 1 then 1 else 0, h) := by
  rw [fX9_isTwo, in0_eq N h x 1 (by decide)]
  by_cases c : nI 0 ≤ x ∧ x ≤ nI 1 <;> simp [c]
theorem isSheet_eq (N : Nat) (h : pH) (x : Int32) : fX9_isSheet N h x = some (if nI 0 ≤ x ∧ x ≤ nI 3 then 1 else 0, h) := by
  rw [fX9_isSheet, in0_eq N h x 3 (by decide)]
  by_cases c : nI 0 ≤ x ∧ x ≤ nI 3 <;> simp [c]
theorem isText_eq (N : Nat) (h : pH) (x : Int32) : fX9_isText N h x = some (if nI 0 ≤ x ∧ x ≤ nI 2 then 1 else 0, h) := by
  rw [fX9_isText, in0_eq N h x 2 (by decide)]
  by_cases c : nI 0 ≤ x ∧ x ≤ nI 2 <;> simp [c]
theorem greater_eq (N : Nat) (h : pH) (a b : Nat) (ha : a < 2 ^ 31) (hb : b < 2 ^ 31) : fX9_greater N h (nI a) (nI b) = some (nI (max a b), h) := by
  simp only [fX9_greater, fX9_greater_b10, nI_leI ha hb]
  by_cases c : a ≤ b
  · rw [if_pos c, Nat.max_eq_right c]
  · rw [if_neg c, Nat.max_eq_left (by omega)]
theorem lesser_eq (N : Nat) (h : pH) (a b : Nat) (ha : a < 2 ^ 31) (hb : b < 2 ^ 31) : fX9_lesser N h (nI a) (nI b) = some (nI (min a b), h) := by
  simp only [fX9_lesser, fX9_lesser_b10, nI_leI hb ha]
  by_cases c : b ≤ a
  · rw [if_pos c, Nat.min_eq_right c]
  · rw [if_neg c, Nat.min_eq_left (by omega)]
theorem finds_eq (N : Nat) (h : pH) (x : Int32) : fX9_finds N h x = some (-10 - x, pw h 49 4 x) := rfl
/-! the class's 'within' -/
theorem within_eq (N : Nat) (h : pH) (x a b : Int32) : fX8_within N h x a b = some (if a ≤ x ∧ x ≤ b then 1 else 0, h) := by
  simp only [fX8_within, fX8_within_b14, fX8_within_b15]
  by_cases h1 : x < a
  · simp [h1, Int32.not_le.mpr h1]
  · by_cases h2 : b < x
    · simp [h1, h2, Int32.not_le.mpr h2]
    · simp [h1, h2, Int32.not_lt.mp h1, Int32.not_lt.mp h2]
theorem max_eq (N : Nat) (h : pH) (a b : Nat) (ha : a < 2 ^ 31) (hb : b < 2 ^ 31) : fJ9_max_7cf53 N h (nI a) (nI b) = some (nI (max a b), h) := by
  simp only [fJ9_max_7cf53, fJ9_max_7cf53_b10, nI_ltI ha hb]
  by_cases c : a < b
  · rw [if_pos c, Nat.max_eq_right (by omega)]
  · rw [if_neg c, Nat.max_eq_left (by omega)]
theorem min_eq (N : Nat) (h : pH) (a b : Nat) (ha : a < 2 ^ 31) (hb : b < 2 ^ 31) : fJ9_min_7cf53 N h (nI a) (nI b) = some (nI (min a b), h) := by
  simp only [fJ9_min_7cf53, fJ9_min_7cf53_b10, nI_ltI hb ha]
  by_cases c : b < a
  · rw [if_pos c, Nat.min_eq_right (by omega)]
  · rw [if_neg c, Nat.min_eq_left (by omega)]
