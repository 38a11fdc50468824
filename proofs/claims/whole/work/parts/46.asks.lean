/-! ===== the reference: what is asked ===== -/
theorem in_ix (N : Nat) (h : pH) (x : Int32) (b : Nat) (hb : b < 2 ^ 30) : fX9_in N h x.toInt64 0 (no_index (OfNat.ofNat b)) = some (if ix x (b + 1) then 1 else 0, h) := by
  rw [in0_eq N h x b (by omega)]
  have e : (nI 0 ≤ x ∧ x ≤ nI b) ↔ ix x (b + 1) = true := by
    rw [ix_iff, le_toInt, le_toInt, nI_toInt (by omega), nI_toInt (by omega)]
    omega
  simp only [e]
theorem in_ixn (N : Nat) (h : pH) (x : Int32) (n : Nat) (hb : n < 2 ^ 30) : fX9_in N h x.toInt64 0 ((nI n).toInt64) = some (if ix x (n + 1) then 1 else 0, h) := by
  rw [show (0 : Int64) = (OfNat.ofNat 0 : Int64) from rfl, in2_eq N h x _ 0 (by decide)]
  have e : (nI 0 ≤ x ∧ x ≤ nI n) ↔ ix x (n + 1) = true := by
    rw [ix_iff, le_toInt, le_toInt, nI_toInt (by omega), nI_toInt (by omega)]
    omega
  simp only [e]
theorem in_ixm (N : Nat) (h : pH) (x : Int32) (n : Nat) (hb : n < 2 ^ 30) : fX9_in N h x.toInt64 0 ((nI n - 1).toInt64) = some (if ix x n then 1 else 0, h) := by
  rw [show (0 : Int64) = (OfNat.ofNat 0 : Int64) from rfl, in2_eq N h x _ 0 (by decide)]
  have e1 : (nI n - 1).toInt = (n : Int) - 1 := pk_sub_toInt (a := n) (b := 1) (by omega) (by omega)
  have e : (nI 0 ≤ x ∧ x ≤ nI n - 1) ↔ ix x n = true := by
    rw [ix_iff, le_toInt, le_toInt, e1, nI_toInt (by omega)]
    omega
  simp only [e]
theorem b2i (b : Bool) : ((if b = true then (1 : Int32) else 0) = 0) = (b = false) := by cases b <;> simp
theorem isTwo_ix (N : Nat) (h : pH) (x : Int32) : fX9_isTwo N h x = some (if ix x 2 then 1 else 0, h) := by
  rw [fX9_isTwo, in_ix N h x 1 (by decide)]
  cases c : ix x 2 <;> simp [c]
theorem isSheet_ix (N : Nat) (h : pH) (x : Int32) : fX9_isSheet N h x = some (if ix x 4 then 1 else 0, h) := by
  rw [fX9_isSheet, in_ix N h x 3 (by decide)]
  cases c : ix x 4 <;> simp [c]
theorem isText_ix (N : Nat) (h : pH) (x : Int32) : fX9_isText N h x = some (if ix x 3 then 1 else 0, h) := by
  rw [fX9_isText, in_ix N h x 2 (by decide)]
  cases c : ix x 3 <;> simp [c]
theorem isCrosser_ix {w : Wt} {h : pH} (hw : wok w) (hF : h.1 49 9 = nI (nk w)) (N : Nat) (x : Int32) : fX9_isCrosser N h x = some (if ix x (nk w) then 1 else 0, h) := by
  have w2 := hw.2.1
  rw [fX9_isCrosser, hF, in_ixm N h x _ (by omega)]
  cases c : ix x (nk w) <;> simp [c]
theorem z_bit : (fun j => (0 : Nat).testBit j) = fun _ => false := by funext j; simp
theorem Lw_iff {σ : St} {h : pH} : Lw σ h ↔ Lv (wOf σ) (fun _ => false) h := by unfold Lw; rw [z_bit]
/-- what the arrays of 'lives' hold -/
def Lz (w : Wt) (h : pH) : Prop := h.1 49 19 = gI w (G w (nc w)) ∧ (∀ j, j ≤ nc w → h.1 61 j = gI w (G w j)) ∧ ∀ j, j < nc w → h.1 62 j = nI (oc w (wh w j) (G w j)) ∧ h.1 63 j = nI (tol w (wh w j) (G w j)) ∧ h.1 64 j = nI (rws w (wh w j) (G w j))
theorem Lw.z {σ : St} {h : pH} (hL : Lw σ h) : Lz (wOf σ) h := by
  rw [Lw_iff] at hL
  obtain ⟨h1, h2, h3⟩ := hL
  refine ⟨h1, h2, fun j hj => ?_⟩
  have := h3 j hj
  simpa [ocm, tom, rom, G] using this
def a_flt (σ : St) (x : Int32) : Int32 := if ix x 3 then flt σ x.toNatClampNeg else -2
def a_plank (σ : St) (x : Int32) : Int32 := if ix x 19 then (if x.toNatClampNeg < np (wOf σ) then (if rot (wOf σ) x.toNatClampNeg then 1 else 0) else -1) else -2
def cf (w : Wt) (k j : Nat) : Nat := if j = 0 then kd w k else if j = 1 then wg w k else if j = 2 then en w k else lp w k
def a_crosser (σ : St) (x y : Int32) : Int32 := if ix x (nk (wOf σ)) = true ∧ ix y 4 = true then nI (cf (wOf σ) x.toNatClampNeg y.toNatClampNeg) else -2
def a_crossing (σ : St) (x : Int32) : Int32 := if ix x 24 then (if x.toNatClampNeg < nc (wOf σ) then nI (wh (wOf σ) x.toNatClampNeg) else -1) else -2
def a_gap (σ : St) (x : Int32) : Int32 := if ix x (nc (wOf σ) + 1) then gI (wOf σ) (G (wOf σ) x.toNatClampNeg) else -2
def cb (w : Wt) (i j : Nat) : Nat := if j = 0 then oc w (wh w i) (G w i) else if j = 1 then tol w (wh w i) (G w i) else rws w (wh w i) (G w i)
def a_comes (σ : St) (x y : Int32) : Int32 := if ix x (nc (wOf σ)) = true ∧ ix y 3 = true then nI (cb (wOf σ) x.toNatClampNeg y.toNatClampNeg) else -2
theorem m_fault {σ : St} {h : pH} (hS : Sok σ) (hB : Bm σ h) {N : Nat} (hN : 1000 ≤ N) (x : Int32) : ∃ h', fX9_fault N h x = some (a_flt σ x, h') ∧ Kp SF h h' := by
  rw [fX9_fault, isText_ix]
  simp only [Option.bind_some, b2i, fX9_fault_b17, a_flt]
  cases c : ix x 3
  · exact ⟨h, rfl, Kp.rf h⟩
  · obtain ⟨j, hj, rfl⟩ := ix_of c (by decide)
    simp only [if_true, Bool.true_eq_false, if_false, fX9_readsText, fX9_readsText_b27, nI_clamp (show j < 2 ^ 31 by omega)]
    rcases (show j = 0 ∨ j = 1 ∨ j = 2 by omega) with rfl | rfl | rfl
    · obtain ⟨h', e, k, -⟩ := readsPlanks_eq hS hB hN
      rw [if_pos (by decide), e]
      exact ⟨h', rfl, k.mono (fun a b z => by unfold SP at z; unfold SF; omega)⟩
    · obtain ⟨h', e, k, -⟩ := readsCrossers_eq hS hB hN
      rw [if_neg (by decide), if_pos (by decide), e]
      exact ⟨h', rfl, k.mono (fun a b z => by unfold SC at z; unfold SF; omega)⟩
    · obtain ⟨h', e, k, -⟩ := readsCrossings_eq hS hB hN
      rw [if_neg (by decide), if_neg (by decide), e]
      exact ⟨h', rfl, k.mono (fun a b z => by unfold SX at z; unfold SF; omega)⟩
theorem m_plank {σ : St} {h : pH} (hS : Sok σ) (hB : Bm σ h) {N : Nat} (hN : 1000 ≤ N) (x : Int32) : ∃ h', fX9_plank N h x = some (a_plank σ x, h') ∧ Kp SF h h' := by
  obtain ⟨h', e, k, a, b⟩ := readsPlanks_eq hS hB hN
  have w1 := (wok_of hS).1
  refine ⟨h', ?_, k.mono (fun a b z => by unfold SP at z; unfold SF; omega)⟩
  rw [fX9_plank, e]
  simp only [Option.bind_some, in_ix N h' x 18 (by decide), b2i, fX9_plank_b40, a_plank]
  cases c : ix x 19
  · rfl
  · obtain ⟨j, hj, rfl⟩ := ix_of c (by decide)
    simp only [if_true, Bool.true_eq_false, if_false, a, nI_clamp (show j < 2 ^ 31 by omega), nI_leI (show np (wOf σ) < 2 ^ 31 by omega) (show j < 2 ^ 31 by omega)]
    by_cases c2 : j < np (wOf σ)
    · rw [if_neg (by omega), if_pos c2, b j c2]
    · rw [if_pos (by omega), if_neg c2]
theorem m_crosser {σ : St} {h : pH} (hS : Sok σ) (hB : Bm σ h) {N : Nat} (hN : 1000 ≤ N) (x y : Int32) : ∃ h', fX9_crosser N h x y = some (a_crosser σ x y, h') ∧ Kp SF h h' := by
  obtain ⟨h', e, k, a, b⟩ := readsCrossers_eq hS hB hN
  have w2 := (wok_of hS).2.1
  refine ⟨h', ?_, k.mono (fun a b z => by unfold SC at z; unfold SF; omega)⟩
  rw [fX9_crosser, e]
  simp only [Option.bind_some, isCrosser_ix (wok_of hS) a, b2i, fX9_crosser_b38, fX9_crosser_b40, a_crosser, in_ix N h' y 3 (by decide)]
  cases c : ix x (nk (wOf σ))
  · simp
  · cases c2 : ix y 4
    · simp
    · obtain ⟨i, hi, rfl⟩ := ix_of c (by omega)
      obtain ⟨j, hj, rfl⟩ := ix_of c2 (by decide)
      obtain ⟨q0, q1, q2, q3⟩ := b i hi
      simp (disch := omega) only [if_true, Bool.true_eq_false, if_false, and_self, lit_mul_nI, nI_add, ix_nI, nI_clamp]
      rcases (show j = 0 ∨ j = 1 ∨ j = 2 ∨ j = 3 by omega) with rfl | rfl | rfl | rfl
      · rw [Nat.add_zero, q0]; rfl
      · rw [q1]; rfl
      · rw [q2]; rfl
      · rw [q3]; rfl
theorem m_crossing {σ : St} {h : pH} (hS : Sok σ) (hB : Bm σ h) {N : Nat} (hN : 1000 ≤ N) (x : Int32) : ∃ h', fX9_crossing N h x = some (a_crossing σ x, h') ∧ Kp SF h h' := by
  obtain ⟨h', e, k, a, b⟩ := readsCrossings_eq hS hB hN
  have w4 := (wok_of hS).2.2.2.1
  refine ⟨h', ?_, k.mono (fun a b z => by unfold SX at z; unfold SF; omega)⟩
  rw [fX9_crossing, e]
  simp only [Option.bind_some, in_ix N h' x 23 (by decide), b2i, fX9_crossing_b40, a_crossing]
  cases c : ix x 24
  · rfl
  · obtain ⟨j, hj, rfl⟩ := ix_of c (by decide)
    simp only [if_true, Bool.true_eq_false, if_false, a, nI_clamp (show j < 2 ^ 31 by omega), nI_leI (show nc (wOf σ) < 2 ^ 31 by omega) (show j < 2 ^ 31 by omega)]
    by_cases c2 : j < nc (wOf σ)
    · rw [if_neg (by omega), if_pos c2, b j c2]
    · rw [if_pos (by omega), if_neg c2]
theorem m_gap {σ : St} {h : pH} (hS : Sok σ) (hB : Bm σ h) {N : Nat} (hN : 1000 ≤ N) (x : Int32) : ∃ h', fX9_gap N h x = some (a_gap σ x, h') ∧ Kp SF h h' := by
  obtain ⟨h', e, k, hF, hL⟩ := find_eq hS hB hN
  have hz := hL.z
  have w4 := (wok_of hS).2.2.2.1
  refine ⟨h', ?_, k⟩
  rw [fX9_gap, e]
  simp only [Option.bind_some, hF.2.2.2.2.1, in_ixn N h' x _ (show nc (wOf σ) < 2 ^ 30 by omega), b2i, fX9_gap_b29, a_gap]
  cases c : ix x (nc (wOf σ) + 1)
  · rfl
  · obtain ⟨j, hj, rfl⟩ := ix_of c (by omega)
    simp (disch := omega) only [if_true, Bool.true_eq_false, if_false, ix_nI, nI_clamp]
    rw [hz.2.1 j (by omega)]
theorem comesBy_eq {w : Wt} {h : pH} (hw : wok w) (hL : Lz w h) (N : Nat) {i j : Nat} (hi : i < nc w) (hj : j < 3) : fX9_comesBy N h (nI i) (nI j) = some (nI (cb w i j), h) := by
  have w4 := hw.2.2.2.1
  obtain ⟨q1, q2, q3⟩ := hL.2.2 i hi
  simp (disch := omega) only [fX9_comesBy, fX9_comesBy_b33, ix_nI, nI_clamp, if_true, q1, q2, q3]
  rcases (show j = 0 ∨ j = 1 ∨ j = 2 by omega) with rfl | rfl | rfl
  · rw [if_pos (by decide)]; rfl
  · rw [if_neg (by decide), if_pos (by decide)]; rfl
  · rw [if_neg (by decide), if_neg (by decide)]; rfl
theorem m_comes {σ : St} {h : pH} (hS : Sok σ) (hB : Bm σ h) {N : Nat} (hN : 1000 ≤ N) (x y : Int32) : ∃ h', fX9_comes N h x y = some (a_comes σ x y, h') ∧ Kp SF h h' := by
  obtain ⟨h', e, k, hF, hL⟩ := find_eq hS hB hN
  have hz := hL.z
  have w4 := (wok_of hS).2.2.2.1
  refine ⟨h', ?_, k⟩
  rw [fX9_comes, e]
  simp only [Option.bind_some, hF.2.2.2.2.1, in_ixm N h' x _ (show nc (wOf σ) < 2 ^ 30 by omega), b2i, fX9_comes_b41, fX9_comes_b43, in_ix N h' y 2 (by decide), a_comes]
  cases c : ix x (nc (wOf σ))
  · simp
  · cases c2 : ix y 3
    · simp
    · obtain ⟨i, hi, rfl⟩ := ix_of c (by omega)
      obtain ⟨j, hj, rfl⟩ := ix_of c2 (by decide)
      simp (disch := omega) only [if_true, Bool.true_eq_false, if_false, and_self, comesBy_eq (wok_of hS) hz N hi hj, Option.bind_some, nI_clamp]
