/-! ===== the class: what is asked ===== -/
def Co (σ : St) (h h' : pH) : Prop := Ci σ h' ∧ (Fr σ h → Fr σ h') ∧ Kq SQ h h'
theorem Co.rf {σ : St} {h : pH} (hC : Ci σ h) : Co σ h h := ⟨hC, id, Kq.rf h⟩
theorem Co.fr {σ : St} {h h' : pH} (hF : Fr σ h') (k : Kq SQ h h') : Co σ h h' := ⟨hF.ci, fun _ => hF, k⟩
theorem Co.tr {σ : St} {a b c : pH} (h1 : Co σ a b) (h2 : Co σ b c) : Co σ a c := ⟨h2.1, fun z => h2.2.1 (h1.2.1 z), h1.2.2.tr h2.2.2⟩
def SV (a _b : Nat) : Prop := a = 27 ∨ a = 28 ∨ a = 29
theorem SV_SQ {a b : Nat} (h : SV a b) : SQ a b := by unfold SV at h; unfold SQ; omega
theorem Fr.kq {σ : St} {h h' : pH} (hnk : nk (wOf σ) ≤ 8) (hF : Fr σ h) (k : Kq SV h h') : Fr σ h' := by
  obtain ⟨h1, h2, ⟨h3, h4⟩, h5⟩ := hF
  refine ⟨h1.kq (k.mono (fun _ _ => SV_SQ)), ?_, ⟨h3.kq (k.mono (fun a b z => by unfold SV at z; unfold SR; omega)) hnk, ?_⟩, ?_⟩
  · rw [k _ _ (by unfold SV; omega)]; exact h2
  · intro i hi; rw [k _ _ (by unfold SV; omega)]; exact h4 i hi
  · intro z
    rw [k _ _ (by unfold SV; omega)] at z
    obtain ⟨p1, p2, p3, p4⟩ := h5 z
    refine ⟨?_, ?_, ?_, ?_⟩
    · rw [k _ _ (by unfold SV; omega)]; exact p1
    · rw [k _ _ (by unfold SV; omega)]; exact p2
    · rw [k _ _ (by unfold SV; omega)]; exact p3
    · intro j hj; rw [k _ _ (by unfold SV; omega)]; exact p4 j hj
theorem textAt_eq (N : Nat) (h : pH) (x : Int32) : fX8_textAt N h x = some (if ix x 3 then 3 + x.toNatClampNeg else 0, h) := by
  simp only [fX8_textAt, fX8_textAt_b25, show (3 : Int32) - 1 = 2 from by decide, wi_ix N h x 2 (by decide), Option.bind_some, b2i]
  cases c : ix x 3
  · rfl
  · obtain ⟨t, ht, rfl⟩ := ix_of c (by decide)
    simp (disch := omega) only [Bool.true_eq_false, if_false, if_true, nI_clamp, (r_text ht).2.2.2.2.2]
theorem c_fault {σ : St} {h : pH} (hS : Sok σ) (hC : Ci σ h) {N : Nat} (hN : 1000 ≤ N) (x : Int32) : ∃ h', fX8_fault N h x = some (a_flt σ x, h') ∧ Co σ h h' := by
  refine ⟨h, ?_, Co.rf hC⟩
  simp only [fX8_fault, fX8_fault_b20, textAt_eq, Option.bind_some, a_flt]
  cases c : ix x 3
  · rfl
  · obtain ⟨t, ht, rfl⟩ := ix_of c (by decide)
    simp only [if_true, nI_clamp (show t < 2 ^ 31 by omega)]
    rw [if_neg (by omega), cfault_eq hS hC.1 hN ht]
    rfl
theorem rot_eq {w : Wt} {h : pH} (hw : wok w) (hF : cF0 w h) (N : Nat) {p : Nat} (hp : p < np w) : fX0_isRotten N h (nI p) = some (if rot w p then 1 else 0, h) := by
  have w1 := hw.1
  simp only [fX0_isRotten, fX0_isRotten_b21, fX0_isRotten_b22, has_eq hw hF.1, Option.bind_some, b2i, ix_nI hp (show np w < 2 ^ 31 by omega)]
  simp (disch := omega) only [if_false, if_true, ix_nI, nI_clamp, hF.2.1 p hp, b2i, show ¬ ((1 : Int32) = 0) by decide, true_or, or_true]
  cases rot w p <;> rfl
theorem c_plank {σ : St} {h : pH} (hS : Sok σ) (hC : Ci σ h) {N : Nat} (hN : 1000 ≤ N) (x : Int32) : ∃ h', fX8_plank N h x = some (a_plank σ x, h') ∧ Co σ h h' := by
  have hw := wok_of hS
  have w1 := hw.1
  simp only [fX8_plank, fX8_plank_b46, wi_ix N h x 18 (by decide), Option.bind_some, b2i, a_plank]
  cases c : ix x 19
  · exact ⟨h, rfl, Co.rf hC⟩
  · obtain ⟨p, hp, rfl⟩ := ix_of c (by decide)
    obtain ⟨h1, e1, f1, k1⟩ := fresh_eq hS hC hN
    refine ⟨h1, ?_, Co.fr f1 k1⟩
    simp only [Bool.true_eq_false, if_false, if_true, e1, Option.bind_some, has_eq hw f1.2.2.1.1.1, b2i, nI_clamp (show p < 2 ^ 31 by omega)]
    by_cases c2 : p < np (wOf σ)
    · rw [ix_nI c2 (by omega)]
      simp only [Bool.true_eq_false, if_false, rot_eq hw f1.2.2.1.1 N c2, Option.bind_some, b2i, c2, if_true]
      cases rot (wOf σ) p <;> rfl
    · have : ix (nI p) (np (wOf σ)) = false := by
        cases c3 : ix (nI p) (np (wOf σ))
        · rfl
        · have := ix_iff.mp c3; rw [nI_toInt (by omega)] at this; omega
      rw [this]
      simp only [if_true, c2, if_false]
theorem c_crosser {σ : St} {h : pH} (hS : Sok σ) (hC : Ci σ h) {N : Nat} (hN : 1000 ≤ N) (x y : Int32) : ∃ h', fX8_crosser N h x y = some (a_crosser σ x y, h') ∧ Co σ h h' := by
  have hw := wok_of hS
  have w2 := hw.2.1
  obtain ⟨h1, e1, f1, k1⟩ := fresh_eq hS hC hN
  refine ⟨h1, ?_, Co.fr f1 k1⟩
  have hF := f1.2.2.1.1
  simp only [fX8_crosser, e1, Option.bind_some, at_eq hw hF.2.2.2.1, a_crosser]
  cases c : ix x (nk (wOf σ))
  · simp
  · obtain ⟨k, hk, rfl⟩ := ix_of c (by omega)
    obtain ⟨r1, r2, r3, r4, r5, r6, r7⟩ := r_crosser (k := k) (by omega)
    obtain ⟨q1, q2, q3, q4, q5⟩ := hF.2.2.2.2.1 k hk
    simp only [if_true, nI_clamp (show k < 2 ^ 31 by omega), r2, r3, r5, r6, q1, q2, q4, q5, true_and]
    rw [if_neg (by omega)]
    cases c2 : ix y 4
    · have c0 : ¬ y = 0 := fun e => by rw [e] at c2; revert c2; decide
      have c1 : ¬ y = 1 := fun e => by rw [e] at c2; revert c2; decide
      have c3 : ¬ y = 2 := fun e => by rw [e] at c2; revert c2; decide
      have c4 : ¬ y = 3 := fun e => by rw [e] at c2; revert c2; decide
      simp [c0, c1, c3, c4]
    · obtain ⟨j, hj, rfl⟩ := ix_of c2 (by decide)
      rcases (show j = 0 ∨ j = 1 ∨ j = 2 ∨ j = 3 by omega) with rfl | rfl | rfl | rfl
      · rw [if_pos (by decide)]; rfl
      · rw [if_neg (by decide), if_pos (by decide)]; rfl
      · rw [if_neg (by decide), if_neg (by decide), if_pos (by decide)]; rfl
      · rw [if_neg (by decide), if_neg (by decide), if_neg (by decide), if_pos (by decide)]; rfl
theorem c_crossing {σ : St} {h : pH} (hS : Sok σ) (hC : Ci σ h) {N : Nat} (hN : 1000 ≤ N) (x : Int32) : ∃ h', fX8_crossing N h x = some (a_crossing σ x, h') ∧ Co σ h h' := by
  have hw := wok_of hS
  have w4 := hw.2.2.2.1
  simp only [fX8_crossing, wi_ix N h x 23 (by decide), Option.bind_some, b2i, a_crossing]
  cases c : ix x 24
  · exact ⟨h, rfl, Co.rf hC⟩
  · obtain ⟨p, hp, rfl⟩ := ix_of c (by decide)
    obtain ⟨h1, e1, f1, k1⟩ := fresh_eq hS hC hN
    refine ⟨h1, ?_, Co.fr f1 k1⟩
    simp only [Bool.true_eq_false, if_false, if_true, e1, Option.bind_some, nI_clamp (show p < 2 ^ 31 by omega)]
    by_cases c2 : p < nc (wOf σ)
    · rw [who_eq hw f1.2.2.1.1 N c2, if_pos c2]; rfl
    · rw [if_neg c2]
      have : ix (nI p) (nc (wOf σ)) = false := by
        cases c3 : ix (nI p) (nc (wOf σ))
        · rfl
        · have := ix_iff.mp c3; rw [nI_toInt (by omega)] at this; omega
      simp only [fX3_whoAt, fX3_whoAt_b24, f1.2.2.1.1.2.2.2.2.2.1, wi_ixm N h1 (nI p) _ (show nc (wOf σ) < 2 ^ 30 by omega), Option.bind_some, b2i, this, if_true]
theorem num_eq {w : Wt} {h : pH} (hw : wok w) (h24 : h.1 24 1 = nI (nc w)) (N : Nat) (x : Int32) : fX8_isNumberOfCrossings N h x = some (if ix x (nc w + 1) then 1 else 0, h) := by
  have w4 := hw.2.2.2.1
  simp only [fX8_isNumberOfCrossings, h24, wi_ixn N h x (nc w) (by omega), Option.bind_some]
  cases ix x (nc w + 1) <;> simp
theorem c_gap {σ : St} {h : pH} (hS : Sok σ) (hC : Ci σ h) {N : Nat} (hN : 1000 ≤ N) (x : Int32) : ∃ h', fX8_gap N h x = some (a_gap σ x, h') ∧ Co σ h h' := by
  have hw := wok_of hS
  have w4 := hw.2.2.2.1
  obtain ⟨h1, e1, f1, k1⟩ := fresh_eq hS hC hN
  refine ⟨h1, ?_, Co.fr f1 k1⟩
  simp only [fX8_gap, fX8_gap_b23, e1, Option.bind_some, num_eq hw f1.2.2.1.1.2.2.2.2.2.1, b2i, a_gap]
  cases c : ix x (nc (wOf σ) + 1)
  · rfl
  · obtain ⟨j, hj, rfl⟩ := ix_of c (by omega)
    simp (disch := omega) only [Bool.true_eq_false, if_false, if_true, ix_nI, nI_clamp, f1.2.2.1.2 j (by omega)]
theorem ocx_eq {w : Wt} {h : pH} (hw : wok w) (hF : cF w h) (N : Nat) {i : Nat} (hi : i < nc w) : fX8_outcomeOfCrossing N h (nI i) = some (nI (oc w (wh w i) (G w i)), h) := by
  have w4 := hw.2.2.2.1
  have hwi := hw.2.2.2.2.1 i hi
  simp only [fX8_outcomeOfCrossing, who_eq hw hF.1 N hi, Option.bind_some, at_n hw hF.1.2.2.2.1 N (show wh w i < 1000 by omega)]
  rw [if_pos (ix_nI (by omega) (by omega)), nI_clamp (by omega), hF.2 i (by omega), outcome_eq hw hF.1 N (G_ok w i) (gx_I w _)]
  rfl
theorem tlx_eq {w : Wt} {h : pH} (hw : wok w) (hF : cF w h) (N : Nat) {i : Nat} (hi : i < nc w) : fX0_toll N h (rfk w (wh w i)) (h.1 26 i) = some (nI (tol w (wh w i) (G w i)), h) := by
  rw [hF.2 i (by omega), toll_eq hw hF.1 N (G_ok w i) (gx_I w _)]
theorem c_comes {σ : St} {h : pH} (hS : Sok σ) (hC : Ci σ h) {N : Nat} (hN : 1000 ≤ N) (x y : Int32) : ∃ h', fX8_comes N h x y = some (a_comes σ x y, h') ∧ Co σ h h' := by
  have hw := wok_of hS
  have w4 := hw.2.2.2.1
  obtain ⟨h1, e1, f1, k1⟩ := fresh_eq hS hC hN
  refine ⟨h1, ?_, Co.fr f1 k1⟩
  have hF := f1.2.2.1
  simp only [fX8_comes, e1, Option.bind_some, hF.1.2.2.2.2.2.1, wi_ixm N h1 x _ (show nc (wOf σ) < 2 ^ 30 by omega), b2i, a_comes]
  cases c : ix x (nc (wOf σ))
  · simp
  · obtain ⟨i, hi, rfl⟩ := ix_of c (by omega)
    have hwi := hw.2.2.2.2.1 i hi
    simp only [Bool.true_eq_false, if_false, who_eq hw hF.1 N hi, Option.bind_some, at_n hw hF.1.2.2.2.1 N (show wh (wOf σ) i < 1000 by omega), true_and]
    rw [if_pos (ix_nI (by omega) (by omega)), nI_clamp (by omega), hF.2 i (by omega), outcome_eq hw hF.1 N (G_ok _ i) (gx_I _ _), toll_eq hw hF.1 N (G_ok _ i) (gx_I _ _), longest_eq hw hF.1 N (G_ok _ i) (gx_I _ _)]
    simp only [Option.bind_some]
    cases c2 : ix y 3
    · have c0 : ¬ y = 0 := fun e => by rw [e] at c2; revert c2; decide
      have c1 : ¬ y = 1 := fun e => by rw [e] at c2; revert c2; decide
      have c3 : ¬ y = 2 := fun e => by rw [e] at c2; revert c2; decide
      simp [c0, c1, c3]
    · obtain ⟨j, hj, rfl⟩ := ix_of c2 (by decide)
      rcases (show j = 0 ∨ j = 1 ∨ j = 2 by omega) with rfl | rfl | rfl
      · rw [if_pos (by decide)]; rfl
      · rw [if_neg (by decide), if_pos (by decide)]; rfl
      · rw [if_neg (by decide), if_neg (by decide), if_pos (by decide)]; rfl
theorem ctimes_loop {w : Wt} {h : pH} (hw : wok w) (hF : cF w h) (N : Nat) {k y : Nat} (hk : k < 100) (hy : y < 2) : ∀ (d n i : Nat), i + d = nc w → d < n →
    fX8_times_L43 N n h (nI k) (nI (y + 1)) (nI (cntT w k y i)) (nI i) = some (nI (cntT w k y (nc w)), h) := by
  have w4 := hw.2.2.2.1
  intro d
  induction d with
  | zero =>
    intro n i hi hn
    obtain ⟨n, rfl⟩ : ∃ m, n = m + 1 := ⟨n - 1, by omega⟩
    obtain rfl : i = nc w := by omega
    show fX8_times_B43 N (fX8_times_L43 N n) h _ _ _ _ = _
    simp only [fX8_times_B43, hF.1.2.2.2.2.2.1]
    rw [if_pos (Int32.le_refl _)]
  | succ d ih =>
    intro n i hi hn
    obtain ⟨n, rfl⟩ : ∃ m, n = m + 1 := ⟨n - 1, by omega⟩
    have hwi := hw.2.2.2.2.1 i (by omega)
    have q4 := oc_le w (wh w i) (G w i)
    have e := ih n (i + 1) (by omega) (by omega)
    rw [← e]
    show fX8_times_B43 N (fX8_times_L43 N n) h _ _ _ _ = _
    simp only [fX8_times_B43, fX8_times_b81, hF.1.2.2.2.2.2.1, who_eq hw hF.1 N (show i < nc w by omega), Option.bind_some, ocx_eq hw hF N (show i < nc w by omega), nI_1]
    rw [if_neg (by rw [nI_leI (by omega) (by omega)]; omega), show cntT w k y (i + 1) = cntT w k y i + (if wh w i = k ∧ oc w (wh w i) (G w i) = y + 1 then 1 else 0) from rfl]
    by_cases c1 : wh w i = k
    · rw [if_pos (by rw [c1])]
      by_cases c2 : oc w (wh w i) (G w i) = y + 1
      · rw [if_pos (by rw [c2]), if_pos ⟨c1, c2⟩]
      · rw [if_neg (by rw [nI_eq (by omega) (by omega)]; exact c2), if_neg (fun z => c2 z.2)]; rfl
    · rw [if_neg (by rw [nI_eq (by omega) (by omega)]; exact c1), if_neg (fun z => c1 z.1)]; rfl
theorem c_times {σ : St} {h : pH} (hS : Sok σ) (hC : Ci σ h) {N : Nat} (hN : 1000 ≤ N) (x y : Int32) : ∃ h', fX8_times N h x y = some (a_times σ x y, h') ∧ Co σ h h' := by
  have hw := wok_of hS
  have w2 := hw.2.1
  have w4 := hw.2.2.2.1
  obtain ⟨h1, e1, f1, k1⟩ := fresh_eq hS hC hN
  refine ⟨h1, ?_, Co.fr f1 k1⟩
  have hF := f1.2.2.1
  simp only [fX8_times, fX8_times_b24, fX8_times_b36, e1, Option.bind_some, at_eq hw hF.1.2.2.2.1, a_times, wi_ix N h1 y 1 (by decide), b2i]
  cases c : ix x (nk (wOf σ))
  · simp
  · obtain ⟨k, hk, rfl⟩ := ix_of c (by omega)
    simp only [if_true, nI_clamp (show k < 2 ^ 31 by omega), true_and]
    rw [if_neg (by omega)]
    cases c2 : ix y 2
    · simp
    · obtain ⟨j, hj, rfl⟩ := ix_of c2 (by decide)
      have el := ctimes_loop hw hF N (k := k) (y := j) (by omega) hj (nc (wOf σ)) N 0 (by omega) (by omega)
      simp only [Bool.true_eq_false, if_false, if_true, nI_clamp (show j < 2 ^ 31 by omega)]
      rcases (show j = 0 ∨ j = 1 by omega) with rfl | rfl
      · rw [if_pos (by decide)]; exact el
      · rw [if_neg (by decide)]; exact el
theorem ctolls_loop {w : Wt} {h : pH} (hw : wok w) (hF : cF w h) (N : Nat) {m : Nat} (hm : m ≤ nc w) : ∀ (d n i : Nat), i + d = m → d < n →
    fX8_tollsBehind_L4 N n h (nI m) (nI (sumT w i)) (nI i) = some (nI (sumT w m), h) := by
  have w4 := hw.2.2.2.1
  intro d
  induction d with
  | zero =>
    intro n i hi hn
    obtain ⟨n, rfl⟩ : ∃ m, n = m + 1 := ⟨n - 1, by omega⟩
    obtain rfl : i = m := by omega
    show fX8_tollsBehind_B4 N (fX8_tollsBehind_L4 N n) h _ _ _ = _
    simp only [fX8_tollsBehind_B4]
    rw [if_pos (Int32.le_refl _)]
  | succ d ih =>
    intro n i hi hn
    obtain ⟨n, rfl⟩ : ∃ m, n = m + 1 := ⟨n - 1, by omega⟩
    have hwi := hw.2.2.2.2.1 i (by omega)
    have e := ih n (i + 1) (by omega) (by omega)
    rw [← e]
    show fX8_tollsBehind_B4 N (fX8_tollsBehind_L4 N n) h _ _ _ = _
    simp only [fX8_tollsBehind_B4, who_eq hw hF.1 N (show i < nc w by omega), Option.bind_some, at_n hw hF.1.2.2.2.1 N (show wh w i < 1000 by omega)]
    rw [if_neg (by rw [nI_leI (by omega) (by omega)]; omega), if_pos (ix_nI (by omega) (by omega)), nI_clamp (by omega), tlx_eq hw hF N (by omega)]
    simp only [Option.bind_some, nI_add, nI_1]
    rfl
theorem ctolls_eq {w : Wt} {h : pH} (hw : wok w) (hF : cF w h) {N : Nat} (hN : 1000 ≤ N) {m : Nat} (hm : m ≤ nc w) : fX8_tollsBehind N h (nI m) = some (nI (sumT w m), h) := by
  have w4 := hw.2.2.2.1
  exact ctolls_loop hw hF N hm m N 0 (by omega) (by omega)
theorem c_taken {σ : St} {h : pH} (hS : Sok σ) (hC : Ci σ h) {N : Nat} (hN : 1000 ≤ N) (x : Int32) : ∃ h', fX8_taken N h x = some (a_taken σ x, h') ∧ Co σ h h' := by
  have hw := wok_of hS
  have w4 := hw.2.2.2.1
  obtain ⟨h1, e1, f1, k1⟩ := fresh_eq hS hC hN
  refine ⟨h1, ?_, Co.fr f1 k1⟩
  simp only [fX8_taken, fX8_taken_b22, e1, Option.bind_some, num_eq hw f1.2.2.1.1.2.2.2.2.2.1, b2i, a_taken]
  cases c : ix x (nc (wOf σ) + 1)
  · rfl
  · obtain ⟨j, hj, rfl⟩ := ix_of c (by omega)
    simp (disch := omega) only [Bool.true_eq_false, if_false, if_true, nI_clamp, ctolls_eq hw f1.2.2.1 hN (show j ≤ nc (wOf σ) by omega), Option.bind_some]
theorem cstuck_loop {w : Wt} {h : pH} (hw : wok w) (hF : cF w h) (N : Nat) : ∀ (d n i : Nat), i + d = nc w → d < n →
    fX8_stuck_L6 N n h (nI i) = some (if ffr (fun i => !decide (oc w (wh w i) (G w i) = 2)) d i = nc w then -1 else nI (ffr (fun i => !decide (oc w (wh w i) (G w i) = 2)) d i), h) := by
  have w4 := hw.2.2.2.1
  intro d
  induction d with
  | zero =>
    intro n i hi hn
    obtain ⟨n, rfl⟩ : ∃ m, n = m + 1 := ⟨n - 1, by omega⟩
    obtain rfl : i = nc w := by omega
    show fX8_stuck_B6 N (fX8_stuck_L6 N n) h _ = _
    simp only [fX8_stuck_B6, hF.1.2.2.2.2.2.1, ffr, if_true]
    rw [if_pos (Int32.le_refl _)]
  | succ d ih =>
    intro n i hi hn
    obtain ⟨n, rfl⟩ : ∃ m, n = m + 1 := ⟨n - 1, by omega⟩
    have q4 := oc_le w (wh w i) (G w i)
    have e := ih n (i + 1) (by omega) (by omega)
    show fX8_stuck_B6 N (fX8_stuck_L6 N n) h _ = _
    simp (disch := omega) only [fX8_stuck_B6, hF.1.2.2.2.2.2.1, nI_leI, ocx_eq hw hF N (show i < nc w by omega), Option.bind_some, nI_add_lit, nI_eq_lit]
    rw [if_neg (by omega)]
    by_cases c : oc w (wh w i) (G w i) = 2
    · simp only [ffr, c, decide_true, Bool.not_true, Bool.false_eq_true, if_false]
      rw [if_pos trivial, if_neg (by omega)]
    · simp only [ffr, c, decide_false, Bool.not_false, if_true, if_false]
      exact e
theorem c_stuck {σ : St} {h : pH} (hS : Sok σ) (hC : Ci σ h) {N : Nat} (hN : 1000 ≤ N) : ∃ h', fX8_stuck N h = some (a_stuck σ, h') ∧ Co σ h h' := by
  have hw := wok_of hS
  have w4 := hw.2.2.2.1
  obtain ⟨h1, e1, f1, k1⟩ := fresh_eq hS hC hN
  refine ⟨h1, ?_, Co.fr f1 k1⟩
  rw [fX8_stuck, e1]
  exact cstuck_loop hw f1.2.2.1 N (nc (wOf σ)) N 0 (by omega) (by omega)
theorem c_count {σ : St} {h : pH} (hS : Sok σ) (hC : Ci σ h) {N : Nat} (hN : 1000 ≤ N) (x : Int32) : ∃ h', fX8_count N h x = some (a_count σ x, h') ∧ Co σ h h' := by
  have hw := wok_of hS
  obtain ⟨h1, e1, f1, k1⟩ := fresh_eq hS hC hN
  refine ⟨h1, ?_, Co.fr f1 k1⟩
  have hF := f1.2.2.1
  have hA := f1.1
  rw [fX8_count, e1]
  simp only [Option.bind_some, hF.1.1, hF.1.2.2.2.1, hF.1.2.2.2.2.2.1, ctolls_eq hw hF hN (Nat.le_refl _), cl0, cl1, cl2, ixc03, ixc13, ixc23, if_true, show aE 2 0 = 3 from rfl, show aE 2 1 = 4 from rfl, show aE 2 2 = 5 from rfl, show fI 7 1 3 = true from by decide, show fI 7 1 4 = true from by decide, show fI 7 1 5 = true from by decide, hA.2.2.2.2.2.2.2.1, hA.2.2.2.2.2.2.2.2.2, show h1.1 3 1 = nI (t_l σ 0) from hA.1 0 (by omega), show h1.1 4 1 = nI (t_l σ 1) from hA.1 1 (by omega), show h1.1 5 1 = nI (t_l σ 2) from hA.1 2 (by omega), a_count]
  by_cases c0 : x = 0
  · rw [if_pos c0, if_pos c0]
  · rw [if_neg c0, if_neg c0]
    by_cases c1 : x = 1
    · rw [if_pos c1, if_pos c1]
    · rw [if_neg c1, if_neg c1]
      by_cases c2 : x = 2
      · rw [if_pos c2, if_pos c2]
      · rw [if_neg c2, if_neg c2]
        by_cases c3 : x = 3
        · rw [if_pos c3, if_pos c3]
        · rw [if_neg c3, if_neg c3]
          by_cases c4 : x = 4
          · rw [if_pos c4, if_pos c4]
          · rw [if_neg c4, if_neg c4]
            by_cases c5 : x = 5
            · rw [if_pos c5, if_pos c5]
            · rw [if_neg c5, if_neg c5]
              by_cases c6 : x = 6
              · rw [if_pos c6, if_pos c6]
              · rw [if_neg c6, if_neg c6]
                by_cases c7 : x = 7
                · rw [if_pos c7, if_pos c7]
                · rw [if_neg c7, if_neg c7]
                  by_cases c8 : x = 8
                  · rw [if_pos c8, if_pos c8]
                  · rw [if_neg c8, if_neg c8]
