/-! ===== each case of the law ===== -/
theorem lw_ix {L i : Nat} (hL : L ≤ 3072) (hi : 6 * i + 6 ≤ L) : ix (nI (6 * i)) L = true ∧ ix (nI (6 * i) + 1) L = true ∧ ix (nI (6 * i) + 2) L = true ∧ ix (nI (6 * i) + 3) L = true ∧ ix (nI (6 * i) + 4) L = true ∧ ix (nI (6 * i) + 5) L = true := by
  have q : ∀ j : Nat, j < 6 → ix (nI (6 * i) + nI j) L = true := fun j hj => by rw [nI_add]; exact ix_nI (by omega) (by omega)
  exact ⟨ix_nI (by omega) (by omega), q 1 (by omega), q 2 (by omega), q 3 (by omega), q 4 (by omega), q 5 (by omega)⟩
theorem lb_type {N L i : Nat} {xs : Nat → Int32} {K : pH → Int32 → Option (Int32 × pH)} {σ : St} {h : pH} (hN : 2 ^ 50 ≤ N) (hL : L ≤ 3072) (hi : 6 * i + 6 ≤ L) (hJ : Jn σ h) : ∃ h2 σ2, fL_law_b184 N L xs K h (nI (6 * i)) = K h2 (nI (6 * i) + 6) ∧ Jn σ2 h2 := by
  have h3 : 1000 ≤ N := by omega
  obtain ⟨i0, i1, i2, i3, i4, i5⟩ := lw_ix hL hi
  obtain ⟨h1, h2, e1, e2, hJ2⟩ := st_up hJ (fun h => fX8_type N h (xs (nI (6 * i) + 1).toNatClampNeg) (xs (nI (6 * i) + 2).toNatClampNeg)) (fun h => fX9_type N h (xs (nI (6 * i) + 1).toNatClampNeg) (xs (nI (6 * i) + 2).toNatClampNeg)) (c_type hJ.1 hJ.2.1 N (xs (nI (6 * i) + 1).toNatClampNeg) (xs (nI (6 * i) + 2).toNatClampNeg)) (fun h1 hB => m_type hJ.1 hB N (xs (nI (6 * i) + 1).toNatClampNeg) (xs (nI (6 * i) + 2).toNatClampNeg)) (hJ.1.type (xs (nI (6 * i) + 1).toNatClampNeg) (xs (nI (6 * i) + 2).toNatClampNeg))
  refine ⟨h2, _, ?_, hJ2⟩
  have e1 : fX8_type N h (xs (nI (6 * i) + 1).toNatClampNeg) (xs (nI (6 * i) + 2).toNatClampNeg) = _ := e1
  have e2 : fX9_type N h1 (xs (nI (6 * i) + 1).toNatClampNeg) (xs (nI (6 * i) + 2).toNatClampNeg) = _ := e2
  simp only [fL_law_b184, i1, i2, e1, e2, Option.bind_some, if_true, fL_law_b1138]
theorem lb_wipe {N L i : Nat} {xs : Nat → Int32} {K : pH → Int32 → Option (Int32 × pH)} {σ : St} {h : pH} (hN : 2 ^ 50 ≤ N) (hL : L ≤ 3072) (hi : 6 * i + 6 ≤ L) (hJ : Jn σ h) : ∃ h2 σ2, fL_law_b217 N L xs K h (nI (6 * i)) = K h2 (nI (6 * i) + 6) ∧ Jn σ2 h2 := by
  have h3 : 1000 ≤ N := by omega
  obtain ⟨i0, i1, i2, i3, i4, i5⟩ := lw_ix hL hi
  obtain ⟨h1, h2, e1, e2, hJ2⟩ := st_up hJ (fun h => fX8_wipe N h (xs (nI (6 * i) + 1).toNatClampNeg)) (fun h => fX9_wipe N h (xs (nI (6 * i) + 1).toNatClampNeg)) (c_wipe hJ.2.1 N (xs (nI (6 * i) + 1).toNatClampNeg)) (fun h1 hB => m_wipe hB N (xs (nI (6 * i) + 1).toNatClampNeg)) (hJ.1.wipe (xs (nI (6 * i) + 1).toNatClampNeg))
  refine ⟨h2, _, ?_, hJ2⟩
  have e1 : fX8_wipe N h (xs (nI (6 * i) + 1).toNatClampNeg) = _ := e1
  have e2 : fX9_wipe N h1 (xs (nI (6 * i) + 1).toNatClampNeg) = _ := e2
  simp only [fL_law_b217, i1, e1, e2, Option.bind_some, if_true, fL_law_b1138]
theorem lb_undo {N L i : Nat} {xs : Nat → Int32} {K : pH → Int32 → Option (Int32 × pH)} {σ : St} {h : pH} (hN : 2 ^ 50 ≤ N) (hL : L ≤ 3072) (hi : 6 * i + 6 ≤ L) (hJ : Jn σ h) : ∃ h2 σ2, fL_law_b240 N L xs K h (nI (6 * i)) = K h2 (nI (6 * i) + 6) ∧ Jn σ2 h2 := by
  have h3 : 1000 ≤ N := by omega
  obtain ⟨i0, i1, i2, i3, i4, i5⟩ := lw_ix hL hi
  obtain ⟨h1, h2, e1, e2, hJ2⟩ := st_up hJ (fun h => fX8_undo N h (xs (nI (6 * i) + 1).toNatClampNeg)) (fun h => fX9_undo N h (xs (nI (6 * i) + 1).toNatClampNeg)) (c_undo hJ.1 hJ.2.1 N (xs (nI (6 * i) + 1).toNatClampNeg)) (fun h1 hB => m_undo hJ.1 hB N (xs (nI (6 * i) + 1).toNatClampNeg)) (hJ.1.undo (xs (nI (6 * i) + 1).toNatClampNeg))
  refine ⟨h2, _, ?_, hJ2⟩
  have e1 : fX8_undo N h (xs (nI (6 * i) + 1).toNatClampNeg) = _ := e1
  have e2 : fX9_undo N h1 (xs (nI (6 * i) + 1).toNatClampNeg) = _ := e2
  simp only [fL_law_b240, i1, e1, e2, Option.bind_some, if_true, fL_law_b1138]
theorem lb_fault {N L i : Nat} {xs : Nat → Int32} {K : pH → Int32 → Option (Int32 × pH)} {σ : St} {h : pH} (hN : 2 ^ 50 ≤ N) (hL : L ≤ 3072) (hi : 6 * i + 6 ≤ L) (hJ : Jn σ h) : ∃ h2 σ2, fL_law_b263 N L xs K h (nI (6 * i)) = K h2 (nI (6 * i) + 6) ∧ Jn σ2 h2 := by
  have h3 : 1000 ≤ N := by omega
  obtain ⟨i0, i1, i2, i3, i4, i5⟩ := lw_ix hL hi
  obtain ⟨h1, h2, e1, e2, hJ2⟩ := st_as hJ (fun h => fX8_fault N h (xs (nI (6 * i) + 1).toNatClampNeg)) (fun h => fX9_fault N h (xs (nI (6 * i) + 1).toNatClampNeg)) (c_fault hJ.1 hJ.2.1 h3 (xs (nI (6 * i) + 1).toNatClampNeg)) (fun h1 hB => m_fault hJ.1 hB h3 (xs (nI (6 * i) + 1).toNatClampNeg))
  refine ⟨h2, _, ?_, hJ2⟩
  have e1 : fX8_fault N h (xs (nI (6 * i) + 1).toNatClampNeg) = _ := e1
  have e2 : fX9_fault N h1 (xs (nI (6 * i) + 1).toNatClampNeg) = _ := e2
  simp only [fL_law_b263, i1, e1, e2, Option.bind_some, if_true, fL_law_b1138]
theorem lb_plank {N L i : Nat} {xs : Nat → Int32} {K : pH → Int32 → Option (Int32 × pH)} {σ : St} {h : pH} (hN : 2 ^ 50 ≤ N) (hL : L ≤ 3072) (hi : 6 * i + 6 ≤ L) (hJ : Jn σ h) : ∃ h2 σ2, fL_law_b286 N L xs K h (nI (6 * i)) = K h2 (nI (6 * i) + 6) ∧ Jn σ2 h2 := by
  have h3 : 1000 ≤ N := by omega
  obtain ⟨i0, i1, i2, i3, i4, i5⟩ := lw_ix hL hi
  obtain ⟨h1, h2, e1, e2, hJ2⟩ := st_as hJ (fun h => fX8_plank N h (xs (nI (6 * i) + 1).toNatClampNeg)) (fun h => fX9_plank N h (xs (nI (6 * i) + 1).toNatClampNeg)) (c_plank hJ.1 hJ.2.1 h3 (xs (nI (6 * i) + 1).toNatClampNeg)) (fun h1 hB => m_plank hJ.1 hB h3 (xs (nI (6 * i) + 1).toNatClampNeg))
  refine ⟨h2, _, ?_, hJ2⟩
  have e1 : fX8_plank N h (xs (nI (6 * i) + 1).toNatClampNeg) = _ := e1
  have e2 : fX9_plank N h1 (xs (nI (6 * i) + 1).toNatClampNeg) = _ := e2
  simp only [fL_law_b286, i1, e1, e2, Option.bind_some, if_true, fL_law_b1138]
theorem lb_crosser {N L i : Nat} {xs : Nat → Int32} {K : pH → Int32 → Option (Int32 × pH)} {σ : St} {h : pH} (hN : 2 ^ 50 ≤ N) (hL : L ≤ 3072) (hi : 6 * i + 6 ≤ L) (hJ : Jn σ h) : ∃ h2 σ2, fL_law_b309 N L xs K h (nI (6 * i)) = K h2 (nI (6 * i) + 6) ∧ Jn σ2 h2 := by
  have h3 : 1000 ≤ N := by omega
  obtain ⟨i0, i1, i2, i3, i4, i5⟩ := lw_ix hL hi
  obtain ⟨h1, h2, e1, e2, hJ2⟩ := st_as hJ (fun h => fX8_crosser N h (xs (nI (6 * i) + 1).toNatClampNeg) (xs (nI (6 * i) + 2).toNatClampNeg)) (fun h => fX9_crosser N h (xs (nI (6 * i) + 1).toNatClampNeg) (xs (nI (6 * i) + 2).toNatClampNeg)) (c_crosser hJ.1 hJ.2.1 h3 (xs (nI (6 * i) + 1).toNatClampNeg) (xs (nI (6 * i) + 2).toNatClampNeg)) (fun h1 hB => m_crosser hJ.1 hB h3 (xs (nI (6 * i) + 1).toNatClampNeg) (xs (nI (6 * i) + 2).toNatClampNeg))
  refine ⟨h2, _, ?_, hJ2⟩
  have e1 : fX8_crosser N h (xs (nI (6 * i) + 1).toNatClampNeg) (xs (nI (6 * i) + 2).toNatClampNeg) = _ := e1
  have e2 : fX9_crosser N h1 (xs (nI (6 * i) + 1).toNatClampNeg) (xs (nI (6 * i) + 2).toNatClampNeg) = _ := e2
  simp only [fL_law_b309, i1, i2, e1, e2, Option.bind_some, if_true, fL_law_b1138]
theorem lb_crossing {N L i : Nat} {xs : Nat → Int32} {K : pH → Int32 → Option (Int32 × pH)} {σ : St} {h : pH} (hN : 2 ^ 50 ≤ N) (hL : L ≤ 3072) (hi : 6 * i + 6 ≤ L) (hJ : Jn σ h) : ∃ h2 σ2, fL_law_b342 N L xs K h (nI (6 * i)) = K h2 (nI (6 * i) + 6) ∧ Jn σ2 h2 := by
  have h3 : 1000 ≤ N := by omega
  obtain ⟨i0, i1, i2, i3, i4, i5⟩ := lw_ix hL hi
  obtain ⟨h1, h2, e1, e2, hJ2⟩ := st_as hJ (fun h => fX8_crossing N h (xs (nI (6 * i) + 1).toNatClampNeg)) (fun h => fX9_crossing N h (xs (nI (6 * i) + 1).toNatClampNeg)) (c_crossing hJ.1 hJ.2.1 h3 (xs (nI (6 * i) + 1).toNatClampNeg)) (fun h1 hB => m_crossing hJ.1 hB h3 (xs (nI (6 * i) + 1).toNatClampNeg))
  refine ⟨h2, _, ?_, hJ2⟩
  have e1 : fX8_crossing N h (xs (nI (6 * i) + 1).toNatClampNeg) = _ := e1
  have e2 : fX9_crossing N h1 (xs (nI (6 * i) + 1).toNatClampNeg) = _ := e2
  simp only [fL_law_b342, i1, e1, e2, Option.bind_some, if_true, fL_law_b1138]
theorem lb_set {N L i : Nat} {xs : Nat → Int32} {K : pH → Int32 → Option (Int32 × pH)} {σ : St} {h : pH} (hN : 2 ^ 50 ≤ N) (hL : L ≤ 3072) (hi : 6 * i + 6 ≤ L) (hJ : Jn σ h) : ∃ h2 σ2, fL_law_b365 N L xs K h (nI (6 * i)) = K h2 (nI (6 * i) + 6) ∧ Jn σ2 h2 := by
  have h3 : 1000 ≤ N := by omega
  obtain ⟨i0, i1, i2, i3, i4, i5⟩ := lw_ix hL hi
  obtain ⟨h1, h2, e1, e2, hJ2⟩ := st_up hJ (fun h => fX8_set N h (xs (nI (6 * i) + 1).toNatClampNeg) (xs (nI (6 * i) + 2).toNatClampNeg)) (fun h => fX9_set N h (xs (nI (6 * i) + 1).toNatClampNeg) (xs (nI (6 * i) + 2).toNatClampNeg)) (c_set hJ.2.1 N (xs (nI (6 * i) + 1).toNatClampNeg) (xs (nI (6 * i) + 2).toNatClampNeg)) (fun h1 hB => m_set hB N (xs (nI (6 * i) + 1).toNatClampNeg) (xs (nI (6 * i) + 2).toNatClampNeg)) (hJ.1.set (xs (nI (6 * i) + 1).toNatClampNeg) (xs (nI (6 * i) + 2).toNatClampNeg))
  refine ⟨h2, _, ?_, hJ2⟩
  have e1 : fX8_set N h (xs (nI (6 * i) + 1).toNatClampNeg) (xs (nI (6 * i) + 2).toNatClampNeg) = _ := e1
  have e2 : fX9_set N h1 (xs (nI (6 * i) + 1).toNatClampNeg) (xs (nI (6 * i) + 2).toNatClampNeg) = _ := e2
  simp only [fL_law_b365, i1, i2, e1, e2, Option.bind_some, if_true, fL_law_b1138]
theorem lb_shift {N L i : Nat} {xs : Nat → Int32} {K : pH → Int32 → Option (Int32 × pH)} {σ : St} {h : pH} (hN : 2 ^ 50 ≤ N) (hL : L ≤ 3072) (hi : 6 * i + 6 ≤ L) (hJ : Jn σ h) : ∃ h2 σ2, fL_law_b398 N L xs K h (nI (6 * i)) = K h2 (nI (6 * i) + 6) ∧ Jn σ2 h2 := by
  have h3 : 1000 ≤ N := by omega
  obtain ⟨i0, i1, i2, i3, i4, i5⟩ := lw_ix hL hi
  obtain ⟨h1, h2, e1, e2, hJ2⟩ := st_up hJ (fun h => fX8_shift N h (xs (nI (6 * i) + 1).toNatClampNeg) (xs (nI (6 * i) + 2).toNatClampNeg)) (fun h => fX9_shift N h (xs (nI (6 * i) + 1).toNatClampNeg) (xs (nI (6 * i) + 2).toNatClampNeg)) (c_shift hJ.2.1 N (xs (nI (6 * i) + 1).toNatClampNeg) (xs (nI (6 * i) + 2).toNatClampNeg)) (fun h1 hB => m_shift hB N (xs (nI (6 * i) + 1).toNatClampNeg) (xs (nI (6 * i) + 2).toNatClampNeg)) (hJ.1.shift (xs (nI (6 * i) + 1).toNatClampNeg) (xs (nI (6 * i) + 2).toNatClampNeg))
  refine ⟨h2, _, ?_, hJ2⟩
  have e1 : fX8_shift N h (xs (nI (6 * i) + 1).toNatClampNeg) (xs (nI (6 * i) + 2).toNatClampNeg) = _ := e1
  have e2 : fX9_shift N h1 (xs (nI (6 * i) + 1).toNatClampNeg) (xs (nI (6 * i) + 2).toNatClampNeg) = _ := e2
  simp only [fL_law_b398, i1, i2, e1, e2, Option.bind_some, if_true, fL_law_b1138]
theorem lb_gap {N L i : Nat} {xs : Nat → Int32} {K : pH → Int32 → Option (Int32 × pH)} {σ : St} {h : pH} (hN : 2 ^ 50 ≤ N) (hL : L ≤ 3072) (hi : 6 * i + 6 ≤ L) (hJ : Jn σ h) : ∃ h2 σ2, fL_law_b431 N L xs K h (nI (6 * i)) = K h2 (nI (6 * i) + 6) ∧ Jn σ2 h2 := by
  have h3 : 1000 ≤ N := by omega
  obtain ⟨i0, i1, i2, i3, i4, i5⟩ := lw_ix hL hi
  obtain ⟨h1, h2, e1, e2, hJ2⟩ := st_as hJ (fun h => fX8_gap N h (xs (nI (6 * i) + 1).toNatClampNeg)) (fun h => fX9_gap N h (xs (nI (6 * i) + 1).toNatClampNeg)) (c_gap hJ.1 hJ.2.1 h3 (xs (nI (6 * i) + 1).toNatClampNeg)) (fun h1 hB => m_gap hJ.1 hB h3 (xs (nI (6 * i) + 1).toNatClampNeg))
  refine ⟨h2, _, ?_, hJ2⟩
  have e1 : fX8_gap N h (xs (nI (6 * i) + 1).toNatClampNeg) = _ := e1
  have e2 : fX9_gap N h1 (xs (nI (6 * i) + 1).toNatClampNeg) = _ := e2
  simp only [fL_law_b431, i1, e1, e2, Option.bind_some, if_true, fL_law_b1138]
theorem lb_comes {N L i : Nat} {xs : Nat → Int32} {K : pH → Int32 → Option (Int32 × pH)} {σ : St} {h : pH} (hN : 2 ^ 50 ≤ N) (hL : L ≤ 3072) (hi : 6 * i + 6 ≤ L) (hJ : Jn σ h) : ∃ h2 σ2, fL_law_b454 N L xs K h (nI (6 * i)) = K h2 (nI (6 * i) + 6) ∧ Jn σ2 h2 := by
  have h3 : 1000 ≤ N := by omega
  obtain ⟨i0, i1, i2, i3, i4, i5⟩ := lw_ix hL hi
  obtain ⟨h1, h2, e1, e2, hJ2⟩ := st_as hJ (fun h => fX8_comes N h (xs (nI (6 * i) + 1).toNatClampNeg) (xs (nI (6 * i) + 2).toNatClampNeg)) (fun h => fX9_comes N h (xs (nI (6 * i) + 1).toNatClampNeg) (xs (nI (6 * i) + 2).toNatClampNeg)) (c_comes hJ.1 hJ.2.1 h3 (xs (nI (6 * i) + 1).toNatClampNeg) (xs (nI (6 * i) + 2).toNatClampNeg)) (fun h1 hB => m_comes hJ.1 hB h3 (xs (nI (6 * i) + 1).toNatClampNeg) (xs (nI (6 * i) + 2).toNatClampNeg))
  refine ⟨h2, _, ?_, hJ2⟩
  have e1 : fX8_comes N h (xs (nI (6 * i) + 1).toNatClampNeg) (xs (nI (6 * i) + 2).toNatClampNeg) = _ := e1
  have e2 : fX9_comes N h1 (xs (nI (6 * i) + 1).toNatClampNeg) (xs (nI (6 * i) + 2).toNatClampNeg) = _ := e2
  simp only [fL_law_b454, i1, i2, e1, e2, Option.bind_some, if_true, fL_law_b1138]
theorem lb_times {N L i : Nat} {xs : Nat → Int32} {K : pH → Int32 → Option (Int32 × pH)} {σ : St} {h : pH} (hN : 2 ^ 50 ≤ N) (hL : L ≤ 3072) (hi : 6 * i + 6 ≤ L) (hJ : Jn σ h) : ∃ h2 σ2, fL_law_b487 N L xs K h (nI (6 * i)) = K h2 (nI (6 * i) + 6) ∧ Jn σ2 h2 := by
  have h3 : 1000 ≤ N := by omega
  obtain ⟨i0, i1, i2, i3, i4, i5⟩ := lw_ix hL hi
  obtain ⟨h1, h2, e1, e2, hJ2⟩ := st_as hJ (fun h => fX8_times N h (xs (nI (6 * i) + 1).toNatClampNeg) (xs (nI (6 * i) + 2).toNatClampNeg)) (fun h => fX9_times N h (xs (nI (6 * i) + 1).toNatClampNeg) (xs (nI (6 * i) + 2).toNatClampNeg)) (c_times hJ.1 hJ.2.1 h3 (xs (nI (6 * i) + 1).toNatClampNeg) (xs (nI (6 * i) + 2).toNatClampNeg)) (fun h1 hB => m_times hJ.1 hB h3 (xs (nI (6 * i) + 1).toNatClampNeg) (xs (nI (6 * i) + 2).toNatClampNeg))
  refine ⟨h2, _, ?_, hJ2⟩
  have e1 : fX8_times N h (xs (nI (6 * i) + 1).toNatClampNeg) (xs (nI (6 * i) + 2).toNatClampNeg) = _ := e1
  have e2 : fX9_times N h1 (xs (nI (6 * i) + 1).toNatClampNeg) (xs (nI (6 * i) + 2).toNatClampNeg) = _ := e2
  simp only [fL_law_b487, i1, i2, e1, e2, Option.bind_some, if_true, fL_law_b1138]
theorem lb_taken {N L i : Nat} {xs : Nat → Int32} {K : pH → Int32 → Option (Int32 × pH)} {σ : St} {h : pH} (hN : 2 ^ 50 ≤ N) (hL : L ≤ 3072) (hi : 6 * i + 6 ≤ L) (hJ : Jn σ h) : ∃ h2 σ2, fL_law_b520 N L xs K h (nI (6 * i)) = K h2 (nI (6 * i) + 6) ∧ Jn σ2 h2 := by
  have h3 : 1000 ≤ N := by omega
  obtain ⟨i0, i1, i2, i3, i4, i5⟩ := lw_ix hL hi
  obtain ⟨h1, h2, e1, e2, hJ2⟩ := st_as hJ (fun h => fX8_taken N h (xs (nI (6 * i) + 1).toNatClampNeg)) (fun h => fX9_taken N h (xs (nI (6 * i) + 1).toNatClampNeg)) (c_taken hJ.1 hJ.2.1 h3 (xs (nI (6 * i) + 1).toNatClampNeg)) (fun h1 hB => m_taken hJ.1 hB h3 (xs (nI (6 * i) + 1).toNatClampNeg))
  refine ⟨h2, _, ?_, hJ2⟩
  have e1 : fX8_taken N h (xs (nI (6 * i) + 1).toNatClampNeg) = _ := e1
  have e2 : fX9_taken N h1 (xs (nI (6 * i) + 1).toNatClampNeg) = _ := e2
  simp only [fL_law_b520, i1, e1, e2, Option.bind_some, if_true, fL_law_b1138]
theorem lb_stuck {N L i : Nat} {xs : Nat → Int32} {K : pH → Int32 → Option (Int32 × pH)} {σ : St} {h : pH} (hN : 2 ^ 50 ≤ N) (hL : L ≤ 3072) (hi : 6 * i + 6 ≤ L) (hJ : Jn σ h) : ∃ h2 σ2, fL_law_b543 N L xs K h (nI (6 * i)) = K h2 (nI (6 * i) + 6) ∧ Jn σ2 h2 := by
  have h3 : 1000 ≤ N := by omega
  obtain ⟨i0, i1, i2, i3, i4, i5⟩ := lw_ix hL hi
  obtain ⟨h1, h2, e1, e2, hJ2⟩ := st_as hJ (fun h => fX8_stuck N h ) (fun h => fX9_stuck N h ) (c_stuck hJ.1 hJ.2.1 h3 ) (fun h1 hB => m_stuck hJ.1 hB h3 )
  refine ⟨h2, _, ?_, hJ2⟩
  have e1 : fX8_stuck N h  = _ := e1
  have e2 : fX9_stuck N h1  = _ := e2
  simp only [fL_law_b543, e1, e2, Option.bind_some, if_true, fL_law_b1138]
theorem lb_worn {N L i : Nat} {xs : Nat → Int32} {K : pH → Int32 → Option (Int32 × pH)} {σ : St} {h : pH} (hN : 2 ^ 50 ≤ N) (hL : L ≤ 3072) (hi : 6 * i + 6 ≤ L) (hJ : Jn σ h) : ∃ h2 σ2, fL_law_b556 N L xs K h (nI (6 * i)) = K h2 (nI (6 * i) + 6) ∧ Jn σ2 h2 := by
  have h3 : 1000 ≤ N := by omega
  obtain ⟨i0, i1, i2, i3, i4, i5⟩ := lw_ix hL hi
  obtain ⟨h1, h2, e1, e2, hJ2⟩ := st_as hJ (fun h => fX8_worn N h ) (fun h => fX9_worn N h ) (c_worn hJ.1 hJ.2.1 h3 ) (fun h1 hB => m_worn hJ.1 hB h3 )
  refine ⟨h2, _, ?_, hJ2⟩
  have e1 : fX8_worn N h  = _ := e1
  have e2 : fX9_worn N h1  = _ := e2
  simp only [fL_law_b556, e1, e2, Option.bind_some, if_true, fL_law_b1138]
theorem lb_order {N L i : Nat} {xs : Nat → Int32} {K : pH → Int32 → Option (Int32 × pH)} {σ : St} {h : pH} (hN : 2 ^ 50 ≤ N) (hL : L ≤ 3072) (hi : 6 * i + 6 ≤ L) (hJ : Jn σ h) : ∃ h2 σ2, fL_law_b569 N L xs K h (nI (6 * i)) = K h2 (nI (6 * i) + 6) ∧ Jn σ2 h2 := by
  have h3 : 1000 ≤ N := by omega
  obtain ⟨i0, i1, i2, i3, i4, i5⟩ := lw_ix hL hi
  obtain ⟨h1, h2, e1, e2, hJ2⟩ := st_as hJ (fun h => fX8_order N h (xs (nI (6 * i) + 1).toNatClampNeg)) (fun h => fX9_order N h (xs (nI (6 * i) + 1).toNatClampNeg)) (c_order hJ.1 hJ.2.1 h3 (xs (nI (6 * i) + 1).toNatClampNeg)) (fun h1 hB => m_order hJ.1 hB hN (xs (nI (6 * i) + 1).toNatClampNeg))
  refine ⟨h2, _, ?_, hJ2⟩
  have e1 : fX8_order N h (xs (nI (6 * i) + 1).toNatClampNeg) = _ := e1
  have e2 : fX9_order N h1 (xs (nI (6 * i) + 1).toNatClampNeg) = _ := e2
  simp only [fL_law_b569, i1, e1, e2, Option.bind_some, if_true, fL_law_b1138]
theorem lb_ahead {N L i : Nat} {xs : Nat → Int32} {K : pH → Int32 → Option (Int32 × pH)} {σ : St} {h : pH} (hN : 2 ^ 50 ≤ N) (hL : L ≤ 3072) (hi : 6 * i + 6 ≤ L) (hJ : Jn σ h) : ∃ h2 σ2, fL_law_b592 N L xs K h (nI (6 * i)) = K h2 (nI (6 * i) + 6) ∧ Jn σ2 h2 := by
  have h3 : 1000 ≤ N := by omega
  obtain ⟨i0, i1, i2, i3, i4, i5⟩ := lw_ix hL hi
  obtain ⟨h1, h2, e1, e2, hJ2⟩ := st_as hJ (fun h => fX8_ahead N h (xs (nI (6 * i) + 1).toNatClampNeg)) (fun h => fX9_ahead N h (xs (nI (6 * i) + 1).toNatClampNeg)) (c_ahead hJ.1 hJ.2.1 h3 (xs (nI (6 * i) + 1).toNatClampNeg)) (fun h1 hB => m_ahead hJ.1 hB h3 (xs (nI (6 * i) + 1).toNatClampNeg))
  refine ⟨h2, _, ?_, hJ2⟩
  have e1 : fX8_ahead N h (xs (nI (6 * i) + 1).toNatClampNeg) = _ := e1
  have e2 : fX9_ahead N h1 (xs (nI (6 * i) + 1).toNatClampNeg) = _ := e2
  simp only [fL_law_b592, i1, e1, e2, Option.bind_some, if_true, fL_law_b1138]
theorem lb_often {N L i : Nat} {xs : Nat → Int32} {K : pH → Int32 → Option (Int32 × pH)} {σ : St} {h : pH} (hN : 2 ^ 50 ≤ N) (hL : L ≤ 3072) (hi : 6 * i + 6 ≤ L) (hJ : Jn σ h) : ∃ h2 σ2, fL_law_b615 N L xs K h (nI (6 * i)) = K h2 (nI (6 * i) + 6) ∧ Jn σ2 h2 := by
  have h3 : 1000 ≤ N := by omega
  obtain ⟨i0, i1, i2, i3, i4, i5⟩ := lw_ix hL hi
  obtain ⟨h1, h2, e1, e2, hJ2⟩ := st_as hJ (fun h => fX8_often N h (xs (nI (6 * i) + 1).toNatClampNeg) (xs (nI (6 * i) + 2).toNatClampNeg)) (fun h => fX9_often N h (xs (nI (6 * i) + 1).toNatClampNeg) (xs (nI (6 * i) + 2).toNatClampNeg)) (c_often hJ.1 hJ.2.1 h3 (xs (nI (6 * i) + 1).toNatClampNeg) (xs (nI (6 * i) + 2).toNatClampNeg)) (fun h1 hB => let ⟨h2, e2, k2, _⟩ := m_often hJ.1 hB h3 (xs (nI (6 * i) + 1).toNatClampNeg) (xs (nI (6 * i) + 2).toNatClampNeg); ⟨h2, e2, k2⟩)
  refine ⟨h2, _, ?_, hJ2⟩
  have e1 : fX8_often N h (xs (nI (6 * i) + 1).toNatClampNeg) (xs (nI (6 * i) + 2).toNatClampNeg) = _ := e1
  have e2 : fX9_often N h1 (xs (nI (6 * i) + 1).toNatClampNeg) (xs (nI (6 * i) + 2).toNatClampNeg) = _ := e2
  simp only [fL_law_b615, i1, i2, e1, e2, Option.bind_some, if_true, fL_law_b1138]
theorem lb_seen {N L i : Nat} {xs : Nat → Int32} {K : pH → Int32 → Option (Int32 × pH)} {σ : St} {h : pH} (hN : 2 ^ 50 ≤ N) (hL : L ≤ 3072) (hi : 6 * i + 6 ≤ L) (hJ : Jn σ h) : ∃ h2 σ2, fL_law_b648 N L xs K h (nI (6 * i)) = K h2 (nI (6 * i) + 6) ∧ Jn σ2 h2 := by
  have h3 : 1000 ≤ N := by omega
  obtain ⟨i0, i1, i2, i3, i4, i5⟩ := lw_ix hL hi
  obtain ⟨h1, h2, e1, e2, hJ2⟩ := st_up hJ (fun h => fX8_seen N h (xs (nI (6 * i) + 1).toNatClampNeg) (xs (nI (6 * i) + 2).toNatClampNeg)) (fun h => fX9_seen N h (xs (nI (6 * i) + 1).toNatClampNeg) (xs (nI (6 * i) + 2).toNatClampNeg)) (c_seen hJ.1 hJ.2.1 N (xs (nI (6 * i) + 1).toNatClampNeg) (xs (nI (6 * i) + 2).toNatClampNeg)) (fun h1 hB => m_seen hJ.1 hB N (xs (nI (6 * i) + 1).toNatClampNeg) (xs (nI (6 * i) + 2).toNatClampNeg)) (hJ.1.see (xs (nI (6 * i) + 1).toNatClampNeg) (xs (nI (6 * i) + 2).toNatClampNeg))
  refine ⟨h2, _, ?_, hJ2⟩
  have e1 : fX8_seen N h (xs (nI (6 * i) + 1).toNatClampNeg) (xs (nI (6 * i) + 2).toNatClampNeg) = _ := e1
  have e2 : fX9_seen N h1 (xs (nI (6 * i) + 1).toNatClampNeg) (xs (nI (6 * i) + 2).toNatClampNeg) = _ := e2
  simp only [fL_law_b648, i1, i2, e1, e2, Option.bind_some, if_true, fL_law_b1138]
theorem lb_forget {N L i : Nat} {xs : Nat → Int32} {K : pH → Int32 → Option (Int32 × pH)} {σ : St} {h : pH} (hN : 2 ^ 50 ≤ N) (hL : L ≤ 3072) (hi : 6 * i + 6 ≤ L) (hJ : Jn σ h) : ∃ h2 σ2, fL_law_b681 N L xs K h (nI (6 * i)) = K h2 (nI (6 * i) + 6) ∧ Jn σ2 h2 := by
  have h3 : 1000 ≤ N := by omega
  obtain ⟨i0, i1, i2, i3, i4, i5⟩ := lw_ix hL hi
  obtain ⟨h1, h2, e1, e2, hJ2⟩ := st_up hJ (fun h => fX8_forget N h ) (fun h => fX9_forget N h ) (c_forget hJ.1 hJ.2.1 N ) (fun h1 hB => m_forget hB N ) (hJ.1.forget)
  refine ⟨h2, _, ?_, hJ2⟩
  have e1 : fX8_forget N h  = _ := e1
  have e2 : fX9_forget N h1  = _ := e2
  simp only [fL_law_b681, e1, e2, Option.bind_some, if_true, fL_law_b1138]
theorem lb_read {N L i : Nat} {xs : Nat → Int32} {K : pH → Int32 → Option (Int32 × pH)} {σ : St} {h : pH} (hN : 2 ^ 50 ≤ N) (hL : L ≤ 3072) (hi : 6 * i + 6 ≤ L) (hJ : Jn σ h) : ∃ h2 σ2, fL_law_b694 N L xs K h (nI (6 * i)) = K h2 (nI (6 * i) + 6) ∧ Jn σ2 h2 := by
  have h3 : 1000 ≤ N := by omega
  obtain ⟨i0, i1, i2, i3, i4, i5⟩ := lw_ix hL hi
  obtain ⟨h1, h2, e1, e2, hJ2⟩ := st_up hJ (fun h => fX8_read N h (xs (nI (6 * i) + 1).toNatClampNeg)) (fun h => fX9_read N h (xs (nI (6 * i) + 1).toNatClampNeg)) (c_read hJ.1 hJ.2.1 h3 (xs (nI (6 * i) + 1).toNatClampNeg)) (fun h1 hB => m_read hJ.1 hB h3 (xs (nI (6 * i) + 1).toNatClampNeg)) (hJ.1.read (xs (nI (6 * i) + 1).toNatClampNeg))
  refine ⟨h2, _, ?_, hJ2⟩
  have e1 : fX8_read N h (xs (nI (6 * i) + 1).toNatClampNeg) = _ := e1
  have e2 : fX9_read N h1 (xs (nI (6 * i) + 1).toNatClampNeg) = _ := e2
  simp only [fL_law_b694, i1, e1, e2, Option.bind_some, if_true, fL_law_b1138]
theorem lb_rule {N L i : Nat} {xs : Nat → Int32} {K : pH → Int32 → Option (Int32 × pH)} {σ : St} {h : pH} (hN : 2 ^ 50 ≤ N) (hL : L ≤ 3072) (hi : 6 * i + 6 ≤ L) (hJ : Jn σ h) : ∃ h2 σ2, fL_law_b717 N L xs K h (nI (6 * i)) = K h2 (nI (6 * i) + 6) ∧ Jn σ2 h2 := by
  have h3 : 1000 ≤ N := by omega
  obtain ⟨i0, i1, i2, i3, i4, i5⟩ := lw_ix hL hi
  obtain ⟨h1, h2, e1, e2, hJ2⟩ := st_as hJ (fun h => fX8_rule N h (xs (nI (6 * i) + 1).toNatClampNeg)) (fun h => fX9_rule N h (xs (nI (6 * i) + 1).toNatClampNeg)) (c_rule hJ.1 hJ.2.1 h3 (xs (nI (6 * i) + 1).toNatClampNeg)) (fun h1 hB => m_rule hJ.1 hB h3 (xs (nI (6 * i) + 1).toNatClampNeg))
  refine ⟨h2, _, ?_, hJ2⟩
  have e1 : fX8_rule N h (xs (nI (6 * i) + 1).toNatClampNeg) = _ := e1
  have e2 : fX9_rule N h1 (xs (nI (6 * i) + 1).toNatClampNeg) = _ := e2
  simp only [fL_law_b717, i1, e1, e2, Option.bind_some, if_true, fL_law_b1138]
theorem lb_began {N L i : Nat} {xs : Nat → Int32} {K : pH → Int32 → Option (Int32 × pH)} {σ : St} {h : pH} (hN : 2 ^ 50 ≤ N) (hL : L ≤ 3072) (hi : 6 * i + 6 ≤ L) (hJ : Jn σ h) : ∃ h2 σ2, fL_law_b740 N L xs K h (nI (6 * i)) = K h2 (nI (6 * i) + 6) ∧ Jn σ2 h2 := by
  have h3 : 1000 ≤ N := by omega
  obtain ⟨i0, i1, i2, i3, i4, i5⟩ := lw_ix hL hi
  obtain ⟨h1, h2, e1, e2, hJ2⟩ := st_as hJ (fun h => fX8_began N h ) (fun h => fX9_began N h ) (c_began hJ.1 hJ.2.1 h3 ) (fun h1 hB => m_began hJ.1 hB h3 )
  refine ⟨h2, _, ?_, hJ2⟩
  have e1 : fX8_began N h  = _ := e1
  have e2 : fX9_began N h1  = _ := e2
  simp only [fL_law_b740, e1, e2, Option.bind_some, if_true, fL_law_b1138]
theorem lb_ask {N L i : Nat} {xs : Nat → Int32} {K : pH → Int32 → Option (Int32 × pH)} {σ : St} {h : pH} (hN : 2 ^ 50 ≤ N) (hL : L ≤ 3072) (hi : 6 * i + 6 ≤ L) (hJ : Jn σ h) : ∃ h2 σ2, fL_law_b753 N L xs K h (nI (6 * i)) = K h2 (nI (6 * i) + 6) ∧ Jn σ2 h2 := by
  have h3 : 1000 ≤ N := by omega
  obtain ⟨i0, i1, i2, i3, i4, i5⟩ := lw_ix hL hi
  obtain ⟨h1, h2, e1, e2, hJ2⟩ := st_as hJ (fun h => fX8_ask N h ) (fun h => fX9_ask N h ) (c_ask hJ.2.1 N ) (fun h1 hB => m_ask hJ.1 hB h3 )
  refine ⟨h2, _, ?_, hJ2⟩
  have e1 : fX8_ask N h  = _ := e1
  have e2 : fX9_ask N h1  = _ := e2
  simp only [fL_law_b753, e1, e2, Option.bind_some, if_true, fL_law_b1138]
theorem lb_maybe {N L i : Nat} {xs : Nat → Int32} {K : pH → Int32 → Option (Int32 × pH)} {σ : St} {h : pH} (hN : 2 ^ 50 ≤ N) (hL : L ≤ 3072) (hi : 6 * i + 6 ≤ L) (hJ : Jn σ h) : ∃ h2 σ2, fL_law_b766 N L xs K h (nI (6 * i)) = K h2 (nI (6 * i) + 6) ∧ Jn σ2 h2 := by
  have h3 : 1000 ≤ N := by omega
  obtain ⟨i0, i1, i2, i3, i4, i5⟩ := lw_ix hL hi
  obtain ⟨h1, h2, e1, e2, hJ2⟩ := st_as hJ (fun h => fX8_maybe N h (xs (nI (6 * i) + 1).toNatClampNeg) (xs (nI (6 * i) + 2).toNatClampNeg) (xs (nI (6 * i) + 3).toNatClampNeg)) (fun h => fX9_maybe N h (xs (nI (6 * i) + 1).toNatClampNeg) (xs (nI (6 * i) + 2).toNatClampNeg) (xs (nI (6 * i) + 3).toNatClampNeg)) (c_maybe hJ.1 hJ.2.1 h3 (xs (nI (6 * i) + 1).toNatClampNeg) (xs (nI (6 * i) + 2).toNatClampNeg) (xs (nI (6 * i) + 3).toNatClampNeg)) (fun h1 hB => let ⟨h2, e2, k2, _⟩ := m_maybe hJ.1 hB hN (xs (nI (6 * i) + 1).toNatClampNeg) (xs (nI (6 * i) + 2).toNatClampNeg) (xs (nI (6 * i) + 3).toNatClampNeg); ⟨h2, e2, k2⟩)
  refine ⟨h2, _, ?_, hJ2⟩
  have e1 : fX8_maybe N h (xs (nI (6 * i) + 1).toNatClampNeg) (xs (nI (6 * i) + 2).toNatClampNeg) (xs (nI (6 * i) + 3).toNatClampNeg) = _ := e1
  have e2 : fX9_maybe N h1 (xs (nI (6 * i) + 1).toNatClampNeg) (xs (nI (6 * i) + 2).toNatClampNeg) (xs (nI (6 * i) + 3).toNatClampNeg) = _ := e2
  simp only [fL_law_b766, i1, i2, i3, e1, e2, Option.bind_some, if_true, lg_eq, fL_law_b1138]
theorem lb_week {N L i : Nat} {xs : Nat → Int32} {K : pH → Int32 → Option (Int32 × pH)} {σ : St} {h : pH} (hN : 2 ^ 50 ≤ N) (hL : L ≤ 3072) (hi : 6 * i + 6 ≤ L) (hJ : Jn σ h) : ∃ h2 σ2, fL_law_b810 N L xs K h (nI (6 * i)) = K h2 (nI (6 * i) + 6) ∧ Jn σ2 h2 := by
  have h3 : 1000 ≤ N := by omega
  obtain ⟨i0, i1, i2, i3, i4, i5⟩ := lw_ix hL hi
  obtain ⟨h1, h2, e1, e2, hJ2⟩ := st_as hJ (fun h => fX8_week N h (xs (nI (6 * i) + 1).toNatClampNeg) (xs (nI (6 * i) + 2).toNatClampNeg) (xs (nI (6 * i) + 3).toNatClampNeg)) (fun h => fX9_week N h (xs (nI (6 * i) + 1).toNatClampNeg) (xs (nI (6 * i) + 2).toNatClampNeg) (xs (nI (6 * i) + 3).toNatClampNeg)) (c_week hJ.1 hJ.2.1 h3 (xs (nI (6 * i) + 1).toNatClampNeg) (xs (nI (6 * i) + 2).toNatClampNeg) (xs (nI (6 * i) + 3).toNatClampNeg)) (fun h1 hB => m_week hJ.1 hB h3 (xs (nI (6 * i) + 1).toNatClampNeg) (xs (nI (6 * i) + 2).toNatClampNeg) (xs (nI (6 * i) + 3).toNatClampNeg))
  refine ⟨h2, _, ?_, hJ2⟩
  have e1 : fX8_week N h (xs (nI (6 * i) + 1).toNatClampNeg) (xs (nI (6 * i) + 2).toNatClampNeg) (xs (nI (6 * i) + 3).toNatClampNeg) = _ := e1
  have e2 : fX9_week N h1 (xs (nI (6 * i) + 1).toNatClampNeg) (xs (nI (6 * i) + 2).toNatClampNeg) (xs (nI (6 * i) + 3).toNatClampNeg) = _ := e2
  simp only [fL_law_b810, i1, i2, i3, e1, e2, Option.bind_some, if_true, fL_law_b1138]
theorem lb_sheet {N L i : Nat} {xs : Nat → Int32} {K : pH → Int32 → Option (Int32 × pH)} {σ : St} {h : pH} (hN : 2 ^ 50 ≤ N) (hL : L ≤ 3072) (hi : 6 * i + 6 ≤ L) (hJ : Jn σ h) : ∃ h2 σ2, fL_law_b853 N L xs K h (nI (6 * i)) = K h2 (nI (6 * i) + 6) ∧ Jn σ2 h2 := by
  have h3 : 1000 ≤ N := by omega
  obtain ⟨i0, i1, i2, i3, i4, i5⟩ := lw_ix hL hi
  obtain ⟨h1, h2, e1, e2, hJ2⟩ := st_up hJ (fun h => fX8_sheet N h (xs (nI (6 * i) + 1).toNatClampNeg) (xs (nI (6 * i) + 2).toNatClampNeg) (xs (nI (6 * i) + 3).toNatClampNeg)) (fun h => fX9_sheet N h (xs (nI (6 * i) + 1).toNatClampNeg) (xs (nI (6 * i) + 2).toNatClampNeg) (xs (nI (6 * i) + 3).toNatClampNeg)) (c_sheet hJ.1 hJ.2.1 h3 (xs (nI (6 * i) + 1).toNatClampNeg) (xs (nI (6 * i) + 2).toNatClampNeg) (xs (nI (6 * i) + 3).toNatClampNeg)) (fun h1 hB => m_sheet hJ.1 hB h3 (xs (nI (6 * i) + 1).toNatClampNeg) (xs (nI (6 * i) + 2).toNatClampNeg) (xs (nI (6 * i) + 3).toNatClampNeg)) (hJ.1.sheet (xs (nI (6 * i) + 1).toNatClampNeg) (xs (nI (6 * i) + 2).toNatClampNeg) (xs (nI (6 * i) + 3).toNatClampNeg))
  refine ⟨h2, _, ?_, hJ2⟩
  have e1 : fX8_sheet N h (xs (nI (6 * i) + 1).toNatClampNeg) (xs (nI (6 * i) + 2).toNatClampNeg) (xs (nI (6 * i) + 3).toNatClampNeg) = _ := e1
  have e2 : fX9_sheet N h1 (xs (nI (6 * i) + 1).toNatClampNeg) (xs (nI (6 * i) + 2).toNatClampNeg) (xs (nI (6 * i) + 3).toNatClampNeg) = _ := e2
  simp only [fL_law_b853, i1, i2, i3, e1, e2, Option.bind_some, if_true, fL_law_b1138]
theorem lb_lose {N L i : Nat} {xs : Nat → Int32} {K : pH → Int32 → Option (Int32 × pH)} {σ : St} {h : pH} (hN : 2 ^ 50 ≤ N) (hL : L ≤ 3072) (hi : 6 * i + 6 ≤ L) (hJ : Jn σ h) : ∃ h2 σ2, fL_law_b896 N L xs K h (nI (6 * i)) = K h2 (nI (6 * i) + 6) ∧ Jn σ2 h2 := by
  have h3 : 1000 ≤ N := by omega
  obtain ⟨i0, i1, i2, i3, i4, i5⟩ := lw_ix hL hi
  obtain ⟨h1, h2, e1, e2, hJ2⟩ := st_up hJ (fun h => fX8_lose N h (xs (nI (6 * i) + 1).toNatClampNeg)) (fun h => fX9_lose N h (xs (nI (6 * i) + 1).toNatClampNeg)) (c_lose hJ.1 hJ.2.1 N (xs (nI (6 * i) + 1).toNatClampNeg)) (fun h1 hB => m_lose hJ.1 hB N (xs (nI (6 * i) + 1).toNatClampNeg)) (hJ.1.lose (xs (nI (6 * i) + 1).toNatClampNeg))
  refine ⟨h2, _, ?_, hJ2⟩
  have e1 : fX8_lose N h (xs (nI (6 * i) + 1).toNatClampNeg) = _ := e1
  have e2 : fX9_lose N h1 (xs (nI (6 * i) + 1).toNatClampNeg) = _ := e2
  simp only [fL_law_b896, i1, e1, e2, Option.bind_some, if_true, fL_law_b1138]
theorem lb_lay {N L i : Nat} {xs : Nat → Int32} {K : pH → Int32 → Option (Int32 × pH)} {σ : St} {h : pH} (hN : 2 ^ 50 ≤ N) (hL : L ≤ 3072) (hi : 6 * i + 6 ≤ L) (hJ : Jn σ h) : ∃ h2 σ2, fL_law_b919 N L xs K h (nI (6 * i)) = K h2 (nI (6 * i) + 6) ∧ Jn σ2 h2 := by
  have h3 : 1000 ≤ N := by omega
  obtain ⟨i0, i1, i2, i3, i4, i5⟩ := lw_ix hL hi
  obtain ⟨h1, h2, e1, e2, hJ2⟩ := st_up hJ (fun h => fX8_lay N h (xs (nI (6 * i) + 1).toNatClampNeg) (xs (nI (6 * i) + 2).toNatClampNeg) (xs (nI (6 * i) + 3).toNatClampNeg) (xs (nI (6 * i) + 4).toNatClampNeg)) (fun h => fX9_lay N h (xs (nI (6 * i) + 1).toNatClampNeg) (xs (nI (6 * i) + 2).toNatClampNeg) (xs (nI (6 * i) + 3).toNatClampNeg) (xs (nI (6 * i) + 4).toNatClampNeg)) (c_lay hJ.1 hJ.2.1 N (xs (nI (6 * i) + 1).toNatClampNeg) (xs (nI (6 * i) + 2).toNatClampNeg) (xs (nI (6 * i) + 3).toNatClampNeg) (xs (nI (6 * i) + 4).toNatClampNeg)) (fun h1 hB => m_lay hJ.1 hB N (xs (nI (6 * i) + 1).toNatClampNeg) (xs (nI (6 * i) + 2).toNatClampNeg) (xs (nI (6 * i) + 3).toNatClampNeg) (xs (nI (6 * i) + 4).toNatClampNeg)) (hJ.1.lay (xs (nI (6 * i) + 1).toNatClampNeg) (xs (nI (6 * i) + 2).toNatClampNeg) (xs (nI (6 * i) + 3).toNatClampNeg) (xs (nI (6 * i) + 4).toNatClampNeg))
  refine ⟨h2, _, ?_, hJ2⟩
  have e1 : fX8_lay N h (xs (nI (6 * i) + 1).toNatClampNeg) (xs (nI (6 * i) + 2).toNatClampNeg) (xs (nI (6 * i) + 3).toNatClampNeg) (xs (nI (6 * i) + 4).toNatClampNeg) = _ := e1
  have e2 : fX9_lay N h1 (xs (nI (6 * i) + 1).toNatClampNeg) (xs (nI (6 * i) + 2).toNatClampNeg) (xs (nI (6 * i) + 3).toNatClampNeg) (xs (nI (6 * i) + 4).toNatClampNeg) = _ := e2
  simp only [fL_law_b919, i1, i2, i3, i4, e1, e2, Option.bind_some, if_true, fL_law_b1138]
theorem lb_get {N L i : Nat} {xs : Nat → Int32} {K : pH → Int32 → Option (Int32 × pH)} {σ : St} {h : pH} (hN : 2 ^ 50 ≤ N) (hL : L ≤ 3072) (hi : 6 * i + 6 ≤ L) (hJ : Jn σ h) : ∃ h2 σ2, fL_law_b972 N L xs K h (nI (6 * i)) = K h2 (nI (6 * i) + 6) ∧ Jn σ2 h2 := by
  have h3 : 1000 ≤ N := by omega
  obtain ⟨i0, i1, i2, i3, i4, i5⟩ := lw_ix hL hi
  obtain ⟨h1, h2, e1, e2, hJ2⟩ := st_up hJ (fun h => fX8_get N h (xs (nI (6 * i) + 1).toNatClampNeg) (xs (nI (6 * i) + 2).toNatClampNeg) (xs (nI (6 * i) + 3).toNatClampNeg)) (fun h => fX9_get N h (xs (nI (6 * i) + 1).toNatClampNeg) (xs (nI (6 * i) + 2).toNatClampNeg) (xs (nI (6 * i) + 3).toNatClampNeg)) (c_get hJ.1 hJ.2.1 N (xs (nI (6 * i) + 1).toNatClampNeg) (xs (nI (6 * i) + 2).toNatClampNeg) (xs (nI (6 * i) + 3).toNatClampNeg)) (fun h1 hB => m_get hJ.1 hB N (xs (nI (6 * i) + 1).toNatClampNeg) (xs (nI (6 * i) + 2).toNatClampNeg) (xs (nI (6 * i) + 3).toNatClampNeg)) (hJ.1.get (xs (nI (6 * i) + 1).toNatClampNeg) (xs (nI (6 * i) + 2).toNatClampNeg) (xs (nI (6 * i) + 3).toNatClampNeg))
  refine ⟨h2, _, ?_, hJ2⟩
  have e1 : fX8_get N h (xs (nI (6 * i) + 1).toNatClampNeg) (xs (nI (6 * i) + 2).toNatClampNeg) (xs (nI (6 * i) + 3).toNatClampNeg) = _ := e1
  have e2 : fX9_get N h1 (xs (nI (6 * i) + 1).toNatClampNeg) (xs (nI (6 * i) + 2).toNatClampNeg) (xs (nI (6 * i) + 3).toNatClampNeg) = _ := e2
  simp only [fL_law_b972, i1, i2, i3, e1, e2, Option.bind_some, if_true, fL_law_b1138]
theorem lb_copy {N L i : Nat} {xs : Nat → Int32} {K : pH → Int32 → Option (Int32 × pH)} {σ : St} {h : pH} (hN : 2 ^ 50 ≤ N) (hL : L ≤ 3072) (hi : 6 * i + 6 ≤ L) (hJ : Jn σ h) : ∃ h2 σ2, fL_law_b1015 N L xs K h (nI (6 * i)) = K h2 (nI (6 * i) + 6) ∧ Jn σ2 h2 := by
  have h3 : 1000 ≤ N := by omega
  obtain ⟨i0, i1, i2, i3, i4, i5⟩ := lw_ix hL hi
  obtain ⟨h1, h2, e1, e2, hJ2⟩ := st_up hJ (fun h => fX8_copy N h (xs (nI (6 * i) + 1).toNatClampNeg) (xs (nI (6 * i) + 2).toNatClampNeg) (xs (nI (6 * i) + 3).toNatClampNeg) (xs (nI (6 * i) + 4).toNatClampNeg) (xs (nI (6 * i) + 5).toNatClampNeg)) (fun h => fX9_copy N h (xs (nI (6 * i) + 1).toNatClampNeg) (xs (nI (6 * i) + 2).toNatClampNeg) (xs (nI (6 * i) + 3).toNatClampNeg) (xs (nI (6 * i) + 4).toNatClampNeg) (xs (nI (6 * i) + 5).toNatClampNeg)) (c_copy hJ.1 hJ.2.1 N (xs (nI (6 * i) + 1).toNatClampNeg) (xs (nI (6 * i) + 2).toNatClampNeg) (xs (nI (6 * i) + 3).toNatClampNeg) (xs (nI (6 * i) + 4).toNatClampNeg) (xs (nI (6 * i) + 5).toNatClampNeg)) (fun h1 hB => m_copy hJ.1 hB h3 (xs (nI (6 * i) + 1).toNatClampNeg) (xs (nI (6 * i) + 2).toNatClampNeg) (xs (nI (6 * i) + 3).toNatClampNeg) (xs (nI (6 * i) + 4).toNatClampNeg) (xs (nI (6 * i) + 5).toNatClampNeg)) (hJ.1.copy (xs (nI (6 * i) + 1).toNatClampNeg) (xs (nI (6 * i) + 2).toNatClampNeg) (xs (nI (6 * i) + 3).toNatClampNeg) (xs (nI (6 * i) + 4).toNatClampNeg) (xs (nI (6 * i) + 5).toNatClampNeg))
  refine ⟨h2, _, ?_, hJ2⟩
  have e1 : fX8_copy N h (xs (nI (6 * i) + 1).toNatClampNeg) (xs (nI (6 * i) + 2).toNatClampNeg) (xs (nI (6 * i) + 3).toNatClampNeg) (xs (nI (6 * i) + 4).toNatClampNeg) (xs (nI (6 * i) + 5).toNatClampNeg) = _ := e1
  have e2 : fX9_copy N h1 (xs (nI (6 * i) + 1).toNatClampNeg) (xs (nI (6 * i) + 2).toNatClampNeg) (xs (nI (6 * i) + 3).toNatClampNeg) (xs (nI (6 * i) + 4).toNatClampNeg) (xs (nI (6 * i) + 5).toNatClampNeg) = _ := e2
  simp only [fL_law_b1015, i1, i2, i3, i4, i5, e1, e2, Option.bind_some, if_true, fL_law_b1138]
theorem lb_write {N L i : Nat} {xs : Nat → Int32} {K : pH → Int32 → Option (Int32 × pH)} {σ : St} {h : pH} (hN : 2 ^ 50 ≤ N) (hL : L ≤ 3072) (hi : 6 * i + 6 ≤ L) (hJ : Jn σ h) : ∃ h2 σ2, fL_law_b1078 N L xs K h (nI (6 * i)) = K h2 (nI (6 * i) + 6) ∧ Jn σ2 h2 := by
  have h3 : 1000 ≤ N := by omega
  obtain ⟨i0, i1, i2, i3, i4, i5⟩ := lw_ix hL hi
  obtain ⟨h1, h2, e1, e2, hJ2⟩ := st_up hJ (fun h => fX8_write N h (xs (nI (6 * i) + 1).toNatClampNeg)) (fun h => fX9_write N h (xs (nI (6 * i) + 1).toNatClampNeg)) (c_write hJ.1 hJ.2.1 h3 (xs (nI (6 * i) + 1).toNatClampNeg)) (fun h1 hB => m_write hJ.1 hB h3 (xs (nI (6 * i) + 1).toNatClampNeg)) (hJ.1.write (xs (nI (6 * i) + 1).toNatClampNeg))
  refine ⟨h2, _, ?_, hJ2⟩
  have e1 : fX8_write N h (xs (nI (6 * i) + 1).toNatClampNeg) = _ := e1
  have e2 : fX9_write N h1 (xs (nI (6 * i) + 1).toNatClampNeg) = _ := e2
  simp only [fL_law_b1078, i1, e1, e2, Option.bind_some, if_true, fL_law_b1138]
theorem lb_count {N L i : Nat} {xs : Nat → Int32} {K : pH → Int32 → Option (Int32 × pH)} {σ : St} {h : pH} (hN : 2 ^ 50 ≤ N) (hL : L ≤ 3072) (hi : 6 * i + 6 ≤ L) (hJ : Jn σ h) : ∃ h2 σ2, fL_law_b1101 N L xs K h (nI (6 * i)) = K h2 (nI (6 * i) + 6) ∧ Jn σ2 h2 := by
  have h3 : 1000 ≤ N := by omega
  obtain ⟨i0, i1, i2, i3, i4, i5⟩ := lw_ix hL hi
  obtain ⟨h1, h2, e1, e2, hJ2⟩ := st_as hJ (fun h => fX8_count N h (xs (nI (6 * i) + 1).toNatClampNeg)) (fun h => fX9_count N h (xs (nI (6 * i) + 1).toNatClampNeg)) (c_count hJ.1 hJ.2.1 h3 (xs (nI (6 * i) + 1).toNatClampNeg)) (fun h1 hB => m_count hJ.1 hB h3 (xs (nI (6 * i) + 1).toNatClampNeg))
  refine ⟨h2, _, ?_, hJ2⟩
  have e1 : fX8_count N h (xs (nI (6 * i) + 1).toNatClampNeg) = _ := e1
  have e2 : fX9_count N h1 (xs (nI (6 * i) + 1).toNatClampNeg) = _ := e2
  simp only [fL_law_b1101, i1, e1, e2, Option.bind_some, if_true, fL_law_b1138]
theorem lb_digest {N L i : Nat} {xs : Nat → Int32} {K : pH → Int32 → Option (Int32 × pH)} {σ : St} {h : pH} (hN : 2 ^ 50 ≤ N) (hL : L ≤ 3072) (hi : 6 * i + 6 ≤ L) (hJ : Jn σ h) : ∃ h2 σ2, fL_law_b1124 N L xs K h (nI (6 * i)) = K h2 (nI (6 * i) + 6) ∧ Jn σ2 h2 := by
  have h3 : 1000 ≤ N := by omega
  obtain ⟨i0, i1, i2, i3, i4, i5⟩ := lw_ix hL hi
  obtain ⟨h1, h2, e1, e2, hJ2⟩ := st_as hJ (fun h => fX8_digest N h ) (fun h => fX9_digest N h ) (c_digest hJ.1 hJ.2.1 h3 ) (fun h1 hB => m_digest hJ.1 hB hN )
  refine ⟨h2, _, ?_, hJ2⟩
  have e1 : fX8_digest N h  = _ := e1
  have e2 : fX9_digest N h1  = _ := e2
  simp only [fL_law_b1124, e1, e2, Option.bind_some, if_true, lg_eq, fL_law_b1138]
theorem law_step {N L i : Nat} {xs : Nat → Int32} {K : pH → Int32 → Option (Int32 × pH)} {σ : St} {h : pH} (hN : 2 ^ 50 ≤ N) (hL : L ≤ 3072) (hi : 6 * i + 6 ≤ L) (hJ : Jn σ h) : ∃ h2 σ2, fL_law_B18 N L xs K h (nI (6 * i)) = K h2 (nI (6 * i) + 6) ∧ Jn σ2 h2 := by
  unfold fL_law_B18
  rw [if_neg (show ¬ Int32.ofNat L - 6 < nI (6 * i) by rw [Int32.lt_iff_toInt_lt, show (Int32.ofNat L - 6).toInt = (L : Int) - (6 : Nat) from pk_sub_toInt (a := L) (b := 6) (by omega) (by omega), nI_toInt (by omega)]; omega), if_pos (lw_ix hL hi).1]
  by_cases c0 : (xs (nI (6 * i)).toNatClampNeg &&& 63) = 0
  · rw [if_pos c0]; exact lb_type hN hL hi hJ
  rw [if_neg c0]
  by_cases c1 : (xs (nI (6 * i)).toNatClampNeg &&& 63) = 1
  · rw [if_pos c1]; exact lb_wipe hN hL hi hJ
  rw [if_neg c1]
  by_cases c2 : (xs (nI (6 * i)).toNatClampNeg &&& 63) = 2
  · rw [if_pos c2]; exact lb_undo hN hL hi hJ
  rw [if_neg c2]
  by_cases c3 : (xs (nI (6 * i)).toNatClampNeg &&& 63) = 3
  · rw [if_pos c3]; exact lb_fault hN hL hi hJ
  rw [if_neg c3]
  by_cases c4 : (xs (nI (6 * i)).toNatClampNeg &&& 63) = 4
  · rw [if_pos c4]; exact lb_plank hN hL hi hJ
  rw [if_neg c4]
  by_cases c5 : (xs (nI (6 * i)).toNatClampNeg &&& 63) = 5
  · rw [if_pos c5]; exact lb_crosser hN hL hi hJ
  rw [if_neg c5]
  by_cases c6 : (xs (nI (6 * i)).toNatClampNeg &&& 63) = 6
  · rw [if_pos c6]; exact lb_crossing hN hL hi hJ
  rw [if_neg c6]
  by_cases c7 : (xs (nI (6 * i)).toNatClampNeg &&& 63) = 7
  · rw [if_pos c7]; exact lb_set hN hL hi hJ
  rw [if_neg c7]
  by_cases c8 : (xs (nI (6 * i)).toNatClampNeg &&& 63) = 8
  · rw [if_pos c8]; exact lb_shift hN hL hi hJ
  rw [if_neg c8]
  by_cases c9 : (xs (nI (6 * i)).toNatClampNeg &&& 63) = 9
  · rw [if_pos c9]; exact lb_gap hN hL hi hJ
  rw [if_neg c9]
  by_cases c10 : (xs (nI (6 * i)).toNatClampNeg &&& 63) = 10
  · rw [if_pos c10]; exact lb_comes hN hL hi hJ
  rw [if_neg c10]
  by_cases c11 : (xs (nI (6 * i)).toNatClampNeg &&& 63) = 11
  · rw [if_pos c11]; exact lb_times hN hL hi hJ
  rw [if_neg c11]
  by_cases c12 : (xs (nI (6 * i)).toNatClampNeg &&& 63) = 12
  · rw [if_pos c12]; exact lb_taken hN hL hi hJ
  rw [if_neg c12]
  by_cases c13 : (xs (nI (6 * i)).toNatClampNeg &&& 63) = 13
  · rw [if_pos c13]; exact lb_stuck hN hL hi hJ
  rw [if_neg c13]
  by_cases c14 : (xs (nI (6 * i)).toNatClampNeg &&& 63) = 14
  · rw [if_pos c14]; exact lb_worn hN hL hi hJ
  rw [if_neg c14]
  by_cases c15 : (xs (nI (6 * i)).toNatClampNeg &&& 63) = 15
  · rw [if_pos c15]; exact lb_order hN hL hi hJ
  rw [if_neg c15]
  by_cases c16 : (xs (nI (6 * i)).toNatClampNeg &&& 63) = 16
  · rw [if_pos c16]; exact lb_ahead hN hL hi hJ
  rw [if_neg c16]
  by_cases c17 : (xs (nI (6 * i)).toNatClampNeg &&& 63) = 17
  · rw [if_pos c17]; exact lb_often hN hL hi hJ
  rw [if_neg c17]
  by_cases c18 : (xs (nI (6 * i)).toNatClampNeg &&& 63) = 18
  · rw [if_pos c18]; exact lb_seen hN hL hi hJ
  rw [if_neg c18]
  by_cases c19 : (xs (nI (6 * i)).toNatClampNeg &&& 63) = 19
  · rw [if_pos c19]; exact lb_forget hN hL hi hJ
  rw [if_neg c19]
  by_cases c20 : (xs (nI (6 * i)).toNatClampNeg &&& 63) = 20
  · rw [if_pos c20]; exact lb_read hN hL hi hJ
  rw [if_neg c20]
  by_cases c21 : (xs (nI (6 * i)).toNatClampNeg &&& 63) = 21
  · rw [if_pos c21]; exact lb_rule hN hL hi hJ
  rw [if_neg c21]
  by_cases c22 : (xs (nI (6 * i)).toNatClampNeg &&& 63) = 22
  · rw [if_pos c22]; exact lb_began hN hL hi hJ
  rw [if_neg c22]
  by_cases c23 : (xs (nI (6 * i)).toNatClampNeg &&& 63) = 23
  · rw [if_pos c23]; exact lb_ask hN hL hi hJ
  rw [if_neg c23]
  by_cases c24 : (xs (nI (6 * i)).toNatClampNeg &&& 63) = 24
  · rw [if_pos c24]; exact lb_maybe hN hL hi hJ
  rw [if_neg c24]
  by_cases c25 : (xs (nI (6 * i)).toNatClampNeg &&& 63) = 25
  · rw [if_pos c25]; exact lb_week hN hL hi hJ
  rw [if_neg c25]
  by_cases c26 : (xs (nI (6 * i)).toNatClampNeg &&& 63) = 26
  · rw [if_pos c26]; exact lb_sheet hN hL hi hJ
  rw [if_neg c26]
  by_cases c27 : (xs (nI (6 * i)).toNatClampNeg &&& 63) = 27
  · rw [if_pos c27]; exact lb_lose hN hL hi hJ
  rw [if_neg c27]
  by_cases c28 : (xs (nI (6 * i)).toNatClampNeg &&& 63) = 28
  · rw [if_pos c28]; exact lb_lay hN hL hi hJ
  rw [if_neg c28]
  by_cases c29 : (xs (nI (6 * i)).toNatClampNeg &&& 63) = 29
  · rw [if_pos c29]; exact lb_get hN hL hi hJ
  rw [if_neg c29]
  by_cases c30 : (xs (nI (6 * i)).toNatClampNeg &&& 63) = 30
  · rw [if_pos c30]; exact lb_copy hN hL hi hJ
  rw [if_neg c30]
  by_cases c31 : (xs (nI (6 * i)).toNatClampNeg &&& 63) = 31
  · rw [if_pos c31]; exact lb_write hN hL hi hJ
  rw [if_neg c31]
  by_cases c32 : (xs (nI (6 * i)).toNatClampNeg &&& 63) = 32
  · rw [if_pos c32]; exact lb_count hN hL hi hJ
  rw [if_neg c32]
  by_cases c33 : (xs (nI (6 * i)).toNatClampNeg &&& 63) = 33
  · rw [if_pos c33]; exact lb_digest hN hL hi hJ
  rw [if_neg c33]
  exact ⟨h, σ, rfl, hJ⟩
theorem law_loop {N L : Nat} (hN : 2 ^ 50 ≤ N) (hL : L ≤ 3072) (xs : Nat → Int32) : ∀ (d n i : Nat) (σ : St) (h : pH), 6 * i ≤ L → L < 6 * i + 6 * d + 6 → d < n → Jn σ h → ∃ h', fL_law_L18 N L xs n h (nI (6 * i)) = some (1, h') := by
  intro d
  induction d with
  | zero =>
    intro n i σ h h1 h2 hn hJ
    obtain ⟨n, rfl⟩ : ∃ m, n = m + 1 := ⟨n - 1, by omega⟩
    refine ⟨h, ?_⟩
    show fL_law_B18 N L xs (fL_law_L18 N L xs n) h _ = _
    unfold fL_law_B18
    rw [if_pos (show Int32.ofNat L - 6 < nI (6 * i) by rw [Int32.lt_iff_toInt_lt, show (Int32.ofNat L - 6).toInt = (L : Int) - (6 : Nat) from pk_sub_toInt (a := L) (b := 6) (by omega) (by omega), nI_toInt (by omega)]; omega)]
  | succ d ih =>
    intro n i σ h h1 h2 hn hJ
    obtain ⟨n, rfl⟩ : ∃ m, n = m + 1 := ⟨n - 1, by omega⟩
    by_cases c : 6 * i + 6 ≤ L
    · obtain ⟨h2, σ2, e, hJ2⟩ := law_step (K := fL_law_L18 N L xs n) hN hL c hJ
      obtain ⟨h', e'⟩ := ih n (i + 1) σ2 h2 (by omega) (by omega) (by omega) hJ2
      refine ⟨h', ?_⟩
      show fL_law_B18 N L xs (fL_law_L18 N L xs n) h _ = _
      rw [e, show nI (6 * i) + 6 = nI (6 * (i + 1)) from nI_add (6 * i) 6]
      exact e'
    · refine ⟨h, ?_⟩
      show fL_law_B18 N L xs (fL_law_L18 N L xs n) h _ = _
      unfold fL_law_B18
      rw [if_pos (show Int32.ofNat L - 6 < nI (6 * i) by rw [Int32.lt_iff_toInt_lt, show (Int32.ofNat L - 6).toInt = (L : Int) - (6 : Nat) from pk_sub_toInt (a := L) (b := 6) (by omega) (by omega), nI_toInt (by omega)]; omega)]
theorem law_pure (L : Nat) (xs : Nat → Int32) (hL : L ≤ 3072) : ∃ (N : Nat) (h' : pH), fL_law N L xs h00 = some (1, h') := by
  obtain ⟨N, hN⟩ : ∃ N : Nat, 2 ^ 50 ≤ N := ⟨2 ^ 50, Nat.le_refl _⟩
  obtain ⟨h', e⟩ := law_loop hN hL xs 600 N 0 σ00 h00 (by omega) (by omega) (by omega) Jn00
  exact ⟨N, h', e⟩
