theorem Bm.rv {σ : St} {h : pH} (hB : Bm σ h) {v : Nat} : Bm (uRv σ v) (pw h 59 0 (nI v)) := by
  obtain ⟨h1, h2, h3, h4, h5, h6, h7, h8, h9, h10, h11⟩ := hB
  refine ⟨?_, ?_, ?_, ?_, ?_, ?_, ?_, ?_, ?_, ?_, ?_⟩
  · intro t ht; simp only [pw_at, Nat.reduceEqDiff, Nat.reduceAdd, Nat.reduceMul, Nat.reduceSub, Nat.reduceLeDiff, reduceIte, and_true, true_and, and_false, false_and, and_self, if_true, if_false, Bool.false_eq_true, not_true_eq_false, not_false_eq_true]; exact h1 t ht
  · intro t ht i hi; simp only [pw_at, Nat.reduceEqDiff, Nat.reduceAdd, Nat.reduceMul, Nat.reduceSub, Nat.reduceLeDiff, reduceIte, and_true, true_and, and_false, false_and, and_self, if_true, if_false, Bool.false_eq_true, not_true_eq_false, not_false_eq_true]; exact h2 t ht i hi
  · simp only [pw_at, Nat.reduceEqDiff, Nat.reduceAdd, Nat.reduceMul, Nat.reduceSub, Nat.reduceLeDiff, reduceIte, and_true, true_and, and_false, false_and, and_self, if_true, if_false, Bool.false_eq_true, not_true_eq_false, not_false_eq_true]; rfl
  · simp only [pw_at, Nat.reduceEqDiff, Nat.reduceAdd, Nat.reduceMul, Nat.reduceSub, Nat.reduceLeDiff, reduceIte, and_true, true_and, and_false, false_and, and_self, if_true, if_false, Bool.false_eq_true, not_true_eq_false, not_false_eq_true, Nat.one_ne_zero]; exact h4
  · intro k hk; simp only [pw_at, Nat.reduceEqDiff, Nat.reduceAdd, Nat.reduceMul, Nat.reduceSub, Nat.reduceLeDiff, reduceIte, and_true, true_and, and_false, false_and, and_self, if_true, if_false, Bool.false_eq_true, not_true_eq_false, not_false_eq_true]; exact h5 k hk
  · intro s hs; simp only [pw_at, Nat.reduceEqDiff, Nat.reduceAdd, Nat.reduceMul, Nat.reduceSub, Nat.reduceLeDiff, reduceIte, and_true, true_and, and_false, false_and, and_self, if_true, if_false, Bool.false_eq_true, not_true_eq_false, not_false_eq_true]; exact h6 s hs
  · intro s hs i hi; simp only [pw_at, Nat.reduceEqDiff, Nat.reduceAdd, Nat.reduceMul, Nat.reduceSub, Nat.reduceLeDiff, reduceIte, and_true, true_and, and_false, false_and, and_self, if_true, if_false, Bool.false_eq_true, not_true_eq_false, not_false_eq_true]; exact h7 s hs i hi
  · simp only [pw_at, Nat.reduceEqDiff, Nat.reduceAdd, Nat.reduceMul, Nat.reduceSub, Nat.reduceLeDiff, reduceIte, and_true, true_and, and_false, false_and, and_self, if_true, if_false, Bool.false_eq_true, not_true_eq_false, not_false_eq_true]; exact h8
  · intro k hk; simp only [pw_at, Nat.reduceEqDiff, Nat.reduceAdd, Nat.reduceMul, Nat.reduceSub, Nat.reduceLeDiff, reduceIte, and_true, true_and, and_false, false_and, and_self, if_true, if_false, Bool.false_eq_true, not_true_eq_false, not_false_eq_true]; exact h9 k hk
  · simp only [pw_at, Nat.reduceEqDiff, Nat.reduceAdd, Nat.reduceMul, Nat.reduceSub, Nat.reduceLeDiff, reduceIte, and_true, true_and, and_false, false_and, and_self, if_true, if_false, Bool.false_eq_true, not_true_eq_false, not_false_eq_true]; exact h10
  · simp only [pw_at, Nat.reduceEqDiff, Nat.reduceAdd, Nat.reduceMul, Nat.reduceSub, Nat.reduceLeDiff, reduceIte, and_true, true_and, and_false, false_and, and_self, if_true, if_false, Bool.false_eq_true, not_true_eq_false, not_false_eq_true]; exact h11
theorem Bm.bg {σ : St} {h : pH} (hB : Bm σ h) {v : Nat} : Bm (uBg σ v) (pw h 59 1 (nI v)) := by
  obtain ⟨h1, h2, h3, h4, h5, h6, h7, h8, h9, h10, h11⟩ := hB
  refine ⟨?_, ?_, ?_, ?_, ?_, ?_, ?_, ?_, ?_, ?_, ?_⟩
  · intro t ht; simp only [pw_at, Nat.reduceEqDiff, Nat.reduceAdd, Nat.reduceMul, Nat.reduceSub, Nat.reduceLeDiff, reduceIte, and_true, true_and, and_false, false_and, and_self, if_true, if_false, Bool.false_eq_true, not_true_eq_false, not_false_eq_true]; exact h1 t ht
  · intro t ht i hi; simp only [pw_at, Nat.reduceEqDiff, Nat.reduceAdd, Nat.reduceMul, Nat.reduceSub, Nat.reduceLeDiff, reduceIte, and_true, true_and, and_false, false_and, and_self, if_true, if_false, Bool.false_eq_true, not_true_eq_false, not_false_eq_true]; exact h2 t ht i hi
  · simp only [pw_at, Nat.reduceEqDiff, Nat.reduceAdd, Nat.reduceMul, Nat.reduceSub, Nat.reduceLeDiff, reduceIte, and_true, true_and, and_false, false_and, and_self, if_true, if_false, Bool.false_eq_true, not_true_eq_false, not_false_eq_true, Nat.zero_ne_one]; exact h3
  · simp only [pw_at, Nat.reduceEqDiff, Nat.reduceAdd, Nat.reduceMul, Nat.reduceSub, Nat.reduceLeDiff, reduceIte, and_true, true_and, and_false, false_and, and_self, if_true, if_false, Bool.false_eq_true, not_true_eq_false, not_false_eq_true]; rfl
  · intro k hk; simp only [pw_at, Nat.reduceEqDiff, Nat.reduceAdd, Nat.reduceMul, Nat.reduceSub, Nat.reduceLeDiff, reduceIte, and_true, true_and, and_false, false_and, and_self, if_true, if_false, Bool.false_eq_true, not_true_eq_false, not_false_eq_true]; exact h5 k hk
  · intro s hs; simp only [pw_at, Nat.reduceEqDiff, Nat.reduceAdd, Nat.reduceMul, Nat.reduceSub, Nat.reduceLeDiff, reduceIte, and_true, true_and, and_false, false_and, and_self, if_true, if_false, Bool.false_eq_true, not_true_eq_false, not_false_eq_true]; exact h6 s hs
  · intro s hs i hi; simp only [pw_at, Nat.reduceEqDiff, Nat.reduceAdd, Nat.reduceMul, Nat.reduceSub, Nat.reduceLeDiff, reduceIte, and_true, true_and, and_false, false_and, and_self, if_true, if_false, Bool.false_eq_true, not_true_eq_false, not_false_eq_true]; exact h7 s hs i hi
  · simp only [pw_at, Nat.reduceEqDiff, Nat.reduceAdd, Nat.reduceMul, Nat.reduceSub, Nat.reduceLeDiff, reduceIte, and_true, true_and, and_false, false_and, and_self, if_true, if_false, Bool.false_eq_true, not_true_eq_false, not_false_eq_true]; exact h8
  · intro k hk; simp only [pw_at, Nat.reduceEqDiff, Nat.reduceAdd, Nat.reduceMul, Nat.reduceSub, Nat.reduceLeDiff, reduceIte, and_true, true_and, and_false, false_and, and_self, if_true, if_false, Bool.false_eq_true, not_true_eq_false, not_false_eq_true]; exact h9 k hk
  · simp only [pw_at, Nat.reduceEqDiff, Nat.reduceAdd, Nat.reduceMul, Nat.reduceSub, Nat.reduceLeDiff, reduceIte, and_true, true_and, and_false, false_and, and_self, if_true, if_false, Bool.false_eq_true, not_true_eq_false, not_false_eq_true]; exact h10
  · simp only [pw_at, Nat.reduceEqDiff, Nat.reduceAdd, Nat.reduceMul, Nat.reduceSub, Nat.reduceLeDiff, reduceIte, and_true, true_and, and_false, false_and, and_self, if_true, if_false, Bool.false_eq_true, not_true_eq_false, not_false_eq_true]; exact h11
def a_set (σ : St) (x y : Int32) : Int32 := if x = 0 ∧ ix y 10 = true then nI (t_rv σ) else if x = 1 ∧ ix y 19 = true then nI (t_bg σ) else -2
def n_set (σ : St) (x y : Int32) : St := if x = 0 ∧ ix y 10 = true then uRv σ y.toNatClampNeg else if x = 1 ∧ ix y 19 = true then uBg σ y.toNatClampNeg else σ
theorem m_set {σ : St} {h : pH} (hB : Bm σ h) (N : Nat) (x y : Int32) : ∃ h', fX9_set N h x y = some (a_set σ x y, h') ∧ Bm (n_set σ x y) h' ∧ Cl h h' := by
  rw [fX9_set, isTwo_ix]
  simp only [Option.bind_some, b2i, a_set, n_set, fX9_set_b23, fX9_set_b29]
  cases c : ix x 2
  · have c0 : ¬ x = 0 := fun e => by rw [e] at c; revert c; decide
    have c1 : ¬ x = 1 := fun e => by rw [e] at c; revert c; decide
    exact ⟨h, by simp [c0, c1], by simpa [c0, c1] using hB, Cl.rf h⟩
  · obtain ⟨j, hj, rfl⟩ := ix_of c (by decide)
    rcases (show j = 0 ∨ j = 1 by omega) with rfl | rfl
    · rw [in_ix N h y 9 (by decide), if_neg (by decide), if_pos (show nI 0 = 0 from rfl)]
      simp only [Option.bind_some, b2i, show nI 0 = (0 : Int32) from rfl, true_and, show ¬ ((0 : Int32) = 1) by decide, false_and, if_false]
      cases c2 : ix y 10
      · exact ⟨h, rfl, hB, Cl.rf h⟩
      · obtain ⟨v, hv, rfl⟩ := ix_of c2 (by decide)
        simp only [Bool.true_eq_false, if_false, ixc02, if_true, cl0, hB.2.2.1, nI_clamp (show v < 2 ^ 31 by omega)]
        exact ⟨_, rfl, hB.rv, (Cl.rf h).pw (by omega)⟩
    · rw [in_ix N h y 18 (by decide), if_neg (by decide), if_neg (by decide)]
      simp only [Option.bind_some, b2i, show nI 1 = (1 : Int32) from rfl, true_and, show ¬ ((1 : Int32) = 0) by decide, false_and, if_false]
      cases c2 : ix y 19
      · exact ⟨h, rfl, hB, Cl.rf h⟩
      · obtain ⟨v, hv, rfl⟩ := ix_of c2 (by decide)
        simp only [Bool.true_eq_false, if_false, ixc12, if_true, cl1, hB.2.2.2.1, nI_clamp (show v < 2 ^ 31 by omega)]
        exact ⟨_, rfl, hB.bg, (Cl.rf h).pw (by omega)⟩
def in9 (y : Int32) : Bool := decide (-9 ≤ y.toInt ∧ y.toInt ≤ 9)
theorem in9_eq (N : Nat) (h : pH) (y : Int32) : fX9_in N h y.toInt64 (-9) 9 = some (if in9 y then 1 else 0, h) := by
  rw [in_eq]
  have e : ((-9 : Int64) ≤ y.toInt64 ∧ y.toInt64 ≤ 9) ↔ in9 y = true := by
    rw [Int64.le_iff_toInt_le, Int64.le_iff_toInt_le, Int32.toInt_toInt64, show (-9 : Int64).toInt = -9 from by decide, show (9 : Int64).toInt = 9 from by decide]
    simp [in9]
  simp only [e]
theorem sI_self (y : Int32) : sI y.toInt = y := by unfold sI; exact Int32.ofInt_toInt y
def a_shift (σ : St) (x y : Int32) : Int32 := if ix x 4 = true ∧ in9 y = true then sI (t_sh σ x.toNatClampNeg) else -10002
def n_shift (σ : St) (x y : Int32) : St := if ix x 4 = true ∧ in9 y = true then uSh σ x.toNatClampNeg y.toInt else σ
theorem m_shift {σ : St} {h : pH} (hB : Bm σ h) (N : Nat) (x y : Int32) : ∃ h', fX9_shift N h x y = some (a_shift σ x y, h') ∧ Bm (n_shift σ x y) h' ∧ Cl h h' := by
  rw [fX9_shift, in_ix N h x 3 (by decide)]
  simp only [Option.bind_some, in9_eq, b2i, a_shift, n_shift, fX9_shift_b26]
  cases c : ix x 4
  · exact ⟨h, by simp, by simpa using hB, Cl.rf h⟩
  · cases c2 : in9 y
    · exact ⟨h, by simp, by simpa using hB, Cl.rf h⟩
    · obtain ⟨k, hk, rfl⟩ := ix_of c (by decide)
      simp (disch := omega) only [Bool.true_eq_false, if_false, if_true, and_self, nI_clamp, hB.2.2.2.2.1 k hk]
      refine ⟨_, rfl, ?_, (Cl.rf h).pw (by omega)⟩
      obtain ⟨h1, h2, h3, h4, h5, h6, h7, h8, h9, h10, h11⟩ := hB
      refine ⟨?_, ?_, ?_, ?_, ?_, ?_, ?_, ?_, ?_, ?_, ?_⟩
      · intro t ht; simp only [pw_at, Nat.reduceEqDiff, Nat.reduceAdd, Nat.reduceMul, Nat.reduceSub, Nat.reduceLeDiff, reduceIte, and_true, true_and, and_false, false_and, and_self, if_true, if_false, Bool.false_eq_true, not_true_eq_false, not_false_eq_true]; exact h1 t ht
      · intro t ht i hi; simp only [pw_at, Nat.reduceEqDiff, Nat.reduceAdd, Nat.reduceMul, Nat.reduceSub, Nat.reduceLeDiff, reduceIte, and_true, true_and, and_false, false_and, and_self, if_true, if_false, Bool.false_eq_true, not_true_eq_false, not_false_eq_true]; exact h2 t ht i hi
      · simp only [pw_at, Nat.reduceEqDiff, Nat.reduceAdd, Nat.reduceMul, Nat.reduceSub, Nat.reduceLeDiff, reduceIte, and_true, true_and, and_false, false_and, and_self, if_true, if_false, Bool.false_eq_true, not_true_eq_false, not_false_eq_true]; exact h3
      · simp only [pw_at, Nat.reduceEqDiff, Nat.reduceAdd, Nat.reduceMul, Nat.reduceSub, Nat.reduceLeDiff, reduceIte, and_true, true_and, and_false, false_and, and_self, if_true, if_false, Bool.false_eq_true, not_true_eq_false, not_false_eq_true]; exact h4
      · intro k' hk'
        simp only [pw_at, true_and]
        show _ = sI (if k' = k then y.toInt else t_sh σ k')
        by_cases e : k' = k
        · rw [if_pos e, if_pos e, sI_self]
        · rw [if_neg e, if_neg e]; exact h5 k' hk'
      · intro s hs; simp only [pw_at, Nat.reduceEqDiff, Nat.reduceAdd, Nat.reduceMul, Nat.reduceSub, Nat.reduceLeDiff, reduceIte, and_true, true_and, and_false, false_and, and_self, if_true, if_false, Bool.false_eq_true, not_true_eq_false, not_false_eq_true]; exact h6 s hs
      · intro s hs i hi; simp only [pw_at, Nat.reduceEqDiff, Nat.reduceAdd, Nat.reduceMul, Nat.reduceSub, Nat.reduceLeDiff, reduceIte, and_true, true_and, and_false, false_and, and_self, if_true, if_false, Bool.false_eq_true, not_true_eq_false, not_false_eq_true]; exact h7 s hs i hi
      · simp only [pw_at, Nat.reduceEqDiff, Nat.reduceAdd, Nat.reduceMul, Nat.reduceSub, Nat.reduceLeDiff, reduceIte, and_true, true_and, and_false, false_and, and_self, if_true, if_false, Bool.false_eq_true, not_true_eq_false, not_false_eq_true]; exact h8
      · intro k hk; simp only [pw_at, Nat.reduceEqDiff, Nat.reduceAdd, Nat.reduceMul, Nat.reduceSub, Nat.reduceLeDiff, reduceIte, and_true, true_and, and_false, false_and, and_self, if_true, if_false, Bool.false_eq_true, not_true_eq_false, not_false_eq_true]; exact h9 k hk
      · simp only [pw_at, Nat.reduceEqDiff, Nat.reduceAdd, Nat.reduceMul, Nat.reduceSub, Nat.reduceLeDiff, reduceIte, and_true, true_and, and_false, false_and, and_self, if_true, if_false, Bool.false_eq_true, not_true_eq_false, not_false_eq_true]; exact h10
      · simp only [pw_at, Nat.reduceEqDiff, Nat.reduceAdd, Nat.reduceMul, Nat.reduceSub, Nat.reduceLeDiff, reduceIte, and_true, true_and, and_false, false_and, and_self, if_true, if_false, Bool.false_eq_true, not_true_eq_false, not_false_eq_true]; exact h11
/-! seen, forget -/
def a_seen (σ : St) (x y : Int32) : Int32 := if ix x 25 = true ∧ ix y 19 = true then (if t_cn σ = 8 then -4 else nI (t_cn σ + 1)) else -2
def n_seen (σ : St) (x y : Int32) : St := if ix x 25 = true ∧ ix y 19 = true ∧ t_cn σ ≠ 8 then uSee σ x.toNatClampNeg y.toNatClampNeg else σ
theorem m_seen {σ : St} {h : pH} (hS : Sok σ) (hB : Bm σ h) (N : Nat) (x y : Int32) : ∃ h', fX9_seen N h x y = some (a_seen σ x y, h') ∧ Bm (n_seen σ x y) h' ∧ Cl h h' := by
  rw [fX9_seen, in_ix N h x 24 (by decide)]
  simp only [Option.bind_some, in_ix N h y 18 (by decide), b2i, a_seen, n_seen, fX9_seen_b24]
  cases c : ix x 25
  · exact ⟨h, by simp, by simpa using hB, Cl.rf h⟩
  · cases c2 : ix y 19
    · exact ⟨h, by simp, by simpa using hB, Cl.rf h⟩
    · obtain ⟨n, hn, rfl⟩ := ix_of c (by decide)
      obtain ⟨p, hp, rfl⟩ := ix_of c2 (by decide)
      have hcn := hS.2.2.2.2.2.1
      have h27 := hB.2.2.2.2.2.2.2.1
      simp (disch := omega) only [Bool.true_eq_false, if_false, if_true, and_self, nI_clamp, h27, nI_eq_lit, true_and, lit_mul_nI, pw_at, Nat.reduceEqDiff, Nat.reduceAdd, Nat.reduceMul, Nat.reduceSub, Nat.reduceLeDiff, reduceIte, and_true, true_and, and_false, false_and, and_self, if_true, if_false, Bool.false_eq_true, not_true_eq_false, not_false_eq_true, nI_add_lit]
      by_cases c3 : t_cn σ = 8
      · rw [if_pos c3, if_pos c3, if_neg (by simpa using c3)]
        exact ⟨h, rfl, hB, Cl.rf h⟩
      · rw [if_neg c3, if_neg c3, if_pos c3, if_pos (ix_nI (by omega) (by omega)), if_pos (ix_nI (by omega) (by omega))]
        refine ⟨_, rfl, ?_, (((Cl.rf h).pw (by omega)).pw (by omega)).pw (by omega)⟩
        obtain ⟨h1, h2, h3, h4, h5, h6, h7, h8, h9, h10, h11⟩ := hB
        refine ⟨?_, ?_, ?_, ?_, ?_, ?_, ?_, ?_, ?_, ?_, ?_⟩
        · intro t ht; simp only [pw_at, Nat.reduceEqDiff, Nat.reduceAdd, Nat.reduceMul, Nat.reduceSub, Nat.reduceLeDiff, reduceIte, and_true, true_and, and_false, false_and, and_self, if_true, if_false, Bool.false_eq_true, not_true_eq_false, not_false_eq_true]; exact h1 t ht
        · intro t ht i hi; simp only [pw_at, Nat.reduceEqDiff, Nat.reduceAdd, Nat.reduceMul, Nat.reduceSub, Nat.reduceLeDiff, reduceIte, and_true, true_and, and_false, false_and, and_self, if_true, if_false, Bool.false_eq_true, not_true_eq_false, not_false_eq_true]; exact h2 t ht i hi
        · simp only [pw_at, Nat.reduceEqDiff, Nat.reduceAdd, Nat.reduceMul, Nat.reduceSub, Nat.reduceLeDiff, reduceIte, and_true, true_and, and_false, false_and, and_self, if_true, if_false, Bool.false_eq_true, not_true_eq_false, not_false_eq_true]; exact h3
        · simp only [pw_at, Nat.reduceEqDiff, Nat.reduceAdd, Nat.reduceMul, Nat.reduceSub, Nat.reduceLeDiff, reduceIte, and_true, true_and, and_false, false_and, and_self, if_true, if_false, Bool.false_eq_true, not_true_eq_false, not_false_eq_true]; exact h4
        · intro k hk; simp only [pw_at, Nat.reduceEqDiff, Nat.reduceAdd, Nat.reduceMul, Nat.reduceSub, Nat.reduceLeDiff, reduceIte, and_true, true_and, and_false, false_and, and_self, if_true, if_false, Bool.false_eq_true, not_true_eq_false, not_false_eq_true]; exact h5 k hk
        · intro s hs; simp only [pw_at, Nat.reduceEqDiff, Nat.reduceAdd, Nat.reduceMul, Nat.reduceSub, Nat.reduceLeDiff, reduceIte, and_true, true_and, and_false, false_and, and_self, if_true, if_false, Bool.false_eq_true, not_true_eq_false, not_false_eq_true]; exact h6 s hs
        · intro s hs i hi; simp only [pw_at, Nat.reduceEqDiff, Nat.reduceAdd, Nat.reduceMul, Nat.reduceSub, Nat.reduceLeDiff, reduceIte, and_true, true_and, and_false, false_and, and_self, if_true, if_false, Bool.false_eq_true, not_true_eq_false, not_false_eq_true]; exact h7 s hs i hi
        · simp only [pw_at, Nat.reduceEqDiff, Nat.reduceAdd, Nat.reduceMul, Nat.reduceSub, Nat.reduceLeDiff, reduceIte, and_true, true_and, and_false, false_and, and_self, if_true, if_false, Bool.false_eq_true, not_true_eq_false, not_false_eq_true]; rfl
        · intro k hk
          have hk : k < t_cn σ + 1 := hk
          simp only [pw_at, Nat.reduceEqDiff, Nat.reduceAdd, Nat.reduceMul, Nat.reduceSub, Nat.reduceLeDiff, reduceIte, and_true, true_and, and_false, false_and, and_self, if_true, if_false, Bool.false_eq_true, not_true_eq_false, not_false_eq_true]
          show _ = nI (if k = t_cn σ then n else t_sb σ k) ∧ _ = nI (if k = t_cn σ then p else t_sp σ k)
          by_cases e : k = t_cn σ
          · refine ⟨?_, ?_⟩
            · rw [if_neg (by omega), if_pos (by omega), if_pos e]
            · rw [if_pos (by omega), if_pos e]
          · refine ⟨?_, ?_⟩
            · rw [if_neg (by omega), if_neg (by omega), if_neg e]
              exact (h9 k (by omega)).1
            · rw [if_neg (by omega), if_neg (by omega), if_neg e]
              exact (h9 k (by omega)).2
        · simp only [pw_at, Nat.reduceEqDiff, Nat.reduceAdd, Nat.reduceMul, Nat.reduceSub, Nat.reduceLeDiff, reduceIte, and_true, true_and, and_false, false_and, and_self, if_true, if_false, Bool.false_eq_true, not_true_eq_false, not_false_eq_true]; exact h10
        · simp only [pw_at, Nat.reduceEqDiff, Nat.reduceAdd, Nat.reduceMul, Nat.reduceSub, Nat.reduceLeDiff, reduceIte, and_true, true_and, and_false, false_and, and_self, if_true, if_false, Bool.false_eq_true, not_true_eq_false, not_false_eq_true]; exact h11
def a_forget (σ : St) : Int32 := nI (t_cn σ)
theorem m_forget {σ : St} {h : pH} (hB : Bm σ h) (N : Nat) : ∃ h', fX9_forget N h = some (a_forget σ, h') ∧ Bm (uFor σ) h' ∧ Cl h h' := by
  rw [fX9_forget, hB.2.2.2.2.2.2.2.1]
  refine ⟨_, rfl, ?_, (Cl.rf h).pw (by omega)⟩
  obtain ⟨h1, h2, h3, h4, h5, h6, h7, h8, h9, h10, h11⟩ := hB
  refine ⟨?_, ?_, ?_, ?_, ?_, ?_, ?_, ?_, ?_, ?_, ?_⟩
  · intro t ht; simp only [pw_at, Nat.reduceEqDiff, Nat.reduceAdd, Nat.reduceMul, Nat.reduceSub, Nat.reduceLeDiff, reduceIte, and_true, true_and, and_false, false_and, and_self, if_true, if_false, Bool.false_eq_true, not_true_eq_false, not_false_eq_true]; exact h1 t ht
  · intro t ht i hi; simp only [pw_at, Nat.reduceEqDiff, Nat.reduceAdd, Nat.reduceMul, Nat.reduceSub, Nat.reduceLeDiff, reduceIte, and_true, true_and, and_false, false_and, and_self, if_true, if_false, Bool.false_eq_true, not_true_eq_false, not_false_eq_true]; exact h2 t ht i hi
  · simp only [pw_at, Nat.reduceEqDiff, Nat.reduceAdd, Nat.reduceMul, Nat.reduceSub, Nat.reduceLeDiff, reduceIte, and_true, true_and, and_false, false_and, and_self, if_true, if_false, Bool.false_eq_true, not_true_eq_false, not_false_eq_true]; exact h3
  · simp only [pw_at, Nat.reduceEqDiff, Nat.reduceAdd, Nat.reduceMul, Nat.reduceSub, Nat.reduceLeDiff, reduceIte, and_true, true_and, and_false, false_and, and_self, if_true, if_false, Bool.false_eq_true, not_true_eq_false, not_false_eq_true]; exact h4
  · intro k hk; simp only [pw_at, Nat.reduceEqDiff, Nat.reduceAdd, Nat.reduceMul, Nat.reduceSub, Nat.reduceLeDiff, reduceIte, and_true, true_and, and_false, false_and, and_self, if_true, if_false, Bool.false_eq_true, not_true_eq_false, not_false_eq_true]; exact h5 k hk
  · intro s hs; simp only [pw_at, Nat.reduceEqDiff, Nat.reduceAdd, Nat.reduceMul, Nat.reduceSub, Nat.reduceLeDiff, reduceIte, and_true, true_and, and_false, false_and, and_self, if_true, if_false, Bool.false_eq_true, not_true_eq_false, not_false_eq_true]; exact h6 s hs
  · intro s hs i hi; simp only [pw_at, Nat.reduceEqDiff, Nat.reduceAdd, Nat.reduceMul, Nat.reduceSub, Nat.reduceLeDiff, reduceIte, and_true, true_and, and_false, false_and, and_self, if_true, if_false, Bool.false_eq_true, not_true_eq_false, not_false_eq_true]; exact h7 s hs i hi
  · simp only [pw_at, Nat.reduceEqDiff, Nat.reduceAdd, Nat.reduceMul, Nat.reduceSub, Nat.reduceLeDiff, reduceIte, and_true, true_and, and_false, false_and, and_self, if_true, if_false, Bool.false_eq_true, not_true_eq_false, not_false_eq_true]; rfl
  · intro k hk; exact absurd hk (Nat.not_lt_zero k)
  · simp only [pw_at, Nat.reduceEqDiff, Nat.reduceAdd, Nat.reduceMul, Nat.reduceSub, Nat.reduceLeDiff, reduceIte, and_true, true_and, and_false, false_and, and_self, if_true, if_false, Bool.false_eq_true, not_true_eq_false, not_false_eq_true]; exact h10
  · simp only [pw_at, Nat.reduceEqDiff, Nat.reduceAdd, Nat.reduceMul, Nat.reduceSub, Nat.reduceLeDiff, reduceIte, and_true, true_and, and_false, false_and, and_self, if_true, if_false, Bool.false_eq_true, not_true_eq_false, not_false_eq_true]; exact h11
