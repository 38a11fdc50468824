theorem bsub {b : Int32} {c : Nat} (h1 : (c : Int) ≤ b.toInt) (hc : c < 1000) : b - nI c = nI ((b.toInt - c).toNat) := by
  obtain ⟨j, hj, e⟩ := nI_of (x := b) (Int32.not_lt.mpr (by rw [le_toInt]; show (0 : Int) ≤ _; omega))
  subst e
  rw [nI_toInt hj] at h1 ⊢
  rw [pk_sub (by omega)]
  congr 1
  omega
def SX (a b : Nat) : Prop := (a = 49 ∧ b = 11) ∨ a = 58
def SC (a b : Nat) : Prop := (a = 49 ∧ b = 9) ∨ a = 57
theorem rx_loop (N : Nat) {len : Nat} {b : Nat → Int32} (hl : len ≤ 24) : ∀ (d n i : Nat) (h : pH), i + d = len → d < n → h.1 55 2 = nI len → (∀ j, j < len → h.1 54 (80 + j) = b j) → h.1 49 11 = nI i → (∀ p, p < i → h.1 58 p = nI ((b p).toInt - 97).toNat) →
    ∃ h', fX9_readsCrossings_L7 N n h (nI i) = some (if ffr (gX b) d i = len then -1 else nI (ffr (gX b) d i), h') ∧ Kp SX h h' ∧ (ffr (gX b) d i = len → h'.1 49 11 = nI len ∧ ∀ p, p < len → h'.1 58 p = nI ((b p).toInt - 97).toNat) ∧ (ffr (gX b) d i ≠ len → h'.1 49 11 = nI 0) := by
  intro d
  induction d with
  | zero =>
    intro n i h hi hn h1 h2 h3 h4
    obtain ⟨n, rfl⟩ : ∃ m, n = m + 1 := ⟨n - 1, by omega⟩
    obtain rfl : i = len := by omega
    refine ⟨h, ?_, Kp.rf h, fun _ => ⟨h3, h4⟩, fun z => absurd rfl z⟩
    show fX9_readsCrossings_B7 N (fX9_readsCrossings_L7 N n) h _ = _
    simp only [fX9_readsCrossings_B7, cl2, ixc23, if_true, h1, ffr]
    rw [if_pos (Int32.le_refl _)]
  | succ d ih =>
    intro n i h hi hn h1 h2 h3 h4
    obtain ⟨n, rfl⟩ : ∃ m, n = m + 1 := ⟨n - 1, by omega⟩
    have hb := h2 i (by omega)
    have unf : fX9_readsCrossings_L7 N (n + 1) h (nI i) = fX9_readsCrossings_B7 N (fX9_readsCrossings_L7 N n) h (nI i) := rfl
    rw [unf]
    simp only [fX9_readsCrossings_B7, cl2, ixc23, if_true, h1, lit_add_nI]
    rw [if_neg (by rw [nI_leI (by omega) (by omega)]; omega), if_pos (ix_nI (by omega) (by omega)), nI_clamp (by omega), hb, show (97 : Int64) = OfNat.ofNat 97 from rfl, show (104 : Int64) = OfNat.ofNat 104 from rfl, inI_eq N h _ 97 104 (by decide) (by decide)]
    simp only [Option.bind_some]
    by_cases c : gX b i = true
    · have e : ffr (gX b) (d + 1) i = ffr (gX b) d (i + 1) := by simp [ffr, c]
      rw [e]
      simp only [gX, decide_eq_true_eq] at c
      have c1 : nI 97 ≤ b i ∧ b i ≤ nI 104 := c
      rw [le_toInt, show (97 : Int32).toInt = 97 from by decide] at c
      obtain ⟨h', e1, k1, k2, k3⟩ := ih n (i + 1) (pw (pw h 58 i (nI ((b i).toInt - 97).toNat)) 49 11 (nI (i + 1))) (by omega) (by omega) (by simp only [pw_at, Nat.reduceEqDiff, Nat.reduceAdd, Nat.reduceMul, Nat.reduceSub, Nat.reduceLeDiff, reduceIte, and_true, true_and, and_false, false_and, and_self, if_true, if_false, Bool.false_eq_true, not_true_eq_false, not_false_eq_true]; exact h1) (fun j hj => by simp only [pw_at, Nat.reduceEqDiff, Nat.reduceAdd, Nat.reduceMul, Nat.reduceSub, Nat.reduceLeDiff, reduceIte, and_true, true_and, and_false, false_and, and_self, if_true, if_false, Bool.false_eq_true, not_true_eq_false, not_false_eq_true]; exact h2 j hj) (by simp only [pw_at, Nat.reduceEqDiff, Nat.reduceAdd, Nat.reduceMul, Nat.reduceSub, Nat.reduceLeDiff, reduceIte, and_true, true_and, and_false, false_and, and_self, if_true, if_false, Bool.false_eq_true, not_true_eq_false, not_false_eq_true]) (fun p hp => by
        simp only [pw_at, Nat.reduceEqDiff, Nat.reduceAdd, Nat.reduceMul, Nat.reduceSub, Nat.reduceLeDiff, reduceIte, and_true, true_and, and_false, false_and, and_self, if_true, if_false, Bool.false_eq_true, not_true_eq_false, not_false_eq_true]
        by_cases c : p = i
        · rw [if_pos c, c]
        · rw [if_neg c]; exact h4 p (by omega))
      refine ⟨h', ?_, (((Kp.rf h).pw (by unfold SX; omega)).pw (by unfold SX; omega)).tr k1, k2, k3⟩
      rw [← e1, if_pos c1]
      simp only [show ¬ ((1 : Int32) = 0) by decide, if_false]
      rw [if_pos (ix_nI (by omega) (by omega)), nI_clamp (by omega), show (97 : Int32) = nI 97 from rfl, bsub (by omega) (by omega)]
      simp only [pw_at, Nat.reduceEqDiff, Nat.reduceAdd, Nat.reduceMul, Nat.reduceSub, Nat.reduceLeDiff, reduceIte, and_true, true_and, and_false, false_and, and_self, if_true, if_false, Bool.false_eq_true, not_true_eq_false, not_false_eq_true, h3, nI_1]
      rfl
    · have e : ffr (gX b) (d + 1) i = i := by simp [ffr, c]
      have e2 : (if ffr (gX b) (d + 1) i = len then (-1 : Int32) else nI (ffr (gX b) (d + 1) i)) = nI i := by rw [e, if_neg (by omega)]
      rw [e2]
      refine ⟨pw h 49 11 0, ?_, (Kp.rf h).pw (by unfold SX; omega), fun z => absurd z (by omega), fun _ => by simp [pw_at]; rfl⟩
      simp only [gX, decide_eq_true_eq] at c
      have c1 : ¬ (nI 97 ≤ b i ∧ b i ≤ nI 104) := c
      rw [if_neg c1, if_pos rfl]
theorem readsCrossings_eq {σ : St} {h : pH} (hS : Sok σ) (hB : Bm σ h) {N : Nat} (hN : 1000 ≤ N) :
    ∃ h', fX9_readsCrossings N h = some (flt σ 2, h') ∧ Kp SX h h' ∧ h'.1 49 11 = nI (nc (wOf σ)) ∧ ∀ i, i < nc (wOf σ) → h'.1 58 i = nI (wh (wOf σ) i) := by
  have hl : t_l σ 2 ≤ 24 := hS.1 2 (by omega)
  obtain ⟨h', e, k1, k2, k3⟩ := rx_loop N (b := t_b σ 2) hl (t_l σ 2) N 0 (pw h 49 11 0) (by omega) (by omega) (by simp only [pw_at, Nat.reduceEqDiff, Nat.reduceAdd, Nat.reduceMul, Nat.reduceSub, Nat.reduceLeDiff, reduceIte, and_true, true_and, and_false, false_and, and_self, if_true, if_false, Bool.false_eq_true, not_true_eq_false, not_false_eq_true]; exact hB.1 2 (by omega)) (fun j hj => by simp only [pw_at, Nat.reduceEqDiff, Nat.reduceAdd, Nat.reduceMul, Nat.reduceSub, Nat.reduceLeDiff, reduceIte, and_true, true_and, and_false, false_and, and_self, if_true, if_false, Bool.false_eq_true, not_true_eq_false, not_false_eq_true]; have := hB.2.1 2 (by omega) j hj; simpa using this) (by simp only [pw_at, Nat.reduceEqDiff, Nat.reduceAdd, Nat.reduceMul, Nat.reduceSub, Nat.reduceLeDiff, reduceIte, and_true, true_and, and_false, false_and, and_self, if_true, if_false, Bool.false_eq_true, not_true_eq_false, not_false_eq_true]; rfl) (fun p hp => absurd hp (by omega))
  refine ⟨h', e, ((Kp.rf h).pw (by unfold SX; omega)).tr k1, ?_, ?_⟩
  · show _ = nI (if fX _ _ = _ then _ else _)
    by_cases c : fX (t_l σ 2) (t_b σ 2) = t_l σ 2
    · rw [if_pos c]; exact (k2 c).1
    · rw [if_neg c]; exact k3 c
  · intro p hp
    have hp : p < if fX (t_l σ 2) (t_b σ 2) = t_l σ 2 then t_l σ 2 else 0 := hp
    split at hp
    · rename_i c; exact (k2 c).2 p hp
    · omega
/-! crossers -/
theorem kindOf_eq (N : Nat) (h : pH) (b : Int32) : fX9_kindOf N h b = some (if gk 0 b then nI (vk 0 b) else -9, h) := by
  simp only [fX9_kindOf, fX9_kindOf_b52, gk, vk, if_true]
  by_cases c1 : b = 112
  · simp [c1]; rfl
  · by_cases c2 : b = 104
    · simp [c2]; rfl
    · by_cases c3 : b = 99
      · simp [c3]; rfl
      · by_cases c4 : b = 103
        · simp [c4]; rfl
        · by_cases c5 : b = 98
          · simp [c5]; rfl
          · simp [c1, c2, c3, c4, c5]
theorem crosserOf_eq (N : Nat) (h : pH) {r : Nat} (hr : r < 5) (b : Int32) : fX9_crosserOf N h (nI r) b = some (if gk r b then nI (vk r b) else -9, h) := by
  simp only [fX9_crosserOf, fX9_crosserOf_b60, fX9_crosserOf_b83, fX9_crosserOf_b107, fX9_crosserOf_b120]
  rcases (show r = 0 ∨ r = 1 ∨ r = 2 ∨ r = 3 ∨ r = 4 by omega) with rfl | rfl | rfl | rfl | rfl
  · rw [if_pos (by decide), kindOf_eq]; rfl
  · rw [if_neg (by decide), if_pos (by decide), show (49 : Int64) = OfNat.ofNat 49 from rfl, show (57 : Int64) = OfNat.ofNat 57 from rfl, inI_eq N h b 49 57 (by decide) (by decide)]
    have e : gk 1 b = decide (nI 49 ≤ b ∧ b ≤ nI 57) := rfl
    rw [e]
    by_cases c : nI 49 ≤ b ∧ b ≤ nI 57
    · have c2 := c.1
      rw [le_toInt, show (nI 49).toInt = 49 from by decide] at c2
      simp only [c, and_self, if_true, Option.bind_some, show ¬ ((1 : Int32) = 0) by decide, if_false, decide_true]
      rw [show (48 : Int32) = nI 48 from rfl, bsub (by omega) (by omega)]
      rfl
    · simp only [c, if_false, Option.bind_some, if_true, decide_false, Bool.false_eq_true]
  · rw [if_neg (by decide), if_neg (by decide), if_pos (by decide)]
    have e : gk 2 b = decide (b = 119 ∨ b = 101) := rfl
    have e2 : vk 2 b = if b = 119 then 0 else 1 := rfl
    rw [e, e2]
    by_cases c1 : b = 119
    · simp [c1]; rfl
    · by_cases c2 : b = 101
      · simp [c2]; rfl
      · simp [c1, c2]
  · rw [if_neg (by decide), if_neg (by decide), if_neg (by decide), if_pos (by decide), show (48 : Int64) = OfNat.ofNat 48 from rfl, show (57 : Int64) = OfNat.ofNat 57 from rfl, inI_eq N h b 48 57 (by decide) (by decide)]
    have e : gk 3 b = decide (nI 48 ≤ b ∧ b ≤ nI 57) := rfl
    rw [e]
    by_cases c : nI 48 ≤ b ∧ b ≤ nI 57
    · have c2 := c.1
      rw [le_toInt, show (nI 48).toInt = 48 from by decide] at c2
      simp only [c, and_self, if_true, Option.bind_some, show ¬ ((1 : Int32) = 0) by decide, if_false, decide_true]
      rw [show (48 : Int32) = nI 48 from rfl, bsub (by omega) (by omega)]
      rfl
    · simp only [c, if_false, Option.bind_some, if_true, decide_false, Bool.false_eq_true]
  · rw [if_neg (by decide), if_neg (by decide), if_neg (by decide), if_neg (by decide)]
    have e : gk 4 b = decide (b = 59) := rfl
    have e2 : vk 4 b = 0 := rfl
    rw [e, e2]
    by_cases c : b = 59
    · simp [c]; rfl
    · simp [c]
theorem vk_lt {r : Nat} {b : Int32} (h : gk r b = true) (hr : r < 5) : vk r b < 100 := by
  rcases (show r = 0 ∨ r = 1 ∨ r = 2 ∨ r = 3 ∨ r = 4 by omega) with rfl | rfl | rfl | rfl | rfl
  · have := vk_rng.1 h; omega
  · have := (vk_rng.2.1 h).2; omega
  · have := (vk_rng (b := b)).2.2.1; omega
  · have := vk_rng.2.2.2 h; omega
  · show 0 < 100; omega
theorem nI_ne9 {v : Nat} (h : v < 100) : ¬ nI v = -9 := by
  intro e
  have := congrArg Int32.toInt e
  rw [nI_toInt (by omega), show (-9 : Int32).toInt = -9 from by decide] at this
  omega
theorem rc_loop (N : Nat) {len : Nat} {b : Nat → Int32} (hl : len ≤ 39) : ∀ (d n i : Nat) (h : pH), i + d = len → d < n → (∀ j, j < len → h.1 54 (40 + j) = b j) → h.1 49 9 = nI ((i + 1) / 5) → (∀ j, j < i → j % 5 < 4 → h.1 57 (4 * (j / 5) + j % 5) = nI (vk (j % 5) (b j))) →
    ∃ h', fX9_readsCrossers_L14 N n h (nI len) (nI i) = some (if ffr (gC b) d i = len then (if len = 0 ∨ len % 5 = 4 then -1 else nI len) else nI (ffr (gC b) d i), h') ∧ Kp SC h h' ∧ (ffr (gC b) d i = len ∧ (len = 0 ∨ len % 5 = 4) → h'.1 49 9 = nI ((len + 1) / 5) ∧ ∀ j, j < len → j % 5 < 4 → h'.1 57 (4 * (j / 5) + j % 5) = nI (vk (j % 5) (b j))) ∧ (¬ (ffr (gC b) d i = len ∧ (len = 0 ∨ len % 5 = 4)) → h'.1 49 9 = nI 0) := by
  intro d
  induction d with
  | zero =>
    intro n i h hi hn h2 h3 h4
    obtain ⟨n, rfl⟩ : ∃ m, n = m + 1 := ⟨n - 1, by omega⟩
    obtain rfl : i = len := by omega
    have unf : fX9_readsCrossers_L14 N (n + 1) h (nI i) (nI i) = fX9_readsCrossers_B14 N (fX9_readsCrossers_L14 N n) h (nI i) (nI i) := rfl
    rw [unf]
    simp only [fX9_readsCrossers_B14, fX9_readsCrossers_b114, ffr, if_true]
    rw [if_pos (Int32.le_refl _), nI_rem_lit (by omega) (by decide) (by decide)]
    by_cases c1 : i = 0
    · refine ⟨h, ?_, Kp.rf h, fun _ => ⟨h3, h4⟩, fun z => absurd c1 (by simp at z; exact z.1)⟩
      rw [if_pos (by rw [c1]; decide), if_pos (Or.inl c1)]
    · rw [if_neg (by rw [show (0 : Int32) = nI 0 from rfl, nI_leI (by omega) (by omega)]; omega)]
      by_cases c2 : i % 5 = 4
      · refine ⟨h, ?_, Kp.rf h, fun _ => ⟨h3, h4⟩, fun z => absurd c2 (by simp at z; exact z.2)⟩
        rw [if_pos (by show nI (i % 5) = _; rw [c2]; rfl), if_pos (Or.inr c2)]
      · refine ⟨pw h 49 9 0, ?_, (Kp.rf h).pw (by unfold SC; omega), fun z => by omega, fun _ => by simp [pw_at]; rfl⟩
        rw [if_neg (by show ¬ nI (i % 5) = _; rw [show (4 : Int32) = nI 4 from rfl, nI_eq (by omega) (by omega)]; exact c2), if_neg (by omega)]
  | succ d ih =>
    intro n i h hi hn h2 h3 h4
    obtain ⟨n, rfl⟩ : ∃ m, n = m + 1 := ⟨n - 1, by omega⟩
    have hb := h2 i (by omega)
    have unf : fX9_readsCrossers_L14 N (n + 1) h (nI len) (nI i) = fX9_readsCrossers_B14 N (fX9_readsCrossers_L14 N n) h (nI len) (nI i) := rfl
    rw [unf]
    have er : nI i - nI i / 5 * 5 = nI (i % 5) := nI_rem_lit (n := 5) (by omega) (by decide) (by decide)
    have ed : nI i / 5 = nI (i / 5) := nI_div_lit (n := 5) (by omega) (by decide) (by decide)
    simp only [fX9_readsCrossers_B14, fX9_readsCrossers_b71, fX9_readsCrossers_b86, lit_add_nI]
    rw [if_neg (by rw [nI_leI (by omega) (by omega)]; omega), er, ed, if_pos (ix_nI (by omega) (by omega)), nI_clamp (by omega), hb, crosserOf_eq N h (by omega)]
    simp only [Option.bind_some]
    by_cases c : gk (i % 5) (b i) = true
    · have e : ffr (gC b) (d + 1) i = ffr (gC b) d (i + 1) := by simp [ffr, gC, c]
      rw [e]
      have hv := vk_lt c (by omega)
      rw [if_pos c, if_neg (nI_ne9 hv)]
      by_cases c4 : i % 5 = 4
      · obtain ⟨h', e1, k1, k2, k3⟩ := ih n (i + 1) (pw h 49 9 (nI ((i + 1) / 5))) (by omega) (by omega) (fun j hj => by simp only [pw_at, Nat.reduceEqDiff, Nat.reduceAdd, Nat.reduceMul, Nat.reduceSub, Nat.reduceLeDiff, reduceIte, and_true, true_and, and_false, false_and, and_self, if_true, if_false, Bool.false_eq_true, not_true_eq_false, not_false_eq_true]; exact h2 j hj) (by simp only [pw_at, Nat.reduceEqDiff, Nat.reduceAdd, Nat.reduceMul, Nat.reduceSub, Nat.reduceLeDiff, reduceIte, and_true, true_and, and_false, false_and, and_self, if_true, if_false, Bool.false_eq_true, not_true_eq_false, not_false_eq_true]; congr 1; omega) (fun j hj hj2 => by simp only [pw_at, Nat.reduceEqDiff, Nat.reduceAdd, Nat.reduceMul, Nat.reduceSub, Nat.reduceLeDiff, reduceIte, and_true, true_and, and_false, false_and, and_self, if_true, if_false, Bool.false_eq_true, not_true_eq_false, not_false_eq_true]; exact h4 j (by omega) hj2)
        refine ⟨h', ?_, ((Kp.rf h).pw (by unfold SC; omega)).tr k1, k2, k3⟩
        rw [← e1, if_pos (by rw [c4]; decide), if_neg (by rw [c4]; decide), h3, nI_add_lit, nI_add_lit, Nat.add_zero]
      · rw [if_neg (by rw [show (4 : Int32) = nI 4 from rfl, nI_leI (by omega) (by omega)]; omega), lit_mul_nI, nI_add, if_pos (ix_nI (show 4 * (i / 5) + i % 5 < 32 by omega) (by omega)), nI_clamp (show 4 * (i / 5) + i % 5 < 2 ^ 31 by omega)]
        obtain ⟨h', e1, k1, k2, k3⟩ := ih n (i + 1) (pw (pw h 57 (4 * (i / 5) + i % 5) (nI (vk (i % 5) (b i)))) 49 9 (nI ((i + 1 + 1) / 5))) (by omega) (by omega) (fun j hj => by simp only [pw_at, Nat.reduceEqDiff, Nat.reduceAdd, Nat.reduceMul, Nat.reduceSub, Nat.reduceLeDiff, reduceIte, and_true, true_and, and_false, false_and, and_self, if_true, if_false, Bool.false_eq_true, not_true_eq_false, not_false_eq_true]; exact h2 j hj) (by simp only [pw_at, Nat.reduceEqDiff, Nat.reduceAdd, Nat.reduceMul, Nat.reduceSub, Nat.reduceLeDiff, reduceIte, and_true, true_and, and_false, false_and, and_self, if_true, if_false, Bool.false_eq_true, not_true_eq_false, not_false_eq_true]) (fun j hj hj2 => by
          simp only [pw_at, Nat.reduceEqDiff, Nat.reduceAdd, Nat.reduceMul, Nat.reduceSub, Nat.reduceLeDiff, reduceIte, and_true, true_and, and_false, false_and, and_self, if_true, if_false, Bool.false_eq_true, not_true_eq_false, not_false_eq_true]
          by_cases cj : j = i
          · rw [if_pos (by rw [cj]), cj]
          · rw [if_neg (by omega)]; exact h4 j (by omega) hj2)
        refine ⟨h', ?_, (((Kp.rf h).pw (by unfold SC; omega)).pw (by unfold SC; omega)).tr k1, k2, k3⟩
        rw [← e1]
        simp only [pw_at, Nat.reduceEqDiff, Nat.reduceAdd, Nat.reduceMul, Nat.reduceSub, Nat.reduceLeDiff, reduceIte, and_true, true_and, and_false, false_and, and_self, if_true, if_false, Bool.false_eq_true, not_true_eq_false, not_false_eq_true, h3]
        by_cases c3 : i % 5 = 3
        · rw [if_pos (by rw [c3]; rfl), nI_add_lit, nI_add_lit, show (i + 1) / 5 + 1 = (i + 1 + 1) / 5 by omega]
        · rw [if_neg (by rw [show (3 : Int32) = nI 3 from rfl, nI_eq (by omega) (by omega)]; exact c3), nI_add_lit, nI_add_lit, show (i + 1) / 5 + 0 = (i + 1 + 1) / 5 by omega]
    · have e : ffr (gC b) (d + 1) i = i := by simp [ffr, gC, c]
      have e2 : (if ffr (gC b) (d + 1) i = len then (if len = 0 ∨ len % 5 = 4 then (-1 : Int32) else nI len) else nI (ffr (gC b) (d + 1) i)) = nI i := by rw [e, if_neg (by omega)]
      rw [e2, if_neg c, if_pos rfl]
      exact ⟨pw h 49 9 0, rfl, (Kp.rf h).pw (by unfold SC; omega), fun z => absurd z.1 (by omega), fun _ => by simp [pw_at]; rfl⟩
theorem readsCrossers_eq {σ : St} {h : pH} (hS : Sok σ) (hB : Bm σ h) {N : Nat} (hN : 1000 ≤ N) :
    ∃ h', fX9_readsCrossers N h = some (flt σ 1, h') ∧ Kp SC h h' ∧ h'.1 49 9 = nI (nk (wOf σ)) ∧ ∀ k, k < nk (wOf σ) → h'.1 57 (4 * k) = nI (kd (wOf σ) k) ∧ h'.1 57 (4 * k + 1) = nI (wg (wOf σ) k) ∧ h'.1 57 (4 * k + 2) = nI (en (wOf σ) k) ∧ h'.1 57 (4 * k + 3) = nI (lp (wOf σ) k) := by
  have hl : t_l σ 1 ≤ 39 := hS.1 1 (by omega)
  obtain ⟨h', e, k1, k2, k3⟩ := rc_loop N (b := t_b σ 1) hl (t_l σ 1) N 0 (pw h 49 9 0) (by omega) (by omega) (fun j hj => by simp only [pw_at, Nat.reduceEqDiff, Nat.reduceAdd, Nat.reduceMul, Nat.reduceSub, Nat.reduceLeDiff, reduceIte, and_true, true_and, and_false, false_and, and_self, if_true, if_false, Bool.false_eq_true, not_true_eq_false, not_false_eq_true]; have := hB.2.1 1 (by omega) j hj; simpa using this) (by simp only [pw_at, Nat.reduceEqDiff, Nat.reduceAdd, Nat.reduceMul, Nat.reduceSub, Nat.reduceLeDiff, reduceIte, and_true, true_and, and_false, false_and, and_self, if_true, if_false, Bool.false_eq_true, not_true_eq_false, not_false_eq_true]; rfl) (fun p hp => absurd hp (by omega))
  refine ⟨h', ?_, ((Kp.rf h).pw (by unfold SC; omega)).tr k1, ?_, ?_⟩
  · unfold fX9_readsCrossers
    rw [if_pos ixc13, cl1]
    simp only [pw_at, Nat.reduceEqDiff, Nat.reduceAdd, Nat.reduceMul, Nat.reduceSub, Nat.reduceLeDiff, reduceIte, and_true, true_and, and_false, false_and, and_self, if_true, if_false, Bool.false_eq_true, not_true_eq_false, not_false_eq_true, hB.1 1 (by omega)]
    exact e
  · show _ = nI (if fC (t_l σ 1) (t_b σ 1) = t_l σ 1 ∧ (t_l σ 1 = 0 ∨ t_l σ 1 % 5 = 4) then (t_l σ 1 + 1) / 5 else 0)
    by_cases c : fC (t_l σ 1) (t_b σ 1) = t_l σ 1 ∧ (t_l σ 1 = 0 ∨ t_l σ 1 % 5 = 4)
    · rw [if_pos c]; exact (k2 c).1
    · rw [if_neg c]; exact k3 c
  · intro k hk
    have hk : k < if fC (t_l σ 1) (t_b σ 1) = t_l σ 1 ∧ (t_l σ 1 = 0 ∨ t_l σ 1 % 5 = 4) then (t_l σ 1 + 1) / 5 else 0 := hk
    split at hk
    · rename_i c
      have q := (k2 c).2
      have q0 := q (5 * k) (by omega) (by omega)
      have q1 := q (5 * k + 1) (by omega) (by omega)
      have q2 := q (5 * k + 2) (by omega) (by omega)
      have q3 := q (5 * k + 3) (by omega) (by omega)
      rw [show 5 * k / 5 = k by omega, show 5 * k % 5 = 0 by omega] at q0
      rw [show (5 * k + 1) / 5 = k by omega, show (5 * k + 1) % 5 = 1 by omega] at q1
      rw [show (5 * k + 2) / 5 = k by omega, show (5 * k + 2) % 5 = 2 by omega] at q2
      rw [show (5 * k + 3) / 5 = k by omega, show (5 * k + 3) % 5 = 3 by omega] at q3
      exact ⟨q0, q1, q2, q3⟩
    · omega
def Lw (σ : St) (h : pH) : Prop := Lv (wOf σ) (fun j => (0 : Nat).testBit j) h
/-- find(): all texts read, all crossings made -/
theorem find_eq {σ : St} {h : pH} (hS : Sok σ) (hB : Bm σ h) {N : Nat} (hN : 1000 ≤ N) :
    ∃ h', fX9_find N h = some ((), h') ∧ Kp SF h h' ∧ mF (wOf σ) h' ∧ Lw σ h' := by
  obtain ⟨h1, e1, k1, a1, b1⟩ := readsPlanks_eq hS hB hN
  have k1' : Kp SF h h1 := k1.mono (fun a b z => by unfold SP at z; unfold SF; omega)
  obtain ⟨h2, e2, k2, a2, b2⟩ := readsCrossers_eq hS (hB.kp k1') hN
  have k2' : Kp SF h1 h2 := k2.mono (fun a b z => by unfold SC at z; unfold SF; omega)
  obtain ⟨h3, e3, k3, a3, b3⟩ := readsCrossings_eq hS ((hB.kp k1').kp k2') hN
  have k3' : Kp SF h2 h3 := k3.mono (fun a b z => by unfold SX at z; unfold SF; omega)
  have hB3 := ((hB.kp k1').kp k2').kp k3'
  have hF : mF (wOf σ) h3 := by
    refine ⟨?_, ?_, ?_, ?_, a3, b3, hB3.2.2.1, hB3.2.2.2.1, hB3.2.2.2.2.1⟩
    · rw [k3.2 49 7 (by unfold SX; omega), k2.2 49 7 (by unfold SC; omega)]; exact a1
    · intro p hp; rw [k3.2 56 p (by unfold SX; omega), k2.2 56 p (by unfold SC; omega)]; exact b1 p hp
    · rw [k3.2 49 9 (by unfold SX; omega)]; exact a2
    · intro k hk; rw [k3.2 57 _ (by unfold SX; omega), k3.2 57 _ (by unfold SX; omega), k3.2 57 _ (by unfold SX; omega), k3.2 57 _ (by unfold SX; omega)]; exact b2 k hk
  obtain ⟨h4, e4, k4, a4⟩ := lives_eq (wok_of hS) hF hN (m := 0) (by decide) (by rw [hB3.2.2.2.2.2.2.2.2.2.2]; rfl)
  refine ⟨h4, ?_, ((k1'.tr k2').tr k3').tr (k4.mono (fun a b z => SM_SF (S7_SM z))), hF.kp (k4.mono (fun _ _ => S7_SM)), a4⟩
  rw [fX9_find, e1]
  simp only [Option.bind_some, e2, e3, e4]
