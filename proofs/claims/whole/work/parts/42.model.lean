/-! ===== the reference: one crosser tries ===== -/
theorem looks_step {w : Wt} {h : pH} (hw : wok w) (hF : mF w h) (N : Nat) (K : pH → Int32 → Int32 → Int32 → Option (Unit × pH)) {k g p : Nat} (hk : k < nk w) (hp : p < np w) (hg : g < np w) (hgap : h.1 49 19 = nI g) (hm : h.1 49 21 = nI (mny w (hvy w k) g p)) (hl : h.1 49 22 = nI (lgs w (hvy w k) g p)) :
    fX9_looks_B14 N K h (nI k) (nI (rl w (hvy w k) g p)) (nI p) = K (pw (pw h 49 21 (nI (mny w (hvy w k) g (p + 1)))) 49 22 (nI (lgs w (hvy w k) g (p + 1)))) (nI k) (nI (rl w (hvy w k) g (p + 1))) (nI (p + 1)) := by
  have hh := isHole_eq hw hF N hk hp hg hgap
  have w1 := hw.1
  have r1 := rl_le w (hvy w k) g p
  have r2 := lgs_le w (hvy w k) g p
  have r3 := mny_le w (hvy w k) g p
  simp only [fX9_looks_B14, hF.1]
  rw [if_neg (by rw [nI_leI (by omega) (by omega)]; omega), hh]
  simp only [Option.bind_some, fX9_looks_b48, fX9_looks_b49, fX9_looks_b65, pw_at]
  by_cases c : hole w (hvy w k) g p = true
  · by_cases c2 : rl w (hvy w k) g p = 0
    · simp only [c, c2, hm, hl, show ¬ ((1 : Int32) = 0) by decide, nI_0, nI_add_lit, Nat.reduceEqDiff, Nat.reduceAdd, Nat.reduceMul, Nat.reduceSub, Nat.reduceLeDiff, reduceIte, and_true, true_and, and_false, false_and, and_self, if_true, if_false, Bool.false_eq_true, not_true_eq_false, not_false_eq_true]
      rw [show (0 : Int32) + 1 = nI (0 + 1) from rfl, greater_eq N _ _ _ (by omega) (by omega)]
      simp only [Option.bind_some, mny, lgs, rl, c, c2, Nat.reduceEqDiff, Nat.reduceAdd, Nat.reduceMul, Nat.reduceSub, Nat.reduceLeDiff, reduceIte, and_true, true_and, and_false, false_and, and_self, if_true, if_false, Bool.false_eq_true, not_true_eq_false, not_false_eq_true, nI_1]
    · have c3 : ¬ nI (rl w (hvy w k) g p) = 0 := by rw [show (0 : Int32) = nI 0 from rfl, nI_eq (by omega) (by omega)]; exact c2
      simp only [c, c3, hm, hl, show ¬ ((1 : Int32) = 0) by decide, nI_add_lit, Nat.reduceEqDiff, Nat.reduceAdd, Nat.reduceMul, Nat.reduceSub, Nat.reduceLeDiff, reduceIte, and_true, true_and, and_false, false_and, and_self, if_true, if_false, Bool.false_eq_true, not_true_eq_false, not_false_eq_true]
      rw [greater_eq N _ _ _ (by omega) (by omega)]
      simp only [Option.bind_some, mny, lgs, rl, c, c2, Nat.reduceEqDiff, Nat.reduceAdd, Nat.reduceMul, Nat.reduceSub, Nat.reduceLeDiff, reduceIte, and_true, true_and, and_false, false_and, and_self, if_true, if_false, Bool.false_eq_true, not_true_eq_false, not_false_eq_true, nI_1, Nat.add_zero]
  · simp only [c, hm, hl, Nat.reduceEqDiff, Nat.reduceAdd, Nat.reduceMul, Nat.reduceSub, Nat.reduceLeDiff, reduceIte, and_true, true_and, and_false, false_and, and_self, if_true, if_false, Bool.false_eq_true, not_true_eq_false, not_false_eq_true]
    rw [show (0 : Int32) = nI 0 from rfl, greater_eq N _ _ _ (by omega) (by omega)]
    simp only [Option.bind_some, mny, lgs, rl, c, Nat.reduceEqDiff, Nat.reduceAdd, Nat.reduceMul, Nat.reduceSub, Nat.reduceLeDiff, reduceIte, and_true, true_and, and_false, false_and, and_self, if_true, if_false, Bool.false_eq_true, not_true_eq_false, not_false_eq_true, nI_1, nI_add, Nat.add_zero]
theorem looks_loop {w : Wt} (hw : wok w) (N : Nat) {k g : Nat} (hk : k < nk w) (hg : g < np w) : ∀ (d n p : Nat) (h : pH), p + d = np w → d < n → mF w h → h.1 49 19 = nI g → h.1 49 21 = nI (mny w (hvy w k) g p) → h.1 49 22 = nI (lgs w (hvy w k) g p) →
    ∃ h', fX9_looks_L14 N n h (nI k) (nI (rl w (hvy w k) g p)) (nI p) = some ((), h') ∧ K3 h h' ∧ h'.1 49 19 = nI g ∧ h'.1 49 21 = nI (mny w (hvy w k) g (np w)) ∧ h'.1 49 22 = nI (lgs w (hvy w k) g (np w)) := by
  intro d
  induction d with
  | zero =>
    intro n p h hp hn hF h1 h2 h3
    obtain ⟨n, rfl⟩ : ∃ m, n = m + 1 := ⟨n - 1, by omega⟩
    obtain rfl : p = np w := by omega
    refine ⟨h, ?_, K3.rf h, h1, h2, h3⟩
    show fX9_looks_B14 N (fX9_looks_L14 N n) h _ _ _ = _
    simp only [fX9_looks_B14, hF.1]
    rw [if_pos (Int32.le_refl _)]
  | succ d ih =>
    intro n p h hp hn hF h1 h2 h3
    obtain ⟨n, rfl⟩ : ∃ m, n = m + 1 := ⟨n - 1, by omega⟩
    have hK : K3 h (pw (pw h 49 21 (nI (mny w (hvy w k) g (p + 1)))) 49 22 (nI (lgs w (hvy w k) g (p + 1)))) := ((K3.rf h).pw (by omega)).pw (by omega)
    obtain ⟨h', e, k1, k2, k3, k4⟩ := ih n (p + 1) _ (by omega) (by omega) (hF.k3 hK) (by simp [pw_at, h1]) (by simp [pw_at]) (by simp [pw_at])
    refine ⟨h', ?_, hK.tr k1, k2, k3, k4⟩
    show fX9_looks_B14 N (fX9_looks_L14 N n) h _ _ _ = _
    rw [looks_step hw hF N _ hk (by omega) hg h1 h2 h3]
    exact e
theorem looks_eq {w : Wt} {h : pH} (hw : wok w) (hF : mF w h) {N : Nat} (hN : 1000 ≤ N) {k g : Nat} (hk : k < nk w) (hg : g < np w) (hgap : h.1 49 19 = nI g) :
    ∃ h', fX9_looks N h (nI k) = some ((), h') ∧ K3 h h' ∧ h'.1 49 19 = nI g ∧ h'.1 49 21 = nI (mny w (hvy w k) g (np w)) ∧ h'.1 49 22 = nI (lgs w (hvy w k) g (np w)) := by
  have hK : K3 h (pw (pw h 49 21 0) 49 22 0) := ((K3.rf h).pw (by omega)).pw (by omega)
  have w1 := hw.1
  obtain ⟨h', e, k1, k2⟩ := looks_loop hw N hk hg (np w) N 0 _ (by omega) (by omega) (hF.k3 hK) (by simp [pw_at, hgap]) (by simp [pw_at]; rfl) (by simp [pw_at]; rfl)
  exact ⟨h', e, hK.tr k1, k2⟩
theorem sI_toInt {z : Int} (h1 : -1000000 ≤ z) (h2 : z ≤ 1000000) : (sI z).toInt = z := by
  unfold sI
  rw [Int32.toInt_ofInt, show Int32.size = 4294967296 from rfl]
  rw [Int.bmod_def]
  have e : ((4294967296 : Nat) : Int) = 4294967296 := rfl
  rw [e]
  split <;> omega
theorem sI_nat (n : Nat) : sI (n : Int) = nI n := by
  unfold sI nI
  exact Int32.ofInt_eq_ofNat
theorem toInt_nI {n : Nat} (h : n < 2 ^ 31) : (nI n).toInt = n := nI_toInt h
theorem isCrosser_eq {w : Wt} {h : pH} (hw : wok w) (hF : mF w h) (N : Nat) (x : Int32) : fX9_isCrosser N h x = some (if 0 ≤ x.toInt ∧ x.toInt < nk w then 1 else 0, h) := by
  have w2 := hw.2.1
  rw [fX9_isCrosser, hF.2.2.1, show (0 : Int64) = (OfNat.ofNat 0 : Int64) from rfl, in2_eq N h x _ 0 (by decide)]
  have e : (nI 0 ≤ x ∧ x ≤ nI (nk w) - 1) ↔ (0 ≤ x.toInt ∧ x.toInt < nk w) := by
    rw [Int32.le_iff_toInt_le, Int32.le_iff_toInt_le]
    have e1 : (nI (nk w) - 1).toInt = (nk w : Int) - 1 := pk_sub_toInt (a := nk w) (b := 1) (by omega) (by omega)
    have e2 : (nI 0).toInt = 0 := by decide
    rw [e1, e2]
    omega
  by_cases c : 0 ≤ x.toInt ∧ x.toInt < nk w
  · rw [if_pos (e.mpr c), if_pos c]; rfl
  · rw [if_neg (fun z => c (e.mp z)), if_neg c]; rfl
def jrem (x y : Int32) : Int32 := x - x / y * y
theorem mov_fin : ((List.range 19).all fun i => (List.range 20).all fun n => (List.range 19).all fun g => decide (n = 0 ∨ n ≤ g) || (decide (jrem (nI g + jrem (sI ((i : Int) - 9)) (nI n) + nI n) (nI n) = nI ((((g : Int) + ((i : Int) - 9)) % (n : Int)).toNat)) && decide (jrem (nI g + (- jrem (sI ((i : Int) - 9)) (nI n)) + nI n) (nI n) = nI ((((g : Int) + (- ((i : Int) - 9))) % (n : Int)).toNat)))) = true := by decide +kernel
theorem mov_of {s : Int} {n g : Nat} (h1 : -9 ≤ s) (h2 : s ≤ 9) (hn : 0 < n) (hn2 : n ≤ 19) (hg : g < n) : jrem (nI g + jrem (sI s) (nI n) + nI n) (nI n) = nI ((((g : Int) + s) % (n : Int)).toNat) ∧ jrem (nI g + (- jrem (sI s) (nI n)) + nI n) (nI n) = nI ((((g : Int) + (- s)) % (n : Int)).toNat) := by
  have h := List.all_eq_true.mp mov_fin (s + 9).toNat (List.mem_range.mpr (by omega))
  have h := List.all_eq_true.mp h n (List.mem_range.mpr (by omega))
  have h := List.all_eq_true.mp h g (List.mem_range.mpr (by omega))
  rw [show (((s + 9).toNat : Nat) : Int) - 9 = s by omega] at h
  simp only [Bool.or_eq_true, Bool.and_eq_true, decide_eq_true_eq] at h
  rcases h with h | h
  · omega
  · exact h
theorem moves_eq {w : Wt} {h : pH} (hw : wok w) (hF : mF w h) (N : Nat) {k g : Nat} (hk : k < nk w) (hg : g < np w) (hgap : h.1 49 19 = nI g) : fX9_moves N h (nI k) = some (nI (mvd w k g), h) := by
  obtain ⟨w1, w2, w3, w4, w5, w6, w7, w8⟩ := hw
  obtain ⟨h1, h2, h3, h4, h5, h6, h7, h8, h9⟩ := hF
  obtain ⟨h41, h42, h43, h44⟩ := h4 k hk
  obtain ⟨wk1, -, -, wk4, -⟩ := w3 k hk
  have hn0 : ¬ nI (np w) = 0 := by rw [show (0 : Int32) = nI 0 from rfl, nI_eq (by omega) (by omega)]; omega
  simp only [fX9_moves, fX9_moves_b66, lit_mul_nI, nI_add_lit]
  simp (disch := omega) only [ix_nI, nI_clamp, h41, h43, h1, hgap, hn0, Nat.reduceEqDiff, Nat.reduceAdd, Nat.reduceMul, Nat.reduceSub, Nat.reduceLeDiff, reduceIte, and_true, true_and, and_false, false_and, and_self, if_true, if_false, Bool.false_eq_true, not_true_eq_false, not_false_eq_true]
  by_cases c : kd w k = 4
  · rw [if_pos (by rw [c]; rfl)]
    unfold mvd
    rw [if_pos c, show (1 : Int32) = nI 1 from rfl, pk_sub (by omega), pk_sub (by omega)]
  · rw [if_neg (by rw [show (4 : Int32) = nI 4 from rfl, nI_eq (by omega) (by omega)]; exact c)]
    have hkd : kd w k < 4 := by omega
    have hs := w8 (kd w k) hkd
    simp (disch := omega) only [ix_nI, nI_clamp, h9 (kd w k) hkd, Nat.reduceEqDiff, Nat.reduceAdd, Nat.reduceMul, Nat.reduceSub, Nat.reduceLeDiff, reduceIte, and_true, true_and, and_false, false_and, and_self, if_true, if_false, Bool.false_eq_true, not_true_eq_false, not_false_eq_true]
    obtain ⟨m1, m2⟩ := mov_of hs.1 hs.2 (show 0 < np w by omega) w1 hg
    unfold mvd
    rw [if_neg c]
    by_cases c2 : en w k = 0
    · rw [if_pos (by rw [c2]; rfl), if_pos c2]
      exact congrArg (fun z => some (z, h)) m1
    · rw [if_neg (by rw [show (0 : Int32) = nI 0 from rfl, nI_eq (by omega) (by omega)]; exact c2), if_neg c2]
      exact congrArg (fun z => some (z, h)) m2
/-- what 'many' and 'longest' are behind a try -/
def mnyT (w : Wt) (k g : Nat) : Nat := if oc w k g = 0 then 0 else mny w (hvy w k) g (np w)
theorem gI_pos {w : Wt} (h : 0 < np w) (g : Nat) : gI w g = nI g := by unfold gI; rw [if_neg (by omega)]
theorem tries_eq {w : Wt} {h : pH} (hw : wok w) (hF : mF w h) {N : Nat} (hN : 1000 ≤ N) {k g : Nat} (hk : k < 100) (hg : gok w g) (hgap : h.1 49 19 = gI w g) :
    ∃ h', fX9_tries N h (nI k) = some (nI (oc w k g), h') ∧ K3 h h' ∧ h'.1 49 19 = gI w (mv w k g) ∧ h'.1 49 21 = nI (mnyT w k g) ∧ h'.1 49 22 = nI (rws w k g) := by
  have hK : K3 h (pw (pw h 49 21 0) 49 22 0) := ((K3.rf h).pw (by omega)).pw (by omega)
  have hF0 := hF.k3 hK
  have w1 := hw.1
  have w6 := hw.2.2.2.2.2.1
  have idle : ∀ (c : oc w k g = 0), ∃ h', some ((0 : Int32), pw (pw h 49 21 0) 49 22 0) = some (nI (oc w k g), h') ∧ K3 h h' ∧ h'.1 49 19 = gI w (mv w k g) ∧ h'.1 49 21 = nI (mnyT w k g) ∧ h'.1 49 22 = nI (rws w k g) := by
    intro c
    refine ⟨_, by rw [c]; rfl, hK, ?_, ?_, ?_⟩
    · simp [pw_at, hgap, mv, c]
    · simp [pw_at, mnyT, c]; rfl
    · simp [pw_at, rws, c]; rfl
  unfold fX9_tries fX9_tries_b35
  rw [if_pos ixc02, cl0, hF0.2.2.2.2.2.2.1, hF0.1]
  by_cases c1 : 2 ≤ rv w
  · rw [if_neg (by rw [show (2 : Int32) = nI 2 from rfl, nI_ltI (by omega) (by omega)]; omega)]
    by_cases c2 : np w = 0
    · rw [if_pos (by rw [c2]; rfl)]
      exact idle (by unfold oc; rw [if_neg (by omega)])
    · rw [if_neg (by rw [show (0 : Int32) = nI 0 from rfl, nI_eq (by omega) (by omega)]; exact c2), isCrosser_eq hw hF0 N (nI k), toInt_nI (by omega)]
      have hg : g < np w := by rcases hg with q | q <;> omega
      rw [gI_pos (by omega)] at hgap
      by_cases c3 : k < nk w
      · rw [if_pos (by omega)]
        simp only [Option.bind_some, show ¬ ((1 : Int32) = 0) by decide, if_false]
        obtain ⟨h1, e1, k1, k2, k3, k4⟩ := looks_eq hw hF0 hN c3 hg (by simp [pw_at, hgap])
        have hF1 := hF0.k3 k1
        have hl4 := (hF1.2.2.2.1 k c3).2.2.2
        have hl5 := (hw.2.2.1 k c3).2.2.2.2
        have hl6 := lgs_le w (hvy w k) g (np w)
        have hl7 := hw.2.1
        rw [e1]
        simp only [Option.bind_some, lit_mul_nI, nI_add_lit]
        rw [if_pos (ix_nI (by omega) (by omega)), nI_clamp (by omega), hl4, k4]
        by_cases c4 : lp w k < lgs w (hvy w k) g (np w)
        · rw [if_neg (by rw [nI_leI (by omega) (by omega)]; omega)]
          have e : oc w k g = 2 := by unfold oc; rw [if_pos ⟨c1, by omega, c3⟩, if_pos c4]
          refine ⟨h1, by rw [e]; rfl, hK.tr k1, ?_, ?_, ?_⟩
          · rw [k2, gI_pos (by omega)]; simp [mv, e]
          · rw [k3]; simp [mnyT, e]
          · rw [k4]; simp [rws, e]
        · rw [if_pos (by rw [nI_leI (by omega) (by omega)]; omega), moves_eq hw hF1 N c3 hg k2]
          have e : oc w k g = 1 := by unfold oc; rw [if_pos ⟨c1, by omega, c3⟩, if_neg c4]
          refine ⟨_, by rw [e]; rfl, (hK.tr k1).pw (by omega), ?_, ?_, ?_⟩
          · rw [gI_pos (by omega)]; simp [pw_at, mv, e]
          · simp [pw_at, k3, mnyT, e]
          · simp [pw_at, k4, rws, e]
      · rw [if_neg (by omega)]
        simp only [Option.bind_some, if_true]
        exact idle (by unfold oc; rw [if_neg (by omega)])
  · rw [if_pos (by rw [show (2 : Int32) = nI 2 from rfl, nI_ltI (by omega) (by omega)]; omega)]
    exact idle (by unfold oc; rw [if_neg (by omega)])
