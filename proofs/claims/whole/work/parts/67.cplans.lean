/-! ===== the class: worn, ahead, often, week, rule, began ===== -/
theorem vis_zero (N : Nat) : ∀ (d n i : Nat) (h : pH), i + d = 19 → d < n → (∀ p, p < i → h.1 29 p = 0) →
    ∃ h', fX8_countVisits_L2 N n h (nI i) = fX8_countVisits_L23 N N h' 0 ∧ Kq (fun a _ => a = 29) h h' ∧ ∀ p, p < 19 → h'.1 29 p = 0 := by
  intro d
  induction d with
  | zero =>
    intro n i h hi hn h1
    obtain ⟨n, rfl⟩ : ∃ m, n = m + 1 := ⟨n - 1, by omega⟩
    obtain rfl : i = 19 := by omega
    refine ⟨h, ?_, Kq.rf h, h1⟩
    show fX8_countVisits_B2 N (fX8_countVisits_L2 N n) h _ = _
    simp only [fX8_countVisits_B2]
    rw [if_pos (by decide)]
  | succ d ih =>
    intro n i h hi hn h1
    obtain ⟨n, rfl⟩ : ∃ m, n = m + 1 := ⟨n - 1, by omega⟩
    obtain ⟨h', e, k, q⟩ := ih n (i + 1) (pw h 29 i 0) (by omega) (by omega) (fun p hp => by
      simp only [pw_at, Nat.reduceEqDiff, Nat.reduceAdd, Nat.reduceMul, Nat.reduceSub, Nat.reduceLeDiff, reduceIte, and_true, true_and, and_false, false_and, and_self, if_true, if_false, Bool.false_eq_true, not_true_eq_false, not_false_eq_true]
      by_cases c : p = i
      · rw [if_pos c]
      · rw [if_neg c]; exact h1 p (by omega))
    refine ⟨h', ?_, ((Kq.rf h).pw (S := fun a _ => a = 29) rfl).tr k, q⟩
    rw [← e]
    show fX8_countVisits_B2 N (fX8_countVisits_L2 N n) h _ = _
    simp (disch := omega) only [fX8_countVisits_B2, ix_nI, nI_clamp, if_true, nI_1]
    rw [if_neg (by rw [show (19 : Int32) = nI 19 from rfl, nI_leI (by omega) (by omega)]; omega)]
theorem vis_loop {w : Wt} (hw : wok w) (N : Nat) : ∀ (d n i : Nat) (h : pH), i + d = nc w + 1 → d < n → cF w h → (∀ p, p < np w → h.1 29 p = nI (vis w p i)) →
    ∃ h', fX8_countVisits_L23 N n h (nI i) = some ((), h') ∧ Kq (fun a _ => a = 29) h h' ∧ ∀ p, p < np w → h'.1 29 p = nI (vis w p (nc w + 1)) := by
  have w1 := hw.1
  have w2 := hw.2.1
  have w4 := hw.2.2.2.1
  intro d
  induction d with
  | zero =>
    intro n i h hi hn hF h1
    obtain ⟨n, rfl⟩ : ∃ m, n = m + 1 := ⟨n - 1, by omega⟩
    obtain rfl : i = nc w + 1 := by omega
    refine ⟨h, ?_, Kq.rf h, h1⟩
    show fX8_countVisits_B23 N (fX8_countVisits_L23 N n) h _ = _
    simp only [fX8_countVisits_B23, hF.1.2.2.2.2.2.1]
    rw [if_pos (by rw [nI_ltI (by omega) (by omega)]; omega)]
  | succ d ih =>
    intro n i h hi hn hF h1
    obtain ⟨n, rfl⟩ : ∃ m, n = m + 1 := ⟨n - 1, by omega⟩
    have g1 : G w i < 19 := gok_lt w1 (G_ok w i)
    have step : ∀ h2, Kq (fun a _ => a = 29) h h2 → (∀ p, p < np w → h2.1 29 p = nI (vis w p (i + 1))) → fX8_countVisits_L23 N (n + 1) h (nI i) = fX8_countVisits_L23 N n h2 (nI (i + 1)) → ∃ h', fX8_countVisits_L23 N (n + 1) h (nI i) = some ((), h') ∧ Kq (fun a _ => a = 29) h h' ∧ ∀ p, p < np w → h'.1 29 p = nI (vis w p (nc w + 1)) := by
      intro h2 k2 q2 e2
      have hF2 : cF w h2 := ⟨hF.1.kq (k2.mono (fun a b z => by unfold SR; omega)) w2, fun j hj => by rw [k2 _ _ (by omega)]; exact hF.2 j hj⟩
      obtain ⟨h', e, k, q⟩ := ih n (i + 1) h2 (by omega) (by omega) hF2 q2
      exact ⟨h', e2.trans e, k2.tr k, q⟩
    have unf : fX8_countVisits_L23 N (n + 1) h (nI i) = fX8_countVisits_B23 N (fX8_countVisits_L23 N n) h (nI i) := rfl
    by_cases c : np w = 0
    · refine step h (Kq.rf h) (fun p hp => absurd hp (by omega)) ?_
      rw [unf]
      simp only [fX8_countVisits_B23, fX8_countVisits_b65, hF.1.2.2.2.2.2.1, has_eq hw hF.1.1, Option.bind_some, b2i, nI_1]
      have e0 : ix (h.1 26 i) (np w) = false := by
        cases c3 : ix (h.1 26 i) (np w)
        · rfl
        · have := ix_iff.mp c3; omega
      rw [if_neg (by rw [nI_ltI (by omega) (by omega)]; omega), if_pos (ix_nI (by omega) (by omega)), nI_clamp (by omega), e0, if_pos rfl]
    · have eg : h.1 26 i = nI (G w i) := by rw [hF.2 i (by omega), gI_pos (by omega)]
      have hg : G w i < np w := by rcases G_ok w i with z | z <;> omega
      refine step (pw h 29 (G w i) (nI (vis w (G w i) i + 1))) ((Kq.rf h).pw rfl) (fun p hp => ?_) ?_
      · simp only [pw_at, true_and]
        rw [show vis w p (i + 1) = vis w p i + (if G w i = p then 1 else 0) from rfl]
        by_cases c2 : p = G w i
        · rw [if_pos c2, if_pos c2.symm, c2]
        · rw [if_neg c2, if_neg (fun z => c2 z.symm)]; exact h1 p hp
      · rw [unf]
        simp only [fX8_countVisits_B23, fX8_countVisits_b65, hF.1.2.2.2.2.2.1, has_eq hw hF.1.1, Option.bind_some, b2i, nI_1]
        rw [if_neg (by rw [nI_ltI (by omega) (by omega)]; omega), if_pos (ix_nI (by omega) (by omega)), nI_clamp (by omega), eg, ix_nI hg (by omega), if_neg (by decide), if_pos (ix_nI (by omega) (by omega)), if_pos (ix_nI (by omega) (by omega)), if_pos (ix_nI (by omega) (by omega)), nI_clamp (by omega), h1 _ hg, nI_1]
theorem cworn_loop {w : Wt} {h : pH} (hw : wok w) (h93 : h.1 9 3 = nI (np w)) (hv : ∀ p, p < np w → h.1 29 p = nI (vis w p (nc w + 1))) (N : Nat) : ∀ (d n p : Nat), p + d = np w → d < n →
    fX8_worn_L14 N n h (wrn w p).1 (nI (wrn w p).2) (nI p) = some ((wrn w (np w)).1, h) := by
  have w1 := hw.1
  have w4 := hw.2.2.2.1
  intro d
  induction d with
  | zero =>
    intro n p hp hn
    obtain ⟨n, rfl⟩ : ∃ m, n = m + 1 := ⟨n - 1, by omega⟩
    obtain rfl : p = np w := by omega
    show fX8_worn_B14 N (fX8_worn_L14 N n) h _ _ _ = _
    simp only [fX8_worn_B14, h93]
    rw [if_pos (Int32.le_refl _)]
  | succ d ih =>
    intro n p hp hn
    obtain ⟨n, rfl⟩ : ∃ m, n = m + 1 := ⟨n - 1, by omega⟩
    have e := ih n (p + 1) (by omega) (by omega)
    have q1 := vis_le w p (nc w + 1)
    have q2 := wrn_le w4 p
    rw [← e]
    show fX8_worn_B14 N (fX8_worn_L14 N n) h _ _ _ = _
    simp (disch := omega) only [fX8_worn_B14, fX8_worn_b44, h93, nI_leI, ix_nI, nI_clamp, if_true, nI_1, hv p (by omega), wrn]
    rw [if_neg (by omega)]
    by_cases c : (wrn w p).2 < vis w p (nc w + 1)
    · rw [if_neg (by omega), if_pos c, Nat.max_eq_left (by omega)]
    · rw [if_pos (by omega), if_neg c, Nat.max_eq_right (by omega)]
theorem c_worn {σ : St} {h : pH} (hS : Sok σ) (hC : Ci σ h) {N : Nat} (hN : 1000 ≤ N) : ∃ h', fX8_worn N h = some (a_worn σ, h') ∧ Co σ h h' := by
  have hw := wok_of hS
  have w1 := hw.1
  have w2 := hw.2.1
  have w4 := hw.2.2.2.1
  obtain ⟨h1, e1, f1, k1⟩ := fresh_eq hS hC hN
  obtain ⟨h2, e2, k2, q2⟩ := vis_zero N 19 N 0 h1 (by omega) (by omega) (fun p hp => absurd hp (by omega))
  have f2 : Fr σ h2 := f1.kq w2 (k2.mono (fun a b z => by unfold SV; omega))
  obtain ⟨h3, e3, k3, q3⟩ := vis_loop hw N (nc (wOf σ) + 1) N 0 h2 (by omega) (by omega) f2.2.2.1 (fun p hp => by rw [q2 p (by omega)]; rfl)
  have f3 : Fr σ h3 := f2.kq w2 (k3.mono (fun a b z => by unfold SV; omega))
  have e4 := cworn_loop hw f3.2.2.1.1.1 q3 N (np (wOf σ)) N 0 (by omega) (by omega)
  refine ⟨h3, ?_, Co.fr f3 ((k1.tr (k2.mono (fun a b z => by unfold SQ; omega))).tr (k3.mono (fun a b z => by unfold SQ; omega)))⟩
  rw [fX8_worn, e1]
  simp only [Option.bind_some]
  rw [show fX8_countVisits N h1 = some ((), h3) from e2.trans e3]
  exact e4
theorem gAll_eq {w : Wt} {h : pH} (hw : wok w) (hF : cF w h) (N : Nat) : fX8_gapBehindAll N h = some (gI w (gE w), h) := by
  have w4 := hw.2.2.2.1
  simp only [fX8_gapBehindAll, hF.1.2.2.2.2.2.1]
  rw [if_pos (ix_nI (by omega) (by omega)), nI_clamp (by omega), hF.2 _ (Nat.le_refl _)]
  rfl
theorem cahead_loop {w : Wt} {h : pH} (hw : wok w) (hF : cF0 w h) (hsh : ∀ j, j < 4 → h.1 10 j = sI (sh w j)) (N : Nat) {k : Nat} (hk : k < nk w) : ∀ (d n q : Nat), q + d = nk w → d < n →
    fX8_ahead_L44 N n h (nI k) (rfk w k) (gI w (gE w)) (nI q) = some (if ffr (ahp w k) d q = nk w then -1 else nI (ffr (ahp w k) d q), h) := by
  have w2 := hw.2.1
  intro d
  induction d with
  | zero =>
    intro n q hq hn
    obtain ⟨n, rfl⟩ : ∃ m, n = m + 1 := ⟨n - 1, by omega⟩
    obtain rfl : q = nk w := by omega
    show fX8_ahead_B44 N (fX8_ahead_L44 N n) h _ _ _ _ = _
    simp only [fX8_ahead_B44, hF.2.2.2.1, ffr, if_true]
    rw [if_pos (Int32.le_refl _)]
  | succ d ih =>
    intro n q hq hn
    obtain ⟨n, rfl⟩ : ∃ m, n = m + 1 := ⟨n - 1, by omega⟩
    have e := ih n (q + 1) (by omega) (by omega)
    show fX8_ahead_B44 N (fX8_ahead_L44 N n) h _ _ _ _ = _
    simp only [fX8_ahead_B44, fX8_ahead_b105, hF.2.2.2.1, at_n hw hF.2.2.2.1 N (show q < 1000 by omega), Option.bind_some, behind_I hw hF N (Or.inl rfl) hsh (gE_ok w), outcome_eq hw hF N (mv_ok (gE_ok w)) (gx_I w _), nI_1]
    rw [if_neg (by rw [nI_leI (by omega) (by omega)]; omega)]
    have q4 := oc_le w k (mv w q (gE w))
    by_cases c : q = k
    · have hp : ahp w k q = true := by simp [ahp, c]
      rw [if_pos (by rw [c]), e]
      simp only [ffr, hp, if_true]
    · rw [if_neg (by rw [nI_eq (by omega) (by omega)]; exact c)]
      by_cases c2 : oc w k (mv w q (gE w)) = 1
      · have hp : ahp w k q = false := by simp [ahp, c, c2]
        rw [if_pos (by rw [c2]; rfl)]
        simp only [ffr, hp, Bool.false_eq_true, if_false]
        rw [if_neg (by omega)]
      · have hp : ahp w k q = true := by simp [ahp, c2]
        rw [if_neg (by rw [show (1 : Int32) = nI 1 from rfl, nI_eq (by omega) (by omega)]; exact c2), e]
        simp only [ffr, hp, if_true]
theorem c_ahead {σ : St} {h : pH} (hS : Sok σ) (hC : Ci σ h) {N : Nat} (hN : 1000 ≤ N) (x : Int32) : ∃ h', fX8_ahead N h x = some (a_ahead σ x, h') ∧ Co σ h h' := by
  have hw := wok_of hS
  have w2 := hw.2.1
  obtain ⟨h1, e1, f1, k1⟩ := fresh_eq hS hC hN
  refine ⟨h1, ?_, Co.fr f1 k1⟩
  have hF := f1.2.2.1
  simp only [fX8_ahead, e1, Option.bind_some, at_eq hw hF.1.2.2.2.1, a_ahead]
  cases c : ix x (nk (wOf σ))
  · simp
  · obtain ⟨k, hk, rfl⟩ := ix_of c (by omega)
    have er : 16 + k = rfk (wOf σ) k := by unfold rfk; rw [if_pos hk]
    simp only [if_true, nI_clamp (show k < 2 ^ 31 by omega)]
    rw [if_neg (by omega), gAll_eq hw hF]
    simp only [Option.bind_some]
    rw [er, outcome_eq hw hF.1 N (gE_ok _) (gx_I _ _)]
    simp only [Option.bind_some]
    have q4 := oc_le (wOf σ) k (gE (wOf σ))
    unfold ahd
    by_cases c : oc (wOf σ) k (gE (wOf σ)) = 1
    · rw [if_pos (by rw [c]; rfl), if_pos c]
    · rw [if_neg (by rw [show (1 : Int32) = nI 1 from rfl, nI_eq (by omega) (by omega)]; exact c), if_neg c]
      exact cahead_loop hw hF.1 f1.1.2.2.2.2.1 N hk (nk (wOf σ)) N 0 (by omega) (by omega)
theorem coften_loop {w : Wt} {h : pH} (hw : wok w) (hF : cF0 w h) (hsh : ∀ j, j < 4 → h.1 10 j = sI (sh w j)) (N : Nat) {k q : Nat} : ∀ (d n i : Nat), i + d = 10 → d < n →
    fX8_often_L49 N n h (rfk w k) (rfk w q) (gI w (itg w q (gE w) i)) (nI i) = some (if ffr (ofp w k q) d i = 10 then -1 else nI (ffr (ofp w k q) d i), h) := by
  intro d
  induction d with
  | zero =>
    intro n i hi hn
    obtain ⟨n, rfl⟩ : ∃ m, n = m + 1 := ⟨n - 1, by omega⟩
    obtain rfl : i = 10 := by omega
    show fX8_often_B49 N (fX8_often_L49 N n) h _ _ _ _ = _
    simp only [fX8_often_B49, ffr, if_true]
    rw [if_pos (by decide)]
  | succ d ih =>
    intro n i hi hn
    obtain ⟨n, rfl⟩ : ∃ m, n = m + 1 := ⟨n - 1, by omega⟩
    have e := ih n (i + 1) (by omega) (by omega)
    have q4 := oc_le w k (itg w q (gE w) i)
    show fX8_often_B49 N (fX8_often_L49 N n) h _ _ _ _ = _
    simp only [fX8_often_B49, outcome_eq hw hF N (itg_ok (gE_ok w) i) (gx_I w _), Option.bind_some, behind_I hw hF N (Or.inl rfl) hsh (itg_ok (gE_ok w) i), nI_1]
    rw [if_neg (by rw [show (9 : Int32) = nI 9 from rfl, nI_ltI (by omega) (by omega)]; omega)]
    by_cases c : oc w k (itg w q (gE w) i) = 1
    · have hp : ofp w k q i = false := by simp [ofp, c]
      rw [if_pos (by rw [c]; rfl)]
      simp only [ffr, hp, Bool.false_eq_true, if_false]
      rw [if_neg (by omega)]
    · have hp : ofp w k q i = true := by simp [ofp, c]
      rw [if_neg (by rw [show (1 : Int32) = nI 1 from rfl, nI_eq (by omega) (by omega)]; exact c)]
      simp only [ffr, hp, if_true]
      exact e
theorem c_often {σ : St} {h : pH} (hS : Sok σ) (hC : Ci σ h) {N : Nat} (hN : 1000 ≤ N) (x y : Int32) : ∃ h', fX8_often N h x y = some (a_often σ x y, h') ∧ Co σ h h' := by
  have hw := wok_of hS
  have w2 := hw.2.1
  obtain ⟨h1, e1, f1, k1⟩ := fresh_eq hS hC hN
  refine ⟨h1, ?_, Co.fr f1 k1⟩
  have hF := f1.2.2.1
  simp only [fX8_often, fX8_often_b37, e1, Option.bind_some, at_eq hw hF.1.2.2.2.1, a_often]
  cases c : ix x (nk (wOf σ))
  · simp
  · obtain ⟨k, hk, rfl⟩ := ix_of c (by omega)
    have er : 16 + k = rfk (wOf σ) k := by unfold rfk; rw [if_pos hk]
    simp only [if_true, nI_clamp (show k < 2 ^ 31 by omega), true_and]
    rw [if_neg (by omega)]
    cases c2 : ix y (nk (wOf σ))
    · simp
    · obtain ⟨q, hq, rfl⟩ := ix_of c2 (by omega)
      have er2 : 16 + q = rfk (wOf σ) q := by unfold rfk; rw [if_pos hq]
      simp only [if_true, nI_clamp (show q < 2 ^ 31 by omega), true_and]
      rw [if_neg (by omega)]
      by_cases c3 : nI k = nI q
      · rw [if_pos c3, if_neg (fun z => z c3)]
      · rw [if_neg c3, if_pos c3, gAll_eq hw hF, er, er2]
        exact coften_loop hw hF.1 f1.1.2.2.2.2.1 N (k := k) (q := q) 10 N 0 (by omega) (by omega)
theorem cweek_loop {w : Wt} {h : pH} (hw : wok w) (hF : cF0 w h) (hsh : ∀ j, j < 4 → h.1 10 j = sI (sh w j)) (N : Nat) (s : Int32) {m y : Nat} (hm : m < 100) (hy : y < 2) (hk : 0 < nk w) : ∀ (d n i : Nat), i + d = m → d < n →
    fX8_week_L41 N n h (nI m) (nI y) (gI w (wkG w s i)) (nI (wkC w s i)) (lotN s i) (nI i) = some (if y = 0 then gI w (wkG w s m) else nI (wkC w s m), h) := by
  have w2 := hw.2.1
  intro d
  induction d with
  | zero =>
    intro n i hi hn
    obtain ⟨n, rfl⟩ : ∃ m, n = m + 1 := ⟨n - 1, by omega⟩
    obtain rfl : i = m := by omega
    show fX8_week_B41 N (fX8_week_L41 N n) h _ _ _ _ _ _ = _
    simp (disch := omega) only [fX8_week_B41, fX8_week_b134, fX8_week_b145, nI_eq_lit]
    rw [if_pos (Int32.le_refl _)]
    by_cases c : y = 0
    · rw [if_pos c, if_pos c]
    · rw [if_neg c, if_neg c]
  | succ d ih =>
    intro n i hi hn
    obtain ⟨n, rfl⟩ : ∃ m, n = m + 1 := ⟨n - 1, by omega⟩
    have e := ih n (i + 1) (by omega) (by omega)
    rw [← e]
    have hn0 : ¬ nI (nk w) = 0 := by rw [show (0 : Int32) = nI 0 from rfl, nI_eq (by omega) (by omega)]; omega
    have hlt : (lotN s (i + 1)).toBitVec.toNat < 2 ^ 32 := (lotN s (i + 1)).toBitVec.isLt
    have hpk := pick_lt (w := w) hk (lotN s (i + 1))
    have q4 := oc_le w (pick w (lotN s (i + 1))) (wkG w s i)
    show fX8_week_B41 N (fX8_week_L41 N n) h _ _ _ _ _ _ = _
    simp only [fX8_week_B41, fX8_week_b108, hF.2.2.2.1]
    rw [if_neg (by rw [nI_leI (by omega) (by omega)]; omega), if_neg (by rw [show (0 : Int32) = nI 0 from rfl, nI_leI (by omega) (by omega)]; omega), if_pos hn0, show (1103515245 : Int32) * lotN s i + 12345 = lotN s (i + 1) from rfl, ush16, nI_rem (by omega) (by omega) (by omega)]
    rw [show (lotN s (i + 1)).toBitVec.toNat / 65536 % nk w = pick w (lotN s (i + 1)) from rfl, at_n hw hF.2.2.2.1 N (show pick w (lotN s (i + 1)) < 1000 by omega)]
    simp only [Option.bind_some, outcome_eq hw hF N (wkG_ok w s i) (gx_I w _), behind_I hw hF N (Or.inl rfl) hsh (wkG_ok w s i), nI_1]
    rw [show wkC w s (i + 1) = wkC w s i + (if oc w (pick w (lotN s (i + 1))) (wkG w s i) = 1 then 1 else 0) from rfl]
    by_cases c : oc w (pick w (lotN s (i + 1))) (wkG w s i) = 1
    · rw [if_pos (by rw [c]; rfl), if_pos c]; rfl
    · rw [if_neg (by rw [show (1 : Int32) = nI 1 from rfl, nI_eq (by omega) (by omega)]; exact c), if_neg c]; rfl
theorem c_week {σ : St} {h : pH} (hS : Sok σ) (hC : Ci σ h) {N : Nat} (hN : 1000 ≤ N) (s n y : Int32) : ∃ h', fX8_week N h s n y = some (a_week σ s n y, h') ∧ Co σ h h' := by
  have hw := wok_of hS
  have w2 := hw.2.1
  simp only [fX8_week, fX8_week_b19, within_eq N h n 1 99, Option.bind_some, a_week]
  by_cases c : nI 1 ≤ n ∧ n ≤ nI 99
  · have c' : (1 : Int32) ≤ n ∧ n ≤ 99 := c
    simp only [c', and_self, if_true, wi_ix N h y 1 (by decide), Option.bind_some, b2i, show ¬ ((1 : Int32) = 0) by decide, if_false, true_and]
    cases c2 : ix y 2
    · exact ⟨h, by simp, Co.rf hC⟩
    · obtain ⟨h1, e1, f1, k1⟩ := fresh_eq hS hC hN
      refine ⟨h1, ?_, Co.fr f1 k1⟩
      have hF := f1.2.2.1
      obtain ⟨j, hj, rfl⟩ := ix_of c2 (by decide)
      obtain ⟨i, hi, rfl⟩ := rng_of (x := n) (n := 99) (by decide) ⟨Int32.le_trans (by decide) c.1, c.2⟩
      have cc : nI 1 ≤ nI i ∧ nI i ≤ nI 99 := c
      simp only [Bool.true_eq_false, if_false, e1, Option.bind_some, gAll_eq hw hF N, cc, and_self, if_true, nI_clamp (show i < 2 ^ 31 by omega), nI_clamp (show j < 2 ^ 31 by omega)]
      unfold wkA wkN
      by_cases c3 : nk (wOf σ) = 0
      · rw [if_pos c3]
        obtain ⟨N, rfl⟩ : ∃ m, N = m + 1 := ⟨N - 1, by omega⟩
        show fX8_week_B41 (N + 1) (fX8_week_L41 (N + 1) N) h1 _ _ _ _ _ _ = _
        simp only [fX8_week_B41, fX8_week_b134, fX8_week_b145, hF.1.2.2.2.1, c3]
        rw [if_pos (show nI 0 ≤ 0 by decide)]
        have ee : ∀ z : Option (Int32 × pH), (if nI i ≤ 0 then z else z) = z := fun z => by split <;> rfl
        rw [ee]
        rcases (show j = 0 ∨ j = 1 by omega) with rfl | rfl
        · rw [if_pos (by decide), if_pos rfl]; rfl
        · rw [if_neg (by decide), if_neg (by decide)]; rfl
      · rw [if_neg c3]
        exact cweek_loop hw hF.1 f1.1.2.2.2.2.1 N s (m := i) (y := j) (by omega) hj (by omega) i N 0 (by omega) (by omega)
  · have c' : ¬ ((1 : Int32) ≤ n ∧ n ≤ 99) := c
    refine ⟨h, ?_, Co.rf hC⟩
    simp only [c, c', if_false, false_and, if_true]
