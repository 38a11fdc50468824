/-! ===== the reference: ask is always 0 ===== -/
/-- of the places below P in 'some': how many have the gap on q behind n crossings -/
def al (w : Wt) (some n q : Nat) : Nat → Nat
  | 0 => 0
  | p + 1 => al w some n q p + (if some.testBit p = true ∧ G (wBg w p) n = q then 1 else 0)
theorem al_le (w : Wt) (some n q : Nat) : ∀ p, al w some n q p ≤ p
  | 0 => Nat.le_refl _
  | p + 1 => by have := al_le w some n q p; unfold al; split <;> omega
theorem al_pos {w : Wt} {some n p : Nat} (hs : some.testBit p = true) : ∀ {P : Nat}, p < P → 0 < al w some n (G (wBg w p) n) P
  | 0, h => absurd h (Nat.not_lt_zero _)
  | P + 1, h => by
    unfold al
    rcases Nat.lt_or_ge p P with q | q
    · have := al_pos (w := w) (n := n) hs q; omega
    · obtain rfl : p = P := by omega
      rw [if_pos ⟨hs, rfl⟩]; omega
theorem al_none {w : Wt} {some n q : Nat} : ∀ {P : Nat}, (∀ p, p < P → some.testBit p = false) → al w some n q P = 0
  | 0, _ => rfl
  | P + 1, h => by
    unfold al
    rw [al_none (fun p hp => h p (by omega)), if_neg (fun z => by rw [h P (by omega)] at z; cases z.1)]
theorem al_0 {w : Wt} {some q : Nat} : ∀ {P : Nat}, P ≤ np w → al w some 0 q P ≤ if q < P then 1 else 0
  | 0, _ => Nat.le_refl _
  | P + 1, h => by
    have ih := al_0 (w := w) (some := some) (q := q) (P := P) (by omega)
    have e : G (wBg w P) 0 = P := by
      show (if np w = 0 then 0 else P % np w) = P
      rw [if_neg (by omega), Nat.mod_eq_of_lt (by omega)]
    unfold al
    rw [e]
    split at ih
    · rw [if_neg (fun z => by omega), if_pos (by omega)]; omega
    · by_cases c : P = q
      · rw [if_pos (show q < P + 1 by omega)]; split <;> omega
      · rw [if_neg (fun z => c z.2), if_neg (by omega)]; omega
/-- the most of a row of 19 -/
def mxr (f : Nat → Nat) : Nat → Nat
  | 0 => 0
  | p + 1 => max (f p) (mxr f p)
theorem mxr_ge {f : Nat → Nat} {q : Nat} : ∀ {p : Nat}, q < p → f q ≤ mxr f p
  | 0, h => absurd h (Nat.not_lt_zero _)
  | p + 1, h => by
    unfold mxr
    rcases Nat.lt_or_ge q p with z | z
    · have := mxr_ge (f := f) z; omega
    · obtain rfl : q = p := by omega
      omega
theorem mxr_le {f : Nat → Nat} {c : Nat} : ∀ {p : Nat}, (∀ q, q < p → f q ≤ c) → mxr f p ≤ c
  | 0, _ => Nat.zero_le _
  | p + 1, h => by
    unfold mxr
    have h1 := mxr_le (f := f) (c := c) (p := p) (fun q hq => h q (by omega))
    have h2 := h p (by omega)
    omega
def mst (w : Wt) (some n : Nat) : Nat := mxr (fun q => al w some n q (np w)) 19
theorem mst_ge {w : Wt} (hw : wok w) (some n : Nat) : mst w some 0 ≤ mst w some n := by
  have w1 := hw.1
  by_cases c : ∃ p, p < np w ∧ some.testBit p = true
  · obtain ⟨p, hp, hs⟩ := c
    have h0 : mst w some 0 ≤ 1 := mxr_le (fun q hq => by
      have := al_0 (w := w) (some := some) (q := q) (P := np w) (Nat.le_refl _)
      split at this <;> omega)
    have h1 := al_pos (w := w) (n := n) hs hp
    have h2 : G (wBg w p) n < 19 := gok_lt (w := wBg w p) w1 (Gm_ok (wBg w p) _ n)
    have h3 := mxr_ge (f := fun q => al w some n q (np w)) (p := 19) h2
    have h4 : al w some n (G (wBg w p) n) (np w) ≤ mst w some n := h3
    omega
  · have h0 : mst w some 0 ≤ 0 := mxr_le (fun q hq => by
      have := al_none (w := w) (some := some) (n := 0) (q := q) (P := np w) (fun p hp => by
        cases z : some.testBit p
        · rfl
        · exact absurd ⟨p, hp, z⟩ c)
      omega)
    omega
theorem mst_le {w : Wt} (hw : wok w) (some n : Nat) : mst w some n ≤ 19 := mxr_le (fun q hq => by have := al_le w some n q (np w); have := hw.1; omega)
def SA (a b : Nat) : Prop := S7 a b ∨ a = 68
theorem SA_SM {a b : Nat} (h : SA a b) : SM a b := by unfold SA S7 at h; unfold SM; omega
/-- the counting rows, below P whole, at P those below N -/
def Al (w : Wt) (some P M : Nat) (h : pH) : Prop := ∀ n q, n ≤ nc w → q < 19 → h.1 68 (19 * n + q) = nI (al w some n q P + (if n < M ∧ some.testBit P = true ∧ G (wBg w P) n = q then 1 else 0))
theorem ask_zero (N : Nat) (K : Int32 → Int32 → pH → Option (Int32 × pH)) (x1 x2 : Int32) : ∀ (d n i : Nat) (h : pH), i + d = 475 → d < n → (∀ j, j < i → h.1 68 j = 0) →
    ∃ h', fX9_askNow_L14 N n h x1 x2 (nI i) = fX9_askNow_L36 N N h' x1 x2 0 ∧ Kp (fun a _ => a = 68) h h' ∧ ∀ j, j < 475 → h'.1 68 j = 0 := by
  intro d
  induction d with
  | zero =>
    intro n i h hi hn h0
    obtain ⟨n, rfl⟩ : ∃ m, n = m + 1 := ⟨n - 1, by omega⟩
    obtain rfl : i = 475 := by omega
    refine ⟨h, ?_, Kp.rf h, h0⟩
    show fX9_askNow_B14 N (fX9_askNow_L14 N n) h _ _ _ = _
    simp only [fX9_askNow_B14]
    rw [if_pos (by decide)]
  | succ d ih =>
    intro n i h hi hn h0
    obtain ⟨n, rfl⟩ : ∃ m, n = m + 1 := ⟨n - 1, by omega⟩
    obtain ⟨h', e, k, z⟩ := ih n (i + 1) (pw h 68 i 0) (by omega) (by omega) (fun j hj => by
      simp only [pw_at, true_and]
      by_cases c : j = i
      · rw [if_pos c]
      · rw [if_neg c]; exact h0 j (by omega))
    have k0 : Kp (fun a _ => a = 68) h (pw h 68 i 0) := (Kp.rf h).pw rfl
    refine ⟨h', ?_, k0.tr k, z⟩
    rw [← e]
    show fX9_askNow_B14 N (fX9_askNow_L14 N n) h _ _ _ = _
    simp (disch := omega) only [fX9_askNow_B14, ix_nI, nI_clamp, if_true, nI_add_lit]
    rw [if_neg (by rw [show (475 : Int32) = nI 475 from rfl, nI_leI (by omega) (by omega)]; omega)]
theorem Al.up {w : Wt} {some P : Nat} {h : pH} (hA : Al w some P (nc w + 1) h) : Al w some (P + 1) 0 h := by
  intro n q hn hq
  have := hA n q hn hq
  rw [this, show al w some n q (P + 1) = al w some n q P + (if some.testBit P = true ∧ G (wBg w P) n = q then 1 else 0) from rfl]
  congr 1
  rw [if_neg (show ¬ (n < 0 ∧ _) from fun z => absurd z.1 (by omega))]
  by_cases c : some.testBit P = true ∧ G (wBg w P) n = q
  · rw [if_pos c, if_pos ⟨by omega, c⟩]
  · rw [if_neg c, if_neg (fun z => c z.2)]
theorem Al.skip {w : Wt} {some P : Nat} {h : pH} (hA : Al w some P 0 h) (hb : some.testBit P = false) : Al w some (P + 1) 0 h := by
  intro n q hn hq
  have := hA n q hn hq
  rw [this, show al w some n q (P + 1) = al w some n q P + (if some.testBit P = true ∧ G (wBg w P) n = q then 1 else 0) from rfl]
  congr 1
  rw [if_neg (show ¬ (n < 0 ∧ _) from fun z => absurd z.1 (by omega)), if_neg (fun z => by rw [hb] at z; cases z.1), if_neg (show ¬ (n < 0 ∧ _) from fun z => absurd z.1 (by omega))]
theorem ask_in {w : Wt} (hw : wok w) (N : Nat) (K36 : pH → Int32 → Int32 → Int32 → Option (Int32 × pH)) (x1 x2 : Int32) {some P : Nat} (hb : some.testBit P = true) (hP : P < np w) : ∀ (d n M : Nat) (h : pH), M + d = nc w + 1 → d < n → h.1 49 11 = nI (nc w) → (∀ j, j ≤ nc w → h.1 61 j = nI (G (wBg w P) j)) → Al w some P M h →
    ∃ h', fX9_askNow_L66 N K36 n h x1 x2 (nI P) (nI M) = K36 h' x1 x2 (nI (P + 1)) ∧ Kp (fun a _ => a = 68) h h' ∧ Al w some (P + 1) 0 h' := by
  have w1 := hw.1
  have w4 := hw.2.2.2.1
  intro d
  induction d with
  | zero =>
    intro n M h hM hn h1 h2 hA
    obtain ⟨n, rfl⟩ : ∃ m, n = m + 1 := ⟨n - 1, by omega⟩
    obtain rfl : M = nc w + 1 := by omega
    refine ⟨h, ?_, Kp.rf h, hA.up⟩
    show fX9_askNow_B66 N K36 (fX9_askNow_L66 N K36 n) h _ _ _ _ = _
    simp (disch := omega) only [fX9_askNow_B66, fX9_askNow_b103, h1, nI_ltI, nI_add_lit]
    rw [if_pos (by omega)]
  | succ d ih =>
    intro n M h hM hn h1 h2 hA
    obtain ⟨n, rfl⟩ : ∃ m, n = m + 1 := ⟨n - 1, by omega⟩
    have hg := h2 M (by omega)
    have hg2 : G (wBg w P) M < 19 := gok_lt (w := wBg w P) w1 (Gm_ok (wBg w P) _ M)
    have ha := hA M _ (by omega) hg2
    rw [if_neg (fun z => absurd z.1 (by omega)), Nat.add_zero] at ha
    have hal := al_le w some M (G (wBg w P) M) P
    have k0 : Kp (fun a _ => a = 68) h (pw h 68 (19 * M + G (wBg w P) M) (nI (al w some M (G (wBg w P) M) P + 1))) := (Kp.rf h).pw rfl
    obtain ⟨h', e, k, z⟩ := ih n (M + 1) (pw h 68 (19 * M + G (wBg w P) M) (nI (al w some M (G (wBg w P) M) P + 1))) (by omega) (by omega) (by simp only [pw_at, Nat.reduceEqDiff, Nat.reduceAdd, Nat.reduceMul, Nat.reduceSub, Nat.reduceLeDiff, reduceIte, and_true, true_and, and_false, false_and, and_self, if_true, if_false, Bool.false_eq_true, not_true_eq_false, not_false_eq_true]; exact h1) (fun j hj => by simp only [pw_at, Nat.reduceEqDiff, Nat.reduceAdd, Nat.reduceMul, Nat.reduceSub, Nat.reduceLeDiff, reduceIte, and_true, true_and, and_false, false_and, and_self, if_true, if_false, Bool.false_eq_true, not_true_eq_false, not_false_eq_true]; exact h2 j hj) (fun i q hi hq => by
      simp only [pw_at, true_and]
      by_cases c : 19 * i + q = 19 * M + G (wBg w P) M
      · have e1 : i = M := by omega
        have e2 : q = G (wBg w P) M := by omega
        rw [if_pos c, e1, e2, if_pos ⟨by omega, hb, rfl⟩]
      · rw [if_neg c, hA i q hi hq]
        congr 2
        by_cases c2 : i < M ∧ some.testBit P = true ∧ G (wBg w P) i = q
        · rw [if_pos c2, if_pos ⟨by omega, c2.2⟩]
        · rw [if_neg c2, if_neg (fun z => by
            rcases Nat.lt_or_ge i M with y | y
            · exact c2 ⟨y, z.2⟩
            · have e1 : i = M := by omega
              rw [e1] at z c
              exact c (by rw [z.2.2]))])
    refine ⟨h', ?_, k0.tr k, z⟩
    rw [← e]
    show fX9_askNow_B66 N K36 (fX9_askNow_L66 N K36 n) h _ _ _ _ = _
    simp (disch := omega) only [fX9_askNow_B66, h1, nI_ltI, ix_nI, nI_clamp, if_true, nI_add_lit, lit_mul_nI, hg, nI_add, ha]
    rw [if_neg (by omega)]
theorem ask_max {w : Wt} (hw : wok w) {some : Nat} {h : pH} (hA : Al w some (np w) 0 h) (N : Nat) (K : pH → Int32 → Int32 → Int32 → Option (Int32 × pH)) (x3 x4 : Int32) {i : Nat} (hi : i ≤ nc w) : ∀ (d n p : Nat), p + d = 19 → d < n →
    fX9_askNow_L139 N K n h x3 x4 (nI i) (nI (mxr (fun q => al w some i q (np w)) p)) (nI p) = (if x3 = -1 then fX9_askNow_b184 N K h x3 x4 (nI i) (nI (mst w some i)) else if x4 ≤ nI (mst w some i) then fX9_askNow_b189 N K h x3 x4 (nI i) (nI (mst w some i)) 0 else fX9_askNow_b184 N K h x3 x4 (nI i) (nI (mst w some i))) := by
  have w1 := hw.1
  have w4 := hw.2.2.2.1
  intro d
  induction d with
  | zero =>
    intro n p hp hn
    obtain ⟨n, rfl⟩ : ∃ m, n = m + 1 := ⟨n - 1, by omega⟩
    obtain rfl : p = 19 := by omega
    show fX9_askNow_B139 N K (fX9_askNow_L139 N K n) h _ _ _ _ _ = _
    simp only [fX9_askNow_B139]
    rw [if_pos (by decide)]
    rfl
  | succ d ih =>
    intro n p hp hn
    obtain ⟨n, rfl⟩ : ∃ m, n = m + 1 := ⟨n - 1, by omega⟩
    have ha := hA i p hi (by omega)
    rw [if_neg (fun z => absurd z.1 (by omega)), Nat.add_zero] at ha
    have hal := al_le w some i p (np w)
    have hmx : mxr (fun q => al w some i q (np w)) p ≤ 19 := mxr_le (fun q _ => by have := al_le w some i q (np w); omega)
    have e := ih n (p + 1) (by omega) (by omega)
    rw [← e]
    show fX9_askNow_B139 N K (fX9_askNow_L139 N K n) h _ _ _ _ _ = _
    simp (disch := omega) only [fX9_askNow_B139, ix_nI, nI_clamp, if_true, nI_add_lit, lit_mul_nI, nI_add, ha, greater_eq, Option.bind_some]
    rw [if_neg (by rw [show (19 : Int32) = nI 19 from rfl, nI_leI (by omega) (by omega)]; omega)]
    rfl
theorem ask_out {w : Wt} (hw : wok w) {some : Nat} {h : pH} (hnc : h.1 49 11 = nI (nc w)) (hA : Al w some (np w) 0 h) {N : Nat} (hN : 1000 ≤ N) : ∀ (d n i : Nat), i + d = nc w + 1 → d < n →
    fX9_askNow_L124 N n h (if i = 0 then -1 else 0) (if i = 0 then 0 else nI (mst w some 0)) (nI i) = Option.some (if i + d = 0 then -1 else 0, h) := by
  have w4 := hw.2.2.2.1
  intro d
  induction d with
  | zero =>
    intro n i hi hn
    obtain ⟨n, rfl⟩ : ∃ m, n = m + 1 := ⟨n - 1, by omega⟩
    obtain rfl : i = nc w + 1 := by omega
    show fX9_askNow_B124 N (fX9_askNow_L124 N n) h _ _ _ = _
    simp (disch := omega) only [fX9_askNow_B124, hnc, nI_ltI]
    rw [if_pos (by omega)]
  | succ d ih =>
    intro n i hi hn
    obtain ⟨n, rfl⟩ : ∃ m, n = m + 1 := ⟨n - 1, by omega⟩
    have hm0 := mst_le hw some 0
    have hmi := mst_le hw some i
    have hge := mst_ge hw some i
    have e := ih n (i + 1) (by omega) (by omega)
    rw [if_neg (show ¬ i + 1 = 0 by omega), if_neg (show ¬ i + 1 = 0 by omega), if_neg (show ¬ i + 1 + d = 0 by omega)] at e
    rw [if_neg (show ¬ i + (d + 1) = 0 by omega), ← e]
    show fX9_askNow_B124 N (fX9_askNow_L124 N n) h _ _ _ = _
    simp (disch := omega) only [fX9_askNow_B124, hnc, nI_ltI]
    rw [if_neg (by omega), show (0 : Int32) = nI (mxr (fun q => al w some i q (np w)) 0) from rfl]
    rw [show nI (mxr (fun q => al w some i q (np w)) 0) = nI 0 from rfl]
    have em := ask_max hw hA N (fX9_askNow_L124 N n) (if i = 0 then -1 else nI 0) (if i = 0 then nI 0 else nI (mst w some 0)) (i := i) (by omega) 19 N 0 (by omega) (by omega)
    refine em.trans ?_
    simp only [fX9_askNow_b184, fX9_askNow_b189, fX9_askNow_b202, fX9_askNow_b215, nI_add_lit]
    by_cases c : i = 0
    · subst c
      simp only [if_true, show ¬ ((1 : Int32) = 0) by decide, if_false]
    · simp only [c, if_false, show ¬ (nI 0 = (-1 : Int32)) by decide, nI_leI (show mst w some 0 < 2 ^ 31 by omega) (show mst w some i < 2 ^ 31 by omega)]
      rw [if_pos hge, if_pos trivial, if_pos trivial]
theorem ask_mid {w : Wt} {h0 : pH} (hw : wok w) (hF : mF w h0) (hgo : h0.1 49 20 = 0) {N : Nat} (hN : 1000 ≤ N) {sm : Nat} (hsm : sm < 2 ^ 19) : ∀ (d n P : Nat) (h : pH), P + d = np w → d < n → Kp (fun a b => SA a b ∨ (a = 59 ∧ b = 1)) h0 h → Al w sm P 0 h →
    ∃ h', fX9_askNow_L36 N n h (nI sm) (h0.1 59 1) (nI P) = some (0, h') ∧ Kp SA h0 h' := by
  have w1 := hw.1
  have w4 := hw.2.2.2.1
  intro d
  induction d with
  | zero =>
    intro n P h hP hn hK hA
    obtain ⟨n, rfl⟩ : ∃ m, n = m + 1 := ⟨n - 1, by omega⟩
    obtain rfl : P = np w := by omega
    have hnp : h.1 49 7 = nI (np w) := by rw [hK.2 49 7 (by unfold SA S7; omega)]; exact hF.1
    have hnc : h.1 49 11 = nI (nc w) := by rw [hK.2 49 11 (by unfold SA S7; omega)]; exact hF.2.2.2.2.1
    refine ⟨pw h 59 1 (h0.1 59 1), ?_, kpk_end hK⟩
    show fX9_askNow_B36 N (fX9_askNow_L36 N n) h _ _ _ = _
    simp only [fX9_askNow_B36, hnp, ixc12, cl1, if_true]
    rw [if_pos (Int32.le_refl _)]
    have := ask_out hw (some := sm) (h := pw h 59 1 (h0.1 59 1)) (by simp only [pw_at, Nat.reduceEqDiff, Nat.reduceAdd, Nat.reduceMul, Nat.reduceSub, Nat.reduceLeDiff, reduceIte, and_true, true_and, and_false, false_and, and_self, if_true, if_false, Bool.false_eq_true, not_true_eq_false, not_false_eq_true]; exact hnc) (fun i q hi hq => by simp only [pw_at, Nat.reduceEqDiff, Nat.reduceAdd, Nat.reduceMul, Nat.reduceSub, Nat.reduceLeDiff, reduceIte, and_true, true_and, and_false, false_and, and_self, if_true, if_false, Bool.false_eq_true, not_true_eq_false, not_false_eq_true]; exact hA i q hi hq) hN (nc w + 1) N 0 (by omega) (by omega)
    rw [if_pos rfl, if_pos rfl, if_neg (by omega)] at this
    exact this
  | succ d ih =>
    intro n P h hP hn hK hA
    obtain ⟨n, rfl⟩ : ∃ m, n = m + 1 := ⟨n - 1, by omega⟩
    have hnp : h.1 49 7 = nI (np w) := by rw [hK.2 49 7 (by unfold SA S7; omega)]; exact hF.1
    have unf : fX9_askNow_L36 N (n + 1) h (nI sm) (h0.1 59 1) (nI P) = fX9_askNow_B36 N (fX9_askNow_L36 N n) h (nI sm) (h0.1 59 1) (nI P) := rfl
    rw [unf]
    simp only [fX9_askNow_B36, fX9_askNow_b103, hnp, ixc12, cl1, if_true]
    rw [if_neg (by rw [nI_leI (by omega) (by omega)]; omega), isIn_eq N h (by omega) (by omega)]
    simp only [Option.bind_some, b2i]
    cases c : sm.testBit P
    · simp only [if_true, nI_add_lit]
      exact ih n (P + 1) h (by omega) (by omega) hK (hA.skip c)
    · simp only [Bool.true_eq_false, if_false]
      have hK1 := kpk (nI P) hK
      have hF1 := (wBg_F (p := P) hF).kp (hK1.mono (fun _ _ => SA_SM))
      have hgo1 : (pw h 59 1 (nI P)).1 49 20 = nI 0 := by
        simp only [pw_at, Nat.reduceEqDiff, Nat.reduceAdd, Nat.reduceMul, Nat.reduceSub, Nat.reduceLeDiff, reduceIte, and_true, true_and, and_false, false_and, and_self, if_true, if_false, Bool.false_eq_true, not_true_eq_false, not_false_eq_true]
        rw [hK.2 49 20 (by unfold SA S7; omega)]
        exact hgo
      obtain ⟨h1, e1, k1, l1⟩ := lives_eq (wBg_ok hw (p := P) (by omega)) hF1 hN (m := 0) (by decide) hgo1
      rw [z_bit] at l1
      have hgap : ∀ j, j ≤ nc w → h1.1 61 j = nI (G (wBg w P) j) := fun j hj => (l1.2.1 j hj).trans (gI_pos (w := wBg w P) (show 0 < np w by omega) _)
      have hF2 := hF1.kp (k1.mono (fun _ _ => S7_SM))
      obtain ⟨h2, e2, k2, a2⟩ := ask_in hw N (fX9_askNow_L36 N n) (nI sm) (h0.1 59 1) c (show P < np w by omega) (nc w + 1) N 0 h1 (by omega) (by omega) hF2.2.2.2.2.1 hgap (fun i q hi hq => by
        rw [k1.2 68 _ (by unfold S7; omega)]
        simp only [pw_at, Nat.reduceEqDiff, Nat.reduceAdd, Nat.reduceMul, Nat.reduceSub, Nat.reduceLeDiff, reduceIte, and_true, true_and, and_false, false_and, and_self, if_true, if_false, Bool.false_eq_true, not_true_eq_false, not_false_eq_true]
        exact hA i q hi hq)
      have hK2 : Kp (fun a b => SA a b ∨ (a = 59 ∧ b = 1)) h0 h2 := ((kpk_pw hK).tr (k1.mono (fun _ _ z => Or.inl (Or.inl z)))).tr (k2.mono (fun _ _ z => Or.inl (Or.inr z)))
      obtain ⟨h3, e3, k3⟩ := ih n (P + 1) h2 (by omega) (by omega) hK2 a2
      refine ⟨h3, ?_, k3⟩
      rw [e1]
      simp only [Option.bind_some]
      rw [show (0 : Int32) = nI 0 from rfl, e2, e3]
      rfl
theorem askNow_eq {w : Wt} {h : pH} {cn : Nat} {sb sp : Nat → Nat} (hw : wok w) (hF : mF w h) (hs : Sg cn sb sp h) (hgo : h.1 49 20 = 0) {N : Nat} (hN : 1000 ≤ N) :
    ∃ h', fX9_askNow N h = some (0, h') ∧ Kp SM h h' := by
  have w1 := hw.1
  obtain ⟨h1, e1, k1⟩ := beganNow_eq hw hF hs hgo hN
  have hF1 := hF.kp (k1.mono (fun _ _ => S7_SM))
  have hgo1 : h1.1 49 20 = 0 := by rw [k1.2 49 20 (by unfold S7; omega)]; exact hgo
  have hb : bgb w cn sb sp (np w) < 2 ^ 19 := Nat.lt_of_lt_of_le (bgb_lt w cn sb sp (np w)) (Nat.pow_le_pow_right (by decide) w1)
  rw [fX9_askNow, e1]
  simp only [Option.bind_some, ixc12, cl1, if_true]
  obtain ⟨h2, e2, k2, z2⟩ := ask_zero N (fun _ _ _ => none) (nI (bgb w cn sb sp (np w))) (h1.1 59 1) 475 N 0 h1 (by omega) (by omega) (fun j hj => absurd hj (by omega))
  have k2' : Kp SA h1 h2 := k2.mono (fun _ _ z => Or.inr z)
  have hF2 := hF1.kp (k2'.mono (fun _ _ => SA_SM))
  have hgo2 : h2.1 49 20 = 0 := by rw [k2'.2 49 20 (by unfold SA S7; omega)]; exact hgo1
  have e59 : h2.1 59 1 = h1.1 59 1 := k2'.2 59 1 (by unfold SA S7; omega)
  obtain ⟨h3, e3, k3⟩ := ask_mid hw hF2 hgo2 hN hb (np w) N 0 h2 (by omega) (by omega) (Kp.rf h2) (fun i q hi hq => by
    have w4 := hw.2.2.2.1
    rw [z2 _ (by omega), if_neg (fun z => absurd z.1 (by omega))]
    rfl)
  rw [e59] at e3
  refine ⟨h3, ?_, ((k1.mono (fun _ _ => S7_SM)).tr (k2'.mono (fun _ _ => SA_SM))).tr (k3.mono (fun _ _ => SA_SM))⟩
  exact e2.trans e3
theorem m_ask {σ : St} {h : pH} (hS : Sok σ) (hB : Bm σ h) {N : Nat} (hN : 1000 ≤ N) : ∃ h', fX9_ask N h = some (0, h') ∧ Kp SF h h' := by
  obtain ⟨h1, e, k, hF, hL⟩ := find_eq hS hB hN
  have hB1 := hB.kp k
  obtain ⟨h2, e2, k2⟩ := askNow_eq (wok_of hS) hF (hB1.sg hS) hB1.go hN
  refine ⟨h2, ?_, k.tr (k2.mono (fun _ _ => SM_SF))⟩
  rw [fX9_ask, e]
  simp only [Option.bind_some, e2]
