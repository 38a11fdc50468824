def cntT (w : Wt) (k y : Nat) : Nat → Nat
  | 0 => 0
  | i + 1 => cntT w k y i + (if wh w i = k ∧ oc w (wh w i) (G w i) = y + 1 then 1 else 0)
theorem cntT_le (w : Wt) (k y : Nat) : ∀ i, cntT w k y i ≤ i
  | 0 => Nat.le_refl _
  | i + 1 => by have := cntT_le w k y i; unfold cntT; split <;> omega
def sumT (w : Wt) : Nat → Nat
  | 0 => 0
  | i + 1 => sumT w i + tol w (wh w i) (G w i)
theorem tol_le {w : Wt} (hw : np w ≤ 19) (k g : Nat) : tol w k g ≤ 19 := by
  unfold tol
  split
  · have := mny_le w (hvy w k) g (np w); omega
  · omega
theorem sumT_le {w : Wt} (hw : np w ≤ 19) : ∀ i, sumT w i ≤ 19 * i
  | 0 => Nat.le_refl _
  | i + 1 => by have := sumT_le hw i; have := tol_le hw (wh w i) (G w i); unfold sumT; omega
theorem oc_le (w : Wt) (k g : Nat) : oc w k g ≤ 2 := by unfold oc; split <;> (try split) <;> omega
def a_times (σ : St) (x y : Int32) : Int32 := if ix x (nk (wOf σ)) = true ∧ ix y 2 = true then nI (cntT (wOf σ) x.toNatClampNeg y.toNatClampNeg (nc (wOf σ))) else -2
def a_taken (σ : St) (x : Int32) : Int32 := if ix x (nc (wOf σ) + 1) then nI (sumT (wOf σ) x.toNatClampNeg) else -2
def stk (w : Wt) : Nat := ffr (fun i => !decide (oc w (wh w i) (G w i) = 2)) (nc w) 0
def a_stuck (σ : St) : Int32 := if stk (wOf σ) = nc (wOf σ) then -1 else nI (stk (wOf σ))
theorem timesBy_loop {w : Wt} {h : pH} (hw : wok w) (hF : mF w h) (hL : Lz w h) (N : Nat) {k y : Nat} (hk : k < 100) (hy : y < 2) : ∀ (d n i : Nat), i + d = nc w → d < n →
    fX9_timesBy_L5 N n h (nI k) (nI y) (nI (cntT w k y i)) (nI i) = some (nI (cntT w k y (nc w)), h) := by
  have w4 := hw.2.2.2.1
  intro d
  induction d with
  | zero =>
    intro n i hi hn
    obtain ⟨n, rfl⟩ : ∃ m, n = m + 1 := ⟨n - 1, by omega⟩
    obtain rfl : i = nc w := by omega
    show fX9_timesBy_B5 N (fX9_timesBy_L5 N n) h _ _ _ _ = _
    simp only [fX9_timesBy_B5, hF.2.2.2.2.1]
    rw [if_pos (Int32.le_refl _)]
  | succ d ih =>
    intro n i hi hn
    obtain ⟨n, rfl⟩ : ∃ m, n = m + 1 := ⟨n - 1, by omega⟩
    have q1 := (hL.2.2 i (by omega)).1
    have q2 := hF.2.2.2.2.2.1 i (by omega)
    have q3 := hw.2.2.2.2.1 i (by omega)
    have q4 := oc_le w (wh w i) (G w i)
    have e := ih n (i + 1) (by omega) (by omega)
    rw [← e]
    show fX9_timesBy_B5 N (fX9_timesBy_L5 N n) h _ _ _ _ = _
    simp (disch := omega) only [fX9_timesBy_B5, fX9_timesBy_b43, fX9_timesBy_b44, hF.2.2.2.2.1, nI_leI, ix_nI, nI_clamp, if_true, q1, q2, nI_eq, nI_add_lit]
    rw [if_neg (by omega)]
    rw [show cntT w k y (i + 1) = cntT w k y i + (if wh w i = k ∧ oc w (wh w i) (G w i) = y + 1 then 1 else 0) from rfl]
    by_cases c1 : wh w i = k
    · by_cases c2 : oc w (wh w i) (G w i) = y + 1
      · rw [if_pos c1, if_pos c2, if_pos ⟨c1, c2⟩]
      · rw [if_pos c1, if_neg c2, if_neg (fun z => c2 z.2)]
    · rw [if_neg c1, if_neg (fun z => c1 z.1)]
theorem m_times {σ : St} {h : pH} (hS : Sok σ) (hB : Bm σ h) {N : Nat} (hN : 1000 ≤ N) (x y : Int32) : ∃ h', fX9_times N h x y = some (a_times σ x y, h') ∧ Kp SF h h' := by
  obtain ⟨h', e, k, hF, hL⟩ := find_eq hS hB hN
  have hz := hL.z
  have w2 := (wok_of hS).2.1
  have w4 := (wok_of hS).2.2.2.1
  refine ⟨h', ?_, k⟩
  rw [fX9_times, e]
  simp only [Option.bind_some, isCrosser_ix (wok_of hS) hF.2.2.1, isTwo_ix, b2i, fX9_times_b28, fX9_times_b30, a_times]
  cases c : ix x (nk (wOf σ))
  · simp
  · cases c2 : ix y 2
    · simp
    · obtain ⟨i, hi, rfl⟩ := ix_of c (by omega)
      obtain ⟨j, hj, rfl⟩ := ix_of c2 (by decide)
      have el := timesBy_loop (wok_of hS) hF hz N (k := i) (y := j) (by omega) hj (nc (wOf σ)) N 0 (by omega) (by omega)
      simp (disch := omega) only [if_true, Bool.true_eq_false, if_false, and_self, nI_clamp, fX9_timesBy]
      rw [show (0 : Int32) = nI 0 from rfl]
      rw [show nI 0 = nI (cntT (wOf σ) i j 0) from rfl] at el ⊢
      rw [show fX9_timesBy_L5 N N h' (nI i) (nI j) (nI (cntT (wOf σ) i j 0)) (nI (cntT (wOf σ) i j 0)) = some (nI (cntT (wOf σ) i j (nc (wOf σ))), h') from el]
      rfl
theorem takenBy_loop {w : Wt} {h : pH} (hw : wok w) (hL : Lz w h) (N : Nat) {m : Nat} (hm : m ≤ nc w) : ∀ (d n i : Nat), i + d = m → d < n →
    fX9_takenBy_L4 N n h (nI m) (nI (sumT w i)) (nI i) = some (nI (sumT w m), h) := by
  have w4 := hw.2.2.2.1
  intro d
  induction d with
  | zero =>
    intro n i hi hn
    obtain ⟨n, rfl⟩ : ∃ m, n = m + 1 := ⟨n - 1, by omega⟩
    obtain rfl : i = m := by omega
    show fX9_takenBy_B4 N (fX9_takenBy_L4 N n) h _ _ _ = _
    simp only [fX9_takenBy_B4]
    rw [if_pos (Int32.le_refl _)]
  | succ d ih =>
    intro n i hi hn
    obtain ⟨n, rfl⟩ : ∃ m, n = m + 1 := ⟨n - 1, by omega⟩
    have q1 := (hL.2.2 i (by omega)).2.1
    have e := ih n (i + 1) (by omega) (by omega)
    rw [← e]
    show fX9_takenBy_B4 N (fX9_takenBy_L4 N n) h _ _ _ = _
    simp (disch := omega) only [fX9_takenBy_B4, nI_leI, ix_nI, nI_clamp, if_true, q1, nI_add_lit, nI_add]
    rw [if_neg (by omega)]
    rfl
theorem takenBy_eq {w : Wt} {h : pH} (hw : wok w) (hL : Lz w h) {N : Nat} (hN : 1000 ≤ N) {m : Nat} (hm : m ≤ nc w) : fX9_takenBy N h (nI m) = some (nI (sumT w m), h) := by
  have w4 := hw.2.2.2.1
  exact takenBy_loop hw hL N hm m N 0 (by omega) (by omega)
theorem m_taken {σ : St} {h : pH} (hS : Sok σ) (hB : Bm σ h) {N : Nat} (hN : 1000 ≤ N) (x : Int32) : ∃ h', fX9_taken N h x = some (a_taken σ x, h') ∧ Kp SF h h' := by
  obtain ⟨h', e, k, hF, hL⟩ := find_eq hS hB hN
  have hz := hL.z
  have w4 := (wok_of hS).2.2.2.1
  refine ⟨h', ?_, k⟩
  rw [fX9_taken, e]
  simp only [Option.bind_some, hF.2.2.2.2.1, in_ixn N h' x _ (show nc (wOf σ) < 2 ^ 30 by omega), b2i, fX9_taken_b28, a_taken]
  cases c : ix x (nc (wOf σ) + 1)
  · rfl
  · obtain ⟨j, hj, rfl⟩ := ix_of c (by omega)
    simp (disch := omega) only [if_true, Bool.true_eq_false, if_false, nI_clamp, takenBy_eq (wok_of hS) hz hN (show j ≤ nc (wOf σ) by omega), Option.bind_some]
theorem stuckNow_loop {w : Wt} {h : pH} (hw : wok w) (hF : mF w h) (hL : Lz w h) (N : Nat) : ∀ (d n i : Nat), i + d = nc w → d < n →
    fX9_stuckNow_L2 N n h (nI i) = some (if ffr (fun i => !decide (oc w (wh w i) (G w i) = 2)) d i = nc w then -1 else nI (ffr (fun i => !decide (oc w (wh w i) (G w i) = 2)) d i), h) := by
  have w4 := hw.2.2.2.1
  intro d
  induction d with
  | zero =>
    intro n i hi hn
    obtain ⟨n, rfl⟩ : ∃ m, n = m + 1 := ⟨n - 1, by omega⟩
    obtain rfl : i = nc w := by omega
    show fX9_stuckNow_B2 N (fX9_stuckNow_L2 N n) h _ = _
    simp only [fX9_stuckNow_B2, hF.2.2.2.2.1, ffr, if_true]
    rw [if_pos (Int32.le_refl _)]
  | succ d ih =>
    intro n i hi hn
    obtain ⟨n, rfl⟩ : ∃ m, n = m + 1 := ⟨n - 1, by omega⟩
    have q1 := (hL.2.2 i (by omega)).1
    have q4 := oc_le w (wh w i) (G w i)
    have e := ih n (i + 1) (by omega) (by omega)
    show fX9_stuckNow_B2 N (fX9_stuckNow_L2 N n) h _ = _
    simp (disch := omega) only [fX9_stuckNow_B2, hF.2.2.2.2.1, nI_leI, ix_nI, nI_clamp, if_true, q1, nI_add_lit, nI_eq_lit]
    rw [if_neg (by omega)]
    by_cases c : oc w (wh w i) (G w i) = 2
    · simp only [ffr, c, decide_true, Bool.not_true, Bool.false_eq_true, if_false]
      rw [if_pos trivial, if_neg (by omega)]
    · simp only [ffr, c, decide_false, Bool.not_false, if_true, if_false]
      exact e
theorem stuckNow_eq {w : Wt} {h : pH} (hw : wok w) (hF : mF w h) (hL : Lz w h) {N : Nat} (hN : 1000 ≤ N) : fX9_stuckNow N h = some (if stk w = nc w then -1 else nI (stk w), h) := by
  have w4 := hw.2.2.2.1
  exact stuckNow_loop hw hF hL N (nc w) N 0 (by omega) (by omega)
theorem m_stuck {σ : St} {h : pH} (hS : Sok σ) (hB : Bm σ h) {N : Nat} (hN : 1000 ≤ N) : ∃ h', fX9_stuck N h = some (a_stuck σ, h') ∧ Kp SF h h' := by
  obtain ⟨h', e, k, hF, hL⟩ := find_eq hS hB hN
  refine ⟨h', ?_, k⟩
  rw [fX9_stuck, e]
  simp only [Option.bind_some, stuckNow_eq (wok_of hS) hF hL.z hN]
  rfl
/-! worn -/
def vis (w : Wt) (p : Nat) : Nat → Nat
  | 0 => 0
  | i + 1 => vis w p i + (if G w i = p then 1 else 0)
theorem vis_le (w : Wt) (p : Nat) : ∀ i, vis w p i ≤ i
  | 0 => Nat.le_refl _
  | i + 1 => by have := vis_le w p i; unfold vis; split <;> omega
def wrn (w : Wt) : Nat → Int32 × Nat
  | 0 => (-1, 0)
  | p + 1 => (if (wrn w p).2 < vis w p (nc w + 1) then nI p else (wrn w p).1, max (vis w p (nc w + 1)) (wrn w p).2)
theorem wrn_le {w : Wt} (hw : nc w ≤ 24) : ∀ p, (wrn w p).2 ≤ 25
  | 0 => Nat.zero_le _
  | p + 1 => by have := wrn_le hw p; have := vis_le w p (nc w + 1); simp only [wrn]; omega
def a_worn (σ : St) : Int32 := (wrn (wOf σ) (np (wOf σ))).1
theorem worn_in {w : Wt} {h : pH} (hw : wok w) (hF : mF w h) (hL : Lz w h) (N : Nat) (K6 : pH → Int32 → Int32 → Int32 → Option (Int32 × pH)) {p : Nat} (hp : p < np w) : ∀ (d n i : Nat), i + d = nc w + 1 → d < n →
    fX9_wornNow_L20 N K6 n h (wrn w p).1 (nI (wrn w p).2) (nI p) (nI (vis w p i)) (nI i) = K6 h (wrn w (p + 1)).1 (nI (wrn w (p + 1)).2) (nI (p + 1)) := by
  have w1 := hw.1
  have w4 := hw.2.2.2.1
  have q0 := wrn_le w4 p
  intro d
  induction d with
  | zero =>
    intro n i hi hn
    obtain ⟨n, rfl⟩ : ∃ m, n = m + 1 := ⟨n - 1, by omega⟩
    obtain rfl : i = nc w + 1 := by omega
    have q1 := vis_le w p (nc w + 1)
    show fX9_wornNow_B20 N K6 (fX9_wornNow_L20 N K6 n) h _ _ _ _ _ = _
    simp (disch := omega) only [fX9_wornNow_B20, fX9_wornNow_b67, hF.2.2.2.2.1, nI_ltI, nI_leI, nI_add_lit, greater_eq, Option.bind_some, wrn]
    rw [if_pos (by omega)]
    by_cases c : (wrn w p).2 < vis w p (nc w + 1)
    · rw [if_neg (by omega), if_pos c]
    · rw [if_pos (by omega), if_neg c]
  | succ d ih =>
    intro n i hi hn
    obtain ⟨n, rfl⟩ : ∃ m, n = m + 1 := ⟨n - 1, by omega⟩
    have q1 := hL.2.1 i (by omega)
    have q2 : G w i < 19 := gok_lt w1 (Gm_ok w _ i)
    rw [gI_pos (by omega)] at q1
    have e := ih n (i + 1) (by omega) (by omega)
    rw [← e]
    show fX9_wornNow_B20 N K6 (fX9_wornNow_L20 N K6 n) h _ _ _ _ _ = _
    simp (disch := omega) only [fX9_wornNow_B20, fX9_wornNow_b47, hF.2.2.2.2.1, nI_ltI, ix_nI, nI_clamp, if_true, q1, nI_eq, nI_add_lit]
    rw [if_neg (by omega)]
    rw [show vis w p (i + 1) = vis w p i + (if G w i = p then 1 else 0) from rfl]
    by_cases c : G w i = p
    · rw [if_pos c, if_pos c]
    · rw [if_neg c, if_neg c]
theorem worn_loop {w : Wt} {h : pH} (hw : wok w) (hF : mF w h) (hL : Lz w h) {N : Nat} (hN : 1000 ≤ N) : ∀ (d n p : Nat), p + d = np w → d < n →
    fX9_wornNow_L6 N n h (wrn w p).1 (nI (wrn w p).2) (nI p) = some ((wrn w (np w)).1, h) := by
  have w1 := hw.1
  have w4 := hw.2.2.2.1
  intro d
  induction d with
  | zero =>
    intro n p hp hn
    obtain ⟨n, rfl⟩ : ∃ m, n = m + 1 := ⟨n - 1, by omega⟩
    obtain rfl : p = np w := by omega
    show fX9_wornNow_B6 N (fX9_wornNow_L6 N n) h _ _ _ = _
    simp only [fX9_wornNow_B6, hF.1]
    rw [if_pos (Int32.le_refl _)]
  | succ d ih =>
    intro n p hp hn
    obtain ⟨n, rfl⟩ : ∃ m, n = m + 1 := ⟨n - 1, by omega⟩
    show fX9_wornNow_B6 N (fX9_wornNow_L6 N n) h _ _ _ = _
    simp only [fX9_wornNow_B6, hF.1]
    rw [if_neg (by rw [nI_leI (by omega) (by omega)]; omega)]
    have e := worn_in hw hF hL N (fX9_wornNow_L6 N n) (p := p) (by omega) (nc w + 1) N 0 (by omega) (by omega)
    rw [show (0 : Int32) = nI 0 from rfl]
    exact e.trans (ih n (p + 1) (by omega) (by omega))
theorem wornNow_eq {w : Wt} {h : pH} (hw : wok w) (hF : mF w h) (hL : Lz w h) {N : Nat} (hN : 1000 ≤ N) : fX9_wornNow N h = some ((wrn w (np w)).1, h) := by
  have w1 := hw.1
  exact worn_loop hw hF hL hN (np w) N 0 (by omega) (by omega)
theorem m_worn {σ : St} {h : pH} (hS : Sok σ) (hB : Bm σ h) {N : Nat} (hN : 1000 ≤ N) : ∃ h', fX9_worn N h = some (a_worn σ, h') ∧ Kp SF h h' := by
  obtain ⟨h', e, k, hF, hL⟩ := find_eq hS hB hN
  refine ⟨h', ?_, k⟩
  rw [fX9_worn, e]
  simp only [Option.bind_some, wornNow_eq (wok_of hS) hF hL.z hN]
  rfl
/-! count -/
def a_count (σ : St) (x : Int32) : Int32 := if x = 0 then nI (np (wOf σ)) else if x = 1 then nI (nk (wOf σ)) else if x = 2 then nI (nc (wOf σ)) else if x = 3 then nI (t_l σ 0) else if x = 4 then nI (t_l σ 1) else if x = 5 then nI (t_l σ 2) else if x = 6 then nI (sumT (wOf σ) (nc (wOf σ))) else if x = 7 then nI (t_cn σ) else if x = 8 then t_lf σ else -2
theorem count_eq {σ : St} {h : pH} (hS : Sok σ) (hB : Bm σ h) {N : Nat} (hN : 1000 ≤ N) (x : Int32) : ∃ h', fX9_count N h x = some (a_count σ x, h') ∧ Kp SF h h' ∧ mF (wOf σ) h' ∧ Lz (wOf σ) h' := by
  obtain ⟨h', e, k, hF, hL⟩ := find_eq hS hB hN
  have hB' := hB.kp k
  refine ⟨h', ?_, k, hF, hL.z⟩
  rw [fX9_count, e]
  simp only [Option.bind_some, fX9_count_b71, hF.1, hF.2.2.1, hF.2.2.2.2.1, takenBy_eq (wok_of hS) hL.z hN (Nat.le_refl _), hB'.2.2.2.2.2.2.2.1, hB'.2.2.2.2.2.2.2.2.2.1, a_count]
  by_cases c0 : x = 0
  · rw [if_pos c0, if_pos c0]
  · rw [if_neg c0, if_neg c0]
    by_cases c1 : x = 1
    · rw [if_pos c1, if_pos c1]
    · rw [if_neg c1, if_neg c1]
      by_cases c2 : x = 2
      · rw [if_pos c2, if_pos c2]
      · rw [if_neg c2, if_neg c2]
        by_cases c3 : x = 3
        · rw [if_pos c3, if_pos c3, c3, if_pos (by decide), show ((3 : Int32) - 3).toNatClampNeg = 0 from by decide, hB'.1 0 (by omega)]
        · rw [if_neg c3, if_neg c3]
          by_cases c4 : x = 4
          · rw [if_pos c4, if_pos c4, c4, if_pos (by decide), show ((4 : Int32) - 3).toNatClampNeg = 1 from by decide, hB'.1 1 (by omega)]
          · rw [if_neg c4, if_neg c4]
            by_cases c5 : x = 5
            · rw [if_pos c5, if_pos c5, c5, if_pos (by decide), show ((5 : Int32) - 3).toNatClampNeg = 2 from by decide, hB'.1 2 (by omega)]
            · rw [if_neg c5, if_neg c5]
              by_cases c6 : x = 6
              · rw [if_pos c6, if_pos c6]
              · rw [if_neg c6, if_neg c6]
                by_cases c7 : x = 7
                · rw [if_pos c7, if_pos c7]
                · rw [if_neg c7, if_neg c7]
                  by_cases c8 : x = 8
                  · rw [if_pos c8, if_pos c8]
                  · rw [if_neg c8, if_neg c8]
theorem m_count {σ : St} {h : pH} (hS : Sok σ) (hB : Bm σ h) {N : Nat} (hN : 1000 ≤ N) (x : Int32) : ∃ h', fX9_count N h x = some (a_count σ x, h') ∧ Kp SF h h' := by
  obtain ⟨h', e, k, -⟩ := count_eq hS hB hN x
  exact ⟨h', e, k⟩
