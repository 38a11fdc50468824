/-! ===== the class: all worked out anew ===== -/
theorem hl_le (b : Bool) : hl b ≤ 1 := by unfold hl; split <;> omega
theorem chole_eq {w : Wt} {h : pH} (hw : wok w) (h93 : h.1 9 3 = nI (np w)) (h90 : h.1 9 0 = nI (rv w)) (h11 : ∀ p, p < np w → h.1 11 p = if rot w p then 1 else 0) (N : Nat) {p g : Nat} (b : Bool) (hp : p < np w) (hg : g < np w) : fX0_isHole N h (nI p) (nI (hl b)) (nI g) = some (if hole w b g p then 1 else 0, h) := by
  have w1 := hw.1
  have w6 := hw.2.2.2.2.2.1
  have hb := hl_le b
  have hx : fX0_isHole_b21 N h (nI p) (nI g) = some (if decide (7 ≤ rv w) && decide (p = nxtE w g) then 1 else 0, h) := by
    simp only [fX0_isHole_b21, fX0_isHole_b38, fX0_isHole_b59, fX0_isHole_b60, h93, h90, nI_1, true_or, or_true, if_true]
    unfold nxtE
    by_cases c1 : rv w < 7
    · have e1 : decide (7 ≤ rv w) = false := decide_eq_false (by omega)
      have cc : nI (rv w) < 7 := by rw [show (7 : Int32) = nI 7 from rfl, nI_ltI (by omega) (by omega)]; exact c1
      simp only [e1, cc, if_true, Bool.false_and, Bool.false_eq_true, if_false]
      split <;> rfl
    · have e1 : decide (7 ≤ rv w) = true := decide_eq_true (by omega)
      rw [e1, if_neg (show ¬ nI (rv w) < 7 by rw [show (7 : Int32) = nI 7 from rfl, nI_ltI (by omega) (by omega)]; exact c1)]
      by_cases c2 : g + 1 < np w
      · rw [if_neg (by rw [nI_leI (by omega) (by omega)]; omega), if_neg (show ¬ nI (rv w) < 7 by rw [show (7 : Int32) = nI 7 from rfl, nI_ltI (by omega) (by omega)]; exact c1), if_pos c2]
        by_cases c3 : p = g + 1
        · rw [if_pos (by rw [c3]), decide_eq_true c3]; rfl
        · rw [if_neg (by rw [nI_eq (by omega) (by omega)]; exact c3), decide_eq_false c3]; rfl
      · rw [if_pos (by rw [nI_leI (by omega) (by omega)]; omega), if_neg c2]
        by_cases c3 : p = 0
        · rw [if_pos (by rw [c3]; rfl), decide_eq_true c3]; rfl
        · rw [if_neg (by rw [show (0 : Int32) = nI 0 from rfl, nI_eq (by omega) (by omega)]; exact c3), decide_eq_false c3]; rfl
  simp only [fX0_isHole, fX0_isHole_b19, hx]
  unfold hole
  by_cases c : p = g
  · rw [if_pos (by rw [c]), decide_eq_true c]; simp
  · rw [if_neg (by rw [nI_eq (by omega) (by omega)]; exact c), decide_eq_false c]
    cases b
    · rw [if_neg (by decide)]; simp
    · rw [if_pos (by decide), if_pos (ix_nI (by omega) (by omega)), nI_clamp (by omega), h11 p hp]
      cases rot w p
      · simp
      · simp

theorem measure_loop {w : Wt} {h : pH} (hw : wok w) (h93 : h.1 9 3 = nI (np w)) (h90 : h.1 9 0 = nI (rv w)) (h11 : ∀ p, p < np w → h.1 11 p = if rot w p then 1 else 0) (N : Nat) {g : Nat} (b : Bool) (hg : g < np w) : ∀ (d n p : Nat), p + d = np w → d < n →
    fX0_measure_L11 N n h (nI (hl b)) (nI g) (nI (mny w b g p)) (nI (lgs w b g p)) (nI (rl w b g p)) (nI p) = some ((), pw (pw h 12 (hl b * 19 + g) (nI (mny w b g (np w)))) 13 (hl b * 19 + g) (nI (lgs w b g (np w)))) := by
  have w1 := hw.1
  have hb := hl_le b
  intro d
  induction d with
  | zero =>
    intro n p hp hn
    obtain ⟨n, rfl⟩ : ∃ m, n = m + 1 := ⟨n - 1, by omega⟩
    obtain rfl : p = np w := by omega
    show fX0_measure_B11 N (fX0_measure_L11 N n) h _ _ _ _ _ _ = _
    simp only [fX0_measure_B11, h93, nI_mul_lit, nI_add]
    rw [if_pos (Int32.le_refl _), if_pos (ix_nI (by omega) (by omega)), if_pos (ix_nI (by omega) (by omega)), nI_clamp (by omega)]
  | succ d ih =>
    intro n p hp hn
    obtain ⟨n, rfl⟩ : ∃ m, n = m + 1 := ⟨n - 1, by omega⟩
    have e := ih n (p + 1) (by omega) (by omega)
    have l1 := lgs_le w b g p
    have l2 := rl_le w b g p
    rw [← e]
    show fX0_measure_B11 N (fX0_measure_L11 N n) h _ _ _ _ _ _ = _
    simp only [fX0_measure_B11, fX0_measure_b39, fX0_measure_b59, h93]
    rw [if_neg (by rw [nI_leI (by omega) (by omega)]; omega), chole_eq hw h93 h90 h11 N b (by omega) hg]
    simp only [Option.bind_some, b2i]
    rw [show mny w b g (p + 1) = mny w b g p + (if hole w b g p = true ∧ rl w b g p = 0 then 1 else 0) from rfl, show lgs w b g (p + 1) = max (rl w b g (p + 1)) (lgs w b g p) from rfl, show rl w b g (p + 1) = if hole w b g p then rl w b g p + 1 else 0 from rfl]
    cases c : hole w b g p
    · simp only [if_true, Bool.false_eq_true, false_and, if_false, Nat.add_zero]
      rw [show (0 : Int32) = nI 0 from rfl, max_eq N h _ _ (by omega) (by omega)]
      simp only [Option.bind_some, nI_1]
      rw [if_neg (by decide), Nat.max_comm]
    · simp only [Bool.true_eq_false, if_false, if_true, true_and, nI_1]
      rw [max_eq N h _ _ (by omega) (by omega)]
      simp only [Option.bind_some, nI_1]
      rw [Nat.max_comm]
      by_cases c2 : rl w b g p = 0
      · rw [if_pos (by rw [c2]; rfl), if_pos c2]
      · rw [if_neg (by rw [show (1 : Int32) = nI 1 from rfl, nI_eq (by omega) (by omega)]; omega), if_neg c2]; rfl
theorem measure_eq {w : Wt} {h : pH} (hw : wok w) (h93 : h.1 9 3 = nI (np w)) (h90 : h.1 9 0 = nI (rv w)) (h11 : ∀ p, p < np w → h.1 11 p = if rot w p then 1 else 0) {N : Nat} (hN : 1000 ≤ N) {g : Nat} (b : Bool) (hg : g < np w) : fX0_measure N h (nI (hl b)) (nI g) = some ((), pw (pw h 12 (hl b * 19 + g) (nI (mny w b g (np w)))) 13 (hl b * 19 + g) (nI (lgs w b g (np w)))) := by
  have w1 := hw.1
  exact measure_loop hw h93 h90 h11 N b hg (np w) N 0 (by omega) (by omega)
def rowsOk (w : Wt) (i : Nat) (h : pH) : Prop := ∀ b g, g < i → h.1 12 (hl b * 19 + g) = nI (mny w b g (np w)) ∧ h.1 13 (hl b * 19 + g) = nI (lgs w b g (np w))
theorem hl_inj {b c : Bool} (h : hl b = hl c) : b = c := by cases b <;> cases c <;> simp_all [hl]
theorem bt_rows {w : Wt} (hw : wok w) {N : Nat} (hN : 1000 ≤ N) : ∀ (d n i : Nat) (h : pH), i + d = np w → d < n → h.1 9 3 = nI (np w) → h.1 9 0 = nI (rv w) → (∀ p, p < np w → h.1 11 p = if rot w p then 1 else 0) → rowsOk w i h →
    ∃ h', fX0_take_L49 N n h (nI i) = some ((), h') ∧ Kq (fun a _ => a = 12 ∨ a = 13) h h' ∧ rowsOk w (np w) h' := by
  have w1 := hw.1
  intro d
  induction d with
  | zero =>
    intro n i h hi hn h93 h90 h11 hR
    obtain ⟨n, rfl⟩ : ∃ m, n = m + 1 := ⟨n - 1, by omega⟩
    obtain rfl : i = np w := by omega
    refine ⟨h, ?_, Kq.rf h, hR⟩
    show fX0_take_B49 N (fX0_take_L49 N n) h _ = _
    simp only [fX0_take_B49, h93]
    rw [if_pos (Int32.le_refl _)]
  | succ d ih =>
    intro n i h hi hn h93 h90 h11 hR
    obtain ⟨n, rfl⟩ : ∃ m, n = m + 1 := ⟨n - 1, by omega⟩
    have e1 := measure_eq hw h93 h90 h11 hN false (show i < np w by omega)
    have k1 : Kq (fun a _ => a = 12 ∨ a = 13) h (pw (pw h 12 (hl false * 19 + i) (nI (mny w false i (np w)))) 13 (hl false * 19 + i) (nI (lgs w false i (np w)))) := ((Kq.rf h).pw (by omega)).pw (by omega)
    have e2 := measure_eq (h := pw (pw h 12 (hl false * 19 + i) (nI (mny w false i (np w)))) 13 (hl false * 19 + i) (nI (lgs w false i (np w)))) hw (by rw [k1 _ _ (by omega)]; exact h93) (by rw [k1 _ _ (by omega)]; exact h90) (fun p hp => by rw [k1 _ _ (by omega)]; exact h11 p hp) hN true (show i < np w by omega)
    have k2 : Kq (fun a _ => a = 12 ∨ a = 13) h (pw (pw (pw (pw h 12 (hl false * 19 + i) (nI (mny w false i (np w)))) 13 (hl false * 19 + i) (nI (lgs w false i (np w)))) 12 (hl true * 19 + i) (nI (mny w true i (np w)))) 13 (hl true * 19 + i) (nI (lgs w true i (np w)))) := (k1.pw (by omega)).pw (by omega)
    obtain ⟨h', e3, k3, q3⟩ := ih n (i + 1) _ (by omega) (by omega) (by rw [k2 _ _ (by omega)]; exact h93) (by rw [k2 _ _ (by omega)]; exact h90) (fun p hp => by rw [k2 _ _ (by omega)]; exact h11 p hp) (fun b g hgi => by
      simp only [pw_at, Nat.reduceEqDiff, Nat.reduceAdd, Nat.reduceMul, Nat.reduceSub, Nat.reduceLeDiff, reduceIte, and_true, true_and, and_false, false_and, and_self, if_true, if_false, Bool.false_eq_true, not_true_eq_false, not_false_eq_true, show hl false = 0 from rfl, show hl true = 1 from rfl]
      by_cases c : g = i
      · subst c
        cases b
        · simp only [show hl false = 0 from rfl, if_true, and_self]
          rw [if_neg (by omega), if_neg (by omega)]
          exact ⟨rfl, rfl⟩
        · simp only [show hl true = 1 from rfl, if_true, and_self]
      · have hb := hl_le b
        rw [if_neg (by omega), if_neg (by omega), if_neg (by omega), if_neg (by omega)]
        exact hR b g (by omega))
    refine ⟨h', ?_, k2.tr k3, q3⟩
    rw [← e3]
    show fX0_take_B49 N (fX0_take_L49 N n) h _ = _
    simp only [fX0_take_B49, h93]
    rw [if_neg (by rw [nI_leI (by omega) (by omega)]; omega)]
    rw [show fX0_measure N h 0 (nI i) = _ from e1]
    simp only [Option.bind_some]
    rw [show fX0_measure N (pw (pw h 12 (hl false * 19 + i) (nI (mny w false i (np w)))) 13 (hl false * 19 + i) (nI (lgs w false i (np w)))) 1 (nI i) = _ from e2]
    simp only [Option.bind_some, nI_1]
theorem narB : vp_nar .boolean 1 = 1 ∧ vp_nar .boolean 0 = 0 := by decide
theorem bt_loop {σ : St} (hS : Sok σ) {N : Nat} (hN : 1000 ≤ N) : ∀ (d n i : Nat) (h : pH), i + d = np (wOf σ) → d < n → Ac σ h → h.1 9 3 = nI (np (wOf σ)) → (∀ p, p < i → h.1 11 p = if rot (wOf σ) p then 1 else 0) →
    ∃ h', fX0_take_L12 N n h 3 (nI i) = some ((), h') ∧ Kq (fun a _ => a = 11 ∨ a = 12 ∨ a = 13) h h' ∧ (∀ p, p < np (wOf σ) → h'.1 11 p = if rot (wOf σ) p then 1 else 0) ∧ rowsOk (wOf σ) (np (wOf σ)) h' := by
  have hw := wok_of hS
  have w1 := hw.1
  intro d
  induction d with
  | zero =>
    intro n i h hi hn hA h93 h11
    obtain ⟨n, rfl⟩ : ∃ m, n = m + 1 := ⟨n - 1, by omega⟩
    obtain rfl : i = np (wOf σ) := by omega
    obtain ⟨h', e, k, q⟩ := bt_rows hw hN (np (wOf σ)) N 0 h (by omega) (by omega) h93 hA.2.2.1 h11 (fun b g z => absurd z (by omega))
    refine ⟨h', ?_, k.mono (fun a b z => by omega), fun p hp => ?_, q⟩
    · show fX0_take_B12 N (fX0_take_L12 N n) h _ _ = _
      simp only [fX0_take_B12, h93]
      rw [if_pos (Int32.le_refl _)]
      exact e
    · rw [k _ _ (by omega)]; exact h11 p hp
  | succ d ih =>
    intro n i h hi hn hA h93 h11
    obtain ⟨n, rfl⟩ : ∃ m, n = m + 1 := ⟨n - 1, by omega⟩
    have hil : i < t_l σ 0 := by
      have : np (wOf σ) ≤ t_l σ 0 := by show (if _ then _ else _) ≤ _; split <;> omega
      omega
    have k1 : Kq (fun a _ => a = 11 ∨ a = 12 ∨ a = 13) h (pw h 11 i (if rot (wOf σ) i then 1 else 0)) := (Kq.rf h).pw (by omega)
    obtain ⟨h', e, k, q1, q2⟩ := ih n (i + 1) (pw h 11 i (if rot (wOf σ) i then 1 else 0)) (by omega) (by omega) (hA.kq (k1.mono (fun a b z => by unfold SQ; omega))) (by rw [k1 _ _ (by omega)]; exact h93) (fun p hp => by
      simp only [pw_at, Nat.reduceEqDiff, Nat.reduceAdd, Nat.reduceMul, Nat.reduceSub, Nat.reduceLeDiff, reduceIte, and_true, true_and, and_false, false_and, and_self, if_true, if_false, Bool.false_eq_true, not_true_eq_false, not_false_eq_true]
      by_cases c : p = i
      · rw [if_pos c, c]
      · rw [if_neg c]; exact h11 p (by omega))
    refine ⟨h', ?_, k1.tr k, q1, q2⟩
    rw [← e]
    have ea := at_t hS hA N (t := 0) (by omega) hil
    show fX0_take_B12 N (fX0_take_L12 N n) h _ _ = _
    simp only [fX0_take_B12, fX0_take_b40, h93, show isO 7 3 = true from by decide, if_true]
    rw [if_neg (by rw [nI_leI (by omega) (by omega)]; omega), show fX7_at N h 3 (nI i) = _ from ea]
    simp (disch := omega) only [Option.bind_some, ix_nI, if_true, nI_clamp, nI_1, narB.1, narB.2]
    show _ = fX0_take_L12 N n (pw h 11 i (if decide (t_b σ 0 i = 114) then 1 else 0)) 3 (nI (i + 1))
    by_cases c : t_b σ 0 i = 114
    · rw [if_pos c, decide_eq_true c]; rfl
    · rw [if_neg c, decide_eq_false c]; rfl
theorem bt_eq {σ : St} {h : pH} (hS : Sok σ) (hA : Ac σ h) {N : Nat} (hN : 1000 ≤ N) :
    ∃ h', fX0_take N h 3 (nI (np (wOf σ))) = some ((), h') ∧ Kq (fun a b => (a = 9 ∧ b = 3) ∨ a = 11 ∨ a = 12 ∨ a = 13) h h' ∧ h'.1 9 3 = nI (np (wOf σ)) ∧ (∀ p, p < np (wOf σ) → h'.1 11 p = if rot (wOf σ) p then 1 else 0) ∧ rowsOk (wOf σ) (np (wOf σ)) h' := by
  have w1 := (wok_of hS).1
  have k1 : Kq (fun a b => (a = 9 ∧ b = 3) ∨ a = 11 ∨ a = 12 ∨ a = 13) h (pw h 9 3 (nI (np (wOf σ)))) := (Kq.rf h).pw (by omega)
  obtain ⟨h', e, k, q1, q2⟩ := bt_loop hS hN (np (wOf σ)) N 0 (pw h 9 3 (nI (np (wOf σ)))) (by omega) (by omega) (hA.kq (k1.mono (fun a b z => by unfold SQ; omega))) (by simp only [pw_at, Nat.reduceEqDiff, Nat.reduceAdd, Nat.reduceMul, Nat.reduceSub, Nat.reduceLeDiff, reduceIte, and_true, true_and, and_false, false_and, and_self, if_true, if_false, Bool.false_eq_true, not_true_eq_false, not_false_eq_true]) (fun p hp => absurd hp (by omega))
  refine ⟨h', ?_, k1.tr (k.mono (fun a b z => by omega)), by rw [k _ _ (by omega)]; simp only [pw_at, Nat.reduceEqDiff, Nat.reduceAdd, Nat.reduceMul, Nat.reduceSub, Nat.reduceLeDiff, reduceIte, and_true, true_and, and_false, false_and, and_self, if_true, if_false, Bool.false_eq_true, not_true_eq_false, not_false_eq_true], q1, q2⟩
  rw [fX0_take, show (19 : Int32) = nI 19 from rfl, min_eq N h _ _ (by omega) (by omega), Nat.min_eq_left w1]
  exact e
