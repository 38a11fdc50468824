/-! ===== the reference's digest ===== -/
def dgf (F : Nat → Int64 → Int64) : Nat → Nat → Int64 → Int64
  | 0, _, a => a
  | d + 1, i, a => dgf F d (i + 1) (F i a)
def dF1 (σ : St) (k : Nat) (a : Int64) : Int64 := 31 * a + (a_count σ (nI k)).toInt64
def dF2 (σ : St) (t : Nat) (a : Int64) : Int64 := 31 * a + (a_flt σ (nI t)).toInt64
def dF3 (σ : St) (p : Nat) (a : Int64) : Int64 := 31 * (31 * (31 * a + (a_plank σ (nI p)).toInt64) + a_maybe σ 5 (nI p) 0) + a_maybe σ 5 (nI p) 1
def dFc (σ : St) (k j : Nat) (a : Int64) : Int64 := 31 * a + (a_crosser σ (nI k) (nI j)).toInt64
def dF4 (σ : St) (k : Nat) (a : Int64) : Int64 := 31 * (31 * (31 * (31 * dgf (dFc σ k) 4 0 a + (a_times σ (nI k) 0).toInt64) + (a_times σ (nI k) 1).toInt64) + (a_ahead σ (nI k)).toInt64) + (a_often σ (nI k) 0).toInt64
def dFx (σ : St) (i j : Nat) (a : Int64) : Int64 := 31 * a + (a_comes σ (nI i) (nI j)).toInt64
def dF5 (σ : St) (i : Nat) (a : Int64) : Int64 := dgf (dFx σ i) 3 0 (31 * a + (a_crossing σ (nI i)).toInt64)
def dF6 (σ : St) (n : Nat) (a : Int64) : Int64 := 31 * (31 * a + (a_gap σ (nI n)).toInt64) + (a_taken σ (nI n)).toInt64
def dF8 (σ : St) (j : Nat) (a : Int64) : Int64 := 31 * a + (a_order σ (nI j)).toInt64
def dF9 (σ : St) (k : Nat) (a : Int64) : Int64 := 31 * a + (a_rule σ (nI k)).toInt64
def dE (σ : St) (a : Int64) : Int64 := 31 * (31 * (31 * (31 * a + (a_began σ).toInt64) + (0 : Int32).toInt64) + (a_week σ 7 30 0).toInt64) + (a_week σ 7 30 1).toInt64
def dM (σ : St) (a : Int64) : Int64 := 31 * (31 * a + (a_stuck σ).toInt64) + (a_worn σ).toInt64
def d5 (σ : St) : Int64 := dgf (dF5 σ) (nc (wOf σ)) 0 (dgf (dF4 σ) (nk (wOf σ)) 0 (dgf (dF3 σ) (np (wOf σ)) 0 (dgf (dF2 σ) 3 0 (dgf (dF1 σ) 8 0 17))))
def a_digest (σ : St) : Int64 := dE σ (dgf (dF9 σ) 4 0 (dgf (dF8 σ) 4 0 (dM σ (dgf (dF6 σ) (nc (wOf σ) + 1) 0 (d5 σ)))))
theorem reads_eq {σ : St} {h : pH} (hS : Sok σ) (hB : Bm σ h) (hF : mF (wOf σ) h) {N : Nat} (hN : 1000 ≤ N) {t : Nat} (ht : t < 3) : ∃ h', fX9_readsText N h (nI t) = some (a_flt σ (nI t), h') ∧ Kp SF h h' ∧ mF (wOf σ) h' := by
  obtain ⟨q1, q2, q3, q4, q5, q6, q7, q8, q9⟩ := hF
  have e0 : a_flt σ (nI t) = flt σ t := by
    unfold a_flt
    rw [if_pos (ix_nI ht (by decide)), nI_clamp (by omega)]
  rw [e0]
  simp only [fX9_readsText, fX9_readsText_b27]
  rcases (show t = 0 ∨ t = 1 ∨ t = 2 by omega) with rfl | rfl | rfl
  · obtain ⟨h', e, k, a1, b1⟩ := readsPlanks_eq hS hB hN
    rw [if_pos (by decide), e]
    have k2 : Kp SF h h' := k.mono (fun a b z => by unfold SP at z; unfold SF; omega)
    have ee : ∀ a b, ¬ SP a b → h'.1 a b = h.1 a b := k.2
    unfold SP at ee
    refine ⟨h', rfl, k2, a1, b1, ?_, ?_, ?_, ?_, ?_, ?_, ?_⟩
    · rw [ee _ _ (by omega)]; exact q3
    · intro k hk; rw [ee _ _ (by omega), ee _ _ (by omega), ee _ _ (by omega), ee _ _ (by omega)]; exact q4 k hk
    · rw [ee _ _ (by omega)]; exact q5
    · intro i hi; rw [ee _ _ (by omega)]; exact q6 i hi
    · rw [ee _ _ (by omega)]; exact q7
    · rw [ee _ _ (by omega)]; exact q8
    · intro k hk; rw [ee _ _ (by omega)]; exact q9 k hk
  · obtain ⟨h', e, k, a1, b1⟩ := readsCrossers_eq hS hB hN
    rw [if_neg (by decide), if_pos (by decide), e]
    have k2 : Kp SF h h' := k.mono (fun a b z => by unfold SC at z; unfold SF; omega)
    have ee : ∀ a b, ¬ SC a b → h'.1 a b = h.1 a b := k.2
    unfold SC at ee
    refine ⟨h', rfl, k2, ?_, ?_, a1, b1, ?_, ?_, ?_, ?_, ?_⟩
    · rw [ee _ _ (by omega)]; exact q1
    · intro p hp; rw [ee _ _ (by omega)]; exact q2 p hp
    · rw [ee _ _ (by omega)]; exact q5
    · intro i hi; rw [ee _ _ (by omega)]; exact q6 i hi
    · rw [ee _ _ (by omega)]; exact q7
    · rw [ee _ _ (by omega)]; exact q8
    · intro k hk; rw [ee _ _ (by omega)]; exact q9 k hk
  · obtain ⟨h', e, k, a1, b1⟩ := readsCrossings_eq hS hB hN
    rw [if_neg (by decide), if_neg (by decide), e]
    have k2 : Kp SF h h' := k.mono (fun a b z => by unfold SX at z; unfold SF; omega)
    have ee : ∀ a b, ¬ SX a b → h'.1 a b = h.1 a b := k.2
    unfold SX at ee
    refine ⟨h', rfl, k2, ?_, ?_, ?_, ?_, a1, b1, ?_, ?_, ?_⟩
    · rw [ee _ _ (by omega)]; exact q1
    · intro p hp; rw [ee _ _ (by omega)]; exact q2 p hp
    · rw [ee _ _ (by omega)]; exact q3
    · intro k hk; rw [ee _ _ (by omega), ee _ _ (by omega), ee _ _ (by omega), ee _ _ (by omega)]; exact q4 k hk
    · rw [ee _ _ (by omega)]; exact q7
    · rw [ee _ _ (by omega)]; exact q8
    · intro k hk; rw [ee _ _ (by omega)]; exact q9 k hk
theorem dg1 {σ : St} (hS : Sok σ) {N : Nat} (hN : 1000 ≤ N) : ∀ (d n i : Nat) (a : Int64) (h : pH), i + d = 8 → d < n → Bm σ h → (0 < i → mF (wOf σ) h) →
    ∃ h', fX9_digest_L6 N n h a (nI i) = fX9_digest_L33 N N h' (dgf (dF1 σ) d i a) 0 ∧ Kp SF h h' ∧ mF (wOf σ) h' := by
  intro d
  induction d with
  | zero =>
    intro n i a h hi hn hB hF
    obtain ⟨n, rfl⟩ : ∃ m, n = m + 1 := ⟨n - 1, by omega⟩
    refine ⟨h, ?_, Kp.rf h, hF (by omega)⟩
    show fX9_digest_B6 N (fX9_digest_L6 N n) h _ _ = _
    simp only [fX9_digest_B6]
    rw [if_pos (by rw [show (8 : Int32) = nI 8 from rfl, nI_leI (by omega) (by omega)]; omega)]
    rfl
  | succ d ih =>
    intro n i a h hi hn hB hF
    obtain ⟨n, rfl⟩ : ∃ m, n = m + 1 := ⟨n - 1, by omega⟩
    obtain ⟨h1, e1, k1, hF1, -⟩ := count_eq hS hB hN (nI i)
    obtain ⟨h2, e2, k2, hF2⟩ := ih n (i + 1) (dF1 σ i a) h1 (by omega) (by omega) (hB.kp k1) (fun _ => hF1)
    refine ⟨h2, ?_, k1.tr k2, hF2⟩
    show fX9_digest_B6 N (fX9_digest_L6 N n) h _ _ = _
    simp only [fX9_digest_B6]
    rw [if_neg (by rw [show (8 : Int32) = nI 8 from rfl, nI_leI (by omega) (by omega)]; omega), e1]
    simp only [Option.bind_some, nI_1]
    exact e2
theorem dg2 {σ : St} (hS : Sok σ) {N : Nat} (hN : 1000 ≤ N) : ∀ (d n i : Nat) (a : Int64) (h : pH), i + d = 3 → d < n → Bm σ h → mF (wOf σ) h →
    ∃ h', fX9_digest_L33 N n h a (nI i) = fX9_digest_L59 N N h' (dgf (dF2 σ) d i a) 0 ∧ Kp SF h h' ∧ mF (wOf σ) h' := by
  intro d
  induction d with
  | zero =>
    intro n i a h hi hn hB hF
    obtain ⟨n, rfl⟩ : ∃ m, n = m + 1 := ⟨n - 1, by omega⟩
    refine ⟨h, ?_, Kp.rf h, hF⟩
    show fX9_digest_B33 N (fX9_digest_L33 N n) h _ _ = _
    simp only [fX9_digest_B33]
    rw [if_pos (by rw [show (3 : Int32) = nI 3 from rfl, nI_leI (by omega) (by omega)]; omega)]
    rfl
  | succ d ih =>
    intro n i a h hi hn hB hF
    obtain ⟨n, rfl⟩ : ∃ m, n = m + 1 := ⟨n - 1, by omega⟩
    obtain ⟨h1, e1, k1, hF1⟩ := reads_eq hS hB hF hN (t := i) (by omega)
    obtain ⟨h2, e2, k2, hF2⟩ := ih n (i + 1) (dF2 σ i a) h1 (by omega) (by omega) (hB.kp k1) hF1
    refine ⟨h2, ?_, k1.tr k2, hF2⟩
    show fX9_digest_B33 N (fX9_digest_L33 N n) h _ _ = _
    simp only [fX9_digest_B33]
    rw [if_neg (by rw [show (3 : Int32) = nI 3 from rfl, nI_leI (by omega) (by omega)]; omega), e1]
    simp only [Option.bind_some, nI_1]
    exact e2
theorem dg3 {σ : St} (hS : Sok σ) {N : Nat} (hN : 2 ^ 50 ≤ N) : ∀ (d n i : Nat) (a : Int64) (h : pH), i + d = np (wOf σ) → d < n → Bm σ h → mF (wOf σ) h →
    ∃ h', fX9_digest_L59 N n h a (nI i) = fX9_digest_L117 N N h' (dgf (dF3 σ) d i a) 0 ∧ Kp SF h h' ∧ mF (wOf σ) h' := by
  have w1 := (wok_of hS).1
  intro d
  induction d with
  | zero =>
    intro n i a h hi hn hB hF
    obtain ⟨n, rfl⟩ : ∃ m, n = m + 1 := ⟨n - 1, by omega⟩
    refine ⟨h, ?_, Kp.rf h, hF⟩
    show fX9_digest_B59 N (fX9_digest_L59 N n) h _ _ = _
    simp only [fX9_digest_B59, hF.1]
    rw [if_pos (by rw [nI_leI (by omega) (by omega)]; omega)]
    rfl
  | succ d ih =>
    intro n i a h hi hn hB hF
    obtain ⟨n, rfl⟩ : ∃ m, n = m + 1 := ⟨n - 1, by omega⟩
    obtain ⟨h1, e1, k1, hF1⟩ := m_maybe hS hB hN 5 (nI i) 0
    obtain ⟨h2, e2, k2, hF2⟩ := m_maybe hS (hB.kp k1) hN 5 (nI i) 1
    obtain ⟨h3, e3, k3, hF3⟩ := ih n (i + 1) (dF3 σ i a) h2 (by omega) (by omega) ((hB.kp k1).kp k2) hF2
    refine ⟨h3, ?_, (k1.tr k2).tr k3, hF3⟩
    have ep : h.1 56 i = a_plank σ (nI i) := by
      rw [hF.2.1 i (by omega)]
      unfold a_plank
      rw [if_pos (ix_nI (by omega) (by omega)), nI_clamp (by omega), if_pos (show i < np (wOf σ) by omega)]
    show fX9_digest_B59 N (fX9_digest_L59 N n) h _ _ = _
    simp only [fX9_digest_B59, hF.1]
    rw [if_neg (by rw [nI_leI (by omega) (by omega)]; omega), if_pos (ix_nI (by omega) (by omega)), nI_clamp (by omega), ep, e1]
    simp only [Option.bind_some, e2, nI_1]
    exact e3
theorem tells_in {σ : St} {h : pH} (hS : Sok σ) (hF : mF (wOf σ) h) (N : Nat) {k : Nat} (hk : k < nk (wOf σ)) : ∀ (d n j : Nat) (a : Int64), j + d = 4 → d < n →
    fX9_tellsCrosser_L10 N n h (nI k) a (nI j) = ((fX9_timesBy N h (nI k) 0).bind fun z1 => ((fX9_timesBy N z1.2 (nI k) 1).bind fun z2 => ((fX9_aheadOf N z2.2 (nI k)).bind fun z3 => ((fX9_often N z3.2 (nI k) 0).bind fun z4 => (some ((31 * ((31 * ((31 * ((31 * (dgf (dFc σ k) d j a)) + z1.1.toInt64)) + z2.1.toInt64)) + z3.1.toInt64)) + z4.1.toInt64, z4.2)))))) := by
  have w2 := (wok_of hS).2.1
  intro d
  induction d with
  | zero =>
    intro n j a hj hn
    obtain ⟨n, rfl⟩ : ∃ m, n = m + 1 := ⟨n - 1, by omega⟩
    show fX9_tellsCrosser_B10 N (fX9_tellsCrosser_L10 N n) h _ _ _ = _
    simp only [fX9_tellsCrosser_B10]
    rw [if_pos (by rw [show (4 : Int32) = nI 4 from rfl, nI_leI (by omega) (by omega)]; omega)]
    rfl
  | succ d ih =>
    intro n j a hj hn
    obtain ⟨n, rfl⟩ : ∃ m, n = m + 1 := ⟨n - 1, by omega⟩
    have e := ih n (j + 1) (dFc σ k j a) (by omega) (by omega)
    have q := hF.2.2.2.1 k hk
    have ec : h.1 57 (4 * k + j) = a_crosser σ (nI k) (nI j) := by
      unfold a_crosser cf
      rw [if_pos ⟨ix_nI hk (by omega), ix_nI (by omega) (by decide)⟩, nI_clamp (by omega), nI_clamp (by omega)]
      rcases (show j = 0 ∨ j = 1 ∨ j = 2 ∨ j = 3 by omega) with rfl | rfl | rfl | rfl
      · exact q.1
      · exact q.2.1
      · exact q.2.2.1
      · exact q.2.2.2
    show fX9_tellsCrosser_B10 N (fX9_tellsCrosser_L10 N n) h _ _ _ = _
    simp only [fX9_tellsCrosser_B10, lit_mul_nI, nI_add]
    rw [if_neg (by rw [show (4 : Int32) = nI 4 from rfl, nI_leI (by omega) (by omega)]; omega), if_pos (ix_nI (by omega) (by omega)), nI_clamp (by omega), ec, nI_1]
    exact e
theorem timesBy_eq {w : Wt} {h : pH} (hw : wok w) (hF : mF w h) (hL : Lz w h) {N : Nat} (hN : 1000 ≤ N) {k y : Nat} (hk : k < 100) (hy : y < 2) : fX9_timesBy N h (nI k) (nI y) = some (nI (cntT w k y (nc w)), h) := by
  have w4 := hw.2.2.2.1
  exact timesBy_loop hw hF hL N hk hy (nc w) N 0 (by omega) (by omega)
theorem lives_z {w : Wt} {h : pH} (hw : wok w) (hF : mF w h) (hgo : h.1 49 20 = 0) {N : Nat} (hN : 1000 ≤ N) : ∃ h', fX9_lives N h = some ((), h') ∧ Kp S7 h h' ∧ mF w h' ∧ Lz w h' := by
  obtain ⟨h1, e1, k1, l1⟩ := lives_eq hw hF hN (m := 0) (by decide) (by rw [hgo]; rfl)
  rw [z_bit] at l1
  refine ⟨h1, e1, k1, hF.kp (k1.mono (fun _ _ => S7_SM)), ?_⟩
  obtain ⟨h1, h2, h3⟩ := l1
  refine ⟨h1, h2, fun j hj => ?_⟩
  have := h3 j hj
  simpa [ocm, tom, rom, G] using this
theorem tells_eq {σ : St} {h : pH} (hS : Sok σ) (hB : Bm σ h) (hF : mF (wOf σ) h) {N : Nat} (hN : 1000 ≤ N) {k : Nat} (hk : k < nk (wOf σ)) (a : Int64) : ∃ h', fX9_tellsCrosser N h a (nI k) = some (dF4 σ k a, h') ∧ Kp SF h h' ∧ mF (wOf σ) h' := by
  have w2 := (wok_of hS).2.1
  obtain ⟨h1, e1, k1, hF1, hL1⟩ := lives_z (wok_of hS) hF hB.go hN
  have hB1 := hB.kp (k1.mono (fun _ _ => S7_SF))
  obtain ⟨h2, e2, k2⟩ := aheadOf_eq (wok_of hS) hF1 hB1.go hN hk
  have hB2 := hB1.kp (k2.mono (fun _ _ => S7_SF))
  obtain ⟨h3, e3, k3, hF3⟩ := m_often hS hB2 hN (nI k) 0
  refine ⟨h3, ?_, ((k1.mono (fun _ _ => S7_SF)).tr (k2.mono (fun _ _ => S7_SF))).tr k3, hF3⟩
  have t0 := timesBy_eq (wok_of hS) hF1 hL1 hN (k := k) (y := 0) (by omega) (by omega)
  have t1 := timesBy_eq (wok_of hS) hF1 hL1 hN (k := k) (y := 1) (by omega) (by omega)
  have a0 : a_times σ (nI k) 0 = nI (cntT (wOf σ) k 0 (nc (wOf σ))) := by
    unfold a_times
    rw [if_pos ⟨ix_nI hk (by omega), by decide⟩, nI_clamp (by omega)]; rfl
  have a1 : a_times σ (nI k) 1 = nI (cntT (wOf σ) k 1 (nc (wOf σ))) := by
    unfold a_times
    rw [if_pos ⟨ix_nI hk (by omega), by decide⟩, nI_clamp (by omega)]; rfl
  have a2 : a_ahead σ (nI k) = ahd (wOf σ) k := by
    unfold a_ahead
    rw [if_pos (ix_nI hk (by omega)), nI_clamp (by omega)]
  rw [fX9_tellsCrosser, e1]
  simp only [Option.bind_some]
  have ei := tells_in hS hF1 N hk 4 N 0 a (by omega) (by omega)
  rw [show (0 : Int32) = nI 0 from rfl] at e3 ⊢
  rw [ei]
  have t0' : fX9_timesBy N h1 (nI k) 0 = _ := t0
  have t1' : fX9_timesBy N h1 (nI k) 1 = _ := t1
  have e3' : fX9_often N h2 (nI k) 0 = _ := e3
  rw [t0']
  simp only [Option.bind_some, t1', e2, e3']
  unfold dF4
  rw [a0, a1, a2]
  rfl
theorem dg4 {σ : St} (hS : Sok σ) {N : Nat} (hN : 1000 ≤ N) : ∀ (d n i : Nat) (a : Int64) (h : pH), i + d = nk (wOf σ) → d < n → Bm σ h → mF (wOf σ) h →
    ∃ h', fX9_digest_L117 N n h a (nI i) = fX9_digest_L144 N N h' (dgf (dF4 σ) d i a) 0 ∧ Kp SF h h' ∧ mF (wOf σ) h' ∧ Lz (wOf σ) h' := by
  have w2 := (wok_of hS).2.1
  intro d
  induction d with
  | zero =>
    intro n i a h hi hn hB hF
    obtain ⟨n, rfl⟩ : ∃ m, n = m + 1 := ⟨n - 1, by omega⟩
    obtain ⟨h1, e1, k1, hF1, hL1⟩ := lives_z (wok_of hS) hF hB.go hN
    refine ⟨h1, ?_, k1.mono (fun _ _ => S7_SF), hF1, hL1⟩
    show fX9_digest_B117 N (fX9_digest_L117 N n) h _ _ = _
    simp only [fX9_digest_B117, hF.2.2.1]
    rw [if_pos (by rw [nI_leI (by omega) (by omega)]; omega), e1]
    rfl
  | succ d ih =>
    intro n i a h hi hn hB hF
    obtain ⟨n, rfl⟩ : ∃ m, n = m + 1 := ⟨n - 1, by omega⟩
    obtain ⟨h1, e1, k1, hF1⟩ := tells_eq hS hB hF hN (k := i) (by omega) a
    obtain ⟨h2, e2, k2, hF2, hL2⟩ := ih n (i + 1) (dF4 σ i a) h1 (by omega) (by omega) (hB.kp k1) hF1
    refine ⟨h2, ?_, k1.tr k2, hF2, hL2⟩
    show fX9_digest_B117 N (fX9_digest_L117 N n) h _ _ = _
    simp only [fX9_digest_B117, hF.2.2.1]
    rw [if_neg (by rw [nI_leI (by omega) (by omega)]; omega), e1]
    simp only [Option.bind_some, nI_1]
    exact e2
theorem dg5i {σ : St} {h : pH} (hS : Sok σ) (hL : Lz (wOf σ) h) (N : Nat) (K : pH → Int64 → Int32 → Option (Int64 × pH)) {i : Nat} (hi : i < nc (wOf σ)) : ∀ (d n j : Nat) (a : Int64), j + d = 3 → d < n →
    fX9_digest_L169 N K n h a (nI i) (nI j) = K h (dgf (dFx σ i) d j a) (nI (i + 1)) := by
  have w4 := (wok_of hS).2.2.2.1
  intro d
  induction d with
  | zero =>
    intro n j a hj hn
    obtain ⟨n, rfl⟩ : ∃ m, n = m + 1 := ⟨n - 1, by omega⟩
    show fX9_digest_B169 N K (fX9_digest_L169 N K n) h _ _ _ = _
    simp only [fX9_digest_B169, nI_1]
    rw [if_pos (by rw [show (3 : Int32) = nI 3 from rfl, nI_leI (by omega) (by omega)]; omega)]
    rfl
  | succ d ih =>
    intro n j a hj hn
    obtain ⟨n, rfl⟩ : ∃ m, n = m + 1 := ⟨n - 1, by omega⟩
    have e := ih n (j + 1) (dFx σ i j a) (by omega) (by omega)
    have ec : a_comes σ (nI i) (nI j) = nI (cb (wOf σ) i j) := by
      unfold a_comes
      rw [if_pos ⟨ix_nI hi (by omega), ix_nI (by omega) (by decide)⟩, nI_clamp (by omega), nI_clamp (by omega)]
    show fX9_digest_B169 N K (fX9_digest_L169 N K n) h _ _ _ = _
    simp only [fX9_digest_B169]
    rw [if_neg (by rw [show (3 : Int32) = nI 3 from rfl, nI_leI (by omega) (by omega)]; omega), comesBy_eq (wok_of hS) hL N hi (by omega)]
    simp only [Option.bind_some, nI_1]
    rw [← ec]
    exact e
theorem dg5 {σ : St} {h : pH} (hS : Sok σ) (hF : mF (wOf σ) h) (hL : Lz (wOf σ) h) {N : Nat} (hN : 1000 ≤ N) : ∀ (d n i : Nat) (a : Int64), i + d = nc (wOf σ) → d < n →
    fX9_digest_L144 N n h a (nI i) = fX9_digest_L204 N N h (dgf (dF5 σ) d i a) 0 := by
  have w4 := (wok_of hS).2.2.2.1
  intro d
  induction d with
  | zero =>
    intro n i a hi hn
    obtain ⟨n, rfl⟩ : ∃ m, n = m + 1 := ⟨n - 1, by omega⟩
    show fX9_digest_B144 N (fX9_digest_L144 N n) h _ _ = _
    simp only [fX9_digest_B144, hF.2.2.2.2.1]
    rw [if_pos (by rw [nI_leI (by omega) (by omega)]; omega)]
    rfl
  | succ d ih =>
    intro n i a hi hn
    obtain ⟨n, rfl⟩ : ∃ m, n = m + 1 := ⟨n - 1, by omega⟩
    have e := ih n (i + 1) (dF5 σ i a) (by omega) (by omega)
    have ec : h.1 58 i = a_crossing σ (nI i) := by
      unfold a_crossing
      rw [if_pos (ix_nI (by omega) (by decide)), nI_clamp (by omega), if_pos (by omega)]
      exact hF.2.2.2.2.2.1 i (by omega)
    have ei := dg5i hS hL N (fX9_digest_L144 N n) (i := i) (by omega) 3 N 0 (31 * a + (a_crossing σ (nI i)).toInt64) (by omega) (by omega)
    show fX9_digest_B144 N (fX9_digest_L144 N n) h _ _ = _
    simp only [fX9_digest_B144, hF.2.2.2.2.1]
    rw [if_neg (by rw [nI_leI (by omega) (by omega)]; omega), if_pos (ix_nI (by omega) (by omega)), nI_clamp (by omega), ec, show (0 : Int32) = nI 0 from rfl, ei]
    exact e
theorem dg6 {σ : St} {h : pH} (hS : Sok σ) (hF : mF (wOf σ) h) (hL : Lz (wOf σ) h) {N : Nat} (hN : 1000 ≤ N) : ∀ (d n i : Nat) (a : Int64), i + d = nc (wOf σ) + 1 → d < n →
    fX9_digest_L204 N n h a (nI i) = (fX9_findOrder N h).bind fun z3 => (fX9_digest_L275 N N z3.2 (dM σ (dgf (dF6 σ) d i a)) 0) := by
  have w4 := (wok_of hS).2.2.2.1
  intro d
  induction d with
  | zero =>
    intro n i a hi hn
    obtain ⟨n, rfl⟩ : ∃ m, n = m + 1 := ⟨n - 1, by omega⟩
    show fX9_digest_B204 N (fX9_digest_L204 N n) h _ _ = _
    simp only [fX9_digest_B204, hF.2.2.2.2.1]
    rw [if_pos (by rw [nI_ltI (by omega) (by omega)]; omega), stuckNow_eq (wok_of hS) hF hL hN]
    simp only [Option.bind_some, wornNow_eq (wok_of hS) hF hL hN]
    rfl
  | succ d ih =>
    intro n i a hi hn
    obtain ⟨n, rfl⟩ : ∃ m, n = m + 1 := ⟨n - 1, by omega⟩
    have e := ih n (i + 1) (dF6 σ i a) (by omega) (by omega)
    have eg : h.1 61 i = a_gap σ (nI i) := by
      unfold a_gap
      rw [if_pos (ix_nI (by omega) (by omega)), nI_clamp (by omega)]
      exact hL.2.1 i (by omega)
    have et : a_taken σ (nI i) = nI (sumT (wOf σ) i) := by
      unfold a_taken
      rw [if_pos (ix_nI (by omega) (by omega)), nI_clamp (by omega)]
    show fX9_digest_B204 N (fX9_digest_L204 N n) h _ _ = _
    simp only [fX9_digest_B204, hF.2.2.2.2.1]
    rw [if_neg (by rw [nI_ltI (by omega) (by omega)]; omega), if_pos (ix_nI (by omega) (by omega)), nI_clamp (by omega), eg, takenBy_eq (wok_of hS) hL hN (by omega), ← et, nI_1]
    exact e
theorem dg8 {σ : St} {h : pH} (hS : Sok σ) (h9 : h.1 49 9 = nI (nk (wOf σ))) (hb : BO (wOf σ) (some (oR (wOf σ))) h) (N : Nat) : ∀ (d n i : Nat) (a : Int64), i + d = 4 → d < n →
    fX9_digest_L275 N n h a (nI i) = fX9_digest_L301 N N h (dgf (dF8 σ) d i a) 0 := by
  intro d
  induction d with
  | zero =>
    intro n i a hi hn
    obtain ⟨n, rfl⟩ : ∃ m, n = m + 1 := ⟨n - 1, by omega⟩
    show fX9_digest_B275 N (fX9_digest_L275 N n) h _ _ = _
    simp only [fX9_digest_B275]
    rw [if_pos (by rw [show (4 : Int32) = nI 4 from rfl, nI_leI (by omega) (by omega)]; omega)]
    rfl
  | succ d ih =>
    intro n i a hi hn
    obtain ⟨n, rfl⟩ : ∃ m, n = m + 1 := ⟨n - 1, by omega⟩
    have e := ih n (i + 1) (dF8 σ i a) (by omega) (by omega)
    have eo : a_order σ (nI i) = ordA (wOf σ) i := by
      unfold a_order
      rw [if_pos (ix_nI (by omega) (by omega)), nI_clamp (by omega)]
    show fX9_digest_B275 N (fX9_digest_L275 N n) h _ _ = _
    simp only [fX9_digest_B275]
    rw [if_neg (by rw [show (4 : Int32) = nI 4 from rfl, nI_leI (by omega) (by omega)]; omega), orderBy_eq (wok_of hS) h9 hb N (by omega), ← eo]
    simp only [Option.bind_some, nI_1]
    exact e
theorem dg9 {σ : St} (hS : Sok σ) {N : Nat} (hN : 1000 ≤ N) : ∀ (d n i : Nat) (a : Int64) (h : pH), i + d = 4 → d < n → Bm σ h → mF (wOf σ) h →
    ∃ h', fX9_digest_L301 N n h a (nI i) = some (dE σ (dgf (dF9 σ) d i a), h') ∧ Kp SF h h' := by
  intro d
  induction d with
  | zero =>
    intro n i a h hi hn hB hF
    obtain ⟨n, rfl⟩ : ∃ m, n = m + 1 := ⟨n - 1, by omega⟩
    obtain ⟨h1, e1, k1⟩ := beganNow_eq (wok_of hS) hF (hB.sg hS) hB.go hN
    have hF1 := hF.kp (k1.mono (fun _ _ => S7_SM))
    have hB1 := hB.kp (k1.mono (fun _ _ => S7_SF))
    obtain ⟨h2, e2, k2⟩ := askNow_eq (wok_of hS) hF1 (hB1.sg hS) hB1.go hN
    have hF2 := hF1.kp k2
    have hB2 := hB1.kp (k2.mono (fun _ _ => SM_SF))
    obtain ⟨h3, e3, k3⟩ := weekOf_eq (wok_of hS) hF2 hB2.go hN 7 (m := 30) (y := 0) (by omega) (by omega)
    have hF3 := hF2.kp k3
    have hB3 := hB2.kp (k3.mono (fun _ _ => SM_SF))
    obtain ⟨h4, e4, k4⟩ := weekOf_eq (wok_of hS) hF3 hB3.go hN 7 (m := 30) (y := 1) (by omega) (by omega)
    have e3' : fX9_weekOf N h2 7 30 0 = _ := e3
    have e4' : fX9_weekOf N h3 7 30 1 = _ := e4
    refine ⟨h4, ?_, (((k1.mono (fun _ _ => S7_SF)).tr (k2.mono (fun _ _ => SM_SF))).tr (k3.mono (fun _ _ => SM_SF))).tr (k4.mono (fun _ _ => SM_SF))⟩
    show fX9_digest_B301 N (fX9_digest_L301 N n) h _ _ = _
    simp only [fX9_digest_B301]
    rw [if_pos (by rw [show (4 : Int32) = nI 4 from rfl, nI_leI (by omega) (by omega)]; omega), e1]
    simp only [Option.bind_some, e2, e3', e4']
    have w0 : a_week σ 7 30 0 = wkA (wOf σ) 7 30 0 := by
      unfold a_week
      rw [if_pos (by decide)]; rfl
    have w1 : a_week σ 7 30 1 = wkA (wOf σ) 7 30 1 := by
      unfold a_week
      rw [if_pos (by decide)]; rfl
    unfold dE
    rw [w0, w1]
    rfl
  | succ d ih =>
    intro n i a h hi hn hB hF
    obtain ⟨n, rfl⟩ : ∃ m, n = m + 1 := ⟨n - 1, by omega⟩
    obtain ⟨h1, e1, k1⟩ := ruleOf_eq (wok_of hS) hF (hB.sg hS) hB.go hN (kind := i) (by omega)
    obtain ⟨h2, e2, k2⟩ := ih n (i + 1) (dF9 σ i a) h1 (by omega) (by omega) (hB.kp (k1.mono (fun _ _ => S7_SF))) (hF.kp (k1.mono (fun _ _ => S7_SM)))
    have eo : a_rule σ (nI i) = nI (rlb (wOf σ) (t_cn σ) (t_sb σ) (t_sp σ) i 19) := by
      unfold a_rule
      rw [if_pos (ix_nI (by omega) (by omega)), nI_clamp (by omega)]
    refine ⟨h2, ?_, (k1.mono (fun _ _ => S7_SF)).tr k2⟩
    show fX9_digest_B301 N (fX9_digest_L301 N n) h _ _ = _
    simp only [fX9_digest_B301]
    rw [if_neg (by rw [show (4 : Int32) = nI 4 from rfl, nI_leI (by omega) (by omega)]; omega), e1, ← eo]
    simp only [Option.bind_some, nI_1]
    exact e2
theorem m_digest {σ : St} {h : pH} (hS : Sok σ) (hB : Bm σ h) {N : Nat} (hN : 2 ^ 50 ≤ N) : ∃ h', fX9_digest N h = some (a_digest σ, h') ∧ Kp SF h h' := by
  have w1 := (wok_of hS).1
  have w2 := (wok_of hS).2.1
  have w4 := (wok_of hS).2.2.2.1
  obtain ⟨h1, e1, k1, hF1⟩ := dg1 hS (N := N) (by omega) 8 N 0 17 h (by omega) (by omega) hB (fun z => absurd z (by omega))
  have hB1 := hB.kp k1
  obtain ⟨h2, e2, k2, hF2⟩ := dg2 hS (N := N) (by omega) 3 N 0 (dgf (dF1 σ) 8 0 17) h1 (by omega) (by omega) hB1 hF1
  have hB2 := hB1.kp k2
  obtain ⟨h3, e3, k3, hF3⟩ := dg3 hS hN (np (wOf σ)) N 0 (dgf (dF2 σ) 3 0 (dgf (dF1 σ) 8 0 17)) h2 (by omega) (by omega) hB2 hF2
  have hB3 := hB2.kp k3
  obtain ⟨h4, e4, k4, hF4, hL4⟩ := dg4 hS (N := N) (by omega) (nk (wOf σ)) N 0 (dgf (dF3 σ) (np (wOf σ)) 0 (dgf (dF2 σ) 3 0 (dgf (dF1 σ) 8 0 17))) h3 (by omega) (by omega) hB3 hF3
  have hB4 := hB3.kp k4
  have e5 := dg5 hS hF4 hL4 (N := N) (by omega) (nc (wOf σ)) N 0 (dgf (dF4 σ) (nk (wOf σ)) 0 (dgf (dF3 σ) (np (wOf σ)) 0 (dgf (dF2 σ) 3 0 (dgf (dF1 σ) 8 0 17)))) (by omega) (by omega)
  have e6 := dg6 hS hF4 hL4 (N := N) (by omega) (nc (wOf σ) + 1) N 0 (d5 σ) (by omega) (by omega)
  obtain ⟨h7, e7, k7, b7⟩ := findOrder_eq (wok_of hS) hF4 hN
  have hF7 := hF4.kp (k7.mono (fun _ _ => SO_SM))
  have hB7 := hB4.kp (k7.mono (fun _ _ z => SM_SF (SO_SM z)))
  have e8 := dg8 hS hF7.2.2.1 b7 N 4 N 0 (dM σ (dgf (dF6 σ) (nc (wOf σ) + 1) 0 (d5 σ))) (by omega) (by omega)
  obtain ⟨h9, e9, k9⟩ := dg9 hS (N := N) (by omega) 4 N 0 (dgf (dF8 σ) 4 0 (dM σ (dgf (dF6 σ) (nc (wOf σ) + 1) 0 (d5 σ)))) h7 (by omega) (by omega) hB7 hF7
  refine ⟨h9, ?_, ((((k1.tr k2).tr k3).tr k4).tr (k7.mono (fun _ _ z => SM_SF (SO_SM z)))).tr k9⟩
  rw [fX9_digest]
  have e6' : fX9_digest_L204 N N h4 (d5 σ) 0 = _ := e6
  rw [e7] at e6'
  exact (((((e1.trans e2).trans e3).trans e4).trans e5).trans e6').trans (e8.trans e9)
