/-! ===== the class's digest ===== -/
def tl2 (N : Nat) (h : pH) (l1 : Int64) : Option (Int64 × pH) := (fX8_digestPlanks N h l1).bind fun z1 => ((fX8_digestCrossers N z1.2 z1.1).bind fun z2 => ((fX8_digestCrossings N z2.2 z2.1).bind fun z3 => ((fX8_stuck N z3.2).bind fun z4 => ((fX8_worn N z4.2).bind fun z5 => (fX8_digest_L109 N N z5.2 ((31 * ((31 * z3.1) + z4.1.toInt64)) + z5.1.toInt64) 0)))))
theorem cd1 {σ : St} (hS : Sok σ) {N : Nat} (hN : 1000 ≤ N) : ∀ (d n i : Nat) (a : Int64) (h : pH), i + d = 8 → d < n → Fr σ h →
    ∃ h', fX8_digest_L10 N n h a (nI i) = fX8_digest_L37 N N h' (dgf (dF1 σ) d i a) 0 ∧ Fr σ h' ∧ Kq SQ h h' := by
  have w1 := (wok_of hS).1
  have w2 := (wok_of hS).2.1
  have w4 := (wok_of hS).2.2.2.1
  intro d
  induction d with
  | zero =>
    intro n i a h hi hn hf
    obtain ⟨n, rfl⟩ : ∃ m, n = m + 1 := ⟨n - 1, by omega⟩
    obtain rfl : i = 8 := by omega
    refine ⟨h, ?_, hf, Kq.rf h⟩
    show fX8_digest_B10 N (fX8_digest_L10 N n) h _ _ = _
    simp only [fX8_digest_B10]
    rw [if_pos (by decide)]
    rfl
  | succ d ih =>
    intro n i a h hi hn hf
    obtain ⟨n, rfl⟩ : ∃ m, n = m + 1 := ⟨n - 1, by omega⟩
    obtain ⟨h1, e1, c1⟩ := c_count hS hf.ci hN (nI i)
    have f1 := c1.2.1 hf
    obtain ⟨h', e', f', k'⟩ := ih n (i + 1) (dF1 σ i a) h1 (by omega) (by omega) f1
    refine ⟨h', ?_, f', c1.2.2.tr k'⟩
    show fX8_digest_B10 N (fX8_digest_L10 N n) h _ _ = _
    simp only [fX8_digest_B10, e1, Option.bind_some, nI_1]
    rw [if_neg (by rw [show (7 : Int32) = nI 7 from rfl, nI_ltI (by omega) (by omega)]; omega)]
    exact e'
theorem cd2 {σ : St} (hS : Sok σ) {N : Nat} (hN : 1000 ≤ N) : ∀ (d n i : Nat) (a : Int64) (h : pH), i + d = 3 → d < n → Fr σ h →
    ∃ h', fX8_digest_L37 N n h a (nI i) = tl2 N h' (dgf (dF2 σ) d i a) ∧ Fr σ h' ∧ Kq SQ h h' := by
  have w1 := (wok_of hS).1
  have w2 := (wok_of hS).2.1
  have w4 := (wok_of hS).2.2.2.1
  intro d
  induction d with
  | zero =>
    intro n i a h hi hn hf
    obtain ⟨n, rfl⟩ : ∃ m, n = m + 1 := ⟨n - 1, by omega⟩
    obtain rfl : i = 3 := by omega
    refine ⟨h, ?_, hf, Kq.rf h⟩
    show fX8_digest_B37 N (fX8_digest_L37 N n) h _ _ = _
    simp only [fX8_digest_B37]
    rw [if_pos (by decide)]
    rfl
  | succ d ih =>
    intro n i a h hi hn hf
    obtain ⟨n, rfl⟩ : ∃ m, n = m + 1 := ⟨n - 1, by omega⟩
    obtain ⟨h1, e1, c1⟩ := c_fault hS hf.ci hN (nI i)
    have f1 := c1.2.1 hf
    obtain ⟨h', e', f', k'⟩ := ih n (i + 1) (dF2 σ i a) h1 (by omega) (by omega) f1
    refine ⟨h', ?_, f', c1.2.2.tr k'⟩
    show fX8_digest_B37 N (fX8_digest_L37 N n) h _ _ = _
    simp only [fX8_digest_B37, e1, Option.bind_some, nI_1]
    rw [if_neg (by rw [show (3 : Int32) = nI 3 from rfl, nI_leI (by omega) (by omega)]; omega)]
    exact e'
theorem cd3 {σ : St} (hS : Sok σ) {N : Nat} (hN : 1000 ≤ N) : ∀ (d n i : Nat) (a : Int64) (h : pH), i + d = np (wOf σ) → d < n → Fr σ h →
    ∃ h', fX8_digestPlanks_L5 N n h a (nI i) = some (dgf (dF3 σ) d i a, h') ∧ Fr σ h' ∧ Kq SQ h h' := by
  have w1 := (wok_of hS).1
  have w2 := (wok_of hS).2.1
  have w4 := (wok_of hS).2.2.2.1
  intro d
  induction d with
  | zero =>
    intro n i a h hi hn hf
    obtain ⟨n, rfl⟩ : ∃ m, n = m + 1 := ⟨n - 1, by omega⟩
    obtain rfl : i = np (wOf σ) := by omega
    refine ⟨h, ?_, hf, Kq.rf h⟩
    show fX8_digestPlanks_B5 N (fX8_digestPlanks_L5 N n) h _ _ = _
    simp only [fX8_digestPlanks_B5, hf.2.2.1.1.1]
    rw [if_pos (Int32.le_refl _)]
    rfl
  | succ d ih =>
    intro n i a h hi hn hf
    obtain ⟨n, rfl⟩ : ∃ m, n = m + 1 := ⟨n - 1, by omega⟩
    obtain ⟨h1, e1, c1⟩ := c_plank hS hf.ci hN (nI i)
    have f1 := c1.2.1 hf
    obtain ⟨h2, e2, c2⟩ := c_maybe hS f1.ci hN 5 (nI i) 0
    have f2 := c2.2.1 f1
    obtain ⟨h3, e3, c3⟩ := c_maybe hS f2.ci hN 5 (nI i) 1
    have f3 := c3.2.1 f2
    obtain ⟨h', e', f', k'⟩ := ih n (i + 1) (dF3 σ i a) h3 (by omega) (by omega) f3
    refine ⟨h', ?_, f', ((c1.2.2.tr c2.2.2).tr c3.2.2).tr k'⟩
    show fX8_digestPlanks_B5 N (fX8_digestPlanks_L5 N n) h _ _ = _
    simp only [fX8_digestPlanks_B5, hf.2.2.1.1.1, e1, e2, e3, Option.bind_some, nI_1]
    rw [if_neg (by rw [nI_leI (by omega) (by omega)]; omega)]
    exact e'
theorem cd4i {σ : St} (hS : Sok σ) {N : Nat} (hN : 1000 ≤ N) (K : pH → Int64 → Int32 → Option (Int64 × pH)) {k : Nat} : ∀ (d n j : Nat) (a : Int64) (h : pH), j + d = 4 → d < n → Fr σ h →
    ∃ h', fX8_digestCrossers_L20 N K n h a (nI k) (nI j) = K h' (31 * (31 * (31 * (31 * dgf (dFc σ k) d j a + (a_times σ (nI k) 0).toInt64) + (a_times σ (nI k) 1).toInt64) + (a_ahead σ (nI k)).toInt64) + (a_often σ (nI k) 0).toInt64) (nI (k + 1)) ∧ Fr σ h' ∧ Kq SQ h h' := by
  intro d
  induction d with
  | zero =>
    intro n j a h hj hn hf
    obtain ⟨n, rfl⟩ : ∃ m, n = m + 1 := ⟨n - 1, by omega⟩
    obtain rfl : j = 4 := by omega
    obtain ⟨h1, e1, c1⟩ := c_times hS hf.ci hN (nI k) 0
    have f1 := c1.2.1 hf
    obtain ⟨h2, e2, c2⟩ := c_times hS f1.ci hN (nI k) 1
    have f2 := c2.2.1 f1
    obtain ⟨h3, e3, c3⟩ := c_ahead hS f2.ci hN (nI k)
    have f3 := c3.2.1 f2
    obtain ⟨h4, e4, c4⟩ := c_often hS f3.ci hN (nI k) 0
    have f4 := c4.2.1 f3
    refine ⟨h4, ?_, f4, ((c1.2.2.tr c2.2.2).tr c3.2.2).tr c4.2.2⟩
    show fX8_digestCrossers_B20 N K (fX8_digestCrossers_L20 N K n) h _ _ _ = _
    simp only [fX8_digestCrossers_B20, e1, e2, e3, e4, Option.bind_some, nI_1]
    rw [if_pos (by decide)]
    rfl
  | succ d ih =>
    intro n j a h hj hn hf
    obtain ⟨n, rfl⟩ : ∃ m, n = m + 1 := ⟨n - 1, by omega⟩
    obtain ⟨h1, e1, c1⟩ := c_crosser hS hf.ci hN (nI k) (nI j)
    obtain ⟨h', e', f', k'⟩ := ih n (j + 1) (dFc σ k j a) h1 (by omega) (by omega) (c1.2.1 hf)
    refine ⟨h', ?_, f', c1.2.2.tr k'⟩
    show fX8_digestCrossers_B20 N K (fX8_digestCrossers_L20 N K n) h _ _ _ = _
    rw [fX8_digestCrossers_B20, if_neg (by rw [show (3 : Int32) = nI 3 from rfl, nI_ltI (by omega) (by omega)]; omega), e1]
    simp only [Option.bind_some, nI_1]
    exact e'
theorem cd4 {σ : St} (hS : Sok σ) {N : Nat} (hN : 1000 ≤ N) : ∀ (d n i : Nat) (a : Int64) (h : pH), i + d = nk (wOf σ) → d < n → Fr σ h →
    ∃ h', fX8_digestCrossers_L5 N n h a (nI i) = some (dgf (dF4 σ) d i a, h') ∧ Fr σ h' ∧ Kq SQ h h' := by
  have w2 := (wok_of hS).2.1
  intro d
  induction d with
  | zero =>
    intro n i a h hi hn hf
    obtain ⟨n, rfl⟩ : ∃ m, n = m + 1 := ⟨n - 1, by omega⟩
    obtain rfl : i = nk (wOf σ) := by omega
    refine ⟨h, ?_, hf, Kq.rf h⟩
    show fX8_digestCrossers_B5 N (fX8_digestCrossers_L5 N n) h _ _ = _
    simp only [fX8_digestCrossers_B5, hf.2.2.1.1.2.2.2.1]
    rw [if_pos (Int32.le_refl _)]
    rfl
  | succ d ih =>
    intro n i a h hi hn hf
    obtain ⟨n, rfl⟩ : ∃ m, n = m + 1 := ⟨n - 1, by omega⟩
    obtain ⟨h1, e1, f1, k1⟩ := cd4i hS hN (fX8_digestCrossers_L5 N n) (k := i) 4 N 0 a h (by omega) (by omega) hf
    obtain ⟨h', e', f', k'⟩ := ih n (i + 1) (dF4 σ i a) h1 (by omega) (by omega) f1
    refine ⟨h', ?_, f', k1.tr k'⟩
    show fX8_digestCrossers_B5 N (fX8_digestCrossers_L5 N n) h _ _ = _
    simp only [fX8_digestCrossers_B5, hf.2.2.1.1.2.2.2.1]
    rw [if_neg (by rw [nI_leI (by omega) (by omega)]; omega)]
    exact e1.trans e'
theorem cd5i {σ : St} (hS : Sok σ) {N : Nat} (hN : 1000 ≤ N) (K : pH → Int64 → Int32 → Option (Int64 × pH)) {i : Nat} : ∀ (d n j : Nat) (a : Int64) (h : pH), j + d = 3 → d < n → Fr σ h →
    ∃ h', fX8_digestCrossings_L34 N K n h a (nI i) (nI j) = K h' (dgf (dFx σ i) d j a) (nI (i + 1)) ∧ Fr σ h' ∧ Kq SQ h h' := by
  intro d
  induction d with
  | zero =>
    intro n j a h hj hn hf
    obtain ⟨n, rfl⟩ : ∃ m, n = m + 1 := ⟨n - 1, by omega⟩
    obtain rfl : j = 3 := by omega
    refine ⟨h, ?_, hf, Kq.rf h⟩
    show fX8_digestCrossings_B34 N K (fX8_digestCrossings_L34 N K n) h _ _ _ = _
    simp only [fX8_digestCrossings_B34, nI_1]
    rw [if_pos (by decide)]
    rfl
  | succ d ih =>
    intro n j a h hj hn hf
    obtain ⟨n, rfl⟩ : ∃ m, n = m + 1 := ⟨n - 1, by omega⟩
    obtain ⟨h1, e1, c1⟩ := c_comes hS hf.ci hN (nI i) (nI j)
    obtain ⟨h', e', f', k'⟩ := ih n (j + 1) (dFx σ i j a) h1 (by omega) (by omega) (c1.2.1 hf)
    refine ⟨h', ?_, f', c1.2.2.tr k'⟩
    show fX8_digestCrossings_B34 N K (fX8_digestCrossings_L34 N K n) h _ _ _ = _
    rw [fX8_digestCrossings_B34, if_neg (by rw [show (2 : Int32) = nI 2 from rfl, nI_ltI (by omega) (by omega)]; omega), e1]
    simp only [Option.bind_some, nI_1]
    exact e'
theorem cd5 {σ : St} (hS : Sok σ) {N : Nat} (hN : 1000 ≤ N) : ∀ (d n i : Nat) (a : Int64) (h : pH), i + d = nc (wOf σ) → d < n → Fr σ h →
    ∃ h', fX8_digestCrossings_L5 N n h a (nI i) = fX8_digestCrossings_L71 N N h' (dgf (dF5 σ) d i a) 0 ∧ Fr σ h' ∧ Kq SQ h h' := by
  have w4 := (wok_of hS).2.2.2.1
  intro d
  induction d with
  | zero =>
    intro n i a h hi hn hf
    obtain ⟨n, rfl⟩ : ∃ m, n = m + 1 := ⟨n - 1, by omega⟩
    obtain rfl : i = nc (wOf σ) := by omega
    refine ⟨h, ?_, hf, Kq.rf h⟩
    show fX8_digestCrossings_B5 N (fX8_digestCrossings_L5 N n) h _ _ = _
    simp only [fX8_digestCrossings_B5, hf.2.2.1.1.2.2.2.2.2.1]
    rw [if_pos (Int32.le_refl _)]
    rfl
  | succ d ih =>
    intro n i a h hi hn hf
    obtain ⟨n, rfl⟩ : ∃ m, n = m + 1 := ⟨n - 1, by omega⟩
    obtain ⟨h1, e1, c1⟩ := c_crossing hS hf.ci hN (nI i)
    have f1 := c1.2.1 hf
    obtain ⟨h2, e2, f2, k2⟩ := cd5i hS hN (fX8_digestCrossings_L5 N n) (i := i) 3 N 0 (31 * a + (a_crossing σ (nI i)).toInt64) h1 (by omega) (by omega) f1
    obtain ⟨h', e', f', k'⟩ := ih n (i + 1) (dF5 σ i a) h2 (by omega) (by omega) f2
    refine ⟨h', ?_, f', (c1.2.2.tr k2).tr k'⟩
    show fX8_digestCrossings_B5 N (fX8_digestCrossings_L5 N n) h _ _ = _
    simp only [fX8_digestCrossings_B5, hf.2.2.1.1.2.2.2.2.2.1, e1, Option.bind_some]
    rw [if_neg (by rw [nI_leI (by omega) (by omega)]; omega)]
    exact e2.trans e'
theorem cd6 {σ : St} (hS : Sok σ) {N : Nat} (hN : 1000 ≤ N) : ∀ (d n i : Nat) (a : Int64) (h : pH), i + d = nc (wOf σ) + 1 → d < n → Fr σ h →
    ∃ h', fX8_digestCrossings_L71 N n h a (nI i) = some (dgf (dF6 σ) d i a, h') ∧ Fr σ h' ∧ Kq SQ h h' := by
  have w1 := (wok_of hS).1
  have w2 := (wok_of hS).2.1
  have w4 := (wok_of hS).2.2.2.1
  intro d
  induction d with
  | zero =>
    intro n i a h hi hn hf
    obtain ⟨n, rfl⟩ : ∃ m, n = m + 1 := ⟨n - 1, by omega⟩
    obtain rfl : i = nc (wOf σ) + 1 := by omega
    refine ⟨h, ?_, hf, Kq.rf h⟩
    show fX8_digestCrossings_B71 N (fX8_digestCrossings_L71 N n) h _ _ = _
    simp only [fX8_digestCrossings_B71, hf.2.2.1.1.2.2.2.2.2.1]
    rw [if_pos (by rw [nI_ltI (by omega) (by omega)]; omega)]
    rfl
  | succ d ih =>
    intro n i a h hi hn hf
    obtain ⟨n, rfl⟩ : ∃ m, n = m + 1 := ⟨n - 1, by omega⟩
    obtain ⟨h1, e1, c1⟩ := c_gap hS hf.ci hN (nI i)
    have f1 := c1.2.1 hf
    obtain ⟨h2, e2, c2⟩ := c_taken hS f1.ci hN (nI i)
    have f2 := c2.2.1 f1
    obtain ⟨h', e', f', k'⟩ := ih n (i + 1) (dF6 σ i a) h2 (by omega) (by omega) f2
    refine ⟨h', ?_, f', (c1.2.2.tr c2.2.2).tr k'⟩
    show fX8_digestCrossings_B71 N (fX8_digestCrossings_L71 N n) h _ _ = _
    simp only [fX8_digestCrossings_B71, hf.2.2.1.1.2.2.2.2.2.1, e1, e2, Option.bind_some, nI_1]
    rw [if_neg (by rw [nI_ltI (by omega) (by omega)]; omega)]
    exact e'
theorem cd8 {σ : St} (hS : Sok σ) {N : Nat} (hN : 1000 ≤ N) : ∀ (d n i : Nat) (a : Int64) (h : pH), i + d = 4 → d < n → Fr σ h →
    ∃ h', fX8_digest_L109 N n h a (nI i) = fX8_digest_L135 N N h' (dgf (dF8 σ) d i a) 0 ∧ Fr σ h' ∧ Kq SQ h h' := by
  have w1 := (wok_of hS).1
  have w2 := (wok_of hS).2.1
  have w4 := (wok_of hS).2.2.2.1
  intro d
  induction d with
  | zero =>
    intro n i a h hi hn hf
    obtain ⟨n, rfl⟩ : ∃ m, n = m + 1 := ⟨n - 1, by omega⟩
    obtain rfl : i = 4 := by omega
    refine ⟨h, ?_, hf, Kq.rf h⟩
    show fX8_digest_B109 N (fX8_digest_L109 N n) h _ _ = _
    simp only [fX8_digest_B109]
    rw [if_pos (by decide)]
    rfl
  | succ d ih =>
    intro n i a h hi hn hf
    obtain ⟨n, rfl⟩ : ∃ m, n = m + 1 := ⟨n - 1, by omega⟩
    obtain ⟨h1, e1, c1⟩ := c_order hS hf.ci hN (nI i)
    have f1 := c1.2.1 hf
    obtain ⟨h', e', f', k'⟩ := ih n (i + 1) (dF8 σ i a) h1 (by omega) (by omega) f1
    refine ⟨h', ?_, f', c1.2.2.tr k'⟩
    show fX8_digest_B109 N (fX8_digest_L109 N n) h _ _ = _
    simp only [fX8_digest_B109, e1, Option.bind_some, nI_1]
    rw [if_neg (by rw [show (3 : Int32) = nI 3 from rfl, nI_ltI (by omega) (by omega)]; omega)]
    exact e'
theorem cd9 {σ : St} (hS : Sok σ) {N : Nat} (hN : 1000 ≤ N) : ∀ (d n i : Nat) (a : Int64) (h : pH), i + d = 4 → d < n → Fr σ h →
    ∃ h', fX8_digest_L135 N n h a (nI i) = some (dE σ (dgf (dF9 σ) d i a), h') ∧ Fr σ h' ∧ Kq SQ h h' := by
  intro d
  induction d with
  | zero =>
    intro n i a h hi hn hf
    obtain ⟨n, rfl⟩ : ∃ m, n = m + 1 := ⟨n - 1, by omega⟩
    obtain rfl : i = 4 := by omega
    obtain ⟨h1, e1, c1⟩ := c_began hS hf.ci hN
    have f1 := c1.2.1 hf
    obtain ⟨h2, e2, c2⟩ := c_ask f1.ci N
    have f2 := c2.2.1 f1
    obtain ⟨h3, e3, c3⟩ := c_week hS f2.ci hN 7 30 0
    have f3 := c3.2.1 f2
    obtain ⟨h4, e4, c4⟩ := c_week hS f3.ci hN 7 30 1
    have f4 := c4.2.1 f3
    refine ⟨h4, ?_, f4, ((c1.2.2.tr c2.2.2).tr c3.2.2).tr c4.2.2⟩
    show fX8_digest_B135 N (fX8_digest_L135 N n) h _ _ = _
    simp only [fX8_digest_B135, e1, e2, e3, e4, Option.bind_some]
    rw [if_pos (by decide)]
    rfl
  | succ d ih =>
    intro n i a h hi hn hf
    obtain ⟨n, rfl⟩ : ∃ m, n = m + 1 := ⟨n - 1, by omega⟩
    obtain ⟨h1, e1, c1⟩ := c_rule hS hf.ci hN (nI i)
    obtain ⟨h', e', f', k'⟩ := ih n (i + 1) (dF9 σ i a) h1 (by omega) (by omega) (c1.2.1 hf)
    refine ⟨h', ?_, f', c1.2.2.tr k'⟩
    show fX8_digest_B135 N (fX8_digest_L135 N n) h _ _ = _
    rw [fX8_digest_B135, if_neg (by rw [show (4 : Int32) = nI 4 from rfl, nI_leI (by omega) (by omega)]; omega), e1]
    simp only [Option.bind_some, nI_1]
    exact e'
theorem c_digest {σ : St} {h : pH} (hS : Sok σ) (hC : Ci σ h) {N : Nat} (hN : 1000 ≤ N) : ∃ h', fX8_digest N h = some (a_digest σ, h') ∧ Co σ h h' := by
  have w1 := (wok_of hS).1
  have w2 := (wok_of hS).2.1
  have w4 := (wok_of hS).2.2.2.1
  obtain ⟨h0, e0, f0, k0⟩ := fresh_eq hS hC hN
  obtain ⟨h1, e1, f1, k1⟩ := cd1 hS hN 8 N 0 17 h0 (by omega) (by omega) f0
  obtain ⟨h2, e2, f2, k2⟩ := cd2 hS hN 3 N 0 (dgf (dF1 σ) 8 0 17) h1 (by omega) (by omega) f1
  obtain ⟨h3, e3, f3, k3⟩ := cd3 hS hN (np (wOf σ)) N 0 (dgf (dF2 σ) 3 0 (dgf (dF1 σ) 8 0 17)) h2 (by omega) (by omega) f2
  obtain ⟨h4, e4, f4, k4⟩ := cd4 hS hN (nk (wOf σ)) N 0 (dgf (dF3 σ) (np (wOf σ)) 0 (dgf (dF2 σ) 3 0 (dgf (dF1 σ) 8 0 17))) h3 (by omega) (by omega) f3
  obtain ⟨h5, e5, f5, k5⟩ := cd5 hS hN (nc (wOf σ)) N 0 (dgf (dF4 σ) (nk (wOf σ)) 0 (dgf (dF3 σ) (np (wOf σ)) 0 (dgf (dF2 σ) 3 0 (dgf (dF1 σ) 8 0 17)))) h4 (by omega) (by omega) f4
  obtain ⟨h6, e6, f6, k6⟩ := cd6 hS hN (nc (wOf σ) + 1) N 0 (d5 σ) h5 (by omega) (by omega) f5
  obtain ⟨h7, e7, c7⟩ := c_stuck hS f6.ci hN
  have f7 := c7.2.1 f6
  obtain ⟨h8, e8, c8⟩ := c_worn hS f7.ci hN
  have f8 := c8.2.1 f7
  obtain ⟨h9, e9, f9, k9⟩ := cd8 hS hN 4 N 0 (dM σ (dgf (dF6 σ) (nc (wOf σ) + 1) 0 (d5 σ))) h8 (by omega) (by omega) f8
  obtain ⟨h10, e10, f10, k10⟩ := cd9 hS hN 4 N 0 (dgf (dF8 σ) 4 0 (dM σ (dgf (dF6 σ) (nc (wOf σ) + 1) 0 (d5 σ)))) h9 (by omega) (by omega) f9
  refine ⟨h10, ?_, Co.fr f10 ((((((((((k0.tr k1).tr k2).tr k3).tr k4).tr k5).tr k6).tr c7.2.2).tr c8.2.2).tr k9).tr k10)⟩
  have t2 : tl2 N h2 (dgf (dF2 σ) 3 0 (dgf (dF1 σ) 8 0 17)) = some (a_digest σ, h10) := by
    unfold tl2
    rw [show fX8_digestPlanks N h2 (dgf (dF2 σ) 3 0 (dgf (dF1 σ) 8 0 17)) = _ from e3]
    simp only [Option.bind_some]
    rw [show fX8_digestCrossers N h3 (dgf (dF3 σ) (np (wOf σ)) 0 (dgf (dF2 σ) 3 0 (dgf (dF1 σ) 8 0 17))) = _ from e4]
    simp only [Option.bind_some]
    rw [show fX8_digestCrossings N h4 (dgf (dF4 σ) (nk (wOf σ)) 0 (dgf (dF3 σ) (np (wOf σ)) 0 (dgf (dF2 σ) 3 0 (dgf (dF1 σ) 8 0 17)))) = _ from e5.trans e6]
    simp only [Option.bind_some, e7, e8]
    exact e9.trans e10
  rw [fX8_digest, e0]
  simp only [Option.bind_some]
  exact (e1.trans e2).trans t2
