/-! ===== the state behind both, and its texts ===== -/
/-- typed, bytes, river, begin, shifts, forms (-1: lost), sizes, items, sightings, behind, planks, latest finding -/
abbrev St : Type := (Nat → Nat) × (Nat → Nat → Int32) × Nat × Nat × (Nat → Int) × (Nat → Int) × (Nat → Nat) × (Nat → Nat → Int32) × Nat × (Nat → Nat) × (Nat → Nat) × Int32
def t_l (σ : St) : Nat → Nat := σ.1
def t_b (σ : St) : Nat → Nat → Int32 := σ.2.1
def t_rv (σ : St) : Nat := σ.2.2.1
def t_bg (σ : St) : Nat := σ.2.2.2.1
def t_sh (σ : St) : Nat → Int := σ.2.2.2.2.1
def t_fm (σ : St) : Nat → Int := σ.2.2.2.2.2.1
def t_sz (σ : St) : Nat → Nat := σ.2.2.2.2.2.2.1
def t_it (σ : St) : Nat → Nat → Int32 := σ.2.2.2.2.2.2.2.1
def t_cn (σ : St) : Nat := σ.2.2.2.2.2.2.2.2.1
def t_sb (σ : St) : Nat → Nat := σ.2.2.2.2.2.2.2.2.2.1
def t_sp (σ : St) : Nat → Nat := σ.2.2.2.2.2.2.2.2.2.2.1
def t_lf (σ : St) : Int32 := σ.2.2.2.2.2.2.2.2.2.2.2
def lim (t : Nat) : Nat := if t = 0 then 19 else if t = 1 then 39 else 24
def Sok (σ : St) : Prop := (∀ t, t < 3 → t_l σ t ≤ lim t) ∧ t_rv σ ≤ 9 ∧ t_bg σ ≤ 18 ∧ (∀ k, k < 4 → -9 ≤ t_sh σ k ∧ t_sh σ k ≤ 9) ∧ (∀ s, s < 4 → -1 ≤ t_fm σ s ∧ t_fm σ s ≤ 2 ∧ t_sz σ s ≤ 60) ∧ t_cn σ ≤ 8 ∧ ∀ k, k < t_cn σ → t_sb σ k ≤ 24 ∧ t_sp σ k ≤ 18
/-- the first place from i on, of d, that isn't good -/
def ffr (p : Nat → Bool) : Nat → Nat → Nat
  | 0, i => i
  | d + 1, i => if p i then ffr p d (i + 1) else i
theorem ffr_le (p : Nat → Bool) : ∀ d i, i ≤ ffr p d i ∧ ffr p d i ≤ i + d
  | 0, i => ⟨Nat.le_refl _, Nat.le_refl _⟩
  | d + 1, i => by
    have h := ffr_le p d (i + 1)
    unfold ffr
    split <;> omega
theorem ffr_all {p : Nat → Bool} : ∀ {d i : Nat}, ffr p d i = i + d → ∀ j, i ≤ j → j < i + d → p j = true
  | 0, i, _, j, h1, h2 => absurd h2 (by omega)
  | d + 1, i, h, j, h1, h2 => by
    unfold ffr at h
    split at h
    · rename_i hp
      rcases Nat.lt_or_ge i j with q | q
      · exact ffr_all (d := d) (i := i + 1) (by omega) j (by omega) (by omega)
      · rw [show j = i by omega]; exact hp
    · have := ffr_le p d (i + 1); omega
def gP (b : Nat → Int32) (i : Nat) : Bool := decide (b i = 46 ∨ b i = 114)
def gX (b : Nat → Int32) (i : Nat) : Bool := decide (97 ≤ b i ∧ b i ≤ 104)
def gk (r : Nat) (b : Int32) : Bool := if r = 0 then decide (b = 112 ∨ b = 104 ∨ b = 99 ∨ b = 103 ∨ b = 98) else if r = 1 then decide (49 ≤ b ∧ b ≤ 57) else if r = 2 then decide (b = 119 ∨ b = 101) else if r = 3 then decide (48 ≤ b ∧ b ≤ 57) else decide (b = 59)
def vk (r : Nat) (b : Int32) : Nat := if r = 0 then (if b = 112 then 0 else if b = 104 then 1 else if b = 99 then 2 else if b = 103 then 3 else 4) else if r = 1 then (b.toInt - 48).toNat else if r = 2 then (if b = 119 then 0 else 1) else if r = 3 then (b.toInt - 48).toNat else 0
def gC (b : Nat → Int32) (i : Nat) : Bool := gk (i % 5) (b i)
def fP (n : Nat) (b : Nat → Int32) : Nat := ffr (gP b) n 0
def fX (n : Nat) (b : Nat → Int32) : Nat := ffr (gX b) n 0
def fC (n : Nat) (b : Nat → Int32) : Nat := ffr (gC b) n 0
def okC (n : Nat) (b : Nat → Int32) : Prop := fC n b = n ∧ (n = 0 ∨ n % 5 = 4)
/-- the fault of a text, as an int -/
def flt (σ : St) (t : Nat) : Int32 :=
  if t = 0 then (if fP (t_l σ 0) (t_b σ 0) = t_l σ 0 then -1 else nI (fP (t_l σ 0) (t_b σ 0)))
  else if t = 1 then (if fC (t_l σ 1) (t_b σ 1) = t_l σ 1 then (if t_l σ 1 = 0 ∨ t_l σ 1 % 5 = 4 then -1 else nI (t_l σ 1)) else nI (fC (t_l σ 1) (t_b σ 1)))
  else (if fX (t_l σ 2) (t_b σ 2) = t_l σ 2 then -1 else nI (fX (t_l σ 2) (t_b σ 2)))
def wOf (σ : St) : Wt := (if fP (t_l σ 0) (t_b σ 0) = t_l σ 0 then t_l σ 0 else 0, fun p => decide (t_b σ 0 p = 114),
  if fC (t_l σ 1) (t_b σ 1) = t_l σ 1 ∧ (t_l σ 1 = 0 ∨ t_l σ 1 % 5 = 4) then (t_l σ 1 + 1) / 5 else 0, fun k => vk 0 (t_b σ 1 (5 * k)), fun k => vk 1 (t_b σ 1 (5 * k + 1)), fun k => vk 2 (t_b σ 1 (5 * k + 2)), fun k => vk 3 (t_b σ 1 (5 * k + 3)),
  if fX (t_l σ 2) (t_b σ 2) = t_l σ 2 then t_l σ 2 else 0, fun i => ((t_b σ 2 i).toInt - 97).toNat, t_rv σ, t_bg σ, t_sh σ)
theorem le_toInt {a b : Int32} : a ≤ b ↔ a.toInt ≤ b.toInt := Int32.le_iff_toInt_le
theorem vk_rng {b : Int32} : (gk 0 b = true → vk 0 b ≤ 4) ∧ (gk 1 b = true → 1 ≤ vk 1 b ∧ vk 1 b ≤ 9) ∧ (vk 2 b ≤ 1) ∧ (gk 3 b = true → vk 3 b ≤ 9) := by
  refine ⟨fun _ => ?_, fun h => ?_, ?_, fun h => ?_⟩
  · simp only [vk, if_true]; repeat (first | omega | split)
  · simp only [gk, Nat.reduceEqDiff, if_false, if_true, decide_eq_true_eq, le_toInt, show (49 : Int32).toInt = 49 from by decide, show (57 : Int32).toInt = 57 from by decide] at h
    simp only [vk, Nat.reduceEqDiff, if_false, if_true]; omega
  · simp only [vk, Nat.reduceEqDiff, if_false, if_true]; split <;> omega
  · simp only [gk, Nat.reduceEqDiff, if_false, if_true, decide_eq_true_eq, le_toInt, show (48 : Int32).toInt = 48 from by decide, show (57 : Int32).toInt = 57 from by decide] at h
    simp only [vk, Nat.reduceEqDiff, if_false, if_true]; omega
theorem wok_of {σ : St} (h : Sok σ) : wok (wOf σ) := by
  obtain ⟨s1, s2, s3, s4, -, -⟩ := h
  have l0 : t_l σ 0 ≤ 19 := s1 0 (by omega)
  have l1 : t_l σ 1 ≤ 39 := s1 1 (by omega)
  have l2 : t_l σ 2 ≤ 24 := s1 2 (by omega)
  refine ⟨?_, ?_, ?_, ?_, ?_, s2, s3, s4⟩
  · show (if _ then _ else _) ≤ 19; split <;> omega
  · show (if fC (t_l σ 1) (t_b σ 1) = t_l σ 1 ∧ (t_l σ 1 = 0 ∨ t_l σ 1 % 5 = 4) then (t_l σ 1 + 1) / 5 else 0) ≤ 8
    split <;> omega
  · intro k hk
    have hk : k < if fC (t_l σ 1) (t_b σ 1) = t_l σ 1 ∧ (t_l σ 1 = 0 ∨ t_l σ 1 % 5 = 4) then (t_l σ 1 + 1) / 5 else 0 := hk
    split at hk
    · rename_i hc
      have ha := ffr_all (p := gC (t_b σ 1)) (d := t_l σ 1) (i := 0) (by simpa [fC] using hc.1)
      have a0 := ha (5 * k) (by omega) (by omega)
      have a1 := ha (5 * k + 1) (by omega) (by omega)
      have a3 := ha (5 * k + 3) (by omega) (by omega)
      rw [gC, show (5 * k) % 5 = 0 by omega] at a0
      rw [gC, show (5 * k + 1) % 5 = 1 by omega] at a1
      rw [gC, show (5 * k + 3) % 5 = 3 by omega] at a3
      exact ⟨vk_rng.1 a0, (vk_rng.2.1 a1).1, (vk_rng.2.1 a1).2, vk_rng.2.2.1, vk_rng.2.2.2 a3⟩
    · omega
  · show (if _ then _ else _) ≤ 24; split <;> omega
  · intro i hi
    have hi : i < if fX (t_l σ 2) (t_b σ 2) = t_l σ 2 then t_l σ 2 else 0 := hi
    split at hi
    · rename_i hc
      have ha := ffr_all (p := gX (t_b σ 2)) (d := t_l σ 2) (i := 0) (by simpa [fX] using hc) i (by omega) (by omega)
      simp only [gX, decide_eq_true_eq, le_toInt, show (97 : Int32).toInt = 97 from by decide, show (104 : Int32).toInt = 104 from by decide] at ha
      show ((t_b σ 2 i).toInt - 97).toNat ≤ 7
      omega
    · omega
/-! ===== the reference's own keeping of the state ===== -/
def Bm (σ : St) (h : pH) : Prop := (∀ t, t < 3 → h.1 55 t = nI (t_l σ t)) ∧ (∀ t, t < 3 → ∀ i, i < t_l σ t → h.1 54 (40 * t + i) = t_b σ t i) ∧ h.1 59 0 = nI (t_rv σ) ∧ h.1 59 1 = nI (t_bg σ) ∧ (∀ k, k < 4 → h.1 60 k = sI (t_sh σ k)) ∧ (∀ s, s < 4 → h.1 50 s = sI (t_fm σ s) ∧ h.1 51 s = nI (t_sz σ s)) ∧ (∀ s, s < 4 → ∀ i, i < t_sz σ s → h.1 52 (60 * s + i) = t_it σ s i) ∧ h.1 49 27 = nI (t_cn σ) ∧ (∀ k, k < t_cn σ → h.1 67 (2 * k) = nI (t_sb σ k) ∧ h.1 67 (2 * k + 1) = nI (t_sp σ k)) ∧ h.1 49 4 = t_lf σ ∧ h.1 49 20 = 0
theorem Bm.kp {σ : St} {h h' : pH} (hk : Kp SF h h') (hB : Bm σ h) : Bm σ h' := by
  obtain ⟨h1, h2, h3, h4, h5, h6, h7, h8, h9, h10, h11⟩ := hB
  have e : ∀ a b, ¬ SF a b → h'.1 a b = h.1 a b := hk.2
  unfold SF at e
  refine ⟨?_, ?_, ?_, ?_, ?_, ?_, ?_, ?_, ?_, ?_, ?_⟩
  · intro t ht; rw [e _ _ (by omega)]; exact h1 t ht
  · intro t ht i hi; rw [e _ _ (by omega)]; exact h2 t ht i hi
  · rw [e _ _ (by omega)]; exact h3
  · rw [e _ _ (by omega)]; exact h4
  · intro k hk; rw [e _ _ (by omega)]; exact h5 k hk
  · intro s hs; rw [e _ _ (by omega), e _ _ (by omega)]; exact h6 s hs
  · intro s hs i hi; rw [e _ _ (by omega)]; exact h7 s hs i hi
  · rw [e _ _ (by omega)]; exact h8
  · intro k hk; rw [e _ _ (by omega), e _ _ (by omega)]; exact h9 k hk
  · rw [e _ _ (by omega)]; exact h10
  · rw [e _ _ (by omega)]; exact h11
/-! planks -/
def SP (a b : Nat) : Prop := (a = 49 ∧ b = 7) ∨ a = 56
theorem rp_loop (N : Nat) {len : Nat} {b : Nat → Int32} (hl : len ≤ 19) : ∀ (d n i : Nat) (h : pH), i + d = len → d < n → h.1 55 0 = nI len → (∀ j, j < len → h.1 54 j = b j) → h.1 49 7 = nI i → (∀ p, p < i → h.1 56 p = if decide (b p = 114) then 1 else 0) →
    ∃ h', fX9_readsPlanks_L7 N n h (nI i) = some (if ffr (gP b) d i = len then -1 else nI (ffr (gP b) d i), h') ∧ Kp SP h h' ∧ (ffr (gP b) d i = len → h'.1 49 7 = nI len ∧ ∀ p, p < len → h'.1 56 p = if decide (b p = 114) then 1 else 0) ∧ (ffr (gP b) d i ≠ len → h'.1 49 7 = nI 0) := by
  intro d
  induction d with
  | zero =>
    intro n i h hi hn h1 h2 h3 h4
    obtain ⟨n, rfl⟩ : ∃ m, n = m + 1 := ⟨n - 1, by omega⟩
    obtain rfl : i = len := by omega
    refine ⟨h, ?_, Kp.rf h, fun _ => ⟨h3, h4⟩, fun z => absurd rfl z⟩
    show fX9_readsPlanks_B7 N (fX9_readsPlanks_L7 N n) h _ = _
    simp only [fX9_readsPlanks_B7, cl0, ixc03, if_true, h1, ffr]
    rw [if_pos (Int32.le_refl _)]
  | succ d ih =>
    intro n i h hi hn h1 h2 h3 h4
    obtain ⟨n, rfl⟩ : ∃ m, n = m + 1 := ⟨n - 1, by omega⟩
    have hb := h2 i (by omega)
    have unf : fX9_readsPlanks_L7 N (n + 1) h (nI i) = fX9_readsPlanks_B7 N (fX9_readsPlanks_L7 N n) h (nI i) := rfl
    rw [unf]
    simp only [fX9_readsPlanks_B7, fX9_readsPlanks_b43, fX9_readsPlanks_b59, cl0, ixc03, if_true, h1]
    rw [if_neg (by rw [nI_leI (by omega) (by omega)]; omega), if_pos (ix_nI (by omega) (by omega)), nI_clamp (by omega), hb]
    by_cases c : gP b i = true
    · have e : ffr (gP b) (d + 1) i = ffr (gP b) d (i + 1) := by simp [ffr, c]
      rw [e]
      obtain ⟨h', e1, k1, k2, k3⟩ := ih n (i + 1) (pw (pw h 56 i (if decide (b i = 114) then 1 else 0)) 49 7 (nI (i + 1))) (by omega) (by omega) (by simp only [pw_at, Nat.reduceEqDiff, Nat.reduceAdd, Nat.reduceMul, Nat.reduceSub, Nat.reduceLeDiff, reduceIte, and_true, true_and, and_false, false_and, and_self, if_true, if_false, Bool.false_eq_true, not_true_eq_false, not_false_eq_true]; exact h1) (fun j hj => by simp only [pw_at, Nat.reduceEqDiff, Nat.reduceAdd, Nat.reduceMul, Nat.reduceSub, Nat.reduceLeDiff, reduceIte, and_true, true_and, and_false, false_and, and_self, if_true, if_false, Bool.false_eq_true, not_true_eq_false, not_false_eq_true]; exact h2 j hj) (by simp only [pw_at, Nat.reduceEqDiff, Nat.reduceAdd, Nat.reduceMul, Nat.reduceSub, Nat.reduceLeDiff, reduceIte, and_true, true_and, and_false, false_and, and_self, if_true, if_false, Bool.false_eq_true, not_true_eq_false, not_false_eq_true]) (fun p hp => by
        simp only [pw_at, Nat.reduceEqDiff, Nat.reduceAdd, Nat.reduceMul, Nat.reduceSub, Nat.reduceLeDiff, reduceIte, and_true, true_and, and_false, false_and, and_self, if_true, if_false, Bool.false_eq_true, not_true_eq_false, not_false_eq_true]
        by_cases c : p = i
        · rw [if_pos c, c]
        · rw [if_neg c]; exact h4 p (by omega))
      refine ⟨h', ?_, (((Kp.rf h).pw (by unfold SP; omega)).pw (by unfold SP; omega)).tr k1, k2, k3⟩
      rw [← e1]
      have h3' : ∀ v : Int32, (pw h 56 i v).1 49 7 + 1 = nI (i + 1) := fun v => by simp only [pw_at, Nat.reduceEqDiff, Nat.reduceAdd, Nat.reduceMul, Nat.reduceSub, Nat.reduceLeDiff, reduceIte, and_true, true_and, and_false, false_and, and_self, if_true, if_false, Bool.false_eq_true, not_true_eq_false, not_false_eq_true, h3]; exact nI_1 i
      simp only [gP, decide_eq_true_eq] at c
      have i19 : ix (nI i) 19 = true := ix_nI (by omega) (by omega)
      rcases c with c | c
      · have c2 : ¬ b i = 114 := by rw [c]; decide
        simp only [c, if_true, i19, h3', show ¬ ((46 : Int32) = 114) by decide, if_false, nI_1, decide_false, Bool.false_eq_true]
      · have c2 : ¬ b i = 46 := by rw [c]; decide
        simp only [c, if_true, i19, h3', show ¬ ((114 : Int32) = 46) by decide, if_false, nI_1, decide_true]
    · have e : ffr (gP b) (d + 1) i = i := by simp [ffr, c]
      have e2 : (if ffr (gP b) (d + 1) i = len then (-1 : Int32) else nI (ffr (gP b) (d + 1) i)) = nI i := by rw [e, if_neg (by omega)]
      rw [e2]
      refine ⟨pw h 49 7 0, ?_, (Kp.rf h).pw (by unfold SP; omega), fun z => absurd z (by omega), fun _ => by simp [pw_at]; rfl⟩
      simp only [gP, decide_eq_true_eq, not_or] at c
      rw [if_neg c.1, if_neg c.2]
theorem readsPlanks_eq {σ : St} {h : pH} (hS : Sok σ) (hB : Bm σ h) {N : Nat} (hN : 1000 ≤ N) :
    ∃ h', fX9_readsPlanks N h = some (flt σ 0, h') ∧ Kp SP h h' ∧ h'.1 49 7 = nI (np (wOf σ)) ∧ ∀ p, p < np (wOf σ) → h'.1 56 p = if rot (wOf σ) p then 1 else 0 := by
  have hl := hS.1 0 (by omega)
  simp only [lim, if_true] at hl
  obtain ⟨h', e, k1, k2, k3⟩ := rp_loop N (b := t_b σ 0) hl (t_l σ 0) N 0 (pw h 49 7 0) (by omega) (by omega) (by simp only [pw_at, Nat.reduceEqDiff, Nat.reduceAdd, Nat.reduceMul, Nat.reduceSub, Nat.reduceLeDiff, reduceIte, and_true, true_and, and_false, false_and, and_self, if_true, if_false, Bool.false_eq_true, not_true_eq_false, not_false_eq_true]; exact hB.1 0 (by omega)) (fun j hj => by simp only [pw_at, Nat.reduceEqDiff, Nat.reduceAdd, Nat.reduceMul, Nat.reduceSub, Nat.reduceLeDiff, reduceIte, and_true, true_and, and_false, false_and, and_self, if_true, if_false, Bool.false_eq_true, not_true_eq_false, not_false_eq_true]; have := hB.2.1 0 (by omega) j hj; simpa using this) (by simp only [pw_at, Nat.reduceEqDiff, Nat.reduceAdd, Nat.reduceMul, Nat.reduceSub, Nat.reduceLeDiff, reduceIte, and_true, true_and, and_false, false_and, and_self, if_true, if_false, Bool.false_eq_true, not_true_eq_false, not_false_eq_true]; rfl) (fun p hp => absurd hp (by omega))
  refine ⟨h', e, ((Kp.rf h).pw (by unfold SP; omega)).tr k1, ?_, ?_⟩
  · show _ = nI (if fP _ _ = _ then _ else _)
    by_cases c : fP (t_l σ 0) (t_b σ 0) = t_l σ 0
    · rw [if_pos c]; exact (k2 c).1
    · rw [if_neg c]; exact k3 c
  · intro p hp
    have hp : p < if fP (t_l σ 0) (t_b σ 0) = t_l σ 0 then t_l σ 0 else 0 := hp
    split at hp
    · rename_i c; exact (k2 c).2 p hp
    · omega
