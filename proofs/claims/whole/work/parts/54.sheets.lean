/-! ===== sheets: the reference ===== -/
def cutV (f v : Int32) : Int32 := if f = 0 then v.toInt8.toInt32 else if f = 1 then v.toInt16.toInt32 else v
theorem cut_eq (N : Nat) (h : pH) (f v : Int32) : fX9_cut N h f v = some (cutV f v, h) := by
  simp only [fX9_cut, fX9_cut_b20, cutV]
  by_cases c : f = 0
  · rw [if_pos c, if_pos c]
  · rw [if_neg c, if_neg c]
    by_cases c1 : f = 1
    · rw [if_pos c1, if_pos c1]
    · rw [if_neg c1, if_neg c1]
theorem sI_nn {z : Int} (h1 : -1 ≤ z) (h2 : z ≤ 2) : (0 ≤ sI z) ↔ 0 ≤ z := by
  rw [le_toInt, sI_toInt (by omega) (by omega)]; rfl
theorem sI_inj {a b : Int} (h1 : -1000 ≤ a) (h2 : a ≤ 1000) (h3 : -1000 ≤ b) (h4 : b ≤ 1000) : sI a = sI b ↔ a = b := by
  constructor
  · intro h
    have := congrArg Int32.toInt h
    rw [sI_toInt (by omega) (by omega), sI_toInt (by omega) (by omega)] at this
    exact this
  · intro h; rw [h]
theorem Bm.lf {σ : St} {h : pH} (hB : Bm σ h) {x : Int32} : Bm (uLf σ x) (pw h 49 4 x) := by
  obtain ⟨h1, h2, h3, h4, h5, h6, h7, h8, h9, h10, h11⟩ := hB
  refine ⟨?_, ?_, ?_, ?_, ?_, ?_, ?_, ?_, ?_, ?_, ?_⟩
  · intro t ht; simp only [pw_at, Nat.reduceEqDiff, Nat.reduceAdd, Nat.reduceMul, Nat.reduceSub, Nat.reduceLeDiff, reduceIte, and_true, true_and, and_false, false_and, and_self, if_true, if_false, Bool.false_eq_true, not_true_eq_false, not_false_eq_true]; exact h1 t ht
  · intro t ht i hi; simp only [pw_at, Nat.reduceEqDiff, Nat.reduceAdd, Nat.reduceMul, Nat.reduceSub, Nat.reduceLeDiff, reduceIte, and_true, true_and, and_false, false_and, and_self, if_true, if_false, Bool.false_eq_true, not_true_eq_false, not_false_eq_true]; exact h2 t ht i hi
  · simp only [pw_at, Nat.reduceEqDiff, Nat.reduceAdd, Nat.reduceMul, Nat.reduceSub, Nat.reduceLeDiff, reduceIte, and_true, true_and, and_false, false_and, and_self, if_true, if_false, Bool.false_eq_true, not_true_eq_false, not_false_eq_true]; exact h3
  · simp only [pw_at, Nat.reduceEqDiff, Nat.reduceAdd, Nat.reduceMul, Nat.reduceSub, Nat.reduceLeDiff, reduceIte, and_true, true_and, and_false, false_and, and_self, if_true, if_false, Bool.false_eq_true, not_true_eq_false, not_false_eq_true]; exact h4
  · intro k hk; simp only [pw_at, Nat.reduceEqDiff, Nat.reduceAdd, Nat.reduceMul, Nat.reduceSub, Nat.reduceLeDiff, reduceIte, and_true, true_and, and_false, false_and, and_self, if_true, if_false, Bool.false_eq_true, not_true_eq_false, not_false_eq_true]; exact h5 k hk
  · intro s hs; simp only [pw_at, Nat.reduceEqDiff, Nat.reduceAdd, Nat.reduceMul, Nat.reduceSub, Nat.reduceLeDiff, reduceIte, and_true, true_and, and_false, false_and, and_self, if_true, if_false, Bool.false_eq_true, not_true_eq_false, not_false_eq_true]; exact h6 s hs
  · intro s hs i hi; simp only [pw_at, Nat.reduceEqDiff, Nat.reduceAdd, Nat.reduceMul, Nat.reduceSub, Nat.reduceLeDiff, reduceIte, and_true, true_and, and_false, false_and, and_self, if_true, if_false, Bool.false_eq_true, not_true_eq_false, not_false_eq_true]; exact h7 s hs i hi
  · simp only [pw_at, Nat.reduceEqDiff, Nat.reduceAdd, Nat.reduceMul, Nat.reduceSub, Nat.reduceLeDiff, reduceIte, and_true, true_and, and_false, false_and, and_self, if_true, if_false, Bool.false_eq_true, not_true_eq_false, not_false_eq_true]; exact h8
  · intro k hk; simp only [pw_at, Nat.reduceEqDiff, Nat.reduceAdd, Nat.reduceMul, Nat.reduceSub, Nat.reduceLeDiff, reduceIte, and_true, true_and, and_false, false_and, and_self, if_true, if_false, Bool.false_eq_true, not_true_eq_false, not_false_eq_true]; exact h9 k hk
  · simp only [pw_at, Nat.reduceEqDiff, Nat.reduceAdd, Nat.reduceMul, Nat.reduceSub, Nat.reduceLeDiff, reduceIte, and_true, true_and, and_false, false_and, and_self, if_true, if_false, Bool.false_eq_true, not_true_eq_false, not_false_eq_true]; rfl
  · simp only [pw_at, Nat.reduceEqDiff, Nat.reduceAdd, Nat.reduceMul, Nat.reduceSub, Nat.reduceLeDiff, reduceIte, and_true, true_and, and_false, false_and, and_self, if_true, if_false, Bool.false_eq_true, not_true_eq_false, not_false_eq_true]; exact h11
/-- the forms, sizes and items of one sheet change -/
def SI (s a b : Nat) : Prop := a = 53 ∨ (a = 52 ∧ 60 * s ≤ b ∧ b < 60 * s + 60) ∨ (a = 50 ∧ b = s) ∨ (a = 51 ∧ b = s)
def uSt (σ : St) (s : Nat) (f : Int) (n : Nat) (g : Nat → Int32) : St := uIt (uSz (uFm σ s f) s n) s g
theorem Bm.uSt {σ : St} {h h' : pH} (hS : Sok σ) (hB : Bm σ h) {s : Nat} (hs : s < 4) {f : Int} {n : Nat} {g : Nat → Int32} (k : Kp (SI s) h h') (hf : h'.1 50 s = sI f) (hn : h'.1 51 s = nI n) (hn60 : n ≤ 60) (hg : ∀ i, i < n → h'.1 52 (60 * s + i) = g i) : Bm (uSt σ s f n g) h' := by
  obtain ⟨h1, h2, h3, h4, h5, h6, h7, h8, h9, h10, h11⟩ := hB
  have e : ∀ a b, ¬ SI s a b → h'.1 a b = h.1 a b := k.2
  unfold SI at e
  refine ⟨?_, ?_, ?_, ?_, ?_, ?_, ?_, ?_, ?_, ?_, ?_⟩
  · intro t ht; rw [e _ _ (by omega)]; exact h1 t ht
  · intro t ht i hi; rw [e _ _ (by omega)]; exact h2 t ht i hi
  · rw [e _ _ (by omega)]; exact h3
  · rw [e _ _ (by omega)]; exact h4
  · intro k hk; rw [e _ _ (by omega)]; exact h5 k hk
  · intro s' hs'
    show _ = sI (if s' = s then f else t_fm σ s') ∧ _ = nI (if s' = s then n else t_sz σ s')
    by_cases c : s' = s
    · rw [if_pos c, if_pos c, c]; exact ⟨hf, hn⟩
    · rw [if_neg c, if_neg c, e _ _ (by omega), e _ _ (by omega)]; exact h6 s' hs'
  · intro s' hs' i hi
    have hi : i < (if s' = s then n else t_sz σ s') := hi
    have h60 := (hS.2.2.2.2.1 s' hs').2.2
    show _ = (if s' = s then g else t_it σ s') i
    by_cases c : s' = s
    · rw [if_pos c] at hi ⊢
      rw [c]; exact hg i hi
    · rw [if_neg c] at hi ⊢
      rw [e _ _ (by omega)]; exact h7 s' hs' i hi
  · rw [e _ _ (by omega)]; exact h8
  · intro k hk; rw [e _ _ (by omega), e _ _ (by omega)]; exact h9 k hk
  · rw [e _ _ (by omega)]; exact h10
  · rw [e _ _ (by omega)]; exact h11
theorem Kp.cs {s : Nat} {h h' : pH} (k : Kp (SI s) h h') : Cl h h' := ⟨k.1, fun a b z => k.2 a b (by unfold SI; omega)⟩
/-! sheet -/
theorem sheet_loop (N : Nat) {s m : Nat} (hs : s < 4) (hm : m ≤ 60) : ∀ (d n i : Nat) (h : pH), i + d = m → d < n → (∀ j, j < i → h.1 52 (60 * s + j) = 0) →
    ∃ h', fX9_sheet_L55 N n h (nI s) (nI m) (nI i) = some (nI m, h') ∧ Kp (fun a b => a = 52 ∧ 60 * s ≤ b ∧ b < 60 * s + 60) h h' ∧ ∀ j, j < m → h'.1 52 (60 * s + j) = 0 := by
  intro d
  induction d with
  | zero =>
    intro n i h hi hn h1
    obtain ⟨n, rfl⟩ : ∃ m, n = m + 1 := ⟨n - 1, by omega⟩
    obtain rfl : i = m := by omega
    refine ⟨h, ?_, Kp.rf h, h1⟩
    show fX9_sheet_B55 N (fX9_sheet_L55 N n) h _ _ _ = _
    simp only [fX9_sheet_B55]
    rw [if_pos (Int32.le_refl _)]
  | succ d ih =>
    intro n i h hi hn h1
    obtain ⟨n, rfl⟩ : ∃ m, n = m + 1 := ⟨n - 1, by omega⟩
    obtain ⟨h', e, k, q⟩ := ih n (i + 1) (pw h 52 (60 * s + i) 0) (by omega) (by omega) (fun j hj => by
      simp only [pw_at, Nat.reduceEqDiff, Nat.reduceAdd, Nat.reduceMul, Nat.reduceSub, Nat.reduceLeDiff, reduceIte, and_true, true_and, and_false, false_and, and_self, if_true, if_false, Bool.false_eq_true, not_true_eq_false, not_false_eq_true]
      by_cases c : j = i
      · rw [if_pos (by omega)]
      · rw [if_neg (by omega)]; exact h1 j (by omega))
    refine ⟨h', ?_, ((Kp.rf h).pw (by omega)).tr k, q⟩
    rw [← e]
    show fX9_sheet_B55 N (fX9_sheet_L55 N n) h _ _ _ = _
    simp (disch := omega) only [fX9_sheet_B55, nI_leI, lit_mul_nI, nI_add, ix_nI, nI_clamp, if_true, nI_add_lit]
    rw [if_neg (by omega)]
def fnd (n : Nat) : Int32 := -10 - nI n
def a_sheet (x y z : Int32) : Int32 := if ix x 4 = true ∧ ix y 3 = true ∧ z ≤ 60 then (if 0 ≤ z then z else fnd 5) else -2
def n_sheet (σ : St) (x y z : Int32) : St := if ix x 4 = true ∧ ix y 3 = true ∧ z ≤ 60 then (if 0 ≤ z then uSt σ x.toNatClampNeg y.toInt z.toNatClampNeg (fun _ => 0) else uLf σ 5) else σ
theorem m_sheet {σ : St} {h : pH} (hS : Sok σ) (hB : Bm σ h) {N : Nat} (hN : 1000 ≤ N) (x y z : Int32) : ∃ h', fX9_sheet N h x y z = some (a_sheet x y z, h') ∧ Bm (n_sheet σ x y z) h' ∧ Cl h h' := by
  rw [fX9_sheet, isSheet_ix]
  simp only [Option.bind_some, in_ix N h y 2 (by decide), b2i, fX9_sheet_b25, a_sheet, n_sheet, finds_eq]
  cases c : ix x 4
  · exact ⟨h, by simp, by simpa using hB, Cl.rf h⟩
  · cases c2 : ix y 3
    · exact ⟨h, by simp, by simpa using hB, Cl.rf h⟩
    · by_cases c3 : z ≤ 60
      · by_cases c4 : 0 ≤ z
        · obtain ⟨s, hs, rfl⟩ := ix_of c (by decide)
          obtain ⟨f, hf, rfl⟩ := ix_of c2 (by decide)
          obtain ⟨m, hm, rfl⟩ := nI_of (Int32.not_lt.mpr c4)
          have hm60 : m ≤ 60 := (nI_le_lit hm (by decide)).mp c3
          simp (disch := omega) only [Bool.true_eq_false, if_false, if_true, and_self, c3, c4, nI_clamp, nI_toInt]
          obtain ⟨h', e, k, q⟩ := sheet_loop N hs hm60 m N 0 (pw (pw h 50 s (nI f)) 51 s (nI m)) (by omega) (by omega) (fun j hj => absurd hj (by omega))
          have k1 : Kp (SI s) h h' := (((Kp.rf h).pw (by unfold SI; omega)).pw (by unfold SI; omega)).tr (k.mono (fun a b z => by unfold SI; omega))
          refine ⟨h', e, hB.uSt hS hs k1 ?_ ?_ hm60 q, k1.cs⟩
          · rw [k.2 _ _ (by omega)]; simp only [pw_at, Nat.reduceEqDiff, Nat.reduceAdd, Nat.reduceMul, Nat.reduceSub, Nat.reduceLeDiff, reduceIte, and_true, true_and, and_false, false_and, and_self, if_true, if_false, Bool.false_eq_true, not_true_eq_false, not_false_eq_true]; rw [sI_nat]
          · rw [k.2 _ _ (by omega)]; simp only [pw_at, Nat.reduceEqDiff, Nat.reduceAdd, Nat.reduceMul, Nat.reduceSub, Nat.reduceLeDiff, reduceIte, and_true, true_and, and_false, false_and, and_self, if_true, if_false, Bool.false_eq_true, not_true_eq_false, not_false_eq_true]
        · simp only [c3, c4, Bool.true_eq_false, if_false, if_true, and_self]
          exact ⟨_, rfl, hB.lf, (Cl.rf h).pw (by omega)⟩
      · exact ⟨h, by simp [c3], by simpa [c3] using hB, Cl.rf h⟩
def a_lose (σ : St) (x : Int32) : Int32 := if ix x 4 then (if 0 ≤ t_fm σ x.toNatClampNeg then nI (t_sz σ x.toNatClampNeg) else fnd 1) else -2
def n_lose (σ : St) (x : Int32) : St := if ix x 4 then (if 0 ≤ t_fm σ x.toNatClampNeg then uSt σ x.toNatClampNeg (-1) (t_sz σ x.toNatClampNeg) (t_it σ x.toNatClampNeg) else uLf σ 1) else σ
theorem m_lose {σ : St} {h : pH} (hS : Sok σ) (hB : Bm σ h) (N : Nat) (x : Int32) : ∃ h', fX9_lose N h x = some (a_lose σ x, h') ∧ Bm (n_lose σ x) h' ∧ Cl h h' := by
  rw [fX9_lose, isSheet_ix]
  simp only [Option.bind_some, b2i, a_lose, n_lose, finds_eq]
  cases c : ix x 4
  · exact ⟨h, by simp, by simpa using hB, Cl.rf h⟩
  · obtain ⟨s, hs, rfl⟩ := ix_of c (by decide)
    have q := hS.2.2.2.2.1 s hs
    have q2 := hB.2.2.2.2.2.1 s hs
    simp (disch := omega) only [Bool.true_eq_false, if_false, if_true, nI_clamp, q2.1, sI_nn q.1 q.2.1]
    by_cases c2 : 0 ≤ t_fm σ s
    · simp only [c2, if_true]
      have k1 : Kp (SI s) h (pw h 50 s (-1)) := (Kp.rf h).pw (by unfold SI; omega)
      refine ⟨_, by simp only [pw_at, Nat.reduceEqDiff, Nat.reduceAdd, Nat.reduceMul, Nat.reduceSub, Nat.reduceLeDiff, reduceIte, and_true, true_and, and_false, false_and, and_self, if_true, if_false, Bool.false_eq_true, not_true_eq_false, not_false_eq_true]; rw [q2.2], hB.uSt hS hs k1 ?_ ?_ q.2.2 ?_, k1.cs⟩
      · simp only [pw_at, Nat.reduceEqDiff, Nat.reduceAdd, Nat.reduceMul, Nat.reduceSub, Nat.reduceLeDiff, reduceIte, and_true, true_and, and_false, false_and, and_self, if_true, if_false, Bool.false_eq_true, not_true_eq_false, not_false_eq_true]; rfl
      · simp only [pw_at, Nat.reduceEqDiff, Nat.reduceAdd, Nat.reduceMul, Nat.reduceSub, Nat.reduceLeDiff, reduceIte, and_true, true_and, and_false, false_and, and_self, if_true, if_false, Bool.false_eq_true, not_true_eq_false, not_false_eq_true]; exact q2.2
      · intro i hi; simp only [pw_at, Nat.reduceEqDiff, Nat.reduceAdd, Nat.reduceMul, Nat.reduceSub, Nat.reduceLeDiff, reduceIte, and_true, true_and, and_false, false_and, and_self, if_true, if_false, Bool.false_eq_true, not_true_eq_false, not_false_eq_true]; exact hB.2.2.2.2.2.2.1 s hs i hi
    · simp only [c2, if_false]
      exact ⟨_, rfl, hB.lf, (Cl.rf h).pw (by omega)⟩
/-- what is wanting for item i of a form: its finding -/
def lkF (σ : St) (s : Nat) (y z : Int32) : Nat := if 0 ≤ t_fm σ s then (if sI (t_fm σ s) = y then (if ix z (t_sz σ s) then 0 else 2) else 3) else 1
def lkA (n : Nat) : Int32 := if n = 0 then 0 else fnd n
theorem fnd_ne {n : Nat} (h : n ≤ 5) : ¬ fnd n = 0 := by
  rcases (show n = 0 ∨ n = 1 ∨ n = 2 ∨ n = 3 ∨ n = 4 ∨ n = 5 by omega) with rfl | rfl | rfl | rfl | rfl | rfl <;> decide
def uFd (σ : St) (n : Nat) : St := if n = 0 then σ else uLf σ (nI n)
theorem lacks_eq {σ : St} {h : pH} (hS : Sok σ) (hB : Bm σ h) (N : Nat) {s : Nat} (hs : s < 4) (y z : Int32) : ∃ h', fX9_lacks N h (nI s) y z = some (lkA (lkF σ s y z), h') ∧ (lkF σ s y z = 0 → h' = h) ∧ (lkF σ s y z ≠ 0 → h' = pw h 49 4 (nI (lkF σ s y z))) := by
  have q := hS.2.2.2.2.1 s hs
  have q2 := hB.2.2.2.2.2.1 s hs
  have q3 := hB.2.2.2.2.2.2.1 s hs
  simp (disch := omega) only [fX9_lacks, fX9_lacks_b58, ix_nI, if_true, nI_clamp, q2.1, q2.2, sI_nn q.1 q.2.1, finds_eq, Option.bind_some, in_ixm, b2i, lkF]
  by_cases c : 0 ≤ t_fm σ s
  · by_cases c2 : sI (t_fm σ s) = y
    · simp only [c, c2, if_true]
      cases c3 : ix z (t_sz σ s)
      · exact ⟨_, rfl, fun z => absurd z (by simp), fun _ => rfl⟩
      · exact ⟨h, rfl, fun _ => rfl, fun z => absurd rfl z⟩
    · simp only [c, c2, if_true, if_false]
      exact ⟨_, rfl, fun z => absurd z (by simp), fun _ => rfl⟩
  · simp only [c, if_false]
    exact ⟨_, rfl, fun z => absurd z (by simp), fun _ => rfl⟩
theorem lkF_le (σ : St) (s : Nat) (y z : Int32) : lkF σ s y z ≤ 5 := by unfold lkF; repeat (first | omega | split)
def a_lay (σ : St) (x y z : Int32) : Int32 := if ix x 4 = true ∧ ix y 3 = true then (if lkF σ x.toNatClampNeg y z = 0 then 1 else fnd (lkF σ x.toNatClampNeg y z)) else -2
def n_lay (σ : St) (x y z v : Int32) : St := if ix x 4 = true ∧ ix y 3 = true then (if lkF σ x.toNatClampNeg y z = 0 then uSt σ x.toNatClampNeg (t_fm σ x.toNatClampNeg) (t_sz σ x.toNatClampNeg) (fun i => if i = z.toNatClampNeg then cutV y v else t_it σ x.toNatClampNeg i) else uLf σ (nI (lkF σ x.toNatClampNeg y z))) else σ
theorem lk0 {σ : St} {s : Nat} {y z : Int32} (h : lkF σ s y z = 0) : 0 ≤ t_fm σ s ∧ sI (t_fm σ s) = y ∧ ix z (t_sz σ s) = true := by
  unfold lkF at h
  split at h
  · rename_i c1
    split at h
    · rename_i c2
      split at h
      · rename_i c3; exact ⟨c1, c2, c3⟩
      · cases h
    · cases h
  · cases h
theorem m_lay {σ : St} {h : pH} (hS : Sok σ) (hB : Bm σ h) (N : Nat) (x y z v : Int32) : ∃ h', fX9_lay N h x y z v = some (a_lay σ x y z, h') ∧ Bm (n_lay σ x y z v) h' ∧ Cl h h' := by
  rw [fX9_lay, isSheet_ix]
  simp only [Option.bind_some, in_ix N h y 2 (by decide), b2i, fX9_lay_b19, a_lay, n_lay, cut_eq]
  cases c : ix x 4
  · exact ⟨h, by simp, by simpa using hB, Cl.rf h⟩
  · cases c2 : ix y 3
    · exact ⟨h, by simp, by simpa using hB, Cl.rf h⟩
    · obtain ⟨s, hs, rfl⟩ := ix_of c (by decide)
      have q := hS.2.2.2.2.1 s hs
      have q2 := hB.2.2.2.2.2.1 s hs
      obtain ⟨h1, e, p0, p1⟩ := lacks_eq hS hB N hs y z
      simp (disch := omega) only [Bool.true_eq_false, if_false, if_true, and_self, nI_clamp, e, Option.bind_some]
      by_cases c3 : lkF σ s y z = 0
      · obtain ⟨l1, l2, l3⟩ := lk0 c3
        obtain ⟨i, hi, rfl⟩ := ix_of l3 (by omega)
        rw [p0 c3]
        simp (disch := omega) only [c3, lkA, if_true, lit_mul_nI, nI_add, ix_nI, nI_clamp]
        have k1 : Kp (SI s) h (pw h 52 (60 * s + i) (cutV y v)) := (Kp.rf h).pw (by unfold SI; omega)
        refine ⟨_, rfl, hB.uSt hS hs k1 ?_ ?_ q.2.2 ?_, k1.cs⟩
        · simp only [pw_at, Nat.reduceEqDiff, Nat.reduceAdd, Nat.reduceMul, Nat.reduceSub, Nat.reduceLeDiff, reduceIte, and_true, true_and, and_false, false_and, and_self, if_true, if_false, Bool.false_eq_true, not_true_eq_false, not_false_eq_true]; exact q2.1
        · simp only [pw_at, Nat.reduceEqDiff, Nat.reduceAdd, Nat.reduceMul, Nat.reduceSub, Nat.reduceLeDiff, reduceIte, and_true, true_and, and_false, false_and, and_self, if_true, if_false, Bool.false_eq_true, not_true_eq_false, not_false_eq_true]; exact q2.2
        · intro j hj
          simp only [pw_at, Nat.reduceEqDiff, Nat.reduceAdd, Nat.reduceMul, Nat.reduceSub, Nat.reduceLeDiff, reduceIte, and_true, true_and, and_false, false_and, and_self, if_true, if_false, Bool.false_eq_true, not_true_eq_false, not_false_eq_true]
          by_cases c : j = i
          · rw [if_pos (by omega), if_pos c]
          · rw [if_neg (by omega), if_neg c]; exact hB.2.2.2.2.2.2.1 s hs j hj
      · rw [p1 c3]
        simp only [c3, lkA, if_false, fnd_ne (lkF_le σ s y z)]
        exact ⟨_, rfl, hB.lf, (Cl.rf h).pw (by omega)⟩
def a_get (σ : St) (x y z : Int32) : Int32 := if ix x 4 = true ∧ ix y 3 = true then (if lkF σ x.toNatClampNeg y z = 0 then t_it σ x.toNatClampNeg z.toNatClampNeg else -2147483648) else -2147483648
def n_get (σ : St) (x y z : Int32) : St := if ix x 4 = true ∧ ix y 3 = true then (if lkF σ x.toNatClampNeg y z = 0 then σ else uLf σ (nI (lkF σ x.toNatClampNeg y z))) else σ
theorem m_get {σ : St} {h : pH} (hS : Sok σ) (hB : Bm σ h) (N : Nat) (x y z : Int32) : ∃ h', fX9_get N h x y z = some (a_get σ x y z, h') ∧ Bm (n_get σ x y z) h' ∧ Cl h h' := by
  rw [fX9_get, isSheet_ix]
  simp only [Option.bind_some, in_ix N h y 2 (by decide), b2i, fX9_get_b29, a_get, n_get]
  cases c : ix x 4
  · exact ⟨h, by simp, by simpa using hB, Cl.rf h⟩
  · cases c2 : ix y 3
    · exact ⟨h, by simp, by simpa using hB, Cl.rf h⟩
    · obtain ⟨s, hs, rfl⟩ := ix_of c (by decide)
      have q := hS.2.2.2.2.1 s hs
      obtain ⟨h1, e, p0, p1⟩ := lacks_eq hS hB N hs y z
      simp (disch := omega) only [Bool.true_eq_false, if_false, if_true, and_self, nI_clamp, e, Option.bind_some]
      by_cases c3 : lkF σ s y z = 0
      · obtain ⟨l1, l2, l3⟩ := lk0 c3
        obtain ⟨i, hi, rfl⟩ := ix_of l3 (by omega)
        rw [p0 c3]
        simp (disch := omega) only [c3, lkA, if_true, lit_mul_nI, nI_add, ix_nI, nI_clamp]
        exact ⟨h, by rw [hB.2.2.2.2.2.2.1 s hs i hi], hB, Cl.rf h⟩
      · rw [p1 c3]
        simp only [c3, lkA, if_false, fnd_ne (lkF_le σ s y z)]
        exact ⟨_, rfl, hB.lf, (Cl.rf h).pw (by omega)⟩
