/-! ===== changes of the state; the reference makes them ===== -/
def uT (σ : St) (t : Nat) (b : Int32) : St := (fun a => if a = t then σ.1 t + 1 else σ.1 a, fun a i => if a = t ∧ i = σ.1 t then b else σ.2.1 a i, σ.2.2)
def uL (σ : St) (t n : Nat) : St := (fun a => if a = t then n else σ.1 a, σ.2)
def uRv (σ : St) (v : Nat) : St := (σ.1, σ.2.1, v, σ.2.2.2)
def uBg (σ : St) (v : Nat) : St := (σ.1, σ.2.1, σ.2.2.1, v, σ.2.2.2.2)
def uSh (σ : St) (k : Nat) (z : Int) : St := (σ.1, σ.2.1, σ.2.2.1, σ.2.2.2.1, fun a => if a = k then z else σ.2.2.2.2.1 a, σ.2.2.2.2.2)
def uFm (σ : St) (s : Nat) (f : Int) : St := (σ.1, σ.2.1, σ.2.2.1, σ.2.2.2.1, σ.2.2.2.2.1, fun a => if a = s then f else σ.2.2.2.2.2.1 a, σ.2.2.2.2.2.2)
def uIt (σ : St) (s : Nat) (f : Nat → Int32) : St := (σ.1, σ.2.1, σ.2.2.1, σ.2.2.2.1, σ.2.2.2.2.1, σ.2.2.2.2.2.1, σ.2.2.2.2.2.2.1, fun a => if a = s then f else σ.2.2.2.2.2.2.2.1 a, σ.2.2.2.2.2.2.2.2)
def uSz (σ : St) (s n : Nat) : St := (σ.1, σ.2.1, σ.2.2.1, σ.2.2.2.1, σ.2.2.2.2.1, σ.2.2.2.2.2.1, fun a => if a = s then n else σ.2.2.2.2.2.2.1 a, σ.2.2.2.2.2.2.2)
def uSee (σ : St) (n p : Nat) : St := (σ.1, σ.2.1, σ.2.2.1, σ.2.2.2.1, σ.2.2.2.2.1, σ.2.2.2.2.2.1, σ.2.2.2.2.2.2.1, σ.2.2.2.2.2.2.2.1, t_cn σ + 1, fun a => if a = t_cn σ then n else t_sb σ a, fun a => if a = t_cn σ then p else t_sp σ a, t_lf σ)
def uFor (σ : St) : St := (σ.1, σ.2.1, σ.2.2.1, σ.2.2.2.1, σ.2.2.2.2.1, σ.2.2.2.2.2.1, σ.2.2.2.2.2.2.1, σ.2.2.2.2.2.2.2.1, 0, t_sb σ, t_sp σ, t_lf σ)
def uLf (σ : St) (x : Int32) : St := (σ.1, σ.2.1, σ.2.2.1, σ.2.2.2.1, σ.2.2.2.2.1, σ.2.2.2.2.2.1, σ.2.2.2.2.2.2.1, σ.2.2.2.2.2.2.2.1, t_cn σ, t_sb σ, t_sp σ, x)
/-- the class's part is as before -/
def Cl (h h' : pH) : Prop := h'.2 = h.2 ∧ ∀ a b, a < 49 → h'.1 a b = h.1 a b
theorem Cl.rf (h : pH) : Cl h h := ⟨rfl, fun _ _ _ => rfl⟩
theorem Cl.tr {a b c : pH} (h1 : Cl a b) (h2 : Cl b c) : Cl a c := ⟨h2.1.trans h1.1, fun x y z => (h2.2 x y z).trans (h1.2 x y z)⟩
theorem Cl.pw {h h' : pH} {k j : Nat} {v : Int32} (h1 : Cl h h') (hk : 49 ≤ k) : Cl h (pw h' k j v) := ⟨h1.1, fun a b z => by
  rw [pw_at, if_neg (by omega)]
  exact h1.2 a b z⟩
theorem Kp.cl {h h' : pH} (k : Kp SF h h') : Cl h h' := ⟨k.1, fun a b z => k.2 a b (by unfold SF; omega)⟩
def a_type (σ : St) (x y : Int32) : Int32 := if ix x 3 = true ∧ ix y 256 = true then (if t_l σ x.toNatClampNeg = lim x.toNatClampNeg then -4 else nI (t_l σ x.toNatClampNeg + 1)) else -2
def n_type (σ : St) (x y : Int32) : St := if ix x 3 = true ∧ ix y 256 = true ∧ t_l σ x.toNatClampNeg ≠ lim x.toNatClampNeg then uT σ x.toNatClampNeg y else σ
theorem lim_le (t : Nat) : lim t ≤ 39 := by unfold lim; split <;> (try split) <;> omega
theorem m_type {σ : St} {h : pH} (hS : Sok σ) (hB : Bm σ h) (N : Nat) (x y : Int32) : ∃ h', fX9_type N h x y = some (a_type σ x y, h') ∧ Bm (n_type σ x y) h' ∧ Cl h h' := by
  rw [fX9_type, isText_ix]
  simp only [Option.bind_some, in_ix N h y 255 (by decide), b2i, fX9_type_b19, a_type, n_type]
  cases c : ix x 3
  · exact ⟨h, by simp, by simpa using hB, Cl.rf h⟩
  · cases c2 : ix y 256
    · exact ⟨h, by simp, by simpa using hB, Cl.rf h⟩
    · obtain ⟨t, ht, rfl⟩ := ix_of c (by decide)
      have hl := hS.1 t ht
      have hl2 := lim_le t
      have h55 := hB.1 t ht
      simp (disch := omega) only [Bool.true_eq_false, if_false, if_true, and_self, nI_clamp, h55, true_and]
      have key : ∃ h', fX9_type_b49 N h (nI t) y (nI (lim t)) (nI (t_l σ t)) = some (if t_l σ t = lim t then -4 else nI (t_l σ t + 1), h') ∧ Bm (if t_l σ t ≠ lim t then uT σ t y else σ) h' ∧ Cl h h' := by
        simp (disch := omega) only [fX9_type_b49, nI_eq, ix_nI, nI_clamp, if_true, h55, lit_mul_nI, nI_add]
        by_cases c3 : t_l σ t = lim t
        · rw [if_pos c3, if_pos c3, if_neg (by simpa using c3)]
          exact ⟨h, rfl, hB, Cl.rf h⟩
        · rw [if_neg c3, if_neg c3, if_pos c3]
          simp only [pw_at, h55, show ¬ (55 = 54 ∧ t = 40 * t + t_l σ t) from fun z => by omega, if_false, and_self, if_true, nI_1]
          refine ⟨_, rfl, ?_, ((Cl.rf h).pw (by omega)).pw (by omega)⟩
          obtain ⟨h1, h2, h3, h4, h5, h6, h7, h8, h9, h10, h11⟩ := hB
          refine ⟨?_, ?_, ?_, ?_, ?_, ?_, ?_, ?_, ?_, ?_, ?_⟩
          · intro t' ht'
            simp only [pw_at, Nat.reduceEqDiff, Nat.reduceAdd, Nat.reduceMul, Nat.reduceSub, Nat.reduceLeDiff, reduceIte, and_true, true_and, and_false, false_and, and_self, if_true, if_false, Bool.false_eq_true, not_true_eq_false, not_false_eq_true]
            show _ = nI (if t' = t then t_l σ t + 1 else t_l σ t')
            by_cases e : t' = t
            · rw [if_pos e, if_pos e]
            · rw [if_neg e, if_neg e]; exact h1 t' ht'
          · intro t' ht' i hi
            have hi : i < (if t' = t then t_l σ t + 1 else t_l σ t') := hi
            have hl' := hS.1 t' ht'
            have hl3 := lim_le t'
            simp only [pw_at, Nat.reduceEqDiff, Nat.reduceAdd, Nat.reduceMul, Nat.reduceSub, Nat.reduceLeDiff, reduceIte, and_true, true_and, and_false, false_and, and_self, if_true, if_false, Bool.false_eq_true, not_true_eq_false, not_false_eq_true]
            show _ = if t' = t ∧ i = t_l σ t then y else t_b σ t' i
            by_cases e : t' = t
            · rw [if_pos e] at hi
              by_cases e2 : i = t_l σ t
              · rw [if_pos (by rw [e, e2]), if_pos ⟨e, e2⟩]
              · rw [if_neg (by rw [e]; omega), if_neg (fun z => e2 z.2)]; exact h2 t' ht' i (by rw [e]; omega)
            · rw [if_neg e] at hi
              rw [if_neg (by omega), if_neg (fun z => e z.1)]; exact h2 t' ht' i hi
          · simp only [pw_at, Nat.reduceEqDiff, Nat.reduceAdd, Nat.reduceMul, Nat.reduceSub, Nat.reduceLeDiff, reduceIte, and_true, true_and, and_false, false_and, and_self, if_true, if_false, Bool.false_eq_true, not_true_eq_false, not_false_eq_true]; exact h3
          · simp only [pw_at, Nat.reduceEqDiff, Nat.reduceAdd, Nat.reduceMul, Nat.reduceSub, Nat.reduceLeDiff, reduceIte, and_true, true_and, and_false, false_and, and_self, if_true, if_false, Bool.false_eq_true, not_true_eq_false, not_false_eq_true]; exact h4
          · intro k hk; simp only [pw_at, Nat.reduceEqDiff, Nat.reduceAdd, Nat.reduceMul, Nat.reduceSub, Nat.reduceLeDiff, reduceIte, and_true, true_and, and_false, false_and, and_self, if_true, if_false, Bool.false_eq_true, not_true_eq_false, not_false_eq_true]; exact h5 k hk
          · intro s hs; simp only [pw_at, Nat.reduceEqDiff, Nat.reduceAdd, Nat.reduceMul, Nat.reduceSub, Nat.reduceLeDiff, reduceIte, and_true, true_and, and_false, false_and, and_self, if_true, if_false, Bool.false_eq_true, not_true_eq_false, not_false_eq_true]; exact h6 s hs
          · intro s hs i hi; simp only [pw_at, Nat.reduceEqDiff, Nat.reduceAdd, Nat.reduceMul, Nat.reduceSub, Nat.reduceLeDiff, reduceIte, and_true, true_and, and_false, false_and, and_self, if_true, if_false, Bool.false_eq_true, not_true_eq_false, not_false_eq_true]; exact h7 s hs i hi
          · simp only [pw_at, Nat.reduceEqDiff, Nat.reduceAdd, Nat.reduceMul, Nat.reduceSub, Nat.reduceLeDiff, reduceIte, and_true, true_and, and_false, false_and, and_self, if_true, if_false, Bool.false_eq_true, not_true_eq_false, not_false_eq_true]; exact h8
          · intro k hk; simp only [pw_at, Nat.reduceEqDiff, Nat.reduceAdd, Nat.reduceMul, Nat.reduceSub, Nat.reduceLeDiff, reduceIte, and_true, true_and, and_false, false_and, and_self, if_true, if_false, Bool.false_eq_true, not_true_eq_false, not_false_eq_true]; exact h9 k hk
          · simp only [pw_at, Nat.reduceEqDiff, Nat.reduceAdd, Nat.reduceMul, Nat.reduceSub, Nat.reduceLeDiff, reduceIte, and_true, true_and, and_false, false_and, and_self, if_true, if_false, Bool.false_eq_true, not_true_eq_false, not_false_eq_true]; exact h10
          · simp only [pw_at, Nat.reduceEqDiff, Nat.reduceAdd, Nat.reduceMul, Nat.reduceSub, Nat.reduceLeDiff, reduceIte, and_true, true_and, and_false, false_and, and_self, if_true, if_false, Bool.false_eq_true, not_true_eq_false, not_false_eq_true]; exact h11
      rcases (show t = 0 ∨ t = 1 ∨ t = 2 by omega) with rfl | rfl | rfl
      · rw [if_pos (by decide)]; exact key
      · rw [if_neg (by decide), if_pos (by decide)]; exact key
      · rw [if_neg (by decide), if_neg (by decide)]; exact key
/-- the texts' lengths change: all else stays -/
theorem Bm.uL {σ : St} {h : pH} (hB : Bm σ h) {t n : Nat} (ht : t < 3) (hn : n ≤ t_l σ t) : Bm (uL σ t n) (pw h 55 t (nI n)) := by
  obtain ⟨h1, h2, h3, h4, h5, h6, h7, h8, h9, h10, h11⟩ := hB
  refine ⟨?_, ?_, ?_, ?_, ?_, ?_, ?_, ?_, ?_, ?_, ?_⟩
  · intro t' ht'
    simp only [pw_at, Nat.reduceEqDiff, Nat.reduceAdd, Nat.reduceMul, Nat.reduceSub, Nat.reduceLeDiff, reduceIte, and_true, true_and, and_false, false_and, and_self, if_true, if_false, Bool.false_eq_true, not_true_eq_false, not_false_eq_true]
    show _ = nI (if t' = t then n else t_l σ t')
    by_cases e : t' = t
    · rw [if_pos e, if_pos e]
    · rw [if_neg e, if_neg e]; exact h1 t' ht'
  · intro t' ht' i hi
    have hi : i < (if t' = t then n else t_l σ t') := hi
    simp only [pw_at, Nat.reduceEqDiff, Nat.reduceAdd, Nat.reduceMul, Nat.reduceSub, Nat.reduceLeDiff, reduceIte, and_true, true_and, and_false, false_and, and_self, if_true, if_false, Bool.false_eq_true, not_true_eq_false, not_false_eq_true]
    refine h2 t' ht' i ?_
    split at hi
    · rename_i e; rw [e]; omega
    · exact hi
  · simp only [pw_at, Nat.reduceEqDiff, Nat.reduceAdd, Nat.reduceMul, Nat.reduceSub, Nat.reduceLeDiff, reduceIte, and_true, true_and, and_false, false_and, and_self, if_true, if_false, Bool.false_eq_true, not_true_eq_false, not_false_eq_true]; exact h3
  · simp only [pw_at, Nat.reduceEqDiff, Nat.reduceAdd, Nat.reduceMul, Nat.reduceSub, Nat.reduceLeDiff, reduceIte, and_true, true_and, and_false, false_and, and_self, if_true, if_false, Bool.false_eq_true, not_true_eq_false, not_false_eq_true]; exact h4
  · intro k hk; simp only [pw_at, Nat.reduceEqDiff, Nat.reduceAdd, Nat.reduceMul, Nat.reduceSub, Nat.reduceLeDiff, reduceIte, and_true, true_and, and_false, false_and, and_self, if_true, if_false, Bool.false_eq_true, not_true_eq_false, not_false_eq_true]; exact h5 k hk
  · intro s hs; simp only [pw_at, Nat.reduceEqDiff, Nat.reduceAdd, Nat.reduceMul, Nat.reduceSub, Nat.reduceLeDiff, reduceIte, and_true, true_and, and_false, false_and, and_self, if_true, if_false, Bool.false_eq_true, not_true_eq_false, not_false_eq_true]; exact h6 s hs
  · intro s hs i hi; simp only [pw_at, Nat.reduceEqDiff, Nat.reduceAdd, Nat.reduceMul, Nat.reduceSub, Nat.reduceLeDiff, reduceIte, and_true, true_and, and_false, false_and, and_self, if_true, if_false, Bool.false_eq_true, not_true_eq_false, not_false_eq_true]; exact h7 s hs i hi
  · simp only [pw_at, Nat.reduceEqDiff, Nat.reduceAdd, Nat.reduceMul, Nat.reduceSub, Nat.reduceLeDiff, reduceIte, and_true, true_and, and_false, false_and, and_self, if_true, if_false, Bool.false_eq_true, not_true_eq_false, not_false_eq_true]; exact h8
  · intro k hk; simp only [pw_at, Nat.reduceEqDiff, Nat.reduceAdd, Nat.reduceMul, Nat.reduceSub, Nat.reduceLeDiff, reduceIte, and_true, true_and, and_false, false_and, and_self, if_true, if_false, Bool.false_eq_true, not_true_eq_false, not_false_eq_true]; exact h9 k hk
  · simp only [pw_at, Nat.reduceEqDiff, Nat.reduceAdd, Nat.reduceMul, Nat.reduceSub, Nat.reduceLeDiff, reduceIte, and_true, true_and, and_false, false_and, and_self, if_true, if_false, Bool.false_eq_true, not_true_eq_false, not_false_eq_true]; exact h10
  · simp only [pw_at, Nat.reduceEqDiff, Nat.reduceAdd, Nat.reduceMul, Nat.reduceSub, Nat.reduceLeDiff, reduceIte, and_true, true_and, and_false, false_and, and_self, if_true, if_false, Bool.false_eq_true, not_true_eq_false, not_false_eq_true]; exact h11
def a_wipe (σ : St) (x : Int32) : Int32 := if ix x 3 then nI (t_l σ x.toNatClampNeg) else -2
def n_wipe (σ : St) (x : Int32) : St := if ix x 3 then uL σ x.toNatClampNeg 0 else σ
theorem m_wipe {σ : St} {h : pH} (hB : Bm σ h) (N : Nat) (x : Int32) : ∃ h', fX9_wipe N h x = some (a_wipe σ x, h') ∧ Bm (n_wipe σ x) h' ∧ Cl h h' := by
  rw [fX9_wipe, isText_ix]
  simp only [Option.bind_some, b2i, a_wipe, n_wipe]
  cases c : ix x 3
  · exact ⟨h, rfl, hB, Cl.rf h⟩
  · obtain ⟨t, ht, rfl⟩ := ix_of c (by decide)
    simp (disch := omega) only [Bool.true_eq_false, if_false, if_true, nI_clamp, hB.1 t ht]
    exact ⟨_, rfl, hB.uL ht (Nat.zero_le _), (Cl.rf h).pw (by omega)⟩
def a_undo (σ : St) (x : Int32) : Int32 := if ix x 3 then (if t_l σ x.toNatClampNeg = 0 then -3 else nI (t_l σ x.toNatClampNeg - 1)) else -2
def n_undo (σ : St) (x : Int32) : St := if ix x 3 = true ∧ t_l σ x.toNatClampNeg ≠ 0 then uL σ x.toNatClampNeg (t_l σ x.toNatClampNeg - 1) else σ
theorem m_undo {σ : St} {h : pH} (hS : Sok σ) (hB : Bm σ h) (N : Nat) (x : Int32) : ∃ h', fX9_undo N h x = some (a_undo σ x, h') ∧ Bm (n_undo σ x) h' ∧ Cl h h' := by
  rw [fX9_undo, isText_ix]
  simp only [Option.bind_some, b2i, a_undo, n_undo]
  cases c : ix x 3
  · exact ⟨h, rfl, by simpa using hB, Cl.rf h⟩
  · obtain ⟨t, ht, rfl⟩ := ix_of c (by decide)
    have hl := hS.1 t ht
    have hl2 := lim_le t
    simp (disch := omega) only [Bool.true_eq_false, if_false, if_true, nI_clamp, hB.1 t ht, nI_eq_lit, true_and]
    by_cases c2 : t_l σ t = 0
    · rw [if_pos c2, if_pos c2, if_neg (by simpa using c2)]
      exact ⟨h, rfl, hB, Cl.rf h⟩
    · rw [if_neg c2, if_neg c2, if_pos c2, show (1 : Int32) = nI 1 from rfl, pk_sub (by omega)]
      refine ⟨_, ?_, hB.uL ht (Nat.sub_le _ 1), (Cl.rf h).pw (by omega)⟩
      simp only [pw_at, and_self, if_true]
