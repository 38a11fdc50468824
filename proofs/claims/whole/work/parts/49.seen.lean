/-! ===== the reference: seen, rule, began ===== -/
theorem or_nI (a b : Nat) : nI a ||| nI b = nI (a ||| b) := by
  apply Int32.toBitVec_inj.mp
  rw [Int32.toBitVec_or]
  show BitVec.ofNat 32 a ||| BitVec.ofNat 32 b = BitVec.ofNat 32 (a ||| b)
  exact (BitVec.ofNat_or (w := 32) (x := a) (y := b)).symm
theorem sh_bit {v : Nat} (hv : v < 31) : (1 : Int32) <<< (nI v &&& 31) = nI (2 ^ v) := by
  have e1 : ((nI v &&& 31).toBitVec.smod 32).toNat = v := of_decide_eq_true (List.all_eq_true.mp shm_fin v (List.mem_range.mpr hv))
  have e2 : 2 ^ v < 2 ^ 32 := Nat.pow_lt_pow_right (by decide) (by omega)
  have := pk_shlN (n := 1) (nI v &&& 31) v e1 (by omega)
  rw [Nat.one_mul] at this
  exact this
/-- do the gaps come out as seen? -/
def agr (w : Wt) (sb sp : Nat → Nat) : Nat → Bool
  | 0 => true
  | k + 1 => agr w sb sp k && decide (sb k ≤ nc w ∧ 0 < np w ∧ G w (sb k) = sp k)
def Sg (cn : Nat) (sb sp : Nat → Nat) (h : pH) : Prop := h.1 49 27 = nI cn ∧ cn ≤ 8 ∧ ∀ k, k < cn → (h.1 67 (2 * k) = nI (sb k) ∧ h.1 67 (2 * k + 1) = nI (sp k)) ∧ sb k ≤ 24 ∧ sp k ≤ 18
theorem Sg.kp {cn : Nat} {sb sp : Nat → Nat} {h h' : pH} (k : Kp SF h h') (hs : Sg cn sb sp h) : Sg cn sb sp h' := by
  obtain ⟨h1, h2, h3⟩ := hs
  have e : ∀ a b, ¬ SF a b → h'.1 a b = h.1 a b := k.2
  unfold SF at e
  refine ⟨by rw [e _ _ (by omega)]; exact h1, h2, fun k hk => ?_⟩
  rw [e _ _ (by omega), e _ _ (by omega)]
  exact h3 k hk
theorem seen_loop {w : Wt} {h : pH} {cn : Nat} {sb sp : Nat → Nat} (hw : wok w) (hF : mF w h) (hL : Lz w h) (hs : Sg cn sb sp h) (N : Nat) : ∀ (d n k : Nat), k + d = cn → d < n →
    fX9_isSeen_L8 N n h (if agr w sb sp k then 1 else 0) (nI k) = some (if agr w sb sp cn then 1 else 0, h) := by
  obtain ⟨s1, s2, s3⟩ := hs
  have w1 := hw.1
  have w4 := hw.2.2.2.1
  intro d
  induction d with
  | zero =>
    intro n k hk hn
    obtain ⟨n, rfl⟩ : ∃ m, n = m + 1 := ⟨n - 1, by omega⟩
    obtain rfl : k = cn := by omega
    show fX9_isSeen_B8 N (fX9_isSeen_L8 N n) h _ _ = _
    simp only [fX9_isSeen_B8, s1]
    rw [if_pos (Int32.le_refl _)]
    cases agr w sb sp k <;> rfl
  | succ d ih =>
    intro n k hk hn
    obtain ⟨n, rfl⟩ : ∃ m, n = m + 1 := ⟨n - 1, by omega⟩
    have e := ih n (k + 1) (by omega) (by omega)
    obtain ⟨⟨q1, q2⟩, q3, q4⟩ := s3 k (by omega)
    rw [← e]
    show fX9_isSeen_B8 N (fX9_isSeen_L8 N n) h _ _ = _
    simp (disch := omega) only [fX9_isSeen_B8, fX9_isSeen_b65, fX9_isSeen_b66, s1, nI_leI, lit_mul_nI, nI_add_lit, ix_nI, nI_clamp, if_true, q1, q2, hF.2.2.2.2.1, nI_ltI, b2i]
    rw [if_neg (by omega)]
    rw [show agr w sb sp (k + 1) = (agr w sb sp k && decide (sb k ≤ nc w ∧ 0 < np w ∧ G w (sb k) = sp k)) from rfl]
    cases ca : agr w sb sp k
    · simp
    · by_cases c1 : nc w < sb k
      · have : decide (sb k ≤ nc w ∧ 0 < np w ∧ G w (sb k) = sp k) = false := by simp; omega
        simp [c1, this]
      · have g1 := hL.2.1 (sb k) (by omega)
        have g2 : G w (sb k) < 19 := gok_lt w1 (Gm_ok w _ (sb k))
        simp only [Bool.true_eq_false, if_false, c1, g1, Bool.true_and]
        by_cases c2 : np w = 0
        · have : decide (sb k ≤ nc w ∧ 0 < np w ∧ G w (sb k) = sp k) = false := by simp; omega
          have e3 : ¬ gI w (G w (sb k)) = nI (sp k) := by
            simp only [gI, c2, if_true]
            intro z
            have := congrArg Int32.toInt z
            rw [nI_toInt (by omega), show (-1 : Int32).toInt = -1 from by decide] at this
            omega
          rw [if_neg e3, this]
          rfl
        · rw [gI_pos (by omega)]
          by_cases c3 : G w (sb k) = sp k
          · have : decide (sb k ≤ nc w ∧ 0 < np w ∧ G w (sb k) = sp k) = true := by simp; omega
            rw [if_pos (by rw [c3]), this]
            rfl
          · have : decide (sb k ≤ nc w ∧ 0 < np w ∧ G w (sb k) = sp k) = false := by simp; omega
            rw [if_neg (fun z => c3 ((nI_eq (by omega) (by omega)).mp z)), this]
            rfl
theorem isSeen_eq {w : Wt} {h : pH} {cn : Nat} {sb sp : Nat → Nat} (hw : wok w) (hF : mF w h) (hs : Sg cn sb sp h) (hgo : h.1 49 20 = 0) {N : Nat} (hN : 1000 ≤ N) :
    ∃ h', fX9_isSeen N h = some (if agr w sb sp cn then 1 else 0, h') ∧ Kp S7 h h' := by
  obtain ⟨h1, e1, k1, l1⟩ := lives_eq hw hF hN (m := 0) (by decide) (by rw [hgo]; rfl)
  rw [z_bit] at l1
  have hz : Lz w h1 := by
    obtain ⟨a1, a2, a3⟩ := l1
    refine ⟨a1, a2, fun j hj => ?_⟩
    have := a3 j hj
    simpa [ocm, tom, rom, G] using this
  have hF1 := hF.kp (k1.mono (fun _ _ => S7_SM))
  have hs1 := hs.kp (k1.mono (fun _ _ => S7_SF))
  have e2 := seen_loop hw hF1 hz hs1 N cn N 0 (by omega) (by have := hs.2.1; omega)
  rw [fX9_isSeen, e1]
  exact ⟨h1, e2, k1⟩
/-- one shift of another value -/
def shv (w : Wt) (kind v : Nat) : Wt := wSh w (fun k => if k = kind then (v : Int) - 9 else sh w k)
def rlb (w : Wt) (cn : Nat) (sb sp : Nat → Nat) (kind : Nat) : Nat → Nat
  | 0 => 0
  | v + 1 => rlb w cn sb sp kind v ||| (if agr (shv w kind v) sb sp cn then 2 ^ v else 0)
theorem shv_ok {w : Wt} (hw : wok w) {kind v : Nat} (hv : v < 19) : wok (shv w kind v) := by
  obtain ⟨w1, w2, w3, w4, w5, w6, w7, w8⟩ := hw
  refine ⟨w1, w2, w3, w4, w5, w6, w7, fun k hk => ?_⟩
  show -9 ≤ (if k = kind then (v : Int) - 9 else sh w k) ∧ (if k = kind then (v : Int) - 9 else sh w k) ≤ 9
  split
  · omega
  · exact w8 k hk
def S7k (kind a b : Nat) : Prop := S7 a b ∨ (a = 60 ∧ b = kind)
theorem shv_F {w : Wt} {h : pH} {kind v : Nat} (hF : mF w h) (hv : v < 19) (x : Int32) (hx : x = sI ((v : Int) - 9)) : mF (shv w kind v) (pw h 60 kind x) := by
  obtain ⟨h1, h2, h3, h4, h5, h6, h7, h8, h9⟩ := hF
  refine ⟨?_, ?_, ?_, ?_, ?_, ?_, ?_, ?_, ?_⟩
  · simp only [pw_at, Nat.reduceEqDiff, Nat.reduceAdd, Nat.reduceMul, Nat.reduceSub, Nat.reduceLeDiff, reduceIte, and_true, true_and, and_false, false_and, and_self, if_true, if_false, Bool.false_eq_true, not_true_eq_false, not_false_eq_true]; exact h1
  · intro p hp; simp only [pw_at, Nat.reduceEqDiff, Nat.reduceAdd, Nat.reduceMul, Nat.reduceSub, Nat.reduceLeDiff, reduceIte, and_true, true_and, and_false, false_and, and_self, if_true, if_false, Bool.false_eq_true, not_true_eq_false, not_false_eq_true]; exact h2 p hp
  · simp only [pw_at, Nat.reduceEqDiff, Nat.reduceAdd, Nat.reduceMul, Nat.reduceSub, Nat.reduceLeDiff, reduceIte, and_true, true_and, and_false, false_and, and_self, if_true, if_false, Bool.false_eq_true, not_true_eq_false, not_false_eq_true]; exact h3
  · intro k hk; simp only [pw_at, Nat.reduceEqDiff, Nat.reduceAdd, Nat.reduceMul, Nat.reduceSub, Nat.reduceLeDiff, reduceIte, and_true, true_and, and_false, false_and, and_self, if_true, if_false, Bool.false_eq_true, not_true_eq_false, not_false_eq_true]; exact h4 k hk
  · simp only [pw_at, Nat.reduceEqDiff, Nat.reduceAdd, Nat.reduceMul, Nat.reduceSub, Nat.reduceLeDiff, reduceIte, and_true, true_and, and_false, false_and, and_self, if_true, if_false, Bool.false_eq_true, not_true_eq_false, not_false_eq_true]; exact h5
  · intro i hi; simp only [pw_at, Nat.reduceEqDiff, Nat.reduceAdd, Nat.reduceMul, Nat.reduceSub, Nat.reduceLeDiff, reduceIte, and_true, true_and, and_false, false_and, and_self, if_true, if_false, Bool.false_eq_true, not_true_eq_false, not_false_eq_true]; exact h6 i hi
  · simp only [pw_at, Nat.reduceEqDiff, Nat.reduceAdd, Nat.reduceMul, Nat.reduceSub, Nat.reduceLeDiff, reduceIte, and_true, true_and, and_false, false_and, and_self, if_true, if_false, Bool.false_eq_true, not_true_eq_false, not_false_eq_true]; exact h7
  · simp only [pw_at, Nat.reduceEqDiff, Nat.reduceAdd, Nat.reduceMul, Nat.reduceSub, Nat.reduceLeDiff, reduceIte, and_true, true_and, and_false, false_and, and_self, if_true, if_false, Bool.false_eq_true, not_true_eq_false, not_false_eq_true]; exact h8
  · intro k hk
    simp only [pw_at, true_and]
    show _ = sI (if k = kind then (v : Int) - 9 else sh w k)
    by_cases c : k = kind
    · rw [if_pos c, if_pos c, hx]
    · rw [if_neg c, if_neg c]; exact h9 k hk
/-- the bridge's own heap, but for one shift -/
def mFk (w : Wt) (kind : Nat) (h : pH) : Prop := ∃ x, mF w (pw h 60 kind x)
theorem pw_pw (h : pH) (k j : Nat) (u v : Int32) : pw (pw h k j u) k j v = pw h k j v := by
  apply Prod.ext
  · funext a b
    simp only [pw_at]
    split <;> rfl
  · rfl
theorem pw_same {h : pH} {k j : Nat} {v : Int32} (e : h.1 k j = v) : pw h k j v = h := by
  apply Prod.ext
  · funext a b
    simp only [pw_at]
    split
    · rename_i c; rw [c.1, c.2, e]
    · rfl
  · rfl
