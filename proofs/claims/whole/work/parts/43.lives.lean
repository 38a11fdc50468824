/-! ===== the reference: all crossings ===== -/
def Kp (S : Nat → Nat → Prop) (h h' : pH) : Prop := h'.2 = h.2 ∧ ∀ a b, ¬ S a b → h'.1 a b = h.1 a b
theorem Kp.rf {S : Nat → Nat → Prop} (h : pH) : Kp S h h := ⟨rfl, fun _ _ _ => rfl⟩
theorem Kp.tr {S : Nat → Nat → Prop} {a b c : pH} (h1 : Kp S a b) (h2 : Kp S b c) : Kp S a c := ⟨h2.1.trans h1.1, fun x y z => (h2.2 x y z).trans (h1.2 x y z)⟩
theorem Kp.mono {S T : Nat → Nat → Prop} {a b : pH} (h : Kp S a b) (hST : ∀ x y, S x y → T x y) : Kp T a b := ⟨h.1, fun x y z => h.2 x y (fun q => z (hST x y q))⟩
theorem Kp.pw {S : Nat → Nat → Prop} {h h' : pH} {k j : Nat} {v : Int32} (h1 : Kp S h h') (hj : S k j) : Kp S h (pw h' k j v) := ⟨h1.1, fun a b z => by
  rw [pw_at, if_neg (fun c => z (by rw [c.1, c.2]; exact hj))]
  exact h1.2 a b z⟩
def S3 (a b : Nat) : Prop := a = 49 ∧ (b = 19 ∨ b = 21 ∨ b = 22)
def S7 (a b : Nat) : Prop := (a = 49 ∧ (b = 19 ∨ b = 21 ∨ b = 22)) ∨ (61 ≤ a ∧ a ≤ 64)
/-- all scratch of the reference but what the texts are read into -/
def SM (a b : Nat) : Prop := (a = 49 ∧ (b = 19 ∨ b = 21 ∨ b = 22 ∨ b = 25 ∨ b = 26 ∨ b = 30)) ∨ (61 ≤ a ∧ a ≤ 66) ∨ a = 53 ∨ a = 68
/-- all scratch of the reference -/
def SF (a b : Nat) : Prop := (a = 49 ∧ (b = 19 ∨ b = 21 ∨ b = 22 ∨ b = 25 ∨ b = 26 ∨ b = 30 ∨ b = 7 ∨ b = 9 ∨ b = 11)) ∨ (61 ≤ a ∧ a ≤ 66) ∨ a = 53 ∨ a = 68 ∨ a = 56 ∨ a = 57 ∨ a = 58
theorem K3.kp {h h' : pH} (k : K3 h h') : Kp S7 h h' := ⟨k.1, fun a b z => k.2 a b (fun q => z (Or.inl q))⟩
theorem S7_SM {a b : Nat} (h : S7 a b) : SM a b := by unfold S7 at h; unfold SM; omega
theorem SM_SF {a b : Nat} (h : SM a b) : SF a b := by unfold SM at h; unfold SF; omega
theorem mF.kp {w : Wt} {h h' : pH} (hk : Kp SM h h') (hF : mF w h) : mF w h' := by
  obtain ⟨h1, h2, h3, h4, h5, h6, h7, h8, h9⟩ := hF
  have e : ∀ a b, ¬ SM a b → h'.1 a b = h.1 a b := hk.2
  unfold SM at e
  refine ⟨?_, ?_, ?_, ?_, ?_, ?_, ?_, ?_, ?_⟩
  · rw [e _ _ (by omega)]; exact h1
  · intro p hp; rw [e _ _ (by omega)]; exact h2 p hp
  · rw [e _ _ (by omega)]; exact h3
  · intro k hk; rw [e _ _ (by omega), e _ _ (by omega), e _ _ (by omega), e _ _ (by omega)]; exact h4 k hk
  · rw [e _ _ (by omega)]; exact h5
  · intro i hi; rw [e _ _ (by omega)]; exact h6 i hi
  · rw [e _ _ (by omega)]; exact h7
  · rw [e _ _ (by omega)]; exact h8
  · intro k hk; rw [e _ _ (by omega)]; exact h9 k hk
theorem shm_fin : ((List.range 31).all fun i => decide (((nI i &&& 31).toBitVec.smod 32).toNat = i)) = true := by decide +kernel
theorem isIn_eq (N : Nat) (h : pH) {m i : Nat} (hm : m < 2 ^ 31) (hi : i < 31) : fX9_isIn N h (nI m) (nI i) = some (if m.testBit i then 1 else 0, h) := by
  have e1 : ((nI i &&& 31).toBitVec.smod 32).toNat = i := of_decide_eq_true (List.all_eq_true.mp shm_fin i (List.mem_range.mpr hi))
  have e2 : m / 2 ^ i < 2 ^ 32 := Nat.lt_of_le_of_lt (Nat.div_le_self _ _) (by omega)
  have e3 : nI m >>> (nI i &&& 31) &&& 1 = nI (m / 2 ^ i % 2 ^ 1) := by
    rw [pk_shrN hm _ i e1, pk_andN e2 1 (by decide)]
  simp only [fX9_isIn, fX9_isIn_b14, e3]
  rw [Nat.testBit_eq_decide_div_mod_eq]
  by_cases c : m / 2 ^ i % 2 = 1
  · rw [if_pos (by rw [Nat.pow_one, c]; rfl)]
    simp [c]
  · rw [if_neg (by rw [show (1 : Int32) = nI 1 from rfl, nI_eq (by omega) (by omega)]; simpa using c)]
    simp [c]
def ocm (w : Wt) (gone : Nat → Bool) (i : Nat) : Nat := if gone i then 0 else oc w (wh w i) (Gm w gone i)
def tom (w : Wt) (gone : Nat → Bool) (i : Nat) : Nat := if gone i then 0 else tol w (wh w i) (Gm w gone i)
def rom (w : Wt) (gone : Nat → Bool) (i : Nat) : Nat := if gone i then 0 else rws w (wh w i) (Gm w gone i)
theorem tollOf_eq {w : Wt} {h : pH} (hw : wok w) (hF : mF w h) (N : Nat) {k g : Nat} (hm : h.1 49 21 = nI (mnyT w k g)) : fX9_tollOf N h (nI k) (nI (oc w k g)) = some (nI (tol w k g), h) := by
  have hoc : oc w k g ≤ 2 := by unfold oc; split <;> (try split) <;> omega
  simp only [fX9_tollOf, fX9_tollOf_b24, fX9_tollOf_b25, lit_mul_nI]
  by_cases c : oc w k g = 1
  · have hk : k < nk w := by
      unfold oc at c
      split at c
      · rename_i h2; exact h2.2.2
      · cases c
    have hk2 := hw.2.1
    have hk4 := (hF.2.2.2.1 k hk).1
    have hk5 := (hw.2.2.1 k hk).1
    rw [if_pos (by rw [c]; rfl), if_pos (ix_nI (by omega) (by omega)), nI_clamp (by omega), hk4]
    unfold tol
    by_cases c2 : kd w k = 4
    · rw [if_pos (by rw [c2]; rfl), if_neg (by omega)]; rfl
    · rw [if_neg (by rw [show (4 : Int32) = nI 4 from rfl, nI_eq (by omega) (by omega)]; exact c2), if_pos ⟨c, c2⟩, hm]
      simp [mnyT, c]
  · rw [if_neg (by rw [show (1 : Int32) = nI 1 from rfl, nI_eq (by omega) (by omega)]; exact c)]
    unfold tol
    rw [if_neg (by omega)]
    rfl
def Lv0 (w : Wt) (gone : Nat → Bool) (i : Nat) (h : pH) : Prop := h.1 49 19 = gI w (Gm w gone i) ∧ (∀ j, j ≤ i → h.1 61 j = gI w (Gm w gone j)) ∧ ∀ j, j < i → h.1 62 j = nI (ocm w gone j) ∧ h.1 63 j = nI (tom w gone j) ∧ h.1 64 j = nI (rom w gone j)
def Lv (w : Wt) (gone : Nat → Bool) (h : pH) : Prop := Lv0 w gone (nc w) h
theorem lives_step {w : Wt} {h : pH} (hw : wok w) (hF : mF w h) {N : Nat} (hN : 1000 ≤ N) (K : pH → Int32 → Option (Unit × pH)) {m i : Nat} (hm : m < 2 ^ 31) (hgo : h.1 49 20 = nI m) (hi : i < nc w) (hL : Lv0 w (fun j => m.testBit j) i h) :
    ∃ h', fX9_lives_B16 N K h (nI i) = K h' (nI (i + 1)) ∧ Kp S7 h h' ∧ Lv0 w (fun j => m.testBit j) (i + 1) h' := by
  have w4 := hw.2.2.2.1
  have hwi := hw.2.2.2.2.1 i hi
  obtain ⟨l1, l2, l3⟩ := hL
  have hnc := hF.2.2.2.2.1
  have hwh := hF.2.2.2.2.2.1 i hi
  simp only [fX9_lives_B16, hnc, hgo]
  rw [if_neg (by rw [nI_leI (by omega) (by omega)]; omega), isIn_eq N h hm (by omega)]
  simp only [Option.bind_some]
  have fin : ∀ (h1 : pH) (a b c : Nat), K3 h h1 → h1.1 49 19 = gI w (Gm w (fun j => m.testBit j) (i + 1)) → a = ocm w (fun j => m.testBit j) i → b = tom w (fun j => m.testBit j) i → c = rom w (fun j => m.testBit j) i →
      Kp S7 h (pw (pw (pw (pw h1 62 i (nI a)) 63 i (nI b)) 64 i (nI c)) 61 (i + 1) (gI w (Gm w (fun j => m.testBit j) (i + 1)))) ∧ Lv0 w (fun j => m.testBit j) (i + 1) (pw (pw (pw (pw h1 62 i (nI a)) 63 i (nI b)) 64 i (nI c)) 61 (i + 1) (gI w (Gm w (fun j => m.testBit j) (i + 1)))) := by
    intro h1 a b c hk hg ea eb ec
    refine ⟨(((hk.kp.pw (by unfold S7; omega)).pw (by unfold S7; omega)).pw (by unfold S7; omega)).pw (by unfold S7; omega), ?_, ?_, ?_⟩
    · simp only [pw_at, Nat.reduceEqDiff, Nat.reduceAdd, Nat.reduceMul, Nat.reduceSub, Nat.reduceLeDiff, reduceIte, and_true, true_and, and_false, false_and, and_self, if_true, if_false, Bool.false_eq_true, not_true_eq_false, not_false_eq_true, hg]
    · intro j hj
      simp only [pw_at, Nat.reduceEqDiff, Nat.reduceAdd, Nat.reduceMul, Nat.reduceSub, Nat.reduceLeDiff, reduceIte, and_true, true_and, and_false, false_and, and_self, if_true, if_false, Bool.false_eq_true, not_true_eq_false, not_false_eq_true]
      by_cases c : j = i + 1
      · rw [if_pos c, c]
      · rw [if_neg c, hk.2 61 j (by omega)]
        exact l2 j (by omega)
    · intro j hj
      simp only [pw_at, Nat.reduceEqDiff, Nat.reduceAdd, Nat.reduceMul, Nat.reduceSub, Nat.reduceLeDiff, reduceIte, and_true, true_and, and_false, false_and, and_self, if_true, if_false, Bool.false_eq_true, not_true_eq_false, not_false_eq_true]
      by_cases c : j = i
      · rw [if_pos c, if_pos c, if_pos c, c, ea, eb, ec]
        exact ⟨rfl, rfl, rfl⟩
      · rw [if_neg c, if_neg c, if_neg c, hk.2 62 j (by omega), hk.2 63 j (by omega), hk.2 64 j (by omega)]
        exact l3 j (by omega)
  have i24 : i < 24 := by omega
  by_cases c : m.testBit i = true
  · have e : Gm w (fun j => m.testBit j) (i + 1) = Gm w (fun j => m.testBit j) i := by simp [Gm, c]
    refine ⟨_, ?_, fin h 0 0 0 (K3.rf h) (by rw [l1, e]) (by simp [ocm, c]) (by simp [tom, c]) (by simp [rom, c])⟩
    simp only [c, if_true, show ¬ ((1 : Int32) = 0) by decide, if_false, fX9_lives_b40, fX9_lives_b64, fX9_lives_b94, fX9_lives_b112]
    simp (disch := omega) only [ix_nI, nI_clamp, nI_add_lit, Nat.reduceEqDiff, Nat.reduceAdd, Nat.reduceMul, Nat.reduceSub, Nat.reduceLeDiff, reduceIte, and_true, true_and, and_false, false_and, and_self, if_true, if_false, Bool.false_eq_true, not_true_eq_false, not_false_eq_true, pw_at, l1, e]
    rfl
  · have c' : m.testBit i = false := by simpa using c
    have e : Gm w (fun j => m.testBit j) (i + 1) = mv w (wh w i) (Gm w (fun j => m.testBit j) i) := by simp [Gm, c']
    obtain ⟨h1, e1, k1, k2, k3, k4⟩ := tries_eq hw hF hN (k := wh w i) (by omega) (Gm_ok w _ i) l1
    refine ⟨_, ?_, fin h1 _ _ _ k1 (by rw [k2, e]) rfl rfl rfl⟩
    have hF1 : mF w (pw h1 62 i (nI (oc w (wh w i) (Gm w (fun j => m.testBit j) i)))) := (hF.k3 k1).kp ((Kp.rf h1).pw (by unfold SM; omega))
    have hT := tollOf_eq hw hF1 N (k := wh w i) (g := Gm w (fun j => m.testBit j) i) (by simp only [pw_at, Nat.reduceEqDiff, Nat.reduceAdd, Nat.reduceMul, Nat.reduceSub, Nat.reduceLeDiff, reduceIte, and_true, true_and, and_false, false_and, and_self, if_true, if_false, Bool.false_eq_true, not_true_eq_false, not_false_eq_true]; exact k3)
    have hwh1 : h1.1 58 i = nI (wh w i) := by rw [k1.2 58 i (by omega)]; exact hwh
    simp only [c', if_true, show ¬ ((1 : Int32) = 0) by decide, if_false, fX9_lives_b40, Bool.false_eq_true]
    rw [if_pos (ix_nI (by omega) (by omega)), nI_clamp (by omega), hwh, e1]
    simp only [Option.bind_some, fX9_lives_b64, show ¬ ((1 : Int32) = 0) by decide, if_false]
    simp (disch := omega) only [ix_nI, nI_clamp, Nat.reduceEqDiff, Nat.reduceAdd, Nat.reduceMul, Nat.reduceSub, Nat.reduceLeDiff, reduceIte, and_true, true_and, and_false, false_and, and_self, if_true, if_false, Bool.false_eq_true, not_true_eq_false, not_false_eq_true, pw_at, hwh1, hT, Option.bind_some, fX9_lives_b94, fX9_lives_b112, show ¬ ((1 : Int32) = 0) by decide, nI_add_lit, k4, k2, e, ocm, tom, rom, c']
theorem lives_loop {w : Wt} (hw : wok w) {N : Nat} (hN : 1000 ≤ N) {m : Nat} (hm : m < 2 ^ 31) : ∀ (d n i : Nat) (h : pH), i + d = nc w → d < n → mF w h → h.1 49 20 = nI m → Lv0 w (fun j => m.testBit j) i h →
    ∃ h', fX9_lives_L16 N n h (nI i) = some ((), h') ∧ Kp S7 h h' ∧ Lv w (fun j => m.testBit j) h' := by
  intro d
  induction d with
  | zero =>
    intro n i h hi hn hF hgo hL
    obtain ⟨n, rfl⟩ : ∃ m, n = m + 1 := ⟨n - 1, by omega⟩
    obtain rfl : i = nc w := by omega
    refine ⟨h, ?_, Kp.rf h, hL⟩
    show fX9_lives_B16 N (fX9_lives_L16 N n) h _ = _
    simp only [fX9_lives_B16, hF.2.2.2.2.1]
    rw [if_pos (Int32.le_refl _)]
  | succ d ih =>
    intro n i h hi hn hF hgo hL
    obtain ⟨n, rfl⟩ : ∃ m, n = m + 1 := ⟨n - 1, by omega⟩
    obtain ⟨h1, e1, k1, k2⟩ := lives_step hw hF hN (fX9_lives_L16 N n) hm hgo (by omega) hL
    obtain ⟨h2, e2, k3, k4⟩ := ih n (i + 1) h1 (by omega) (by omega) (hF.kp (k1.mono (fun _ _ => S7_SM))) (by rw [k1.2 49 20 (by unfold S7; omega)]; exact hgo) k2
    refine ⟨h2, ?_, k1.tr k3, k4⟩
    show fX9_lives_B16 N (fX9_lives_L16 N n) h _ = _
    rw [e1]
    exact e2
theorem begins_eq {w : Wt} {h : pH} (hw : wok w) (hF : mF w h) (N : Nat) : fX9_begins N h = some ((), pw h 49 19 (gI w (g0 w))) := by
  have w1 := hw.1
  have w7 := hw.2.2.2.2.2.2.1
  simp only [fX9_begins, fX9_begins_b23, hF.1, hF.2.2.2.2.2.2.2.1, cl1, ixc12, if_true]
  by_cases c : np w = 0
  · rw [if_pos (by rw [c]; rfl)]
    simp [gI, c]
  · have c2 : ¬ nI (np w) = 0 := by rw [show (0 : Int32) = nI 0 from rfl, nI_eq (by omega) (by omega)]; exact c
    rw [if_neg c2, if_pos c2, nI_rem (by omega) (by omega) (by omega)]
    simp [gI, g0, c]
/-- lives(): everything anew -/
theorem lives_eq {w : Wt} {h : pH} (hw : wok w) (hF : mF w h) {N : Nat} (hN : 1000 ≤ N) {m : Nat} (hm : m < 2 ^ 31) (hgo : h.1 49 20 = nI m) :
    ∃ h', fX9_lives N h = some ((), h') ∧ Kp S7 h h' ∧ Lv w (fun j => m.testBit j) h' := by
  have w4 := hw.2.2.2.1
  have hK : Kp S7 h (pw (pw h 49 19 (gI w (g0 w))) 61 0 (gI w (g0 w))) := ((Kp.rf h).pw (by unfold S7; omega)).pw (by unfold S7; omega)
  have hL0 : Lv0 w (fun j => m.testBit j) 0 (pw (pw h 49 19 (gI w (g0 w))) 61 0 (gI w (g0 w))) := by
    refine ⟨by simp [pw_at, Gm], fun j hj => ?_, fun j hj => absurd hj (by omega)⟩
    obtain rfl : j = 0 := by omega
    simp [pw_at, Gm]
  obtain ⟨h', e, k1, k2⟩ := lives_loop hw hN hm (nc w) N 0 _ (by omega) (by omega) (hF.kp (hK.mono (fun _ _ => S7_SM))) (by simp only [pw_at, Nat.reduceEqDiff, Nat.reduceAdd, Nat.reduceMul, Nat.reduceSub, Nat.reduceLeDiff, reduceIte, and_true, true_and, and_false, false_and, and_self, if_true, if_false, Bool.false_eq_true, not_true_eq_false, not_false_eq_true]; exact hgo) hL0
  refine ⟨h', ?_, hK.tr k1, k2⟩
  rw [fX9_lives, begins_eq hw hF]
  simp only [Option.bind_some, cl0, show ix 0 25 = true from by decide, if_true]
  rw [show (0 : Int32) = nI 0 from rfl]
  simp only [pw_at, Nat.reduceEqDiff, Nat.reduceAdd, Nat.reduceMul, Nat.reduceSub, Nat.reduceLeDiff, reduceIte, and_true, true_and, and_false, false_and, and_self, if_true, if_false, Bool.false_eq_true, not_true_eq_false, not_false_eq_true]
  exact e
