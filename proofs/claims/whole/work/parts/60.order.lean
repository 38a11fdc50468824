/-! ===== the reference's order ===== -/
/-- the best row as kept: none yet, or one -/
def BO (w : Wt) (b : Option (List Nat)) (h : pH) : Prop := match b with
  | none => h.1 49 25 = -1 ∧ h.1 49 26 = 0
  | some r => r.length = nk w ∧ h.1 49 25 = nI (cr w r (g0 w)) ∧ h.1 49 26 = nI (tr w r (g0 w)) ∧ ∀ k, k < nk w → h.1 66 k = nI (r.getD k 0)
theorem BO.kp {w : Wt} {b : Option (List Nat)} {h h' : pH} (k : Kp (fun a b => S3 a b ∨ a = 65) h h') (hb : BO w b h) : BO w b h' := by
  have e : ∀ a b, ¬ (S3 a b ∨ a = 65) → h'.1 a b = h.1 a b := k.2
  unfold S3 at e
  cases b with
  | none =>
    refine ⟨?_, ?_⟩
    · rw [e _ _ (by omega)]; exact hb.1
    · rw [e _ _ (by omega)]; exact hb.2
  | some r =>
    refine ⟨hb.1, ?_, ?_, ?_⟩
    · rw [e _ _ (by omega)]; exact hb.2.1
    · rw [e _ _ (by omega)]; exact hb.2.2.1
    · intro k hk; rw [e _ _ (by omega)]; exact hb.2.2.2 k hk
def SO (a b : Nat) : Prop := (a = 49 ∧ (b = 19 ∨ b = 21 ∨ b = 22 ∨ b = 25 ∨ b = 26)) ∨ a = 65 ∨ a = 66
theorem SO_SM {a b : Nat} (h : SO a b) : SM a b := by unfold SO at h; unfold SM; omega
theorem lst_getD (ρ : Nat → Nat) {n k : Nat} (h : k < n) : (lst ρ n 0).getD k 0 = ρ k := by
  rw [List.getD_eq_getElem?_getD, List.getElem?_eq_getElem (by rw [lst_len]; exact h), Option.getD_some, lst_get, Nat.zero_add]
theorem weigh_copy {w : Wt} (hw : wok w) (N : Nat) {ρ : Nat → Nat} : ∀ (d n i : Nat) (h : pH), i + d = nk w → d < n → h.1 49 9 = nI (nk w) → Rw ρ (nk w) h → (∀ k, k < i → h.1 66 k = nI (ρ k)) →
    ∃ h', fX9_weighs_L101 N n h (nI i) = some ((), h') ∧ Kp (fun a _ => a = 66) h h' ∧ ∀ k, k < nk w → h'.1 66 k = nI (ρ k) := by
  have w2 := hw.2.1
  intro d
  induction d with
  | zero =>
    intro n i h hi hn h9 hR h1
    obtain ⟨n, rfl⟩ : ∃ m, n = m + 1 := ⟨n - 1, by omega⟩
    obtain rfl : i = nk w := by omega
    refine ⟨h, ?_, Kp.rf h, h1⟩
    show fX9_weighs_B101 N (fX9_weighs_L101 N n) h _ = _
    simp only [fX9_weighs_B101, fX9_weighs_b127, h9]
    rw [if_pos (Int32.le_refl _)]
  | succ d ih =>
    intro n i h hi hn h9 hR h1
    obtain ⟨n, rfl⟩ : ∃ m, n = m + 1 := ⟨n - 1, by omega⟩
    obtain ⟨h', e, k, q⟩ := ih n (i + 1) (pw h 66 i (nI (ρ i))) (by omega) (by omega) (by simp only [pw_at, Nat.reduceEqDiff, Nat.reduceAdd, Nat.reduceMul, Nat.reduceSub, Nat.reduceLeDiff, reduceIte, and_true, true_and, and_false, false_and, and_self, if_true, if_false, Bool.false_eq_true, not_true_eq_false, not_false_eq_true]; exact h9) (fun k hk => by simp only [pw_at, Nat.reduceEqDiff, Nat.reduceAdd, Nat.reduceMul, Nat.reduceSub, Nat.reduceLeDiff, reduceIte, and_true, true_and, and_false, false_and, and_self, if_true, if_false, Bool.false_eq_true, not_true_eq_false, not_false_eq_true]; exact hR k hk) (fun k hk => by
      simp only [pw_at, Nat.reduceEqDiff, Nat.reduceAdd, Nat.reduceMul, Nat.reduceSub, Nat.reduceLeDiff, reduceIte, and_true, true_and, and_false, false_and, and_self, if_true, if_false, Bool.false_eq_true, not_true_eq_false, not_false_eq_true]
      by_cases c : k = i
      · rw [if_pos c, c]
      · rw [if_neg c]; exact h1 k (by omega))
    refine ⟨h', ?_, ((Kp.rf h).pw (S := fun a _ => a = 66) rfl).tr k, q⟩
    rw [← e]
    show fX9_weighs_B101 N (fX9_weighs_L101 N n) h _ = _
    simp (disch := omega) only [fX9_weighs_B101, h9, nI_leI, ix_nI, nI_clamp, if_true, nI_1, hR i (by omega)]
    rw [if_neg (by omega)]
def wfin (N : Nat) (h : pH) (x1 x2 : Int32) : Option (Unit × pH) := if (h.1 49 25) < x1 then (fX9_weighs_b89 N h x1 x2) else (if x1 = (h.1 49 25) then (if (h.1 49 26) ≤ x2 then (fX9_weighs_b127 N h) else (fX9_weighs_b89 N h x1 x2)) else (fX9_weighs_b127 N h))
theorem weigh_loop {w : Wt} (hw : wok w) {N : Nat} (hN : 1000 ≤ N) {ρ : Nat → Nat} (hv : ∀ k, k < nk w → ρ k < 100) : ∀ (d n i a b g : Nat) (h : pH), i + d = nk w → d < n → mF w h → gok w g → h.1 49 19 = gI w g → Rw ρ (nk w) h →
    ∃ h', fX9_weighs_L10 N n h (nI a) (nI b) (nI i) = wfin N h' (nI (a + cr w (lst ρ d i) g)) (nI (b + tr w (lst ρ d i) g)) ∧ K3 h h' := by
  have w2 := hw.2.1
  intro d
  induction d with
  | zero =>
    intro n i a b g h hi hn hF hg hgap hR
    obtain ⟨n, rfl⟩ : ∃ m, n = m + 1 := ⟨n - 1, by omega⟩
    obtain rfl : i = nk w := by omega
    refine ⟨h, ?_, K3.rf h⟩
    show fX9_weighs_B10 N (fX9_weighs_L10 N n) h _ _ _ = _
    simp only [fX9_weighs_B10, hF.2.2.1]
    rw [if_pos (Int32.le_refl _)]
    rfl
  | succ d ih =>
    intro n i a b g h hi hn hF hg hgap hR
    obtain ⟨n, rfl⟩ : ∃ m, n = m + 1 := ⟨n - 1, by omega⟩
    have vi := hv i (by omega)
    obtain ⟨h1, e1, k1, g1, m1, -⟩ := tries_eq hw hF hN (k := ρ i) vi hg hgap
    have hF1 := hF.k3 k1
    have hR1 : Rw ρ (nk w) h1 := fun k hk => by rw [k1.2 65 k (by omega)]; exact hR k hk
    have hT := tollOf_eq hw hF1 N (k := ρ i) (g := g) m1
    obtain ⟨h', e, k2⟩ := ih n (i + 1) (a + (if oc w (ρ i) g = 1 then 1 else 0)) (b + tol w (ρ i) g) (mv w (ρ i) g) h1 (by omega) (by omega) hF1 (mv_ok hg) g1 hR1
    refine ⟨h', ?_, k1.tr k2⟩
    have unf : fX9_weighs_L10 N (n + 1) h (nI a) (nI b) (nI i) = fX9_weighs_B10 N (fX9_weighs_L10 N n) h (nI a) (nI b) (nI i) := rfl
    have q4 := oc_le w (ρ i) g
    rw [unf]
    simp only [fX9_weighs_B10, hF.2.2.1, fX9_weighs_b42]
    rw [if_neg (by rw [nI_leI (by omega) (by omega)]; omega), if_pos (ix_nI (by omega) (by omega)), nI_clamp (by omega), hR i (by omega), e1]
    simp only [Option.bind_some, hR1 i (by omega), hT, nI_add, nI_1]
    rw [if_pos (ix_nI (by omega) (by omega)), if_pos (ix_nI (by omega) (by omega))]
    rw [show lst ρ (d + 1) i = ρ i :: lst ρ d (i + 1) from rfl, show cr w (ρ i :: lst ρ d (i + 1)) g = (if oc w (ρ i) g = 1 then 1 else 0) + cr w (lst ρ d (i + 1)) (mv w (ρ i) g) from rfl, show tr w (ρ i :: lst ρ d (i + 1)) g = tol w (ρ i) g + tr w (lst ρ d (i + 1)) (mv w (ρ i) g) from rfl, ← Nat.add_assoc, ← Nat.add_assoc, ← e]
    by_cases c : oc w (ρ i) g = 1
    · rw [if_pos (by rw [c]; rfl), if_pos c]
    · rw [if_neg (by rw [show (1 : Int32) = nI 1 from rfl, nI_eq (by omega) (by omega)]; exact c), if_neg c, show (0 : Int32) = nI 0 from rfl, nI_add]
theorem weighs_eq {w : Wt} {h : pH} (hw : wok w) (hF : mF w h) {N : Nat} (hN : 1000 ≤ N) {ρ : Nat → Nat} (hv : ∀ k, k < nk w → ρ k < 100) (hR : Rw ρ (nk w) h) {b : Option (List Nat)} (hb : BO w b h) :
    ∃ h', fX9_weighs N h = some ((), h') ∧ Kp SO h h' ∧ Rw ρ (nk w) h' ∧ BO w (fmx (fun r => Vr w r (g0 w)) b (lst ρ (nk w) 0)) h' := by
  have w1 := hw.1
  have w2 := hw.2.1
  have k0 : K3 h (pw h 49 19 (gI w (g0 w))) := (K3.rf h).pw (by omega)
  obtain ⟨h1, e1, k1⟩ := weigh_loop hw hN hv (nk w) N 0 0 0 (g0 w) (pw h 49 19 (gI w (g0 w))) (by omega) (by omega) (hF.k3 k0) (g0_ok w) (by simp [pw_at]) (fun k hk => by simp only [pw_at, Nat.reduceEqDiff, Nat.reduceAdd, Nat.reduceMul, Nat.reduceSub, Nat.reduceLeDiff, reduceIte, and_true, true_and, and_false, false_and, and_self, if_true, if_false, Bool.false_eq_true, not_true_eq_false, not_false_eq_true]; exact hR k hk)
  rw [fX9_weighs, begins_eq hw hF]
  simp only [Option.bind_some]
  have e1' : fX9_weighs_L10 N N (pw h 49 19 (gI w (g0 w))) 0 0 0 = _ := e1
  rw [e1', Nat.zero_add, Nat.zero_add]
  have kk := k0.tr k1
  have hb1 : BO w b h1 := hb.kp ⟨kk.1, fun a b z => kk.2 a b (fun q => z (Or.inl q))⟩
  have hR1 : Rw ρ (nk w) h1 := fun k hk => by rw [kk.2 65 k (by omega)]; exact hR k hk
  have h9 : h1.1 49 9 = nI (nk w) := by rw [kk.2 49 9 (by omega)]; exact hF.2.2.1
  have kS : Kp SO h h1 := ⟨kk.1, fun a b z => kk.2 a b (fun q => z (by unfold SO; omega))⟩
  have hl := lst_len ρ (nk w) 0
  have c8 := cr_le w (lst ρ (nk w) 0) (g0 w)
  have t8 := tr_le w1 (lst ρ (nk w) 0) (g0 w)
  have take : ∃ h', fX9_weighs_b89 N h1 (nI (cr w (lst ρ (nk w) 0) (g0 w))) (nI (tr w (lst ρ (nk w) 0) (g0 w))) = some ((), h') ∧ Kp SO h h' ∧ Rw ρ (nk w) h' ∧ BO w (some (lst ρ (nk w) 0)) h' := by
    obtain ⟨h2, e2, k2, q2⟩ := weigh_copy hw N (ρ := ρ) (nk w) N 0 (pw (pw h1 49 25 (nI (cr w (lst ρ (nk w) 0) (g0 w)))) 49 26 (nI (tr w (lst ρ (nk w) 0) (g0 w)))) (by omega) (by omega) (by simp only [pw_at, Nat.reduceEqDiff, Nat.reduceAdd, Nat.reduceMul, Nat.reduceSub, Nat.reduceLeDiff, reduceIte, and_true, true_and, and_false, false_and, and_self, if_true, if_false, Bool.false_eq_true, not_true_eq_false, not_false_eq_true]; exact h9) (fun k hk => by simp only [pw_at, Nat.reduceEqDiff, Nat.reduceAdd, Nat.reduceMul, Nat.reduceSub, Nat.reduceLeDiff, reduceIte, and_true, true_and, and_false, false_and, and_self, if_true, if_false, Bool.false_eq_true, not_true_eq_false, not_false_eq_true]; exact hR1 k hk) (fun k hk => absurd hk (by omega))
    refine ⟨h2, e2, ((kS.pw (by unfold SO; omega)).pw (by unfold SO; omega)).tr (k2.mono (fun a b z => by unfold SO; omega)), ?_, hl, ?_, ?_, ?_⟩
    · intro k hk; rw [k2.2 65 k (by omega)]; simp only [pw_at, Nat.reduceEqDiff, Nat.reduceAdd, Nat.reduceMul, Nat.reduceSub, Nat.reduceLeDiff, reduceIte, and_true, true_and, and_false, false_and, and_self, if_true, if_false, Bool.false_eq_true, not_true_eq_false, not_false_eq_true]; exact hR1 k hk
    · rw [k2.2 49 25 (by omega)]; simp only [pw_at, Nat.reduceEqDiff, Nat.reduceAdd, Nat.reduceMul, Nat.reduceSub, Nat.reduceLeDiff, reduceIte, and_true, true_and, and_false, false_and, and_self, if_true, if_false, Bool.false_eq_true, not_true_eq_false, not_false_eq_true]
    · rw [k2.2 49 26 (by omega)]; simp only [pw_at, Nat.reduceEqDiff, Nat.reduceAdd, Nat.reduceMul, Nat.reduceSub, Nat.reduceLeDiff, reduceIte, and_true, true_and, and_false, false_and, and_self, if_true, if_false, Bool.false_eq_true, not_true_eq_false, not_false_eq_true]
    · intro k hk; rw [q2 k hk, lst_getD ρ hk]
  unfold wfin
  cases b with
  | none =>
    rw [hb1.1, if_pos (by
      rw [Int32.lt_iff_toInt_lt, nI_toInt (by omega)]
      show (-1 : Int) < _
      omega)]
    exact take
  | some r =>
    obtain ⟨b0, b1, b2, b3⟩ := hb1
    have c9 := cr_le w r (g0 w)
    have t9 := tr_le w1 r (g0 w)
    have vl := Vr_lt w1 (r := lst ρ (nk w) 0) (q := r) (by omega) (by omega) (g0 w)
    rw [show fmx (fun r => Vr w r (g0 w)) (some r) (lst ρ (nk w) 0) = (if Vr w r (g0 w) < Vr w (lst ρ (nk w) 0) (g0 w) then some (lst ρ (nk w) 0) else some r) from rfl]
    simp (disch := omega) only [b1, b2, nI_ltI, nI_eq, nI_leI, fX9_weighs_b127]
    by_cases c1 : cr w r (g0 w) < cr w (lst ρ (nk w) 0) (g0 w)
    · rw [if_pos c1, if_pos (vl.mpr (Or.inl c1))]; exact take
    · rw [if_neg c1]
      by_cases c2 : cr w (lst ρ (nk w) 0) (g0 w) = cr w r (g0 w)
      · rw [if_pos c2]
        by_cases c3 : tr w r (g0 w) ≤ tr w (lst ρ (nk w) 0) (g0 w)
        · rw [if_pos c3, if_neg (fun z => by have := vl.mp z; omega)]
          exact ⟨h1, rfl, kS, hR1, b0, b1, b2, b3⟩
        · rw [if_neg c3, if_pos (vl.mpr (Or.inr ⟨c2, by omega⟩))]; exact take
      · rw [if_neg c2, if_neg (fun z => by have := vl.mp z; omega)]
        exact ⟨h1, rfl, kS, hR1, b0, b1, b2, b3⟩
theorem order_loop {w : Wt} (hw : wok w) {N : Nat} (hN : 1000 ≤ N) : ∀ (L : List (List Nat)) (n : Nat) (a e : List Nat) (ρ : Nat → Nat) (h : pH) (b : Option (List Nat)), L.length < n → Run L a e → nextP e = none → a = lst ρ (nk w) 0 → mF w h → (∀ k, k < nk w → ρ k < 100) → Rw ρ (nk w) h → BO w b h →
    ∃ h', fX9_findOrder_L35 N n h 1 = some ((), h') ∧ Kp SO h h' ∧ BO w (L.foldl (fmx (fun r => Vr w r (g0 w))) b) h' := by
  have w2 := hw.2.1
  intro L
  induction L with
  | nil => intro n a e ρ h b _ hr; exact absurd hr id
  | cons r L ih =>
    intro n a e ρ h b hn hr he ha hF hv hR hb
    obtain ⟨n, rfl⟩ : ∃ m, n = m + 1 := ⟨n - 1, by omega⟩
    obtain ⟨h1, e1, k1, hR1, hb1⟩ := weighs_eq hw hF hN hv hR hb
    have hF1 := hF.kp (k1.mono (fun _ _ => SO_SM))
    obtain ⟨v, h2, e2, hx⟩ := nextRow_eq hN w2 hR1 hv hF1.2.2.1
    have hra : r = a := hr.hd
    have unf : fX9_findOrder_L35 N (n + 1) h 1 = fX9_findOrder_B35 N (fX9_findOrder_L35 N n) h 1 := rfl
    rw [unf]
    simp only [fX9_findOrder_B35, e1, Option.bind_some, e2]
    rw [if_neg (by decide)]
    show ∃ h', _ ∧ _ ∧ BO w (L.foldl (fmx (fun r => Vr w r (g0 w))) (fmx (fun r => Vr w r (g0 w)) b r)) h'
    rw [hra, ha]
    cases L with
    | nil =>
      have hl : r = e := hr.2
      rcases hx with ⟨x1, x2, x3⟩ | ⟨x1, τ, x2, -⟩
      · obtain ⟨n, rfl⟩ : ∃ m, n = m + 1 := ⟨n - 1, by simp at hn; omega⟩
        rw [x1, x2]
        exact ⟨h1, rfl, k1, hb1⟩
      · rw [← ha, ← hra, hl, he] at x2; cases x2
    | cons s M =>
      have hns : nextP r = some s := hr.2.1
      rcases hx with ⟨x1, x2, x3⟩ | ⟨x1, τ, x2, x3, x4, x5⟩
      · rw [← ha, ← hra, hns] at x3; cases x3
      · rw [← ha, ← hra, hns] at x2
        have hs : s = lst τ (nk w) 0 := Option.some.inj x2
        rw [x1]
        have k5 : Kp SO h1 h2 := x5.mono (fun a b z => by unfold SO; omega)
        obtain ⟨h', e3, k3, q3⟩ := ih n s e τ h2 _ (by simp at hn ⊢; omega) hr.2.2 he hs (hF1.kp (k5.mono (fun _ _ => SO_SM))) x4 x3 (hb1.kp (x5.mono (fun a b z => Or.inr z)))
        exact ⟨h', e3, (k1.tr k5).tr k3, q3⟩
theorem blk_len {f : List Nat → List (List Nat)} {c : Nat} {n : Nat} (hf : ∀ xs, xs.length = n → (f xs).length ≤ c) : ∀ (B A : List Nat), (A ++ B).length = n + 1 → (blk f A B).length ≤ B.length * c
  | [], A, _ => by simp [blk]
  | x :: B, A, h => by
    have ih := blk_len (f := f) (c := c) (n := n) hf B (A ++ [x]) (by simp at h ⊢; omega)
    have h2 := hf (A ++ B) (by simp at h ⊢; omega)
    simp only [blk, List.length_append, List.length_map, List.length_cons]
    rw [Nat.add_mul, Nat.one_mul]
    omega
theorem lex_len : ∀ (n : Nat) (xs : List Nat), n ≤ 8 → xs.length = n → (lex n xs).length ≤ 8 ^ n
  | 0, _, _, _ => Nat.le_refl _
  | n + 1, xs, hn, hl => by
    have h := blk_len (f := lex n) (c := 8 ^ n) (n := n) (fun ys hy => lex_len n ys (by omega) hy) xs [] (by simpa using hl)
    show (blk (lex n) [] xs).length ≤ 8 ^ (n + 1)
    rw [hl] at h
    rw [Nat.pow_succ, Nat.mul_comm]
    exact Nat.le_trans h (Nat.mul_le_mul_right _ (by omega))
theorem lst_range : ∀ (d a : Nat), lst (fun k => k) d a = (List.range d).map (fun k => a + k)
  | 0, _ => rfl
  | d + 1, a => by
    show a :: lst (fun k => k) d (a + 1) = _
    rw [lst_range d (a + 1), List.range_succ_eq_map, List.map_cons, List.map_map]
    congr 1
    apply List.map_congr_left
    intro k _
    show a + 1 + k = a + (k + 1)
    omega
theorem order_init {w : Wt} (hw : wok w) (N : Nat) : ∀ (d n i : Nat) (h : pH), i + d = nk w → d < n → h.1 49 9 = nI (nk w) → Rw (fun k => k) i h →
    ∃ h', fX9_findOrder_L12 N n h (nI i) = fX9_findOrder_L35 N N h' 1 ∧ Kp (fun a _ => a = 65) h h' ∧ Rw (fun k => k) (nk w) h' := by
  have w2 := hw.2.1
  intro d
  induction d with
  | zero =>
    intro n i h hi hn h9 hR
    obtain ⟨n, rfl⟩ : ∃ m, n = m + 1 := ⟨n - 1, by omega⟩
    obtain rfl : i = nk w := by omega
    refine ⟨h, ?_, Kp.rf h, hR⟩
    show fX9_findOrder_B12 N (fX9_findOrder_L12 N n) h _ = _
    simp only [fX9_findOrder_B12, h9]
    rw [if_pos (Int32.le_refl _)]
  | succ d ih =>
    intro n i h hi hn h9 hR
    obtain ⟨n, rfl⟩ : ∃ m, n = m + 1 := ⟨n - 1, by omega⟩
    obtain ⟨h', e, k, q⟩ := ih n (i + 1) (pw h 65 i (nI i)) (by omega) (by omega) (by simp only [pw_at, Nat.reduceEqDiff, Nat.reduceAdd, Nat.reduceMul, Nat.reduceSub, Nat.reduceLeDiff, reduceIte, and_true, true_and, and_false, false_and, and_self, if_true, if_false, Bool.false_eq_true, not_true_eq_false, not_false_eq_true]; exact h9) (fun k hk => by
      simp only [pw_at, Nat.reduceEqDiff, Nat.reduceAdd, Nat.reduceMul, Nat.reduceSub, Nat.reduceLeDiff, reduceIte, and_true, true_and, and_false, false_and, and_self, if_true, if_false, Bool.false_eq_true, not_true_eq_false, not_false_eq_true]
      by_cases c : k = i
      · rw [if_pos c, c]
      · rw [if_neg c]; exact hR k (by omega))
    refine ⟨h', ?_, ((Kp.rf h).pw (S := fun a _ => a = 65) rfl).tr k, q⟩
    rw [← e]
    show fX9_findOrder_B12 N (fX9_findOrder_L12 N n) h _ = _
    simp (disch := omega) only [fX9_findOrder_B12, h9, nI_leI, ix_nI, nI_clamp, if_true, nI_1]
    rw [if_neg (by omega)]
theorem findOrder_eq {w : Wt} {h : pH} (hw : wok w) (hF : mF w h) {N : Nat} (hN : 2 ^ 50 ≤ N) :
    ∃ h', fX9_findOrder N h = some ((), h') ∧ Kp SO h h' ∧ BO w (some (oR w)) h' := by
  have w2 := hw.2.1
  obtain ⟨h1, e1, k1, r1⟩ := order_init hw N (nk w) N 0 (pw (pw h 49 25 (-1)) 49 26 0) (by omega) (by omega) (by simp only [pw_at, Nat.reduceEqDiff, Nat.reduceAdd, Nat.reduceMul, Nat.reduceSub, Nat.reduceLeDiff, reduceIte, and_true, true_and, and_false, false_and, and_self, if_true, if_false, Bool.false_eq_true, not_true_eq_false, not_false_eq_true]; exact hF.2.2.1) (fun k hk => absurd hk (by omega))
  have kk : Kp SO h h1 := (((Kp.rf h).pw (by unfold SO; omega)).pw (by unfold SO; omega)).tr (k1.mono (fun a b z => by unfold SO; omega))
  have e0 : lst (fun k => k) (nk w) 0 = List.range (nk w) := by rw [lst_range]; simp
  have hrun := lex_run (n := nk w) (xs := List.range (nk w)) List.length_range List.pairwise_lt_range
  have hlen := lex_len (nk w) (List.range (nk w)) w2 List.length_range
  have p8 : 8 ^ nk w ≤ 8 ^ 8 := Nat.pow_le_pow_right (by decide) w2
  obtain ⟨h2, e2, k2, q2⟩ := order_loop hw (N := N) (by omega) (lex (nk w) (List.range (nk w))) N _ _ (fun k => k) h1 none (by omega) hrun (nextP_dec (Asc.rev List.pairwise_lt_range)) e0.symm (hF.kp (kk.mono (fun _ _ => SO_SM))) (fun k hk => by omega) r1 ⟨by rw [k1.2 _ _ (by omega)]; simp only [pw_at, Nat.reduceEqDiff, Nat.reduceAdd, Nat.reduceMul, Nat.reduceSub, Nat.reduceLeDiff, reduceIte, and_true, true_and, and_false, false_and, and_self, if_true, if_false, Bool.false_eq_true, not_true_eq_false, not_false_eq_true], by rw [k1.2 _ _ (by omega)]; simp only [pw_at, Nat.reduceEqDiff, Nat.reduceAdd, Nat.reduceMul, Nat.reduceSub, Nat.reduceLeDiff, reduceIte, and_true, true_and, and_false, false_and, and_self, if_true, if_false, Bool.false_eq_true, not_true_eq_false, not_false_eq_true]⟩
  rw [order_fold] at q2
  refine ⟨h2, ?_, kk.tr k2, q2⟩
  rw [fX9_findOrder]
  exact e1.trans e2
def ordA (w : Wt) (j : Nat) : Int32 := if j = 0 then nI (cr w (oR w) (g0 w)) else if j = 1 then nI (tr w (oR w) (g0 w)) else if j - 2 < nk w then nI ((oR w).getD (j - 2) 0) else -1
theorem orderBy_eq {w : Wt} {h : pH} (hw : wok w) (h9 : h.1 49 9 = nI (nk w)) (hb : BO w (some (oR w)) h) (N : Nat) {j : Nat} (hj : j < 10) : fX9_orderBy N h (nI j) = some (ordA w j, h) := by
  have w2 := hw.2.1
  obtain ⟨b0, b1, b2, b3⟩ := hb
  simp only [fX9_orderBy, fX9_orderBy_b45, b1, b2, h9, ordA]
  by_cases c0 : j = 0
  · rw [if_pos (by rw [c0]; rfl), if_pos c0]
  · rw [if_neg (by rw [show (0 : Int32) = nI 0 from rfl, nI_eq (by omega) (by omega)]; exact c0), if_neg c0]
    by_cases c1 : j = 1
    · rw [if_pos (by rw [c1]; rfl), if_pos c1]
    · rw [if_neg (by rw [show (1 : Int32) = nI 1 from rfl, nI_eq (by omega) (by omega)]; exact c1), if_neg c1, show (2 : Int32) = nI 2 from rfl, pk_sub (by omega)]
      by_cases c2 : j - 2 < nk w
      · rw [if_neg (by rw [nI_leI (by omega) (by omega)]; omega), if_pos (ix_nI (by omega) (by omega)), if_pos c2, nI_clamp (by omega), b3 _ c2]
      · rw [if_pos (by rw [nI_leI (by omega) (by omega)]; omega), if_neg c2]
def a_order (σ : St) (x : Int32) : Int32 := if ix x 10 then ordA (wOf σ) x.toNatClampNeg else -2
theorem m_order {σ : St} {h : pH} (hS : Sok σ) (hB : Bm σ h) {N : Nat} (hN : 2 ^ 50 ≤ N) (x : Int32) : ∃ h', fX9_order N h x = some (a_order σ x, h') ∧ Kp SF h h' := by
  obtain ⟨h1, e, k, hF, hL⟩ := find_eq hS hB (N := N) (by omega)
  rw [fX9_order, e]
  simp only [Option.bind_some, in_ix N h1 x 9 (by decide), b2i, a_order]
  cases c : ix x 10
  · exact ⟨h1, rfl, k⟩
  · obtain ⟨j, hj, rfl⟩ := ix_of c (by decide)
    obtain ⟨h2, e2, k2, b2⟩ := findOrder_eq (wok_of hS) hF hN
    have hF2 := hF.kp (k2.mono (fun _ _ => SO_SM))
    refine ⟨h2, ?_, k.tr (k2.mono (fun _ _ z => SM_SF (SO_SM z)))⟩
    simp only [Bool.true_eq_false, if_false, if_true, e2, Option.bind_some, orderBy_eq (wok_of hS) hF2.2.2.1 b2 N hj, nI_clamp (show j < 2 ^ 31 by omega)]
