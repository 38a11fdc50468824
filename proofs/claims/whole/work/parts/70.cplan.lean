/-! ===== the class: the plan ===== -/
theorem mxr_congr {f g : Nat → Nat} : ∀ {n : Nat}, (∀ k, k < n → f k = g k) → mxr f n = mxr g n
  | 0, _ => rfl
  | n + 1, h => by
    show max (f n) (mxr f n) = max (g n) (mxr g n)
    rw [h n (by omega), mxr_congr (fun k hk => h k (by omega))]
theorem mxr_z {f : Nat → Nat} {n : Nat} (h : ∀ k, k < n → f k = 0) : mxr f n = 0 := Nat.le_zero.mp (mxr_le (fun k hk => by rw [h k hk]; exact Nat.le_refl _))
theorem ffr_congr {p q : Nat → Bool} : ∀ {d i : Nat}, (∀ j, i ≤ j → j < i + d → p j = q j) → ffr p d i = ffr q d i
  | 0, _, _ => rfl
  | d + 1, i, h => by
    show (if p i then ffr p d (i + 1) else i) = (if q i then ffr q d (i + 1) else i)
    rw [h i (by omega) (by omega), ffr_congr (d := d) (i := i + 1) (fun j h1 h2 => h j (by omega) (by omega))]
def bb (w : Wt) (n come g : Nat) : Nat := bm w n (rem n come).length come g
def bf (w : Wt) (n come g k : Nat) : Nat := if come.testBit k then 0 else vv w k g + bb w n (come ||| 2 ^ k) (mv w k g)
theorem rem_len {n come k : Nat} (hk : k < n) (hb : come.testBit k = false) : (rem n come).length = (rem n (come ||| 2 ^ k)).length + 1 := by
  obtain ⟨C, D, r1, r2, -, -⟩ := rem_split hk hb
  rw [r1, r2]
  simp only [List.length_append, List.length_cons]
  omega
theorem bb_d {w : Wt} {n come g d : Nat} (h : (rem n come).length = d) : bb w n come g = bm w n d come g := by unfold bb; rw [h]
theorem bb_eq (w : Wt) (n come g : Nat) : bb w n come g = mxr (bf w n come g) n := by
  cases c : (rem n come).length with
  | zero =>
    rw [bb_d c]
    show 0 = _
    refine (mxr_z (fun k hk => ?_)).symm
    unfold bf
    cases c2 : come.testBit k
    · have := rem_len hk c2; omega
    · rfl
  | succ d =>
    rw [bb_d c]
    show mxr (fun k => if come.testBit k then 0 else vv w k g + bm w n d (come ||| 2 ^ k) (mv w k g)) n = _
    refine mxr_congr (fun k hk => ?_)
    unfold bf
    cases c2 : come.testBit k
    · have := rem_len hk c2
      have e : (rem n (come ||| 2 ^ k)).length = d := by omega
      rw [bb_d e]
    · rfl
theorem vv_le (w : Wt) (k g : Nat) : vv w k g ≤ 1000 := by unfold vv; split <;> omega
theorem bm_le (w : Wt) (n : Nat) : ∀ d come g, bm w n d come g ≤ 1000 * d
  | 0, _, _ => Nat.zero_le _
  | d + 1, come, g => by
    show mxr (fun k => if come.testBit k then 0 else vv w k g + bm w n d (come ||| 2 ^ k) (mv w k g)) n ≤ _
    refine mxr_le (fun q hq => ?_)
    have h1 := vv_le w q g
    have h2 := bm_le w n d (come ||| 2 ^ q) (mv w q g)
    split <;> omega
theorem bb_le (w : Wt) {n : Nat} (come g : Nat) (hn : n ≤ 8) : bb w n come g ≤ 8000 := by
  have h1 := bm_le w n (rem n come).length come g
  have h2 : (rem n come).length ≤ n := by
    have := List.length_filter_le (fun k => !come.testBit k) (List.range n)
    rw [List.length_range] at this
    exact this
  unfold bb
  omega
theorem bf_le (w : Wt) {n : Nat} (come g k : Nat) (hn : n ≤ 8) : bf w n come g k ≤ 9000 := by
  have h1 := vv_le w k g
  have h2 := bb_le w (come ||| 2 ^ k) (mv w k g) hn
  unfold bf
  split <;> omega
def lbp (w : Wt) (n come g k : Nat) : Bool := come.testBit k || !decide (vv w k g + bb w n (come ||| 2 ^ k) (mv w k g) = bb w n come g)
theorem pk_lb {w : Wt} {n d come g : Nat} (hl : (rem n come).length = d + 1) : ffr (lbp w n come g) n 0 = pk w n d come g := by
  unfold pk
  refine ffr_congr (fun j _ hj => ?_)
  unfold lbp
  rw [bb_d hl]
  cases c : come.testBit j
  · have := rem_len (n := n) (k := j) (by omega) c
    rw [bb_d (show (rem n (come ||| 2 ^ j)).length = d by omega)]
  · rfl
theorem pk_ok {w : Wt} {n d come g : Nat} (hl : (rem n come).length = d + 1) : pk w n d come g < n ∧ come.testBit (pk w n d come g) = false := by
  have hM : bm w n (d + 1) come g = mxr (fun k => if come.testBit k then 0 else vv w k g + bm w n d (come ||| 2 ^ k) (mv w k g)) n := rfl
  have hle : ∀ x, x < n → come.testBit x = false → vv w x g + bm w n d (come ||| 2 ^ x) (mv w x g) ≤ bm w n (d + 1) come g := by
    intro x hx hb
    have := mxr_ge (f := fun k => if come.testBit k then 0 else vv w k g + bm w n d (come ||| 2 ^ k) (mv w k g)) hx
    rw [hM]
    simpa [hb] using this
  have hne : rem n come ≠ [] := fun z => by rw [z] at hl; cases hl
  obtain ⟨j0, hj0⟩ := List.exists_mem_of_ne_nil _ hne
  have hj0 := rem_mem.mp hj0
  have hex : ∃ j, j < n ∧ come.testBit j = false ∧ vv w j g + bm w n d (come ||| 2 ^ j) (mv w j g) = bm w n (d + 1) come g := by
    obtain ⟨q, hq, e⟩ := mxr_att (f := fun k => if come.testBit k then 0 else vv w k g + bm w n d (come ||| 2 ^ k) (mv w k g)) (n := n) (by omega)
    cases c : come.testBit q
    · exact ⟨q, hq, c, by rw [hM, ← e]; simp [c]⟩
    · have e0 : bm w n (d + 1) come g = 0 := by rw [hM, ← e]; simp [c]
      have := hle j0 hj0.1 hj0.2
      exact ⟨j0, hj0.1, hj0.2, by omega⟩
  have hsp := ffr_spec (fun k => come.testBit k || !decide (vv w k g + bm w n d (come ||| 2 ^ k) (mv w k g) = bm w n (d + 1) come g)) n 0
  have hpk : pk w n d come g < n := by
    rcases Nat.lt_or_ge (pk w n d come g) n with z | z
    · exact z
    · obtain ⟨j, h1, h2, h3⟩ := hex
      have := hsp.1 j (by omega) (Nat.lt_of_lt_of_le h1 z)
      simp [h2, h3] at this
  have hk := hsp.2 (by rw [Nat.zero_add]; exact hpk)
  have hk : (come.testBit (pk w n d come g) || !decide (vv w (pk w n d come g) g + bm w n d (come ||| 2 ^ pk w n d come g) (mv w (pk w n d come g) g) = bm w n (d + 1) come g)) = false := hk
  exact ⟨hpk, (Bool.or_eq_false_iff.mp hk).1⟩
theorem or_gt {come k : Nat} (hb : come.testBit k = false) : come < come ||| 2 ^ k := by
  have h1 : come ≤ come ||| 2 ^ k := Nat.left_le_or
  have h2 : come ≠ come ||| 2 ^ k := fun z => by
    have := or_bit come k k
    rw [← z, hb] at this
    simp at this
  omega
theorem or_lt {come k n : Nat} (h : come < 2 ^ n) (hk : k < n) : come ||| 2 ^ k < 2 ^ n := Nat.or_lt_two_pow h (Nat.pow_lt_pow_right (by decide) hk)
theorem bit_nat (n j : Nat) : n &&& 2 ^ j = 0 ↔ n.testBit j = false := by
  constructor
  · intro h
    have h1 : (n &&& 2 ^ j).testBit j = false := by rw [h]; simp
    rw [Nat.testBit_and] at h1
    simpa using h1
  · intro h
    apply Nat.eq_of_testBit_eq
    intro i
    rw [Nat.testBit_and]
    by_cases hi : j = i
    · subst hi; simp [h]
    · first | (simp [Nat.testBit_two_pow, hi]; done) | (simp [Nat.testBit_two_pow_of_ne hi]; done)
theorem and_nI0 {a k : Nat} (hk : k < 31) : nI a &&& nI (2 ^ k) = 0 ↔ a.testBit k = false := by
  have h2 : (2 : Nat) ^ k < 2 ^ 31 := Nat.pow_lt_pow_right (by decide) hk
  have hle : a &&& 2 ^ k ≤ 2 ^ k := Nat.and_le_right
  have e : nI a &&& nI (2 ^ k) = nI (a &&& 2 ^ k) := by
    apply Int32.toBitVec_inj.mp
    rw [Int32.toBitVec_and]
    show BitVec.ofNat 32 a &&& BitVec.ofNat 32 (2 ^ k) = BitVec.ofNat 32 (a &&& 2 ^ k)
    exact (BitVec.ofNat_and (w := 32) (x := a) (y := 2 ^ k)).symm
  rw [e, show (0 : Int32) = nI 0 from rfl, nI_eq (by omega) (by omega)]
  exact bit_nat a k
theorem pP_ok {w : Wt} {g : Nat} (h : g < max (np w) 1) : gok w g := by unfold gok; omega
theorem ok_pP {w : Wt} {g : Nat} (h : gok w g) : g < max (np w) 1 := by unfold gok at h; omega
def WM (w : Wt) (k g : Nat) (h : pH) : Prop := h.1 32 (k * 19 + g) = nI (vv w k g) ∧ h.1 33 (k * 19 + g) = nI (mv w k g)
def SW (k a b : Nat) : Prop := (a = 32 ∨ a = 33) ∧ k * 19 ≤ b ∧ b < k * 19 + 19
theorem weighC_loop {w : Wt} (hw : wok w) (N : Nat) {k : Nat} (hk : k < nk w) : ∀ (d n g : Nat) (h : pH), g + d = max (np w) 1 → d < n → cF0 w h → (∀ j, j < 4 → h.1 10 j = sI (sh w j)) → h.1 30 4 = nI (max (np w) 1) → (∀ g', g' < g → WM w k g' h) →
    ∃ h', fX4_weigh_L3 N n h (rfk w k) (nI k) (nI g) = some ((), h') ∧ Kq (SW k) h h' ∧ ∀ g', g' < max (np w) 1 → WM w k g' h' := by
  have w1 := hw.1
  have w2 := hw.2.1
  intro d
  induction d with
  | zero =>
    intro n g h hg hn hF hsh h4 hW
    obtain ⟨n, rfl⟩ : ∃ m, n = m + 1 := ⟨n - 1, by omega⟩
    obtain rfl : g = max (np w) 1 := by omega
    refine ⟨h, ?_, Kq.rf h, hW⟩
    show fX4_weigh_B3 N (fX4_weigh_L3 N n) h _ _ _ = _
    simp only [fX4_weigh_B3, h4]
    rw [if_pos (Int32.le_refl _)]
  | succ d ih =>
    intro n g h hg hn hF hsh h4 hW
    obtain ⟨n, rfl⟩ : ∃ m, n = m + 1 := ⟨n - 1, by omega⟩
    have gk : gok w g := pP_ok (by omega)
    have k1 : Kq (SW k) h (pw h 32 (k * 19 + g) (nI (vv w k g))) := (Kq.rf h).pw (by unfold SW; omega)
    have k2 : Kq (SW k) h (pw (pw h 32 (k * 19 + g) (nI (vv w k g))) 33 (k * 19 + g) (nI (mv w k g))) := k1.pw (by unfold SW; omega)
    have hF1 := hF.kq (k1.mono (fun a b z => by unfold SW at z; unfold SR; omega)) w2
    have hsh1 : ∀ j, j < 4 → (pw h 32 (k * 19 + g) (nI (vv w k g))).1 10 j = sI (sh w j) := fun j hj => by rw [k1 _ _ (by unfold SW; omega)]; exact hsh j hj
    obtain ⟨h', e, k3, q⟩ := ih n (g + 1) _ (by omega) (by omega) (hF.kq (k2.mono (fun a b z => by unfold SW at z; unfold SR; omega)) w2) (fun j hj => by rw [k2 _ _ (by unfold SW; omega)]; exact hsh j hj) (by rw [k2 _ _ (by unfold SW; omega)]; exact h4) (fun g' hg' => by
      unfold WM
      simp only [pw_at, Nat.reduceEqDiff, Nat.reduceAdd, Nat.reduceMul, Nat.reduceSub, Nat.reduceLeDiff, reduceIte, and_true, true_and, and_false, false_and, and_self, if_true, if_false, Bool.false_eq_true, not_true_eq_false, not_false_eq_true]
      by_cases c : g' = g
      · rw [if_pos (by omega), if_pos (by omega), c]; exact ⟨rfl, rfl⟩
      · rw [if_neg (by omega), if_neg (by omega)]; exact hW g' (by omega))
    refine ⟨h', ?_, k2.tr k3, q⟩
    rw [← e]
    have eb := behind_n hw hF1 N (k := k) (Or.inl rfl) hsh1 gk
    have ht := tol_le w1 k g
    have q4 := oc_le w k g
    show fX4_weigh_B3 N (fX4_weigh_L3 N n) h _ _ _ = _
    simp only [fX4_weigh_B3, fX4_weigh_b28, fX4_weigh_b65, h4, outcome_eq hw hF N gk (gx_n w g), toll_eq hw hF N gk (gx_n w g), Option.bind_some, nI_mul_lit, nI_add]
    rw [if_neg (by rw [nI_leI (by omega) (by omega)]; omega)]
    by_cases c : oc w k g = 1
    · have ev : vv w k g = 1000 - tol w k g := by unfold vv; rw [if_pos c]
      rw [if_pos (by rw [c]; rfl), if_neg (by decide), if_pos (ix_nI (by omega) (by omega)), nI_clamp (by omega), show (1000 : Int32) = nI 1000 from rfl, pk_sub (by omega), ← ev, eb]
      simp only [Option.bind_some, nI_1]
      rw [if_pos (ix_nI (by omega) (by omega))]
    · have ev : vv w k g = 0 := by unfold vv; rw [if_neg c]
      rw [ev] at eb ⊢
      rw [if_neg (by rw [show (1 : Int32) = nI 1 from rfl, nI_eq (by omega) (by omega)]; exact c), if_pos trivial, if_pos (ix_nI (by omega) (by omega)), nI_clamp (by omega), show (0 : Int32) = nI 0 from rfl, eb]
      simp only [Option.bind_some, nI_1]
      rw [if_pos (ix_nI (by omega) (by omega))]
def mkT (N : Nat) (h : pH) : Option (Unit × pH) := (fX4_findBest N h).bind fun z1 => ((fX0_firstGap N z1.2).bind fun z2 => ((fJ9_max_7cf53 N z2.2 z2.1 0).bind fun z3 => ((fX4_followBest N z3.2 z3.1).bind fun z4 => (some ((), z4.2)))))
def SY (a _b : Nat) : Prop := a = 32 ∨ a = 33
theorem make_loop {w : Wt} (hw : wok w) {N : Nat} (hN : 1000 ≤ N) : ∀ (d n k : Nat) (h : pH), k + d = nk w → d < n → cF0 w h → (∀ j, j < 4 → h.1 10 j = sI (sh w j)) → h.1 30 4 = nI (max (np w) 1) → h.1 30 5 = nI (nk w) → (∀ k' g, k' < k → g < max (np w) 1 → WM w k' g h) →
    ∃ h', fX4_make_L22 N n h (nI k) = mkT N h' ∧ Kq SY h h' ∧ ∀ k' g, k' < nk w → g < max (np w) 1 → WM w k' g h' := by
  have w1 := hw.1
  have w2 := hw.2.1
  intro d
  induction d with
  | zero =>
    intro n k h hk hn hF hsh h4 h5 hW
    obtain ⟨n, rfl⟩ : ∃ m, n = m + 1 := ⟨n - 1, by omega⟩
    obtain rfl : k = nk w := by omega
    refine ⟨h, ?_, Kq.rf h, hW⟩
    show fX4_make_B22 N (fX4_make_L22 N n) h _ = _
    simp only [fX4_make_B22, h5]
    rw [if_pos (Int32.le_refl _)]
    rfl
  | succ d ih =>
    intro n k h hk hn hF hsh h4 h5 hW
    obtain ⟨n, rfl⟩ : ∃ m, n = m + 1 := ⟨n - 1, by omega⟩
    obtain ⟨h1, e1, k1, q1⟩ := weighC_loop hw N (k := k) (by omega) (max (np w) 1) N 0 h (by omega) (by omega) hF hsh h4 (fun g hg => absurd hg (by omega))
    have k1' : Kq SY h h1 := k1.mono (fun a b z => by unfold SW at z; unfold SY; omega)
    obtain ⟨h2, e2, k2, q2⟩ := ih n (k + 1) h1 (by omega) (by omega) (hF.kq (k1'.mono (fun a b z => by unfold SY at z; unfold SR; omega)) w2) (fun j hj => by rw [k1' _ _ (by unfold SY; omega)]; exact hsh j hj) (by rw [k1' _ _ (by unfold SY; omega)]; exact h4) (by rw [k1' _ _ (by unfold SY; omega)]; exact h5) (fun k' g hk' hg => by
      by_cases c : k' = k
      · rw [c]; exact q1 g hg
      · unfold WM
        rw [k1 _ _ (by unfold SW; omega), k1 _ _ (by unfold SW; omega)]
        exact hW k' g (by omega) hg)
    refine ⟨h2, ?_, k1'.tr k2, q2⟩
    rw [← e2]
    show fX4_make_B22 N (fX4_make_L22 N n) h _ = _
    simp only [fX4_make_B22, h5, at_n hw hF.2.2.2.1 N (show k < 1000 by omega), Option.bind_some]
    rw [if_neg (by rw [nI_leI (by omega) (by omega)]; omega), show fX4_weigh N h (rfk w k) (nI k) = some ((), h1) from e1]
    simp only [Option.bind_some, nI_1]
def PS (w : Wt) (h : pH) : Prop := h.1 30 4 = nI (max (np w) 1) ∧ h.1 30 5 = nI (nk w) ∧ ∀ k g, k < nk w → g < max (np w) 1 → WM w k g h
def Bst (w : Wt) (lo : Nat) (h : pH) : Prop := ∀ come, lo ≤ come → come < 2 ^ nk w → ∀ g, g < max (np w) 1 → h.1 31 (come * 19 + g) = nI (bb w (nk w) come g)
def SZ (a b : Nat) : Prop := (a = 30 ∧ (b = 6 ∨ b = 7)) ∨ a = 31 ∨ a = 34
theorem PS.kq {w : Wt} {h h' : pH} (k : Kq SZ h h') (hP : PS w h) : PS w h' := by
  obtain ⟨h1, h2, h3⟩ := hP
  refine ⟨by rw [k _ _ (by unfold SZ; omega)]; exact h1, by rw [k _ _ (by unfold SZ; omega)]; exact h2, fun j g hj hg => ?_⟩
  unfold WM
  rw [k _ _ (by unfold SZ; omega), k _ _ (by unfold SZ; omega)]
  exact h3 j g hj hg
theorem worth_eq {w : Wt} {h : pH} (hw : wok w) (hP : PS w h) {come k g : Nat} (hB : Bst w (come + 1) h) (N : Nat) (hc : come < 2 ^ nk w) (hk : k < nk w) (hb : come.testBit k = false) (hg : g < max (np w) 1) : fX4_worthOf N h (nI come) (nI g) (nI k) = some (nI (vv w k g + bb w (nk w) (come ||| 2 ^ k) (mv w k g)), h) := by
  have w1 := hw.1
  have w2 := hw.2.1
  have hp8 : 2 ^ nk w ≤ 2 ^ 8 := Nat.pow_le_pow_right (by decide) w2
  have h1 := or_gt hb
  have h2 := or_lt hc hk
  have hm : mv w k g < max (np w) 1 := ok_pP (mv_ok (pP_ok hg))
  obtain ⟨q1, q2⟩ := hP.2.2 k g hk hg
  have hB1 := hB (come ||| 2 ^ k) (by omega) h2 _ hm
  simp only [fX4_worthOf, sh_bit (show k < 31 by omega), or_nI, nI_mul_lit, nI_add]
  rw [if_pos (ix_nI (show k * 19 + g < 152 by omega) (by omega)), if_pos (ix_nI (show k * 19 + g < 152 by omega) (by omega)), nI_clamp (show k * 19 + g < 2 ^ 31 by omega), q1, q2, nI_add, if_pos (ix_nI (show (come ||| 2 ^ k) * 19 + mv w k g < 4864 by omega) (by omega)), nI_clamp (show (come ||| 2 ^ k) * 19 + mv w k g < 2 ^ 31 by omega), hB1, nI_add]
theorem bestOf_loop {w : Wt} {h : pH} (hw : wok w) (hP : PS w h) {come g : Nat} (hB : Bst w (come + 1) h) (N : Nat) (hc : come < 2 ^ nk w) (hg : g < max (np w) 1) : ∀ (d n k : Nat), k + d = nk w → d < n →
    fX4_bestOf_L5 N n h (nI come) (nI g) (nI (mxr (bf w (nk w) come g) k)) (nI k) = some (nI (bb w (nk w) come g), h) := by
  have w2 := hw.2.1
  intro d
  induction d with
  | zero =>
    intro n k hk hn
    obtain ⟨n, rfl⟩ : ∃ m, n = m + 1 := ⟨n - 1, by omega⟩
    obtain rfl : k = nk w := by omega
    show fX4_bestOf_B5 N (fX4_bestOf_L5 N n) h _ _ _ _ = _
    simp only [fX4_bestOf_B5, hP.2.1]
    rw [if_pos (Int32.le_refl _), bb_eq w (nk w) come g]
  | succ d ih =>
    intro n k hk hn
    obtain ⟨n, rfl⟩ : ∃ m, n = m + 1 := ⟨n - 1, by omega⟩
    have e := ih n (k + 1) (by omega) (by omega)
    have l1 : mxr (bf w (nk w) come g) k ≤ 9000 := mxr_le (fun q _ => bf_le w come g q w2)
    have l2 := bf_le w come g k w2
    rw [← e]
    show fX4_bestOf_B5 N (fX4_bestOf_L5 N n) h _ _ _ _ = _
    simp only [fX4_bestOf_B5, fX4_bestOf_b36, hP.2.1, sh_bit (show k < 31 by omega), and_nI0 (show k < 31 by omega), nI_1]
    rw [if_neg (by rw [nI_leI (by omega) (by omega)]; omega), show mxr (bf w (nk w) come g) (k + 1) = max (bf w (nk w) come g k) (mxr (bf w (nk w) come g) k) from rfl]
    cases c : come.testBit k
    · have eb : bf w (nk w) come g k = vv w k g + bb w (nk w) (come ||| 2 ^ k) (mv w k g) := by unfold bf; rw [c]; rfl
      rw [if_pos rfl, worth_eq hw hP hB N hc (by omega) c hg, ← eb]
      simp only [Option.bind_some]
      rw [max_eq N h _ _ (by omega) (by omega), Nat.max_comm]
      rfl
    · have eb : bf w (nk w) come g k = 0 := by unfold bf; rw [c]; rfl
      rw [if_neg (by decide), eb, Nat.max_eq_right (Nat.zero_le _)]
theorem bestOf_eq {w : Wt} {h : pH} (hw : wok w) (hP : PS w h) {come g : Nat} (hB : Bst w (come + 1) h) {N : Nat} (hN : 1000 ≤ N) (hc : come < 2 ^ nk w) (hg : g < max (np w) 1) : fX4_bestOf N h (nI come) (nI g) = some (nI (bb w (nk w) come g), h) := by
  have w2 := hw.2.1
  exact bestOf_loop hw hP hB N hc hg (nk w) N 0 (by omega) (by omega)
theorem fB_in {w : Wt} (hw : wok w) {N : Nat} (hN : 1000 ≤ N) (K : pH → Int32 → Option (Unit × pH)) {come : Nat} (hc : come < 2 ^ nk w) : ∀ (d n g : Nat) (h : pH), g + d = max (np w) 1 → d < n → PS w h → Bst w (come + 1) h → (∀ g', g' < g → h.1 31 (come * 19 + g') = nI (bb w (nk w) come g')) →
    ∃ h', fX4_findBest_L47 N K n h (nI come) (nI g) = K h' (nI come + (-1)) ∧ Kq (fun a _ => a = 31) h h' ∧ Bst w come h' := by
  have w1 := hw.1
  have w2 := hw.2.1
  have hp8 : 2 ^ nk w ≤ 2 ^ 8 := Nat.pow_le_pow_right (by decide) w2
  intro d
  induction d with
  | zero =>
    intro n g h hg hn hP hB hG
    obtain ⟨n, rfl⟩ : ∃ m, n = m + 1 := ⟨n - 1, by omega⟩
    obtain rfl : g = max (np w) 1 := by omega
    refine ⟨h, ?_, Kq.rf h, fun c2 h1 h2 g hg => ?_⟩
    · show fX4_findBest_B47 N K (fX4_findBest_L47 N K n) h _ _ = _
      simp only [fX4_findBest_B47, hP.1]
      rw [if_pos (Int32.le_refl _)]
    · by_cases z : c2 = come
      · rw [z]; exact hG g hg
      · exact hB c2 (by omega) h2 g hg
  | succ d ih =>
    intro n g h hg hn hP hB hG
    obtain ⟨n, rfl⟩ : ∃ m, n = m + 1 := ⟨n - 1, by omega⟩
    have k1 : Kq (fun a _ => a = 31) h (pw h 31 (come * 19 + g) (nI (bb w (nk w) come g))) := (Kq.rf h).pw rfl
    obtain ⟨h', e, k2, q⟩ := ih n (g + 1) (pw h 31 (come * 19 + g) (nI (bb w (nk w) come g))) (by omega) (by omega) (hP.kq (k1.mono (fun a b z => by unfold SZ; omega))) (fun c2 h1 h2 g2 hg2 => by
      simp only [pw_at, true_and]
      rw [if_neg (by omega)]
      exact hB c2 h1 h2 g2 hg2) (fun g2 hg2 => by
      simp only [pw_at, true_and]
      by_cases z : g2 = g
      · rw [if_pos (by omega), z]
      · rw [if_neg (by omega)]; exact hG g2 (by omega))
    refine ⟨h', ?_, k1.tr k2, q⟩
    rw [← e]
    show fX4_findBest_B47 N K (fX4_findBest_L47 N K n) h _ _ = _
    simp only [fX4_findBest_B47, hP.1, bestOf_eq hw hP hB hN hc (show g < max (np w) 1 by omega), Option.bind_some, nI_mul_lit, nI_add, nI_1]
    rw [if_neg (by rw [nI_leI (by omega) (by omega)]; omega), if_pos (ix_nI (by omega) (by omega)), nI_clamp (by omega)]
theorem fB_out {w : Wt} (hw : wok w) {N : Nat} (hN : 1000 ≤ N) : ∀ (m n : Nat) (h : pH), m < n → m ≤ 2 ^ nk w → PS w h → Bst w m h →
    ∃ h', fX4_findBest_L41 N n h (nI m + (-1)) = some ((), h') ∧ Kq (fun a _ => a = 31) h h' ∧ Bst w 0 h' := by
  have w1 := hw.1
  have w2 := hw.2.1
  have hp8 : 2 ^ nk w ≤ 2 ^ 8 := Nat.pow_le_pow_right (by decide) w2
  intro m
  induction m with
  | zero =>
    intro n h hn hm hP hB
    obtain ⟨n, rfl⟩ : ∃ m, n = m + 1 := ⟨n - 1, by omega⟩
    refine ⟨h, ?_, Kq.rf h, hB⟩
    show fX4_findBest_B41 N (fX4_findBest_L41 N n) h _ = _
    simp only [fX4_findBest_B41]
    rw [if_pos (by decide)]
  | succ m ih =>
    intro n h hn hm hP hB
    obtain ⟨n, rfl⟩ : ∃ m, n = m + 1 := ⟨n - 1, by omega⟩
    obtain ⟨h1, e1, k1, q1⟩ := fB_in hw hN (fX4_findBest_L41 N n) (come := m) (by omega) (max (np w) 1) N 0 h (by omega) (by omega) hP hB (fun g hg => absurd hg (by omega))
    obtain ⟨h2, e2, k2, q2⟩ := ih n h1 (by omega) (by omega) (hP.kq (k1.mono (fun a b z => by unfold SZ; omega))) q1
    refine ⟨h2, ?_, k1.tr k2, q2⟩
    rw [← e2, ← e1, pk_m1]
    show fX4_findBest_B41 N (fX4_findBest_L41 N n) h _ = _
    simp only [fX4_findBest_B41]
    rw [if_neg (nI_pos (by omega))]
    rfl
theorem fB_0 {w : Wt} (hw : wok w) (N : Nat) {E : Nat} (hE : E < 256) : ∀ (d n g : Nat) (h : pH), g + d = max (np w) 1 → d < n → h.1 30 4 = nI (max (np w) 1) → (∀ g', g' < g → h.1 31 (E * 19 + g') = 0) →
    ∃ h', fX4_findBest_L11 N n h (nI E) (nI g) = fX4_findBest_L41 N N h' (nI E - 1) ∧ Kq (fun a _ => a = 31) h h' ∧ ∀ g', g' < max (np w) 1 → h'.1 31 (E * 19 + g') = 0 := by
  have w1 := hw.1
  intro d
  induction d with
  | zero =>
    intro n g h hg hn h4 hG
    obtain ⟨n, rfl⟩ : ∃ m, n = m + 1 := ⟨n - 1, by omega⟩
    obtain rfl : g = max (np w) 1 := by omega
    refine ⟨h, ?_, Kq.rf h, hG⟩
    show fX4_findBest_B11 N (fX4_findBest_L11 N n) h _ _ = _
    simp only [fX4_findBest_B11, h4]
    rw [if_pos (Int32.le_refl _)]
  | succ d ih =>
    intro n g h hg hn h4 hG
    obtain ⟨n, rfl⟩ : ∃ m, n = m + 1 := ⟨n - 1, by omega⟩
    have k1 : Kq (fun a _ => a = 31) h (pw h 31 (E * 19 + g) 0) := (Kq.rf h).pw rfl
    obtain ⟨h', e, k2, q⟩ := ih n (g + 1) (pw h 31 (E * 19 + g) 0) (by omega) (by omega) (by rw [k1 _ _ (by omega)]; exact h4) (fun g2 hg2 => by
      simp only [pw_at, true_and]
      by_cases z : g2 = g
      · rw [if_pos (by omega)]
      · rw [if_neg (by omega)]; exact hG g2 (by omega))
    refine ⟨h', ?_, k1.tr k2, q⟩
    rw [← e]
    show fX4_findBest_B11 N (fX4_findBest_L11 N n) h _ _ = _
    simp only [fX4_findBest_B11, h4, nI_mul_lit, nI_add, nI_1]
    rw [if_neg (by rw [nI_leI (by omega) (by omega)]; omega), if_pos (ix_nI (by omega) (by omega)), nI_clamp (by omega)]
theorem findBest_eq {w : Wt} {h : pH} (hw : wok w) (hP : PS w h) {N : Nat} (hN : 1000 ≤ N) : ∃ h', fX4_findBest N h = some ((), h') ∧ Kq (fun a _ => a = 31) h h' ∧ Bst w 0 h' := by
  have w1 := hw.1
  have w2 := hw.2.1
  have hp8 : 2 ^ nk w ≤ 2 ^ 8 := Nat.pow_le_pow_right (by decide) w2
  have hp0 : 0 < 2 ^ nk w := Nat.two_pow_pos _
  obtain ⟨h1, e1, k1, q1⟩ := fB_0 hw N (E := 2 ^ nk w - 1) (by omega) (max (np w) 1) N 0 h (by omega) (by omega) hP.1 (fun g hg => absurd hg (by omega))
  have hB : Bst w (2 ^ nk w - 1) h1 := fun come c1 c2 g hg => by
    have e : come = 2 ^ nk w - 1 := by omega
    rw [e, q1 g hg, bb_eq, mxr_z]
    · rfl
    · intro k hk
      unfold bf
      rw [Nat.testBit_two_pow_sub_one, decide_eq_true hk]
      rfl
  obtain ⟨h2, e2, k2, q2⟩ := fB_out hw hN (2 ^ nk w - 1) N h1 (by omega) (by omega) (hP.kq (k1.mono (fun a b z => by unfold SZ; omega))) hB
  refine ⟨h2, ?_, k1.tr k2, q2⟩
  rw [fX4_findBest, hP.2.1, sh_bit (by omega), show nI (2 ^ nk w) - 1 = nI (2 ^ nk w - 1) from pk_sub (b := 1) (by omega), show (0 : Int32) = nI 0 from rfl, e1, Int32.sub_eq_add_neg]
  exact e2
theorem lb_loop {w : Wt} {h : pH} (hw : wok w) (hP : PS w h) (hB : Bst w 0 h) (N : Nat) {come g : Nat} (hc : come < 2 ^ nk w) (hg : g < max (np w) 1) : ∀ (d n k : Nat), k + d = nk w → d < n →
    fX4_leastOfBest_L2 N n h (nI come) (nI g) (nI k) = some (if ffr (lbp w (nk w) come g) d k = nk w then 0 else nI (ffr (lbp w (nk w) come g) d k), h) := by
  have w1 := hw.1
  have w2 := hw.2.1
  have hp8 : 2 ^ nk w ≤ 2 ^ 8 := Nat.pow_le_pow_right (by decide) w2
  have l0 := bb_le w come g w2
  intro d
  induction d with
  | zero =>
    intro n k hk hn
    obtain ⟨n, rfl⟩ : ∃ m, n = m + 1 := ⟨n - 1, by omega⟩
    obtain rfl : k = nk w := by omega
    show fX4_leastOfBest_B2 N (fX4_leastOfBest_L2 N n) h _ _ _ = _
    simp only [fX4_leastOfBest_B2, hP.2.1, ffr, if_true]
    rw [if_pos (Int32.le_refl _)]
  | succ d ih =>
    intro n k hk hn
    obtain ⟨n, rfl⟩ : ∃ m, n = m + 1 := ⟨n - 1, by omega⟩
    have e := ih n (k + 1) (by omega) (by omega)
    have l1 := bb_le w (come ||| 2 ^ k) (mv w k g) w2
    have l2 := vv_le w k g
    show fX4_leastOfBest_B2 N (fX4_leastOfBest_L2 N n) h _ _ _ = _
    simp only [fX4_leastOfBest_B2, fX4_leastOfBest_b41, hP.2.1, sh_bit (show k < 31 by omega), and_nI0 (show k < 31 by omega), nI_1, nI_mul_lit, nI_add]
    rw [if_neg (by rw [nI_leI (by omega) (by omega)]; omega)]
    cases c : come.testBit k
    · rw [if_pos rfl, worth_eq hw hP (fun c2 h1 h2 => hB c2 (by omega) h2) N hc (by omega) c hg]
      simp only [Option.bind_some]
      rw [if_pos (ix_nI (by omega) (by omega)), nI_clamp (by omega), hB come (by omega) hc g hg]
      by_cases c2 : vv w k g + bb w (nk w) (come ||| 2 ^ k) (mv w k g) = bb w (nk w) come g
      · have hp : lbp w (nk w) come g k = false := by unfold lbp; rw [c, decide_eq_true c2]; rfl
        rw [if_pos (by rw [c2])]
        simp only [ffr, hp, Bool.false_eq_true, if_false]
        rw [if_neg (by omega)]
      · have hp : lbp w (nk w) come g k = true := by unfold lbp; rw [c, decide_eq_false c2]; rfl
        rw [if_neg (by rw [nI_eq (by omega) (by omega)]; exact c2), e]
        simp only [ffr, hp, if_true]
    · have hp : lbp w (nk w) come g k = true := by unfold lbp; rw [c]; rfl
      rw [if_neg (by decide), e]
      simp only [ffr, hp, if_true]
theorem lb_eq {w : Wt} {h : pH} (hw : wok w) (hP : PS w h) (hB : Bst w 0 h) {N : Nat} (hN : 1000 ≤ N) {come g d : Nat} (hc : come < 2 ^ nk w) (hg : g < max (np w) 1) (hl : (rem (nk w) come).length = d + 1) : fX4_leastOfBest N h (nI come) (nI g) = some (nI (pk w (nk w) d come g), h) := by
  have w2 := hw.2.1
  have e := lb_loop hw hP hB N hc hg (nk w) N 0 (by omega) (by omega)
  have hk := (pk_ok (w := w) (g := g) hl).1
  rw [pk_lb hl, if_neg (by omega)] at e
  exact e
def SU (a b : Nat) : Prop := (a = 30 ∧ (b = 6 ∨ b = 7)) ∨ a = 34
theorem fol_loop {w : Wt} (hw : wok w) {N : Nat} (hN : 1000 ≤ N) : ∀ (d n i come g A T : Nat) (h : pH), i + d = nk w → d < n → (rem (nk w) come).length = d → come < 2 ^ nk w → gok w g → cF0 w h → PS w h → Bst w 0 h → h.1 30 6 = nI A → h.1 30 7 = nI T →
    ∃ h', fX4_followBest_L19 N n h (nI come) (nI g) (nI i) = some ((), h') ∧ Kq SU h h' ∧ h'.1 30 6 = nI (A + cr w (gm w (nk w) d come g) g) ∧ h'.1 30 7 = nI (T + tr w (gm w (nk w) d come g) g) ∧ (∀ j, j < i → h'.1 34 j = h.1 34 j) ∧ ∀ j, j < d → h'.1 34 (i + j) = nI ((gm w (nk w) d come g).getD j 0) := by
  have w1 := hw.1
  have w2 := hw.2.1
  have hp8 : 2 ^ nk w ≤ 2 ^ 8 := Nat.pow_le_pow_right (by decide) w2
  intro d
  induction d with
  | zero =>
    intro n i come g A T h hi hn hl hc hg hF hP hB h6 h7
    obtain ⟨n, rfl⟩ : ∃ m, n = m + 1 := ⟨n - 1, by omega⟩
    obtain rfl : i = nk w := by omega
    refine ⟨h, ?_, Kq.rf h, h6, h7, fun _ _ => rfl, fun j hj => absurd hj (by omega)⟩
    show fX4_followBest_B19 N (fX4_followBest_L19 N n) h _ _ _ = _
    simp only [fX4_followBest_B19, hP.2.1]
    rw [if_pos (Int32.le_refl _)]
  | succ d ih =>
    intro n i come g A T h hi hn hl hc hg hF hP hB h6 h7
    obtain ⟨n, rfl⟩ : ∃ m, n = m + 1 := ⟨n - 1, by omega⟩
    have el := lb_eq hw hP hB hN hc (ok_pP hg) hl
    obtain ⟨hk, hb⟩ := pk_ok (w := w) (g := g) hl
    have hgm : gm w (nk w) (d + 1) come g = pk w (nk w) d come g :: gm w (nk w) d (come ||| 2 ^ pk w (nk w) d come g) (mv w (pk w (nk w) d come g) g) := rfl
    rw [hgm]
    generalize pk w (nk w) d come g = k at *
    have hlen := rem_len hk hb
    have hgP := ok_pP hg
    obtain ⟨q1, q2⟩ := hP.2.2 k g hk hgP
    have q4 := oc_le w k g
    have k1 : Kq SU h (pw h 34 i (nI k)) := (Kq.rf h).pw (by unfold SU; omega)
    have hF1 : cF0 w (pw h 34 i (nI k)) := hF.kq (k1.mono (fun a b z => by unfold SU at z; unfold SR; omega)) w2
    have k2 : ∀ c : Nat, Kq SU h (pw (pw h 34 i (nI k)) 30 6 (nI (A + c))) := fun c => k1.pw (by unfold SU; omega)
    have hF2 : ∀ c : Nat, cF0 w (pw (pw h 34 i (nI k)) 30 6 (nI (A + c))) := fun c => hF.kq ((k2 c).mono (fun a b z => by unfold SU at z; unfold SR; omega)) w2
    have k3 : ∀ c : Nat, Kq SU h (pw (pw (pw h 34 i (nI k)) 30 6 (nI (A + c))) 30 7 (nI (T + tol w k g))) := fun c => (k2 c).pw (by unfold SU; omega)
    have key : ∀ c : Nat, (if oc w k g = 1 then 1 else 0) = c → ∃ h', fX4_followBest_b73 N (fX4_followBest_L19 N n) (pw h 34 i (nI k)) (nI come) (nI g) (nI i) (nI k) (nI c) (nI A) = some ((), h') ∧ Kq SU h h' ∧ h'.1 30 6 = nI (A + cr w (k :: gm w (nk w) d (come ||| 2 ^ k) (mv w k g)) g) ∧ h'.1 30 7 = nI (T + tr w (k :: gm w (nk w) d (come ||| 2 ^ k) (mv w k g)) g) ∧ (∀ j, j < i → h'.1 34 j = h.1 34 j) ∧ ∀ j, j < d + 1 → h'.1 34 (i + j) = nI ((k :: gm w (nk w) d (come ||| 2 ^ k) (mv w k g)).getD j 0) := by
      intro c hcc
      have kz : Kq SZ h (pw (pw (pw h 34 i (nI k)) 30 6 (nI (A + c))) 30 7 (nI (T + tol w k g))) := (k3 c).mono (fun a b z => by unfold SU at z; unfold SZ; omega)
      obtain ⟨h', e, k4, r6, r7, r8, r9⟩ := ih n (i + 1) (come ||| 2 ^ k) (mv w k g) (A + c) (T + tol w k g) (pw (pw (pw h 34 i (nI k)) 30 6 (nI (A + c))) 30 7 (nI (T + tol w k g))) (by omega) (by omega) (by omega) (or_lt hc hk) (mv_ok hg) (hF.kq ((k3 c).mono (fun a b z => by unfold SU at z; unfold SR; omega)) w2) (hP.kq kz) (fun c2 c3 c4 g2 c5 => by
        rw [k3 c _ _ (by unfold SU; omega)]; exact hB c2 c3 c4 g2 c5) (by simp only [pw_at, Nat.reduceEqDiff, Nat.reduceAdd, Nat.reduceMul, Nat.reduceSub, Nat.reduceLeDiff, reduceIte, and_true, true_and, and_false, false_and, and_self, if_true, if_false, Bool.false_eq_true, not_true_eq_false, not_false_eq_true]) (by simp only [pw_at, Nat.reduceEqDiff, Nat.reduceAdd, Nat.reduceMul, Nat.reduceSub, Nat.reduceLeDiff, reduceIte, and_true, true_and, and_false, false_and, and_self, if_true, if_false, Bool.false_eq_true, not_true_eq_false, not_false_eq_true])
      refine ⟨h', ?_, (k3 c).tr k4, ?_, ?_, ?_, ?_⟩
      · rw [← e]
        simp only [fX4_followBest_b73, nI_add, at_n hw (hF2 c).2.2.2.1 N (show k < 1000 by omega), Option.bind_some, toll_eq hw (hF2 c) N hg (gx_n w g), nI_mul_lit, sh_bit (show k < 31 by omega), or_nI, nI_1]
        rw [if_pos (ix_nI (by omega) (by omega)), nI_clamp (by omega)]
        simp only [pw_at, Nat.reduceEqDiff, Nat.reduceAdd, Nat.reduceMul, Nat.reduceSub, Nat.reduceLeDiff, reduceIte, and_true, true_and, and_false, false_and, and_self, if_true, if_false, Bool.false_eq_true, not_true_eq_false, not_false_eq_true, h7, nI_add, q2]
      · rw [r6]
        show _ = nI (A + ((if oc w k g = 1 then 1 else 0) + cr w (gm w (nk w) d (come ||| 2 ^ k) (mv w k g)) (mv w k g)))
        rw [hcc, Nat.add_assoc]
      · rw [r7]
        show _ = nI (T + (tol w k g + tr w (gm w (nk w) d (come ||| 2 ^ k) (mv w k g)) (mv w k g)))
        rw [Nat.add_assoc]
      · intro j hj
        rw [r8 j (by omega)]
        simp only [pw_at, Nat.reduceEqDiff, Nat.reduceAdd, Nat.reduceMul, Nat.reduceSub, Nat.reduceLeDiff, reduceIte, and_true, true_and, and_false, false_and, and_self, if_true, if_false, Bool.false_eq_true, not_true_eq_false, not_false_eq_true]
        rw [if_neg (by omega)]
      · intro j hj
        cases j with
        | zero =>
          rw [Nat.add_zero, r8 i (by omega)]
          simp only [pw_at, Nat.reduceEqDiff, Nat.reduceAdd, Nat.reduceMul, Nat.reduceSub, Nat.reduceLeDiff, reduceIte, and_true, true_and, and_false, false_and, and_self, if_true, if_false, Bool.false_eq_true, not_true_eq_false, not_false_eq_true]
          rfl
        | succ j =>
          rw [show i + (j + 1) = i + 1 + j by omega, r9 j (by omega)]
          rfl
    have unf : fX4_followBest_L19 N (n + 1) h (nI come) (nI g) (nI i) = fX4_followBest_B19 N (fX4_followBest_L19 N n) h (nI come) (nI g) (nI i) := rfl
    have h6' : (pw h 34 i (nI k)).1 30 6 = nI A := by rw [pw_at, if_neg (by omega)]; exact h6
    rw [unf]
    simp only [fX4_followBest_B19, hP.2.1, el, Option.bind_some]
    rw [if_neg (by rw [nI_leI (by omega) (by omega)]; omega), if_pos (ix_nI (by omega) (by omega)), nI_clamp (by omega), at_n hw hF1.2.2.2.1 N (by omega)]
    simp only [Option.bind_some, outcome_eq hw hF1 N hg (gx_n w g), h6']
    by_cases c : oc w k g = 1
    · rw [if_pos (by rw [c]; rfl)]
      exact key 1 (by rw [if_pos c])
    · rw [if_neg (by rw [show (1 : Int32) = nI 1 from rfl, nI_eq (by omega) (by omega)]; exact c)]
      exact key 0 (by rw [if_neg c])
theorem gmax_eq {w : Wt} (hw : wok w) (N : Nat) (h : pH) : fJ9_max_7cf53 N h (gI w (g0 w)) 0 = some (nI (g0 w), h) := by
  have hg : g0 w < 19 := gok_lt hw.1 (g0_ok w)
  by_cases c : np w = 0
  · have e : gI w (g0 w) = -1 := by unfold gI; rw [if_pos c]
    have e2 : g0 w = 0 := by unfold g0; rw [if_pos c]
    rw [e, e2]
    simp only [fJ9_max_7cf53, fJ9_max_7cf53_b10]
    rfl
  · rw [gI_pos (by omega), show (0 : Int32) = nI 0 from rfl, max_eq N h _ _ (by omega) (by omega), Nat.max_eq_left (Nat.zero_le _)]
def SPl (a _b : Nat) : Prop := 30 ≤ a ∧ a ≤ 34
theorem make_eq {w : Wt} {h : pH} (hw : wok w) (hF : cF0 w h) (h91 : h.1 9 1 = nI (bg w)) (hsh : ∀ j, j < 4 → h.1 10 j = sI (sh w j)) {N : Nat} (hN : 1000 ≤ N) : ∃ h', fX4_make N h = some ((), h') ∧ Kq SPl h h' ∧ Pl w h' := by
  have w1 := hw.1
  have w2 := hw.2.1
  have k0 : Kq SPl h (pw (pw h 30 4 (nI (max (np w) 1))) 30 5 (nI (nk w))) := ((Kq.rf h).pw (by unfold SPl; omega)).pw (by unfold SPl; omega)
  generalize hh0 : pw (pw h 30 4 (nI (max (np w) 1))) 30 5 (nI (nk w)) = h0 at k0
  have s4 : h0.1 30 4 = nI (max (np w) 1) := by rw [← hh0]; simp only [pw_at, Nat.reduceEqDiff, Nat.reduceAdd, Nat.reduceMul, Nat.reduceSub, Nat.reduceLeDiff, reduceIte, and_true, true_and, and_false, false_and, and_self, if_true, if_false, Bool.false_eq_true, not_true_eq_false, not_false_eq_true]
  have s5 : h0.1 30 5 = nI (nk w) := by rw [← hh0]; simp only [pw_at, Nat.reduceEqDiff, Nat.reduceAdd, Nat.reduceMul, Nat.reduceSub, Nat.reduceLeDiff, reduceIte, and_true, true_and, and_false, false_and, and_self, if_true, if_false, Bool.false_eq_true, not_true_eq_false, not_false_eq_true]
  have hF0 : cF0 w h0 := hF.kq (k0.mono (fun a b z => by unfold SPl at z; unfold SR; omega)) w2
  obtain ⟨h1, e1, k1, q1⟩ := make_loop hw hN (nk w) N 0 h0 (by omega) (by omega) hF0 (fun j hj => by rw [k0 _ _ (by unfold SPl; omega)]; exact hsh j hj) s4 s5 (fun k g hk => absurd hk (by omega))
  have k01 : Kq SPl h h1 := k0.tr (k1.mono (fun a b z => by unfold SY at z; unfold SPl; omega))
  have hP1 : PS w h1 := ⟨by rw [k1 _ _ (by unfold SY; omega)]; exact s4, by rw [k1 _ _ (by unfold SY; omega)]; exact s5, q1⟩
  obtain ⟨h2, e2, k2, q2⟩ := findBest_eq hw hP1 hN
  have k02 : Kq SPl h h2 := k01.tr (k2.mono (fun a b z => by unfold SPl; omega))
  have hF2 : cF0 w h2 := hF.kq (k02.mono (fun a b z => by unfold SPl at z; unfold SR; omega)) w2
  have hP2 : PS w h2 := hP1.kq (k2.mono (fun a b z => by unfold SZ; omega))
  have ef := first_eq (h := h2) hw hF2.1 (by rw [k02 _ _ (by unfold SPl; omega)]; exact h91) N
  have k3 : Kq SU h2 (pw (pw h2 30 6 0) 30 7 0) := ((Kq.rf h2).pw (by unfold SU; omega)).pw (by unfold SU; omega)
  have hF3 : cF0 w (pw (pw h2 30 6 0) 30 7 0) := hF2.kq (k3.mono (fun a b z => by unfold SU at z; unfold SR; omega)) w2
  obtain ⟨h4, e4, k4, r6, r7, r8, r9⟩ := fol_loop hw hN (nk w) N 0 0 (g0 w) 0 0 (pw (pw h2 30 6 0) 30 7 0) (by omega) (by omega) (by rw [rem_0, List.length_range]) (Nat.two_pow_pos _) (g0_ok w) hF3 (hP2.kq (k3.mono (fun a b z => by unfold SU at z; unfold SZ; omega))) (fun c2 c3 c4 g2 c5 => by
    rw [k3 _ _ (by unfold SU; omega)]; exact q2 c2 c3 c4 g2 c5) (by simp only [pw_at, Nat.reduceEqDiff, Nat.reduceAdd, Nat.reduceMul, Nat.reduceSub, Nat.reduceLeDiff, reduceIte, and_true, true_and, and_false, false_and, and_self, if_true, if_false, Bool.false_eq_true, not_true_eq_false, not_false_eq_true]; rfl) (by simp only [pw_at, Nat.reduceEqDiff, Nat.reduceAdd, Nat.reduceMul, Nat.reduceSub, Nat.reduceLeDiff, reduceIte, and_true, true_and, and_false, false_and, and_self, if_true, if_false, Bool.false_eq_true, not_true_eq_false, not_false_eq_true]; rfl)
  have k24 : Kq SPl h2 h4 := (k3.tr k4).mono (fun a b z => by unfold SU at z; unfold SPl; omega)
  refine ⟨h4, ?_, k02.tr k24, ?_, ?_, ?_, ?_⟩
  · rw [fX4_make, hF.1, show (1 : Int32) = nI 1 from rfl, max_eq N h _ _ (by omega) (by omega)]
    simp only [Option.bind_some]
    have e14 : (pw h 30 4 (nI (max (np w) 1))).1 14 1 = nI (nk w) := by rw [pw_at, if_neg (by omega)]; exact hF.2.2.2.1
    rw [e14, hh0, show (0 : Int32) = nI 0 from rfl, e1, mkT, e2]
    simp only [Option.bind_some, ef, gmax_eq hw]
    rw [show fX4_followBest N h2 (nI (g0 w)) = some ((), h4) from e4]
    rfl
  · rw [k4 _ _ (by unfold SU; omega), k3 _ _ (by unfold SU; omega)]; exact hP2.2.1
  · rw [r6, Nat.zero_add]; rfl
  · rw [r7, Nat.zero_add]; rfl
  · intro k hk
    have := r9 k hk
    rw [Nat.zero_add] at this
    exact this
theorem fplan_eq {σ : St} {h : pH} (hS : Sok σ) (hC : Ci σ h) {N : Nat} (hN : 1000 ≤ N) : ∃ h', fX8_freshenPlan N h = some ((), h') ∧ Fr σ h' ∧ Pl (wOf σ) h' ∧ Kq SQ h h' := by
  have hw := wok_of hS
  have w2 := hw.2.1
  obtain ⟨h1, e1, f1, k1⟩ := fresh_eq hS hC hN
  have hF := f1.2.2.1
  have hA := f1.1
  simp only [fX8_freshenPlan, fX8_freshenPlan_b31, e1, Option.bind_some]
  by_cases c : h1.1 1 15 = 0
  · rw [if_pos c]
    exact ⟨h1, rfl, f1, f1.2.2.2 c, k1⟩
  · rw [if_neg c]
    have k2 : Kq SQ h1 (pw h1 1 15 0) := (Kq.rf h1).pw (by unfold SQ; omega)
    have k2r : Kq (fun a b => a = 1 ∧ b = 15) h1 (pw h1 1 15 0) := (Kq.rf h1).pw ⟨rfl, rfl⟩
    have hF2 : cF0 (wOf σ) (pw h1 1 15 0) := hF.1.kq (k2r.mono (fun a b z => by unfold SR; omega)) w2
    have hA2 := hA.kq k2
    obtain ⟨h3, e3, k3, q3⟩ := make_eq hw hF2 hA2.2.2.2.1 hA2.2.2.2.2.1 hN
    have k3q : Kq SQ (pw h1 1 15 0) h3 := k3.mono (fun a b z => by unfold SPl at z; unfold SQ; omega)
    refine ⟨h3, ?_, ⟨hA2.kq k3q, ?_, ⟨hF2.kq (k3.mono (fun a b z => by unfold SPl at z; unfold SR; omega)) w2, ?_⟩, fun _ => q3⟩, q3, (k1.tr k2).tr k3q⟩
    · rw [e3]; rfl
    · rw [k3 _ _ (by unfold SPl; omega), k2r _ _ (by omega)]; exact f1.2.1
    · intro i hi
      rw [k3 _ _ (by unfold SPl; omega), k2r _ _ (by omega)]; exact hF.2 i hi
theorem c_order {σ : St} {h : pH} (hS : Sok σ) (hC : Ci σ h) {N : Nat} (hN : 1000 ≤ N) (x : Int32) : ∃ h', fX8_order N h x = some (a_order σ x, h') ∧ Co σ h h' := by
  have hw := wok_of hS
  have w2 := hw.2.1
  simp only [fX8_order, wi_ix N h x 9 (by decide), Option.bind_some, b2i, a_order]
  cases c : ix x 10
  · exact ⟨h, rfl, Co.rf hC⟩
  · obtain ⟨j, hj, rfl⟩ := ix_of c (by decide)
    obtain ⟨h1, e1, f1, ⟨p1, p2, p3, p4⟩, k1⟩ := fplan_eq hS hC hN
    refine ⟨h1, ?_, Co.fr f1 k1⟩
    simp only [Bool.true_eq_false, if_false, if_true, e1, Option.bind_some, nI_clamp (show j < 2 ^ 31 by omega)]
    unfold ordA
    by_cases c0 : j = 0
    · rw [if_pos (by rw [c0]; rfl), if_pos c0, p2]
    · rw [if_neg (by rw [show (0 : Int32) = nI 0 from rfl, nI_eq (by omega) (by omega)]; exact c0), if_neg c0]
      by_cases c1 : j = 1
      · rw [if_pos (by rw [c1]; rfl), if_pos c1, p3]
      · rw [if_neg (by rw [show (1 : Int32) = nI 1 from rfl, nI_eq (by omega) (by omega)]; exact c1), if_neg c1, show (2 : Int32) = nI 2 from rfl, pk_sub (by omega)]
        simp only [fX4_whoAt, fX4_whoAt_b24, p1, wi_ixm N h1 (nI (j - 2)) (nk (wOf σ)) (by omega), Option.bind_some, b2i]
        by_cases c2 : j - 2 < nk (wOf σ)
        · rw [ix_nI c2 (by omega), if_neg (by decide), if_pos (ix_nI (by omega) (by omega)), nI_clamp (by omega), p4 _ c2, if_pos c2]
          rfl
        · have : ix (nI (j - 2)) (nk (wOf σ)) = false := by
            cases c3 : ix (nI (j - 2)) (nk (wOf σ))
            · rfl
            · have := ix_iff.mp c3; rw [nI_toInt (by omega)] at this; omega
          rw [this, if_pos rfl, if_neg c2]
          rfl
