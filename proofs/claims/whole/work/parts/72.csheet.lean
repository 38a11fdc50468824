/-! ===== the class: sheets ===== -/
theorem sheetAt_eq (N : Nat) (h : pH) (x : Int32) : fX8_sheetAt N h x = some (if ix x 4 then 41 + x.toNatClampNeg else 0, h) := by
  simp only [fX8_sheetAt, fX8_sheetAt_b19, wi_ix N h x 3 (by decide), Option.bind_some, b2i]
  cases c : ix x 4
  · rfl
  · obtain ⟨t, ht, rfl⟩ := ix_of c (by decide)
    simp (disch := omega) only [Bool.true_eq_false, if_false, if_true, nI_clamp, (r_sheet ht).2.2.2.2.2.2.2]
theorem items_eq (N : Nat) {h : pH} {s sz : Nat} (hs : s < 4) (h3 : h.1 (41 + s) 3 = nI sz) (hsz : sz ≤ 60) (x n : Int32) : fX5_hasItems N h (41 + s) x n = some (if 0 ≤ x.toInt ∧ 0 ≤ n.toInt ∧ x.toInt + n.toInt ≤ sz then 1 else 0, h) := by
  obtain ⟨r1, r2, r3, r4, r5, r6, r7, r8⟩ := r_sheet hs
  simp only [fX5_hasItems, fX5_hasItems_b22, fX5_hasItems_b23, r4, h3, if_true, true_or, or_true]
  by_cases c1 : x < 0
  · rw [if_pos c1, if_neg (by rw [lt0] at c1; omega)]
  · rw [if_neg c1]
    by_cases c2 : n < 0
    · rw [if_pos c2, if_neg (by rw [lt0] at c2; omega)]
    · rw [if_neg c2]
      obtain ⟨m, hm, rfl⟩ := nI_of c2
      have e : (nI sz - nI m).toInt = (sz : Int) - m := by
        rw [Int32.toInt_sub, nI_toInt (by omega), nI_toInt (by omega)]
        exact Int.bmod_eq_of_le (by omega) (by omega)
      rw [lt0] at c1
      rw [nI_toInt hm]
      by_cases c3 : x.toInt + m ≤ sz
      · rw [if_neg (by rw [Int32.lt_iff_toInt_lt, e]; omega), if_pos (by omega)]
      · rw [if_pos (by rw [Int32.lt_iff_toInt_lt, e]; omega), if_neg (by omega)]
theorem items1 (N : Nat) {h : pH} {s sz : Nat} (hs : s < 4) (h3 : h.1 (41 + s) 3 = nI sz) (hsz : sz ≤ 60) (z : Int32) : fX5_hasItems N h (41 + s) z 1 = some (if ix z sz then 1 else 0, h) := by
  rw [items_eq N hs h3 hsz]
  have e : (0 ≤ z.toInt ∧ 0 ≤ (1 : Int32).toInt ∧ z.toInt + (1 : Int32).toInt ≤ sz) ↔ ix z sz = true := by
    rw [ix_iff, show (1 : Int32).toInt = 1 from by decide]; omega
  simp only [e]
theorem itemsN (N : Nat) {h : pH} {s sz i : Nat} (hs : s < 4) (h3 : h.1 (41 + s) 3 = nI sz) (hsz : sz ≤ 60) (hi : i < sz) : fX5_hasItems N h (41 + s) (nI i) 1 = some (1, h) := by
  rw [items1 N hs h3 hsz, ix_nI hi (by omega)]; rfl
theorem finding_eq {σ : St} {h : pH} (hS : Sok σ) (hA : Ac σ h) (N : Nat) {s : Nat} (hs : s < 4) (y z : Int32) : fX5_findingAt N h (41 + s) y z = some (nI (lkF σ s y z), h) := by
  have q := hS.2.2.2.2.1 s hs
  obtain ⟨q1, q2, q3⟩ := hA.2.2.2.2.2.1 s hs
  obtain ⟨r1, r2, r3, r4, r5, r6, r7, r8⟩ := r_sheet hs
  simp only [fX5_findingAt, fX5_findingAt_b33, r1, r2, r3, if_true, items1 N hs q3 q.2.2, Option.bind_some, b2i, lkF]
  by_cases c : 0 ≤ t_fm σ s
  · rw [q1, q2 c]
    simp only [c, if_true]
    by_cases c2 : sI (t_fm σ s) = y
    · rw [if_pos c2.symm, if_pos c2]
      cases ix z (t_sz σ s) <;> rfl
    · rw [if_neg (fun z => c2 z.symm), if_neg c2]; rfl
  · rw [q1]
    simp only [c, if_false, show ¬ ((1 : Int32) = 0) by decide]
    rfl
theorem item_eq {σ : St} {h : pH} (hS : Sok σ) (hA : Ac σ h) (N : Nat) {s i : Nat} (hs : s < 4) (hi : i < t_sz σ s) : fX5_itemAt N h (41 + s) (nI i) = some (t_it σ s i, h) := by
  have q := hS.2.2.2.2.1 s hs
  obtain ⟨q1, q2, q3⟩ := hA.2.2.2.2.2.1 s hs
  obtain ⟨r1, r2, r3, r4, r5, r6, r7, r8⟩ := r_sheet hs
  simp only [fX5_itemAt, fX5_itemAt_b19, r1, r5, r6, r7, if_true, itemsN N hs q3 q.2.2 hi, Option.bind_some, show ¬ ((1 : Int32) = 0) by decide, if_false, true_and]
  rw [if_pos (by omega), if_pos (ix_nI (by omega) (by omega)), nI_clamp (by omega), hA.2.2.2.2.2.2.1 s hs i hi]
theorem low_eq (N : Nat) {h : pH} {s : Nat} (hs : s < 4) {f : Int32} (h2 : h.1 (41 + s) 2 = f) (v : Int32) : fX5_lowestBits N h (41 + s) v = some (cutV f v, h) := by
  obtain ⟨r1, r2, r3, r4, r5, r6, r7, r8⟩ := r_sheet hs
  simp only [fX5_lowestBits, fX5_lowestBits_b24, r3, if_true, h2, cutV]
  by_cases c : f = 0
  · rw [if_pos c, if_pos c]
  · rw [if_neg c, if_neg c]
    by_cases c1 : f = 1
    · rw [if_pos c1, if_pos c1]
    · rw [if_neg c1, if_neg c1]
theorem put_eq (N : Nat) {h : pH} {s sz i : Nat} (hs : s < 4) {f : Int32} (h2 : h.1 (41 + s) 2 = f) (h3 : h.1 (41 + s) 3 = nI sz) (hsz : sz ≤ 60) (hi : i < sz) (v : Int32) : fX5_put N h (41 + s) (nI i) v = some ((), pw h (45 + s) i (cutV f v)) := by
  obtain ⟨r1, r2, r3, r4, r5, r6, r7, r8⟩ := r_sheet hs
  simp only [fX5_put, fX5_put_b20, r1, r5, r6, r7, if_true, itemsN N hs h3 hsz hi, Option.bind_some, show ¬ ((1 : Int32) = 0) by decide, if_false, true_and, low_eq N hs h2]
  rw [if_pos (by omega), if_pos (ix_nI (by omega) (by omega)), nI_clamp (by omega)]
def SS (s a b : Nat) : Prop := (a = 41 + s ∧ (b = 1 ∨ b = 2 ∨ b = 3)) ∨ a = 45 + s
theorem Ac.sht {σ : St} {h h' : pH} (hA : Ac σ h) {s : Nat} (hs : s < 4) {f : Int} {n : Nat} {g : Nat → Int32} (k : Kq (SS s) h h') (v1 : h'.1 (41 + s) 1 = if 0 ≤ f then 0 else 1) (v2 : 0 ≤ f → h'.1 (41 + s) 2 = sI f) (v3 : h'.1 (41 + s) 3 = nI n) (v4 : ∀ i, i < n → h'.1 (45 + s) i = g i) : Ac (uSt σ s f n g) h' := by
  obtain ⟨h1, h2, h3, h4, h5, h6, h7, h8, h9, h10⟩ := hA
  have k : ∀ a b, ¬ SS s a b → h'.1 a b = h.1 a b := k
  unfold SS at k
  refine ⟨?_, ?_, ?_, ?_, ?_, ?_, ?_, ?_, ?_, ?_⟩
  · intro t ht; rw [k _ _ (by omega)]; exact h1 t ht
  · intro t ht i hi; rw [k _ _ (by omega)]; exact h2 t ht i hi
  · rw [k _ _ (by omega)]; exact h3
  · rw [k _ _ (by omega)]; exact h4
  · intro j hj; rw [k _ _ (by omega)]; exact h5 j hj
  · intro s' hs'
    show _ = (if 0 ≤ (if s' = s then f else t_fm σ s') then 0 else 1) ∧ (0 ≤ (if s' = s then f else t_fm σ s') → _ = sI (if s' = s then f else t_fm σ s')) ∧ _ = nI (if s' = s then n else t_sz σ s')
    by_cases c : s' = s
    · rw [if_pos c, if_pos c, c]; exact ⟨v1, v2, v3⟩
    · rw [if_neg c, if_neg c, k _ _ (by omega), k _ _ (by omega), k _ _ (by omega)]; exact h6 s' hs'
  · intro s' hs' i hi
    have hi : i < (if s' = s then n else t_sz σ s') := hi
    show _ = (if s' = s then g else t_it σ s') i
    by_cases c : s' = s
    · rw [if_pos c] at hi ⊢
      rw [c]; exact v4 i hi
    · rw [if_neg c] at hi ⊢
      rw [k _ _ (by omega)]; exact h7 s' hs' i hi
  · rw [k _ _ (by omega)]; exact h8
  · intro j hj; rw [k _ _ (by omega), k _ _ (by omega)]; exact h9 j hj
  · rw [k _ _ (by omega)]; exact h10
theorem Ci.sht {σ : St} {h h' : pH} (hS : Sok σ) (hC : Ci σ h) {s : Nat} (hs : s < 4) {f : Int} {n : Nat} {g : Nat → Int32} (k : Kq (SS s) h h') (v1 : h'.1 (41 + s) 1 = if 0 ≤ f then 0 else 1) (v2 : 0 ≤ f → h'.1 (41 + s) 2 = sI f) (v3 : h'.1 (41 + s) 3 = nI n) (v4 : ∀ i, i < n → h'.1 (45 + s) i = g i) : Ci (uSt σ s f n g) h' ∧ Kq SH h h' :=
  ⟨Ci.up (σ := σ) (σ' := uSt σ s f n g) rfl (wok_of hS).2.1 (k.mono (fun a b z => by unfold SS at z; unfold SE; omega)) hC (hC.1.sht hs k v1 v2 v3 v4), k.mono (fun a b z => by unfold SS at z; unfold SH; omega)⟩
theorem Ci.lf {σ : St} {h : pH} (hS : Sok σ) (hC : Ci σ h) (x : Int32) : Ci (uLf σ x) (pw h 1 13 x) ∧ Kq SH h (pw h 1 13 x) := by
  have k : Kq (fun a b => a = 1 ∧ b = 13) h (pw h 1 13 x) := (Kq.rf h).pw (by omega)
  refine ⟨Ci.up (σ := σ) (σ' := uLf σ x) rfl (wok_of hS).2.1 (k.mono (fun a b z => by unfold SE; omega)) hC ?_, k.mono (fun a b z => by unfold SH; omega)⟩
  obtain ⟨h1, h2, h3, h4, h5, h6, h7, h8, h9, h10⟩ := hC.1
  refine ⟨?_, ?_, ?_, ?_, ?_, ?_, ?_, ?_, ?_, ?_⟩
  · intro t ht; rw [k _ _ (by omega)]; exact h1 t ht
  · intro t ht i hi; rw [k _ _ (by omega)]; exact h2 t ht i hi
  · rw [k _ _ (by omega)]; exact h3
  · rw [k _ _ (by omega)]; exact h4
  · intro j hj; rw [k _ _ (by omega)]; exact h5 j hj
  · intro s hs; rw [k _ _ (by omega), k _ _ (by omega), k _ _ (by omega)]; exact h6 s hs
  · intro s hs i hi; rw [k _ _ (by omega)]; exact h7 s hs i hi
  · rw [k _ _ (by omega)]; exact h8
  · intro j hj; rw [k _ _ (by omega), k _ _ (by omega)]; exact h9 j hj
  · rw [pw_at, if_pos ⟨rfl, rfl⟩]; rfl
theorem renew_loop (N : Nat) {s m : Nat} (hs : s < 4) (hm : m ≤ 60) : ∀ (d n i : Nat) (h : pH), i + d = m → d < n → h.1 (41 + s) 3 = nI m → (∀ j, j < i → h.1 (45 + s) j = 0) →
    ∃ h', fX5_renew_L22 N n h (41 + s) (nI i) = some ((), h') ∧ Kq (fun a _ => a = 45 + s) h h' ∧ ∀ j, j < m → h'.1 (45 + s) j = 0 := by
  obtain ⟨r1, r2, r3, r4, r5, r6, r7, r8⟩ := r_sheet hs
  intro d
  induction d with
  | zero =>
    intro n i h hi hn h3 hz
    obtain ⟨n, rfl⟩ : ∃ m, n = m + 1 := ⟨n - 1, by omega⟩
    obtain rfl : i = m := by omega
    refine ⟨h, ?_, Kq.rf h, hz⟩
    show fX5_renew_B22 N (fX5_renew_L22 N n) h _ _ = _
    simp only [fX5_renew_B22, h3, r4, if_true]
    rw [if_pos (Int32.le_refl _)]
  | succ d ih =>
    intro n i h hi hn h3 hz
    obtain ⟨n, rfl⟩ : ∃ m, n = m + 1 := ⟨n - 1, by omega⟩
    have k1 : Kq (fun a _ => a = 45 + s) h (pw h (45 + s) i 0) := (Kq.rf h).pw rfl
    obtain ⟨h', e, k2, q⟩ := ih n (i + 1) (pw h (45 + s) i 0) (by omega) (by omega) (by rw [k1 _ _ (by omega)]; exact h3) (fun j hj => by
      simp only [pw_at, true_and]
      by_cases c : j = i
      · rw [if_pos c]
      · rw [if_neg c]; exact hz j (by omega))
    refine ⟨h', ?_, k1.tr k2, q⟩
    rw [← e]
    show fX5_renew_B22 N (fX5_renew_L22 N n) h _ _ = _
    simp only [fX5_renew_B22, h3, r1, r4, r5, r6, r7, if_true, true_and, nI_1]
    rw [if_neg (by rw [nI_leI (by omega) (by omega)]; omega), if_pos (by omega), if_pos (ix_nI (by omega) (by omega)), nI_clamp (by omega)]
theorem c_sheet {σ : St} {h : pH} (hS : Sok σ) (hC : Ci σ h) {N : Nat} (hN : 1000 ≤ N) (x y z : Int32) : ∃ h', fX8_sheet N h x y z = some (a_sheet x y z, h') ∧ Ci (n_sheet σ x y z) h' ∧ Kq SH h h' := by
  simp only [fX8_sheet, fX8_sheet_b27, sheetAt_eq, Option.bind_some, wi_ix N h y 2 (by decide), b2i, fX8_finding, a_sheet, n_sheet]
  cases c : ix x 4
  · exact ⟨h, by simp, by simpa using hC, Kq.rf h⟩
  · obtain ⟨s, hs, rfl⟩ := ix_of c (by decide)
    obtain ⟨r1, r2, r3, r4, r5, r6, r7, r8⟩ := r_sheet hs
    simp only [if_true, nI_clamp (show s < 2 ^ 31 by omega), true_and]
    rw [if_neg (show ¬ 41 + s = 0 by omega)]
    cases c2 : ix y 3
    · exact ⟨h, by simp, by simpa using hC, Kq.rf h⟩
    · by_cases c3 : z ≤ 60
      · by_cases c4 : 0 ≤ z
        · obtain ⟨f, hf, rfl⟩ := ix_of c2 (by decide)
          obtain ⟨m, hm, rfl⟩ := nI_of (Int32.not_lt.mpr c4)
          have hm60 : m ≤ 60 := (nI_le_lit hm (by decide)).mp c3
          simp (disch := omega) only [Bool.true_eq_false, if_false, if_true, and_self, true_and, c3, c4, nI_clamp, nI_toInt, r1]
          obtain ⟨h1, e1, k1, q1⟩ := renew_loop N hs hm60 m N 0 (pw (pw (pw h (41 + s) 1 0) (41 + s) 2 (nI f)) (41 + s) 3 (nI m)) (by omega) (by omega) (by rw [pw_at, if_pos ⟨rfl, rfl⟩]) (fun j hj => absurd hj (by omega))
          have er : fX5_renew N h (41 + s) (nI f) (nI m) = some ((), h1) := by
            simp only [fX5_renew, r2, r3, r4, if_true]
            rw [show (60 : Int32) = nI 60 from rfl, min_eq N _ _ _ (by omega) (by omega), Nat.min_eq_left hm60]
            exact e1
          have k : Kq (SS s) h h1 := ((((Kq.rf h).pw (by unfold SS; omega)).pw (by unfold SS; omega)).pw (by unfold SS; omega)).tr (k1.mono (fun a b z => by unfold SS; omega))
          rw [er]
          refine ⟨h1, rfl, Ci.sht hS hC hs k ?_ ?_ ?_ q1⟩
          · rw [k1 _ _ (by omega), pw_at, if_neg (by omega), pw_at, if_neg (by omega), pw_at, if_pos ⟨rfl, rfl⟩, if_pos (by omega)]
          · intro _
            rw [k1 _ _ (by omega), pw_at, if_neg (by omega), pw_at, if_pos ⟨rfl, rfl⟩, sI_nat]
          · rw [k1 _ _ (by omega), pw_at, if_pos ⟨rfl, rfl⟩]
        · simp only [c3, c4, Bool.true_eq_false, if_false, if_true, true_and]
          exact ⟨_, rfl, hC.lf hS 5⟩
      · exact ⟨h, by simp [c3], by simpa [c3] using hC, Kq.rf h⟩
theorem lost_eq {σ : St} {h : pH} (hA : Ac σ h) {s : Nat} (hs : s < 4) : (h.1 (41 + s) 1 = 0) ↔ 0 ≤ t_fm σ s := by
  rw [(hA.2.2.2.2.2.1 s hs).1]
  by_cases c : 0 ≤ t_fm σ s
  · simp [c]
  · simp [c]
theorem c_lose {σ : St} {h : pH} (hS : Sok σ) (hC : Ci σ h) (N : Nat) (x : Int32) : ∃ h', fX8_lose N h x = some (a_lose σ x, h') ∧ Ci (n_lose σ x) h' ∧ Kq SH h h' := by
  have hA := hC.1
  simp only [fX8_lose, sheetAt_eq, Option.bind_some, fX8_finding, a_lose, n_lose]
  cases c : ix x 4
  · exact ⟨h, by simp, by simpa using hC, Kq.rf h⟩
  · obtain ⟨s, hs, rfl⟩ := ix_of c (by decide)
    obtain ⟨r1, r2, r3, r4, r5, r6, r7, r8⟩ := r_sheet hs
    have q := hS.2.2.2.2.1 s hs
    obtain ⟨q1, q2, q3⟩ := hA.2.2.2.2.2.1 s hs
    simp only [if_true, nI_clamp (show s < 2 ^ 31 by omega), r2, r4, lost_eq hA hs]
    rw [if_neg (show ¬ 41 + s = 0 by omega)]
    by_cases c2 : 0 ≤ t_fm σ s
    · simp only [c2, if_true]
      have k : Kq (SS s) h (pw h (41 + s) 1 1) := (Kq.rf h).pw (by unfold SS; omega)
      refine ⟨pw h (41 + s) 1 1, ?_, Ci.sht hS hC hs k ?_ (fun z => absurd z (by decide)) ?_ ?_⟩
      · rw [pw_at, if_neg (by omega), q3]
      · rw [pw_at, if_pos ⟨rfl, rfl⟩, if_neg (by decide)]
      · rw [pw_at, if_neg (by omega)]; exact q3
      · intro i hi; rw [pw_at, if_neg (by omega)]; exact hA.2.2.2.2.2.2.1 s hs i hi
    · simp only [c2, if_false]
      exact ⟨_, rfl, hC.lf hS 1⟩
theorem c_lay {σ : St} {h : pH} (hS : Sok σ) (hC : Ci σ h) (N : Nat) (x y z v : Int32) : ∃ h', fX8_lay N h x y z v = some (a_lay σ x y z, h') ∧ Ci (n_lay σ x y z v) h' ∧ Kq SH h h' := by
  have hA := hC.1
  simp only [fX8_lay, fX8_lay_b21, sheetAt_eq, Option.bind_some, wi_ix N h y 2 (by decide), b2i, fX8_finding, a_lay, n_lay]
  cases c : ix x 4
  · exact ⟨h, by simp, by simpa using hC, Kq.rf h⟩
  · obtain ⟨s, hs, rfl⟩ := ix_of c (by decide)
    obtain ⟨r1, r2, r3, r4, r5, r6, r7, r8⟩ := r_sheet hs
    have q := hS.2.2.2.2.1 s hs
    obtain ⟨q1, q2, q3⟩ := hA.2.2.2.2.2.1 s hs
    simp only [if_true, nI_clamp (show s < 2 ^ 31 by omega), true_and]
    rw [if_neg (show ¬ 41 + s = 0 by omega)]
    cases c2 : ix y 3
    · exact ⟨h, by simp, by simpa using hC, Kq.rf h⟩
    · have l5 := lkF_le σ s y z
      simp only [Bool.true_eq_false, if_false, if_true, r1, finding_eq hS hA N hs, Option.bind_some]
      by_cases c3 : lkF σ s y z = 0
      · obtain ⟨l1, l2, l3⟩ := lk0 c3
        obtain ⟨i, hi, rfl⟩ := ix_of l3 (by omega)
        have k : Kq (SS s) h (pw h (45 + s) i (cutV y v)) := (Kq.rf h).pw (by unfold SS; omega)
        rw [put_eq N hs (q2 l1) q3 q.2.2 hi, l2, if_pos (by rw [c3]; rfl), if_pos c3, if_pos c3, nI_clamp (by omega)]
        refine ⟨pw h (45 + s) i (cutV y v), rfl, Ci.sht hS hC hs k ?_ ?_ ?_ ?_⟩
        · rw [pw_at, if_neg (by omega)]; exact q1
        · intro z; rw [pw_at, if_neg (by omega)]; exact q2 z
        · rw [pw_at, if_neg (by omega)]; exact q3
        · intro j hj
          simp only [pw_at, true_and]
          by_cases c : j = i
          · rw [if_pos c, if_pos c]
          · rw [if_neg c, if_neg c]; exact hA.2.2.2.2.2.2.1 s hs j hj
      · rw [if_neg (by rw [show (0 : Int32) = nI 0 from rfl, nI_eq (by omega) (by omega)]; exact c3), if_neg c3, if_neg c3]
        exact ⟨_, rfl, hC.lf hS _⟩
theorem c_get {σ : St} {h : pH} (hS : Sok σ) (hC : Ci σ h) (N : Nat) (x y z : Int32) : ∃ h', fX8_get N h x y z = some (a_get σ x y z, h') ∧ Ci (n_get σ x y z) h' ∧ Kq SH h h' := by
  have hA := hC.1
  simp only [fX8_get, fX8_get_b21, sheetAt_eq, Option.bind_some, wi_ix N h y 2 (by decide), b2i, fX8_finding, a_get, n_get]
  cases c : ix x 4
  · exact ⟨h, by simp, by simpa using hC, Kq.rf h⟩
  · obtain ⟨s, hs, rfl⟩ := ix_of c (by decide)
    obtain ⟨r1, r2, r3, r4, r5, r6, r7, r8⟩ := r_sheet hs
    have q := hS.2.2.2.2.1 s hs
    simp only [if_true, nI_clamp (show s < 2 ^ 31 by omega), true_and]
    rw [if_neg (show ¬ 41 + s = 0 by omega)]
    cases c2 : ix y 3
    · exact ⟨h, by simp, by simpa using hC, Kq.rf h⟩
    · have l5 := lkF_le σ s y z
      simp only [Bool.true_eq_false, if_false, if_true, r1, finding_eq hS hA N hs, Option.bind_some]
      by_cases c3 : lkF σ s y z = 0
      · obtain ⟨l1, l2, l3⟩ := lk0 c3
        obtain ⟨i, hi, rfl⟩ := ix_of l3 (by omega)
        rw [item_eq hS hA N hs hi, if_pos (by rw [c3]; rfl), if_pos c3, if_pos c3, nI_clamp (by omega)]
        exact ⟨h, rfl, hC, Kq.rf h⟩
      · rw [if_neg (by rw [show (0 : Int32) = nI 0 from rfl, nI_eq (by omega) (by omega)]; exact c3), if_neg c3, if_neg c3]
        exact ⟨_, rfl, hC.lf hS _⟩
