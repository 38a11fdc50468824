/-! ===== the class: maybe ===== -/
theorem pv_at (h : pH) (k j : Nat) (v : Int64) (a b : Nat) : (pv h k j v).2 a b = if a = k ∧ b = j then v else h.2 a b := by
  by_cases ha : a = k
  · subst ha
    by_cases hb : b = j <;> simp [pv, vp_updL, hb]
  · simp [pv, ha]
theorem pcL_at (h : pH) (k1 k2 sp dp n a b : Nat) : (pcL h k1 k2 sp dp n).2 a b = if a = k2 then (if dp ≤ b ∧ b < dp + n then h.2 k1 (sp + (b - dp)) else h.2 k2 b) else h.2 a b := by
  by_cases c : a = k2
  · subst c
    simp only [pcL, if_true]
    rfl
  · simp only [pcL, c, if_false]
theorem Kq.e1 {S : Nat → Nat → Prop} {h h' : pH} (e : h'.1 = h.1) : Kq S h h' := fun a b _ => by rw [e]
theorem lN_and1 {a : Nat} (ha : a < 2 ^ 62) : lN a &&& 1 = lN (a % 2) := by
  apply Int64.toBitVec_inj.mp
  apply BitVec.eq_of_toNat_eq
  have e1 : (lN a).toBitVec.toNat = a := Nat.mod_eq_of_lt (by omega)
  have e2 : (lN (a % 2)).toBitVec.toNat = a % 2 := Nat.mod_eq_of_lt (by omega)
  rw [Int64.toBitVec_and, BitVec.toNat_and, e1, e2, show (1 : Int64).toBitVec.toNat = 1 from rfl]
  exact Nat.and_one_is_mod a
theorem lN_shr {a d : Nat} {D : Int64} (hD : (D.toBitVec.smod 64).toNat = d) (h : a < 2 ^ 62) : lN a >>> D = lN (a / 2 ^ d) := by
  have hd : a / 2 ^ d ≤ a := Nat.div_le_self _ _
  apply Int64.toInt_inj.mp
  have e : (lN a >>> D).toInt = (lN a).toInt >>> d := by
    rw [← hD]
    exact BitVec.toInt_sshiftRight ..
  rw [e, Int.shiftRight_eq_div_pow, lN_int h, lN_int (by omega)]
  rfl
theorem lN_shr1 {a : Nat} (h : a < 2 ^ 62) : lN a >>> ((1 : Int32).toInt64 &&& 63) = lN (a / 2) := lN_shr (d := 1) (by decide) h
theorem cmb_loop (N : Nat) (h : pH) {y : Nat} (hy : y < 2) : ∀ (m n A : Nat), m < n → m < 41 → A < 2 ^ 62 → fX8_maybe_L74 N n h (nI y) (lN A) (nI m) = some (lN (mbA A m y), h) := by
  intro m
  induction m with
  | zero =>
    intro n A hn hm hA
    obtain ⟨n, rfl⟩ : ∃ m, n = m + 1 := ⟨n - 1, by omega⟩
    show fX8_maybe_B74 N (fX8_maybe_L74 N n) h _ _ _ = _
    simp only [fX8_maybe_B74, fX8_maybe_b100, fX8_maybe_b113]
    rw [if_pos (by decide), sh64 (by omega), mb_0]
    by_cases c : y = 0
    · rw [if_pos (by rw [c]; rfl), if_pos c]
    · rw [if_neg (by rw [show (0 : Int32) = nI 0 from rfl, nI_eq (by omega) (by omega)]; exact c), if_neg c]
  | succ m ih =>
    intro n A hn hm hA
    obtain ⟨n, rfl⟩ : ∃ m, n = m + 1 := ⟨n - 1, by omega⟩
    show fX8_maybe_B74 N (fX8_maybe_L74 N n) h _ _ _ = _
    simp only [fX8_maybe_B74, fX8_maybe_b100, fX8_maybe_b113, lg_eq, lN_and1 hA, lN_z (show A % 2 < 2 ^ 62 by omega)]
    rw [if_neg (by rw [show (0 : Int32) = nI 0 from rfl, nI_leI (by omega) (by omega)]; omega), pk_m1, lN_shr1 hA, sh64 (by omega)]
    by_cases c : A % 2 = 0
    · rw [if_pos c, ih n (A / 2) (by omega) (by omega) (by omega), mb_even c]
    · rw [if_neg c, mb_odd (by omega)]
      by_cases c2 : y = 0
      · rw [if_pos (by rw [c2]; rfl), if_pos c2]
      · rw [if_neg (by rw [show (0 : Int32) = nI 0 from rfl, nI_eq (by omega) (by omega)]; exact c2), if_neg c2]
theorem so_1 {w : Wt} (hw : wok w) (N : Nat) {c : Nat} (hc : c ≤ 16) {a : Nat → Nat} {r : Nat} : ∀ (d n i : Nat) (h : pH), i + d = np w → d < n → h.1 9 3 = nI (np w) → (∀ p, p < np w → h.2 38 p = lN (a p)) → (∀ p, p < i → h.2 39 p = lN (a p * (16 - c))) →
    ∃ h', fX8_spreadOver_L2 N n h r (nI c) (nI i) = fX8_spreadOver_L39 N N h' r (nI c) 0 ∧ h'.1 = h.1 ∧ (∀ p, p < np w → h'.2 38 p = lN (a p)) ∧ ∀ p, p < np w → h'.2 39 p = lN (a p * (16 - c)) := by
  have w1 := hw.1
  intro d
  induction d with
  | zero =>
    intro n i h hi hn h93 h1 h2
    obtain ⟨n, rfl⟩ : ∃ m, n = m + 1 := ⟨n - 1, by omega⟩
    obtain rfl : i = np w := by omega
    refine ⟨h, ?_, rfl, h1, h2⟩
    show fX8_spreadOver_B2 N (fX8_spreadOver_L2 N n) h _ _ _ = _
    simp only [fX8_spreadOver_B2, h93]
    rw [if_pos (Int32.le_refl _)]
  | succ d ih =>
    intro n i h hi hn h93 h1 h2
    obtain ⟨n, rfl⟩ : ∃ m, n = m + 1 := ⟨n - 1, by omega⟩
    obtain ⟨h', e, k, q1, q2⟩ := ih n (i + 1) (pv h 39 i (lN (a i * (16 - c)))) (by omega) (by omega) h93 (fun p hp => by
      rw [pv_at, if_neg (by omega)]; exact h1 p hp) (fun p hp => by
      rw [pv_at]
      by_cases z : p = i
      · rw [if_pos ⟨rfl, z⟩, z]
      · rw [if_neg (fun q => z q.2)]; exact h2 p (by omega))
    refine ⟨h', ?_, k, q1, q2⟩
    rw [← e]
    show fX8_spreadOver_B2 N (fX8_spreadOver_L2 N n) h _ _ _ = _
    simp only [fX8_spreadOver_B2, h93]
    rw [if_neg (by rw [nI_leI (by omega) (by omega)]; omega), if_pos (ix_nI (by omega) (by omega)), if_pos (ix_nI (by omega) (by omega)), nI_clamp (by omega), h1 i (by omega), show (16 : Int32) = nI 16 from rfl, pk_sub hc, nI_l (by omega), lN_mul, nI_1]
theorem so_2 {w : Wt} (hw : wok w) (N : Nat) {c k : Nat} (hc : c ≤ 16) {a : Nat → Nat} : ∀ (d n i : Nat) (h : pH), i + d = np w → d < n → cF0 w h → (∀ j, j < 4 → h.1 10 j = sI (sh w j)) → (∀ p, p < np w → h.2 38 p = lN (a p)) → (∀ q, q < np w → h.2 39 q = lN (a q * (16 - c) + sumN (fun p => if mv w k p = q then a p * c else 0) i)) →
    ∃ h', fX8_spreadOver_L39 N n h (rfk w k) (nI c) (nI i) = some ((), h') ∧ h'.1 = h.1 ∧ ∀ q, q < np w → h'.2 38 q = lN (a q * (16 - c) + sumN (fun p => if mv w k p = q then a p * c else 0) (np w)) := by
  have w1 := hw.1
  intro d
  induction d with
  | zero =>
    intro n i h hi hn hF hsh h1 h2
    obtain ⟨n, rfl⟩ : ∃ m, n = m + 1 := ⟨n - 1, by omega⟩
    obtain rfl : i = np w := by omega
    refine ⟨pcL h 39 38 0 0 19, ?_, rfl, fun q hq => ?_⟩
    · show fX8_spreadOver_B39 N (fX8_spreadOver_L39 N n) h _ _ _ = _
      simp only [fX8_spreadOver_B39, hF.1]
      rw [if_pos (Int32.le_refl _), if_pos (by decide)]
      rfl
    · rw [pcL_at, if_pos rfl, if_pos (by omega), show 0 + (q - 0) = q by omega]
      exact h2 q hq
  | succ d ih =>
    intro n i h hi hn hF hsh h1 h2
    obtain ⟨n, rfl⟩ : ∃ m, n = m + 1 := ⟨n - 1, by omega⟩
    have hmv : mv w k i < np w := by
      rcases mv_ok (w := w) (k := k) (g := i) (Or.inl (by omega)) with z | z <;> omega
    obtain ⟨h', e, k1, q1⟩ := ih n (i + 1) (pv h 39 (mv w k i) (lN (a (mv w k i) * (16 - c) + sumN (fun p => if mv w k p = mv w k i then a p * c else 0) (i + 1)))) (by omega) (by omega) (hF.kq (Kq.e1 rfl) hw.2.1) hsh (fun p hp => by
      rw [pv_at, if_neg (by omega)]; exact h1 p hp) (fun q hq => by
      rw [pv_at]
      by_cases z : q = mv w k i
      · rw [if_pos ⟨rfl, z⟩, z]
      · rw [if_neg (fun y => z y.2), h2 q hq]
        rw [show sumN (fun p => if mv w k p = q then a p * c else 0) (i + 1) = sumN (fun p => if mv w k p = q then a p * c else 0) i + (if mv w k i = q then a i * c else 0) from rfl, if_neg (fun y => z y.symm), Nat.add_zero])
    refine ⟨h', ?_, k1, q1⟩
    rw [← e]
    show fX8_spreadOver_B39 N (fX8_spreadOver_L39 N n) h _ _ _ = _
    simp only [fX8_spreadOver_B39, fX8_spreadOver_b99, hF.1]
    rw [if_neg (by rw [nI_leI (by omega) (by omega)]; omega), behind_n hw hF N (Or.inl rfl) hsh (Or.inl (by omega))]
    simp only [Option.bind_some, has_eq hw hF.1, b2i, ix_nI hmv (show np w < 2 ^ 31 by omega)]
    rw [if_neg (by decide), if_pos (ix_nI (by omega) (by omega)), if_pos (ix_nI (by omega) (by omega)), if_pos (ix_nI (by omega) (by omega)), nI_clamp (by omega), nI_clamp (by omega), h1 i (by omega), h2 _ hmv, nI_l (by omega), lN_mul, lN_add, nI_1]
    rw [show sumN (fun p => if mv w k p = mv w k i then a p * c else 0) (i + 1) = sumN (fun p => if mv w k p = mv w k i then a p * c else 0) i + (if mv w k i = mv w k i then a i * c else 0) from rfl, if_pos rfl, Nat.add_assoc]
theorem so_eq {w : Wt} {h : pH} (hw : wok w) (hF : cF0 w h) (hsh : ∀ j, j < 4 → h.1 10 j = sI (sh w j)) {N : Nat} (hN : 1000 ≤ N) {c k : Nat} (hc : c ≤ 16) {a : Nat → Nat} (h1 : ∀ p, p < np w → h.2 38 p = lN (a p)) :
    ∃ h', fX8_spreadOver N h (rfk w k) (nI c) = some ((), h') ∧ h'.1 = h.1 ∧ ∀ q, q < np w → h'.2 38 q = lN (a q * (16 - c) + sumN (fun p => if mv w k p = q then a p * c else 0) (np w)) := by
  have w1 := hw.1
  obtain ⟨h2, e2, k2, q2, q3⟩ := so_1 hw N hc (a := a) (r := rfk w k) (np w) N 0 h (by omega) (by omega) hF.1 h1 (fun p hp => absurd hp (by omega))
  obtain ⟨h3, e3, k3, q4⟩ := so_2 hw N (k := k) hc (a := a) (np w) N 0 h2 (by omega) (by omega) (hF.kq (Kq.e1 k2) hw.2.1) (fun j hj => by rw [k2]; exact hsh j hj) q2 (fun q hq => by
    rw [q3 q hq]; rfl)
  exact ⟨h3, e2.trans e3, k3.trans k2, q4⟩
theorem sc_2 {w : Wt} (hw : wok w) {N : Nat} (hN : 1000 ≤ N) {c : Nat} (hc : c ≤ 16) : ∀ (d n i : Nat) (h : pH), i + d = nc w → d < n → cF0 w h → (∀ j, j < 4 → h.1 10 j = sI (sh w j)) → (∀ p, p < np w → h.2 38 p = lN (prb w c i p)) →
    ∃ h', fX8_spreadChances_L43 N n h (nI c) (nI i) = some ((), h') ∧ h'.1 = h.1 ∧ ∀ q, q < np w → h'.2 38 q = lN (prb w c (nc w) q) := by
  have w4 := hw.2.2.2.1
  intro d
  induction d with
  | zero =>
    intro n i h hi hn hF hsh h1
    obtain ⟨n, rfl⟩ : ∃ m, n = m + 1 := ⟨n - 1, by omega⟩
    obtain rfl : i = nc w := by omega
    refine ⟨h, ?_, rfl, h1⟩
    show fX8_spreadChances_B43 N (fX8_spreadChances_L43 N n) h _ _ = _
    simp only [fX8_spreadChances_B43, hF.2.2.2.2.2.1]
    rw [if_pos (Int32.le_refl _)]
  | succ d ih =>
    intro n i h hi hn hF hsh h1
    obtain ⟨n, rfl⟩ : ∃ m, n = m + 1 := ⟨n - 1, by omega⟩
    have hwi := hw.2.2.2.2.1 i (by omega)
    obtain ⟨h2, e2, k2, q2⟩ := so_eq hw hF hsh hN (k := wh w i) hc h1
    obtain ⟨h', e, k1, q1⟩ := ih n (i + 1) h2 (by omega) (by omega) (hF.kq (Kq.e1 k2) hw.2.1) (fun j hj => by rw [k2]; exact hsh j hj) (fun p hp => by rw [q2 p hp, prb_s (by omega)])
    refine ⟨h', ?_, k1.trans k2, q1⟩
    rw [← e]
    show fX8_spreadChances_B43 N (fX8_spreadChances_L43 N n) h _ _ = _
    simp only [fX8_spreadChances_B43, hF.2.2.2.2.2.1, who_eq hw hF N (show i < nc w by omega), Option.bind_some, at_n hw hF.2.2.2.1 N (show wh w i < 1000 by omega), e2, nI_1]
    rw [if_neg (by rw [nI_leI (by omega) (by omega)]; omega)]
theorem sc_1 {w : Wt} (hw : wok w) (N : Nat) (c : Nat) : ∀ (d n i : Nat) (h : pH), i + d = np w → d < n → h.1 9 3 = nI (np w) → h.1 9 1 = nI (bg w) → (∀ p, p < i → h.2 38 p = lN (prb w c 0 p)) →
    ∃ h', fX8_spreadChances_L2 N n h (nI c) (nI i) = fX8_spreadChances_L43 N N h' (nI c) 0 ∧ h'.1 = h.1 ∧ ∀ p, p < np w → h'.2 38 p = lN (prb w c 0 p) := by
  have w1 := hw.1
  intro d
  induction d with
  | zero =>
    intro n i h hi hn h93 h91 h1
    obtain ⟨n, rfl⟩ : ∃ m, n = m + 1 := ⟨n - 1, by omega⟩
    obtain rfl : i = np w := by omega
    refine ⟨h, ?_, rfl, h1⟩
    show fX8_spreadChances_B2 N (fX8_spreadChances_L2 N n) h _ _ = _
    simp only [fX8_spreadChances_B2, h93]
    rw [if_pos (Int32.le_refl _)]
  | succ d ih =>
    intro n i h hi hn h93 h91 h1
    obtain ⟨n, rfl⟩ : ∃ m, n = m + 1 := ⟨n - 1, by omega⟩
    have hg : g0 w < 19 := gok_lt w1 (g0_ok w)
    obtain ⟨h', e, k, q1⟩ := ih n (i + 1) (pv h 38 i (lN (prb w c 0 i))) (by omega) (by omega) h93 h91 (fun p hp => by
      rw [pv_at]
      by_cases z : p = i
      · rw [if_pos ⟨rfl, z⟩, z]
      · rw [if_neg (fun q => z q.2)]; exact h1 p (by omega))
    refine ⟨h', ?_, k, q1⟩
    rw [← e]
    show fX8_spreadChances_B2 N (fX8_spreadChances_L2 N n) h _ _ = _
    simp only [fX8_spreadChances_B2, fX8_spreadChances_b34, h93, first_eq hw h93 h91, Option.bind_some, gI_pos (show 0 < np w by omega)]
    rw [if_neg (by rw [nI_leI (by omega) (by omega)]; omega), nI_clamp (by omega), nI_1, prb_0]
    by_cases z : i = g0 w
    · rw [if_pos (by rw [← z]), if_pos z, if_pos (ix_nI (by omega) (by omega))]; rfl
    · rw [if_neg (by rw [nI_eq (by omega) (by omega)]; exact z), if_neg z, if_pos (ix_nI (by omega) (by omega))]; rfl
theorem c_maybe {σ : St} {h : pH} (hS : Sok σ) (hC : Ci σ h) {N : Nat} (hN : 1000 ≤ N) (x y z : Int32) : ∃ h', fX8_maybe N h x y z = some (a_maybe σ x y z, h') ∧ Co σ h h' := by
  have hw := wok_of hS
  have w1 := hw.1
  have w2 := hw.2.1
  have w4 := hw.2.2.2.1
  obtain ⟨h1, e1, f1, k1⟩ := fresh_eq hS hC hN
  have hF := f1.2.2.1
  have hA := f1.1
  rw [fX8_maybe, e1]
  simp only [Option.bind_some, wi_ix N h1 x 16 (by decide), b2i, fX8_maybe_b46, has_eq hw hF.1.1, wi_ix N h1 z 1 (by decide), hF.1.2.2.2.2.2.1, a_maybe]
  cases c : ix x 17
  · exact ⟨h1, by simp, Co.fr f1 k1⟩
  · cases c2 : ix y (np (wOf σ))
    · exact ⟨h1, by simp, Co.fr f1 k1⟩
    · cases c3 : ix z 2
      · exact ⟨h1, by simp, Co.fr f1 k1⟩
      · by_cases c4 : nc (wOf σ) ≤ 10
        · obtain ⟨a, ha, rfl⟩ := ix_of c (by decide)
          obtain ⟨p, hp, rfl⟩ := ix_of c2 (by omega)
          obtain ⟨b, hb, rfl⟩ := ix_of c3 (by decide)
          obtain ⟨h2, e2, k2, q2⟩ := sc_1 hw N a (np (wOf σ)) N 0 h1 (by omega) (by omega) hF.1.1 hA.2.2.2.1 (fun p hp => absurd hp (by omega))
          obtain ⟨h3, e3, k3, q3⟩ := sc_2 hw hN (c := a) (by omega) (nc (wOf σ)) N 0 h2 (by omega) (by omega) (hF.1.kq (Kq.e1 k2) w2) (fun j hj => by rw [k2]; exact hA.2.2.2.2.1 j hj) q2
          have k23 : h3.1 = h1.1 := k3.trans k2
          have f3 : Fr σ h3 := f1.kq w2 (Kq.e1 k23)
          have p10 : 16 ^ nc (wOf σ) ≤ 16 ^ 10 := Nat.pow_le_pow_right (by decide) c4
          have pl := prb_le (wOf σ) (c := a) (by omega) (nc (wOf σ)) p
          have el := cmb_loop N h3 hb (4 * nc (wOf σ)) N (prb (wOf σ) a (nc (wOf σ)) p) (by omega) (by omega) (by omega)
          refine ⟨h3, ?_, Co.fr f3 (k1.tr (Kq.e1 k23))⟩
          simp only [Bool.true_eq_false, if_false, if_true, and_self, c4, true_and]
          rw [if_pos (by rw [show (10 : Int32) = nI 10 from rfl, nI_leI (by omega) (by omega)]; exact c4), show fX8_spreadChances N h1 (nI a) = some ((), h3) from e2.trans e3]
          simp only [Option.bind_some]
          rw [if_pos (ix_nI (by omega) (by omega)), nI_clamp (by omega), nI_clamp (by omega), nI_clamp (by omega), q3 p hp, f3.2.2.1.1.2.2.2.2.2.1, lit_mul_nI]
          exact el
        · refine ⟨h1, ?_, Co.fr f1 k1⟩
          simp only [Bool.true_eq_false, if_false, c4, and_false]
          rw [if_neg (by rw [show (10 : Int32) = nI 10 from rfl, nI_leI (by omega) (by omega)]; exact c4)]
