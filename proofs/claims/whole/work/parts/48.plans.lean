/-! ===== the reference: ahead, often, week ===== -/
def gE (w : Wt) : Nat := G w (nc w)
theorem gE_ok (w : Wt) : gok w (gE w) := Gm_ok w _ (nc w)
def ahp (w : Wt) (k q : Nat) : Bool := !(decide (q ≠ k) && decide (oc w k (mv w q (gE w)) = 1))
def ahd (w : Wt) (k : Nat) : Int32 := if oc w k (gE w) = 1 then -3 else if ffr (ahp w k) (nk w) 0 = nk w then -1 else nI (ffr (ahp w k) (nk w) 0)
theorem ahead_loop {w : Wt} (hw : wok w) {N : Nat} (hN : 1000 ≤ N) {k : Nat} (hk : k < nk w) : ∀ (d n q : Nat) (h : pH), q + d = nk w → d < n → mF w h →
    ∃ h', fX9_aheadOf_L23 N n h (nI k) (gI w (gE w)) (nI q) = some (if ffr (ahp w k) d q = nk w then -1 else nI (ffr (ahp w k) d q), h') ∧ K3 h h' := by
  have w2 := hw.2.1
  intro d
  induction d with
  | zero =>
    intro n q h hq hn hF
    obtain ⟨n, rfl⟩ : ∃ m, n = m + 1 := ⟨n - 1, by omega⟩
    obtain rfl : q = nk w := by omega
    refine ⟨h, ?_, K3.rf h⟩
    show fX9_aheadOf_B23 N (fX9_aheadOf_L23 N n) h _ _ _ = _
    simp only [fX9_aheadOf_B23, hF.2.2.1, ffr, if_true]
    rw [if_pos (Int32.le_refl _)]
  | succ d ih =>
    intro n q h hq hn hF
    obtain ⟨n, rfl⟩ : ∃ m, n = m + 1 := ⟨n - 1, by omega⟩
    have unf : fX9_aheadOf_L23 N (n + 1) h (nI k) (gI w (gE w)) (nI q) = fX9_aheadOf_B23 N (fX9_aheadOf_L23 N n) h (nI k) (gI w (gE w)) (nI q) := rfl
    rw [unf]
    simp (disch := omega) only [fX9_aheadOf_B23, fX9_aheadOf_b58, hF.2.2.1, nI_leI, nI_eq, nI_add_lit]
    rw [if_neg (by omega)]
    by_cases c : q = k
    · obtain ⟨h', e, k1⟩ := ih n (q + 1) h (by omega) (by omega) hF
      refine ⟨h', ?_, k1⟩
      have hp : ahp w k q = true := by simp [ahp, c]
      rw [if_pos c, e]
      simp only [ffr, hp, if_true]
    · have k0 : K3 h (pw h 49 19 (gI w (gE w))) := (K3.rf h).pw (by omega)
      obtain ⟨h1, e1, k1, g1, -⟩ := tries_eq hw (hF.k3 k0) hN (k := q) (by omega) (gE_ok w) (by simp [pw_at])
      have hF1 := (hF.k3 k0).k3 k1
      obtain ⟨h2, e2, k2, -⟩ := tries_eq hw hF1 hN (k := k) (by omega) (mv_ok (gE_ok w)) g1
      have q4 := oc_le w k (mv w q (gE w))
      rw [if_neg c, e1]
      simp only [Option.bind_some, e2]
      by_cases c2 : oc w k (mv w q (gE w)) = 1
      · have hp : ahp w k q = false := by simp [ahp, c, c2]
        refine ⟨h2, ?_, (k0.tr k1).tr k2⟩
        rw [if_pos (by rw [c2]; rfl)]
        simp only [ffr, hp, Bool.false_eq_true, if_false]
        rw [if_neg (by omega)]
      · have hp : ahp w k q = true := by simp [ahp, c2]
        obtain ⟨h', e, k3⟩ := ih n (q + 1) h2 (by omega) (by omega) (hF1.k3 k2)
        refine ⟨h', ?_, ((k0.tr k1).tr k2).tr k3⟩
        rw [if_neg (by rw [show (1 : Int32) = nI 1 from rfl, nI_eq (by omega) (by omega)]; exact c2), e]
        simp only [ffr, hp, if_true]
theorem aheadOf_eq {w : Wt} {h : pH} (hw : wok w) (hF : mF w h) (hgo : h.1 49 20 = 0) {N : Nat} (hN : 1000 ≤ N) {k : Nat} (hk : k < nk w) :
    ∃ h', fX9_aheadOf N h (nI k) = some (ahd w k, h') ∧ Kp S7 h h' := by
  have w2 := hw.2.1
  obtain ⟨h1, e1, k1, l1⟩ := lives_eq hw hF hN (m := 0) (by decide) (by rw [hgo]; rfl)
  rw [z_bit] at l1
  have hF1 := hF.kp (k1.mono (fun _ _ => S7_SM))
  obtain ⟨h2, e2, k2, -⟩ := tries_eq hw hF1 hN (k := k) (by omega) (gE_ok w) l1.1
  rw [fX9_aheadOf, e1]
  simp only [Option.bind_some, e2]
  have q4 := oc_le w k (gE w)
  unfold ahd
  by_cases c : oc w k (gE w) = 1
  · rw [if_pos (by rw [c]; rfl), if_pos c]
    exact ⟨h2, rfl, k1.tr k2.kp⟩
  · rw [if_neg (by rw [show (1 : Int32) = nI 1 from rfl, nI_eq (by omega) (by omega)]; exact c), if_neg c, l1.1]
    obtain ⟨h3, e3, k3⟩ := ahead_loop hw hN hk (nk w) N 0 h2 (by omega) (by omega) (hF1.k3 k2)
    exact ⟨h3, e3, (k1.tr k2.kp).tr k3.kp⟩
def a_ahead (σ : St) (x : Int32) : Int32 := if ix x (nk (wOf σ)) then ahd (wOf σ) x.toNatClampNeg else -2
theorem S7_SF {a b : Nat} (h : S7 a b) : SF a b := SM_SF (S7_SM h)
theorem m_ahead {σ : St} {h : pH} (hS : Sok σ) (hB : Bm σ h) {N : Nat} (hN : 1000 ≤ N) (x : Int32) : ∃ h', fX9_ahead N h x = some (a_ahead σ x, h') ∧ Kp SF h h' := by
  obtain ⟨h1, e, k, hF, hL⟩ := find_eq hS hB hN
  have w2 := (wok_of hS).2.1
  have hB1 := hB.kp k
  rw [fX9_ahead, e]
  simp only [Option.bind_some, isCrosser_ix (wok_of hS) hF.2.2.1, b2i, fX9_ahead_b22, a_ahead]
  cases c : ix x (nk (wOf σ))
  · exact ⟨h1, rfl, k⟩
  · obtain ⟨i, hi, rfl⟩ := ix_of c (by omega)
    obtain ⟨h2, e2, k2⟩ := aheadOf_eq (wok_of hS) hF hB1.2.2.2.2.2.2.2.2.2.2 hN hi
    refine ⟨h2, ?_, k.tr (k2.mono (fun _ _ => S7_SF))⟩
    simp (disch := omega) only [if_true, Bool.true_eq_false, if_false, e2, Option.bind_some, nI_clamp]
/-! often -/
def itg (w : Wt) (q g : Nat) : Nat → Nat
  | 0 => g
  | n + 1 => mv w q (itg w q g n)
theorem itg_ok {w : Wt} {q g : Nat} (h : gok w g) : ∀ n, gok w (itg w q g n)
  | 0 => h
  | n + 1 => mv_ok (itg_ok h n)
def ofp (w : Wt) (k q n : Nat) : Bool := !decide (oc w k (itg w q (gE w) n) = 1)
def oft (w : Wt) (k q : Nat) : Int32 := if ffr (ofp w k q) 10 0 = 10 then -1 else nI (ffr (ofp w k q) 10 0)
theorem often_loop {w : Wt} (hw : wok w) {N : Nat} (hN : 1000 ≤ N) {k q : Nat} (hk : k < nk w) (hq : q < nk w) : ∀ (d n i : Nat) (h : pH), i + d = 10 → d < n → mF w h → h.1 49 19 = gI w (itg w q (gE w) i) →
    ∃ h', fX9_oftenOf_L6 N n h (nI k) (nI q) (nI i) = some (if ffr (ofp w k q) d i = 10 then -1 else nI (ffr (ofp w k q) d i), h') ∧ K3 h h' := by
  have w2 := hw.2.1
  intro d
  induction d with
  | zero =>
    intro n i h hi hn hF hg
    obtain ⟨n, rfl⟩ : ∃ m, n = m + 1 := ⟨n - 1, by omega⟩
    obtain rfl : i = 10 := by omega
    refine ⟨h, ?_, K3.rf h⟩
    show fX9_oftenOf_B6 N (fX9_oftenOf_L6 N n) h _ _ _ = _
    simp only [fX9_oftenOf_B6, ffr, if_true]
    rw [if_pos (by decide)]
  | succ d ih =>
    intro n i h hi hn hF hg
    obtain ⟨n, rfl⟩ : ∃ m, n = m + 1 := ⟨n - 1, by omega⟩
    have unf : fX9_oftenOf_L6 N (n + 1) h (nI k) (nI q) (nI i) = fX9_oftenOf_B6 N (fX9_oftenOf_L6 N n) h (nI k) (nI q) (nI i) := rfl
    rw [unf]
    simp only [fX9_oftenOf_B6, nI_add_lit]
    obtain ⟨h1, e1, k1, -⟩ := tries_eq hw hF hN (k := k) (by omega) (itg_ok (gE_ok w) i) hg
    have q4 := oc_le w k (itg w q (gE w) i)
    rw [if_neg (by rw [show (10 : Int32) = nI 10 from rfl, nI_leI (by omega) (by omega)]; omega), e1]
    simp only [Option.bind_some]
    by_cases c : oc w k (itg w q (gE w) i) = 1
    · have hp : ofp w k q i = false := by simp [ofp, c]
      refine ⟨h1, ?_, k1⟩
      rw [if_pos (by rw [c]; rfl)]
      simp only [ffr, hp, Bool.false_eq_true, if_false]
      rw [if_neg (by omega)]
    · have hp : ofp w k q i = true := by simp [ofp, c]
      have k2 : K3 h1 (pw h1 49 19 (gI w (itg w q (gE w) i))) := (K3.rf h1).pw (by omega)
      obtain ⟨h3, e3, k3, g3, -⟩ := tries_eq hw ((hF.k3 k1).k3 k2) hN (k := q) (g := itg w q (gE w) i) (by omega) (itg_ok (gE_ok w) i) (by simp [pw_at])
      obtain ⟨h', e, k4⟩ := ih n (i + 1) h3 (by omega) (by omega) (((hF.k3 k1).k3 k2).k3 k3) g3
      refine ⟨h', ?_, ((k1.tr k2).tr k3).tr k4⟩
      rw [if_neg (by rw [show (1 : Int32) = nI 1 from rfl, nI_eq (by omega) (by omega)]; exact c), hg, e3]
      simp only [Option.bind_some, e, ffr, hp, if_true]
theorem oftenOf_eq {w : Wt} {h : pH} (hw : wok w) (hF : mF w h) (hgo : h.1 49 20 = 0) {N : Nat} (hN : 1000 ≤ N) {k q : Nat} (hk : k < nk w) (hq : q < nk w) :
    ∃ h', fX9_oftenOf N h (nI k) (nI q) = some (oft w k q, h') ∧ Kp S7 h h' := by
  obtain ⟨h1, e1, k1, l1⟩ := lives_eq hw hF hN (m := 0) (by decide) (by rw [hgo]; rfl)
  rw [z_bit] at l1
  have hF1 := hF.kp (k1.mono (fun _ _ => S7_SM))
  obtain ⟨h3, e3, k3⟩ := often_loop hw hN hk hq 10 N 0 h1 (by omega) (by omega) hF1 l1.1
  rw [fX9_oftenOf, e1]
  exact ⟨h3, e3, k1.tr k3.kp⟩
def a_often (σ : St) (x y : Int32) : Int32 := if ix x (nk (wOf σ)) = true ∧ ix y (nk (wOf σ)) = true ∧ x ≠ y then oft (wOf σ) x.toNatClampNeg y.toNatClampNeg else -2
theorem m_often {σ : St} {h : pH} (hS : Sok σ) (hB : Bm σ h) {N : Nat} (hN : 1000 ≤ N) (x y : Int32) : ∃ h', fX9_often N h x y = some (a_often σ x y, h') ∧ Kp SF h h' ∧ mF (wOf σ) h' := by
  obtain ⟨h1, e, k, hF, hL⟩ := find_eq hS hB hN
  have w2 := (wok_of hS).2.1
  have hB1 := hB.kp k
  rw [fX9_often, e]
  simp only [Option.bind_some, isCrosser_ix (wok_of hS) hF.2.2.1, b2i, fX9_often_b34, fX9_often_b36, a_often]
  cases c : ix x (nk (wOf σ))
  · exact ⟨h1, by simp, k, hF⟩
  · cases c2 : ix y (nk (wOf σ))
    · exact ⟨h1, by simp, k, hF⟩
    · by_cases c3 : x = y
      · exact ⟨h1, by simp [c3], k, hF⟩
      · obtain ⟨i, hi, rfl⟩ := ix_of c (by omega)
        obtain ⟨j, hj, rfl⟩ := ix_of c2 (by omega)
        obtain ⟨h2, e2, k2⟩ := oftenOf_eq (wok_of hS) hF hB1.2.2.2.2.2.2.2.2.2.2 hN hi hj
        refine ⟨h2, ?_, k.tr (k2.mono (fun _ _ => S7_SF)), hF.kp (k2.mono (fun _ _ => S7_SM))⟩
        simp (disch := omega) only [if_true, Bool.true_eq_false, if_false, c3, e2, Option.bind_some, nI_clamp, ne_eq, not_false_eq_true, and_self]
/-! week -/
def lotN (s : Int32) : Nat → Int32
  | 0 => s
  | i + 1 => 1103515245 * lotN s i + 12345
def pick (w : Wt) (x : Int32) : Nat := (x.toBitVec.toNat / 65536) % nk w
theorem ush16 (x : Int32) : (x.toUInt32 >>> ((16 : Int32).toUInt32 &&& Int32.toUInt32 31)).toInt32 = nI (x.toBitVec.toNat / 65536) := by
  have h := pk_ushr x 16 16 (by decide)
  have hb : x.toBitVec.toNat < 2 ^ 32 := x.toBitVec.isLt
  apply Int32.toBitVec_inj.mp
  apply BitVec.eq_of_toNat_eq
  rw [h, pk_tn (by omega)]
theorem pick_lt {w : Wt} (h : 0 < nk w) (x : Int32) : pick w x < nk w := Nat.mod_lt _ h
def wkG (w : Wt) (s : Int32) : Nat → Nat
  | 0 => gE w
  | i + 1 => mv w (pick w (lotN s (i + 1))) (wkG w s i)
def wkC (w : Wt) (s : Int32) : Nat → Nat
  | 0 => 0
  | i + 1 => wkC w s i + (if oc w (pick w (lotN s (i + 1))) (wkG w s i) = 1 then 1 else 0)
theorem wkG_ok (w : Wt) (s : Int32) : ∀ i, gok w (wkG w s i)
  | 0 => gE_ok w
  | i + 1 => mv_ok (wkG_ok w s i)
theorem wkC_le (w : Wt) (s : Int32) : ∀ i, wkC w s i ≤ i
  | 0 => Nat.le_refl _
  | i + 1 => by have := wkC_le w s i; simp only [wkC]; split <;> omega
/-- how many crossings a week has -/
def wkN (w : Wt) (n : Nat) : Nat := if nk w = 0 then 0 else n
def wkA (w : Wt) (s : Int32) (n y : Nat) : Int32 := if y = 0 then gI w (wkG w s (wkN w n)) else nI (wkC w s (wkN w n))
def SK (a b : Nat) : Prop := a = 49 ∧ (b = 19 ∨ b = 21 ∨ b = 22 ∨ b = 30)
theorem K3.sk {h h' : pH} (k : K3 h h') : Kp SK h h' := ⟨k.1, fun a b z => k.2 a b (fun q => z (by unfold SK; omega))⟩
theorem SK_SM {a b : Nat} (h : SK a b) : SM a b := by unfold SK at h; unfold SM; omega
theorem week_loop {w : Wt} (hw : wok w) {N : Nat} (hN : 1000 ≤ N) (s : Int32) {m y : Nat} (hm : m < 100) (hy : y < 2) (hk : 0 < nk w) : ∀ (d n i : Nat) (h : pH), i + d = m → d < n → mF w h → h.1 49 19 = gI w (wkG w s i) → h.1 49 30 = lotN s i →
    ∃ h', fX9_weekOf_L15 N n h (nI m) (nI y) (nI (wkC w s i)) (nI i) = some (if y = 0 then gI w (wkG w s m) else nI (wkC w s m), h') ∧ Kp SK h h' := by
  have w2 := hw.2.1
  intro d
  induction d with
  | zero =>
    intro n i h hi hn hF hg hl
    obtain ⟨n, rfl⟩ : ∃ m, n = m + 1 := ⟨n - 1, by omega⟩
    obtain rfl : i = m := by omega
    refine ⟨h, ?_, Kp.rf h⟩
    show fX9_weekOf_B15 N (fX9_weekOf_L15 N n) h _ _ _ _ = _
    simp (disch := omega) only [fX9_weekOf_B15, fX9_weekOf_b60, fX9_weekOf_b73, hg, nI_eq_lit]
    rw [if_pos (Int32.le_refl _)]
    by_cases c : y = 0
    · rw [if_pos c, if_pos c]
    · rw [if_neg c, if_neg c]
  | succ d ih =>
    intro n i h hi hn hF hg hl
    obtain ⟨n, rfl⟩ : ∃ m, n = m + 1 := ⟨n - 1, by omega⟩
    have unf : fX9_weekOf_L15 N (n + 1) h (nI m) (nI y) (nI (wkC w s i)) (nI i) = fX9_weekOf_B15 N (fX9_weekOf_L15 N n) h (nI m) (nI y) (nI (wkC w s i)) (nI i) := rfl
    rw [unf]
    have hn0 : ¬ nI (nk w) = 0 := by rw [show (0 : Int32) = nI 0 from rfl, nI_eq (by omega) (by omega)]; omega
    have hlt : (lotN s (i + 1)).toBitVec.toNat < 2 ^ 32 := (lotN s (i + 1)).toBitVec.isLt
    have hlot : fX9_lot N h (nI (nk w)) = some (nI (pick w (lotN s (i + 1))), pw h 49 30 (lotN s (i + 1))) := by
      simp only [fX9_lot, pw_at, Nat.reduceEqDiff, Nat.reduceAdd, Nat.reduceMul, Nat.reduceSub, Nat.reduceLeDiff, reduceIte, and_true, true_and, and_false, false_and, and_self, if_true, if_false, Bool.false_eq_true, not_true_eq_false, not_false_eq_true, hl]
      rw [if_pos hn0, show (1103515245 : Int32) * lotN s i + 12345 = lotN s (i + 1) from rfl, ush16, nI_rem (by omega) (by omega) (by omega)]
      rfl
    simp only [fX9_weekOf_B15, fX9_weekOf_b51, hF.2.2.1]
    rw [if_neg (by rw [nI_leI (by omega) (by omega)]; omega), if_neg (by rw [show (0 : Int32) = nI 0 from rfl, nI_leI (by omega) (by omega)]; omega), hlot]
    simp only [Option.bind_some]
    have k0 : Kp SK h (pw h 49 30 (lotN s (i + 1))) := (Kp.rf h).pw (by unfold SK; omega)
    have hF0 := hF.kp (k0.mono (fun _ _ => SK_SM))
    have hpk := pick_lt (w := w) hk (lotN s (i + 1))
    obtain ⟨h1, e1, k1, g1, -⟩ := tries_eq hw hF0 hN (k := pick w (lotN s (i + 1))) (g := wkG w s i) (by omega) (wkG_ok w s i) (by simp only [pw_at, Nat.reduceEqDiff, Nat.reduceAdd, Nat.reduceMul, Nat.reduceSub, Nat.reduceLeDiff, reduceIte, and_true, true_and, and_false, false_and, and_self, if_true, if_false, Bool.false_eq_true, not_true_eq_false, not_false_eq_true]; exact hg)
    have hF1 := hF0.k3 k1
    obtain ⟨h', e, k2⟩ := ih n (i + 1) h1 (by omega) (by omega) hF1 g1 (by rw [k1.2 49 30 (by omega)]; simp only [pw_at, Nat.reduceEqDiff, Nat.reduceAdd, Nat.reduceMul, Nat.reduceSub, Nat.reduceLeDiff, reduceIte, and_true, true_and, and_false, false_and, and_self, if_true, if_false, Bool.false_eq_true, not_true_eq_false, not_false_eq_true])
    refine ⟨h', ?_, (k0.tr k1.sk).tr k2⟩
    have q4 := oc_le w (pick w (lotN s (i + 1))) (wkG w s i)
    rw [e1, ← e]
    simp only [Option.bind_some]
    rw [show wkC w s (i + 1) = wkC w s i + (if oc w (pick w (lotN s (i + 1))) (wkG w s i) = 1 then 1 else 0) from rfl]
    by_cases c : oc w (pick w (lotN s (i + 1))) (wkG w s i) = 1
    · rw [if_pos (by rw [c]; rfl), if_pos c, nI_add_lit, nI_add_lit]
    · rw [if_neg (by rw [show (1 : Int32) = nI 1 from rfl, nI_eq (by omega) (by omega)]; exact c), if_neg c, nI_add_lit, nI_add_lit]
theorem weekOf_eq {w : Wt} {h : pH} (hw : wok w) (hF : mF w h) (hgo : h.1 49 20 = 0) {N : Nat} (hN : 1000 ≤ N) (s : Int32) {m y : Nat} (hm : m < 100) (hy : y < 2) :
    ∃ h', fX9_weekOf N h s (nI m) (nI y) = some (wkA w s m y, h') ∧ Kp SM h h' := by
  obtain ⟨h1, e1, k1, l1⟩ := lives_eq hw hF hN (m := 0) (by decide) (by rw [hgo]; rfl)
  rw [z_bit] at l1
  have hF1 := hF.kp (k1.mono (fun _ _ => S7_SM))
  have k2 : Kp SK h1 (pw h1 49 30 s) := (Kp.rf h1).pw (by unfold SK; omega)
  have hF2 := hF1.kp (k2.mono (fun _ _ => SK_SM))
  have hg2 : (pw h1 49 30 s).1 49 19 = gI w (gE w) := by simp only [pw_at, Nat.reduceEqDiff, Nat.reduceAdd, Nat.reduceMul, Nat.reduceSub, Nat.reduceLeDiff, reduceIte, and_true, true_and, and_false, false_and, and_self, if_true, if_false, Bool.false_eq_true, not_true_eq_false, not_false_eq_true]; exact l1.1
  rw [fX9_weekOf, e1]
  simp only [Option.bind_some]
  unfold wkA wkN
  by_cases c : nk w = 0
  · refine ⟨pw h1 49 30 s, ?_, (k1.mono (fun _ _ => S7_SM)).tr (k2.mono (fun _ _ => SK_SM))⟩
    obtain ⟨n, rfl⟩ : ∃ m, N = m + 1 := ⟨N - 1, by omega⟩
    show fX9_weekOf_B15 (n + 1) (fX9_weekOf_L15 (n + 1) n) (pw h1 49 30 s) _ _ _ _ = _
    simp (disch := omega) only [fX9_weekOf_B15, fX9_weekOf_b60, fX9_weekOf_b73, hg2, nI_eq_lit, hF2.2.2.1, c]
    rw [if_pos (show nI 0 ≤ 0 by decide), if_pos trivial]
    by_cases c1 : nI m ≤ (0 : Int32)
    · rw [if_pos c1]
      by_cases c : y = 0
      · rw [if_pos c, if_pos c]; rfl
      · rw [if_neg c, if_neg c]; rfl
    · rw [if_neg c1]
      by_cases c : y = 0
      · rw [if_pos c, if_pos c]; rfl
      · rw [if_neg c, if_neg c]; rfl
  · obtain ⟨h3, e3, k3⟩ := week_loop hw hN s hm hy (by omega) m N 0 (pw h1 49 30 s) (by omega) (by omega) hF2 hg2 (by simp only [pw_at, Nat.reduceEqDiff, Nat.reduceAdd, Nat.reduceMul, Nat.reduceSub, Nat.reduceLeDiff, reduceIte, and_true, true_and, and_false, false_and, and_self, if_true, if_false, Bool.false_eq_true, not_true_eq_false, not_false_eq_true]; rfl)
    rw [if_neg c]
    exact ⟨h3, e3, ((k1.mono (fun _ _ => S7_SM)).tr (k2.mono (fun _ _ => SK_SM))).tr (k3.mono (fun _ _ => SK_SM))⟩
def a_week (σ : St) (s n y : Int32) : Int32 := if (nI 1 ≤ n ∧ n ≤ nI 99) ∧ ix y 2 = true then wkA (wOf σ) s n.toNatClampNeg y.toNatClampNeg else -2
theorem m_week {σ : St} {h : pH} (hS : Sok σ) (hB : Bm σ h) {N : Nat} (hN : 1000 ≤ N) (s n y : Int32) : ∃ h', fX9_week N h s n y = some (a_week σ s n y, h') ∧ Kp SF h h' := by
  obtain ⟨h1, e, k, hF, hL⟩ := find_eq hS hB hN
  have hB1 := hB.kp k
  rw [fX9_week, e]
  simp only [Option.bind_some, isTwo_ix, b2i, fX9_week_b33, fX9_week_b35, a_week]
  rw [show (1 : Int64) = OfNat.ofNat 1 from rfl, show (99 : Int64) = OfNat.ofNat 99 from rfl, inI_eq N h1 n 1 99 (by decide) (by decide)]
  simp only [Option.bind_some]
  by_cases c : nI 1 ≤ n ∧ n ≤ nI 99
  · cases c2 : ix y 2
    · exact ⟨h1, by simp [c], k⟩
    · obtain ⟨j, hj, rfl⟩ := ix_of c2 (by decide)
      obtain ⟨i, hi, rfl⟩ := rng_of (x := n) (n := 99) (by decide) ⟨Int32.le_trans (by decide) c.1, c.2⟩
      obtain ⟨h2, e2, k2⟩ := weekOf_eq (wok_of hS) hF hB1.2.2.2.2.2.2.2.2.2.2 hN s (m := i) (y := j) (by omega) hj
      refine ⟨h2, ?_, k.tr (k2.mono (fun _ _ => SM_SF))⟩
      simp (disch := omega) only [c, and_self, if_true, show ¬ ((1 : Int32) = 0) by decide, if_false, Bool.true_eq_false, e2, Option.bind_some, nI_clamp]
  · exact ⟨h1, by simp [c], k⟩
