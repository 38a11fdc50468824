theorem rlb_lt (w : Wt) (cn : Nat) (sb sp : Nat → Nat) (kind : Nat) : ∀ v, rlb w cn sb sp kind v < 2 ^ v
  | 0 => show (0 : Nat) < 1 by decide
  | v + 1 => by
    have h := rlb_lt w cn sb sp kind v
    have h2 : 2 ^ v < 2 ^ (v + 1) := Nat.pow_lt_pow_right (by decide) (by omega)
    unfold rlb
    split
    · exact Nat.or_lt_two_pow (by omega) h2
    · rw [Nat.or_zero]; omega
theorem sub9_fin : ((List.range 19).all fun v => decide (nI v - 9 = sI ((v : Int) - 9))) = true := by decide +kernel
theorem sub9 {v : Nat} (hv : v < 19) : nI v - 9 = sI ((v : Int) - 9) := of_decide_eq_true (List.all_eq_true.mp sub9_fin v (List.mem_range.mpr hv))
theorem kpk {h hv : pH} {k j : Nat} {S : Nat → Nat → Prop} (x : Int32) (hk : Kp (fun a b => S a b ∨ (a = k ∧ b = j)) h hv) : Kp S (pw h k j x) (pw hv k j x) := ⟨hk.1, fun a b z => by
  simp only [pw_at]
  by_cases c : a = k ∧ b = j
  · rw [if_pos c, if_pos c]
  · rw [if_neg c, if_neg c]
    exact hk.2 a b (fun q => q.elim z c)⟩
theorem kpk_pw {h hv : pH} {k j : Nat} {S : Nat → Nat → Prop} {x : Int32} (hk : Kp (fun a b => S a b ∨ (a = k ∧ b = j)) h hv) : Kp (fun a b => S a b ∨ (a = k ∧ b = j)) h (pw hv k j x) := hk.pw (Or.inr ⟨rfl, rfl⟩)
theorem kpk_end {h hv : pH} {k j : Nat} {S : Nat → Nat → Prop} (hk : Kp (fun a b => S a b ∨ (a = k ∧ b = j)) h hv) : Kp S h (pw hv k j (h.1 k j)) := ⟨hk.1, fun a b z => by
  simp only [pw_at]
  by_cases c : a = k ∧ b = j
  · rw [if_pos c, c.1, c.2]
  · rw [if_neg c]
    exact hk.2 a b (fun q => q.elim z c)⟩
theorem rule_loop {w : Wt} {h : pH} {cn : Nat} {sb sp : Nat → Nat} (hw : wok w) (hF : mF w h) (hs : Sg cn sb sp h) (hgo : h.1 49 20 = 0) {N : Nat} (hN : 1000 ≤ N) {kind : Nat} (hk : kind < 4) : ∀ (d n v : Nat) (hv : pH), v + d = 19 → d < n → Kp (fun a b => S7 a b ∨ (a = 60 ∧ b = kind)) h hv →
    ∃ h', fX9_ruleOf_L12 N n hv (nI kind) (h.1 60 kind) (nI (rlb w cn sb sp kind v)) (nI v) = some (nI (rlb w cn sb sp kind 19), h') ∧ Kp S7 h h' := by
  intro d
  induction d with
  | zero =>
    intro n v hv h1 hn hkp
    obtain ⟨n, rfl⟩ : ∃ m, n = m + 1 := ⟨n - 1, by omega⟩
    obtain rfl : v = 19 := by omega
    refine ⟨pw hv 60 kind (h.1 60 kind), ?_, kpk_end hkp⟩
    show fX9_ruleOf_B12 N (fX9_ruleOf_L12 N n) hv _ _ _ _ = _
    simp (disch := omega) only [fX9_ruleOf_B12, ix_nI, nI_clamp, if_true]
    rw [if_pos (by decide)]
  | succ d ih =>
    intro n v hv h1 hn hkp
    obtain ⟨n, rfl⟩ : ∃ m, n = m + 1 := ⟨n - 1, by omega⟩
    have hK := kpk (nI v - 9) hkp
    have hF1 := (shv_F (kind := kind) (v := v) hF (by omega) _ (sub9 (v := v) (by omega))).kp (hK.mono (fun _ _ => S7_SM))
    have hs1 : Sg cn sb sp (pw hv 60 kind (nI v - 9)) := by
      obtain ⟨s1, s2, s3⟩ := hs
      have e : ∀ a b, ¬ (S7 a b ∨ (a = 60 ∧ b = kind)) → hv.1 a b = h.1 a b := hkp.2
      unfold S7 at e
      refine ⟨by simp only [pw_at, Nat.reduceEqDiff, Nat.reduceAdd, Nat.reduceMul, Nat.reduceSub, Nat.reduceLeDiff, reduceIte, and_true, true_and, and_false, false_and, and_self, if_true, if_false, Bool.false_eq_true, not_true_eq_false, not_false_eq_true]; rw [e _ _ (by omega)]; exact s1, s2, fun k hk => ?_⟩
      simp only [pw_at, Nat.reduceEqDiff, Nat.reduceAdd, Nat.reduceMul, Nat.reduceSub, Nat.reduceLeDiff, reduceIte, and_true, true_and, and_false, false_and, and_self, if_true, if_false, Bool.false_eq_true, not_true_eq_false, not_false_eq_true]
      rw [e _ _ (by omega), e _ _ (by omega)]
      exact s3 k hk
    have hgo1 : (pw hv 60 kind (nI v - 9)).1 49 20 = 0 := by
      simp only [pw_at, Nat.reduceEqDiff, Nat.reduceAdd, Nat.reduceMul, Nat.reduceSub, Nat.reduceLeDiff, reduceIte, and_true, true_and, and_false, false_and, and_self, if_true, if_false, Bool.false_eq_true, not_true_eq_false, not_false_eq_true]
      rw [hkp.2 49 20 (by unfold S7; omega)]
      exact hgo
    obtain ⟨h2, e2, k2⟩ := isSeen_eq (shv_ok hw (by omega)) hF1 hs1 hgo1 hN
    obtain ⟨h3, e3, k3⟩ := ih n (v + 1) h2 (by omega) (by omega) ((kpk_pw hkp).tr (k2.mono (fun _ _ z => Or.inl z)))
    refine ⟨h3, ?_, k3⟩
    rw [← e3]
    show fX9_ruleOf_B12 N (fX9_ruleOf_L12 N n) hv _ _ _ _ = _
    simp (disch := omega) only [fX9_ruleOf_B12, fX9_ruleOf_b46, ix_nI, nI_clamp, if_true, nI_add_lit, e2, Option.bind_some, sh_bit, b2i]
    rw [if_neg (by rw [show (19 : Int32) = nI 19 from rfl, nI_leI (by omega) (by omega)]; omega)]
    rw [show rlb w cn sb sp kind (v + 1) = rlb w cn sb sp kind v ||| (if agr (shv w kind v) sb sp cn then 2 ^ v else 0) from rfl]
    cases c : agr (shv w kind v) sb sp cn
    · simp only [if_true, Bool.false_eq_true, if_false]
      rw [show (0 : Int32) = nI 0 from rfl, or_nI]
    · simp only [Bool.true_eq_false, if_true, if_false]
      rw [or_nI]
theorem ruleOf_eq {w : Wt} {h : pH} {cn : Nat} {sb sp : Nat → Nat} (hw : wok w) (hF : mF w h) (hs : Sg cn sb sp h) (hgo : h.1 49 20 = 0) {N : Nat} (hN : 1000 ≤ N) {kind : Nat} (hk : kind < 4) :
    ∃ h', fX9_ruleOf N h (nI kind) = some (nI (rlb w cn sb sp kind 19), h') ∧ Kp S7 h h' := by
  obtain ⟨h', e, k⟩ := rule_loop hw hF hs hgo hN hk 19 N 0 h (by omega) (by omega) (Kp.rf h)
  refine ⟨h', ?_, k⟩
  rw [fX9_ruleOf, if_pos (ix_nI (by omega) (by omega)), nI_clamp (by omega)]
  exact e
theorem Bm.sg {σ : St} {h : pH} (hS : Sok σ) (hB : Bm σ h) : Sg (t_cn σ) (t_sb σ) (t_sp σ) h := ⟨hB.2.2.2.2.2.2.2.1, hS.2.2.2.2.2.1, fun k hk => ⟨hB.2.2.2.2.2.2.2.2.1 k hk, hS.2.2.2.2.2.2 k hk⟩⟩
theorem Bm.go {σ : St} {h : pH} (hB : Bm σ h) : h.1 49 20 = 0 := hB.2.2.2.2.2.2.2.2.2.2
def a_rule (σ : St) (x : Int32) : Int32 := if ix x 4 then nI (rlb (wOf σ) (t_cn σ) (t_sb σ) (t_sp σ) x.toNatClampNeg 19) else -2
theorem m_rule {σ : St} {h : pH} (hS : Sok σ) (hB : Bm σ h) {N : Nat} (hN : 1000 ≤ N) (x : Int32) : ∃ h', fX9_rule N h x = some (a_rule σ x, h') ∧ Kp SF h h' := by
  obtain ⟨h1, e, k, hF, hL⟩ := find_eq hS hB hN
  have hB1 := hB.kp k
  rw [fX9_rule, e]
  simp only [Option.bind_some, in_ix N h1 x 3 (by decide), b2i, fX9_rule_b26, a_rule]
  cases c : ix x 4
  · exact ⟨h1, rfl, k⟩
  · obtain ⟨i, hi, rfl⟩ := ix_of c (by omega)
    obtain ⟨h2, e2, k2⟩ := ruleOf_eq (wok_of hS) hF (hB1.sg hS) hB1.go hN hi
    refine ⟨h2, ?_, k.tr (k2.mono (fun _ _ => S7_SF))⟩
    simp (disch := omega) only [if_true, Bool.true_eq_false, if_false, e2, Option.bind_some, nI_clamp]
/-! began -/
def bgb (w : Wt) (cn : Nat) (sb sp : Nat → Nat) : Nat → Nat
  | 0 => 0
  | p + 1 => bgb w cn sb sp p ||| (if agr (wBg w p) sb sp cn then 2 ^ p else 0)
theorem bgb_lt (w : Wt) (cn : Nat) (sb sp : Nat → Nat) : ∀ v, bgb w cn sb sp v < 2 ^ v
  | 0 => show (0 : Nat) < 1 by decide
  | v + 1 => by
    have h := bgb_lt w cn sb sp v
    have h2 : 2 ^ v < 2 ^ (v + 1) := Nat.pow_lt_pow_right (by decide) (by omega)
    unfold bgb
    split
    · exact Nat.or_lt_two_pow (by omega) h2
    · rw [Nat.or_zero]; omega
theorem wBg_ok {w : Wt} (hw : wok w) {p : Nat} (hp : p < 19) : wok (wBg w p) := by
  obtain ⟨w1, w2, w3, w4, w5, w6, w7, w8⟩ := hw
  exact ⟨w1, w2, w3, w4, w5, w6, (by show p ≤ 18; omega), w8⟩
theorem wBg_F {w : Wt} {h : pH} {p : Nat} (hF : mF w h) : mF (wBg w p) (pw h 59 1 (nI p)) := by
  obtain ⟨h1, h2, h3, h4, h5, h6, h7, h8, h9⟩ := hF
  refine ⟨?_, ?_, ?_, ?_, ?_, ?_, ?_, ?_, ?_⟩
  · simp only [pw_at, Nat.reduceEqDiff, Nat.reduceAdd, Nat.reduceMul, Nat.reduceSub, Nat.reduceLeDiff, reduceIte, and_true, true_and, and_false, false_and, and_self, if_true, if_false, Bool.false_eq_true, not_true_eq_false, not_false_eq_true]; exact h1
  · intro p hp; simp only [pw_at, Nat.reduceEqDiff, Nat.reduceAdd, Nat.reduceMul, Nat.reduceSub, Nat.reduceLeDiff, reduceIte, and_true, true_and, and_false, false_and, and_self, if_true, if_false, Bool.false_eq_true, not_true_eq_false, not_false_eq_true]; exact h2 p hp
  · simp only [pw_at, Nat.reduceEqDiff, Nat.reduceAdd, Nat.reduceMul, Nat.reduceSub, Nat.reduceLeDiff, reduceIte, and_true, true_and, and_false, false_and, and_self, if_true, if_false, Bool.false_eq_true, not_true_eq_false, not_false_eq_true]; exact h3
  · intro k hk; simp only [pw_at, Nat.reduceEqDiff, Nat.reduceAdd, Nat.reduceMul, Nat.reduceSub, Nat.reduceLeDiff, reduceIte, and_true, true_and, and_false, false_and, and_self, if_true, if_false, Bool.false_eq_true, not_true_eq_false, not_false_eq_true]; exact h4 k hk
  · simp only [pw_at, Nat.reduceEqDiff, Nat.reduceAdd, Nat.reduceMul, Nat.reduceSub, Nat.reduceLeDiff, reduceIte, and_true, true_and, and_false, false_and, and_self, if_true, if_false, Bool.false_eq_true, not_true_eq_false, not_false_eq_true]; exact h5
  · intro i hi; simp only [pw_at, Nat.reduceEqDiff, Nat.reduceAdd, Nat.reduceMul, Nat.reduceSub, Nat.reduceLeDiff, reduceIte, and_true, true_and, and_false, false_and, and_self, if_true, if_false, Bool.false_eq_true, not_true_eq_false, not_false_eq_true]; exact h6 i hi
  · simp only [pw_at, Nat.reduceEqDiff, Nat.reduceAdd, Nat.reduceMul, Nat.reduceSub, Nat.reduceLeDiff, reduceIte, and_true, true_and, and_false, false_and, and_self, if_true, if_false, Bool.false_eq_true, not_true_eq_false, not_false_eq_true, Nat.zero_ne_one]; exact h7
  · simp only [pw_at, Nat.reduceEqDiff, Nat.reduceAdd, Nat.reduceMul, Nat.reduceSub, Nat.reduceLeDiff, reduceIte, and_true, true_and, and_false, false_and, and_self, if_true, if_false, Bool.false_eq_true, not_true_eq_false, not_false_eq_true]; rfl
  · intro k hk; simp only [pw_at, Nat.reduceEqDiff, Nat.reduceAdd, Nat.reduceMul, Nat.reduceSub, Nat.reduceLeDiff, reduceIte, and_true, true_and, and_false, false_and, and_self, if_true, if_false, Bool.false_eq_true, not_true_eq_false, not_false_eq_true]; exact h9 k hk
theorem began_loop {w : Wt} {h : pH} {cn : Nat} {sb sp : Nat → Nat} (hw : wok w) (hF : mF w h) (hs : Sg cn sb sp h) (hgo : h.1 49 20 = 0) {N : Nat} (hN : 1000 ≤ N) : ∀ (d n v : Nat) (hv : pH), v + d = np w → d < n → Kp (fun a b => S7 a b ∨ (a = 59 ∧ b = 1)) h hv →
    ∃ h', fX9_beganNow_L11 N n hv (h.1 59 1) (nI (bgb w cn sb sp v)) (nI v) = some (nI (bgb w cn sb sp (np w)), h') ∧ Kp S7 h h' := by
  have w1 := hw.1
  intro d
  induction d with
  | zero =>
    intro n v hv h1 hn hkp
    obtain ⟨n, rfl⟩ : ∃ m, n = m + 1 := ⟨n - 1, by omega⟩
    obtain rfl : v = np w := by omega
    have hnp : hv.1 49 7 = nI (np w) := by rw [hkp.2 49 7 (by unfold S7; omega)]; exact hF.1
    refine ⟨pw hv 59 1 (h.1 59 1), ?_, kpk_end hkp⟩
    show fX9_beganNow_B11 N (fX9_beganNow_L11 N n) hv _ _ _ = _
    simp only [fX9_beganNow_B11, hnp, ixc12, cl1, if_true]
    rw [if_pos (Int32.le_refl _)]
  | succ d ih =>
    intro n v hv h1 hn hkp
    obtain ⟨n, rfl⟩ : ∃ m, n = m + 1 := ⟨n - 1, by omega⟩
    have hnp : hv.1 49 7 = nI (np w) := by rw [hkp.2 49 7 (by unfold S7; omega)]; exact hF.1
    have hK := kpk (nI v) hkp
    have hF1 := (wBg_F (p := v) hF).kp (hK.mono (fun _ _ => S7_SM))
    have hs1 : Sg cn sb sp (pw hv 59 1 (nI v)) := by
      obtain ⟨s1, s2, s3⟩ := hs
      have e : ∀ a b, ¬ (S7 a b ∨ (a = 59 ∧ b = 1)) → hv.1 a b = h.1 a b := hkp.2
      unfold S7 at e
      refine ⟨by simp only [pw_at, Nat.reduceEqDiff, Nat.reduceAdd, Nat.reduceMul, Nat.reduceSub, Nat.reduceLeDiff, reduceIte, and_true, true_and, and_false, false_and, and_self, if_true, if_false, Bool.false_eq_true, not_true_eq_false, not_false_eq_true]; rw [e _ _ (by omega)]; exact s1, s2, fun k hk => ?_⟩
      simp only [pw_at, Nat.reduceEqDiff, Nat.reduceAdd, Nat.reduceMul, Nat.reduceSub, Nat.reduceLeDiff, reduceIte, and_true, true_and, and_false, false_and, and_self, if_true, if_false, Bool.false_eq_true, not_true_eq_false, not_false_eq_true]
      rw [e _ _ (by omega), e _ _ (by omega)]
      exact s3 k hk
    have hgo1 : (pw hv 59 1 (nI v)).1 49 20 = 0 := by
      simp only [pw_at, Nat.reduceEqDiff, Nat.reduceAdd, Nat.reduceMul, Nat.reduceSub, Nat.reduceLeDiff, reduceIte, and_true, true_and, and_false, false_and, and_self, if_true, if_false, Bool.false_eq_true, not_true_eq_false, not_false_eq_true]
      rw [hkp.2 49 20 (by unfold S7; omega)]
      exact hgo
    obtain ⟨h2, e2, k2⟩ := isSeen_eq (wBg_ok hw (p := v) (by omega)) hF1 hs1 hgo1 hN
    obtain ⟨h3, e3, k3⟩ := ih n (v + 1) h2 (by omega) (by omega) ((kpk_pw hkp).tr (k2.mono (fun _ _ z => Or.inl z)))
    refine ⟨h3, ?_, k3⟩
    rw [← e3]
    show fX9_beganNow_B11 N (fX9_beganNow_L11 N n) hv _ _ _ = _
    simp (disch := omega) only [fX9_beganNow_B11, fX9_beganNow_b41, hnp, ixc12, cl1, if_true, nI_add_lit, e2, Option.bind_some, sh_bit, b2i]
    rw [if_neg (by rw [nI_leI (by omega) (by omega)]; omega)]
    rw [show bgb w cn sb sp (v + 1) = bgb w cn sb sp v ||| (if agr (wBg w v) sb sp cn then 2 ^ v else 0) from rfl]
    cases c : agr (wBg w v) sb sp cn
    · simp only [if_true, Bool.false_eq_true, if_false]
      rw [show (0 : Int32) = nI 0 from rfl, or_nI]
    · simp only [Bool.true_eq_false, if_true, if_false]
      rw [or_nI]
theorem beganNow_eq {w : Wt} {h : pH} {cn : Nat} {sb sp : Nat → Nat} (hw : wok w) (hF : mF w h) (hs : Sg cn sb sp h) (hgo : h.1 49 20 = 0) {N : Nat} (hN : 1000 ≤ N) :
    ∃ h', fX9_beganNow N h = some (nI (bgb w cn sb sp (np w)), h') ∧ Kp S7 h h' := by
  have w1 := hw.1
  obtain ⟨h', e, k⟩ := began_loop hw hF hs hgo hN (np w) N 0 h (by omega) (by omega) (Kp.rf h)
  refine ⟨h', ?_, k⟩
  rw [fX9_beganNow, if_pos ixc12, cl1]
  exact e
def a_began (σ : St) : Int32 := nI (bgb (wOf σ) (t_cn σ) (t_sb σ) (t_sp σ) (np (wOf σ)))
theorem m_began {σ : St} {h : pH} (hS : Sok σ) (hB : Bm σ h) {N : Nat} (hN : 1000 ≤ N) : ∃ h', fX9_began N h = some (a_began σ, h') ∧ Kp SF h h' := by
  obtain ⟨h1, e, k, hF, hL⟩ := find_eq hS hB hN
  have hB1 := hB.kp k
  obtain ⟨h2, e2, k2⟩ := beganNow_eq (wok_of hS) hF (hB1.sg hS) hB1.go hN
  refine ⟨h2, ?_, k.tr (k2.mono (fun _ _ => S7_SF))⟩
  rw [fX9_began, e]
  simp only [Option.bind_some, e2]
  rfl
