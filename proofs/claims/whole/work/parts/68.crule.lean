/-! ===== the class: rule, began ===== -/
theorem rl_sh (w : Wt) (f : Nat → Int) (b : Bool) (g : Nat) : ∀ p, rl (wSh w f) b g p = rl w b g p
  | 0 => rfl
  | p + 1 => by
    show (if hole w b g p then rl (wSh w f) b g p + 1 else 0) = (if hole w b g p then rl w b g p + 1 else 0)
    rw [rl_sh w f b g p]
theorem lgs_sh (w : Wt) (f : Nat → Int) (b : Bool) (g : Nat) : ∀ p, lgs (wSh w f) b g p = lgs w b g p
  | 0 => rfl
  | p + 1 => by
    show max (rl (wSh w f) b g (p + 1)) (lgs (wSh w f) b g p) = max (rl w b g (p + 1)) (lgs w b g p)
    rw [rl_sh, lgs_sh w f b g p]
theorem mny_sh (w : Wt) (f : Nat → Int) (b : Bool) (g : Nat) : ∀ p, mny (wSh w f) b g p = mny w b g p
  | 0 => rfl
  | p + 1 => by
    show mny (wSh w f) b g p + (if hole w b g p = true ∧ rl (wSh w f) b g p = 0 then 1 else 0) = mny w b g p + (if hole w b g p = true ∧ rl w b g p = 0 then 1 else 0)
    rw [rl_sh, mny_sh w f b g p]
theorem rl_bg (w : Wt) (f : Nat) (b : Bool) (g : Nat) : ∀ p, rl (wBg w f) b g p = rl w b g p
  | 0 => rfl
  | p + 1 => by
    show (if hole w b g p then rl (wBg w f) b g p + 1 else 0) = (if hole w b g p then rl w b g p + 1 else 0)
    rw [rl_bg w f b g p]
theorem lgs_bg (w : Wt) (f : Nat) (b : Bool) (g : Nat) : ∀ p, lgs (wBg w f) b g p = lgs w b g p
  | 0 => rfl
  | p + 1 => by
    show max (rl (wBg w f) b g (p + 1)) (lgs (wBg w f) b g p) = max (rl w b g (p + 1)) (lgs w b g p)
    rw [rl_bg, lgs_bg w f b g p]
theorem mny_bg (w : Wt) (f : Nat) (b : Bool) (g : Nat) : ∀ p, mny (wBg w f) b g p = mny w b g p
  | 0 => rfl
  | p + 1 => by
    show mny (wBg w f) b g p + (if hole w b g p = true ∧ rl (wBg w f) b g p = 0 then 1 else 0) = mny w b g p + (if hole w b g p = true ∧ rl w b g p = 0 then 1 else 0)
    rw [rl_bg, mny_bg w f b g p]
theorem cF0.sh {w : Wt} {h : pH} (hF : cF0 w h) (f : Nat → Int) : cF0 (wSh w f) h := by
  obtain ⟨h1, h2, h3, h4, h5, h6, h7, h8⟩ := hF
  exact ⟨h1, h2, fun b g hg => by rw [mny_sh, lgs_sh]; exact h3 b g hg, h4, h5, h6, h7, h8⟩
theorem cF0.bg {w : Wt} {h : pH} (hF : cF0 w h) (f : Nat) : cF0 (wBg w f) h := by
  obtain ⟨h1, h2, h3, h4, h5, h6, h7, h8⟩ := hF
  exact ⟨h1, h2, fun b g hg => by rw [mny_bg, lgs_bg]; exact h3 b g hg, h4, h5, h6, h7, h8⟩
/-- the sightings, in the class -/
def Sc (cn : Nat) (sb sp : Nat → Nat) (h : pH) : Prop := h.1 35 2 = nI cn ∧ cn ≤ 8 ∧ ∀ k, k < cn → (h.1 36 k = nI (sb k) ∧ h.1 37 k = nI (sp k)) ∧ sb k ≤ 24 ∧ sp k ≤ 18
theorem Ac.sc {σ : St} {h : pH} (hS : Sok σ) (hA : Ac σ h) : Sc (t_cn σ) (t_sb σ) (t_sp σ) h := ⟨hA.2.2.2.2.2.2.2.1, hS.2.2.2.2.2.1, fun k hk => ⟨hA.2.2.2.2.2.2.2.2.1 k hk, hS.2.2.2.2.2.2 k hk⟩⟩
theorem agr_no {w : Wt} {sb sp : Nat → Nat} {k : Nat} (h : agr w sb sp k = false) : ∀ d, agr w sb sp (k + d) = false
  | 0 => h
  | d + 1 => by
    show (agr w sb sp (k + d) && _) = false
    rw [agr_no h d]; rfl
theorem agree_loop {w : Wt} {h : pH} {cn : Nat} {sb sp : Nat → Nat} (hw : wok w) (hs : Sc cn sb sp h) (hg : ∀ i, i ≤ nc w → h.1 27 i = gI w (G w i)) (N : Nat) : ∀ (d n k : Nat), k + d = cn → d < n → agr w sb sp k = true →
    fX6_agreeWith_L2 N n h 27 (nI (nc w)) (nI k) = some (if agr w sb sp cn then 1 else 0, h) := by
  obtain ⟨s1, s2, s3⟩ := hs
  have w1 := hw.1
  have w4 := hw.2.2.2.1
  intro d
  induction d with
  | zero =>
    intro n k hk hn ha
    obtain ⟨n, rfl⟩ : ∃ m, n = m + 1 := ⟨n - 1, by omega⟩
    obtain rfl : k = cn := by omega
    show fX6_agreeWith_B2 N (fX6_agreeWith_L2 N n) h _ _ _ = _
    simp only [fX6_agreeWith_B2, s1, ha, if_true]
    rw [if_pos (Int32.le_refl _)]
  | succ d ih =>
    intro n k hk hn ha
    obtain ⟨n, rfl⟩ : ∃ m, n = m + 1 := ⟨n - 1, by omega⟩
    obtain ⟨⟨q1, q2⟩, q3, q4⟩ := s3 k (by omega)
    have hno : ¬ (sb k ≤ nc w ∧ 0 < np w ∧ G w (sb k) = sp k) → (if agr w sb sp cn then (1 : Int32) else 0) = 0 := by
      intro z
      have e1 : agr w sb sp (k + 1) = false := by
        show (agr w sb sp k && decide (sb k ≤ nc w ∧ 0 < np w ∧ G w (sb k) = sp k)) = false
        rw [decide_eq_false z, Bool.and_false]
      have e2 := agr_no e1 d
      rw [show k + 1 + d = cn by omega] at e2
      rw [e2]; rfl
    show fX6_agreeWith_B2 N (fX6_agreeWith_L2 N n) h _ _ _ = _
    simp (disch := omega) only [fX6_agreeWith_B2, fX6_agreeWith_b44, s1, nI_leI, ix_nI, nI_clamp, if_true, q1, q2, nI_ltI, show aK 27 = 0 from by decide, show aN 27 = 25 from by decide, nI_1, true_and]
    rw [if_neg (by omega)]
    by_cases c1 : nc w < sb k
    · rw [if_pos c1, hno (by omega)]
    · rw [if_neg c1, if_neg (by rw [show Int32.ofNat 25 = nI 25 from rfl, nI_leI (by omega) (by omega)]; omega), hg (sb k) (by omega)]
      have g1 : G w (sb k) < 19 := gok_lt w1 (G_ok w _)
      by_cases c2 : np w = 0
      · have e : gI w (G w (sb k)) = -1 := by unfold gI; rw [if_pos c2]
        rw [e, if_neg (fun z => nI_nm1 (show sp k < 2 ^ 31 by omega) z.symm), hno (by omega)]
      · rw [gI_pos (by omega)]
        by_cases c3 : G w (sb k) = sp k
        · rw [if_pos (by rw [c3])]
          refine ih n (k + 1) (by omega) (by omega) ?_
          show (agr w sb sp k && decide (sb k ≤ nc w ∧ 0 < np w ∧ G w (sb k) = sp k)) = true
          rw [ha, decide_eq_true ⟨by omega, by omega, c3⟩]; rfl
        · rw [if_neg (by rw [nI_eq (by omega) (by omega)]; exact c3), hno (fun z => c3 z.2.2)]
theorem seenAs_eq {w : Wt} {h : pH} {cn : Nat} {sb sp : Nat → Nat} (hw : wok w) (hF : cF0 w h) (hs : Sc cn sb sp h) {N : Nat} (hN : 1000 ≤ N) {r : Nat} (hr : r = 10 ∨ r = 28) (hsh : ∀ j, j < 4 → h.1 r j = sI (sh w j)) :
    ∃ h', fX8_comesOutAsSeen N h (gI w (g0 w)) r = some (if agr w sb sp cn then 1 else 0, h') ∧ Kq (fun a _ => a = 27) h h' := by
  obtain ⟨h1, e1, k1, q1⟩ := follow_eq hw hF hN hr (Or.inr rfl) hsh
  have hs1 : Sc cn sb sp h1 := by
    obtain ⟨s1, s2, s3⟩ := hs
    exact ⟨by rw [k1 _ _ (by omega)]; exact s1, s2, fun k hk => by rw [k1 _ _ (by omega), k1 _ _ (by omega)]; exact s3 k hk⟩
  have h24 : h1.1 24 1 = nI (nc w) := by rw [k1 _ _ (by omega)]; exact hF.2.2.2.2.2.1
  have e2 := agree_loop hw hs1 q1 N cn N 0 (by omega) (by have := hs1.2.1; omega) rfl
  refine ⟨h1, ?_, k1⟩
  rw [fX8_comesOutAsSeen, e1]
  simp only [Option.bind_some, h24]
  rw [show fX6_agreeWith N h1 27 (nI (nc w)) = _ from e2]
  simp only [Option.bind_some]
  cases agr w sb sp cn <;> simp
theorem v9_fin : ((List.range 20).all fun v => decide (sI ((v : Int) - 9) + 1 = sI (((v + 1 : Nat) : Int) - 9) ∧ sI ((v : Int) - 9) + 9 = nI v)) = true := by decide +kernel
theorem v9 {v : Nat} (hv : v < 20) : sI ((v : Int) - 9) + 1 = sI (((v + 1 : Nat) : Int) - 9) ∧ sI ((v : Int) - 9) + 9 = nI v := of_decide_eq_true (List.all_eq_true.mp v9_fin v (List.mem_range.mpr hv))
theorem crule_loop {w : Wt} {h : pH} {cn : Nat} {sb sp : Nat → Nat} (hw : wok w) (hF : cF0 w h) (h91 : h.1 9 1 = nI (bg w)) (hs : Sc cn sb sp h) {N : Nat} (hN : 1000 ≤ N) {kind : Nat} (hk : kind < 4) : ∀ (d n v : Nat) (hv : pH), v + d = 19 → d < n → Kq SV h hv → (∀ j, j < 4 → j ≠ kind → hv.1 28 j = sI (sh w j)) →
    ∃ h', fX8_rule_L38 N n hv (nI kind) (nI (rlb w cn sb sp kind v)) (sI ((v : Int) - 9)) = some (nI (rlb w cn sb sp kind 19), h') ∧ Kq SV h h' := by
  have w2 := hw.2.1
  intro d
  induction d with
  | zero =>
    intro n v hv h1 hn hkp hsh
    obtain ⟨n, rfl⟩ : ∃ m, n = m + 1 := ⟨n - 1, by omega⟩
    obtain rfl : v = 19 := by omega
    refine ⟨hv, ?_, hkp⟩
    show fX8_rule_B38 N (fX8_rule_L38 N n) hv _ _ _ = _
    simp only [fX8_rule_B38]
    rw [if_pos (by decide)]
  | succ d ih =>
    intro n v hv h1 hn hkp hsh
    obtain ⟨n, rfl⟩ : ∃ m, n = m + 1 := ⟨n - 1, by omega⟩
    have k1 : Kq SV h (pw hv 28 kind (sI ((v : Int) - 9))) := hkp.pw (by unfold SV; omega)
    have hF1 : cF0 (shv w kind v) (pw hv 28 kind (sI ((v : Int) - 9))) := (hF.kq (k1.mono (fun a b z => by unfold SV at z; unfold SR; omega)) w2).sh _
    have hs1 : Sc cn sb sp (pw hv 28 kind (sI ((v : Int) - 9))) := by
      obtain ⟨s1, s2, s3⟩ := hs
      exact ⟨by rw [k1 _ _ (by unfold SV; omega)]; exact s1, s2, fun k hk => by rw [k1 _ _ (by unfold SV; omega), k1 _ _ (by unfold SV; omega)]; exact s3 k hk⟩
    have hsh1 : ∀ j, j < 4 → (pw hv 28 kind (sI ((v : Int) - 9))).1 28 j = sI (sh (shv w kind v) j) := by
      intro j hj
      simp only [pw_at, true_and]
      show _ = sI (if j = kind then (v : Int) - 9 else sh w j)
      by_cases c : j = kind
      · rw [if_pos c, if_pos c]
      · rw [if_neg c, if_neg c]; exact hsh j hj c
    obtain ⟨h2, e2, k2⟩ := seenAs_eq (shv_ok hw (show v < 19 by omega)) hF1 hs1 hN (Or.inr rfl) hsh1
    have k2' : Kq SV h h2 := k1.tr (k2.mono (fun a b z => by unfold SV; omega))
    obtain ⟨h3, e3, k3⟩ := ih n (v + 1) h2 (by omega) (by omega) k2' (fun j hj c => by
      rw [k2 _ _ (by omega), hsh1 j hj]
      show sI (if j = kind then (v : Int) - 9 else sh w j) = _
      rw [if_neg c])
    refine ⟨h3, ?_, k3⟩
    rw [← e3]
    have ef := first_eq (h := pw hv 28 kind (sI ((v : Int) - 9))) (shv_ok hw (kind := kind) (v := v) (by omega)) hF1.1 (by rw [k1 _ _ (by unfold SV; omega)]; exact h91) N
    show fX8_rule_B38 N (fX8_rule_L38 N n) hv _ _ _ = _
    simp (disch := omega) only [fX8_rule_B38, fX8_rule_b78, ix_nI, nI_clamp, if_true, ef, Option.bind_some, e2, (v9 (v := v) (by omega)).1, (v9 (v := v) (by omega)).2, sh_bit, b2i]
    rw [if_neg (by rw [Int32.lt_iff_toInt_lt, sI_toInt (by omega) (by omega)]; show ¬ (9 : Int) < _; omega)]
    rw [show rlb w cn sb sp kind (v + 1) = rlb w cn sb sp kind v ||| (if agr (shv w kind v) sb sp cn then 2 ^ v else 0) from rfl]
    cases c : agr (shv w kind v) sb sp cn
    · simp only [if_true, Bool.false_eq_true, if_false, Nat.or_zero]
    · simp only [Bool.true_eq_false, if_true, if_false]
      rw [or_nI]
theorem pcI_at (h : pH) (k1 k2 sp dp n a b : Nat) : (pcI h k1 k2 sp dp n).1 a b = if a = k2 then (if dp ≤ b ∧ b < dp + n then h.1 k1 (sp + (b - dp)) else h.1 k2 b) else h.1 a b := by
  by_cases c : a = k2
  · subst c
    simp only [pcI, if_true]
    rfl
  · simp only [pcI, c, if_false]
theorem c_rule {σ : St} {h : pH} (hS : Sok σ) (hC : Ci σ h) {N : Nat} (hN : 1000 ≤ N) (x : Int32) : ∃ h', fX8_rule N h x = some (a_rule σ x, h') ∧ Co σ h h' := by
  have hw := wok_of hS
  have w2 := hw.2.1
  simp only [fX8_rule, wi_ix N h x 3 (by decide), Option.bind_some, b2i, a_rule]
  cases c : ix x 4
  · exact ⟨h, rfl, Co.rf hC⟩
  · obtain ⟨k, hk, rfl⟩ := ix_of c (by decide)
    obtain ⟨h1, e1, f1, k1⟩ := fresh_eq hS hC hN
    have hF := f1.2.2.1
    have hA := f1.1
    have kp : Kq SV h1 (pcI h1 10 28 0 0 4) := fun a b z => by
      rw [pcI_at, if_neg (fun q => z (by unfold SV; omega))]
    obtain ⟨h2, e2, k2⟩ := crule_loop hw hF.1 hA.2.2.2.1 (hA.sc hS) hN hk 19 N 0 (pcI h1 10 28 0 0 4) (by omega) (by omega) kp (fun j hj _ => by
      rw [pcI_at, if_pos rfl, if_pos (by omega), show 0 + (j - 0) = j by omega]
      exact hA.2.2.2.2.1 j hj)
    refine ⟨h2, ?_, Co.fr (f1.kq w2 k2) (k1.tr (k2.mono (fun _ _ => SV_SQ)))⟩
    simp only [Bool.true_eq_false, if_false, if_true, e1, Option.bind_some, nI_clamp (show k < 2 ^ 31 by omega)]
    rw [if_pos (by decide)]
    exact e2
theorem cbegan_loop {w : Wt} {h : pH} {cn : Nat} {sb sp : Nat → Nat} (hw : wok w) (hF : cF0 w h) (hsh : ∀ j, j < 4 → h.1 10 j = sI (sh w j)) (hs : Sc cn sb sp h) {N : Nat} (hN : 1000 ≤ N) : ∀ (d n v : Nat) (hv : pH), v + d = np w → d < n → Kq (fun a _ => a = 27) h hv →
    ∃ h', fX8_began_L8 N n hv (nI (bgb w cn sb sp v)) (nI v) = some (nI (bgb w cn sb sp (np w)), h') ∧ Kq (fun a _ => a = 27) h h' := by
  have w1 := hw.1
  have w2 := hw.2.1
  intro d
  induction d with
  | zero =>
    intro n v hv h1 hn hkp
    obtain ⟨n, rfl⟩ : ∃ m, n = m + 1 := ⟨n - 1, by omega⟩
    obtain rfl : v = np w := by omega
    have h93 : hv.1 9 3 = nI (np w) := by rw [hkp _ _ (by omega)]; exact hF.1
    refine ⟨hv, ?_, hkp⟩
    show fX8_began_B8 N (fX8_began_L8 N n) hv _ _ = _
    simp only [fX8_began_B8, h93]
    rw [if_pos (Int32.le_refl _)]
  | succ d ih =>
    intro n v hv h1 hn hkp
    obtain ⟨n, rfl⟩ : ∃ m, n = m + 1 := ⟨n - 1, by omega⟩
    have h93 : hv.1 9 3 = nI (np w) := by rw [hkp _ _ (by omega)]; exact hF.1
    have hF1 : cF0 (wBg w v) hv := (hF.kq (hkp.mono (fun a b z => by unfold SR; omega)) w2).bg v
    have hs1 : Sc cn sb sp hv := by
      obtain ⟨s1, s2, s3⟩ := hs
      exact ⟨by rw [hkp _ _ (by omega)]; exact s1, s2, fun k hk => by rw [hkp _ _ (by omega), hkp _ _ (by omega)]; exact s3 k hk⟩
    obtain ⟨h2, e2, k2⟩ := seenAs_eq (wBg_ok hw (p := v) (by omega)) hF1 hs1 hN (r := 10) (Or.inl rfl) (fun j hj => by rw [hkp _ _ (by omega)]; exact hsh j hj)
    have eg : gI (wBg w v) (g0 (wBg w v)) = nI v := by
      show (if np w = 0 then -1 else nI (if np w = 0 then 0 else v % np w)) = nI v
      rw [if_neg (by omega), if_neg (by omega), Nat.mod_eq_of_lt (by omega)]
    rw [eg] at e2
    obtain ⟨h3, e3, k3⟩ := ih n (v + 1) h2 (by omega) (by omega) (hkp.tr k2)
    refine ⟨h3, ?_, k3⟩
    rw [← e3]
    show fX8_began_B8 N (fX8_began_L8 N n) hv _ _ = _
    simp (disch := omega) only [fX8_began_B8, fX8_began_b40, h93, e2, Option.bind_some, sh_bit, b2i, nI_1]
    rw [if_neg (by rw [nI_leI (by omega) (by omega)]; omega)]
    rw [show bgb w cn sb sp (v + 1) = bgb w cn sb sp v ||| (if agr (wBg w v) sb sp cn then 2 ^ v else 0) from rfl]
    cases c : agr (wBg w v) sb sp cn
    · simp only [if_true, Bool.false_eq_true, if_false, Nat.or_zero]
    · simp only [Bool.true_eq_false, if_true, if_false]
      rw [or_nI]
theorem c_began {σ : St} {h : pH} (hS : Sok σ) (hC : Ci σ h) {N : Nat} (hN : 1000 ≤ N) : ∃ h', fX8_began N h = some (a_began σ, h') ∧ Co σ h h' := by
  have hw := wok_of hS
  have w1 := hw.1
  have w2 := hw.2.1
  obtain ⟨h1, e1, f1, k1⟩ := fresh_eq hS hC hN
  have hF := f1.2.2.1
  have hA := f1.1
  obtain ⟨h2, e2, k2⟩ := cbegan_loop hw hF.1 hA.2.2.2.2.1 (hA.sc hS) hN (np (wOf σ)) N 0 h1 (by omega) (by omega) (Kq.rf h1)
  refine ⟨h2, ?_, Co.fr (f1.kq w2 (k2.mono (fun a b z => by unfold SV; omega))) (k1.tr (k2.mono (fun a b z => by unfold SQ; omega)))⟩
  rw [fX8_began, e1]
  exact e2
theorem c_ask {σ : St} {h : pH} (hC : Ci σ h) (N : Nat) : ∃ h', fX8_ask N h = some (0, h') ∧ Co σ h h' := ⟨h, rfl, Co.rf hC⟩
