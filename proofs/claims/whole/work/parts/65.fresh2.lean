/-! ===== the class: crossers, crossings, gaps anew ===== -/
theorem ct1_eq {σ : St} {h : pH} (hS : Sok σ) (hA : Ac σ h) {N : Nat} (hN : 1000 ≤ N) {k : Nat} (hk : k < nk (wOf σ)) :
    ∃ h', fX1_take N h (16 + k) 4 (nI (k * 5)) = some ((), h') ∧ Kq (fun a _ => a = 16 + k) h h' ∧ h'.1 (16 + k) 0 = nI (kd (wOf σ) k) ∧ h'.1 (16 + k) 1 = nI (wg (wOf σ) k) ∧ h'.1 (16 + k) 2 = nI (hl (hvy (wOf σ) k)) ∧ h'.1 (16 + k) 3 = nI (en (wOf σ) k) ∧ h'.1 (16 + k) 4 = nI (lp (wOf σ) k) := by
  have w2 := (wok_of hS).2.1
  have v := (wok_of hS).2.2.1 k hk
  obtain ⟨r1, r2, r3, r4, r5, r6, r7⟩ := r_crosser (k := k) (by omega)
  have i4 : isO 7 4 = true := by decide
  have hk' : k < if fC (t_l σ 1) (t_b σ 1) = t_l σ 1 ∧ (t_l σ 1 = 0 ∨ t_l σ 1 % 5 = 4) then (t_l σ 1 + 1) / 5 else 0 := hk
  split at hk'
  case isFalse => omega
  rename_i hc
  have ha := ffr_all (p := gC (t_b σ 1)) (d := t_l σ 1) (i := 0) (by simpa [fC] using hc.1)
  have a0 := ha (5 * k) (by omega) (by omega)
  have a1 := ha (5 * k + 1) (by omega) (by omega)
  have a2 := ha (5 * k + 2) (by omega) (by omega)
  have a3 := ha (5 * k + 3) (by omega) (by omega)
  rw [gC, show (5 * k) % 5 = 0 by omega] at a0
  rw [gC, show (5 * k + 1) % 5 = 1 by omega] at a1
  rw [gC, show (5 * k + 2) % 5 = 2 by omega] at a2
  rw [gC, show (5 * k + 3) % 5 = 3 by omega] at a3
  have t0 : ∀ h, Ac σ h → fX7_at N h 4 (nI (k * 5)) = some (t_b σ 1 (5 * k), h) := fun h hA => by
    rw [Nat.mul_comm]; exact at_t hS hA N (t := 1) (by omega) (by omega)
  have t1 : ∀ h, Ac σ h → fX7_at N h 4 (nI (k * 5 + 1)) = some (t_b σ 1 (5 * k + 1), h) := fun h hA => by
    rw [Nat.mul_comm]; exact at_t hS hA N (t := 1) (by omega) (by omega)
  have t2 : ∀ h, Ac σ h → fX7_at N h 4 (nI (k * 5 + 2)) = some (t_b σ 1 (5 * k + 2), h) := fun h hA => by
    rw [Nat.mul_comm]; exact at_t hS hA N (t := 1) (by omega) (by omega)
  have t3 : ∀ h, Ac σ h → fX7_at N h 4 (nI (k * 5 + 3)) = some (t_b σ 1 (5 * k + 3), h) := fun h hA => by
    rw [Nat.mul_comm]; exact at_t hS hA N (t := 1) (by omega) (by omega)
  have p0 : plc (t_b σ 1 (5 * k)) (stL 1) 0 = nI (kd (wOf σ) k) := by rw [pl_k, if_pos a0]; rfl
  have p1 : 1 + plc (t_b σ 1 (5 * k + 1)) (stL 2) 0 = nI (wg (wOf σ) k) := by
    rw [pl_w, if_pos a1, show (1 : Int32) = nI 1 from rfl, nI_add]
    congr 1
    have := v.2.1
    have e : wg (wOf σ) k = vk 1 (t_b σ 1 (5 * k + 1)) := rfl
    omega
  have p2 : plc (t_b σ 1 (5 * k + 2)) (stL 3) 0 = nI (en (wOf σ) k) := by rw [pl_e, if_pos a2]; rfl
  have p3 : plc (t_b σ 1 (5 * k + 3)) (stL 4) 0 = nI (lp (wOf σ) k) := by rw [pl_l, if_pos a3]; rfl
  have kq : ∀ {h h' : pH}, Kq (fun a _ => a = 16 + k) h h' → Ac σ h → Ac σ h' := fun q hA => hA.kq (q.mono (fun a b z => by unfold SQ; omega))
  have b49 : ∀ (h1 : pH) (l : Int32), Kq (fun a _ => a = 16 + k) h h1 → fX1_take_b49 N h1 (16 + k) 4 (nI (k * 5)) l (16 + k) = some ((), pw (pw (pw h1 (16 + k) 2 l) (16 + k) 3 (nI (en (wOf σ) k))) (16 + k) 4 (nI (lp (wOf σ) k))) := by
    intro h1 l k1
    have k2 : Kq (fun a _ => a = 16 + k) h (pw h1 (16 + k) 2 l) := k1.pw rfl
    have k3 : Kq (fun a _ => a = 16 + k) h (pw (pw h1 (16 + k) 2 l) (16 + k) 3 (nI (en (wOf σ) k))) := k2.pw rfl
    simp only [fX1_take_b49, r4, r5, r6, i4, if_true, nI_add_lit]
    rw [t2 _ (kq k2 hA)]
    simp only [Option.bind_some]
    rw [place_eq hN _ _ (by decide), p2]
    simp only [Option.bind_some]
    rw [t3 _ (kq k3 hA)]
    simp only [Option.bind_some]
    rw [place_eq hN _ _ (by decide), p3]
    rfl
  have k1 : Kq (fun a _ => a = 16 + k) h (pw h (16 + k) 0 (nI (kd (wOf σ) k))) := (Kq.rf h).pw rfl
  have k2 : Kq (fun a _ => a = 16 + k) h (pw (pw h (16 + k) 0 (nI (kd (wOf σ) k))) (16 + k) 1 (nI (wg (wOf σ) k))) := k1.pw rfl
  have main : fX1_take N h (16 + k) 4 (nI (k * 5)) = some ((), pw (pw (pw (pw (pw h (16 + k) 0 (nI (kd (wOf σ) k))) (16 + k) 1 (nI (wg (wOf σ) k))) (16 + k) 2 (nI (hl (hvy (wOf σ) k)))) (16 + k) 3 (nI (en (wOf σ) k))) (16 + k) 4 (nI (lp (wOf σ) k))) := by
    simp only [fX1_take, r1, r2, r3, i4, if_true, nI_add_lit]
    rw [t0 _ hA]
    simp only [Option.bind_some]
    rw [place_eq hN _ _ (by decide), p0]
    simp only [Option.bind_some]
    rw [t1 _ (kq k1 hA)]
    simp only [Option.bind_some]
    rw [place_eq hN _ _ (by decide)]
    simp only [Option.bind_some, p1]
    rw [b49 _ 0 k2, b49 _ 1 k2]
    simp only [pw_at, and_self, if_true]
    unfold hvy
    by_cases c : 6 ≤ wg (wOf σ) k
    · rw [if_neg (by rw [show (6 : Int32) = nI 6 from rfl, nI_ltI (by omega) (by omega)]; omega), decide_eq_true c]; rfl
    · rw [if_pos (by rw [show (6 : Int32) = nI 6 from rfl, nI_ltI (by omega) (by omega)]; omega), decide_eq_false c]; rfl
  refine ⟨_, main, ((k2.pw rfl).pw rfl).pw rfl, ?_, ?_, ?_, ?_, ?_⟩ <;> simp [pw_at]
def crOk (w : Wt) (i : Nat) (h : pH) : Prop := ∀ k, k < i → h.1 (16 + k) 0 = nI (kd w k) ∧ h.1 (16 + k) 1 = nI (wg w k) ∧ h.1 (16 + k) 2 = nI (hl (hvy w k)) ∧ h.1 (16 + k) 3 = nI (en w k) ∧ h.1 (16 + k) 4 = nI (lp w k)
theorem ct_loop {σ : St} (hS : Sok σ) {N : Nat} (hN : 1000 ≤ N) : ∀ (d n i : Nat) (h : pH), i + d = nk (wOf σ) → d < n → Ac σ h → h.1 14 1 = nI (nk (wOf σ)) → crOk (wOf σ) i h →
    ∃ h', fX2_take_L16 N n h 4 (nI i) = some ((), h') ∧ Kq (fun a _ => 16 ≤ a ∧ a ≤ 23) h h' ∧ crOk (wOf σ) (nk (wOf σ)) h' := by
  have w2 := (wok_of hS).2.1
  intro d
  induction d with
  | zero =>
    intro n i h hi hn hA h14 hR
    obtain ⟨n, rfl⟩ : ∃ m, n = m + 1 := ⟨n - 1, by omega⟩
    obtain rfl : i = nk (wOf σ) := by omega
    refine ⟨h, ?_, Kq.rf h, hR⟩
    show fX2_take_B16 N (fX2_take_L16 N n) h _ _ = _
    simp only [fX2_take_B16, h14]
    rw [if_pos (Int32.le_refl _)]
  | succ d ih =>
    intro n i h hi hn hA h14 hR
    obtain ⟨n, rfl⟩ : ∃ m, n = m + 1 := ⟨n - 1, by omega⟩
    obtain ⟨r1, r2, r3, r4, r5, r6, r7⟩ := r_crosser (k := i) (by omega)
    obtain ⟨h1, e1, k1, q1⟩ := ct1_eq hS hA hN (k := i) (by omega)
    have k1' : Kq (fun a _ => 16 ≤ a ∧ a ≤ 23) h h1 := k1.mono (fun a b z => by omega)
    obtain ⟨h2, e2, k2, q2⟩ := ih n (i + 1) h1 (by omega) (by omega) (hA.kq (k1'.mono (fun a b z => by unfold SQ; omega))) (by rw [k1' _ _ (by omega)]; exact h14) (fun k hk => by
      by_cases c : k = i
      · rw [c]; exact q1
      · rw [k1 _ _ (by omega), k1 _ _ (by omega), k1 _ _ (by omega), k1 _ _ (by omega), k1 _ _ (by omega)]; exact hR k (by omega))
    refine ⟨h2, ?_, k1'.tr k2, q2⟩
    rw [← e2]
    show fX2_take_B16 N (fX2_take_L16 N n) h _ _ = _
    simp (disch := omega) only [fX2_take_B16, h14, ix_nI, nI_clamp, r7, r1, if_true, nI_mul_lit, nI_1]
    rw [if_neg (by rw [nI_leI (by omega) (by omega)]; omega), e1]
    rfl
theorem ct_eq {σ : St} {h : pH} (hS : Sok σ) (hA : Ac σ h) {N : Nat} (hN : 1000 ≤ N) :
    ∃ h', fX2_take N h 4 (nI (lwf σ 1)) = some ((), h') ∧ Kq (fun a b => (a = 14 ∧ b = 1) ∨ (16 ≤ a ∧ a ≤ 23)) h h' ∧ h'.1 14 1 = nI (nk (wOf σ)) ∧ crOk (wOf σ) (nk (wOf σ)) h' := by
  have w2 := (wok_of hS).2.1
  have hl := hS.1 1 (by omega)
  have hl2 := lim_le 1
  have hlw : lwf σ 1 ≤ t_l σ 1 := by unfold lwf; rw [if_neg (by omega), if_pos rfl]; split <;> omega
  have hnk : (lwf σ 1 + 1) / 5 = nk (wOf σ) := by
    show _ = if fC (t_l σ 1) (t_b σ 1) = t_l σ 1 ∧ (t_l σ 1 = 0 ∨ t_l σ 1 % 5 = 4) then (t_l σ 1 + 1) / 5 else 0
    unfold lwf
    rw [if_neg (by omega), if_pos rfl]
    split <;> rfl
  have k1 : Kq (fun a b => (a = 14 ∧ b = 1) ∨ (16 ≤ a ∧ a ≤ 23)) h (pw h 14 1 (nI (nk (wOf σ)))) := (Kq.rf h).pw (by omega)
  obtain ⟨h', e, k, q⟩ := ct_loop hS hN (nk (wOf σ)) N 0 (pw h 14 1 (nI (nk (wOf σ)))) (by omega) (by omega) (hA.kq (k1.mono (fun a b z => by unfold SQ; omega))) (by simp only [pw_at, Nat.reduceEqDiff, Nat.reduceAdd, Nat.reduceMul, Nat.reduceSub, Nat.reduceLeDiff, reduceIte, and_true, true_and, and_false, false_and, and_self, if_true, if_false, Bool.false_eq_true, not_true_eq_false, not_false_eq_true]) (fun k hk => absurd hk (by omega))
  refine ⟨h', ?_, k1.tr (k.mono (fun a b z => by omega)), by rw [k _ _ (by omega)]; simp only [pw_at, Nat.reduceEqDiff, Nat.reduceAdd, Nat.reduceMul, Nat.reduceSub, Nat.reduceLeDiff, reduceIte, and_true, true_and, and_false, false_and, and_self, if_true, if_false, Bool.false_eq_true, not_true_eq_false, not_false_eq_true], q⟩
  rw [fX2_take, nI_1, show nI (lwf σ 1 + 1) / 5 = nI ((lwf σ 1 + 1) / 5) from pk_div (d := 5) (by omega) (by decide) (by decide), hnk, show (8 : Int32) = nI 8 from rfl, min_eq N h _ _ (by omega) (by omega), Nat.min_eq_left w2]
  exact e
theorem xt_loop {σ : St} (hS : Sok σ) {N : Nat} (hN : 1000 ≤ N) : ∀ (d n i : Nat) (h : pH), i + d = nc (wOf σ) → d < n → Ac σ h → h.1 24 1 = nI (nc (wOf σ)) → (∀ j, j < i → h.1 25 j = nI (wh (wOf σ) j)) →
    ∃ h', fX3_take_L12 N n h 5 (nI i) = some ((), h') ∧ Kq (fun a _ => a = 25) h h' ∧ ∀ j, j < nc (wOf σ) → h'.1 25 j = nI (wh (wOf σ) j) := by
  have w4 := (wok_of hS).2.2.2.1
  intro d
  induction d with
  | zero =>
    intro n i h hi hn hA h24 hR
    obtain ⟨n, rfl⟩ : ∃ m, n = m + 1 := ⟨n - 1, by omega⟩
    obtain rfl : i = nc (wOf σ) := by omega
    refine ⟨h, ?_, Kq.rf h, hR⟩
    show fX3_take_B12 N (fX3_take_L12 N n) h _ _ = _
    simp only [fX3_take_B12, h24]
    rw [if_pos (Int32.le_refl _)]
  | succ d ih =>
    intro n i h hi hn hA h24 hR
    obtain ⟨n, rfl⟩ : ∃ m, n = m + 1 := ⟨n - 1, by omega⟩
    have hi' : i < if fX (t_l σ 2) (t_b σ 2) = t_l σ 2 then t_l σ 2 else 0 := show i < nc (wOf σ) by omega
    split at hi'
    case isFalse => omega
    rename_i hc
    have ga := ffr_all (p := gX (t_b σ 2)) (d := t_l σ 2) (i := 0) (by simpa [fX] using hc) i (by omega) (by omega)
    have ga : 97 ≤ t_b σ 2 i ∧ t_b σ 2 i ≤ 104 := by simpa [gX] using ga
    have ep : plc (t_b σ 2 i) (stL 6) 0 = nI (wh (wOf σ) i) := by rw [pl_6, if_pos ga]; rfl
    have k1 : Kq (fun a _ => a = 25) h (pw h 25 i (nI (wh (wOf σ) i))) := (Kq.rf h).pw rfl
    obtain ⟨h2, e2, k2, q2⟩ := ih n (i + 1) (pw h 25 i (nI (wh (wOf σ) i))) (by omega) (by omega) (hA.kq (k1.mono (fun a b z => by unfold SQ; omega))) (by rw [k1 _ _ (by omega)]; exact h24) (fun j hj => by
      simp only [pw_at, Nat.reduceEqDiff, Nat.reduceAdd, Nat.reduceMul, Nat.reduceSub, Nat.reduceLeDiff, reduceIte, and_true, true_and, and_false, false_and, and_self, if_true, if_false, Bool.false_eq_true, not_true_eq_false, not_false_eq_true]
      by_cases c : j = i
      · rw [if_pos c, c]
      · rw [if_neg c]; exact hR j (by omega))
    refine ⟨h2, ?_, k1.tr k2, q2⟩
    rw [← e2]
    have ea := at_t hS hA N (t := 2) (by omega) hi'
    show fX3_take_B12 N (fX3_take_L12 N n) h _ _ = _
    simp only [fX3_take_B12, h24, show isO 7 5 = true from by decide, if_true]
    rw [if_neg (by rw [nI_leI (by omega) (by omega)]; omega), show fX7_at N h 5 (nI i) = _ from ea]
    simp only [Option.bind_some]
    rw [place_eq hN _ _ (by decide), ep]
    simp (disch := omega) only [Option.bind_some, ix_nI, if_true, nI_clamp, nI_1]
theorem xt_eq {σ : St} {h : pH} (hS : Sok σ) (hA : Ac σ h) {N : Nat} (hN : 1000 ≤ N) :
    ∃ h', fX3_take N h 5 (nI (nc (wOf σ))) = some ((), h') ∧ Kq (fun a b => (a = 24 ∧ b = 1) ∨ a = 25) h h' ∧ h'.1 24 1 = nI (nc (wOf σ)) ∧ ∀ j, j < nc (wOf σ) → h'.1 25 j = nI (wh (wOf σ) j) := by
  have w4 := (wok_of hS).2.2.2.1
  have k1 : Kq (fun a b => (a = 24 ∧ b = 1) ∨ a = 25) h (pw h 24 1 (nI (nc (wOf σ)))) := (Kq.rf h).pw (by omega)
  obtain ⟨h', e, k, q⟩ := xt_loop hS hN (nc (wOf σ)) N 0 (pw h 24 1 (nI (nc (wOf σ)))) (by omega) (by omega) (hA.kq (k1.mono (fun a b z => by unfold SQ; omega))) (by simp only [pw_at, Nat.reduceEqDiff, Nat.reduceAdd, Nat.reduceMul, Nat.reduceSub, Nat.reduceLeDiff, reduceIte, and_true, true_and, and_false, false_and, and_self, if_true, if_false, Bool.false_eq_true, not_true_eq_false, not_false_eq_true]) (fun k hk => absurd hk (by omega))
  refine ⟨h', ?_, k1.tr (k.mono (fun a b z => by omega)), by rw [k _ _ (by omega)]; simp only [pw_at, Nat.reduceEqDiff, Nat.reduceAdd, Nat.reduceMul, Nat.reduceSub, Nat.reduceLeDiff, reduceIte, and_true, true_and, and_false, false_and, and_self, if_true, if_false, Bool.false_eq_true, not_true_eq_false, not_false_eq_true], q⟩
  rw [fX3_take, show (24 : Int32) = nI 24 from rfl, min_eq N h _ _ (by omega) (by omega), Nat.min_eq_left w4]
  exact e
def SR (a _b : Nat) : Prop := a = 1 ∨ a = 10 ∨ 26 ≤ a
theorem cF0.kq {w : Wt} {h h' : pH} (k : Kq SR h h') (hF : cF0 w h) (hnk : nk w ≤ 8) : cF0 w h' := by
  obtain ⟨h1, h2, h3, h4, h5, h6, h7, h8⟩ := hF
  have e : ∀ a b, ¬ SR a b → h'.1 a b = h.1 a b := k
  unfold SR at e
  refine ⟨?_, ?_, ?_, ?_, ?_, ?_, ?_, ?_⟩
  · rw [e _ _ (by omega)]; exact h1
  · intro p hp; rw [e _ _ (by omega)]; exact h2 p hp
  · intro b g hg; rw [e _ _ (by omega), e _ _ (by omega)]; exact h3 b g hg
  · rw [e _ _ (by omega)]; exact h4
  · intro k hk; rw [e _ _ (by omega), e _ _ (by omega), e _ _ (by omega), e _ _ (by omega), e _ _ (by omega)]; exact h5 k hk
  · rw [e _ _ (by omega)]; exact h6
  · intro i hi; rw [e _ _ (by omega)]; exact h7 i hi
  · rw [e _ _ (by omega)]; exact h8
theorem G_ok (w : Wt) (i : Nat) : gok w (G w i) := Gm_ok w _ i
theorem follow_end (N : Nat) {w : Wt} {h : pH} (hw : wok w) (h24 : h.1 24 1 = nI (nc w)) (n r4 r5 : Nat) (x : Int32) : fX3_follow_L6 N (n + 1) h r4 r5 x (nI (nc w + 1)) = some ((), h) := by
  have w4 := hw.2.2.2.1
  show fX3_follow_B6 N (fX3_follow_L6 N n) h _ _ _ _ = _
  simp only [fX3_follow_B6, fX3_follow_b56, h24]
  rw [if_pos (by rw [nI_ltI (by omega) (by omega)]; omega)]
theorem follow_loop {w : Wt} (hw : wok w) (N : Nat) {r4 r5 : Nat} (hr4 : r4 = 10 ∨ r4 = 28) (hr5 : r5 = 26 ∨ r5 = 27) : ∀ (d n i : Nat) (h : pH), i + d = nc w → d + 1 < n → cF0 w h → (∀ j, j < 4 → h.1 r4 j = sI (sh w j)) → (∀ j, j < i → h.1 r5 j = gI w (G w j)) →
    ∃ h', fX3_follow_L6 N n h r4 r5 (gI w (G w i)) (nI i) = some ((), h') ∧ Kq (fun a _ => a = r5) h h' ∧ ∀ j, j ≤ nc w → h'.1 r5 j = gI w (G w j) := by
  have w4 := hw.2.2.2.1
  have w2 := hw.2.1
  have rr : aK r5 = 0 ∧ aN r5 = 25 := by rcases hr5 with rfl | rfl <;> decide
  intro d
  induction d with
  | zero =>
    intro n i h hi hn hF hsh hR
    obtain ⟨n, rfl⟩ : ∃ m, n = m + 2 := ⟨n - 2, by omega⟩
    obtain rfl : i = nc w := by omega
    have k1 : Kq (fun a _ => a = r5) h (pw h r5 (nc w) (gI w (G w (nc w)))) := (Kq.rf h).pw rfl
    refine ⟨_, ?_, k1, ?_⟩
    · have h24 : (pw h r5 (nc w) (gI w (G w (nc w)))).1 24 1 = nI (nc w) := by rw [k1 _ _ (by omega)]; exact hF.2.2.2.2.2.1
      have h14 : (pw h r5 (nc w) (gI w (G w (nc w)))).1 14 1 = nI (nk w) := by rw [k1 _ _ (by omega)]; exact hF.2.2.2.1
      have ew : fX3_whoAt N (pw h r5 (nc w) (gI w (G w (nc w)))) (nI (nc w)) = some (-1, pw h r5 (nc w) (gI w (G w (nc w)))) := by
        simp only [fX3_whoAt, fX3_whoAt_b24, h24, wi_ixm N _ (nI (nc w)) (nc w) (by omega), Option.bind_some, b2i]
        have : ix (nI (nc w)) (nc w) = false := by
          cases c : ix (nI (nc w)) (nc w)
          · rfl
          · have := ix_iff.mp c; rw [nI_toInt (by omega)] at this; omega
        rw [this, if_pos rfl]
      have ea : fX2_at N (pw h r5 (nc w) (gI w (G w (nc w)))) (-1) = some (0, pw h r5 (nc w) (gI w (G w (nc w)))) := by
        rw [at_eq hw h14]
        have : ix (-1) (nk w) = false := by
          cases c : ix (-1) (nk w)
          · rfl
          · have := (ix_iff.mp c).1
            exact absurd this (by decide)
        rw [this]; rfl
      have eb : ∀ x : Int32, fX0_gapBehind N (pw h r5 (nc w) (gI w (G w (nc w)))) 0 x r4 = some (x, pw h r5 (nc w) (gI w (G w (nc w)))) := fun x => by
        simp only [fX0_gapBehind, fX0_outcome, fX0_outcome_b24, if_true, Option.bind_some]
        rw [if_neg (by decide)]
      have unf : fX3_follow_L6 N (n + 2) h r4 r5 (gI w (G w (nc w))) (nI (nc w)) = fX3_follow_B6 N (fX3_follow_L6 N (n + 1)) h r4 r5 (gI w (G w (nc w))) (nI (nc w)) := rfl
      rw [unf]
      simp only [fX3_follow_B6, hF.2.2.2.2.2.1, rr.1, rr.2, if_true, true_and]
      rw [if_neg (by rw [nI_ltI (by omega) (by omega)]; omega), if_neg (by rw [show Int32.ofNat 25 = nI 25 from rfl, nI_leI (by omega) (by omega)]; omega), if_pos (ix_nI (by omega) (by omega)), nI_clamp (by omega), ew]
      simp only [Option.bind_some, ea, eb, nI_1]
      exact follow_end N hw h24 n r4 r5 _
    · intro j hj
      simp only [pw_at, true_and]
      by_cases c : j = nc w
      · rw [if_pos c, c]
      · rw [if_neg c]; exact hR j (by omega)
  | succ d ih =>
    intro n i h hi hn hF hsh hR
    obtain ⟨n, rfl⟩ : ∃ m, n = m + 1 := ⟨n - 1, by omega⟩
    have hwi := hw.2.2.2.2.1 i (by omega)
    have k1 : Kq (fun a _ => a = r5) h (pw h r5 i (gI w (G w i))) := (Kq.rf h).pw rfl
    have hF1 : cF0 w (pw h r5 i (gI w (G w i))) := hF.kq (k1.mono (fun a b z => by unfold SR; omega)) w2
    have hs1 : ∀ j, j < 4 → (pw h r5 i (gI w (G w i))).1 r4 j = sI (sh w j) := fun j hj => by rw [k1 _ _ (by omega)]; exact hsh j hj
    have eG : G w (i + 1) = mv w (wh w i) (G w i) := by simp [G, Gm]
    obtain ⟨h', e, k, q⟩ := ih n (i + 1) (pw h r5 i (gI w (G w i))) (by omega) (by omega) hF1 hs1 (fun j hj => by
      simp only [pw_at, true_and]
      by_cases c : j = i
      · rw [if_pos c, c]
      · rw [if_neg c]; exact hR j (by omega))
    refine ⟨h', ?_, k1.tr k, q⟩
    rw [← e, eG]
    have unf : fX3_follow_L6 N (n + 1) h r4 r5 (gI w (G w i)) (nI i) = fX3_follow_B6 N (fX3_follow_L6 N n) h r4 r5 (gI w (G w i)) (nI i) := rfl
    rw [unf]
    simp only [fX3_follow_B6, hF.2.2.2.2.2.1, rr.1, rr.2, if_true, true_and]
    rw [if_neg (by rw [nI_ltI (by omega) (by omega)]; omega), if_neg (by rw [show Int32.ofNat 25 = nI 25 from rfl, nI_leI (by omega) (by omega)]; omega), if_pos (ix_nI (by omega) (by omega)), nI_clamp (by omega), who_eq hw hF1 N (by omega)]
    simp only [Option.bind_some]
    rw [at_n hw hF1.2.2.2.1 N (by omega)]
    simp only [Option.bind_some]
    rw [behind_I hw hF1 N hr4 hs1 (G_ok w i)]
    simp only [Option.bind_some, nI_1]
theorem follow_eq {w : Wt} {h : pH} (hw : wok w) (hF : cF0 w h) {N : Nat} (hN : 1000 ≤ N) {r4 r5 : Nat} (hr4 : r4 = 10 ∨ r4 = 28) (hr5 : r5 = 26 ∨ r5 = 27) (hsh : ∀ j, j < 4 → h.1 r4 j = sI (sh w j)) :
    ∃ h', fX3_follow N h (gI w (g0 w)) r4 r5 = some ((), h') ∧ Kq (fun a _ => a = r5) h h' ∧ ∀ j, j ≤ nc w → h'.1 r5 j = gI w (G w j) := by
  have w4 := hw.2.2.2.1
  exact follow_loop hw N hr4 hr5 (nc w) N 0 h (by omega) (by omega) hF hsh (fun j hj => absurd hj (by omega))
def cF (w : Wt) (h : pH) : Prop := cF0 w h ∧ ∀ i, i ≤ nc w → h.1 26 i = gI w (G w i)
/-- the plan, once made -/
def Pl (w : Wt) (h : pH) : Prop := h.1 30 5 = nI (nk w) ∧ h.1 30 6 = nI (cr w (oR w) (g0 w)) ∧ h.1 30 7 = nI (tr w (oR w) (g0 w)) ∧ ∀ k, k < nk w → h.1 34 k = nI ((oR w).getD k 0)
def Cv (σ : St) (h : pH) : Prop := h.1 1 14 = 0 → cF (wOf σ) h ∧ (h.1 1 15 = 0 → Pl (wOf σ) h)
def Ci (σ : St) (h : pH) : Prop := Ac σ h ∧ Cv σ h
def Fr (σ : St) (h : pH) : Prop := Ac σ h ∧ h.1 1 14 = 0 ∧ cF (wOf σ) h ∧ (h.1 1 15 = 0 → Pl (wOf σ) h)
theorem Fr.ci {σ : St} {h : pH} (hf : Fr σ h) : Ci σ h := ⟨hf.1, fun _ => ⟨hf.2.2.1, hf.2.2.2⟩⟩
theorem fresh_eq {σ : St} {h : pH} (hS : Sok σ) (hC : Ci σ h) {N : Nat} (hN : 1000 ≤ N) : ∃ h', fX8_freshen N h = some ((), h') ∧ Fr σ h' ∧ Kq SQ h h' := by
  have hw := wok_of hS
  have w2 := hw.2.1
  unfold fX8_freshen
  by_cases c : h.1 1 14 = 0
  · rw [if_pos c]
    exact ⟨h, rfl, ⟨hC.1, c, (hC.2 c).1, (hC.2 c).2⟩, Kq.rf h⟩
  · rw [if_neg c]
    have k0 : Kq SQ h (pw (pw h 1 14 0) 1 15 1) := ((Kq.rf h).pw (by unfold SQ; omega)).pw (by unfold SQ; omega)
    generalize hh0 : pw (pw h 1 14 0) 1 15 1 = h0 at k0
    have s14 : h0.1 1 14 = 0 := by rw [← hh0]; simp only [pw_at, Nat.reduceEqDiff, Nat.reduceAdd, Nat.reduceMul, Nat.reduceSub, Nat.reduceLeDiff, reduceIte, and_true, true_and, and_false, false_and, and_self, if_true, if_false, Bool.false_eq_true, not_true_eq_false, not_false_eq_true]
    have s15 : h0.1 1 15 = 1 := by rw [← hh0]; simp only [pw_at, Nat.reduceEqDiff, Nat.reduceAdd, Nat.reduceMul, Nat.reduceSub, Nat.reduceLeDiff, reduceIte, and_true, true_and, and_false, false_and, and_self, if_true, if_false, Bool.false_eq_true, not_true_eq_false, not_false_eq_true]
    have hA0 := hC.1.kq k0
    obtain ⟨h1, e1, k1, a1, b1, c1⟩ := bt_eq hS hA0 hN
    have k1' : Kq SQ h0 h1 := k1.mono (fun a b z => by unfold SQ; omega)
    have hA1 := hA0.kq k1'
    obtain ⟨h2, e2, k2, a2, b2⟩ := ct_eq hS hA1 hN
    have k2' : Kq SQ h1 h2 := k2.mono (fun a b z => by unfold SQ; omega)
    have hA2 := hA1.kq k2'
    obtain ⟨h3, e3, k3, a3, b3⟩ := xt_eq hS hA2 hN
    have k3' : Kq SQ h2 h3 := k3.mono (fun a b z => by unfold SQ; omega)
    have hA3 := hA2.kq k3'
    have hF : cF0 (wOf σ) h3 := by
      refine ⟨?_, ?_, ?_, ?_, ?_, a3, b3, hA3.2.2.1⟩
      · rw [k3 _ _ (by omega), k2 _ _ (by omega)]; exact a1
      · intro p hp; rw [k3 _ _ (by omega), k2 _ _ (by omega)]; exact b1 p hp
      · intro b g hg; rw [k3 _ _ (by omega), k3 _ _ (by omega), k2 _ _ (by omega), k2 _ _ (by omega)]; exact c1 b g hg
      · rw [k3 _ _ (by omega)]; exact a2
      · intro k hk; rw [k3 _ _ (by omega), k3 _ _ (by omega), k3 _ _ (by omega), k3 _ _ (by omega), k3 _ _ (by omega)]; exact b2 k hk
    have ef := first_eq hw hF.1 hA3.2.2.2.1 N
    obtain ⟨h4, e4, k4, q4⟩ := follow_eq hw hF hN (r4 := 10) (r5 := 26) (Or.inl rfl) (Or.inl rfl) hA3.2.2.2.2.1
    have k4' : Kq SQ h3 h4 := k4.mono (fun a b z => by unfold SQ; omega)
    refine ⟨h4, ?_, ⟨hA3.kq k4', ?_, ⟨hF.kq (k4.mono (fun a b z => by unfold SR; omega)) w2, q4⟩, ?_⟩, (((k0.tr k1').tr k2').tr k3').tr k4'⟩
    · simp only [cl0, cl1, cl2, ixc03, ixc13, ixc23, if_true, show aE 2 0 = 3 from rfl, show aE 2 1 = 4 from rfl, show aE 2 2 = 5 from rfl, hh0]
      rw [show fX8_lengthWithoutFault N h0 0 3 = _ from lwf_eq hS hA0 hN (t := 0) (by omega)]
      simp only [Option.bind_some]
      rw [show fX0_take N h0 3 (nI (lwf σ 0)) = _ from e1]
      simp only [Option.bind_some]
      rw [show fX8_lengthWithoutFault N h1 1 4 = _ from lwf_eq hS hA1 hN (t := 1) (by omega)]
      simp only [Option.bind_some, e2]
      rw [show fX8_lengthWithoutFault N h2 2 5 = _ from lwf_eq hS hA2 hN (t := 2) (by omega)]
      simp only [Option.bind_some]
      rw [show fX3_take N h2 5 (nI (lwf σ 2)) = _ from e3]
      simp only [Option.bind_some, ef, e4]
    · rw [k4 _ _ (by omega), k3 _ _ (by omega), k2 _ _ (by omega), k1 _ _ (by omega)]; exact s14
    · intro z
      rw [k4 _ _ (by omega), k3 _ _ (by omega), k2 _ _ (by omega), k1 _ _ (by omega), s15] at z
      exact absurd z (by decide)
