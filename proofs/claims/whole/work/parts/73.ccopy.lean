/-! ===== the class: copy, write, read ===== -/
theorem c_copy {σ : St} {h : pH} (hS : Sok σ) (hC : Ci σ h) (N : Nat) (x i y j n : Int32) : ∃ h', fX8_copy N h x i y j n = some (a_copy σ x i y j n, h') ∧ Ci (n_copy σ x i y j n) h' ∧ Kq SH h h' := by
  have hA := hC.1
  simp only [fX8_copy, fX8_copy_b24, fX8_copy_b43, fX8_copy_b91, sheetAt_eq, Option.bind_some, fX8_finding, a_copy, n_copy]
  cases c : ix x 4
  · exact ⟨h, by simp, by simpa using hC, Kq.rf h⟩
  · obtain ⟨s, hs, rfl⟩ := ix_of c (by decide)
    simp only [if_true, nI_clamp (show s < 2 ^ 31 by omega), true_and]
    rw [if_neg (show ¬ 41 + s = 0 by omega)]
    cases c2 : ix y 4
    · exact ⟨h, by simp, by simpa using hC, Kq.rf h⟩
    · obtain ⟨t, ht, rfl⟩ := ix_of c2 (by decide)
      obtain ⟨r1, r2, r3, r4, r5, r6, r7, r8⟩ := r_sheet hs
      obtain ⟨u1, u2, u3, u4, u5, u6, u7, u8⟩ := r_sheet ht
      have q := hS.2.2.2.2.1 s hs
      have p := hS.2.2.2.2.1 t ht
      obtain ⟨q1, q2, q3⟩ := hA.2.2.2.2.2.1 s hs
      obtain ⟨p1, p2, p3⟩ := hA.2.2.2.2.2.1 t ht
      simp only [if_true, nI_clamp (show t < 2 ^ 31 by omega), r1, r2, r3, r5, r6, r7, u1, u2, u3, u5, u6, u7, lost_eq hA hs, lost_eq hA ht, true_and]
      rw [if_neg (show ¬ 41 + t = 0 by omega)]
      unfold cpF
      by_cases c3 : 0 ≤ t_fm σ s
      · by_cases c4 : 0 ≤ t_fm σ t
        · simp only [c3, c4, if_true, and_self, q2 c3, p2 c4]
          by_cases c5 : t_fm σ s = t_fm σ t
          · rw [if_pos (by rw [c5]), if_pos c5]
            simp only [items_eq N hs q3 q.2.2, items_eq N ht p3 p.2.2, Option.bind_some]
            by_cases c6 : cpk σ s t i j n
            · obtain ⟨d1, d2, d3, d4, d5⟩ := c6
              obtain ⟨a, ha, rfl⟩ := nI_of (x := i) (Int32.not_lt.mpr ((le0 i).mpr d1))
              obtain ⟨b, hb, rfl⟩ := nI_of (x := j) (Int32.not_lt.mpr ((le0 j).mpr d2))
              obtain ⟨m, hm, rfl⟩ := nI_of (x := n) (Int32.not_lt.mpr ((le0 n).mpr d3))
              have c6 : cpk σ s t (nI a) (nI b) (nI m) := ⟨d1, d2, d3, d4, d5⟩
              have A1 : 0 ≤ (nI a).toInt ∧ 0 ≤ (nI m).toInt ∧ (nI a).toInt + (nI m).toInt ≤ t_sz σ s := ⟨d1, d3, d4⟩
              have A2 : 0 ≤ (nI b).toInt ∧ 0 ≤ (nI m).toInt ∧ (nI b).toInt + (nI m).toInt ≤ t_sz σ t := ⟨d2, d3, d5⟩
              rw [nI_toInt ha, nI_toInt hm] at d4
              rw [nI_toInt hb, nI_toInt hm] at d5
              rw [if_pos A1, if_pos A2, if_neg (by decide), if_neg (by decide), if_pos (by omega), if_pos (by omega), nI_clamp ha, nI_clamp hb, nI_clamp hm, if_pos ⟨nI_pos ha, nI_pos hb, nI_pos hm, by omega, by omega⟩]
              rw [if_pos c6, if_pos rfl, if_pos rfl]
              have k : Kq (SS t) h (pcI h (45 + s) (45 + t) a b m) := fun e f z => by
                rw [pcI_at, if_neg (fun w => z (by unfold SS; omega))]
              refine ⟨_, rfl, Ci.sht hS hC ht k ?_ ?_ ?_ ?_⟩
              · rw [pcI_at, if_neg (by omega)]; exact p1
              · intro z; rw [pcI_at, if_neg (by omega)]; exact p2 z
              · rw [pcI_at, if_neg (by omega)]; exact p3
              · intro e he
                rw [pcI_at, if_pos rfl]
                unfold cpI
                by_cases c7 : b ≤ e ∧ e < b + m
                · rw [if_pos c7, if_pos c7]
                  exact hA.2.2.2.2.2.2.1 s hs _ (by omega)
                · rw [if_neg c7, if_neg c7]
                  exact hA.2.2.2.2.2.2.1 t ht _ he
            · rw [if_neg c6]
              have fin : ∃ h', some ((-10 : Int32) - 2, pw h 1 13 2) = some (if 2 = 0 then 1 else fnd 2, h') ∧ Ci (if 2 = 0 then uSt σ t (t_fm σ t) (t_sz σ t) (cpI σ s t i.toNatClampNeg j.toNatClampNeg n.toNatClampNeg) else uLf σ (nI 2)) h' ∧ Kq SH h h' := ⟨_, rfl, hC.lf hS 2⟩
              unfold cpk at c6
              by_cases c7 : 0 ≤ i.toInt ∧ 0 ≤ n.toInt ∧ i.toInt + n.toInt ≤ t_sz σ s
              · rw [if_pos c7, if_neg (show ¬ ((1 : Int32) = 0) by decide), if_neg (show ¬ (0 ≤ j.toInt ∧ 0 ≤ n.toInt ∧ j.toInt + n.toInt ≤ t_sz σ t) by omega), if_pos rfl]
                exact fin
              · rw [if_neg c7, if_pos rfl]
                exact fin
          · rw [if_neg (by rw [sI_inj (by omega) (by omega) (by omega) (by omega)]; exact c5), if_neg c5]
            exact ⟨_, rfl, hC.lf hS 4⟩
        · simp only [c3, c4, if_true, if_false, and_false]
          exact ⟨_, rfl, hC.lf hS 1⟩
      · simp only [c3, if_false, false_and]
        exact ⟨_, rfl, hC.lf hS 1⟩
theorem cwrite_loop (N : Nat) {s m sz : Nat} {f : Int32} {g : Nat → Int32} (hs : s < 4) (hm : m ≤ sz) (hsz : sz ≤ 60) (hm2 : m ≤ 25) : ∀ (d n i : Nat) (h : pH), i + d = m → d < n → h.1 (41 + s) 2 = f → h.1 (41 + s) 3 = nI sz → (∀ j, j < m → h.1 26 j = g j) → (∀ j, j < i → h.1 (45 + s) j = cutV f (g j)) →
    ∃ h', fX8_write_L50 N n h (41 + s) (nI m) (nI i) = some (nI m, h') ∧ Kq (fun a b => a = 45 + s ∧ b < m) h h' ∧ ∀ j, j < m → h'.1 (45 + s) j = cutV f (g j) := by
  obtain ⟨r1, r2, r3, r4, r5, r6, r7, r8⟩ := r_sheet hs
  intro d
  induction d with
  | zero =>
    intro n i h hi hn h2 h3 hg hz
    obtain ⟨n, rfl⟩ : ∃ m, n = m + 1 := ⟨n - 1, by omega⟩
    obtain rfl : i = m := by omega
    refine ⟨h, ?_, Kq.rf h, hz⟩
    show fX8_write_B50 N (fX8_write_L50 N n) h _ _ _ = _
    simp only [fX8_write_B50]
    rw [if_pos (Int32.le_refl _)]
  | succ d ih =>
    intro n i h hi hn h2 h3 hg hz
    obtain ⟨n, rfl⟩ : ∃ m, n = m + 1 := ⟨n - 1, by omega⟩
    have k1 : Kq (fun a b => a = 45 + s ∧ b < m) h (pw h (45 + s) i (cutV f (g i))) := (Kq.rf h).pw (by omega)
    obtain ⟨h', e, k2, q⟩ := ih n (i + 1) (pw h (45 + s) i (cutV f (g i))) (by omega) (by omega) (by rw [k1 _ _ (by omega)]; exact h2) (by rw [k1 _ _ (by omega)]; exact h3) (fun j hj => by rw [k1 _ _ (by omega)]; exact hg j hj) (fun j hj => by
      simp only [pw_at, true_and]
      by_cases c : j = i
      · rw [if_pos c, c]
      · rw [if_neg c]; exact hz j (by omega))
    refine ⟨h', ?_, k1.tr k2, q⟩
    rw [← e]
    show fX8_write_B50 N (fX8_write_L50 N n) h _ _ _ = _
    simp only [fX8_write_B50, r1, if_true, nI_1]
    rw [if_neg (by rw [nI_leI (by omega) (by omega)]; omega), if_pos (ix_nI (by omega) (by omega)), nI_clamp (by omega), hg i (by omega), put_eq N hs h2 h3 hsz (by omega)]
    rfl
theorem c_write {σ : St} {h : pH} (hS : Sok σ) (hC : Ci σ h) {N : Nat} (hN : 1000 ≤ N) (x : Int32) : ∃ h', fX8_write N h x = some (a_write σ x, h') ∧ Ci (n_write σ x) h' ∧ Kq SH h h' := by
  have hA := hC.1
  have w4 := (wok_of hS).2.2.2.1
  simp only [fX8_write, sheetAt_eq, Option.bind_some, fX8_finding, a_write, n_write]
  cases c : ix x 4
  · exact ⟨h, by simp, by simpa using hC, Kq.rf h⟩
  · obtain ⟨s, hs, rfl⟩ := ix_of c (by decide)
    obtain ⟨r1, r2, r3, r4, r5, r6, r7, r8⟩ := r_sheet hs
    have q := hS.2.2.2.2.1 s hs
    simp only [if_true, nI_clamp (show s < 2 ^ 31 by omega), r2, r4, lost_eq hA hs]
    rw [if_neg (show ¬ 41 + s = 0 by omega)]
    by_cases c2 : 0 ≤ t_fm σ s
    · simp only [c2, if_true]
      obtain ⟨h1, e1, f1, k1⟩ := fresh_eq hS hC hN
      have hF := f1.2.2.1
      obtain ⟨q1, q2, q3⟩ := f1.1.2.2.2.2.2.1 s hs
      have hwr : wrN σ s ≤ t_sz σ s ∧ wrN σ s ≤ nc (wOf σ) + 1 := by unfold wrN; omega
      obtain ⟨h2, e2, k2, z2⟩ := cwrite_loop N (m := wrN σ s) (sz := t_sz σ s) (f := sI (t_fm σ s)) (g := fun j => gI (wOf σ) (G (wOf σ) j)) hs hwr.1 q.2.2 (by omega) (wrN σ s) N 0 h1 (by omega) (by omega) (q2 c2) q3 (fun j hj => hF.2 j (by omega)) (fun j hj => absurd hj (by omega))
      have k : Kq (SS s) h1 h2 := k2.mono (fun a b z => by unfold SS; omega)
      obtain ⟨v1, v2⟩ := Ci.sht (f := t_fm σ s) (n := t_sz σ s) (g := wrI σ s) hS f1.ci hs k (by rw [k2 _ _ (by omega)]; exact q1) (fun z => by rw [k2 _ _ (by omega)]; exact q2 z) (by rw [k2 _ _ (by omega)]; exact q3) (fun j hj => by
        unfold wrI
        by_cases c3 : j < wrN σ s
        · rw [if_pos c3]; exact z2 j c3
        · rw [if_neg c3, k2 _ _ (by omega)]; exact f1.1.2.2.2.2.2.2.1 s hs j hj)
      refine ⟨h2, ?_, v1, (k1.mono (fun a b z => by unfold SQ at z; unfold SH; omega)).tr v2⟩
      rw [e1]
      simp only [Option.bind_some, q3, hF.1.2.2.2.2.2.1, nI_1]
      rw [min_eq N h1 _ _ (by omega) (by omega)]
      exact e2
    · simp only [c2, if_false]
      exact ⟨_, rfl, hC.lf hS 1⟩
theorem cread_loop (N : Nat) {s : Nat} (hs : s < 4) : ∀ (d n m : Nat) (σ : St) (h : pH), 2 * (m + d) ≤ t_sz σ s + 1 → t_sz σ s ≤ 2 * (m + d) + 1 → d < n → Sok σ → Ci σ h →
    ∃ h', fX8_read_L28 N n h (41 + s) (nI m) = some (nI (rd σ s d m).2, h') ∧ Ci (rd σ s d m).1 h' ∧ Kq SH h h' := by
  obtain ⟨r1, r2, r3, r4, r5, r6, r7, r8⟩ := r_sheet hs
  intro d
  induction d with
  | zero =>
    intro n m σ h h1 h2 hn hS hC
    obtain ⟨n, rfl⟩ : ∃ m, n = m + 1 := ⟨n - 1, by omega⟩
    have q := hS.2.2.2.2.1 s hs
    obtain ⟨q1, q2, q3⟩ := hC.1.2.2.2.2.2.1 s hs
    refine ⟨h, ?_, hC, Kq.rf h⟩
    show fX8_read_B28 N (fX8_read_L28 N n) h _ _ = _
    simp only [fX8_read_B28, fX8_read_b101, r4, if_true, q3, lit_mul_nI, nI_1]
    rw [if_pos (by rw [nI_leI (by omega) (by omega)]; omega)]
    rfl
  | succ d ih =>
    intro n m σ h h1 h2 hn hS hC
    obtain ⟨n, rfl⟩ : ∃ m, n = m + 1 := ⟨n - 1, by omega⟩
    have hA := hC.1
    have q := hS.2.2.2.2.1 s hs
    have hcn := hS.2.2.2.2.2.1
    obtain ⟨q1, q2, q3⟩ := hC.1.2.2.2.2.2.1 s hs
    have unf : fX8_read_L28 N (n + 1) h (41 + s) (nI m) = fX8_read_B28 N (fX8_read_L28 N n) h (41 + s) (nI m) := rfl
    rw [unf, show rd σ s (d + 1) m = (if 2 * m + 2 ≤ t_sz σ s ∧ 0 ≤ a_seen σ (t_it σ s (2 * m)) (t_it σ s (2 * m + 1)) then rd (n_seen σ (t_it σ s (2 * m)) (t_it σ s (2 * m + 1))) s d (m + 1) else (σ, m)) from rfl]
    simp only [fX8_read_B28, fX8_read_b101, r1, r4, if_true, q3, lit_mul_nI, nI_1]
    by_cases c : 2 * m + 2 ≤ t_sz σ s
    · rw [if_neg (by rw [nI_leI (by omega) (by omega)]; omega), full6_eq hS hA N]
      simp only [Option.bind_some, item_eq hS hA N hs (show 2 * m < t_sz σ s by omega), item_eq hS hA N hs (show 2 * m + 1 < t_sz σ s by omega), poss_eq]
      by_cases c2 : t_cn σ < 8
      · rw [if_pos (by rw [if_pos c2])]
        by_cases c3 : ix (t_it σ s (2 * m)) 25 = true ∧ ix (t_it σ s (2 * m + 1)) 19 = true
        · have ha : a_seen σ (t_it σ s (2 * m)) (t_it σ s (2 * m + 1)) = nI (t_cn σ + 1) := by unfold a_seen; rw [if_pos c3, if_neg (by omega)]
          have en : n_seen σ (t_it σ s (2 * m)) (t_it σ s (2 * m + 1)) = uSee σ (t_it σ s (2 * m)).toNatClampNeg (t_it σ s (2 * m + 1)).toNatClampNeg := by unfold n_seen; rw [if_pos ⟨c3.1, c3.2, by omega⟩]
          have n1 := n_seen_sz σ (t_it σ s (2 * m)) (t_it σ s (2 * m + 1))
          have hS2 := hS.see (t_it σ s (2 * m)) (t_it σ s (2 * m + 1))
          rw [if_neg (by rw [if_pos c3]; decide), add6_eq hS hA N c2, ha, if_pos ⟨c, by exact nI_pos' (by omega)⟩]
          simp only [Option.bind_some]
          rw [en] at n1 hS2 ⊢
          obtain ⟨n0, hn0, en0⟩ := ix_of c3.1 (by decide)
          obtain ⟨p0, hp0, ep0⟩ := ix_of c3.2 (by decide)
          rw [en0, ep0, nI_clamp (by omega), nI_clamp (by omega)] at n1 hS2 ⊢
          obtain ⟨z1, z2, z3⟩ := see_st (n := n0) (p := p0) hS hC
          obtain ⟨h', e', c', k'⟩ := ih n (m + 1) (uSee σ n0 p0) _ (by rw [n1.1]; omega) (by rw [n1.1]; omega) (by omega) hS2 z1
          exact ⟨h', e', c', z2.tr k'⟩
        · have ha : a_seen σ (t_it σ s (2 * m)) (t_it σ s (2 * m + 1)) = -2 := by unfold a_seen; rw [if_neg c3]
          rw [if_pos (by rw [if_neg c3]), ha, if_neg (fun z => absurd z.2 (by decide))]
          exact ⟨h, rfl, hC, Kq.rf h⟩
      · rw [if_neg (by rw [if_neg c2]; decide), if_neg]
        · exact ⟨h, rfl, hC, Kq.rf h⟩
        · intro z
          have z := z.2
          unfold a_seen at z
          split at z
          · rw [if_pos (by omega)] at z; exact absurd z (by decide)
          · exact absurd z (by decide)
    · rw [if_pos (by rw [nI_leI (by omega) (by omega)]; omega), if_neg (fun z => c z.1)]
      exact ⟨h, rfl, hC, Kq.rf h⟩
theorem c_read {σ : St} {h : pH} (hS : Sok σ) (hC : Ci σ h) {N : Nat} (hN : 1000 ≤ N) (x : Int32) : ∃ h', fX8_read N h x = some (a_read σ x, h') ∧ Ci (n_read σ x) h' ∧ Kq SH h h' := by
  have hA := hC.1
  simp only [fX8_read, sheetAt_eq, Option.bind_some, fX8_finding, a_read, n_read]
  cases c : ix x 4
  · exact ⟨h, by simp, by simpa using hC, Kq.rf h⟩
  · obtain ⟨s, hs, rfl⟩ := ix_of c (by decide)
    obtain ⟨r1, r2, r3, r4, r5, r6, r7, r8⟩ := r_sheet hs
    have q := hS.2.2.2.2.1 s hs
    simp only [if_true, nI_clamp (show s < 2 ^ 31 by omega), r2, lost_eq hA hs]
    rw [if_neg (show ¬ 41 + s = 0 by omega)]
    by_cases c2 : 0 ≤ t_fm σ s
    · simp only [c2, if_true]
      exact cread_loop N hs ((t_sz σ s + 1) / 2) N 0 σ h (by omega) (by omega) (by omega) hS hC
    · simp only [c2, if_false]
      exact ⟨_, rfl, hC.lf hS 1⟩
