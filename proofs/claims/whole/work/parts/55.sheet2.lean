/-! ===== copy, write, read: the reference ===== -/
abbrev cpk (σ : St) (s t : Nat) (i j n : Int32) : Prop := 0 ≤ i.toInt ∧ 0 ≤ j.toInt ∧ 0 ≤ n.toInt ∧ i.toInt + n.toInt ≤ t_sz σ s ∧ j.toInt + n.toInt ≤ t_sz σ t
def cpF (σ : St) (s t : Nat) (i j n : Int32) : Nat := if 0 ≤ t_fm σ s ∧ 0 ≤ t_fm σ t then (if t_fm σ s = t_fm σ t then (if cpk σ s t i j n then 0 else 2) else 4) else 1
def cpI (σ : St) (s t i j n : Nat) (a : Nat) : Int32 := if j ≤ a ∧ a < j + n then t_it σ s (i + (a - j)) else t_it σ t a
theorem copy_in (N : Nat) {s i m t j : Nat} {g : Nat → Int32} (hs : s < 4) (hi : i + m ≤ 60) : ∀ (d n a : Nat) (h : pH), a + d = m → d < n → (∀ b, b < m → h.1 52 (60 * s + i + b) = g b) → (∀ b, b < a → h.1 53 b = g b) →
    ∃ h', fX9_copy_L120 N n h (nI s) (nI i) (nI t) (nI j) (nI m) (nI a) = fX9_copy_L157 N N h' (nI t) (nI j) (nI m) 0 ∧ Kp (fun a _ => a = 53) h h' ∧ ∀ b, b < m → h'.1 53 b = g b := by
  intro d
  induction d with
  | zero =>
    intro n a h ha hn h1 h2
    obtain ⟨n, rfl⟩ : ∃ m, n = m + 1 := ⟨n - 1, by omega⟩
    obtain rfl : a = m := by omega
    refine ⟨h, ?_, Kp.rf h, h2⟩
    show fX9_copy_B120 N (fX9_copy_L120 N n) h _ _ _ _ _ _ = _
    simp only [fX9_copy_B120]
    rw [if_pos (Int32.le_refl _)]
  | succ d ih =>
    intro n a h ha hn h1 h2
    obtain ⟨n, rfl⟩ : ∃ m, n = m + 1 := ⟨n - 1, by omega⟩
    obtain ⟨h', e, k, q⟩ := ih n (a + 1) (pw h 53 a (g a)) (by omega) (by omega) (fun b hb => by simp only [pw_at, Nat.reduceEqDiff, Nat.reduceAdd, Nat.reduceMul, Nat.reduceSub, Nat.reduceLeDiff, reduceIte, and_true, true_and, and_false, false_and, and_self, if_true, if_false, Bool.false_eq_true, not_true_eq_false, not_false_eq_true]; exact h1 b hb) (fun b hb => by
      simp only [pw_at, Nat.reduceEqDiff, Nat.reduceAdd, Nat.reduceMul, Nat.reduceSub, Nat.reduceLeDiff, reduceIte, and_true, true_and, and_false, false_and, and_self, if_true, if_false, Bool.false_eq_true, not_true_eq_false, not_false_eq_true]
      by_cases c : b = a
      · rw [if_pos c, c]
      · rw [if_neg c]; exact h2 b (by omega))
    refine ⟨h', ?_, ((Kp.rf h).pw (S := fun a _ => a = 53) rfl).tr k, q⟩
    rw [← e]
    show fX9_copy_B120 N (fX9_copy_L120 N n) h _ _ _ _ _ _ = _
    simp (disch := omega) only [fX9_copy_B120, nI_leI, lit_mul_nI, nI_add, ix_nI, nI_clamp, if_true, nI_add_lit, h1 a (by omega)]
    rw [if_neg (by omega)]
theorem copy_out (N : Nat) {m t j : Nat} {g : Nat → Int32} (ht : t < 4) (hj : j + m ≤ 60) : ∀ (d n a : Nat) (h : pH), a + d = m → d < n → (∀ b, b < m → h.1 53 b = g b) →
    ∃ h', fX9_copy_L157 N n h (nI t) (nI j) (nI m) (nI a) = some (1, h') ∧ Kp (fun a b => a = 52 ∧ 60 * t ≤ b ∧ b < 60 * t + 60) h h' ∧ (∀ b, a ≤ b → b < m → h'.1 52 (60 * t + j + b) = g b) ∧ ∀ b, (b < 60 * t + j + a ∨ 60 * t + j + m ≤ b) → h'.1 52 b = h.1 52 b := by
  intro d
  induction d with
  | zero =>
    intro n a h ha hn h1
    obtain ⟨n, rfl⟩ : ∃ m, n = m + 1 := ⟨n - 1, by omega⟩
    obtain rfl : a = m := by omega
    refine ⟨h, ?_, Kp.rf h, fun b h1 h2 => absurd h1 (by omega), fun _ _ => rfl⟩
    show fX9_copy_B157 N (fX9_copy_L157 N n) h _ _ _ _ = _
    simp only [fX9_copy_B157]
    rw [if_pos (Int32.le_refl _)]
  | succ d ih =>
    intro n a h ha hn h1
    obtain ⟨n, rfl⟩ : ∃ m, n = m + 1 := ⟨n - 1, by omega⟩
    obtain ⟨h', e, k, q, q2⟩ := ih n (a + 1) (pw h 52 (60 * t + j + a) (g a)) (by omega) (by omega) (fun b hb => by simp only [pw_at, Nat.reduceEqDiff, Nat.reduceAdd, Nat.reduceMul, Nat.reduceSub, Nat.reduceLeDiff, reduceIte, and_true, true_and, and_false, false_and, and_self, if_true, if_false, Bool.false_eq_true, not_true_eq_false, not_false_eq_true]; exact h1 b hb)
    refine ⟨h', ?_, ((Kp.rf h).pw (by omega)).tr k, ?_, ?_⟩
    · rw [← e]
      show fX9_copy_B157 N (fX9_copy_L157 N n) h _ _ _ _ = _
      simp (disch := omega) only [fX9_copy_B157, nI_leI, lit_mul_nI, nI_add, ix_nI, nI_clamp, if_true, nI_add_lit, h1 a (by omega)]
      rw [if_neg (by omega)]
    · intro b hb hbm
      by_cases c : b = a
      · rw [q2 _ (by omega), c]; simp only [pw_at, and_self, if_true]
      · exact q b (by omega) hbm
    · intro b hb
      rw [q2 b (by omega), pw_at, if_neg (by omega)]
def a_copy (σ : St) (x i y j n : Int32) : Int32 := if ix x 4 = true ∧ ix y 4 = true then (if cpF σ x.toNatClampNeg y.toNatClampNeg i j n = 0 then 1 else fnd (cpF σ x.toNatClampNeg y.toNatClampNeg i j n)) else -2
def n_copy (σ : St) (x i y j n : Int32) : St := if ix x 4 = true ∧ ix y 4 = true then (if cpF σ x.toNatClampNeg y.toNatClampNeg i j n = 0 then uSt σ y.toNatClampNeg (t_fm σ y.toNatClampNeg) (t_sz σ y.toNatClampNeg) (cpI σ x.toNatClampNeg y.toNatClampNeg i.toNatClampNeg j.toNatClampNeg n.toNatClampNeg) else uLf σ (nI (cpF σ x.toNatClampNeg y.toNatClampNeg i j n))) else σ
theorem i64add (a b : Int32) : (a.toInt64 + b.toInt64).toInt = a.toInt + b.toInt := by
  rw [Int64.toInt_add, Int32.toInt_toInt64, Int32.toInt_toInt64]
  have h1 := a.toInt_lt
  have h2 := a.le_toInt
  have h3 := b.toInt_lt
  have h4 := b.le_toInt
  apply Int.bmod_eq_of_le <;> omega
theorem lt0 (x : Int32) : x < 0 ↔ x.toInt < 0 := by rw [Int32.lt_iff_toInt_lt]; rfl
theorem le0 (x : Int32) : 0 ≤ x ↔ 0 ≤ x.toInt := by rw [le_toInt]; rfl
theorem m_copy {σ : St} {h : pH} (hS : Sok σ) (hB : Bm σ h) {N : Nat} (hN : 1000 ≤ N) (x i y j n : Int32) : ∃ h', fX9_copy N h x i y j n = some (a_copy σ x i y j n, h') ∧ Bm (n_copy σ x i y j n) h' ∧ Cl h h' := by
  rw [fX9_copy, isSheet_ix]
  simp only [Option.bind_some, isSheet_ix, b2i, fX9_copy_b14, fX9_copy_b35, fX9_copy_b111, finds_eq, a_copy, n_copy]
  cases c : ix x 4
  · exact ⟨h, by simp, by simpa using hB, Cl.rf h⟩
  · cases c2 : ix y 4
    · exact ⟨h, by simp, by simpa using hB, Cl.rf h⟩
    · obtain ⟨s, hs, rfl⟩ := ix_of c (by decide)
      obtain ⟨t, ht, rfl⟩ := ix_of c2 (by decide)
      have q := hS.2.2.2.2.1 s hs
      have q2 := hB.2.2.2.2.2.1 s hs
      have p := hS.2.2.2.2.1 t ht
      have p2 := hB.2.2.2.2.2.1 t ht
      simp only [Bool.true_eq_false, if_false, if_true, and_self, nI_clamp (show s < 2 ^ 31 by omega), nI_clamp (show t < 2 ^ 31 by omega)]
      simp only [q2.1, q2.2, p2.1, p2.2]
      simp only [lt0 (sI (t_fm σ s)), le0 (sI (t_fm σ t)), sI_toInt (show -1000000 ≤ t_fm σ s by omega) (by omega), sI_toInt (show -1000000 ≤ t_fm σ t by omega) (by omega), sI_inj (show -1000 ≤ t_fm σ s by omega) (by omega) (show -1000 ≤ t_fm σ t by omega) (by omega)]
      simp only [lg_gt, lg_le, Int64.lt_iff_toInt_lt, Int64.le_iff_toInt_le, i64add, Int32.toInt_toInt64, nI_toInt (show t_sz σ s < 2 ^ 31 by omega), nI_toInt (show t_sz σ t < 2 ^ 31 by omega), lt0 i, lt0 j, lt0 n]
      have bad : ∀ v, cpF σ s t i j n = v → v ≠ 0 → ∃ h', (some (fnd v, pw h 49 4 (nI v)) : Option (Int32 × pH)) = some (if cpF σ s t i j n = 0 then 1 else fnd (cpF σ s t i j n), h') ∧ Bm (if cpF σ s t i j n = 0 then uSt σ t (t_fm σ t) (t_sz σ t) (cpI σ s t i.toNatClampNeg j.toNatClampNeg n.toNatClampNeg) else uLf σ (nI (cpF σ s t i j n))) h' ∧ Cl h h' := by
        intro v z z0
        rw [z]
        simp only [z0, if_false]
        exact ⟨_, rfl, hB.lf, (Cl.rf h).pw (by omega)⟩
      by_cases c3 : 0 ≤ t_fm σ s
      · rw [if_neg (by omega)]
        by_cases c4 : 0 ≤ t_fm σ t
        · rw [if_pos c4]
          by_cases c5 : t_fm σ s = t_fm σ t
          · have bad2 : ¬ cpk σ s t i j n → _ := fun z => bad 2 (by unfold cpF; rw [if_pos ⟨c3, c4⟩, if_pos c5, if_neg z]) (by decide)
            rw [if_pos c5]
            by_cases c6 : i.toInt < 0
            · rw [if_pos c6]; exact bad2 (fun z => by unfold cpk at z; omega)
            · rw [if_neg c6]
              by_cases c7 : j.toInt < 0
              · rw [if_pos c7]; exact bad2 (fun z => by unfold cpk at z; omega)
              · rw [if_neg c7]
                by_cases c8 : n.toInt < 0
                · rw [if_pos c8]; exact bad2 (fun z => by unfold cpk at z; omega)
                · rw [if_neg c8]
                  by_cases c9 : (t_sz σ s : Int) < i.toInt + n.toInt
                  · rw [if_pos c9]; exact bad2 (fun z => by unfold cpk at z; omega)
                  · rw [if_neg c9]
                    by_cases c10 : j.toInt + n.toInt ≤ t_sz σ t
                    · rw [if_pos c10]
                      have ok : cpk σ s t i j n := by unfold cpk; omega
                      have e0 : cpF σ s t i j n = 0 := by unfold cpF; rw [if_pos ⟨c3, c4⟩, if_pos c5, if_pos ok]
                      rw [e0]
                      simp only [if_true]
                      obtain ⟨i, hi, rfl⟩ := nI_of (x := i) (by rw [lt0]; exact c6)
                      obtain ⟨j, hj, rfl⟩ := nI_of (x := j) (by rw [lt0]; exact c7)
                      obtain ⟨n, hn, rfl⟩ := nI_of (x := n) (by rw [lt0]; exact c8)
                      simp (disch := omega) only [nI_toInt] at c9 c10
                      simp (disch := omega) only [nI_clamp]
                      obtain ⟨h1, e1, k1, r1⟩ := copy_in N (g := fun b => t_it σ s (i + b)) (s := s) (i := i) (m := n) (t := t) (j := j) hs (by omega) n N 0 h (by omega) (by omega) (fun b hb => by rw [Nat.add_assoc]; exact hB.2.2.2.2.2.2.1 s hs (i + b) (by omega)) (fun b hb => absurd hb (by omega))
                      obtain ⟨h2, e2, k2, r2, r3⟩ := copy_out N (g := fun b => t_it σ s (i + b)) (t := t) (j := j) (m := n) ht (by omega) n N 0 h1 (by omega) (by omega) r1
                      have kk : Kp (SI t) h h2 := (k1.mono (fun a b z => by unfold SI; omega)).tr (k2.mono (fun a b z => by unfold SI; omega))
                      refine ⟨h2, e1.trans e2, hB.uSt hS ht kk ?_ ?_ p.2.2 ?_, kk.cs⟩
                      · rw [k2.2 _ _ (by omega), k1.2 _ _ (by omega)]; exact p2.1
                      · rw [k2.2 _ _ (by omega), k1.2 _ _ (by omega)]; exact p2.2
                      · intro a ha
                        unfold cpI
                        by_cases c : j ≤ a ∧ a < j + n
                        · rw [if_pos c, show 60 * t + a = 60 * t + j + (a - j) by omega]
                          exact r2 (a - j) (by omega) (by omega)
                        · rw [if_neg c, r3 _ (by omega), k1.2 _ _ (by omega)]
                          exact hB.2.2.2.2.2.2.1 t ht a ha
                    · rw [if_neg c10]; exact bad2 (fun z => by unfold cpk at z; omega)
          · rw [if_neg c5]
            exact bad 4 (by unfold cpF; rw [if_pos ⟨c3, c4⟩, if_neg c5]) (by decide)
        · rw [if_neg c4]
          exact bad 1 (by unfold cpF; rw [if_neg (fun z => c4 z.2)]) (by decide)
      · rw [if_pos (by omega)]
        exact bad 1 (by unfold cpF; rw [if_neg (fun z => c3 z.1)]) (by decide)
/-! write -/
def wrN (σ : St) (s : Nat) : Nat := min (t_sz σ s) (nc (wOf σ) + 1)
def wrI (σ : St) (s a : Nat) : Int32 := if a < wrN σ s then cutV (sI (t_fm σ s)) (gI (wOf σ) (G (wOf σ) a)) else t_it σ s a
def a_write (σ : St) (x : Int32) : Int32 := if ix x 4 then (if 0 ≤ t_fm σ x.toNatClampNeg then nI (wrN σ x.toNatClampNeg) else fnd 1) else -2
def n_write (σ : St) (x : Int32) : St := if ix x 4 then (if 0 ≤ t_fm σ x.toNatClampNeg then uSt σ x.toNatClampNeg (t_fm σ x.toNatClampNeg) (t_sz σ x.toNatClampNeg) (wrI σ x.toNatClampNeg) else uLf σ 1) else σ
theorem write_loop (N : Nat) {s m : Nat} {f : Int32} {g : Nat → Int32} (hs : s < 4) (hm : m ≤ 25) : ∀ (d n i : Nat) (h : pH), i + d = m → d < n → h.1 50 s = f → (∀ j, j < m → h.1 61 j = g j) →
    ∃ h', fX9_write_L47 N n h (nI s) (nI m) (nI i) = some (nI m, h') ∧ Kp (fun a b => a = 52 ∧ 60 * s ≤ b ∧ b < 60 * s + 60) h h' ∧ (∀ j, i ≤ j → j < m → h'.1 52 (60 * s + j) = cutV f (g j)) ∧ ∀ j, (j < 60 * s + i ∨ 60 * s + m ≤ j) → h'.1 52 j = h.1 52 j := by
  intro d
  induction d with
  | zero =>
    intro n i h hi hn h1 h2
    obtain ⟨n, rfl⟩ : ∃ m, n = m + 1 := ⟨n - 1, by omega⟩
    obtain rfl : i = m := by omega
    refine ⟨h, ?_, Kp.rf h, fun b h1 h2 => absurd h1 (by omega), fun _ _ => rfl⟩
    show fX9_write_B47 N (fX9_write_L47 N n) h _ _ _ = _
    simp only [fX9_write_B47]
    rw [if_pos (Int32.le_refl _)]
  | succ d ih =>
    intro n i h hi hn h1 h2
    obtain ⟨n, rfl⟩ : ∃ m, n = m + 1 := ⟨n - 1, by omega⟩
    obtain ⟨h', e, k, q, q2⟩ := ih n (i + 1) (pw h 52 (60 * s + i) (cutV f (g i))) (by omega) (by omega) (by simp only [pw_at, Nat.reduceEqDiff, Nat.reduceAdd, Nat.reduceMul, Nat.reduceSub, Nat.reduceLeDiff, reduceIte, and_true, true_and, and_false, false_and, and_self, if_true, if_false, Bool.false_eq_true, not_true_eq_false, not_false_eq_true]; exact h1) (fun j hj => by simp only [pw_at, Nat.reduceEqDiff, Nat.reduceAdd, Nat.reduceMul, Nat.reduceSub, Nat.reduceLeDiff, reduceIte, and_true, true_and, and_false, false_and, and_self, if_true, if_false, Bool.false_eq_true, not_true_eq_false, not_false_eq_true]; exact h2 j hj)
    refine ⟨h', ?_, ((Kp.rf h).pw (by omega)).tr k, ?_, ?_⟩
    · rw [← e]
      show fX9_write_B47 N (fX9_write_L47 N n) h _ _ _ = _
      simp (disch := omega) only [fX9_write_B47, nI_leI, lit_mul_nI, nI_add, ix_nI, nI_clamp, if_true, nI_add_lit, h1, h2 i (by omega), cut_eq, Option.bind_some]
      rw [if_neg (by omega)]
    · intro b hb hbm
      by_cases c : b = i
      · rw [q2 _ (by omega), c]; simp only [pw_at, and_self, if_true]
      · exact q b (by omega) hbm
    · intro b hb
      rw [q2 b (by omega), pw_at, if_neg (by omega)]
theorem m_write {σ : St} {h : pH} (hS : Sok σ) (hB : Bm σ h) {N : Nat} (hN : 1000 ≤ N) (x : Int32) : ∃ h', fX9_write N h x = some (a_write σ x, h') ∧ Bm (n_write σ x) h' ∧ Cl h h' := by
  rw [fX9_write, isSheet_ix]
  simp only [Option.bind_some, b2i, a_write, n_write, finds_eq]
  cases c : ix x 4
  · exact ⟨h, by simp, by simpa using hB, Cl.rf h⟩
  · obtain ⟨s, hs, rfl⟩ := ix_of c (by decide)
    have q := hS.2.2.2.2.1 s hs
    have q2 := hB.2.2.2.2.2.1 s hs
    have w4 := (wok_of hS).2.2.2.1
    simp (disch := omega) only [Bool.true_eq_false, if_false, if_true, nI_clamp, q2.1, sI_nn q.1 q.2.1]
    by_cases c2 : 0 ≤ t_fm σ s
    · simp only [c2, if_true]
      obtain ⟨h1, e, k, hF, hL⟩ := find_eq hS hB hN
      have hz := hL.z
      have hB1 := hB.kp k
      have p2 := hB1.2.2.2.2.2.1 s hs
      obtain ⟨h2, e2, k2, r2, r3⟩ := write_loop N (m := wrN σ s) (f := sI (t_fm σ s)) (g := fun j => gI (wOf σ) (G (wOf σ) j)) hs (by unfold wrN; omega) (wrN σ s) N 0 h1 (by omega) (by unfold wrN; omega) p2.1 (fun j hj => hz.2.1 j (by unfold wrN at hj; omega))
      have kk : Kp (SI s) h1 h2 := k2.mono (fun a b z => by unfold SI; omega)
      refine ⟨h2, ?_, hB1.uSt hS hs kk ?_ ?_ q.2.2 ?_, (k.cl).tr kk.cs⟩
      · rw [e]
        simp only [Option.bind_some, p2.2, hF.2.2.2.2.1, nI_add_lit]
        rw [lesser_eq N h1 _ _ (by omega) (by omega)]
        exact e2
      · rw [k2.2 _ _ (by omega)]; exact p2.1
      · rw [k2.2 _ _ (by omega)]; exact p2.2
      · intro a ha
        unfold wrI
        by_cases c : a < wrN σ s
        · rw [if_pos c]; exact r2 a (by omega) c
        · rw [if_neg c, r3 _ (by omega)]; exact hB1.2.2.2.2.2.2.1 s hs a ha
    · simp only [c2, if_false]
      exact ⟨_, rfl, hB.lf, (Cl.rf h).pw (by omega)⟩
/-! read -/
def rd (σ : St) (s : Nat) : Nat → Nat → St × Nat
  | 0, n => (σ, n)
  | d + 1, n => if 2 * n + 2 ≤ t_sz σ s ∧ 0 ≤ a_seen σ (t_it σ s (2 * n)) (t_it σ s (2 * n + 1)) then rd (n_seen σ (t_it σ s (2 * n)) (t_it σ s (2 * n + 1))) s d (n + 1) else (σ, n)
theorem n_seen_sz (σ : St) (x y : Int32) : t_sz (n_seen σ x y) = t_sz σ ∧ t_it (n_seen σ x y) = t_it σ ∧ t_fm (n_seen σ x y) = t_fm σ := by
  unfold n_seen
  split <;> exact ⟨rfl, rfl, rfl⟩
theorem Sok.see {σ : St} (hS : Sok σ) (x y : Int32) : Sok (n_seen σ x y) := by
  unfold n_seen
  split
  · rename_i c
    obtain ⟨c1, c2, c3⟩ := c
    obtain ⟨s1, s2, s3, s4, s5, s6, s7⟩ := hS
    obtain ⟨n, hn, rfl⟩ := ix_of c1 (by decide)
    obtain ⟨p, hp, rfl⟩ := ix_of c2 (by decide)
    rw [nI_clamp (by omega), nI_clamp (by omega)]
    refine ⟨s1, s2, s3, s4, s5, ?_, ?_⟩
    · show t_cn σ + 1 ≤ 8; omega
    · intro k hk
      have hk : k < t_cn σ + 1 := hk
      show (if k = t_cn σ then n else t_sb σ k) ≤ 24 ∧ (if k = t_cn σ then p else t_sp σ k) ≤ 18
      by_cases e : k = t_cn σ
      · rw [if_pos e, if_pos e]; omega
      · rw [if_neg e, if_neg e]; exact s7 k (by omega)
  · exact hS
theorem read_end (N n : Nat) (h : pH) (s m : Nat) : fX9_read_L29 N (n + 1) h (nI s) (nI m) 0 = some (nI m, h) := rfl
theorem read_loop (N : Nat) {s : Nat} (hs : s < 4) : ∀ (d n m : Nat) (σ : St) (h : pH), 2 * (m + d) ≤ t_sz σ s + 1 → t_sz σ s ≤ 2 * (m + d) + 1 → d + 1 < n → Sok σ → Bm σ h →
    ∃ h', fX9_read_L29 N n h (nI s) (nI m) 1 = some (nI (rd σ s d m).2, h') ∧ Bm (rd σ s d m).1 h' ∧ Cl h h' := by
  intro d
  induction d with
  | zero =>
    intro n m σ h h1 h2 hn hS hB
    obtain ⟨n, rfl⟩ : ∃ m, n = m + 1 := ⟨n - 1, by omega⟩
    have q := hS.2.2.2.2.1 s hs
    have q2 := hB.2.2.2.2.2.1 s hs
    refine ⟨h, ?_, hB, Cl.rf h⟩
    show fX9_read_B29 N (fX9_read_L29 N n) h _ _ _ = _
    simp (disch := omega) only [fX9_read_B29, fX9_read_b103, ix_nI, nI_clamp, if_true, q2.2, lit_mul_nI, nI_add_lit, nI_ltI]
    rw [if_neg (by decide), if_pos (by omega)]
    rfl
  | succ d ih =>
    intro n m σ h h1 h2 hn hS hB
    obtain ⟨n, rfl⟩ : ∃ m, n = m + 1 := ⟨n - 1, by omega⟩
    have q := hS.2.2.2.2.1 s hs
    have q2 := hB.2.2.2.2.2.1 s hs
    have unf : fX9_read_L29 N (n + 1) h (nI s) (nI m) 1 = fX9_read_B29 N (fX9_read_L29 N n) h (nI s) (nI m) 1 := rfl
    rw [unf, show rd σ s (d + 1) m = (if 2 * m + 2 ≤ t_sz σ s ∧ 0 ≤ a_seen σ (t_it σ s (2 * m)) (t_it σ s (2 * m + 1)) then rd (n_seen σ (t_it σ s (2 * m)) (t_it σ s (2 * m + 1))) s d (m + 1) else (σ, m)) from rfl]
    simp (disch := omega) only [fX9_read_B29, fX9_read_b103, fX9_read_b87, fX9_read_b98, ix_nI, nI_clamp, if_true, q2.2, lit_mul_nI, nI_add_lit, nI_add, nI_ltI]
    rw [if_neg (by decide)]
    by_cases c : 2 * m + 2 ≤ t_sz σ s
    · rw [if_neg (by omega)]
      have i1 := hB.2.2.2.2.2.2.1 s hs (2 * m) (by omega)
      have i2 := hB.2.2.2.2.2.2.1 s hs (2 * m + 1) (by omega)
      rw [← Nat.add_assoc] at i2
      obtain ⟨h1, e1, b1, k1⟩ := m_seen hS hB N (t_it σ s (2 * m)) (t_it σ s (2 * m + 1))
      rw [i1, i2, e1]
      simp only [Option.bind_some]
      obtain ⟨n, rfl⟩ : ∃ m, n = m + 1 := ⟨n - 1, by omega⟩
      by_cases c2 : 0 ≤ a_seen σ (t_it σ s (2 * m)) (t_it σ s (2 * m + 1))
      · rw [if_neg (Int32.not_lt.mpr c2), if_neg (by decide), if_pos ⟨c, c2⟩]
        have n1 := n_seen_sz σ (t_it σ s (2 * m)) (t_it σ s (2 * m + 1))
        obtain ⟨h2, e2, b2, k2⟩ := ih (n + 1) (m + 1) _ h1 (by rw [n1.1]; omega) (by rw [n1.1]; omega) (by omega) (hS.see _ _) b1
        exact ⟨h2, e2, b2, k1.tr k2⟩
      · rw [if_pos (Int32.not_le.mp c2), if_neg (fun z => c2 z.2)]
        refine ⟨h1, read_end N n h1 s m, ?_, k1⟩
        have e : n_seen σ (t_it σ s (2 * m)) (t_it σ s (2 * m + 1)) = σ := by
          unfold n_seen
          rw [if_neg]
          intro z
          apply c2
          have := hS.2.2.2.2.2.1
          unfold a_seen
          rw [if_pos ⟨z.1, z.2.1⟩, if_neg z.2.2]
          exact nI_pos' (by omega)
        rw [e] at b1
        exact b1
    · rw [if_pos (by omega), if_neg (fun z => c z.1)]
      exact ⟨h, rfl, hB, Cl.rf h⟩
def a_read (σ : St) (x : Int32) : Int32 := if ix x 4 then (if 0 ≤ t_fm σ x.toNatClampNeg then nI (rd σ x.toNatClampNeg ((t_sz σ x.toNatClampNeg + 1) / 2) 0).2 else fnd 1) else -2
def n_read (σ : St) (x : Int32) : St := if ix x 4 then (if 0 ≤ t_fm σ x.toNatClampNeg then (rd σ x.toNatClampNeg ((t_sz σ x.toNatClampNeg + 1) / 2) 0).1 else uLf σ 1) else σ
theorem m_read {σ : St} {h : pH} (hS : Sok σ) (hB : Bm σ h) {N : Nat} (hN : 1000 ≤ N) (x : Int32) : ∃ h', fX9_read N h x = some (a_read σ x, h') ∧ Bm (n_read σ x) h' ∧ Cl h h' := by
  rw [fX9_read, isSheet_ix]
  simp only [Option.bind_some, b2i, a_read, n_read, finds_eq]
  cases c : ix x 4
  · exact ⟨h, by simp, by simpa using hB, Cl.rf h⟩
  · obtain ⟨s, hs, rfl⟩ := ix_of c (by decide)
    have q := hS.2.2.2.2.1 s hs
    have q2 := hB.2.2.2.2.2.1 s hs
    simp (disch := omega) only [Bool.true_eq_false, if_false, if_true, nI_clamp, q2.1, sI_nn q.1 q.2.1]
    by_cases c2 : 0 ≤ t_fm σ s
    · simp only [c2, if_true]
      exact read_loop N hs ((t_sz σ s + 1) / 2) N 0 σ h (by omega) (by omega) (by omega) hS hB
    · simp only [c2, if_false]
      exact ⟨_, rfl, hB.lf, (Cl.rf h).pw (by omega)⟩
