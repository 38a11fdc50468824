/-! ===== the class: changes of texts, numbers, sightings ===== -/
def SH (a _b : Nat) : Prop := a < 49
def SE (a b : Nat) : Prop := (a = 1 ∧ b = 13) ∨ 35 ≤ a
theorem Ci.st {σ : St} {h : pH} (hA : Ac σ h) (h14 : h.1 1 14 = 1) : Ci σ h := ⟨hA, fun z => absurd z (by rw [h14]; decide)⟩
theorem Ci.up {σ σ' : St} {h h' : pH} (hw : wOf σ' = wOf σ) (hnk : nk (wOf σ) ≤ 8) (k : Kq SE h h') (hC : Ci σ h) (hA : Ac σ' h') : Ci σ' h' := ⟨hA, fun z => by
  rw [hw]
  rw [k _ _ (by unfold SE; omega)] at z
  obtain ⟨⟨f1, f2⟩, f3⟩ := hC.2 z
  refine ⟨⟨f1.kq (k.mono (fun a b z => by unfold SE at z; unfold SR; omega)) hnk, fun i hi => by rw [k _ _ (by unfold SE; omega)]; exact f2 i hi⟩, fun y => ?_⟩
  rw [k _ _ (by unfold SE; omega)] at y
  obtain ⟨p1, p2, p3, p4⟩ := f3 y
  refine ⟨?_, ?_, ?_, ?_⟩
  · rw [k _ _ (by unfold SE; omega)]; exact p1
  · rw [k _ _ (by unfold SE; omega)]; exact p2
  · rw [k _ _ (by unfold SE; omega)]; exact p3
  · intro j hj; rw [k _ _ (by unfold SE; omega)]; exact p4 j hj⟩
theorem Ac.uT {σ : St} {h h' : pH} (hA : Ac σ h) {t : Nat} (ht : t < 3) {y : Int32} (k : Kq (fun a b => (a = 6 + t ∧ b = t_l σ t) ∨ (a = 3 + t ∧ b = 1) ∨ (a = 1 ∧ b = 14)) h h') (v1 : h'.1 (3 + t) 1 = nI (t_l σ t + 1)) (v2 : h'.1 (6 + t) (t_l σ t) = y) : Ac (uT σ t y) h' := by
  obtain ⟨h1, h2, h3, h4, h5, h6, h7, h8, h9, h10⟩ := hA
  refine ⟨?_, ?_, ?_, ?_, ?_, ?_, ?_, ?_, ?_, ?_⟩
  · intro t' ht'
    show _ = nI (if t' = t then t_l σ t + 1 else t_l σ t')
    by_cases e : t' = t
    · rw [if_pos e, e]; exact v1
    · rw [if_neg e, k _ _ (by omega)]; exact h1 t' ht'
  · intro t' ht' i hi
    have hi : i < (if t' = t then t_l σ t + 1 else t_l σ t') := hi
    show _ = if t' = t ∧ i = t_l σ t then y else t_b σ t' i
    by_cases e : t' = t
    · rw [if_pos e] at hi
      by_cases e2 : i = t_l σ t
      · rw [if_pos ⟨e, e2⟩, e, e2]; exact v2
      · rw [if_neg (fun z => e2 z.2), k _ _ (by omega)]; exact h2 t' ht' i (by rw [e]; omega)
    · rw [if_neg e] at hi
      rw [if_neg (fun z => e z.1), k _ _ (by omega)]; exact h2 t' ht' i hi
  · rw [k _ _ (by omega)]; exact h3
  · rw [k _ _ (by omega)]; exact h4
  · intro j hj; rw [k _ _ (by omega)]; exact h5 j hj
  · intro s hs; rw [k _ _ (by omega), k _ _ (by omega), k _ _ (by omega)]; exact h6 s hs
  · intro s hs i hi; rw [k _ _ (by omega)]; exact h7 s hs i hi
  · rw [k _ _ (by omega)]; exact h8
  · intro j hj; rw [k _ _ (by omega), k _ _ (by omega)]; exact h9 j hj
  · rw [k _ _ (by omega)]; exact h10
theorem Ac.uL {σ : St} {h h' : pH} (hA : Ac σ h) {t n : Nat} (ht : t < 3) (hn : n ≤ t_l σ t) (k : Kq (fun a b => (a = 3 + t ∧ b = 1) ∨ (a = 1 ∧ b = 14)) h h') (v1 : h'.1 (3 + t) 1 = nI n) : Ac (uL σ t n) h' := by
  obtain ⟨h1, h2, h3, h4, h5, h6, h7, h8, h9, h10⟩ := hA
  refine ⟨?_, ?_, ?_, ?_, ?_, ?_, ?_, ?_, ?_, ?_⟩
  · intro t' ht'
    show _ = nI (if t' = t then n else t_l σ t')
    by_cases e : t' = t
    · rw [if_pos e, e]; exact v1
    · rw [if_neg e, k _ _ (by omega)]; exact h1 t' ht'
  · intro t' ht' i hi
    have hi : i < (if t' = t then n else t_l σ t') := hi
    rw [k _ _ (by omega)]
    refine h2 t' ht' i ?_
    split at hi
    · rename_i e; rw [e]; omega
    · exact hi
  · rw [k _ _ (by omega)]; exact h3
  · rw [k _ _ (by omega)]; exact h4
  · intro j hj; rw [k _ _ (by omega)]; exact h5 j hj
  · intro s hs; rw [k _ _ (by omega), k _ _ (by omega), k _ _ (by omega)]; exact h6 s hs
  · intro s hs i hi; rw [k _ _ (by omega)]; exact h7 s hs i hi
  · rw [k _ _ (by omega)]; exact h8
  · intro j hj; rw [k _ _ (by omega), k _ _ (by omega)]; exact h9 j hj
  · rw [k _ _ (by omega)]; exact h10
theorem Ac.uRv {σ : St} {h h' : pH} (hA : Ac σ h) {v : Nat} (k : Kq (fun a b => (a = 9 ∧ b = 0) ∨ (a = 1 ∧ b = 14)) h h') (v1 : h'.1 9 0 = nI v) : Ac (uRv σ v) h' := by
  obtain ⟨h1, h2, h3, h4, h5, h6, h7, h8, h9, h10⟩ := hA
  refine ⟨?_, ?_, v1, ?_, ?_, ?_, ?_, ?_, ?_, ?_⟩
  · intro t ht; rw [k _ _ (by omega)]; exact h1 t ht
  · intro t ht i hi; rw [k _ _ (by omega)]; exact h2 t ht i hi
  · rw [k _ _ (by omega)]; exact h4
  · intro j hj; rw [k _ _ (by omega)]; exact h5 j hj
  · intro s hs; rw [k _ _ (by omega), k _ _ (by omega), k _ _ (by omega)]; exact h6 s hs
  · intro s hs i hi; rw [k _ _ (by omega)]; exact h7 s hs i hi
  · rw [k _ _ (by omega)]; exact h8
  · intro j hj; rw [k _ _ (by omega), k _ _ (by omega)]; exact h9 j hj
  · rw [k _ _ (by omega)]; exact h10
theorem Ac.uBg {σ : St} {h h' : pH} (hA : Ac σ h) {v : Nat} (k : Kq (fun a b => (a = 9 ∧ b = 1) ∨ (a = 1 ∧ b = 14)) h h') (v1 : h'.1 9 1 = nI v) : Ac (uBg σ v) h' := by
  obtain ⟨h1, h2, h3, h4, h5, h6, h7, h8, h9, h10⟩ := hA
  refine ⟨?_, ?_, ?_, v1, ?_, ?_, ?_, ?_, ?_, ?_⟩
  · intro t ht; rw [k _ _ (by omega)]; exact h1 t ht
  · intro t ht i hi; rw [k _ _ (by omega)]; exact h2 t ht i hi
  · rw [k _ _ (by omega)]; exact h3
  · intro j hj; rw [k _ _ (by omega)]; exact h5 j hj
  · intro s hs; rw [k _ _ (by omega), k _ _ (by omega), k _ _ (by omega)]; exact h6 s hs
  · intro s hs i hi; rw [k _ _ (by omega)]; exact h7 s hs i hi
  · rw [k _ _ (by omega)]; exact h8
  · intro j hj; rw [k _ _ (by omega), k _ _ (by omega)]; exact h9 j hj
  · rw [k _ _ (by omega)]; exact h10
theorem Ac.uSh {σ : St} {h h' : pH} (hA : Ac σ h) {i : Nat} {z : Int} (k : Kq (fun a b => (a = 10 ∧ b = i) ∨ (a = 1 ∧ b = 14)) h h') (v1 : h'.1 10 i = sI z) : Ac (uSh σ i z) h' := by
  obtain ⟨h1, h2, h3, h4, h5, h6, h7, h8, h9, h10⟩ := hA
  refine ⟨?_, ?_, ?_, ?_, ?_, ?_, ?_, ?_, ?_, ?_⟩
  · intro t ht; rw [k _ _ (by omega)]; exact h1 t ht
  · intro t ht i hi; rw [k _ _ (by omega)]; exact h2 t ht i hi
  · rw [k _ _ (by omega)]; exact h3
  · rw [k _ _ (by omega)]; exact h4
  · intro j hj
    show _ = sI (if j = i then z else t_sh σ j)
    by_cases e : j = i
    · rw [if_pos e, e]; exact v1
    · rw [if_neg e, k _ _ (by omega)]; exact h5 j hj
  · intro s hs; rw [k _ _ (by omega), k _ _ (by omega), k _ _ (by omega)]; exact h6 s hs
  · intro s hs i hi; rw [k _ _ (by omega)]; exact h7 s hs i hi
  · rw [k _ _ (by omega)]; exact h8
  · intro j hj; rw [k _ _ (by omega), k _ _ (by omega)]; exact h9 j hj
  · rw [k _ _ (by omega)]; exact h10
theorem full_eq {σ : St} {h : pH} (hS : Sok σ) (hA : Ac σ h) (N : Nat) {t : Nat} (ht : t < 3) : fX7_isFull N h (3 + t) = some (if t_l σ t < lim t then 0 else 1, h) := by
  have hl := hS.1 t ht
  have hl2 := lim_le t
  obtain ⟨r1, r2, r3, r4, r5, r6⟩ := r_text ht
  simp only [fX7_isFull, fX7_isFull_b17, r1, r2, r3, r4, r5, hA.1 t ht, if_true, true_and, true_or, or_true]
  rw [if_pos (by omega), show Int32.ofNat (lim t) = nI (lim t) from rfl]
  by_cases c : t_l σ t < lim t
  · rw [if_pos (by rw [nI_ltI (by omega) (by omega)]; exact c), if_pos c]
  · rw [if_neg (by rw [nI_ltI (by omega) (by omega)]; exact c), if_neg c]
theorem append_eq {σ : St} {h : pH} (hS : Sok σ) (hA : Ac σ h) (N : Nat) {t : Nat} (ht : t < 3) (hlt : t_l σ t < lim t) (y : Int32) : fX7_append N h (3 + t) y = some ((), pw (pw h (6 + t) (t_l σ t) y) (3 + t) 1 (nI (t_l σ t + 1))) := by
  have hl2 := lim_le t
  have e31 := hA.1 t ht
  obtain ⟨r1, r2, r3, r4, r5, r6⟩ := r_text ht
  simp only [fX7_append, fX7_append_b27, full_eq hS hA N ht, Option.bind_some, hlt, if_true, r1, r2, r3, r4, r5, e31, true_and]
  rw [if_pos (by omega), if_pos (ix_nI hlt (by omega)), nI_clamp (by omega), pw_at, if_neg (by omega), e31, nI_1]
theorem c_type {σ : St} {h : pH} (hS : Sok σ) (hC : Ci σ h) (N : Nat) (x y : Int32) : ∃ h', fX8_type N h x y = some (a_type σ x y, h') ∧ Ci (n_type σ x y) h' ∧ Kq SH h h' := by
  have hA := hC.1
  simp only [fX8_type, fX8_type_b21, textAt_eq, Option.bind_some, wi_ix N h y 255 (by decide), b2i, a_type, n_type]
  cases c : ix x 3
  · exact ⟨h, by simp, by simpa using hC, Kq.rf h⟩
  · obtain ⟨t, ht, rfl⟩ := ix_of c (by decide)
    have hl := hS.1 t ht
    have hl2 := lim_le t
    obtain ⟨r1, r2, r3, r4, r5, r6⟩ := r_text ht
    simp only [if_true, nI_clamp (show t < 2 ^ 31 by omega), true_and]
    rw [if_neg (show ¬ 3 + t = 0 by omega)]
    cases c2 : ix y 256
    · exact ⟨h, by simp, by simpa using hC, Kq.rf h⟩
    · simp only [Bool.true_eq_false, if_false, if_true, true_and, r1, full_eq hS hA N ht, Option.bind_some]
      by_cases c3 : t_l σ t < lim t
      · have c4 : t_l σ t ≠ lim t := by omega
        simp only [c3, if_true, append_eq hS hA N ht c3, Option.bind_some, r2]
        rw [if_neg c4, if_pos c4]
        generalize hh : pw (pw (pw h (6 + t) (t_l σ t) y) (3 + t) 1 (nI (t_l σ t + 1))) 1 14 1 = h'
        have k : Kq (fun a b => (a = 6 + t ∧ b = t_l σ t) ∨ (a = 3 + t ∧ b = 1) ∨ (a = 1 ∧ b = 14)) h h' := by rw [← hh]; exact (((Kq.rf h).pw (by omega)).pw (by omega)).pw (by omega)
        have v1 : h'.1 (3 + t) 1 = nI (t_l σ t + 1) := by rw [← hh, pw_at, if_neg (by omega), pw_at, if_pos ⟨rfl, rfl⟩]
        have v2 : h'.1 (6 + t) (t_l σ t) = y := by rw [← hh, pw_at, if_neg (by omega), pw_at, if_neg (by omega), pw_at, if_pos ⟨rfl, rfl⟩]
        have v3 : h'.1 1 14 = 1 := by rw [← hh, pw_at, if_pos ⟨rfl, rfl⟩]
        exact ⟨h', by rw [v1], Ci.st (hA.uT ht k v1 v2) v3, k.mono (fun a b z => by unfold SH; omega)⟩
      · have c4 : t_l σ t = lim t := by omega
        simp only [c3, if_false, show ¬ ((1 : Int32) = 0) by decide]
        rw [if_pos c4, if_neg (fun z => z c4)]
        exact ⟨h, rfl, hC, Kq.rf h⟩
theorem c_wipe {σ : St} {h : pH} (hC : Ci σ h) (N : Nat) (x : Int32) : ∃ h', fX8_wipe N h x = some (a_wipe σ x, h') ∧ Ci (n_wipe σ x) h' ∧ Kq SH h h' := by
  have hA := hC.1
  simp only [fX8_wipe, textAt_eq, Option.bind_some, a_wipe, n_wipe]
  cases c : ix x 3
  · exact ⟨h, by simp, by simpa using hC, Kq.rf h⟩
  · obtain ⟨t, ht, rfl⟩ := ix_of c (by decide)
    obtain ⟨r1, r2, r3, r4, r5, r6⟩ := r_text ht
    simp only [if_true, nI_clamp (show t < 2 ^ 31 by omega), r2, hA.1 t ht]
    rw [if_neg (show ¬ 3 + t = 0 by omega)]
    generalize hh : pw (pw h (3 + t) 1 0) 1 14 1 = h'
    have k : Kq (fun a b => (a = 3 + t ∧ b = 1) ∨ (a = 1 ∧ b = 14)) h h' := by rw [← hh]; exact ((Kq.rf h).pw (by omega)).pw (by omega)
    have v1 : h'.1 (3 + t) 1 = nI 0 := by rw [← hh, pw_at, if_neg (by omega), pw_at, if_pos ⟨rfl, rfl⟩]; rfl
    have v3 : h'.1 1 14 = 1 := by rw [← hh, pw_at, if_pos ⟨rfl, rfl⟩]
    exact ⟨h', rfl, Ci.st (hA.uL ht (Nat.zero_le _) k v1) v3, k.mono (fun a b z => by unfold SH; omega)⟩
theorem c_undo {σ : St} {h : pH} (hS : Sok σ) (hC : Ci σ h) (N : Nat) (x : Int32) : ∃ h', fX8_undo N h x = some (a_undo σ x, h') ∧ Ci (n_undo σ x) h' ∧ Kq SH h h' := by
  have hA := hC.1
  simp only [fX8_undo, textAt_eq, Option.bind_some, a_undo, n_undo]
  cases c : ix x 3
  · exact ⟨h, by simp, by simpa using hC, Kq.rf h⟩
  · obtain ⟨t, ht, rfl⟩ := ix_of c (by decide)
    have hl := hS.1 t ht
    have hl2 := lim_le t
    obtain ⟨r1, r2, r3, r4, r5, r6⟩ := r_text ht
    simp only [if_true, nI_clamp (show t < 2 ^ 31 by omega), r2, hA.1 t ht, true_and]
    rw [if_neg (show ¬ 3 + t = 0 by omega)]
    by_cases c2 : t_l σ t = 0
    · rw [if_pos (by rw [c2]; rfl), if_pos c2, if_neg (fun z => z c2)]
      exact ⟨h, rfl, hC, Kq.rf h⟩
    · rw [if_neg (by rw [show (0 : Int32) = nI 0 from rfl, nI_eq (by omega) (by omega)]; exact c2), if_neg c2, if_pos c2, show nI (t_l σ t) - 1 = nI (t_l σ t - 1) from pk_sub (b := 1) (by omega)]
      generalize hh : pw (pw h (3 + t) 1 (nI (t_l σ t - 1))) 1 14 1 = h'
      have k : Kq (fun a b => (a = 3 + t ∧ b = 1) ∨ (a = 1 ∧ b = 14)) h h' := by rw [← hh]; exact ((Kq.rf h).pw (by omega)).pw (by omega)
      have v1 : h'.1 (3 + t) 1 = nI (t_l σ t - 1) := by rw [← hh, pw_at, if_neg (by omega), pw_at, if_pos ⟨rfl, rfl⟩]
      have v3 : h'.1 1 14 = 1 := by rw [← hh, pw_at, if_pos ⟨rfl, rfl⟩]
      exact ⟨h', by rw [v1], Ci.st (hA.uL ht (Nat.sub_le _ 1) k v1) v3, k.mono (fun a b z => by unfold SH; omega)⟩
theorem c_set {σ : St} {h : pH} (hC : Ci σ h) (N : Nat) (x y : Int32) : ∃ h', fX8_set N h x y = some (a_set σ x y, h') ∧ Ci (n_set σ x y) h' ∧ Kq SH h h' := by
  have hA := hC.1
  simp only [fX8_set, fX8_set_b37, fX8_set_b75, Option.bind_some, wi_ix N h y 9 (by decide), wi_ix N h y 18 (by decide), b2i, a_set, n_set, hA.2.2.1, hA.2.2.2.1]
  by_cases c0 : x = 0
  · have c1 : ¬ x = 1 := by rw [c0]; decide
    simp only [c0, c1, if_true, true_and, show ¬ ((0 : Int32) = 1) by decide, if_false, false_and]
    cases c2 : ix y 10
    · exact ⟨h, by simp, by simpa using hC, Kq.rf h⟩
    · obtain ⟨v, hv, rfl⟩ := ix_of c2 (by decide)
      simp only [Bool.true_eq_false, if_false, if_true, nI_clamp (show v < 2 ^ 31 by omega)]
      generalize hh : pw (pw h 9 0 (nI v)) 1 14 1 = h'
      have k : Kq (fun a b => (a = 9 ∧ b = 0) ∨ (a = 1 ∧ b = 14)) h h' := by rw [← hh]; exact ((Kq.rf h).pw (by omega)).pw (by omega)
      have v1 : h'.1 9 0 = nI v := by rw [← hh, pw_at, if_neg (by omega), pw_at, if_pos ⟨rfl, rfl⟩]
      have v3 : h'.1 1 14 = 1 := by rw [← hh, pw_at, if_pos ⟨rfl, rfl⟩]
      exact ⟨h', rfl, Ci.st (hA.uRv k v1) v3, k.mono (fun a b z => by unfold SH; omega)⟩
  · simp only [c0, if_false, false_and]
    by_cases c1 : x = 1
    · simp only [c1, if_true, true_and]
      cases c2 : ix y 19
      · exact ⟨h, by simp, by simpa using hC, Kq.rf h⟩
      · obtain ⟨v, hv, rfl⟩ := ix_of c2 (by decide)
        simp only [Bool.true_eq_false, if_false, if_true, nI_clamp (show v < 2 ^ 31 by omega)]
        generalize hh : pw (pw h 9 1 (nI v)) 1 14 1 = h'
        have k : Kq (fun a b => (a = 9 ∧ b = 1) ∨ (a = 1 ∧ b = 14)) h h' := by rw [← hh]; exact ((Kq.rf h).pw (by omega)).pw (by omega)
        have v1 : h'.1 9 1 = nI v := by rw [← hh, pw_at, if_neg (by omega), pw_at, if_pos ⟨rfl, rfl⟩]
        have v3 : h'.1 1 14 = 1 := by rw [← hh, pw_at, if_pos ⟨rfl, rfl⟩]
        exact ⟨h', rfl, Ci.st (hA.uBg k v1) v3, k.mono (fun a b z => by unfold SH; omega)⟩
    · simp only [c1, if_false, false_and]
      exact ⟨h, rfl, hC, Kq.rf h⟩
theorem wi9_eq (N : Nat) (h : pH) (y : Int32) : fX8_within N h y (-9) 9 = some (if in9 y then 1 else 0, h) := by
  rw [within_eq]
  have e : ((-9 : Int32) ≤ y ∧ y ≤ 9) ↔ in9 y = true := by
    rw [le_toInt, le_toInt, show (-9 : Int32).toInt = -9 from by decide, show (9 : Int32).toInt = 9 from by decide]
    simp [in9]
  simp only [e]
theorem c_shift {σ : St} {h : pH} (hC : Ci σ h) (N : Nat) (x y : Int32) : ∃ h', fX8_shift N h x y = some (a_shift σ x y, h') ∧ Ci (n_shift σ x y) h' ∧ Kq SH h h' := by
  have hA := hC.1
  simp only [fX8_shift, fX8_shift_b20, Option.bind_some, wi_ix N h x 3 (by decide), wi9_eq, b2i, a_shift, n_shift]
  cases c : ix x 4
  · exact ⟨h, by simp, by simpa using hC, Kq.rf h⟩
  · cases c2 : in9 y
    · exact ⟨h, by simp, by simpa using hC, Kq.rf h⟩
    · obtain ⟨i, hi, rfl⟩ := ix_of c (by decide)
      simp only [Bool.true_eq_false, if_false, if_true, and_self, nI_clamp (show i < 2 ^ 31 by omega), hA.2.2.2.2.1 i hi]
      generalize hh : pw (pw h 10 i y) 1 14 1 = h'
      have k : Kq (fun a b => (a = 10 ∧ b = i) ∨ (a = 1 ∧ b = 14)) h h' := by rw [← hh]; exact ((Kq.rf h).pw (by omega)).pw (by omega)
      have v1 : h'.1 10 i = sI y.toInt := by rw [← hh, pw_at, if_neg (by omega), pw_at, if_pos ⟨rfl, rfl⟩, sI_self]
      have v3 : h'.1 1 14 = 1 := by rw [← hh, pw_at, if_pos ⟨rfl, rfl⟩]
      exact ⟨h', rfl, Ci.st (hA.uSh k v1) v3, k.mono (fun a b z => by unfold SH; omega)⟩
/-! sightings -/
theorem poss_eq (N : Nat) (h : pH) (x y : Int32) : fX6_isPossible N h x y = some (if ix x 25 = true ∧ ix y 19 = true then 1 else 0, h) := by
  simp only [fX6_isPossible, fX6_isPossible_b24, fX6_isPossible_b25, wi_ix N h x 24 (by decide), wi_ix N h y 18 (by decide), Option.bind_some, b2i, true_or, or_true, if_true]
  cases ix x 25 <;> cases ix y 19 <;> simp
theorem full6_eq {σ : St} {h : pH} (hS : Sok σ) (hA : Ac σ h) (N : Nat) : fX6_isFull N h = some (if t_cn σ < 8 then 0 else 1, h) := by
  have hcn := hS.2.2.2.2.2.1
  simp only [fX6_isFull, fX6_isFull_b14, hA.2.2.2.2.2.2.2.1, true_or, or_true, if_true]
  by_cases c : t_cn σ < 8
  · rw [if_pos (by rw [show (8 : Int32) = nI 8 from rfl, nI_ltI (by omega) (by omega)]; exact c), if_pos c]
  · rw [if_neg (by rw [show (8 : Int32) = nI 8 from rfl, nI_ltI (by omega) (by omega)]; exact c), if_neg c]
theorem add6_eq {σ : St} {h : pH} (hS : Sok σ) (hA : Ac σ h) (N : Nat) (hlt : t_cn σ < 8) (x y : Int32) : fX6_add N h x y = some ((), pw (pw (pw h 36 (t_cn σ) x) 37 (t_cn σ) y) 35 2 (nI (t_cn σ + 1))) := by
  have e := hA.2.2.2.2.2.2.2.1
  simp only [fX6_add, fX6_add_b37, full6_eq hS hA N, Option.bind_some, hlt, if_true, pw_at, Nat.reduceEqDiff, Nat.reduceAdd, Nat.reduceMul, Nat.reduceSub, Nat.reduceLeDiff, reduceIte, and_true, true_and, and_false, false_and, and_self, if_true, if_false, Bool.false_eq_true, not_true_eq_false, not_false_eq_true, e, nI_1, nI_clamp (show t_cn σ < 2 ^ 31 by omega)]
  rw [if_pos (ix_nI hlt (by omega)), if_pos (ix_nI hlt (by omega))]
theorem Ac.see {σ : St} {h h' : pH} (hA : Ac σ h) {n p : Nat} (k : Kq (fun a b => (a = 36 ∧ b = t_cn σ) ∨ (a = 37 ∧ b = t_cn σ) ∨ (a = 35 ∧ b = 2)) h h') (v1 : h'.1 36 (t_cn σ) = nI n) (v2 : h'.1 37 (t_cn σ) = nI p) (v3 : h'.1 35 2 = nI (t_cn σ + 1)) : Ac (uSee σ n p) h' := by
  obtain ⟨h1, h2, h3, h4, h5, h6, h7, h8, h9, h10⟩ := hA
  refine ⟨?_, ?_, ?_, ?_, ?_, ?_, ?_, v3, ?_, ?_⟩
  · intro t ht; rw [k _ _ (by omega)]; exact h1 t ht
  · intro t ht i hi; rw [k _ _ (by omega)]; exact h2 t ht i hi
  · rw [k _ _ (by omega)]; exact h3
  · rw [k _ _ (by omega)]; exact h4
  · intro j hj; rw [k _ _ (by omega)]; exact h5 j hj
  · intro s hs; rw [k _ _ (by omega), k _ _ (by omega), k _ _ (by omega)]; exact h6 s hs
  · intro s hs i hi; rw [k _ _ (by omega)]; exact h7 s hs i hi
  · intro j hj
    have hj : j < t_cn σ + 1 := hj
    show _ = nI (if j = t_cn σ then n else t_sb σ j) ∧ _ = nI (if j = t_cn σ then p else t_sp σ j)
    by_cases e : j = t_cn σ
    · rw [if_pos e, if_pos e, e]; exact ⟨v1, v2⟩
    · rw [if_neg e, if_neg e, k _ _ (by omega), k _ _ (by omega)]; exact h9 j (by omega)
  · rw [k _ _ (by omega)]; exact h10
theorem see_st {σ : St} {h : pH} (hS : Sok σ) (hC : Ci σ h) {n p : Nat} : Ci (uSee σ n p) (pw (pw (pw h 36 (t_cn σ) (nI n)) 37 (t_cn σ) (nI p)) 35 2 (nI (t_cn σ + 1))) ∧ Kq SH h (pw (pw (pw h 36 (t_cn σ) (nI n)) 37 (t_cn σ) (nI p)) 35 2 (nI (t_cn σ + 1))) ∧ (pw (pw (pw h 36 (t_cn σ) (nI n)) 37 (t_cn σ) (nI p)) 35 2 (nI (t_cn σ + 1))).1 35 2 = nI (t_cn σ + 1) := by
  generalize hh : pw (pw (pw h 36 (t_cn σ) (nI n)) 37 (t_cn σ) (nI p)) 35 2 (nI (t_cn σ + 1)) = h'
  have k : Kq (fun a b => (a = 36 ∧ b = t_cn σ) ∨ (a = 37 ∧ b = t_cn σ) ∨ (a = 35 ∧ b = 2)) h h' := by rw [← hh]; exact (((Kq.rf h).pw (by omega)).pw (by omega)).pw (by omega)
  have v1 : h'.1 36 (t_cn σ) = nI n := by rw [← hh, pw_at, if_neg (by omega), pw_at, if_neg (by omega), pw_at, if_pos ⟨rfl, rfl⟩]
  have v2 : h'.1 37 (t_cn σ) = nI p := by rw [← hh, pw_at, if_neg (by omega), pw_at, if_pos ⟨rfl, rfl⟩]
  have v3 : h'.1 35 2 = nI (t_cn σ + 1) := by rw [← hh, pw_at, if_pos ⟨rfl, rfl⟩]
  exact ⟨Ci.up (σ := σ) (σ' := uSee σ n p) rfl (wok_of hS).2.1 (k.mono (fun a b z => by unfold SE; omega)) hC (hC.1.see k v1 v2 v3), k.mono (fun a b z => by unfold SH; omega), v3⟩
theorem c_seen {σ : St} {h : pH} (hS : Sok σ) (hC : Ci σ h) (N : Nat) (x y : Int32) : ∃ h', fX8_seen N h x y = some (a_seen σ x y, h') ∧ Ci (n_seen σ x y) h' ∧ Kq SH h h' := by
  have hA := hC.1
  have hcn := hS.2.2.2.2.2.1
  simp only [fX8_seen, poss_eq, Option.bind_some, a_seen, n_seen]
  cases c : ix x 25
  · exact ⟨h, by simp, by simpa using hC, Kq.rf h⟩
  · cases c2 : ix y 19
    · exact ⟨h, by simp, by simpa using hC, Kq.rf h⟩
    · obtain ⟨n, hn, rfl⟩ := ix_of c (by decide)
      obtain ⟨p, hp, rfl⟩ := ix_of c2 (by decide)
      simp only [and_self, if_true, show ¬ ((1 : Int32) = 0) by decide, if_false, full6_eq hS hA N, Option.bind_some, true_and, nI_clamp (show n < 2 ^ 31 by omega), nI_clamp (show p < 2 ^ 31 by omega)]
      by_cases c3 : t_cn σ < 8
      · have c4 : t_cn σ ≠ 8 := by omega
        obtain ⟨q1, q2, q3⟩ := see_st (n := n) (p := p) hS hC
        simp only [c3, if_true, add6_eq hS hA N c3, Option.bind_some]
        rw [if_neg c4, if_pos c4, q3]
        exact ⟨_, rfl, q1, q2⟩
      · have c4 : t_cn σ = 8 := by omega
        simp only [c3, if_false, show ¬ ((1 : Int32) = 0) by decide]
        rw [if_pos c4, if_neg (fun z => z c4)]
        exact ⟨h, rfl, hC, Kq.rf h⟩
theorem c_forget {σ : St} {h : pH} (hS : Sok σ) (hC : Ci σ h) (N : Nat) : ∃ h', fX8_forget N h = some (a_forget σ, h') ∧ Ci (uFor σ) h' ∧ Kq SH h h' := by
  have hA := hC.1
  have k : Kq (fun a b => a = 35 ∧ b = 2) h (pw h 35 2 0) := (Kq.rf h).pw (by omega)
  refine ⟨pw h 35 2 0, ?_, Ci.up (σ := σ) (σ' := uFor σ) rfl (wok_of hS).2.1 (k.mono (fun a b z => by unfold SE; omega)) hC ?_, k.mono (fun a b z => by unfold SH; omega)⟩
  · rw [fX8_forget, hA.2.2.2.2.2.2.2.1]; rfl
  · obtain ⟨h1, h2, h3, h4, h5, h6, h7, h8, h9, h10⟩ := hA
    refine ⟨?_, ?_, ?_, ?_, ?_, ?_, ?_, ?_, fun j hj => absurd hj (Nat.not_lt_zero j), ?_⟩
    · intro t ht; rw [k _ _ (by omega)]; exact h1 t ht
    · intro t ht i hi; rw [k _ _ (by omega)]; exact h2 t ht i hi
    · rw [k _ _ (by omega)]; exact h3
    · rw [k _ _ (by omega)]; exact h4
    · intro j hj; rw [k _ _ (by omega)]; exact h5 j hj
    · intro s hs; rw [k _ _ (by omega), k _ _ (by omega), k _ _ (by omega)]; exact h6 s hs
    · intro s hs i hi; rw [k _ _ (by omega)]; exact h7 s hs i hi
    · rw [pw_at, if_pos ⟨rfl, rfl⟩]; rfl
    · rw [k _ _ (by omega)]; exact h10
