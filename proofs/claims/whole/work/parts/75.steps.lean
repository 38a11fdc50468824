/-! ===== class and reference, side by side ===== -/
theorem Ac.cl {σ : St} {h h' : pH} (k : Cl h h') (hA : Ac σ h) : Ac σ h' := by
  obtain ⟨h1, h2, h3, h4, h5, h6, h7, h8, h9, h10⟩ := hA
  have e : ∀ a b, a < 49 → h'.1 a b = h.1 a b := k.2
  refine ⟨?_, ?_, ?_, ?_, ?_, ?_, ?_, ?_, ?_, ?_⟩
  · intro t ht; rw [e _ _ (by omega)]; exact h1 t ht
  · intro t ht i hi; rw [e _ _ (by omega)]; exact h2 t ht i hi
  · rw [e _ _ (by omega)]; exact h3
  · rw [e _ _ (by omega)]; exact h4
  · intro k hk; rw [e _ _ (by omega)]; exact h5 k hk
  · intro s hs; rw [e _ _ (by omega), e _ _ (by omega), e _ _ (by omega)]; exact h6 s hs
  · intro s hs i hi; rw [e _ _ (by omega)]; exact h7 s hs i hi
  · rw [e _ _ (by omega)]; exact h8
  · intro k hk; rw [e _ _ (by omega), e _ _ (by omega)]; exact h9 k hk
  · rw [e _ _ (by omega)]; exact h10
theorem cF0.cl {w : Wt} {h h' : pH} (k : Cl h h') (hF : cF0 w h) (hnk : nk w ≤ 8) : cF0 w h' := by
  obtain ⟨h1, h2, h3, h4, h5, h6, h7, h8⟩ := hF
  have e : ∀ a b, a < 49 → h'.1 a b = h.1 a b := k.2
  refine ⟨?_, ?_, ?_, ?_, ?_, ?_, ?_, ?_⟩
  · rw [e _ _ (by omega)]; exact h1
  · intro p hp; rw [e _ _ (by omega)]; exact h2 p hp
  · intro b g hg; rw [e _ _ (by omega), e _ _ (by omega)]; exact h3 b g hg
  · rw [e _ _ (by omega)]; exact h4
  · intro k hk; rw [e _ _ (by omega), e _ _ (by omega), e _ _ (by omega), e _ _ (by omega), e _ _ (by omega)]; exact h5 k hk
  · rw [e _ _ (by omega)]; exact h6
  · intro i hi; rw [e _ _ (by omega)]; exact h7 i hi
  · rw [e _ _ (by omega)]; exact h8
theorem Ci.cl {σ : St} {h h' : pH} (hS : Sok σ) (k : Cl h h') (hC : Ci σ h) : Ci σ h' := by
  have hnk := (wok_of hS).2.1
  have e : ∀ a b, a < 49 → h'.1 a b = h.1 a b := k.2
  refine ⟨hC.1.cl k, fun z => ?_⟩
  rw [e _ _ (by omega)] at z
  obtain ⟨c1, c2⟩ := hC.2 z
  refine ⟨⟨c1.1.cl k hnk, fun i hi => ?_⟩, fun y => ?_⟩
  · rw [e _ _ (by omega)]; exact c1.2 i hi
  · rw [e _ _ (by omega)] at y
    obtain ⟨p1, p2, p3, p4⟩ := c2 y
    refine ⟨?_, ?_, ?_, ?_⟩
    · rw [e _ _ (by omega)]; exact p1
    · rw [e _ _ (by omega)]; exact p2
    · rw [e _ _ (by omega)]; exact p3
    · intro k hk; rw [e _ _ (by omega)]; exact p4 k hk
theorem Bm.kh {σ : St} {h h' : pH} (k : Kq SH h h') (hB : Bm σ h) : Bm σ h' := by
  obtain ⟨h1, h2, h3, h4, h5, h6, h7, h8, h9, h10, h11⟩ := hB
  have e : ∀ a b, ¬ SH a b → h'.1 a b = h.1 a b := k
  unfold SH at e
  refine ⟨?_, ?_, ?_, ?_, ?_, ?_, ?_, ?_, ?_, ?_, ?_⟩
  · intro t ht; rw [e _ _ (by omega)]; exact h1 t ht
  · intro t ht i hi; rw [e _ _ (by omega)]; exact h2 t ht i hi
  · rw [e _ _ (by omega)]; exact h3
  · rw [e _ _ (by omega)]; exact h4
  · intro k hk; rw [e _ _ (by omega)]; exact h5 k hk
  · intro s hs; rw [e _ _ (by omega), e _ _ (by omega)]; exact h6 s hs
  · intro s hs i hi; rw [e _ _ (by omega)]; exact h7 s hs i hi
  · rw [e _ _ (by omega)]; exact h8
  · intro k hk; rw [e _ _ (by omega), e _ _ (by omega)]; exact h9 k hk
  · rw [e _ _ (by omega)]; exact h10
  · rw [e _ _ (by omega)]; exact h11
/-- both keep the same state -/
def Jn (σ : St) (h : pH) : Prop := Sok σ ∧ Ci σ h ∧ Bm σ h
theorem st_up {α : Type} {σ σ' : St} {h : pH} (hJ : Jn σ h) (f g : pH → Option (α × pH)) {v : α} (hc : ∃ h', f h = some (v, h') ∧ Ci σ' h' ∧ Kq SH h h') (hm : ∀ h1, Bm σ h1 → ∃ h', g h1 = some (v, h') ∧ Bm σ' h' ∧ Cl h1 h') (hS : Sok σ') :
    ∃ h1 h2, f h = some (v, h1) ∧ g h1 = some (v, h2) ∧ Jn σ' h2 := by
  obtain ⟨h1, e1, c1, k1⟩ := hc
  obtain ⟨h2, e2, b2, k2⟩ := hm h1 (hJ.2.2.kh k1)
  exact ⟨h1, h2, e1, e2, hS, c1.cl hS k2, b2⟩
theorem st_as {α : Type} {σ : St} {h : pH} (hJ : Jn σ h) (f g : pH → Option (α × pH)) {v : α} (hc : ∃ h', f h = some (v, h') ∧ Co σ h h') (hm : ∀ h1, Bm σ h1 → ∃ h', g h1 = some (v, h') ∧ Kp SF h1 h') :
    ∃ h1 h2, f h = some (v, h1) ∧ g h1 = some (v, h2) ∧ Jn σ h2 := by
  refine st_up hJ f g ?_ ?_ hJ.1
  · obtain ⟨h1, e1, c1⟩ := hc
    exact ⟨h1, e1, c1.1, c1.2.2.mono (fun a b z => by unfold SQ at z; unfold SH; omega)⟩
  · intro h1 hB
    obtain ⟨h2, e2, k2⟩ := hm h1 hB
    exact ⟨h2, e2, hB.kp k2, k2.cl⟩
/-! what a call leaves is in order -/
theorem Sok.uSt {σ : St} (hS : Sok σ) {s : Nat} {f : Int} {n : Nat} {g : Nat → Int32} (h1 : -1 ≤ f) (h2 : f ≤ 2) (h3 : n ≤ 60) : Sok (uSt σ s f n g) := by
  obtain ⟨s1, s2, s3, s4, s5, s6, s7⟩ := hS
  refine ⟨s1, s2, s3, s4, ?_, s6, s7⟩
  intro s' hs'
  show -1 ≤ (if s' = s then f else t_fm σ s') ∧ (if s' = s then f else t_fm σ s') ≤ 2 ∧ (if s' = s then n else t_sz σ s') ≤ 60
  by_cases c : s' = s
  · rw [if_pos c, if_pos c]; exact ⟨h1, h2, h3⟩
  · rw [if_neg c, if_neg c]; exact s5 s' hs'
theorem Sok.uLf {σ : St} (hS : Sok σ) (x : Int32) : Sok (uLf σ x) := hS
theorem Sok.uL {σ : St} (hS : Sok σ) {t n : Nat} (hn : n ≤ lim t) : Sok (uL σ t n) := by
  obtain ⟨s1, s2, s3, s4, s5, s6, s7⟩ := hS
  refine ⟨?_, s2, s3, s4, s5, s6, s7⟩
  intro a ha
  show (if a = t then n else t_l σ a) ≤ lim a
  by_cases c : a = t
  · rw [if_pos c, c]; exact hn
  · rw [if_neg c]; exact s1 a ha
theorem Sok.type {σ : St} (hS : Sok σ) (x y : Int32) : Sok (n_type σ x y) := by
  unfold n_type
  by_cases c : ix x 3 = true ∧ ix y 256 = true ∧ t_l σ x.toNatClampNeg ≠ lim x.toNatClampNeg
  · rw [if_pos c]
    obtain ⟨c1, -, c3⟩ := c
    obtain ⟨t, ht, rfl⟩ := ix_of c1 (by decide)
    rw [nI_clamp (by omega)] at c3 ⊢
    obtain ⟨s1, s2, s3, s4, s5, s6, s7⟩ := hS
    refine ⟨?_, s2, s3, s4, s5, s6, s7⟩
    intro a ha
    show (if a = t then t_l σ t + 1 else t_l σ a) ≤ lim a
    have q := s1 t ht
    by_cases c : a = t
    · rw [if_pos c, c]; omega
    · rw [if_neg c]; exact s1 a ha
  · rw [if_neg c]; exact hS
theorem Sok.wipe {σ : St} (hS : Sok σ) (x : Int32) : Sok (n_wipe σ x) := by
  unfold n_wipe
  by_cases c : ix x 3 = true
  · rw [if_pos c]; exact hS.uL (Nat.zero_le _)
  · rw [if_neg c]; exact hS
theorem Sok.undo {σ : St} (hS : Sok σ) (x : Int32) : Sok (n_undo σ x) := by
  unfold n_undo
  by_cases c : ix x 3 = true ∧ t_l σ x.toNatClampNeg ≠ 0
  · rw [if_pos c]
    obtain ⟨t, ht, rfl⟩ := ix_of c.1 (by decide)
    rw [nI_clamp (by omega)]
    have q := hS.1 t ht
    exact hS.uL (by omega)
  · rw [if_neg c]; exact hS
theorem Sok.set {σ : St} (hS : Sok σ) (x y : Int32) : Sok (n_set σ x y) := by
  unfold n_set
  obtain ⟨s1, s2, s3, s4, s5, s6, s7⟩ := hS
  by_cases c : x = 0 ∧ ix y 10 = true
  · rw [if_pos c]
    obtain ⟨v, hv, rfl⟩ := ix_of c.2 (by decide)
    rw [nI_clamp (by omega)]
    exact ⟨s1, (show v ≤ 9 by omega), s3, s4, s5, s6, s7⟩
  · rw [if_neg c]
    by_cases c : x = 1 ∧ ix y 19 = true
    · rw [if_pos c]
      obtain ⟨v, hv, rfl⟩ := ix_of c.2 (by decide)
      rw [nI_clamp (by omega)]
      exact ⟨s1, s2, (show v ≤ 18 by omega), s4, s5, s6, s7⟩
    · rw [if_neg c]; exact ⟨s1, s2, s3, s4, s5, s6, s7⟩
theorem Sok.shift {σ : St} (hS : Sok σ) (x y : Int32) : Sok (n_shift σ x y) := by
  unfold n_shift
  by_cases c : ix x 4 = true ∧ in9 y = true
  · rw [if_pos c]
    have q := of_decide_eq_true (show decide (-9 ≤ y.toInt ∧ y.toInt ≤ 9) = true from c.2)
    obtain ⟨s1, s2, s3, s4, s5, s6, s7⟩ := hS
    refine ⟨s1, s2, s3, ?_, s5, s6, s7⟩
    intro k hk
    show -9 ≤ (if k = x.toNatClampNeg then y.toInt else t_sh σ k) ∧ (if k = x.toNatClampNeg then y.toInt else t_sh σ k) ≤ 9
    by_cases c : k = x.toNatClampNeg
    · rw [if_pos c]; exact q
    · rw [if_neg c]; exact s4 k hk
  · rw [if_neg c]; exact hS
theorem Sok.forget {σ : St} (hS : Sok σ) : Sok (uFor σ) := by
  obtain ⟨s1, s2, s3, s4, s5, s6, s7⟩ := hS
  exact ⟨s1, s2, s3, s4, s5, Nat.zero_le _, fun k hk => absurd hk (Nat.not_lt_zero k)⟩
theorem Sok_rd {s : Nat} : ∀ (d n : Nat) (σ : St), Sok σ → Sok (rd σ s d n).1 := by
  intro d
  induction d with
  | zero => intro n σ hS; exact hS
  | succ d ih =>
    intro n σ hS
    unfold rd
    split
    · exact ih _ _ (hS.see _ _)
    · exact hS
theorem Sok.read {σ : St} (hS : Sok σ) (x : Int32) : Sok (n_read σ x) := by
  unfold n_read
  split
  · split
    · exact Sok_rd _ _ _ hS
    · exact hS.uLf 1
  · exact hS
theorem Sok.sheet {σ : St} (hS : Sok σ) (x y z : Int32) : Sok (n_sheet σ x y z) := by
  unfold n_sheet
  by_cases c : ix x 4 = true ∧ ix y 3 = true ∧ z ≤ 60
  · rw [if_pos c]
    by_cases c2 : 0 ≤ z
    · rw [if_pos c2]
      obtain ⟨c3, c4⟩ := ix_iff.mp c.2.1
      obtain ⟨v, hv, rfl⟩ := nI_of (Int32.not_lt.mpr c2)
      have q := (nI_leI hv (show 60 < 2 ^ 31 by decide)).mp c.2.2
      rw [nI_clamp (by omega)]
      exact hS.uSt (by omega) (by omega) q
    · rw [if_neg c2]; exact hS.uLf 5
  · rw [if_neg c]; exact hS
theorem Sok.lose {σ : St} (hS : Sok σ) (x : Int32) : Sok (n_lose σ x) := by
  unfold n_lose
  by_cases c : ix x 4 = true
  · rw [if_pos c]
    obtain ⟨s, hs, rfl⟩ := ix_of c (by decide)
    rw [nI_clamp (by omega)]
    by_cases c2 : 0 ≤ t_fm σ s
    · rw [if_pos c2]; exact hS.uSt (by omega) (by omega) (hS.2.2.2.2.1 s hs).2.2
    · rw [if_neg c2]; exact hS.uLf 1
  · rw [if_neg c]; exact hS
theorem Sok_same {σ : St} (hS : Sok σ) {s : Nat} (hs : s < 4) {g : Nat → Int32} : Sok (uSt σ s (t_fm σ s) (t_sz σ s) g) := hS.uSt (hS.2.2.2.2.1 s hs).1 (hS.2.2.2.2.1 s hs).2.1 (hS.2.2.2.2.1 s hs).2.2
theorem Sok.lay {σ : St} (hS : Sok σ) (x y z v : Int32) : Sok (n_lay σ x y z v) := by
  unfold n_lay
  by_cases c : ix x 4 = true ∧ ix y 3 = true
  · rw [if_pos c]
    obtain ⟨s, hs, rfl⟩ := ix_of c.1 (by decide)
    rw [nI_clamp (by omega)]
    by_cases c2 : lkF σ s y z = 0
    · rw [if_pos c2]; exact Sok_same hS hs
    · rw [if_neg c2]; exact hS.uLf _
  · rw [if_neg c]; exact hS
theorem Sok.get {σ : St} (hS : Sok σ) (x y z : Int32) : Sok (n_get σ x y z) := by
  unfold n_get
  split
  · split
    · exact hS
    · exact hS.uLf _
  · exact hS
theorem Sok.copy {σ : St} (hS : Sok σ) (x i y j n : Int32) : Sok (n_copy σ x i y j n) := by
  unfold n_copy
  by_cases c : ix x 4 = true ∧ ix y 4 = true
  · rw [if_pos c]
    obtain ⟨t, ht, rfl⟩ := ix_of c.2 (by decide)
    rw [nI_clamp (show t < 2 ^ 31 by omega)]
    by_cases c2 : cpF σ x.toNatClampNeg t i j n = 0
    · rw [if_pos c2]; exact Sok_same hS ht
    · rw [if_neg c2]; exact hS.uLf _
  · rw [if_neg c]; exact hS
theorem Sok.write {σ : St} (hS : Sok σ) (x : Int32) : Sok (n_write σ x) := by
  unfold n_write
  by_cases c : ix x 4 = true
  · rw [if_pos c]
    obtain ⟨s, hs, rfl⟩ := ix_of c (by decide)
    rw [nI_clamp (by omega)]
    by_cases c2 : 0 ≤ t_fm σ s
    · rw [if_pos c2]; exact Sok_same hS hs
    · rw [if_neg c2]; exact hS.uLf 1
  · rw [if_neg c]; exact hS
/-! the beginning -/
def σ00 : St := (fun _ => 0, fun _ _ => 0, 5, 9, fun k => if k = 0 then 1 else if k = 1 then 2 else if k = 2 then -1 else 0, fun _ => -1, fun _ => 0, fun _ _ => 0, 0, fun _ => 0, fun _ => 0, 0)
theorem lt4 {k : Nat} (h : k < 4) : k = 0 ∨ k = 1 ∨ k = 2 ∨ k = 3 := by omega
theorem lt3 {k : Nat} (h : k < 3) : k = 0 ∨ k = 1 ∨ k = 2 := by omega
theorem Sok00 : Sok σ00 := by
  refine ⟨fun t ht => Nat.zero_le _, by decide, by decide, ?_, ?_, Nat.zero_le _, fun k hk => absurd hk (Nat.not_lt_zero k)⟩
  · intro k hk
    rcases lt4 hk with rfl | rfl | rfl | rfl <;> decide
  · intro s hs
    exact ⟨show (-1 : Int) ≤ -1 by decide, show (-1 : Int) ≤ 2 by decide, show (0 : Nat) ≤ 60 by decide⟩
theorem Ac00 : Ac σ00 h00 := by
  refine ⟨?_, fun t ht i hi => absurd hi (Nat.not_lt_zero i), rfl, rfl, ?_, ?_, fun s hs i hi => absurd hi (Nat.not_lt_zero i), rfl, fun k hk => absurd hk (Nat.not_lt_zero k), rfl⟩
  · intro t ht
    rcases lt3 ht with rfl | rfl | rfl <;> rfl
  · intro k hk
    rcases lt4 hk with rfl | rfl | rfl | rfl <;> decide
  · intro s hs
    refine ⟨?_, fun z => absurd (show (0 : Int) ≤ -1 from z) (by decide), ?_⟩
    · rcases lt4 hs with rfl | rfl | rfl | rfl <;> rfl
    · rcases lt4 hs with rfl | rfl | rfl | rfl <;> rfl
theorem Bm00 : Bm σ00 h00 := by
  refine ⟨?_, fun t ht i hi => absurd hi (Nat.not_lt_zero i), rfl, rfl, ?_, ?_, fun s hs i hi => absurd hi (Nat.not_lt_zero i), rfl, fun k hk => absurd hk (Nat.not_lt_zero k), rfl, rfl⟩
  · intro t ht
    rcases lt3 ht with rfl | rfl | rfl <;> rfl
  · intro k hk
    rcases lt4 hk with rfl | rfl | rfl | rfl <;> decide
  · intro s hs
    rcases lt4 hs with rfl | rfl | rfl | rfl <;> decide
theorem Jn00 : Jn σ00 h00 := ⟨Sok00, Ci.st Ac00 rfl, Bm00⟩
