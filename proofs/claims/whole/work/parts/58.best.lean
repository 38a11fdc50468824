/-! ===== the greedy row is the first of the best ===== -/
theorem ffr_spec (p : Nat → Bool) : ∀ d i, (∀ j, i ≤ j → j < ffr p d i → p j = true) ∧ (ffr p d i < i + d → p (ffr p d i) = false)
  | 0, i => ⟨fun j h1 h2 => absurd (show j < i from h2) (by omega), fun h => absurd (show i < i + 0 from h) (by omega)⟩
  | d + 1, i => by
    have ih := ffr_spec p d (i + 1)
    unfold ffr
    by_cases c : p i = true
    · rw [if_pos c]
      refine ⟨fun j h1 h2 => ?_, fun h => ih.2 (by omega)⟩
      by_cases e : j = i
      · rw [e]; exact c
      · exact ih.1 j (by omega) h2
    · rw [if_neg c]
      exact ⟨fun j h1 h2 => absurd h1 (by omega), fun _ => by simpa using c⟩
theorem mxr_att {f : Nat → Nat} : ∀ {n : Nat}, 0 < n → ∃ q, q < n ∧ f q = mxr f n
  | 0, h => absurd h (Nat.lt_irrefl 0)
  | 1, _ => ⟨0, by omega, by show f 0 = max (f 0) 0; omega⟩
  | n + 2, _ => by
    obtain ⟨q, hq, e⟩ := mxr_att (f := f) (n := n + 1) (by omega)
    by_cases c : mxr f (n + 1) ≤ f (n + 1)
    · exact ⟨n + 1, by omega, by show _ = max (f (n + 1)) (mxr f (n + 1)); omega⟩
    · exact ⟨q, by omega, by show _ = max (f (n + 1)) (mxr f (n + 1)); omega⟩
theorem rem_or (n come x : Nat) : rem n (come ||| 2 ^ x) = (rem n come).filter (fun j => !decide (x = j)) := by
  unfold rem
  rw [List.filter_filter]
  apply List.filter_congr
  intro j _
  rw [or_bit]
  cases come.testBit j <;> cases decide (x = j) <;> rfl
theorem fil_asc {x : Nat} {A B : List Nat} (h : Asc (A ++ x :: B)) : (A ++ x :: B).filter (fun j => !decide (x = j)) = A ++ B := by
  have hp := List.pairwise_append.mp h
  rw [List.filter_append, List.filter_cons, if_neg (by simp)]
  congr 1
  · apply List.filter_eq_self.mpr
    intro a ha
    have := hp.2.2 a ha x (List.mem_cons_self ..)
    simp; omega
  · apply List.filter_eq_self.mpr
    intro a ha
    have := List.rel_of_pairwise_cons hp.2.1 ha
    simp; omega
theorem rem_at {n come x : Nat} {A B : List Nat} (h : rem n come = A ++ x :: B) : rem n (come ||| 2 ^ x) = A ++ B := by
  have ha := rem_asc n come
  rw [h] at ha
  rw [rem_or, h, fil_asc ha]
theorem blk_pre (f : List Nat → List (List Nat)) (E : List Nat) : ∀ (C A : List Nat), ∃ P, blk f A (C ++ E) = P ++ blk f (A ++ C) E ∧ ∀ q, q ∈ P → ∃ C1 x C2 r, C = C1 ++ x :: C2 ∧ q = x :: r ∧ r ∈ f ((A ++ C1) ++ (C2 ++ E))
  | [], A => ⟨[], by simp, fun q hq => absurd hq (List.not_mem_nil)⟩
  | y :: C, A => by
    obtain ⟨P, e, h⟩ := blk_pre f E C (A ++ [y])
    refine ⟨(f (A ++ (C ++ E))).map (y :: ·) ++ P, ?_, ?_⟩
    · show (f (A ++ (C ++ E))).map (y :: ·) ++ blk f (A ++ [y]) (C ++ E) = _
      rw [e]; simp only [List.append_assoc, List.cons_append, List.nil_append]
    · intro q hq
      rcases List.mem_append.mp hq with hq | hq
      · obtain ⟨r, hr, e⟩ := List.mem_map.mp hq
        exact ⟨[], y, C, r, rfl, e.symm, by simpa using hr⟩
      · obtain ⟨C1, x, C2, r, e1, e2, e3⟩ := h q hq
        refine ⟨y :: C1, x, C2, r, by rw [e1]; rfl, e2, ?_⟩
        rw [List.append_assoc A [y] C1] at e3
        exact e3
theorem blk_mem {f : List Nat → List (List Nat)} {A C : List Nat} {q : List Nat} (h : q ∈ blk f A C) : ∃ C1 x C2 r, C = C1 ++ x :: C2 ∧ q = x :: r ∧ r ∈ f ((A ++ C1) ++ C2) := by
  obtain ⟨P, e, hP⟩ := blk_pre f [] C A
  rw [List.append_nil] at e
  rw [e] at h
  have h : q ∈ P := by simpa [blk] using h
  obtain ⟨C1, x, C2, r, e1, e2, e3⟩ := hP q h
  exact ⟨C1, x, C2, r, e1, e2, by simpa using e3⟩
theorem best_fm (w : Wt) (n : Nat) : ∀ (d come g : Nat), (rem n come).length = d → isFM (fun r => Vr w r g) (lex d (rem n come)) (gm w n d come g) ∧ Vr w (gm w n d come g) g = bm w n d come g
  | 0, come, g, _ => ⟨⟨[], [], rfl, fun q hq => absurd hq (List.not_mem_nil), fun q hq => absurd hq (List.not_mem_nil)⟩, rfl⟩
  | d + 1, come, g, hl => by
    have hM : bm w n (d + 1) come g = mxr (fun k => if come.testBit k then 0 else vv w k g + bm w n d (come ||| 2 ^ k) (mv w k g)) n := rfl
    have hle : ∀ x, x < n → come.testBit x = false → vv w x g + bm w n d (come ||| 2 ^ x) (mv w x g) ≤ bm w n (d + 1) come g := by
      intro x hx hb
      have := mxr_ge (f := fun k => if come.testBit k then 0 else vv w k g + bm w n d (come ||| 2 ^ k) (mv w k g)) hx
      rw [hM]
      simpa [hb] using this
    have hne : rem n come ≠ [] := fun z => by rw [z] at hl; cases hl
    obtain ⟨j0, hj0⟩ := List.exists_mem_of_ne_nil _ hne
    have hj0 := rem_mem.mp hj0
    have hex : ∃ j, j < n ∧ come.testBit j = false ∧ vv w j g + bm w n d (come ||| 2 ^ j) (mv w j g) = bm w n (d + 1) come g := by
      obtain ⟨q, hq, e⟩ := mxr_att (f := fun k => if come.testBit k then 0 else vv w k g + bm w n d (come ||| 2 ^ k) (mv w k g)) (n := n) (by omega)
      cases c : come.testBit q
      · exact ⟨q, hq, c, by rw [hM, ← e]; simp [c]⟩
      · have e0 : bm w n (d + 1) come g = 0 := by rw [hM, ← e]; simp [c]
        have := hle j0 hj0.1 hj0.2
        exact ⟨j0, hj0.1, hj0.2, by omega⟩
    have hsp := ffr_spec (fun k => come.testBit k || !decide (vv w k g + bm w n d (come ||| 2 ^ k) (mv w k g) = bm w n (d + 1) come g)) n 0
    have hpk : pk w n d come g < n := by
      rcases Nat.lt_or_ge (pk w n d come g) n with z | z
      · exact z
      · obtain ⟨j, h1, h2, h3⟩ := hex
        have := hsp.1 j (by omega) (Nat.lt_of_lt_of_le h1 z)
        simp [h2, h3] at this
    have hk := hsp.2 (by rw [Nat.zero_add]; exact hpk)
    have hk : (come.testBit (pk w n d come g) || !decide (vv w (pk w n d come g) g + bm w n d (come ||| 2 ^ pk w n d come g) (mv w (pk w n d come g) g) = bm w n (d + 1) come g)) = false := hk
    have hbf : ∀ x, x < pk w n d come g → come.testBit x = false → vv w x g + bm w n d (come ||| 2 ^ x) (mv w x g) < bm w n (d + 1) come g := by
      intro x hx hb
      have h1 := hsp.1 x (by omega) hx
      have h2 := hle x (by omega) hb
      simp [hb] at h1
      omega
    have hgm : gm w n (d + 1) come g = pk w n d come g :: gm w n d (come ||| 2 ^ pk w n d come g) (mv w (pk w n d come g) g) := rfl
    rw [hgm]
    generalize pk w n d come g = k at *
    obtain ⟨hk1, hk2⟩ := Bool.or_eq_false_iff.mp hk
    have hk2 : vv w k g + bm w n d (come ||| 2 ^ k) (mv w k g) = bm w n (d + 1) come g := by simpa using hk2
    obtain ⟨C, D, r1, r2, r3, r4⟩ := rem_split hpk hk1
    have hlen : (rem n (come ||| 2 ^ k)).length = d := by
      rw [r1] at hl
      rw [r2]
      simp only [List.length_append, List.length_cons] at hl ⊢
      omega
    obtain ⟨⟨L1, L2, f1, f2, f3⟩, f4⟩ := best_fm w n d (come ||| 2 ^ k) (mv w k g) hlen
    have hub : ∀ x A B r, rem n come = A ++ x :: B → r ∈ lex d (A ++ B) → Vr w (x :: r) g ≤ vv w x g + bm w n d (come ||| 2 ^ x) (mv w x g) := by
      intro x A B r hx hr
      have e := rem_at hx
      have hl2 : (rem n (come ||| 2 ^ x)).length = d := by
        rw [hx] at hl
        rw [e]
        simp only [List.length_append, List.length_cons] at hl ⊢
        omega
      obtain ⟨i1, i2⟩ := best_fm w n d (come ||| 2 ^ x) (mv w x g) hl2
      have := i1.mem r (by rw [e]; exact hr)
      show vv w x g + Vr w r (mv w x g) ≤ _
      rw [← i2]
      exact Nat.add_le_add_left this _
    have hval : Vr w (k :: gm w n d (come ||| 2 ^ k) (mv w k g)) g = bm w n (d + 1) come g := by
      show vv w k g + Vr w (gm w n d (come ||| 2 ^ k) (mv w k g)) (mv w k g) = _
      rw [f4, hk2]
    refine ⟨?_, hval⟩
    obtain ⟨P, e, hP⟩ := blk_pre (lex d) (k :: D) C []
    rw [List.nil_append] at e
    have e2 : lex (d + 1) (rem n come) = P ++ ((lex d (C ++ D)).map (k :: ·) ++ blk (lex d) (C ++ [k]) D) := by
      rw [r1]; exact e
    rw [← r2, f1, List.map_append, List.map_cons] at e2
    refine ⟨P ++ L1.map (k :: ·), L2.map (k :: ·) ++ blk (lex d) (C ++ [k]) D, ?_, ?_, ?_⟩
    · rw [e2]; simp only [List.append_assoc, List.cons_append]
    · intro q hq
      show Vr w q g < Vr w _ g
      rw [hval]
      rcases List.mem_append.mp hq with hq | hq
      · obtain ⟨C1, x, C2, r, e1, e3, e4⟩ := hP q hq
        rw [List.nil_append] at e4
        have hx : rem n come = C1 ++ x :: (C2 ++ k :: D) := by rw [r1, e1]; simp
        have h1 := hub x C1 (C2 ++ k :: D) r hx e4
        have hxm : x ∈ rem n come := by rw [hx]; simp
        have h2 := hbf x (r3 x (by rw [e1]; simp)) (rem_mem.mp hxm).2
        rw [e3]; omega
      · obtain ⟨r, hr, e3⟩ := List.mem_map.mp hq
        have := f2 r hr
        have : Vr w r (mv w k g) < Vr w (gm w n d (come ||| 2 ^ k) (mv w k g)) (mv w k g) := this
        rw [← e3, ← hk2, ← f4]
        show vv w k g + Vr w r (mv w k g) < _
        omega
    · intro q hq
      show Vr w q g ≤ Vr w _ g
      rw [hval]
      rcases List.mem_append.mp hq with hq | hq
      · obtain ⟨r, hr, e3⟩ := List.mem_map.mp hq
        have := f3 r hr
        have : Vr w r (mv w k g) ≤ Vr w (gm w n d (come ||| 2 ^ k) (mv w k g)) (mv w k g) := this
        rw [← e3, ← hk2, ← f4]
        show vv w k g + Vr w r (mv w k g) ≤ _
        omega
      · obtain ⟨C1, x, C2, r, e1, e3, e4⟩ := blk_mem hq
        have hx : rem n come = ((C ++ [k]) ++ C1) ++ x :: C2 := by rw [r1, e1]; simp
        have h1 := hub x _ _ r hx e4
        have hxm : x ∈ rem n come := by rw [hx]; simp
        have h2 := hle x (rem_mem.mp hxm).1 (rem_mem.mp hxm).2
        rw [e3]; omega
theorem rem_0 (n : Nat) : rem n 0 = List.range n := by
  unfold rem
  apply List.filter_eq_self.mpr
  intro a _
  simp
/-- the best row of all -/
def oR (w : Wt) : List Nat := gm w (nk w) (nk w) 0 (g0 w)
theorem order_fold (w : Wt) : (lex (nk w) (List.range (nk w))).foldl (fmx (fun r => Vr w r (g0 w))) none = some (oR w) := by
  have h := (best_fm w (nk w) (nk w) 0 (g0 w) (by rw [rem_0, List.length_range])).1
  rw [rem_0] at h
  exact h.fold
