/-! ===== the reference's nextRow ===== -/
def lst (ρ : Nat → Nat) : Nat → Nat → List Nat
  | 0, _ => []
  | d + 1, a => ρ a :: lst ρ d (a + 1)
theorem lst_len (ρ : Nat → Nat) : ∀ d a, (lst ρ d a).length = d
  | 0, _ => rfl
  | d + 1, a => by show (lst ρ d (a + 1)).length + 1 = d + 1; rw [lst_len ρ d]
theorem lst_get (ρ : Nat → Nat) : ∀ {d a k : Nat} (h : k < (lst ρ d a).length), (lst ρ d a)[k] = ρ (a + k)
  | 0, _, _, h => absurd h (Nat.not_lt_zero _)
  | d + 1, a, 0, h => rfl
  | d + 1, a, k + 1, h => by
    have := lst_get ρ (d := d) (a := a + 1) (k := k) (by rw [lst_len] at h ⊢; omega)
    show (lst ρ d (a + 1))[k]'_ = _
    rw [this]; congr 1; omega
theorem lst_ext {ρ τ : Nat → Nat} : ∀ {d a : Nat}, (∀ k, a ≤ k → k < a + d → ρ k = τ k) → lst ρ d a = lst τ d a
  | 0, _, _ => rfl
  | d + 1, a, h => by
    show ρ a :: lst ρ d (a + 1) = τ a :: lst τ d (a + 1)
    rw [h a (by omega) (by omega), lst_ext (fun k h1 h2 => h k (by omega) (by omega))]
theorem lst_rev (ρ : Nat → Nat) (d a : Nat) : (lst ρ d a).reverse = lst (fun k => ρ (a + (a + d - 1) - k)) d a := by
  apply List.ext_getElem
  · rw [List.length_reverse, lst_len, lst_len]
  · intro k h1 h2
    rw [lst_len] at h2
    rw [List.getElem_reverse, lst_get, lst_get, lst_len]
    congr 1; omega
theorem lst_mem {ρ : Nat → Nat} {y : Nat} : ∀ {d a : Nat}, y ∈ lst ρ d a → ∃ k, a ≤ k ∧ k < a + d ∧ y = ρ k
  | 0, _, h => absurd h (List.not_mem_nil)
  | d + 1, a, h => by
    rcases List.mem_cons.mp h with h | h
    · exact ⟨a, by omega, by omega, h⟩
    · obtain ⟨k, h1, h2, h3⟩ := lst_mem h
      exact ⟨k, by omega, by omega, h3⟩
theorem lst_dec {ρ : Nat → Nat} : ∀ {d a : Nat}, (∀ x y, a ≤ x → x < y → y < a + d → ρ y < ρ x) → (lst ρ d a).Pairwise (fun a b => b < a)
  | 0, _, _ => List.Pairwise.nil
  | d + 1, a, h => by
    refine List.Pairwise.cons (fun y hy => ?_) (lst_dec (fun x y h1 h2 h3 => h x y (by omega) h2 (by omega)))
    obtain ⟨k, h1, h2, h3⟩ := lst_mem hy
    rw [h3]
    exact h a k (by omega) (by omega) (by omega)
def up1 (ρ : Nat → Nat) (j x k : Nat) : Nat := if k = j then x else ρ k
theorem rpl_lst {ρ : Nat → Nat} {x j : Nat} : ∀ {d a : Nat}, a ≤ j → j < a + d → x ≤ ρ j → (∀ b, j < b → b < a + d → ρ b < x) → rpl x (lst ρ d a) = some (ρ j, lst (up1 ρ j x) d a)
  | 0, a, h1, h2, _, _ => absurd h2 (by omega)
  | d + 1, a, h1, h2, h3, h4 => by
    show (match rpl x (lst ρ d (a + 1)) with
      | some q => some (q.1, ρ a :: q.2)
      | none => if x ≤ ρ a then some (ρ a, x :: lst ρ d (a + 1)) else none) = some (ρ j, up1 ρ j x a :: lst (up1 ρ j x) d (a + 1))
    by_cases c : j = a
    · have e : rpl x (lst ρ d (a + 1)) = none := rpl_none (fun y hy => by
        obtain ⟨k, q1, q2, q3⟩ := lst_mem hy
        rw [q3]; exact h4 k (by omega) (by omega))
      rw [e]
      rw [c] at h3
      simp only [h3, if_true]
      have e2 : lst (up1 ρ j x) d (a + 1) = lst ρ d (a + 1) := lst_ext (fun k q1 q2 => by unfold up1; rw [if_neg (by omega)])
      rw [e2, c]
      simp [up1]
    · rw [rpl_lst (d := d) (a := a + 1) (by omega) (by omega) h3 (fun b q1 q2 => h4 b q1 (by omega))]
      have e : up1 ρ j x a = ρ a := by unfold up1; rw [if_neg (by omega)]
      rw [e]
def swp (ρ : Nat → Nat) (i j k : Nat) : Nat := if k = j then ρ i else if k = i then ρ j else ρ k
def rvs (ρ : Nat → Nat) (a b k : Nat) : Nat := if a ≤ k ∧ k ≤ b then ρ (a + b - k) else ρ k
theorem next_list {ρ : Nat → Nat} {n i j : Nat} (hij : i < j) (hj : j < n) (h1 : ρ i ≤ ρ j) (h2 : ∀ b, j < b → b < n → ρ b < ρ i) (h3 : ∀ x y, i < x → x < y → y < n → ρ y < ρ x) : ∀ (d a : Nat), a + d = i → nextP (lst ρ (n - a) a) = some (lst (rvs (swp ρ i j) (i + 1) (n - 1)) (n - a) a)
  | 0, a, ha => by
    obtain rfl : a = i := by omega
    obtain ⟨m, hm⟩ : ∃ m, n - a = m + 1 := ⟨n - a - 1, by omega⟩
    rw [hm]
    have e1 : nextP (lst ρ m (a + 1)) = none := nextP_dec (lst_dec (fun x y q1 q2 q3 => h3 x y (by omega) q2 (by omega)))
    have e2 : rpl (ρ a) (lst ρ m (a + 1)) = some (ρ j, lst (up1 ρ j (ρ a)) m (a + 1)) := rpl_lst (by omega) (by omega) h1 (fun b q1 q2 => h2 b q1 (by omega))
    show nextP (ρ a :: lst ρ m (a + 1)) = some (rvs (swp ρ a j) (a + 1) (n - 1) a :: lst (rvs (swp ρ a j) (a + 1) (n - 1)) m (a + 1))
    simp only [nextP, e1, e2, lst_rev]
    have e3 : rvs (swp ρ a j) (a + 1) (n - 1) a = ρ j := by
      unfold rvs swp
      rw [if_neg (by omega), if_neg (by omega), if_pos rfl]
    rw [e3]
    congr 2
    apply lst_ext
    intro k q1 q2
    unfold rvs swp up1
    rw [if_pos (show a + 1 ≤ k ∧ k ≤ n - 1 by omega), show a + 1 + (a + 1 + m - 1) - k = a + 1 + (n - 1) - k by omega]
    by_cases c : a + 1 + (n - 1) - k = j
    · rw [if_pos c, if_pos c]
    · rw [if_neg c, if_neg c, if_neg (by omega)]
  | d + 1, a, ha => by
    obtain ⟨m, hm⟩ : ∃ m, n - a = m + 1 := ⟨n - a - 1, by omega⟩
    have ih := next_list hij hj h1 h2 h3 d (a + 1) (by omega)
    rw [show n - (a + 1) = m by omega] at ih
    rw [hm]
    show nextP (ρ a :: lst ρ m (a + 1)) = some (rvs (swp ρ i j) (i + 1) (n - 1) a :: lst (rvs (swp ρ i j) (i + 1) (n - 1)) m (a + 1))
    rw [nextP_cons ih]
    have e3 : rvs (swp ρ i j) (i + 1) (n - 1) a = ρ a := by
      unfold rvs swp
      rw [if_neg (by omega), if_neg (by omega), if_neg (by omega)]
    rw [e3]
def Rw (ρ : Nat → Nat) (n : Nat) (h : pH) : Prop := ∀ k, k < n → h.1 65 k = nI (ρ k)
theorem next_rev (N : Nat) {n : Nat} (hn : n ≤ 8) : ∀ (fuel a b : Nat) (ρ : Nat → Nat) (h : pH), b + 1 ≤ fuel + a → 0 < fuel → b < n → a ≤ n → Rw ρ n h →
    ∃ h', fX9_nextRow_L107 N fuel h (nI a) (nI b) = some (1, h') ∧ Kp (fun a _ => a = 65) h h' ∧ Rw (rvs ρ a b) n h' := by
  intro fuel
  induction fuel with
  | zero => intro a b ρ h _ h0; omega
  | succ fuel ih =>
    intro a b ρ h hf _ hb han hR
    have unf : fX9_nextRow_L107 N (fuel + 1) h (nI a) (nI b) = fX9_nextRow_B107 N (fX9_nextRow_L107 N fuel) h (nI a) (nI b) := rfl
    rw [unf]
    simp only [fX9_nextRow_B107]
    by_cases c : a < 8
    · by_cases c2 : b ≤ a
      · rw [if_pos (by rw [nI_leI (by omega) (by omega)]; exact c2)]
        refine ⟨h, rfl, Kp.rf h, fun k hk => ?_⟩
        rw [hR k hk]
        unfold rvs
        by_cases c3 : a ≤ k ∧ k ≤ b
        · rw [if_pos c3]; congr 2; omega
        · rw [if_neg c3]
      · obtain ⟨b, rfl⟩ : ∃ m, b = m + 1 := ⟨b - 1, by omega⟩
        have hRs : Rw (swp ρ a (b + 1)) n (pw (pw h 65 a (h.1 65 (b + 1))) 65 (b + 1) (h.1 65 a)) := by
          intro k hk
          simp only [pw_at, Nat.reduceEqDiff, Nat.reduceAdd, Nat.reduceMul, Nat.reduceSub, Nat.reduceLeDiff, reduceIte, and_true, true_and, and_false, false_and, and_self, if_true, if_false, Bool.false_eq_true, not_true_eq_false, not_false_eq_true]
          unfold swp
          by_cases c3 : k = b + 1
          · rw [if_pos c3, if_pos c3, hR a (by omega)]
          · rw [if_neg c3, if_neg c3]
            by_cases c4 : k = a
            · rw [if_pos c4, if_pos c4, hR (b + 1) hb]
            · rw [if_neg c4, if_neg c4, hR k hk]
        obtain ⟨h', e, k1, k2⟩ := ih (a + 1) b (swp ρ a (b + 1)) _ (by omega) (by omega) (by omega) (by omega) hRs
        refine ⟨h', ?_, (((Kp.rf h).pw (S := fun a _ => a = 65) rfl).pw rfl).tr k1, ?_⟩
        · rw [if_neg (by rw [nI_leI (by omega) (by omega)]; omega)]
          rw [← e]
          simp (disch := omega) only [ix_nI, nI_clamp, if_true, nI_1, pk_m1]
        · intro k hk
          rw [k2 k hk]
          congr 1
          unfold rvs swp
          by_cases c3 : k = a
          · rw [if_neg (by omega), if_neg (by omega), if_pos c3, if_pos (by omega)]; congr 1; omega
          · by_cases c4 : k = b + 1
            · rw [if_neg (by omega), if_pos c4, if_pos (by omega)]; congr 1; omega
            · by_cases c5 : a + 1 ≤ k ∧ k ≤ b
              · rw [if_pos c5, if_neg (by omega), if_neg (by omega), if_pos (by omega)]; congr 1; omega
              · rw [if_neg c5, if_neg c4, if_neg c3, if_neg (by omega)]
    · rw [if_pos (by rw [nI_leI (by omega) (by omega)]; omega)]
      refine ⟨h, rfl, Kp.rf h, fun k hk => ?_⟩
      rw [hR k hk]
      unfold rvs
      rw [if_neg (by omega)]
def NX (ρ : Nat → Nat) (n : Nat) (h h' : pH) (v : Int32) : Prop := (v = 0 ∧ h' = h ∧ nextP (lst ρ n 0) = none) ∨ (v = 1 ∧ ∃ τ, nextP (lst ρ n 0) = some (lst τ n 0) ∧ Rw τ n h' ∧ (∀ k, k < n → τ k < 100) ∧ Kp (fun a _ => a = 65) h h')
theorem next_swap (N : Nat) (hN : 1000 ≤ N) {n i : Nat} {ρ : Nat → Nat} {h : pH} (hn : n ≤ 8) (hR : Rw ρ n h) (hv : ∀ k, k < n → ρ k < 100) (hnk : h.1 49 9 = nI n) : ∀ (fuel j : Nat), i < j → j < n → j < fuel → (∃ q, i < q ∧ q ≤ j ∧ ρ i ≤ ρ q) →
    ∃ js h', fX9_nextRow_L47 N fuel h (nI i) (nI j) = some (1, h') ∧ i < js ∧ js ≤ j ∧ ρ i ≤ ρ js ∧ (∀ b, js < b → b ≤ j → ρ b < ρ i) ∧ Kp (fun a _ => a = 65) h h' ∧ Rw (rvs (swp ρ i js) (i + 1) (n - 1)) n h' := by
  intro fuel
  induction fuel with
  | zero => intro j _ _ h0; omega
  | succ fuel ih =>
    intro j h1 h2 h3 h4
    have unf : fX9_nextRow_L47 N (fuel + 1) h (nI i) (nI j) = fX9_nextRow_B47 N (fX9_nextRow_L47 N fuel) h (nI i) (nI j) := rfl
    rw [unf]
    have vi := hv i (by omega)
    have vj := hv j h2
    simp (disch := omega) only [fX9_nextRow_B47, ix_nI, nI_clamp, if_true, hR i (by omega), hR j h2, nI_leI]
    by_cases c : ρ i ≤ ρ j
    · rw [if_pos c]
      have hRs : Rw (swp ρ i j) n (pw (pw h 65 i (nI (ρ j))) 65 j (nI (ρ i))) := by
        intro k hk
        simp only [pw_at, Nat.reduceEqDiff, Nat.reduceAdd, Nat.reduceMul, Nat.reduceSub, Nat.reduceLeDiff, reduceIte, and_true, true_and, and_false, false_and, and_self, if_true, if_false, Bool.false_eq_true, not_true_eq_false, not_false_eq_true]
        unfold swp
        by_cases c3 : k = j
        · rw [if_pos c3, if_pos c3]
        · rw [if_neg c3, if_neg c3]
          by_cases c4 : k = i
          · rw [if_pos c4, if_pos c4]
          · rw [if_neg c4, if_neg c4, hR k hk]
      obtain ⟨h', e, k1, k2⟩ := next_rev N hn N (i + 1) (n - 1) (swp ρ i j) _ (by omega) (by omega) (by omega) (by omega) hRs
      refine ⟨j, h', ?_, h1, Nat.le_refl _, c, fun b q1 q2 => absurd q1 (by omega), (((Kp.rf h).pw (S := fun a _ => a = 65) rfl).pw rfl).tr k1, k2⟩
      simp only [pw_at, Nat.reduceEqDiff, Nat.reduceAdd, Nat.reduceMul, Nat.reduceSub, Nat.reduceLeDiff, reduceIte, and_true, true_and, and_false, false_and, and_self, if_true, if_false, Bool.false_eq_true, not_true_eq_false, not_false_eq_true, hnk, nI_1]
      rw [show (1 : Int32) = nI 1 from rfl, pk_sub (by omega)]
      exact e
    · rw [if_neg c]
      obtain ⟨j, rfl⟩ : ∃ m, j = m + 1 := ⟨j - 1, by omega⟩
      obtain ⟨q, q1, q2, q3⟩ := h4
      have hq : q ≠ j + 1 := fun z => by rw [z] at q3; omega
      obtain ⟨js, h', e, r1, r2, r3, r4, r5⟩ := ih j (by omega) (by omega) (by omega) ⟨q, q1, by omega, q3⟩
      refine ⟨js, h', ?_, r1, by omega, r3, ?_, r5⟩
      · rw [pk_m1]; exact e
      · intro b b1 b2
        by_cases z : b = j + 1
        · rw [z]; omega
        · exact r4 b b1 (by omega)
theorem rvs_lt {ρ : Nat → Nat} {n a : Nat} (hv : ∀ k, k < n → ρ k < 100) : ∀ k, k < n → rvs ρ a (n - 1) k < 100 := by
  intro k hk
  unfold rvs
  split
  · exact hv _ (by omega)
  · exact hv k hk
theorem swp_lt {ρ : Nat → Nat} {n i j : Nat} (hv : ∀ k, k < n → ρ k < 100) (hi : i < n) (hj : j < n) : ∀ k, k < n → swp ρ i j k < 100 := by
  intro k hk
  unfold swp
  split
  · exact hv i hi
  · split
    · exact hv j hj
    · exact hv k hk
theorem next_find (N : Nat) (hN : 1000 ≤ N) {n : Nat} {ρ : Nat → Nat} {h : pH} (hn : n ≤ 8) (hR : Rw ρ n h) (hv : ∀ k, k < n → ρ k < 100) (hnk : h.1 49 9 = nI n) : ∀ (fuel m : Nat), m < n → m < fuel → (∀ x y, m ≤ x → x < y → y < n → ρ y < ρ x) →
    ∃ v h', fX9_nextRow_L7 N fuel h (nI m + (-1)) = some (v, h') ∧ NX ρ n h h' v := by
  intro fuel
  induction fuel with
  | zero => intro m _ h0; omega
  | succ fuel ih =>
    intro m h1 h2 h3
    have unf : fX9_nextRow_L7 N (fuel + 1) h (nI m + (-1)) = fX9_nextRow_B7 N (fX9_nextRow_L7 N fuel) h (nI m + (-1)) := rfl
    rw [unf]
    by_cases c : m = 0
    · refine ⟨0, h, ?_, Or.inl ⟨rfl, rfl, nextP_dec (lst_dec (fun x y q1 q2 q3 => h3 x y (by omega) q2 (by omega)))⟩⟩
      subst c
      simp only [fX9_nextRow_B7, fX9_nextRow_b34]
      rw [if_pos (by decide), if_neg (by decide)]
    · obtain ⟨m, rfl⟩ : ∃ q, m = q + 1 := ⟨m - 1, by omega⟩
      rw [pk_m1]
      have vi := hv m (by omega)
      have vj := hv (m + 1) h1
      simp (disch := omega) only [fX9_nextRow_B7, fX9_nextRow_b34, nI_1, ix_nI, nI_clamp, if_true, hR m (by omega), hR (m + 1) h1, nI_leI, hnk]
      rw [if_neg (by exact nI_pos (by omega))]
      by_cases c2 : ρ m ≤ ρ (m + 1)
      · rw [if_pos c2, if_pos (nI_pos' (by omega)), show (1 : Int32) = nI 1 from rfl, pk_sub (by omega)]
        obtain ⟨js, h', e, r1, r2, r3, r4, r5, r6⟩ := next_swap N hN hn hR hv hnk N (n - 1) (i := m) (by omega) (by omega) (by omega) ⟨m + 1, by omega, by omega, c2⟩
        refine ⟨1, h', e, Or.inr ⟨rfl, _, ?_, r6, rvs_lt (swp_lt hv (by omega) (by omega)), r5⟩⟩
        have := next_list (ρ := ρ) (n := n) (i := m) (j := js) r1 (by omega) r3 (fun b q1 q2 => r4 b q1 (by omega)) (fun x y q1 q2 q3 => h3 x y (by omega) q2 q3) m 0 (by omega)
        exact this
      · rw [if_neg c2]
        refine ih m (by omega) (by omega) (fun x y q1 q2 q3 => ?_)
        by_cases z : x = m
        · rw [z]
          by_cases z2 : y = m + 1
          · rw [z2]; omega
          · have := h3 (m + 1) y (by omega) (by omega) q3
            omega
        · exact h3 x y (by omega) q2 q3
theorem nextRow_eq {N : Nat} (hN : 1000 ≤ N) {n : Nat} {ρ : Nat → Nat} {h : pH} (hn : n ≤ 8) (hR : Rw ρ n h) (hv : ∀ k, k < n → ρ k < 100) (hnk : h.1 49 9 = nI n) : ∃ v h', fX9_nextRow N h = some (v, h') ∧ NX ρ n h h' v := by
  rw [fX9_nextRow, hnk]
  by_cases c : n = 0
  · subst c
    obtain ⟨N, rfl⟩ : ∃ m, N = m + 1 := ⟨N - 1, by omega⟩
    refine ⟨0, h, ?_, Or.inl ⟨rfl, rfl, rfl⟩⟩
    show fX9_nextRow_B7 (N + 1) (fX9_nextRow_L7 (N + 1) N) h (nI 0 - 2) = _
    simp only [fX9_nextRow_B7, fX9_nextRow_b34]
    rw [if_pos (by decide), if_neg (by decide)]
  · have e : nI n - 2 = nI (n - 1) + (-1) := by
      rcases (show n = 1 ∨ n = 2 ∨ n = 3 ∨ n = 4 ∨ n = 5 ∨ n = 6 ∨ n = 7 ∨ n = 8 by omega) with rfl | rfl | rfl | rfl | rfl | rfl | rfl | rfl <;> decide
    rw [e]
    exact next_find N hN hn hR hv hnk N (n - 1) (by omega) (by omega) (fun x y q1 q2 q3 => absurd q2 (by omega))
