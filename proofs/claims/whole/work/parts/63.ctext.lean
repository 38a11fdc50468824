/-! ===== the class: its texts ===== -/
def Kq (S : Nat → Nat → Prop) (h h' : pH) : Prop := ∀ a b, ¬ S a b → h'.1 a b = h.1 a b
theorem Kq.rf {S : Nat → Nat → Prop} (h : pH) : Kq S h h := fun _ _ _ => rfl
theorem Kq.tr {S : Nat → Nat → Prop} {a b c : pH} (h1 : Kq S a b) (h2 : Kq S b c) : Kq S a c := fun x y z => (h2 x y z).trans (h1 x y z)
theorem Kq.mono {S T : Nat → Nat → Prop} {a b : pH} (h : Kq S a b) (hST : ∀ x y, S x y → T x y) : Kq T a b := fun x y z => h x y (fun q => z (hST x y q))
theorem Kq.pw {S : Nat → Nat → Prop} {h h' : pH} {k j : Nat} {v : Int32} (h1 : Kq S h h') (hj : S k j) : Kq S h (pw h' k j v) := fun a b z => by
  rw [pw_at, if_neg (fun c => z (by rw [c.1, c.2]; exact hj))]
  exact h1 a b z
/-- all that the class works out anew -/
def SQ (a b : Nat) : Prop := (a = 1 ∧ b ≠ 13) ∨ (a = 9 ∧ b = 3) ∨ (11 ≤ a ∧ a ≤ 34)
/-- what the class keeps -/
def Ac (σ : St) (h : pH) : Prop := (∀ t, t < 3 → h.1 (3 + t) 1 = nI (t_l σ t)) ∧ (∀ t, t < 3 → ∀ i, i < t_l σ t → h.1 (6 + t) i = t_b σ t i) ∧ h.1 9 0 = nI (t_rv σ) ∧ h.1 9 1 = nI (t_bg σ) ∧ (∀ k, k < 4 → h.1 10 k = sI (t_sh σ k)) ∧ (∀ s, s < 4 → h.1 (41 + s) 1 = (if 0 ≤ t_fm σ s then 0 else 1) ∧ (0 ≤ t_fm σ s → h.1 (41 + s) 2 = sI (t_fm σ s)) ∧ h.1 (41 + s) 3 = nI (t_sz σ s)) ∧ (∀ s, s < 4 → ∀ i, i < t_sz σ s → h.1 (45 + s) i = t_it σ s i) ∧ h.1 35 2 = nI (t_cn σ) ∧ (∀ k, k < t_cn σ → h.1 36 k = nI (t_sb σ k) ∧ h.1 37 k = nI (t_sp σ k)) ∧ h.1 1 13 = t_lf σ
theorem Ac.kq {σ : St} {h h' : pH} (k : Kq SQ h h') (hA : Ac σ h) : Ac σ h' := by
  obtain ⟨h1, h2, h3, h4, h5, h6, h7, h8, h9, h10⟩ := hA
  have e : ∀ a b, ¬ SQ a b → h'.1 a b = h.1 a b := k
  unfold SQ at e
  refine ⟨?_, ?_, ?_, ?_, ?_, ?_, ?_, ?_, ?_, ?_⟩
  · intro t ht; rw [e _ _ (by omega)]; exact h1 t ht
  · intro t ht i hi; rw [e _ _ (by omega)]; exact h2 t ht i hi
  · rw [e _ _ (by omega)]; exact h3
  · rw [e _ _ (by omega)]; exact h4
  · intro k hk; rw [e _ _ (by omega)]; exact h5 k hk
  · intro s hs; rw [e _ _ (by omega), e _ _ (by omega), e _ _ (by omega)]; exact h6 s hs
  · intro s hs i hi; rw [e _ _ (by omega)]; exact h7 s hs i hi
  · rw [e _ _ (by omega)]; exact h8
  · intro k hk; rw [e _ _ (by omega), e _ _ (by omega)]; exact h9 k hk
  · rw [e _ _ (by omega)]; exact h10
theorem at_t {σ : St} {h : pH} (hS : Sok σ) (hA : Ac σ h) (N : Nat) {t i : Nat} (ht : t < 3) (hi : i < t_l σ t) : fX7_at N h (3 + t) (nI i) = some (t_b σ t i, h) := by
  have hl := hS.1 t ht
  have hl2 := lim_le t
  obtain ⟨r1, r2, r3, r4, r5, r6⟩ := r_text ht
  simp only [fX7_at, fX7_at_b22, r1, r2, r3, r4, r5, hA.1 t ht, if_true, true_and]
  rw [if_neg (nI_pos (by omega)), if_neg (by rw [nI_leI (by omega) (by omega)]; omega), if_pos (by omega), if_pos (ix_nI (by omega) (by omega)), nI_clamp (by omega), hA.2.1 t ht i hi]
def plc (x : Int32) : List Int32 → Nat → Int32
  | [], _ => -1
  | c :: l, i => if c = x then nI i else plc x l (i + 1)
theorem stL_len {t : Nat} (ht : t < 7) : (stL t).length ≤ 10 := by
  rcases (show t = 0 ∨ t = 1 ∨ t = 2 ∨ t = 3 ∨ t = 4 ∨ t = 5 ∨ t = 6 by omega) with rfl | rfl | rfl | rfl | rfl | rfl | rfl <;> decide
theorem place_loop (N : Nat) (h : pH) (x : Int32) {t : Nat} (ht : t < 7) : ∀ (l : List Int32) (n i : Nat), (stL t).drop i = l → i ≤ (stL t).length → l.length < n → fX8_placeOf_L2 N n h x t (nI i) = some (plc x l i, h) := by
  have hl := stL_len ht
  intro l
  induction l with
  | nil =>
    intro n i hd hi hn
    obtain ⟨n, rfl⟩ : ∃ m, n = m + 1 := ⟨n - 1, by omega⟩
    have hd := List.drop_eq_nil_iff.mp hd
    show fX8_placeOf_B2 N (fX8_placeOf_L2 N n) h _ _ _ = _
    simp only [fX8_placeOf_B2, ht, if_true]
    rw [if_pos (by rw [show Int32.ofNat (stL t).length = nI (stL t).length from rfl, nI_leI (by omega) (by omega)]; omega)]
    rfl
  | cons c l ih =>
    intro n i hd hi hn
    obtain ⟨n, rfl⟩ : ∃ m, n = m + 1 := ⟨n - 1, by omega⟩
    have hlen : i < (stL t).length := by
      rcases Nat.lt_or_ge i (stL t).length with z | z
      · exact z
      · rw [List.drop_eq_nil_of_le z] at hd; cases hd
    have hc : stc t i = c := by
      unfold stc
      rw [List.drop_eq_getElem_cons hlen] at hd
      rw [List.getD_eq_getElem?_getD, List.getElem?_eq_getElem hlen, Option.getD_some]
      exact (List.cons.inj hd).1
    have hd2 : (stL t).drop (i + 1) = l := by
      rw [List.drop_eq_getElem_cons hlen] at hd
      exact (List.cons.inj hd).2
    have e := ih n (i + 1) hd2 (by omega) (by simp at hn; omega)
    show fX8_placeOf_B2 N (fX8_placeOf_L2 N n) h _ _ _ = _
    simp only [fX8_placeOf_B2, ht, if_true, true_and]
    rw [if_neg (by rw [show Int32.ofNat (stL t).length = nI (stL t).length from rfl, nI_leI (by omega) (by omega)]; omega), if_pos (ix_nI hlen (by omega)), nI_clamp (by omega), hc, nI_1, e]
    show _ = some (if c = x then nI i else plc x l (i + 1), h)
    by_cases c1 : c = x
    · rw [if_pos c1, if_pos c1]
    · rw [if_neg c1, if_neg c1]
theorem place_eq {N : Nat} (hN : 1000 ≤ N) (h : pH) (x : Int32) {t : Nat} (ht : t < 7) : fX8_placeOf N h x t = some (plc x (stL t) 0, h) := by
  have hl := stL_len ht
  exact place_loop N h x ht (stL t) N 0 rfl (by omega) (by omega)
def rngL : Nat → Nat → List Int32
  | _, 0 => []
  | a, n + 1 => nI a :: rngL (a + 1) n
theorem plc_rng (x : Int32) : ∀ (n a i : Nat), a + n < 1000 → plc x (rngL a n) i = if (a : Int) ≤ x.toInt ∧ x.toInt < a + n then nI (i + (x.toInt - a).toNat) else -1
  | 0, a, i, _ => by rw [if_neg (by omega)]; rfl
  | n + 1, a, i, h => by
    show (if nI a = x then nI i else plc x (rngL (a + 1) n) (i + 1)) = _
    by_cases c : nI a = x
    · subst c
      rw [if_pos rfl, nI_toInt (by omega), if_pos (by omega)]
      congr 1; omega
    · have hx : x.toInt ≠ a := fun z => c (by
        apply Int32.toInt_inj.mp
        rw [nI_toInt (by omega), z])
      rw [if_neg c, plc_rng x n (a + 1) (i + 1) (by omega)]
      by_cases c2 : (a : Int) ≤ x.toInt ∧ x.toInt < a + (n + 1 : Nat)
      · rw [if_pos c2, if_pos (by omega)]
        congr 1; omega
      · rw [if_neg c2, if_neg (by omega)]
def sgn (t i : Nat) : Nat := if t = 0 then 0 else if t = 2 then 6 else 1 + i % 5
theorem sgn_lt {t i : Nat} : sgn t i < 7 := by unfold sgn; split <;> (try split) <;> omega
theorem signs_eq (N : Nat) (h : pH) {t i : Nat} (ht : t < 3) (hi : i < 1000) : fX8_signsFor N h (nI t) (nI i) = some (sgn t i, h) := by
  have hr : nI i - nI i / 5 * 5 = nI (i % 5) := pk_rem (d := 5) (by omega) (by decide) (by decide)
  simp only [fX8_signsFor, sgn, hr]
  rcases (show t = 0 ∨ t = 1 ∨ t = 2 by omega) with rfl | rfl | rfl
  · rw [if_pos (by decide), if_pos rfl]
  · rw [if_neg (show ¬ nI 1 = 0 by decide), if_neg (show ¬ nI 1 = 2 by decide)]
    have : i % 5 < 5 := Nat.mod_lt _ (by decide)
    rcases (show i % 5 = 0 ∨ i % 5 = 1 ∨ i % 5 = 2 ∨ i % 5 = 3 ∨ i % 5 = 4 by omega) with e | e | e | e | e <;> rw [e] <;> rfl
  · rw [if_neg (by decide), if_pos (by decide), if_neg (by decide), if_pos rfl]
theorem pl_0 (b : Int32) : plc b (stL 0) 0 = if b = 46 then 0 else if b = 114 then 1 else -1 := by
  show (if (46 : Int32) = b then nI 0 else if (114 : Int32) = b then nI 1 else -1) = _
  simp only [eq_comm (b := b)]; rfl
theorem pl_6 (b : Int32) : plc b (stL 6) 0 = if 97 ≤ b ∧ b ≤ 104 then nI (b.toInt - 97).toNat else -1 := by
  have e : stL 6 = rngL 97 8 := rfl
  rw [e, plc_rng b 8 97 0 (by decide)]
  simp only [le_toInt, show (97 : Int32).toInt = 97 from by decide, show (104 : Int32).toInt = 104 from by decide, Nat.zero_add]
  by_cases c : (97 : Int) ≤ b.toInt ∧ b.toInt ≤ 104
  · rw [if_pos c, if_pos (by omega)]; rfl
  · rw [if_neg c, if_neg (by omega)]
theorem pl_k (b : Int32) : plc b (stL 1) 0 = if gk 0 b then nI (vk 0 b) else -1 := by
  show (if (112 : Int32) = b then nI 0 else if (104 : Int32) = b then nI 1 else if (99 : Int32) = b then nI 2 else if (103 : Int32) = b then nI 3 else if (98 : Int32) = b then nI 4 else -1) = _
  simp only [eq_comm (b := b), gk, vk, if_true, decide_eq_true_eq]
  by_cases c1 : b = 112
  · simp [c1]
  · by_cases c2 : b = 104
    · simp [c2]
    · by_cases c3 : b = 99
      · simp [c3]
      · by_cases c4 : b = 103
        · simp [c4]
        · by_cases c5 : b = 98
          · simp [c5]
          · simp [c1, c2, c3, c4, c5]
theorem pl_w (b : Int32) : plc b (stL 2) 0 = if gk 1 b then nI (vk 1 b - 1) else -1 := by
  have e : stL 2 = rngL 49 9 := rfl
  rw [e, plc_rng b 9 49 0 (by decide)]
  simp only [gk, vk, Nat.reduceEqDiff, if_false, if_true, decide_eq_true_eq, le_toInt, show (49 : Int32).toInt = 49 from by decide, show (57 : Int32).toInt = 57 from by decide, Nat.zero_add, Nat.one_ne_zero]
  by_cases c : (49 : Int) ≤ b.toInt ∧ b.toInt ≤ 57
  · rw [if_pos c, if_pos (by omega)]; congr 1; omega
  · rw [if_neg c, if_neg (by omega)]
theorem pl_e (b : Int32) : plc b (stL 3) 0 = if gk 2 b then nI (vk 2 b) else -1 := by
  show (if (119 : Int32) = b then nI 0 else if (101 : Int32) = b then nI 1 else -1) = _
  simp only [eq_comm (b := b), gk, vk, Nat.reduceEqDiff, if_false, if_true, decide_eq_true_eq]
  by_cases c1 : b = 119
  · simp [c1]
  · by_cases c2 : b = 101
    · simp [c2]
    · simp [c1, c2]
theorem pl_l (b : Int32) : plc b (stL 4) 0 = if gk 3 b then nI (vk 3 b) else -1 := by
  have e : stL 4 = rngL 48 10 := rfl
  rw [e, plc_rng b 10 48 0 (by decide)]
  simp only [gk, vk, Nat.reduceEqDiff, if_false, if_true, decide_eq_true_eq, le_toInt, show (48 : Int32).toInt = 48 from by decide, show (57 : Int32).toInt = 57 from by decide, Nat.zero_add]
  by_cases c : (48 : Int) ≤ b.toInt ∧ b.toInt ≤ 57
  · rw [if_pos c, if_pos (by omega)]; rfl
  · rw [if_neg c, if_neg (by omega)]
theorem pl_b (b : Int32) : plc b (stL 5) 0 = if gk 4 b then 0 else -1 := by
  show (if (59 : Int32) = b then nI 0 else -1) = _
  simp only [eq_comm (b := b), gk, Nat.reduceEqDiff, if_false, decide_eq_true_eq]
  rfl
theorem nI_nm1 {v : Nat} (h : v < 2 ^ 31) : ¬ nI v = -1 := by
  intro e
  have := congrArg Int32.toInt e
  rw [nI_toInt h] at this
  have : (v : Int) = -1 := this
  omega
def gT (σ : St) (t i : Nat) : Bool := if t = 0 then gP (t_b σ 0) i else if t = 1 then gC (t_b σ 1) i else gX (t_b σ 2) i
theorem good_iff {σ : St} {t i : Nat} (ht : t < 3) : plc (t_b σ t i) (stL (sgn t i)) 0 = -1 ↔ gT σ t i = false := by
  rcases (show t = 0 ∨ t = 1 ∨ t = 2 by omega) with rfl | rfl | rfl
  · show plc (t_b σ 0 i) (stL 0) 0 = -1 ↔ gP (t_b σ 0) i = false
    rw [pl_0]
    unfold gP
    by_cases c1 : t_b σ 0 i = 46
    · simp [c1]
    · by_cases c2 : t_b σ 0 i = 114
      · simp [c2]
      · simp [c1, c2]
  · show plc (t_b σ 1 i) (stL (1 + i % 5)) 0 = -1 ↔ gC (t_b σ 1) i = false
    unfold gC
    have : i % 5 < 5 := Nat.mod_lt _ (by decide)
    have key : ∀ (r v : Nat), v < 2 ^ 31 → ((if gk r (t_b σ 1 i) then nI v else -1) = (-1 : Int32) ↔ gk r (t_b σ 1 i) = false) := by
      intro r v hv
      cases c : gk r (t_b σ 1 i)
      · simp
      · simp [nI_nm1 hv]
    have hv : ∀ r, r < 5 → gk r (t_b σ 1 i) = true → vk r (t_b σ 1 i) < 100 := fun r hr h => vk_lt h hr
    have key2 : ∀ (r : Nat), r < 5 → ((if gk r (t_b σ 1 i) then nI (vk r (t_b σ 1 i)) else -1) = (-1 : Int32) ↔ gk r (t_b σ 1 i) = false) := by
      intro r hr
      cases c : gk r (t_b σ 1 i)
      · simp
      · have := hv r hr c
        simp [nI_nm1 (show vk r (t_b σ 1 i) < 2 ^ 31 by omega)]
    rcases (show i % 5 = 0 ∨ i % 5 = 1 ∨ i % 5 = 2 ∨ i % 5 = 3 ∨ i % 5 = 4 by omega) with e | e | e | e | e
    · rw [e, pl_k]; exact key2 0 (by omega)
    · rw [e, pl_w]
      cases c : gk 1 (t_b σ 1 i)
      · simp
      · have := hv 1 (by omega) c
        simp [nI_nm1 (show vk 1 (t_b σ 1 i) - 1 < 2 ^ 31 by omega)]
    · rw [e, pl_e]; exact key2 2 (by omega)
    · rw [e, pl_l]; exact key2 3 (by omega)
    · rw [e, pl_b]; exact key 4 0 (by omega)
  · show plc (t_b σ 2 i) (stL 6) 0 = -1 ↔ gX (t_b σ 2) i = false
    rw [pl_6]
    unfold gX
    by_cases c : 97 ≤ t_b σ 2 i ∧ t_b σ 2 i ≤ 104
    · have h2 : (t_b σ 2 i).toInt ≤ 104 := by have := le_toInt.mp c.2; exact this
      rw [if_pos c, decide_eq_true c]
      simp [nI_nm1 (show ((t_b σ 2 i).toInt - 97).toNat < 2 ^ 31 by omega)]
    · rw [if_neg c, decide_eq_false c]; simp
def fEnd (σ : St) (t : Nat) : Int32 := if t = 1 then (if t_l σ 1 = 0 ∨ t_l σ 1 % 5 = 4 then -1 else nI (t_l σ 1)) else -1
theorem cfault_loop {σ : St} {h : pH} (hS : Sok σ) (hA : Ac σ h) {N : Nat} (hN : 1000 ≤ N) {t : Nat} (ht : t < 3) : ∀ (d n i : Nat), i + d = t_l σ t → d < n →
    fX8_faultOf_L2 N n h (nI t) (3 + t) (nI i) = some (if ffr (gT σ t) d i = t_l σ t then fEnd σ t else nI (ffr (gT σ t) d i), h) := by
  have hl := hS.1 t ht
  have hl2 := lim_le t
  obtain ⟨r1, r2, r3, r4, r5, r6⟩ := r_text ht
  intro d
  induction d with
  | zero =>
    intro n i hi hn
    obtain ⟨n, rfl⟩ : ∃ m, n = m + 1 := ⟨n - 1, by omega⟩
    obtain rfl : i = t_l σ t := by omega
    show fX8_faultOf_B2 N (fX8_faultOf_L2 N n) h _ _ _ = _
    simp only [fX8_faultOf_B2, fX8_faultOf_b57, fX8_faultOf_b62, fX8_faultOf_b75, r2, if_true, hA.1 t ht, ffr]
    rw [if_pos (Int32.le_refl _)]
    unfold fEnd
    rcases (show t = 0 ∨ t = 1 ∨ t = 2 by omega) with rfl | rfl | rfl
    · rw [if_neg (by decide), if_neg (by decide), if_neg (by decide)]
    · rw [if_pos (by decide), if_pos rfl, show nI (t_l σ 1) - nI (t_l σ 1) / 5 * 5 = nI (t_l σ 1 % 5) from pk_rem (d := 5) (by omega) (by decide) (by decide)]
      by_cases c : t_l σ 1 = 0
      · rw [if_pos (by rw [c]; rfl), if_neg (by decide), if_pos (Or.inl c)]
      · rw [if_neg (by rw [show (0 : Int32) = nI 0 from rfl, nI_eq (by omega) (by omega)]; exact c)]
        by_cases c2 : t_l σ 1 % 5 = 4
        · rw [if_pos (by rw [c2]; rfl), if_neg (by decide), if_pos (Or.inr c2)]
        · rw [if_neg (by rw [show (4 : Int32) = nI 4 from rfl, nI_eq (by omega) (by omega)]; exact c2), if_neg (by omega)]
    · rw [if_neg (by decide), if_neg (by decide), if_neg (by decide)]
  | succ d ih =>
    intro n i hi hn
    obtain ⟨n, rfl⟩ : ∃ m, n = m + 1 := ⟨n - 1, by omega⟩
    have e := ih n (i + 1) (by omega) (by omega)
    show fX8_faultOf_B2 N (fX8_faultOf_L2 N n) h _ _ _ = _
    simp only [fX8_faultOf_B2, r1, r2, if_true, hA.1 t ht]
    rw [if_neg (by rw [nI_leI (by omega) (by omega)]; omega), at_t hS hA N ht (by omega)]
    simp only [Option.bind_some, signs_eq N h ht (show i < 1000 by omega), place_eq hN h _ sgn_lt, nI_1, good_iff ht]
    cases c : gT σ t i
    · simp only [if_true, ffr, c, Bool.false_eq_true, if_false]
      rw [if_neg (by omega)]
    · simp only [Bool.true_eq_false, if_false, ffr, c, if_true]
      exact e
theorem cfault_eq {σ : St} {h : pH} (hS : Sok σ) (hA : Ac σ h) {N : Nat} (hN : 1000 ≤ N) {t : Nat} (ht : t < 3) : fX8_faultOf N h (nI t) (3 + t) = some (flt σ t, h) := by
  have hl := hS.1 t ht
  have hl2 := lim_le t
  have e := cfault_loop hS hA hN ht (t_l σ t) N 0 (by omega) (by omega)
  rw [fX8_faultOf, show (0 : Int32) = nI 0 from rfl, e]
  unfold flt fEnd
  rcases (show t = 0 ∨ t = 1 ∨ t = 2 by omega) with rfl | rfl | rfl
  · rfl
  · rfl
  · rfl
def lwf (σ : St) (t : Nat) : Nat := if t = 0 then np (wOf σ) else if t = 1 then (if fC (t_l σ 1) (t_b σ 1) = t_l σ 1 ∧ (t_l σ 1 = 0 ∨ t_l σ 1 % 5 = 4) then t_l σ 1 else 0) else nc (wOf σ)
theorem lwf_eq {σ : St} {h : pH} (hS : Sok σ) (hA : Ac σ h) {N : Nat} (hN : 1000 ≤ N) {t : Nat} (ht : t < 3) : fX8_lengthWithoutFault N h (nI t) (3 + t) = some (nI (lwf σ t), h) := by
  have hl := hS.1 t ht
  have hl2 := lim_le t
  obtain ⟨r1, r2, r3, r4, r5, r6⟩ := r_text ht
  simp only [fX8_lengthWithoutFault, fX8_lengthWithoutFault_b17, cfault_eq hS hA hN ht, Option.bind_some, r2, if_true, hA.1 t ht]
  unfold flt lwf
  rcases (show t = 0 ∨ t = 1 ∨ t = 2 by omega) with rfl | rfl | rfl
  · simp only [if_true]
    have hb := ffr_le (gP (t_b σ 0)) (t_l σ 0) 0
    have hb : fP (t_l σ 0) (t_b σ 0) ≤ 0 + t_l σ 0 := hb.2
    show _ = some (nI (if fP (t_l σ 0) (t_b σ 0) = t_l σ 0 then t_l σ 0 else 0), h)
    by_cases c : fP (t_l σ 0) (t_b σ 0) = t_l σ 0
    · simp only [c, if_true]
    · simp only [c, if_false, nI_nm1 (show fP (t_l σ 0) (t_b σ 0) < 2 ^ 31 by omega)]; rfl
  · simp only [Nat.one_ne_zero, if_false, if_true]
    have hb := ffr_le (gC (t_b σ 1)) (t_l σ 1) 0
    have hb : fC (t_l σ 1) (t_b σ 1) ≤ 0 + t_l σ 1 := hb.2
    by_cases c : fC (t_l σ 1) (t_b σ 1) = t_l σ 1
    · by_cases c2 : t_l σ 1 = 0 ∨ t_l σ 1 % 5 = 4
      · simp only [c, c2, if_true, and_self]
      · simp only [c, c2, if_true, if_false, and_false, nI_nm1 (show t_l σ 1 < 2 ^ 31 by omega)]; rfl
    · simp only [c, if_false, false_and, nI_nm1 (show fC (t_l σ 1) (t_b σ 1) < 2 ^ 31 by omega)]; rfl
  · simp only [Nat.reduceEqDiff, if_false]
    have hb := ffr_le (gX (t_b σ 2)) (t_l σ 2) 0
    have hb : fX (t_l σ 2) (t_b σ 2) ≤ 0 + t_l σ 2 := hb.2
    show _ = some (nI (if fX (t_l σ 2) (t_b σ 2) = t_l σ 2 then t_l σ 2 else 0), h)
    by_cases c : fX (t_l σ 2) (t_b σ 2) = t_l σ 2
    · simp only [c, if_true]
    · simp only [c, if_false, nI_nm1 (show fX (t_l σ 2) (t_b σ 2) < 2 ^ 31 by omega)]; rfl
