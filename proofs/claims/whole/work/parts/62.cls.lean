/-! ===== the class: its caches, and what it reads of them ===== -/
theorem wi_ix (N : Nat) (h : pH) (x : Int32) (b : Nat) (hb : b < 2 ^ 30) : fX8_within N h x 0 (no_index (OfNat.ofNat b)) = some (if ix x (b + 1) then 1 else 0, h) := by
  rw [within_eq]
  have e : ((0 : Int32) ≤ x ∧ x ≤ (OfNat.ofNat b : Int32)) ↔ ix x (b + 1) = true := by
    rw [ix_iff, le_toInt, le_toInt, show (OfNat.ofNat b : Int32) = nI b from rfl, nI_toInt (by omega), show (0 : Int32).toInt = 0 from rfl]
    omega
  simp only [e]
theorem wi_ixn (N : Nat) (h : pH) (x : Int32) (n : Nat) (hb : n < 2 ^ 30) : fX8_within N h x 0 (nI n) = some (if ix x (n + 1) then 1 else 0, h) := by
  rw [within_eq]
  have e : ((0 : Int32) ≤ x ∧ x ≤ nI n) ↔ ix x (n + 1) = true := by
    rw [ix_iff, le_toInt, le_toInt, nI_toInt (by omega), show (0 : Int32).toInt = 0 from rfl]
    omega
  simp only [e]
theorem wi_ixm (N : Nat) (h : pH) (x : Int32) (n : Nat) (hb : n < 2 ^ 30) : fX8_within N h x 0 (nI n - 1) = some (if ix x n then 1 else 0, h) := by
  rw [within_eq]
  have e1 : (nI n - 1).toInt = (n : Int) - 1 := pk_sub_toInt (a := n) (b := 1) (by omega) (by omega)
  have e : ((0 : Int32) ≤ x ∧ x ≤ nI n - 1) ↔ ix x n = true := by
    rw [ix_iff, le_toInt, le_toInt, e1, show (0 : Int32).toInt = 0 from rfl]
    omega
  simp only [e]
theorem b2ok (b : Bool) : ((if b = true then (1 : Int32) else 0) = 0 ∨ (if b = true then (1 : Int32) else 0) = 1) = True := by cases b <;> simp
theorem nI_mul_lit (a n : Nat) : nI a * (no_index (OfNat.ofNat n) : Int32) = nI (a * OfNat.ofNat n) := pk_mul a n
theorem r_crosser {k : Nat} (hk : k < 8) : isO 1 (16 + k) = true ∧ fI 1 0 (16 + k) = true ∧ fI 1 1 (16 + k) = true ∧ fI 1 2 (16 + k) = true ∧ fI 1 3 (16 + k) = true ∧ fI 1 4 (16 + k) = true ∧ aE 15 k = 16 + k := by
  rcases (show k = 0 ∨ k = 1 ∨ k = 2 ∨ k = 3 ∨ k = 4 ∨ k = 5 ∨ k = 6 ∨ k = 7 by omega) with rfl | rfl | rfl | rfl | rfl | rfl | rfl | rfl <;> decide
theorem r_text {t : Nat} (ht : t < 3) : isO 7 (3 + t) = true ∧ fI 7 1 (3 + t) = true ∧ fR (3 + t) 0 = 6 + t ∧ aK (6 + t) = 0 ∧ aN (6 + t) = lim t ∧ aE 2 t = 3 + t := by
  rcases (show t = 0 ∨ t = 1 ∨ t = 2 by omega) with rfl | rfl | rfl <;> decide
theorem r_sheet {s : Nat} (hs : s < 4) : isO 5 (41 + s) = true ∧ fI 5 1 (41 + s) = true ∧ fI 5 2 (41 + s) = true ∧ fI 5 3 (41 + s) = true ∧ fR (41 + s) 0 = 45 + s ∧ aK (45 + s) = 0 ∧ aN (45 + s) = 60 ∧ aE 40 s = 41 + s := by
  rcases (show s = 0 ∨ s = 1 ∨ s = 2 ∨ s = 3 by omega) with rfl | rfl | rfl | rfl <;> decide
def hl (b : Bool) : Nat := if b then 1 else 0
/-- what is worked out and hangs neither on shifts nor on the beginning -/
def cF0 (w : Wt) (h : pH) : Prop := h.1 9 3 = nI (np w) ∧ (∀ p, p < np w → h.1 11 p = if rot w p then 1 else 0) ∧ (∀ b g, g < np w → h.1 12 (hl b * 19 + g) = nI (mny w b g (np w)) ∧ h.1 13 (hl b * 19 + g) = nI (lgs w b g (np w))) ∧ h.1 14 1 = nI (nk w) ∧ (∀ k, k < nk w → h.1 (16 + k) 0 = nI (kd w k) ∧ h.1 (16 + k) 1 = nI (wg w k) ∧ h.1 (16 + k) 2 = nI (hl (hvy w k)) ∧ h.1 (16 + k) 3 = nI (en w k) ∧ h.1 (16 + k) 4 = nI (lp w k)) ∧ h.1 24 1 = nI (nc w) ∧ (∀ i, i < nc w → h.1 25 i = nI (wh w i)) ∧ h.1 9 0 = nI (rv w)
def rfk (w : Wt) (k : Nat) : Nat := if k < nk w then 16 + k else 0
theorem at_eq {w : Wt} {h : pH} (hw : wok w) (h14 : h.1 14 1 = nI (nk w)) (N : Nat) (x : Int32) : fX2_at N h x = some (if ix x (nk w) then 16 + x.toNatClampNeg else 0, h) := by
  have w2 := hw.2.1
  simp only [fX2_at, fX2_at_b24, h14, wi_ixm N h x (nk w) (by omega), Option.bind_some, b2i]
  cases c : ix x (nk w)
  · rfl
  · obtain ⟨j, hj, rfl⟩ := ix_of c (by omega)
    simp (disch := omega) only [Bool.true_eq_false, if_false, if_true, ix_nI, nI_clamp, (r_crosser (k := j) (by omega)).2.2.2.2.2.2]
theorem at_n {w : Wt} {h : pH} (hw : wok w) (h14 : h.1 14 1 = nI (nk w)) (N : Nat) {k : Nat} (hk : k < 1000) : fX2_at N h (nI k) = some (rfk w k, h) := by
  rw [at_eq hw h14, nI_clamp (by omega)]
  unfold rfk
  have e : (ix (nI k) (nk w) = true) ↔ k < nk w := by rw [ix_iff, nI_toInt (by omega)]; omega
  simp only [e]
theorem who_eq {w : Wt} {h : pH} (hw : wok w) (hF : cF0 w h) (N : Nat) {i : Nat} (hi : i < nc w) : fX3_whoAt N h (nI i) = some (nI (wh w i), h) := by
  have w4 := hw.2.2.2.1
  simp only [fX3_whoAt, fX3_whoAt_b24, hF.2.2.2.2.2.1, wi_ixm N h (nI i) (nc w) (by omega), Option.bind_some, b2i, ix_nI hi (show nc w < 2 ^ 31 by omega)]
  simp (disch := omega) only [if_false, if_true, ix_nI, nI_clamp, hF.2.2.2.2.2.2.1 i hi, show ¬ ((1 : Int32) = 0) by decide]
theorem has_eq {w : Wt} {h : pH} (hw : wok w) (h93 : h.1 9 3 = nI (np w)) (N : Nat) (x : Int32) : fX0_hasPlank N h x = some (if ix x (np w) then 1 else 0, h) := by
  have w1 := hw.1
  simp only [fX0_hasPlank, h93, wi_ixm N h x (np w) (by omega), Option.bind_some]
  cases ix x (np w) <;> simp
def gx (w : Wt) (g : Nat) (x : Int32) : Prop := x = nI g ∨ (np w = 0 ∧ x = -1)
theorem gx_I (w : Wt) (g : Nat) : gx w g (gI w g) := by
  unfold gx gI
  by_cases c : np w = 0
  · rw [if_pos c]; exact Or.inr ⟨c, rfl⟩
  · rw [if_neg c]; exact Or.inl rfl
theorem gx_n (w : Wt) (g : Nat) : gx w g (nI g) := Or.inl rfl
theorem outcome_eq {w : Wt} {h : pH} (hw : wok w) (hF : cF0 w h) (N : Nat) {k g : Nat} {x : Int32} (hg : gok w g) (hx : gx w g x) : fX0_outcome N h (rfk w k) x = some (nI (oc w k g), h) := by
  have w1 := hw.1
  have w2 := hw.2.1
  have w6 := hw.2.2.2.2.2.1
  have z0 : nI 0 = (0 : Int32) := rfl
  simp only [fX0_outcome, fX0_outcome_b24, fX0_outcome_b52, hF.1, hF.2.2.2.2.2.2.2]
  unfold rfk
  by_cases c : k < nk w
  · obtain ⟨r1, r2, r3, r4, r5, r6, r7⟩ := r_crosser (k := k) (by omega)
    obtain ⟨q1, q2, q3, q4, q5⟩ := hF.2.2.2.2.1 k c
    obtain ⟨v1, v2, v3, v4, v5⟩ := hw.2.2.1 k c
    rw [if_pos c, if_neg (by omega)]
    by_cases c1 : 2 ≤ rv w
    · rw [if_neg (by rw [show (1 : Int32) = nI 1 from rfl, nI_leI (by omega) (by omega)]; omega)]
      by_cases c2 : np w = 0
      · have e0 : oc w k g = 0 := by unfold oc; rw [if_neg (by omega)]
        rw [e0]
        by_cases c3 : x < 0
        · rw [if_pos c3]; rfl
        · rw [if_neg c3, if_neg]
          · rfl
          · rcases hx with hx | hx
            · rw [hx, c2, nI_ltI (by have := gok_lt w1 hg; omega) (by omega)]; omega
            · rw [hx.2] at c3; exact absurd (by decide) c3
      · have hg' : g < np w := by rcases hg with z | z <;> omega
        obtain rfl : x = nI g := by rcases hx with z | z; exact z; exact absurd z.1 c2
        have lb := lgs_le w (hvy w k) g (np w)
        have h1 : hl (hvy w k) ≤ 1 := by unfold hl; split <;> omega
        have e1 := (hF.2.2.1 (hvy w k) g hg').2
        rw [if_neg (nI_pos (by omega)), if_pos (by rw [nI_ltI (by omega) (by omega)]; exact hg'), if_pos r4, q3, nI_mul_lit, nI_add, if_pos (ix_nI (by omega) (by omega)), if_pos r6, nI_clamp (by omega), e1, q5]
        by_cases c4 : lp w k < lgs w (hvy w k) g (np w)
        · have e2 : oc w k g = 2 := by unfold oc; rw [if_pos ⟨c1, by omega, c⟩, if_pos c4]
          rw [if_neg (by rw [nI_leI (by omega) (by omega)]; omega), e2]; rfl
        · have e2 : oc w k g = 1 := by unfold oc; rw [if_pos ⟨c1, by omega, c⟩, if_neg c4]
          rw [if_pos (by rw [nI_leI (by omega) (by omega)]; omega), e2]; rfl
    · rw [if_pos (by rw [show (1 : Int32) = nI 1 from rfl, nI_leI (by omega) (by omega)]; omega)]
      have e0 : oc w k g = 0 := by unfold oc; rw [if_neg (by omega)]
      rw [e0]; rfl
  · have e0 : oc w k g = 0 := by unfold oc; rw [if_neg (by omega)]
    rw [if_neg c, if_pos rfl, e0]; rfl
theorem oc_k {w : Wt} {k g : Nat} (h : oc w k g ≠ 0) : k < nk w ∧ 0 < np w := by
  unfold oc at h
  split at h
  · rename_i c; exact ⟨c.2.2, c.2.1⟩
  · exact absurd rfl h
theorem toll_eq {w : Wt} {h : pH} (hw : wok w) (hF : cF0 w h) (N : Nat) {k g : Nat} {x : Int32} (hg : gok w g) (hx : gx w g x) : fX0_toll N h (rfk w k) x = some (nI (tol w k g), h) := by
  have w1 := hw.1
  have w2 := hw.2.1
  have q := oc_le w k g
  simp only [fX0_toll, fX0_toll_b18, outcome_eq hw hF N hg hx, Option.bind_some]
  unfold tol
  by_cases c : oc w k g = 1
  · obtain ⟨c1, c2⟩ := oc_k (w := w) (k := k) (g := g) (by omega)
    obtain ⟨r1, r2, r3, r4, r5, r6, r7⟩ := r_crosser (k := k) (by omega)
    obtain ⟨q1, q2, q3, q4, q5⟩ := hF.2.2.2.2.1 k c1
    obtain ⟨v1, v2, v3, v4, v5⟩ := hw.2.2.1 k c1
    have hg' : g < np w := by rcases hg with z | z <;> omega
    obtain rfl : x = nI g := by rcases hx with z | z; exact z; exact absurd z.1 (by omega)
    have h1 : hl (hvy w k) ≤ 1 := by unfold hl; split <;> omega
    have e1 := (hF.2.2.1 (hvy w k) g hg').1
    unfold rfk
    rw [if_pos (by rw [c]; rfl), if_pos c1, if_pos r2, q1]
    by_cases c3 : kd w k = 4
    · rw [if_pos (by rw [c3]; rfl), if_neg (by omega)]; rfl
    · rw [if_neg (by rw [show (4 : Int32) = nI 4 from rfl, nI_eq (by omega) (by omega)]; exact c3), if_pos r4, q3, nI_mul_lit, nI_add, if_pos (ix_nI (by omega) (by omega)), nI_clamp (by omega), e1, if_pos ⟨c, c3⟩]
  · rw [if_neg (by rw [show (1 : Int32) = nI 1 from rfl, nI_eq (by omega) (by omega)]; exact c), if_neg (fun z => c z.1)]; rfl
theorem longest_eq {w : Wt} {h : pH} (hw : wok w) (hF : cF0 w h) (N : Nat) {k g : Nat} {x : Int32} (hg : gok w g) (hx : gx w g x) : fX0_longestRow N h (rfk w k) x = some (nI (rws w k g), h) := by
  have w1 := hw.1
  have w2 := hw.2.1
  have q := oc_le w k g
  simp only [fX0_longestRow, fX0_longestRow_b27, outcome_eq hw hF N hg hx, Option.bind_some]
  unfold rws
  by_cases c : oc w k g = 0
  · rw [if_pos (by rw [c]; rfl), if_pos c]; rfl
  · obtain ⟨c1, c2⟩ := oc_k c
    obtain ⟨r1, r2, r3, r4, r5, r6, r7⟩ := r_crosser (k := k) (by omega)
    obtain ⟨q1, q2, q3, q4, q5⟩ := hF.2.2.2.2.1 k c1
    have hg' : g < np w := by rcases hg with z | z <;> omega
    obtain rfl : x = nI g := by rcases hx with z | z; exact z; exact absurd z.1 (by omega)
    have h1 : hl (hvy w k) ≤ 1 := by unfold hl; split <;> omega
    have e1 := (hF.2.2.1 (hvy w k) g hg').2
    rw [if_neg (by rw [show (0 : Int32) = nI 0 from rfl, nI_eq (by omega) (by omega)]; exact c), if_neg c]
    unfold rfk
    rw [if_pos c1, if_pos r4, q3, nI_mul_lit, nI_add, if_pos (ix_nI (by omega) (by omega)), nI_clamp (by omega), e1]
def fmP (x n : Int32) : Int32 := if 0 ≤ (x ^^^ n) then jrem x n else if jrem x n = 0 then jrem x n else jrem x n + n
theorem flo_fin : ((List.range 19).all fun i => (List.range 20).all fun n => (List.range 19).all fun g => decide (n = 0 ∨ n ≤ g) || (decide (fmP (nI g + sI ((i : Int) - 9)) (nI n) = nI ((((g : Int) + ((i : Int) - 9)) % (n : Int)).toNat)) && decide (fmP (nI g - sI ((i : Int) - 9)) (nI n) = nI ((((g : Int) + (- ((i : Int) - 9))) % (n : Int)).toNat)))) = true := by decide +kernel
theorem flo_of {s : Int} {n g : Nat} (h1 : -9 ≤ s) (h2 : s ≤ 9) (hn : 0 < n) (hn2 : n ≤ 19) (hg : g < n) : fmP (nI g + sI s) (nI n) = nI ((((g : Int) + s) % (n : Int)).toNat) ∧ fmP (nI g - sI s) (nI n) = nI ((((g : Int) + (- s)) % (n : Int)).toNat) := by
  have h := List.all_eq_true.mp flo_fin (s + 9).toNat (List.mem_range.mpr (by omega))
  have h := List.all_eq_true.mp h n (List.mem_range.mpr (by omega))
  have h := List.all_eq_true.mp h g (List.mem_range.mpr (by omega))
  rw [show (((s + 9).toNat : Nat) : Int) - 9 = s by omega] at h
  simp only [Bool.or_eq_true, Bool.and_eq_true, decide_eq_true_eq] at h
  rcases h with h | h
  · omega
  · exact h
theorem floorMod_eq (N : Nat) (h : pH) (x : Int32) {n : Nat} (h0 : 0 < n) (hn : n ≤ 19) : fJ9_floorMod_7cf53 N h x (nI n) = some (fmP x (nI n), h) := by
  simp only [fJ9_floorMod_7cf53, fJ9_floorMod_7cf53_b18]
  rw [if_pos (by rw [show (0 : Int32) = nI 0 from rfl, nI_eq (by omega) (by omega)]; omega)]
  unfold fmP jrem
  by_cases c : 0 ≤ (x ^^^ nI n)
  · rw [if_pos c, if_pos c]
  · rw [if_neg c, if_neg c]
    by_cases c2 : x - x / nI n * nI n = 0
    · rw [if_pos c2, if_pos c2]
    · rw [if_neg c2, if_neg c2]
theorem behind_eq {w : Wt} {h : pH} (hw : wok w) (hF : cF0 w h) (N : Nat) {k g r : Nat} {x : Int32} (hr : r = 10 ∨ r = 28) (hsh : ∀ j, j < 4 → h.1 r j = sI (sh w j)) (hg : gok w g) (hx : gx w g x) : fX0_gapBehind N h (rfk w k) x r = some (if oc w k g = 1 then nI (mv w k g) else x, h) := by
  have w1 := hw.1
  have w2 := hw.2.1
  have q := oc_le w k g
  have rr : aK r = 0 ∧ aN r = 4 := by rcases hr with rfl | rfl <;> decide
  simp only [fX0_gapBehind, fX0_gapBehind_b54, outcome_eq hw hF N hg hx, Option.bind_some]
  by_cases c : oc w k g = 1
  · obtain ⟨c1, c2⟩ := oc_k (w := w) (k := k) (g := g) (by omega)
    obtain ⟨r1, r2, r3, r4, r5, r6, r7⟩ := r_crosser (k := k) (by omega)
    obtain ⟨q1, q2, q3, q4, q5⟩ := hF.2.2.2.2.1 k c1
    obtain ⟨v1, v2, v3, v4, v5⟩ := hw.2.2.1 k c1
    have hg' : g < np w := by rcases hg with z | z <;> omega
    obtain rfl : x = nI g := by rcases hx with z | z; exact z; exact absurd z.1 (by omega)
    unfold mv mvd rfk
    rw [if_pos (by rw [c]; rfl), if_pos c1, if_pos r2, q1, if_pos c, if_pos c]
    by_cases c3 : kd w k = 4
    · rw [if_pos (by rw [c3]; rfl), if_pos c3, hF.1, show (1 : Int32) = nI 1 from rfl, pk_sub (by omega), pk_sub (by omega)]
    · have hs := hw.2.2.2.2.2.2.2 (kd w k) (by omega)
      have hf := flo_of hs.1 hs.2 c2 w1 hg'
      have es : fX1_shiftBy N h (16 + k) r = some (sI (sh w (kd w k)), h) := by
        simp only [fX1_shiftBy, fX1_shiftBy_b25, fX1_shiftBy_b26]
        rw [if_pos r2, q1, if_neg (nI_pos (by omega)), if_pos r2, if_pos rr.1, rr.2, if_neg (by rw [show Int32.ofNat 4 = nI 4 from rfl, nI_leI (by omega) (by omega)]; omega), if_pos r2, if_pos ⟨rr.1, ix_nI (by omega) (by omega)⟩, nI_clamp (by omega), hsh _ (by omega)]
      rw [if_neg (by rw [show (4 : Int32) = nI 4 from rfl, nI_eq (by omega) (by omega)]; exact c3), if_neg c3, if_pos r1, es]
      simp only [Option.bind_some]
      rw [if_pos r5, q4, hF.1, floorMod_eq N h _ c2 w1, floorMod_eq N h _ c2 w1, hf.1, hf.2]
      simp only [Option.bind_some]
      by_cases c4 : en w k = 0
      · rw [if_pos (by rw [c4]; rfl), if_pos c4]
      · rw [if_neg (by rw [show (0 : Int32) = nI 0 from rfl, nI_eq (by omega) (by omega)]; exact c4), if_neg c4]
  · rw [if_neg (by rw [show (1 : Int32) = nI 1 from rfl, nI_eq (by omega) (by omega)]; exact c), if_neg c]
theorem behind_I {w : Wt} {h : pH} (hw : wok w) (hF : cF0 w h) (N : Nat) {k g r : Nat} (hr : r = 10 ∨ r = 28) (hsh : ∀ j, j < 4 → h.1 r j = sI (sh w j)) (hg : gok w g) : fX0_gapBehind N h (rfk w k) (gI w g) r = some (gI w (mv w k g), h) := by
  rw [behind_eq hw hF N hr hsh hg (gx_I w g)]
  by_cases c : oc w k g = 1
  · have := oc_k (w := w) (k := k) (g := g) (by omega)
    rw [if_pos c, gI_pos this.2]
  · rw [if_neg c]
    have e : mv w k g = g := by unfold mv; rw [if_neg c]
    rw [e]
theorem behind_n {w : Wt} {h : pH} (hw : wok w) (hF : cF0 w h) (N : Nat) {k g r : Nat} (hr : r = 10 ∨ r = 28) (hsh : ∀ j, j < 4 → h.1 r j = sI (sh w j)) (hg : gok w g) : fX0_gapBehind N h (rfk w k) (nI g) r = some (nI (mv w k g), h) := by
  rw [behind_eq hw hF N hr hsh hg (gx_n w g)]
  by_cases c : oc w k g = 1
  · rw [if_pos c]
  · rw [if_neg c]
    have e : mv w k g = g := by unfold mv; rw [if_neg c]
    rw [e]
theorem first_eq {w : Wt} {h : pH} (hw : wok w) (h93 : h.1 9 3 = nI (np w)) (h91 : h.1 9 1 = nI (bg w)) (N : Nat) : fX0_firstGap N h = some (gI w (g0 w), h) := by
  have w1 := hw.1
  have w7 := hw.2.2.2.2.2.2.1
  simp only [fX0_firstGap, fX0_firstGap_b20, h93, h91]
  by_cases c : np w = 0
  · rw [if_pos (by rw [c]; rfl)]; simp [gI, c]
  · have c2 : ¬ nI (np w) = 0 := by rw [show (0 : Int32) = nI 0 from rfl, nI_eq (by omega) (by omega)]; exact c
    rw [if_neg c2, if_pos c2, nI_rem (by omega) (by omega) (by omega)]
    simp [gI, g0, c]
