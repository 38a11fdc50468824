/-! ===== the bridge as mathematics ===== -/
/-- planks, rotten, crossers, their kind, weight, end, leap, crossings, who, river, begin, shifts -/
abbrev Wt : Type := Nat × (Nat → Bool) × Nat × (Nat → Nat) × (Nat → Nat) × (Nat → Nat) × (Nat → Nat) × Nat × (Nat → Nat) × Nat × Nat × (Nat → Int)
def np (w : Wt) : Nat := w.1
def rot (w : Wt) : Nat → Bool := w.2.1
def nk (w : Wt) : Nat := w.2.2.1
def kd (w : Wt) : Nat → Nat := w.2.2.2.1
def wg (w : Wt) : Nat → Nat := w.2.2.2.2.1
def en (w : Wt) : Nat → Nat := w.2.2.2.2.2.1
def lp (w : Wt) : Nat → Nat := w.2.2.2.2.2.2.1
def nc (w : Wt) : Nat := w.2.2.2.2.2.2.2.1
def wh (w : Wt) : Nat → Nat := w.2.2.2.2.2.2.2.2.1
def rv (w : Wt) : Nat := w.2.2.2.2.2.2.2.2.2.1
def bg (w : Wt) : Nat := w.2.2.2.2.2.2.2.2.2.2.1
def sh (w : Wt) : Nat → Int := w.2.2.2.2.2.2.2.2.2.2.2
/-- the same bridge with other shifts, another beginning -/
def wSh (w : Wt) (f : Nat → Int) : Wt := (w.1, w.2.1, w.2.2.1, w.2.2.2.1, w.2.2.2.2.1, w.2.2.2.2.2.1, w.2.2.2.2.2.2.1, w.2.2.2.2.2.2.2.1, w.2.2.2.2.2.2.2.2.1, w.2.2.2.2.2.2.2.2.2.1, w.2.2.2.2.2.2.2.2.2.2.1, f)
def wBg (w : Wt) (b : Nat) : Wt := (w.1, w.2.1, w.2.2.1, w.2.2.2.1, w.2.2.2.2.1, w.2.2.2.2.2.1, w.2.2.2.2.2.2.1, w.2.2.2.2.2.2.2.1, w.2.2.2.2.2.2.2.2.1, w.2.2.2.2.2.2.2.2.2.1, b, w.2.2.2.2.2.2.2.2.2.2.2)
def wok (w : Wt) : Prop := np w ≤ 19 ∧ nk w ≤ 8 ∧ (∀ k, k < nk w → kd w k ≤ 4 ∧ 1 ≤ wg w k ∧ wg w k ≤ 9 ∧ en w k ≤ 1 ∧ lp w k ≤ 9) ∧ nc w ≤ 24 ∧ (∀ i, i < nc w → wh w i ≤ 7) ∧ rv w ≤ 9 ∧ bg w ≤ 18 ∧ ∀ k, k < 4 → -9 ≤ sh w k ∧ sh w k ≤ 9
def nxtE (w : Wt) (g : Nat) : Nat := if g + 1 < np w then g + 1 else 0
def hole (w : Wt) (hv : Bool) (g p : Nat) : Bool := decide (p = g) || (decide (7 ≤ rv w) && decide (p = nxtE w g)) || (hv && rot w p)
def rl (w : Wt) (hv : Bool) (g : Nat) : Nat → Nat
  | 0 => 0
  | p + 1 => if hole w hv g p then rl w hv g p + 1 else 0
def lgs (w : Wt) (hv : Bool) (g : Nat) : Nat → Nat
  | 0 => 0
  | p + 1 => max (rl w hv g (p + 1)) (lgs w hv g p)
def mny (w : Wt) (hv : Bool) (g : Nat) : Nat → Nat
  | 0 => 0
  | p + 1 => mny w hv g p + (if hole w hv g p = true ∧ rl w hv g p = 0 then 1 else 0)
theorem rl_le (w : Wt) (hv : Bool) (g : Nat) : ∀ p, rl w hv g p ≤ p
  | 0 => Nat.le_refl _
  | p + 1 => by have := rl_le w hv g p; unfold rl; split <;> omega
theorem lgs_le (w : Wt) (hv : Bool) (g : Nat) : ∀ p, lgs w hv g p ≤ p
  | 0 => Nat.le_refl _
  | p + 1 => by have := lgs_le w hv g p; have := rl_le w hv g (p + 1); unfold lgs; omega
theorem mny_le (w : Wt) (hv : Bool) (g : Nat) : ∀ p, mny w hv g p ≤ p
  | 0 => Nat.le_refl _
  | p + 1 => by have := mny_le w hv g p; unfold mny; split <;> omega
def hvy (w : Wt) (k : Nat) : Bool := decide (6 ≤ wg w k)
/-- what comes of crosser k at gap g: 0 idle, 1 crosses, 2 turns back -/
def oc (w : Wt) (k g : Nat) : Nat := if 2 ≤ rv w ∧ 0 < np w ∧ k < nk w then (if lp w k < lgs w (hvy w k) g (np w) then 2 else 1) else 0
def tol (w : Wt) (k g : Nat) : Nat := if oc w k g = 1 ∧ kd w k ≠ 4 then mny w (hvy w k) g (np w) else 0
def rws (w : Wt) (k g : Nat) : Nat := if oc w k g = 0 then 0 else lgs w (hvy w k) g (np w)
def mvd (w : Wt) (k g : Nat) : Nat := if kd w k = 4 then np w - 1 - g else (((g : Int) + (if en w k = 0 then sh w (kd w k) else - sh w (kd w k))) % (np w : Int)).toNat
def mv (w : Wt) (k g : Nat) : Nat := if oc w k g = 1 then mvd w k g else g
/-- a gap's number, as an int: none is -1 -/
def gI (w : Wt) (g : Nat) : Int32 := if np w = 0 then -1 else nI g
def gok (w : Wt) (g : Nat) : Prop := g < np w ∨ (np w = 0 ∧ g = 0)
def g0 (w : Wt) : Nat := if np w = 0 then 0 else bg w % np w
theorem g0_ok (w : Wt) : gok w (g0 w) := by
  unfold gok g0
  by_cases h : np w = 0
  · rw [if_pos h]; exact Or.inr ⟨h, rfl⟩
  · rw [if_neg h]; exact Or.inl (Nat.mod_lt _ (by omega))
theorem mv_ok {w : Wt} {k g : Nat} (h : gok w g) : gok w (mv w k g) := by
  unfold mv
  split
  · rename_i h1
    have hn : 0 < np w := by
      unfold oc at h1
      split at h1
      · rename_i h2; exact h2.2.1
      · cases h1
    left
    unfold mvd
    split
    · omega
    · have h2 := Int.emod_lt_of_pos ((g : Int) + (if en w k = 0 then sh w (kd w k) else - sh w (kd w k))) (show (0 : Int) < np w by omega)
      have h3 := Int.emod_nonneg ((g : Int) + (if en w k = 0 then sh w (kd w k) else - sh w (kd w k))) (show (np w : Int) ≠ 0 by omega)
      omega
  · exact h
theorem gok_lt {w : Wt} {g : Nat} (hw : np w ≤ 19) (h : gok w g) : g < 19 := by
  rcases h with h | h <;> omega
/-- the gap behind i crossings, those of 'gone' left out -/
def Gm (w : Wt) (gone : Nat → Bool) : Nat → Nat
  | 0 => g0 w
  | i + 1 => if gone i then Gm w gone i else mv w (wh w i) (Gm w gone i)
def G (w : Wt) : Nat → Nat := Gm w (fun _ => false)
theorem Gm_ok (w : Wt) (gone : Nat → Bool) : ∀ i, gok w (Gm w gone i)
  | 0 => g0_ok w
  | i + 1 => by
    unfold Gm
    split
    · exact Gm_ok w gone i
    · exact mv_ok (Gm_ok w gone i)
/-! ===== the reference's heap, once its texts are read ===== -/
def sI (z : Int) : Int32 := Int32.ofInt z
def mF (w : Wt) (h : pH) : Prop := h.1 49 7 = nI (np w) ∧ (∀ p, p < np w → h.1 56 p = if rot w p then 1 else 0) ∧ h.1 49 9 = nI (nk w) ∧ (∀ k, k < nk w → h.1 57 (4 * k) = nI (kd w k) ∧ h.1 57 (4 * k + 1) = nI (wg w k) ∧ h.1 57 (4 * k + 2) = nI (en w k) ∧ h.1 57 (4 * k + 3) = nI (lp w k)) ∧ h.1 49 11 = nI (nc w) ∧ (∀ i, i < nc w → h.1 58 i = nI (wh w i)) ∧ h.1 59 0 = nI (rv w) ∧ h.1 59 1 = nI (bg w) ∧ ∀ k, k < 4 → h.1 60 k = sI (sh w k)
/-- all but the fields gap, many, longest of the reference are as before -/
def K3 (h h' : pH) : Prop := h'.2 = h.2 ∧ ∀ a b, ¬ (a = 49 ∧ (b = 19 ∨ b = 21 ∨ b = 22)) → h'.1 a b = h.1 a b
theorem K3.rf (h : pH) : K3 h h := ⟨rfl, fun _ _ _ => rfl⟩
theorem K3.tr {a b c : pH} (h1 : K3 a b) (h2 : K3 b c) : K3 a c := ⟨h2.1.trans h1.1, fun x y z => (h2.2 x y z).trans (h1.2 x y z)⟩
theorem K3.pw {h h' : pH} {j : Nat} {v : Int32} (h1 : K3 h h') (hj : j = 19 ∨ j = 21 ∨ j = 22) : K3 h (pw h' 49 j v) := ⟨h1.1, fun a b z => by
  rw [pw_at, if_neg (fun c => z ⟨c.1, by rw [c.2]; exact hj⟩)]
  exact h1.2 a b z⟩
theorem mF.k3 {w : Wt} {h h' : pH} (hk : K3 h h') (hF : mF w h) : mF w h' := by
  obtain ⟨h1, h2, h3, h4, h5, h6, h7, h8, h9⟩ := hF
  have e : ∀ a b, ¬ (a = 49 ∧ (b = 19 ∨ b = 21 ∨ b = 22)) → h'.1 a b = h.1 a b := hk.2
  refine ⟨?_, ?_, ?_, ?_, ?_, ?_, ?_, ?_, ?_⟩
  · rw [e _ _ (by omega)]; exact h1
  · intro p hp; rw [e _ _ (by omega)]; exact h2 p hp
  · rw [e _ _ (by omega)]; exact h3
  · intro k hk; rw [e _ _ (by omega), e _ _ (by omega), e _ _ (by omega), e _ _ (by omega)]; exact h4 k hk
  · rw [e _ _ (by omega)]; exact h5
  · intro i hi; rw [e _ _ (by omega)]; exact h6 i hi
  · rw [e _ _ (by omega)]; exact h7
  · rw [e _ _ (by omega)]; exact h8
  · intro k hk; rw [e _ _ (by omega)]; exact h9 k hk
theorem b01 (b : Bool) : ((if b then (1 : Int32) else 0) = 0 ↔ b = false) ∧ ((if b then (1 : Int32) else 0) = 1 ↔ b = true) := by cases b <;> decide
/-- isHole -/
theorem isHole_eq {w : Wt} {h : pH} (hw : wok w) (hF : mF w h) (N : Nat) {k g p : Nat} (hk : k < nk w) (hp : p < np w) (hg : g < np w) (hgap : h.1 49 19 = nI g) : fX9_isHole N h (nI k) (nI p) = some (if hole w (hvy w k) g p then 1 else 0, h) := by
  obtain ⟨w1, w2, w3, w4, w5, w6, w7, w8⟩ := hw
  obtain ⟨h1, h2, h3, h4, h5, h6, h7, h8, h9⟩ := hF
  obtain ⟨-, h42, -, -⟩ := h4 k hk
  have h2p := h2 p hp
  have hwk := (w3 k hk).2.2.1
  have hn : (nI g + 1) - (nI g + 1) / nI (np w) * nI (np w) = nI (nxtE w g) := by
    rw [nI_1, nI_rem (by omega) (by omega) (by omega)]
    congr 1
    unfold nxtE
    split
    · exact Nat.mod_eq_of_lt ‹_›
    · rw [show g + 1 = np w by omega, Nat.mod_self]
  have hnx : nxtE w g < 19 := by unfold nxtE; split <;> omega
  simp only [fX9_isHole, fX9_isHole_b30, fX9_isHole_b31, fX9_isHole_b68, fX9_isHole_b72, fX9_isHole_b73, ixc02, cl0, if_true, h1, h7, hgap, hn]
  simp (disch := omega) only [ix_nI, nI_clamp, lit_mul_nI, nI_add_lit, if_true, h2p, h42, nI_le_lit, nI_eq, nI_eq_lit]
  simp only [hole, hvy]
  by_cases c1 : rv w ≤ 6
  · have c2 : ¬ 7 ≤ rv w := by omega
    by_cases c3 : p = g
    · simp [c1, c2, c3]
    · by_cases c4 : rot w p = true
      · by_cases c5 : wg w k ≤ 5
        · have c6 : ¬ 6 ≤ wg w k := by omega
          simp [c1, c2, c3, c4, c5, c6]
        · have c6 : 6 ≤ wg w k := by omega
          simp [c1, c2, c3, c4, c5, c6]
      · simp [c1, c2, c3, c4]
  · have c2 : 7 ≤ rv w := by omega
    have c0 : ¬ np w = 0 := by omega
    by_cases c3 : p = g
    · by_cases c7 : p = nxtE w g
      · simp [c0, c1, c2, c3, ← c7]
      · simp [c0, c1, c2, c3]
    · by_cases c7 : p = nxtE w g
      · simp [c0, c1, c2, c3, ← c7]
      · by_cases c4 : rot w p = true
        · by_cases c5 : wg w k ≤ 5
          · have c6 : ¬ 6 ≤ wg w k := by omega
            simp [c0, c1, c2, c3, c4, c5, c6, c7]
          · have c6 : 6 ≤ wg w k := by omega
            simp [c0, c1, c2, c3, c4, c5, c6, c7]
        · simp [c0, c1, c2, c3, c4, c7]
