/-! ===== orders: all permutations, one behind the other ===== -/
def rpl (x : Nat) : List Nat → Option (Nat × List Nat)
  | [] => none
  | a :: r => match rpl x r with
    | some q => some (q.1, a :: q.2)
    | none => if x ≤ a then some (a, x :: r) else none
def nextP : List Nat → Option (List Nat)
  | [] => none
  | x :: r => match nextP r with
    | some q => some (x :: q)
    | none => match rpl x r with
      | some q => some (q.1 :: q.2.reverse)
      | none => none
theorem rpl_none {x : Nat} : ∀ {r : List Nat}, (∀ a, a ∈ r → a < x) → rpl x r = none
  | [], _ => rfl
  | a :: r, h => by
    have h1 := rpl_none (x := x) (r := r) (fun b hb => h b (List.mem_cons_of_mem _ hb))
    have h2 := h a (List.mem_cons_self ..)
    simp only [rpl, h1]
    rw [if_neg (by omega)]
theorem rpl_app {x y : Nat} (hxy : x ≤ y) : ∀ {C D : List Nat}, (∀ a, a ∈ D → a < x) → rpl x (C ++ y :: D) = some (y, C ++ x :: D)
  | [], D, h => by
    simp only [List.nil_append, rpl, rpl_none h]
    rw [if_pos hxy]
  | a :: C, D, h => by
    simp only [List.cons_append, rpl, rpl_app hxy h]
theorem nextP_dec : ∀ {r : List Nat}, r.Pairwise (fun a b => b < a) → nextP r = none
  | [], _ => rfl
  | x :: r, h => by
    have h1 := nextP_dec (List.Pairwise.of_cons h)
    simp only [nextP, h1, rpl_none (fun a ha => List.rel_of_pairwise_cons h ha)]
theorem nextP_cons {x : Nat} {r q : List Nat} (h : nextP r = some q) : nextP (x :: r) = some (x :: q) := by
  simp only [nextP, h]
def blk (f : List Nat → List (List Nat)) : List Nat → List Nat → List (List Nat)
  | _, [] => []
  | A, x :: B => (f (A ++ B)).map (x :: ·) ++ blk f (A ++ [x]) B
def lex : Nat → List Nat → List (List Nat)
  | 0, _ => [[]]
  | n + 1, xs => blk (lex n) [] xs
def Run : List (List Nat) → List Nat → List Nat → Prop
  | [], _, _ => False
  | [r], a, b => r = a ∧ r = b
  | r :: s :: L, a, b => r = a ∧ nextP r = some s ∧ Run (s :: L) s b
theorem Run.hd {m : List Nat} : ∀ {M : List (List Nat)} {c d : List Nat}, Run (m :: M) c d → m = c
  | [], _, _, h => h.1
  | _ :: _, _, _, h => h.1
theorem Run.app : ∀ {L M : List (List Nat)} {a b c d : List Nat}, Run L a b → nextP b = some c → Run M c d → Run (L ++ M) a d
  | [], _, _, _, _, _, h, _, _ => absurd h id
  | [r], [], _, _, _, _, _, _, h => absurd h id
  | [r], m :: M, a, b, c, d, h, hn, hm => by
    have e := Run.hd hm
    refine ⟨h.1, ?_, ?_⟩
    · rw [h.2, hn, e]
    · rw [e] at hm ⊢; exact hm
  | r :: s :: L, M, a, b, c, d, h, hn, hm => ⟨h.1, h.2.1, Run.app h.2.2 hn hm⟩
theorem Run.mp (x : Nat) : ∀ {L : List (List Nat)} {a b : List Nat}, Run L a b → Run (L.map (x :: ·)) (x :: a) (x :: b)
  | [], _, _, h => absurd h id
  | [r], a, b, h => ⟨by rw [h.1], by rw [h.2]⟩
  | r :: s :: L, a, b, h => ⟨by rw [h.1], nextP_cons h.2.1, Run.mp x h.2.2⟩
abbrev Asc (l : List Nat) : Prop := l.Pairwise (fun a b => a < b)
theorem Asc.rev {l : List Nat} (h : Asc l) : l.reverse.Pairwise (fun a b => b < a) := List.pairwise_reverse.mpr h
theorem Asc.drop {A B : List Nat} {x : Nat} (h : Asc (A ++ x :: B)) : Asc (A ++ B) := h.sublist (List.Sublist.append_left (List.sublist_cons_self x B) A)
theorem blk_run {f : List Nat → List (List Nat)} {n : Nat} (hf : ∀ xs, xs.length = n → Asc xs → Run (f xs) xs xs.reverse) : ∀ {B A : List Nat} {x : Nat}, (A ++ B).length = n → Asc (A ++ x :: B) → Run (blk f A (x :: B)) (x :: (A ++ B)) (A ++ x :: B).reverse
  | [], A, x, hl, hs => by
    have h := Run.mp x (hf (A ++ []) hl hs.drop)
    simp only [blk, List.append_nil] at h ⊢
    rw [List.reverse_append]
    exact h
  | y :: B, A, x, hl, hs => by
    have h := Run.mp x (hf (A ++ y :: B) hl hs.drop)
    have hs2 : Asc ((A ++ [x]) ++ y :: B) := by rw [List.append_assoc]; exact hs
    have ih := blk_run (f := f) (n := n) hf (B := B) (A := A ++ [x]) (x := y) (by simp only [List.length_append, List.length_cons, List.length_nil] at hl ⊢; omega) hs2
    have hp := List.pairwise_append.mp hs
    have hA : ∀ a, a ∈ A.reverse → a < x := fun a ha => hp.2.2 a (List.mem_reverse.mp ha) x (List.mem_cons_self ..)
    have hxy : x < y := List.rel_of_pairwise_cons hp.2.1 (List.mem_cons_self ..)
    have hnx : nextP (x :: (A ++ y :: B).reverse) = some (y :: ((A ++ [x]) ++ B)) := by
      have e1 := nextP_dec hs.drop.rev
      have e2 : (A ++ y :: B).reverse = B.reverse ++ y :: A.reverse := by simp
      simp only [nextP, e1]
      rw [e2, rpl_app (by omega) hA]
      simp
    have e3 : (A ++ x :: y :: B).reverse = ((A ++ [x]) ++ y :: B).reverse := by rw [List.append_assoc]; rfl
    rw [e3]
    exact Run.app h hnx ih
theorem lex_run : ∀ {n : Nat} {xs : List Nat}, xs.length = n → Asc xs → Run (lex n xs) xs xs.reverse
  | 0, xs, hl, _ => by
    obtain rfl := List.length_eq_zero_iff.mp hl
    exact ⟨rfl, rfl⟩
  | n + 1, [], hl, _ => by simp at hl
  | n + 1, x :: B, hl, hs => blk_run (fun xs h1 h2 => lex_run h1 h2) (B := B) (A := []) (x := x) (by simpa using hl) hs
/-! the first of the best -/
def isFM (V : List Nat → Nat) (L : List (List Nat)) (r : List Nat) : Prop := ∃ L1 L2, L = L1 ++ r :: L2 ∧ (∀ q, q ∈ L1 → V q < V r) ∧ ∀ q, q ∈ L2 → V q ≤ V r
def fmx (V : List Nat → Nat) (b : Option (List Nat)) (r : List Nat) : Option (List Nat) := match b with
  | none => some r
  | some q => if V q < V r then some r else some q
theorem fmx_keep {V : List Nat → Nat} {r : List Nat} : ∀ {L : List (List Nat)}, (∀ q, q ∈ L → V q ≤ V r) → L.foldl (fmx V) (some r) = some r
  | [], _ => rfl
  | q :: L, h => by
    have h1 := h q (List.mem_cons_self ..)
    show L.foldl (fmx V) (if V r < V q then some q else some r) = some r
    rw [if_neg (by omega)]
    exact fmx_keep (fun s hs => h s (List.mem_cons_of_mem _ hs))
theorem fmx_less {V : List Nat → Nat} {r : List Nat} : ∀ {L : List (List Nat)} {b : Option (List Nat)}, (∀ q, q ∈ L → V q < V r) → (∀ q, b = some q → V q < V r) → fmx V (L.foldl (fmx V) b) r = some r
  | [], none, _, _ => rfl
  | [], some q, _, h => by
    show (if V q < V r then some r else some q) = some r
    rw [if_pos (h q rfl)]
  | s :: L, b, h, hb => by
    show fmx V (L.foldl (fmx V) (fmx V b s)) r = some r
    refine fmx_less (fun q hq => h q (List.mem_cons_of_mem _ hq)) (fun q hq => ?_)
    cases b with
    | none =>
      have e : s = q := Option.some.inj hq
      rw [← e]; exact h s (List.mem_cons_self ..)
    | some p =>
      have hq : (if V p < V s then some s else some p) = some q := hq
      split at hq
      · have e : s = q := Option.some.inj hq
        rw [← e]; exact h s (List.mem_cons_self ..)
      · have e : p = q := Option.some.inj hq
        rw [← e]; exact hb p rfl
theorem isFM.fold {V : List Nat → Nat} {L : List (List Nat)} {r : List Nat} (h : isFM V L r) : L.foldl (fmx V) none = some r := by
  obtain ⟨L1, L2, e, h1, h2⟩ := h
  rw [e, List.foldl_append]
  show L2.foldl (fmx V) (fmx V (L1.foldl (fmx V) none) r) = some r
  rw [fmx_less h1 (fun q hq => by cases hq), fmx_keep h2]
theorem isFM.mem {V : List Nat → Nat} {L : List (List Nat)} {r : List Nat} (h : isFM V L r) : ∀ q, q ∈ L → V q ≤ V r := by
  obtain ⟨L1, L2, e, h1, h2⟩ := h
  intro q hq
  rw [e] at hq
  rcases List.mem_append.mp hq with hq | hq
  · exact Nat.le_of_lt (h1 q hq)
  · rcases List.mem_cons.mp hq with hq | hq
    · rw [hq]; exact Nat.le_refl _
    · exact h2 q hq
/-- the worth of one who comes, of a row -/
def vv (w : Wt) (x g : Nat) : Nat := if oc w x g = 1 then 1000 - tol w x g else 0
def Vr (w : Wt) : List Nat → Nat → Nat
  | [], _ => 0
  | x :: r, g => vv w x g + Vr w r (mv w x g)
def cr (w : Wt) : List Nat → Nat → Nat
  | [], _ => 0
  | x :: r, g => (if oc w x g = 1 then 1 else 0) + cr w r (mv w x g)
def tr (w : Wt) : List Nat → Nat → Nat
  | [], _ => 0
  | x :: r, g => tol w x g + tr w r (mv w x g)
theorem tr_le {w : Wt} (hw : np w ≤ 19) : ∀ (r : List Nat) (g : Nat), tr w r g ≤ 19 * r.length
  | [], _ => Nat.le_refl _
  | x :: r, g => by
    have := tr_le hw r (mv w x g)
    have := tol_le hw x g
    simp only [tr, List.length_cons]; omega
theorem cr_le (w : Wt) : ∀ (r : List Nat) (g : Nat), cr w r g ≤ r.length
  | [], _ => Nat.le_refl _
  | x :: r, g => by
    have := cr_le w r (mv w x g)
    simp only [cr, List.length_cons]; split <;> omega
theorem Vr_eq {w : Wt} (hw : np w ≤ 19) : ∀ (r : List Nat) (g : Nat), Vr w r g + tr w r g = 1000 * cr w r g
  | [], _ => rfl
  | x :: r, g => by
    have := Vr_eq hw r (mv w x g)
    have := tol_le hw x g
    simp only [Vr, tr, cr, vv]
    by_cases c : oc w x g = 1
    · rw [if_pos c, if_pos c]; omega
    · have : tol w x g = 0 := by unfold tol; rw [if_neg (fun z => c z.1)]
      rw [if_neg c, if_neg c]; omega
theorem Vr_lt {w : Wt} (hw : np w ≤ 19) {r q : List Nat} (hr : r.length ≤ 8) (hq : q.length ≤ 8) (g : Nat) : Vr w q g < Vr w r g ↔ (cr w q g < cr w r g ∨ (cr w r g = cr w q g ∧ tr w r g < tr w q g)) := by
  have h1 := Vr_eq hw r g
  have h2 := Vr_eq hw q g
  have h3 := tr_le hw r g
  have h4 := tr_le hw q g
  constructor
  · intro h; omega
  · intro h; omega
/-! those who are left, and the best of them -/
def rem (n come : Nat) : List Nat := (List.range n).filter (fun k => !come.testBit k)
def bm (w : Wt) (n : Nat) : Nat → Nat → Nat → Nat
  | 0, _, _ => 0
  | d + 1, come, g => mxr (fun k => if come.testBit k then 0 else vv w k g + bm w n d (come ||| 2 ^ k) (mv w k g)) n
def pk (w : Wt) (n d come g : Nat) : Nat := ffr (fun k => come.testBit k || !decide (vv w k g + bm w n d (come ||| 2 ^ k) (mv w k g) = bm w n (d + 1) come g)) n 0
def gm (w : Wt) (n : Nat) : Nat → Nat → Nat → List Nat
  | 0, _, _ => []
  | d + 1, come, g => pk w n d come g :: gm w n d (come ||| 2 ^ pk w n d come g) (mv w (pk w n d come g) g)
theorem gm_len (w : Wt) (n : Nat) : ∀ d come g, (gm w n d come g).length = d
  | 0, _, _ => rfl
  | d + 1, come, g => by
    show (gm w n d _ _).length + 1 = d + 1
    rw [gm_len w n d]
theorem rng_split {n k : Nat} (hk : k < n) : List.range n = List.range k ++ k :: (List.range (n - k - 1)).map (fun i => k + 1 + i) := by
  apply List.ext_getElem
  · simp; omega
  · intro i h1 h2
    simp only [List.getElem_range]
    rw [List.getElem_append]
    split
    · simp
    · rename_i c
      simp only [List.length_range] at c ⊢
      rw [List.getElem_cons]
      split
      · omega
      · simp; omega
theorem or_bit (a k j : Nat) : (a ||| 2 ^ k).testBit j = (a.testBit j || decide (k = j)) := by
  rw [Nat.testBit_or, Nat.testBit_two_pow]
theorem rem_split {n come k : Nat} (hk : k < n) (hb : come.testBit k = false) : ∃ C D, rem n come = C ++ k :: D ∧ rem n (come ||| 2 ^ k) = C ++ D ∧ (∀ c, c ∈ C → c < k) ∧ ∀ c, c ∈ D → k < c := by
  refine ⟨(List.range k).filter (fun j => !come.testBit j), ((List.range (n - k - 1)).map (fun i => k + 1 + i)).filter (fun j => !come.testBit j), ?_, ?_, ?_, ?_⟩
  · unfold rem
    rw [rng_split hk, List.filter_append, List.filter_cons, if_pos (by simp [hb])]
  · unfold rem
    rw [rng_split hk, List.filter_append, List.filter_cons, if_neg (by simp [or_bit])]
    congr 1
    · apply List.filter_congr
      intro j hj
      have := List.mem_range.mp hj
      rw [or_bit, show decide (k = j) = false from decide_eq_false (by omega), Bool.or_false]
    · apply List.filter_congr
      intro j hj
      obtain ⟨i, hi, e⟩ := List.mem_map.mp hj
      rw [or_bit, show decide (k = j) = false from decide_eq_false (by omega), Bool.or_false]
  · intro c hc
    exact List.mem_range.mp (List.mem_filter.mp hc).1
  · intro c hc
    obtain ⟨i, hi, e⟩ := List.mem_map.mp (List.mem_filter.mp hc).1
    omega
theorem rem_mem {n come k : Nat} : k ∈ rem n come ↔ k < n ∧ come.testBit k = false := by
  unfold rem
  rw [List.mem_filter, List.mem_range]
  simp
theorem rem_asc (n come : Nat) : Asc (rem n come) := by
  unfold rem
  exact List.Pairwise.filter _ (List.pairwise_lt_range)
