/-! ===== the pure heap, the world's shape ===== -/
abbrev pH : Type := (Nat → Nat → Int32) × (Nat → Nat → Int64)
def pw (h : pH) (k j : Nat) (v : Int32) : pH := (fun a => if a = k then upd (h.1 k) j v else h.1 a, h.2)
def pv (h : pH) (k j : Nat) (v : Int64) : pH := (h.1, fun a => if a = k then vp_updL (h.2 k) j v else h.2 a)
def pcI (h : pH) (k1 k2 sp dp n : Nat) : pH := (fun a => if a = k2 then va_cpy (h.1 k1) (h.1 k2) sp dp n else h.1 a, h.2)
def pcL (h : pH) (k1 k2 sp dp n : Nat) : pH := (h.1, fun a => if a = k2 then va_cpy (h.2 k1) (h.2 k2) sp dp n else h.2 a)
abbrev pS : Type := (Nat × List Nat) ⊕ (Nat × Nat × List Nat)
def shpL : List pS := [.inr (9, 0, []), .inl (8, [2, 9, 14, 24, 26, 27, 28, 29, 30, 35, 38, 39, 40, 0, 0, 0]), .inr (4, 3, [3, 4, 5]), .inl (7, [6, 0]), .inl (7, [7, 0]), .inl (7, [8, 0]), .inr (0, 19, []), .inr (0, 39, []), .inr (0, 24, []), .inl (0, [0, 0, 10, 0, 11, 12, 13]), .inr (0, 4, []), .inr (1, 19, []), .inr (0, 38, []), .inr (0, 38, []), .inl (2, [15, 0]), .inr (5, 8, [16, 17, 18, 19, 20, 21, 22, 23]), .inl (1, [0, 0, 0, 0, 0]), .inl (1, [0, 0, 0, 0, 0]), .inl (1, [0, 0, 0, 0, 0]), .inl (1, [0, 0, 0, 0, 0]), .inl (1, [0, 0, 0, 0, 0]), .inl (1, [0, 0, 0, 0, 0]), .inl (1, [0, 0, 0, 0, 0]), .inl (1, [0, 0, 0, 0, 0]), .inl (3, [25, 0]), .inr (0, 24, []), .inr (0, 25, []), .inr (0, 25, []), .inr (0, 4, []), .inr (0, 19, []), .inl (4, [31, 32, 33, 34, 0, 0, 0, 0]), .inr (0, 4864, []), .inr (0, 152, []), .inr (0, 152, []), .inr (0, 8, []), .inl (6, [36, 37, 0]), .inr (0, 8, []), .inr (0, 8, []), .inr (3, 19, []), .inr (3, 19, []), .inr (6, 4, [41, 42, 43, 44]), .inl (5, [45, 0, 0, 0]), .inl (5, [46, 0, 0, 0]), .inl (5, [47, 0, 0, 0]), .inl (5, [48, 0, 0, 0]), .inr (0, 60, []), .inr (0, 60, []), .inr (0, 60, []), .inr (0, 60, []), .inl (9, [50, 51, 52, 53, 0, 54, 55, 0, 56, 0, 57, 0, 58, 59, 60, 61, 62, 63, 64, 0, 0, 0, 0, 65, 66, 0, 0, 0, 67, 68, 0]), .inr (0, 4, []), .inr (0, 4, []), .inr (0, 240, []), .inr (0, 60, []), .inr (0, 120, []), .inr (0, 3, []), .inr (0, 19, []), .inr (0, 32, []), .inr (0, 24, []), .inr (0, 2, []), .inr (0, 4, []), .inr (0, 25, []), .inr (0, 24, []), .inr (0, 24, []), .inr (0, 24, []), .inr (0, 8, []), .inr (0, 8, []), .inr (0, 16, []), .inr (0, 475, [])]
def shp (k : Nat) : pS := shpL.getD k (.inr (9, 0, []))
def isO (ci r : Nat) : Bool := match shp r with
  | .inl (c, _) => c == ci
  | .inr _ => false
def fI (ci j r : Nat) : Bool := match shp r with
  | .inl (c, fs) => c == ci && fs[j]? == some 0
  | .inr _ => false
def fR (r j : Nat) : Nat := match shp r with
  | .inl (_, fs) => fs.getD j 0
  | .inr _ => 0
def aK (r : Nat) : Nat := match shp r with
  | .inl _ => 9
  | .inr (t, _, _) => t
def aN (r : Nat) : Nat := match shp r with
  | .inl _ => 0
  | .inr (_, n, _) => n
def aE (r j : Nat) : Nat := match shp r with
  | .inl _ => 0
  | .inr (_, _, els) => els.getD j 0
def rf (q : Nat → Nat) : Nat → Value
  | 0 => .null
  | k + 1 => .ref (q (k + 1))
def rfo (q : Nat → Nat) : Nat → Option Nat
  | 0 => none
  | k + 1 => some (q (k + 1))
theorem va_rf_rfo (q : Nat → Nat) (r : Nat) : va_rf (rfo q r) = rf q r := by cases r <;> rfl
theorem rf_cat (q : Nat → Nat) (r : Nat) : (rf q r).category = 1 := by cases r <;> rfl
def flv (q : Nat → Nat) (h : pH) (k : Nat) (fs : List Nat) : List Value := fs.mapIdx (fun j r => if r = 0 then Value.int (h.1 k j) else .ref (q r))
def cel (q : Nat → Nat) (cA : Nat → ClassId) (h : pH) (k : Nat) : va_E := match shp k with
  | .inl (ci, fs) => .inr (ci, flv q h k fs)
  | .inr (t, n, els) => .inl (cA t, n, if t = 3 then .inr (.inl (h.2 k)) else if t < 3 then .inl (h.1 k) else .inr (.inr (.inr (.inr (fun j => rfo q (els.getD j 0))))))
def gw (q : Nat → Nat) (cA : Nat → ClassId) (h : pH) : va_W := (List.range 68).map (fun i => (q (i + 1), cel q cA h (i + 1)))
def ix (i : Int32) (n : Nat) : Bool := decide (¬ (i < 0 ∨ n ≤ i.toNatClampNeg))
theorem ix_in {i : Int32} {n : Nat} (h : ix i n = true) : vp_in i n := by
  have h1 : ¬ (i < 0 ∨ n ≤ i.toNatClampNeg) := by simpa [ix] using h
  exact h1
theorem shp_lt {k : Nat} (h : shp k ≠ .inr (9, 0, [])) : 1 ≤ k ∧ k ≤ 68 := by
  rcases Nat.lt_or_ge 68 k with q | q
  · have e : shpL.length = 69 := rfl
    have e2 : shp k = .inr (9, 0, []) := by
      unfold shp
      rw [List.getD_eq_getElem?_getD, List.getElem?_eq_none (by omega)]
      rfl
    exact absurd e2 h
  · exact ⟨Nat.pos_of_ne_zero (fun e => h (by subst e; rfl)), q⟩
theorem gw_at {q : Nat → Nat} {cA : Nat → ClassId} {h : pH} {k : Nat} (hk : 1 ≤ k ∧ k ≤ 68) : (gw q cA h)[k - 1]? = some (q k, cel q cA h k) := by
  unfold gw
  rw [List.getElem?_map, List.getElem?_range (by omega)]
  simp only [Option.map_some]
  rw [show k - 1 + 1 = k by omega]
theorem gw_set {q : Nat → Nat} {cA : Nat → ClassId} {h h' : pH} {k : Nat} {x : va_E} (hk : 1 ≤ k ∧ k ≤ 68) (hx : x = cel q cA h' k) (ho : ∀ j, j ≠ k → cel q cA h' j = cel q cA h j) : (gw q cA h).set (k - 1) (q k, x) = gw q cA h' := by
  subst hx
  apply List.ext_getElem?
  intro i
  rw [List.getElem?_set]
  unfold gw
  simp only [List.getElem?_map, List.length_map, List.length_range]
  by_cases hi : i < 68
  · rw [List.getElem?_range hi]
    by_cases he : k - 1 = i
    · subst he
      simp [hi, show k - 1 + 1 = k by omega]
    · simp only [he, if_false, Option.map_some]
      rw [ho (i + 1) (by omega)]
  · rw [if_neg (by omega), List.getElem?_eq_none (by simpa using hi)]
    rfl
theorem cel_congr {q : Nat → Nat} {cA : Nat → ClassId} {h h' : pH} {j : Nat} (e1 : h'.1 j = h.1 j) (e2 : h'.2 j = h.2 j) : cel q cA h' j = cel q cA h j := by
  unfold cel flv
  rw [e1, e2]
theorem cel_pw {q : Nat → Nat} {cA : Nat → ClassId} {h : pH} {k i : Nat} {v : Int32} : ∀ j, j ≠ k → cel q cA (pw h k i v) j = cel q cA h j := fun j hj => cel_congr (by simp [pw, hj]) rfl
theorem cel_pv {q : Nat → Nat} {cA : Nat → ClassId} {h : pH} {k i : Nat} {v : Int64} : ∀ j, j ≠ k → cel q cA (pv h k i v) j = cel q cA h j := fun j hj => cel_congr rfl (by simp [pv, hj])
theorem isO_of {ci r : Nat} (h : isO ci r = true) : ∃ fs, shp r = .inl (ci, fs) := by
  unfold isO at h
  split at h
  · rename_i c fs e
    exact ⟨fs, by rw [e]; simp at h; rw [h]⟩
  · cases h
theorem fI_of {ci j r : Nat} (h : fI ci j r = true) : ∃ fs, shp r = .inl (ci, fs) ∧ fs[j]? = some 0 := by
  unfold fI at h
  split at h
  · rename_i c fs e
    simp at h
    exact ⟨fs, by rw [e, h.1], h.2⟩
  · cases h
theorem aK_of {r t : Nat} (h : aK r = t) (ht : t ≠ 9) : ∃ els, shp r = .inr (t, aN r, els) := by
  unfold aK at h
  unfold aN
  split at h
  · exact absurd h.symm ht
  · rename_i t' n els e
    exact ⟨els, by rw [e, ← h]⟩
theorem flv_get {q : Nat → Nat} {h : pH} {k j r : Nat} {fs : List Nat} (e : fs[j]? = some r) : (flv q h k fs)[j]? = some (if r = 0 then Value.int (h.1 k j) else .ref (q r)) := by
  unfold flv
  rw [List.getElem?_mapIdx, e]
  rfl
theorem flv_set {q : Nat → Nat} {h : pH} {k j : Nat} {fs : List Nat} {v : Int32} (e : fs[j]? = some 0) : (flv q h k fs).set j (.int v) = flv q (pw h k j v) k fs := by
  unfold flv
  apply List.ext_getElem?
  intro i
  rw [List.getElem?_set]
  simp only [List.getElem?_mapIdx, List.length_mapIdx]
  by_cases he : j = i
  · subst he
    have hl : j < fs.length := (List.getElem?_eq_some_iff.mp e).1
    have he := (List.getElem?_eq_some_iff.mp e).2
    simp [hl, pw, upd, he]
  · simp only [he, if_false]
    cases fs[i]? with
    | none => rfl
    | some r => simp [pw, upd, Ne.symm he]
/-! ===== words ===== -/
def lw_g : List Cond := lw_tbl.filter goodWord
theorem lw_in {i : Nat} {w : Cond} (h : lw_tbl[i]? = some w) (hg : goodWord w = true) : w ∈ lw_g := List.mem_filter.mpr ⟨List.mem_of_getElem? h, hg⟩
theorem lw_gg {w : Cond} (h : w ∈ lw_g) : (w.onTables && w.keeps) = true ∨ ∃ ty, w = .arrayClass ty := good_of_word (List.mem_filter.mp h).2
theorem lw_good {big : List Cond} {z : Cond} (hb : ∀ w ∈ lw_g, w ∈ big) (hz : z ∈ lw_g) : GoodIn big (z :: lw_g) := fun w hw => by
  rcases List.mem_cons.mp hw with e | e
  · subst e; exact ⟨hb _ hz, lw_gg hz⟩
  · exact ⟨hb _ e, lw_gg e⟩
def nsF : List (String × Nat × String × String × String × String) := [("MiddlePlank", 142, "MiddlePlank$Bridge", "river", "I", "MiddlePlank"), ("MiddlePlank", 145, "MiddlePlank$Bridge", "begin", "I", "MiddlePlank"), ("MiddlePlank$Plan", 75, "MiddlePlank$Bridge", "shifts", "[I", "MiddlePlank"), ("MiddlePlank", 148, "MiddlePlank$Bridge", "shifts", "[I", "MiddlePlank"), ("MiddlePlank$Plan", 24, "MiddlePlank$Bridge", "planks", "I", "MiddlePlank"), ("MiddlePlank", 176, "MiddlePlank$Bridge", "planks", "I", "MiddlePlank"), ("MiddlePlank", 124, "MiddlePlank$Crosser", "kind", "I", "MiddlePlank"), ("MiddlePlank$Bridge", 77, "MiddlePlank$Crosser", "kind", "I", "MiddlePlank"), ("MiddlePlank", 129, "MiddlePlank$Crosser", "weight", "I", "MiddlePlank"), ("MiddlePlank$Bridge", 65, "MiddlePlank$Crosser", "load", "I", "MiddlePlank"), ("MiddlePlank", 132, "MiddlePlank$Crosser", "end", "I", "MiddlePlank"), ("MiddlePlank$Bridge", 84, "MiddlePlank$Crosser", "end", "I", "MiddlePlank"), ("MiddlePlank", 135, "MiddlePlank$Crosser", "leap", "I", "MiddlePlank"), ("MiddlePlank$Bridge", 70, "MiddlePlank$Crosser", "leap", "I", "MiddlePlank"), ("MiddlePlank$Plan", 39, "MiddlePlank$Crossers", "count", "I", "MiddlePlank"), ("MiddlePlank", 193, "MiddlePlank$Crossers", "count", "I", "MiddlePlank"), ("MiddlePlank", 154, "MiddlePlank$Crossings", "count", "I", "MiddlePlank"), ("MiddlePlank", 182, "MiddlePlank$Plan", "crossing", "I", "MiddlePlank"), ("MiddlePlank", 185, "MiddlePlank$Plan", "tolls", "I", "MiddlePlank"), ("MiddlePlank", 207, "MiddlePlank$Sightings", "count", "I", "MiddlePlank"), ("MiddlePlank", 102, "MiddlePlank$Text", "length", "I", "MiddlePlank"), ("MiddlePlank", 258, "MiddlePlank$Sheet", "items", "[I", "MiddlePlank"), ("MiddlePlank", 212, "MiddlePlank$Sheet", "lost", "Z", "MiddlePlank"), ("MiddlePlank", 252, "MiddlePlank$Sheet", "form", "I", "MiddlePlank"), ("MiddlePlank", 218, "MiddlePlank$Sheet", "length", "I", "MiddlePlank"), ("MiddlePlank$Crosser", 15, "MiddlePlank", "KIND_SIGNS", "[C", "MiddlePlank"), ("MiddlePlank$Crosser", 29, "MiddlePlank", "WEIGHT_SIGNS", "[C", "MiddlePlank"), ("MiddlePlank$Crosser", 38, "MiddlePlank", "END_SIGNS", "[C", "MiddlePlank"), ("MiddlePlank$Crosser", 44, "MiddlePlank", "LEAP_SIGNS", "[C", "MiddlePlank"), ("MiddlePlank$Crossings", 31, "MiddlePlank", "CROSSING_SIGNS", "[C", "MiddlePlank")]
def nsM : List (String × Nat × MethodName × String) := [("MiddlePlank", 17, ⟨"MiddlePlank$Bridge", "<init>", "()V"⟩, "MiddlePlank"), ("MiddlePlank$Crossers", 17, ⟨"MiddlePlank$Crosser", "<init>", "()V"⟩, "MiddlePlank"), ("MiddlePlank", 31, ⟨"MiddlePlank$Crossings", "<init>", "()V"⟩, "MiddlePlank"), ("MiddlePlank", 51, ⟨"MiddlePlank$Plan", "<init>", "()V"⟩, "MiddlePlank"), ("MiddlePlank", 58, ⟨"MiddlePlank$Sightings", "<init>", "()V"⟩, "MiddlePlank"), ("MiddlePlank", 86, ⟨"MiddlePlank$Sheet", "<init>", "()V"⟩, "MiddlePlank"), ("MiddlePlank$Crosser", 19, ⟨"MiddlePlank", "placeOf", "(I[C)I"⟩, "MiddlePlank"), ("MiddlePlank$Crossings", 35, ⟨"MiddlePlank", "placeOf", "(I[C)I"⟩, "MiddlePlank"), ("MiddlePlank$Crossings", 39, ⟨"MiddlePlank", "within", "(III)Z"⟩, "MiddlePlank"), ("MiddlePlank$Crossers", 32, ⟨"MiddlePlank", "within", "(III)Z"⟩, "MiddlePlank"), ("MiddlePlank$Bridge", 58, ⟨"MiddlePlank", "within", "(III)Z"⟩, "MiddlePlank"), ("MiddlePlank$Plan", 64, ⟨"MiddlePlank", "within", "(III)Z"⟩, "MiddlePlank"), ("MiddlePlank$Sightings", 18, ⟨"MiddlePlank", "within", "(III)Z"⟩, "MiddlePlank")]
def nsK (U : State) : Prop := (∀ x ∈ nsF, va_Nw (.fieldLinkNest x.1 x.2.1 x.2.2.1 x.2.2.2.1 x.2.2.2.2.1 x.2.2.2.2.2) U) ∧ ∀ x ∈ nsM, va_Nw (.methodLinkNest x.1 x.2.1 x.2.2.1 x.2.2.2) U
theorem nsK.warm {s U : State} (hW : s.WarmedH U.vm) (h : nsK s) : nsK U := ⟨fun x hx => (h.1 x hx).warmF hW, fun x hx => (h.2 x hx).warmM hW⟩
theorem nsK.same {u U : State} (hv : u.vm = U.vm) (h : nsK u) : nsK U := ⟨fun x hx => (h.1 x hx).same rfl hv, fun x hx => (h.2 x hx).same rfl hv⟩
/-! ===== the static rows of signs ===== -/
def stN : Nat → String := fun i => match i with
  | 0 => "PLANK_SIGNS"
  | 1 => "KIND_SIGNS"
  | 2 => "WEIGHT_SIGNS"
  | 3 => "END_SIGNS"
  | 4 => "LEAP_SIGNS"
  | 5 => "BETWEEN_SIGNS"
  | _ => "CROSSING_SIGNS"
def stL : Nat → List Int32 := fun i => match i with
  | 0 => [46, 114]
  | 1 => [112, 104, 99, 103, 98]
  | 2 => [49, 50, 51, 52, 53, 54, 55, 56, 57]
  | 3 => [119, 101]
  | 4 => [48, 49, 50, 51, 52, 53, 54, 55, 56, 57]
  | 5 => [59]
  | _ => [97, 98, 99, 100, 101, 102, 103, 104]
def stc (i j : Nat) : Int32 := (stL i).getD j 0
def cxT (cA : Nat → ClassId) : List (ClassId × FieldType) := [(cA 0, .int), (cA 1, .boolean), (cA 2, .char), (cA 3, .long), (cA 4, .object RX7), (cA 5, .object RX1), (cA 6, .object RX5)]
def stX (i a : Nat) (U : State) (H : Heap) : Prop := ∃ scr : Cell, H[a]? = some scr ∧ U.isArrayOf scr .char ∧ scr.vm ≠ .unknown ∧ scr.slots.size = (stL i).length ∧ ∀ j : Nat, j < (stL i).length → scr.slots[j]? = some (.int (stc i j))
theorem stX.kept {i a : Nat} {U : State} {H H1 : Heap} (h : stX i a U H) (hq : H1[a]? = H[a]?) : stX i a U H1 := by
  obtain ⟨scr, h1, h2⟩ := h
  exact ⟨scr, by rw [hq]; exact h1, h2⟩
theorem stX.moved {i a : Nat} {u U : State} {H : Heap} (hvm : u.vm.Alike U.vm) (h : stX i a u H) : stX i a U H := by
  obtain ⟨scr, h1, h2, h3⟩ := h
  exact ⟨scr, h1, State.isArrayOf_alike hvm h2, h3⟩
theorem stX.lt {i a : Nat} {U : State} {H : Heap} (h : stX i a U H) : a < H.size := by
  obtain ⟨scr, h1, -⟩ := h
  exact (Array.getElem?_eq_some_iff.mp h1).1
def stK (q : Nat → Nat) (A : Nat → Prop) (U : State) (H : Heap) : Prop := ∀ i, i < 7 → va_Z "MiddlePlank" (stN i) "[C" (.ref (q (69 + i))) A U H ∧ stX i (q (69 + i)) U H ∧ ¬ A (q (69 + i))
theorem stK.kept {q : Nat → Nat} {A B : Nat → Prop} {u U : State} {H H1 : Heap} (hvm : u.vm.Alike U.vm) (h : stK q A u H) (hq : ∀ a : Nat, a < H.size → ¬ A a → H1[a]? = H[a]?) (hAB : ∀ a, B a → A a) : stK q B U H1 := fun i hi => by
  obtain ⟨h1, h2, h3⟩ := h i hi
  exact ⟨((h1.kept hq).narrow hAB).moved hvm, (h2.kept (hq _ h2.lt h3)).moved hvm, fun z => h3 (hAB _ z)⟩
/-! ===== the walk's own judgement ===== -/
abbrev Xt : Type := Program × Launch × Env × Room × State × MethodId × Array Value × List Frame × Method × Code × (Nat × Nat) × (State → Prop) × va_G × (Nat → Nat) × (Nat → ClassId) × (Nat → Prop)
def qo (X : Xt) : Nat → Nat := X.2.2.2.2.2.2.2.2.2.2.2.2.2.1
def ro (X : Xt) : Room := X.2.2.2.1
def lo (X : Xt) : Launch := X.2.1
def wA (q : Nat → Nat) : Nat → Prop := fun a => ∃ k, (1 ≤ k ∧ k ≤ 68) ∧ a = q k
def inj (q : Nat → Nat) : Prop := ∀ i j, (1 ≤ i ∧ i ≤ 68) → (1 ≤ j ∧ j ≤ 68) → q i = q j → i = j
def Wx : Xt → Nat → Nat → List (Nat × Value) → List Value → pH → Prop
  | (p, l, e, R, s, m, args, below, meth, c, cs, Q, D, q, cA, A), nL, pc, lv, st, h => ∀ (H : Heap) (locs : List Loc) (ls : Array Slot), va_P D vwCl (gw q cA h) H → va_S A s.heap H locs → lv_has ls nL lv → W p l e R s m args below meth c H locs cs.1 cs.2 Q (F0 m pc ls st)
def Cx : Xt → ByteArray → String → Nat → Prop
  | (p, _, _, R, s, m, args, _, _, c, cs, _, D, q, cA, A), cc, own, nL => p.tables.exec = Jvm.exec ∧ c.code = cc ∧ c.maxLocals = nL ∧ s.vm.findClass own = some m.cls ∧ (∀ w ∈ lw_g, w.before args s = true) ∧ nsK s ∧ va_K D vwCl (cxT cA) s ∧ inj q ∧ (∀ a, wA q a → A a) ∧ stK q A s s.heap ∧ cs.1 ≤ R.cells ∧ cs.2 ≤ R.slots
theorem gwD {q : Nat → Nat} {cA : Nat → ClassId} {h : pH} {A : Nat → Prop} (hi : inj q) (hA : ∀ a, wA q a → A a) : va_D A (gw q cA h) := by
  have key : ∀ (k : Nat) (x : Nat × va_E), (gw q cA h)[k]? = some x → k < 68 ∧ x.1 = q (k + 1) := by
    intro k x hk
    have hl : k < 68 := by simpa [gw] using (List.getElem?_eq_some_iff.mp hk).1
    have h2 := gw_at (q := q) (cA := cA) (h := h) (k := k + 1) (by omega)
    rw [Nat.add_sub_cancel, hk] at h2
    exact ⟨hl, by rw [Option.some.inj h2]⟩
  refine ⟨fun i j a b ha hb e => ?_, fun k x hk => ?_⟩
  · obtain ⟨l1, e1⟩ := key i a ha
    obtain ⟨l2, e2⟩ := key j b hb
    have := hi (i + 1) (j + 1) (by omega) (by omega) (by rw [← e1, ← e2, e])
    omega
  · obtain ⟨l1, e1⟩ := key k x hk
    exact hA _ ⟨k + 1, by omega, e1⟩
