/-! THE CLAIM OUT OF ONE WALK OF THE LAW'S BODY. Your part is whole_start (and what it stands on); all else here is the same for every law, but numbers. -/
def R_law : String := "MiddlePlankLaw"
def lw_P (b : Addr) (xs : List Int32) (args : Array Value) (s : State) : Prop := args = #[.ref b] ∧ s.IntsAt b xs ∧ xs.length ≤ 3072 ∧ (Jvm.Cond.and given_1 narrow_1).before args s = true
def lw_Q (_ : Array Value) (s : State) (o : Outcome) (t : State) : Prop := o = .returned (some (.int 1)) ∧ Framed s o t [] 600000 7302250
def lw_Z (below : List Frame) (a : Array Value) (s : State) : State → Prop := fun t => ∃ o, t.status = .running ∧ Ended t below o ∧ lw_Q a s o t
/-- the law's own end, with 1 on the stack, nothing written that was there before, its room as the claim has it -/
theorem lw_ret {p : Program} {l : Launch} {e : Env} {s : State} {m : MethodId} {below : List Frame} {meth : Method} {c : Code} {b : Nat} (hx : p.tables.exec = Jvm.exec) (hb : c.code = code) (hr : meth.sig.returnType = ret) (hlocks : meth.locks = false) {pc : Nat} {H : Heap} {ls : Array Slot} (hdg : decode code pc = .ok (.ireturn, 1)) : W p l e room_1 s m #[Value.ref b] below meth c H [] 600000 7302250 (lw_Z below #[Value.ref b] s) (F0 m pc ls [.int 1]) := by
  intro T hT X
  obtain ⟨fs, hret, hrun, hended, hW, hframe⟩ := X.leave (v := some (.int 1)) (hlocks := hlocks) (fun h => by rw [hr] at h; cases h)
  have hmeth' : T.vm.method? m = some meth := X.method'
  refine ⟨T.setFrames fs, ?_, .returned (some (.int 1)), hrun, hended, rfl, ⟨_, rfl⟩, hW, hframe⟩
  jvm_step X.here [X.here.top, hx, hb, hdg, hmeth', hr, ret, narrow_b1]
  (try refine ⟨rfl, ?_⟩); (try refine ⟨rfl, ?_⟩)
  first | (intro acts; rw [hret _ acts rfl rfl rfl]) | rw [hret _ _ rfl rfl rfl]
  exact Steps.refl _
/-- what holds at the law's entry: the machine, the code, the tables' words (any of lw_tbl by 'hts w (by decide +kernel)'), the script of L ints xs at the cell b, what the Statement gives of the start (any of its parts by flat_of_before) -/
def lw_At (p : Program) (s : State) (m : MethodId) (meth : Method) (c : Code) (b L : Nat) (xs : Nat → Int32) : Prop :=
  p.tables.exec = Jvm.exec ∧ c.code = code ∧ meth.sig.returnType = ret ∧ c.maxLocals = 4 ∧ s.vm.findClass R_law = some m.cls ∧ (∀ w ∈ lw_tbl, w.before #[Value.ref b] s = true) ∧ va_X b L xs s s.heap ∧ b < s.heap.size ∧ meth.locks = false ∧ (Jvm.Cond.and given_1 narrow_1).before #[Value.ref b] s = true

theorem eqv {args : Array Value} {s : State} {t : Term} {z : Int32} (h : (Cond.eq t (.int z)).before args s = true) : t.eval args s none [] s = some (.int z) := by
  cases hv : t.eval args s none [] s with
  | none => simp [Cond.before, Cond.holds, Cond.value, hv] at h
  | some w =>
    have hz : (Term.int z).eval args s none [] s = some (.int z) := rfl
    simp only [Cond.before, Cond.holds, Cond.value, hv, hz] at h
    cases w <;> simp_all
theorem len_spec {args : Array Value} {s : State} {t : Term} {v : Value} (h : (Term.length t).eval args s none [] s = some v) :
    ∃ a cell, t.eval args s none [] s = some (.ref a) ∧ s.arrayAt? a = some cell ∧ v = .int cell.slots.size.toInt32 ∧ cell.slots.size < 2147483648 := by
  simp only [Term.eval, Option.bind_eq_bind] at h
  cases ht : t.eval args s none [] s with
  | none => simp [ht] at h
  | some x =>
    cases x <;> simp [ht] at h
    case ref a =>
      obtain ⟨cell, hcell, h⟩ := Option.bind_eq_some_iff.mp h
      by_cases hn : cell.slots.size < 2147483648
      · rw [if_pos hn] at h; cases h; exact ⟨a, cell, rfl, hcell, rfl, hn⟩
      · rw [if_neg hn] at h; cases h
theorem st_of {args : Array Value} {s : State} {A : Nat → Prop} (i : Nat) (hi : (stL i).length < 1000) (hl : (Cond.laysStatic "MiddlePlank" (stN i) "[C").before args s = true) (hini : (Cond.initialized "MiddlePlank").before args s = true) (harr : (Cond.arrayOf (.static "MiddlePlank" (stN i) "[C") .char).before args s = true) (hlen : (Cond.eq (.length (.static "MiddlePlank" (stN i) "[C")) (.int (nI (stL i).length))).before args s = true) (hel : ∀ j, j < (stL i).length → (Cond.eq (.elem (.static "MiddlePlank" (stN i) "[C") (.int (nI j))) (.int (stc i j))).before args s = true) (hA : ∀ a : Nat, a < s.heap.size → ¬ A a) : ∃ a, va_Z "MiddlePlank" (stN i) "[C" (.ref a) A s s.heap ∧ stX i a s s.heap ∧ ¬ A a := by
  obtain ⟨a, cell, h1, h2, h3, h4⟩ := len_spec (eqv hlen)
  obtain ⟨c1, c2, c3, -⟩ := State.arrayAt?_spec h2
  obtain ⟨d1, d2⟩ := Cond.arrayOf_spec harr h1 c1
  have hsz : cell.slots.size = (stL i).length := by
    have e : nI (stL i).length = nI cell.slots.size := Value.int.inj h3
    exact ((nI_eq (by omega) (by omega)).mp e).symm
  refine ⟨a, va_Zof hl hini h1 hA, ⟨cell, c1, d1, d2, hsz, fun j hj => ?_⟩, hA a (Array.getElem?_eq_some_iff.mp c1).1⟩
  obtain ⟨a', j', cell', e1, e2, e3, e4, e5⟩ := Term.elem_spec (eqv (hel j hj))
  have e6 : a' = a := by have := h1.symm.trans e1; simpa using this.symm
  subst e6
  have e7 : cell' = cell := Option.some.inj (e3.symm.trans h2)
  subst e7
  have e8 : j' = nI j := by
    have : (Term.int (nI j)).eval args s none [] s = some (.int (nI j)) := rfl
    have := this.symm.trans e2
    simpa using this.symm
  subst e8
  rw [nI_clamp (by omega)] at e5
  exact e5
theorem nsK_of {args : Array Value} {s : State} (hts : ∀ w ∈ lw_tbl, w.before args s = true) : nsA s := by
  refine ⟨⟨fun x hx => ?_, fun x hx => ?_⟩, ?_, ?_, ?_⟩
  · exact va_Nw.of rfl (hts _ ((by decide +kernel : ∀ x ∈ nsF, Cond.fieldLinkNest x.1 x.2.1 x.2.2.1 x.2.2.2.1 x.2.2.2.2.1 x.2.2.2.2.2 ∈ lw_tbl) x hx))
  · exact va_Nw.of rfl (hts _ ((by decide +kernel : ∀ x ∈ nsM, Cond.methodLinkNest x.1 x.2.1 x.2.2.1 x.2.2.2 ∈ lw_tbl) x hx))
  · exact va_AO.of (hts (.arrayOver (.object RX7)) (by decide +kernel))
  · exact va_AO.of (hts (.arrayOver (.object RX1)) (by decide +kernel))
  · exact va_AO.of (hts (.arrayOver (.object RX5)) (by decide +kernel))
theorem K_of {args : Array Value} {s : State} (hg : ∀ w ∈ lw_g, w.before args s = true) (ha : aoK s) : ∃ (D : va_G) (cA : Nat → ClassId), va_K D vwCl (cxT cA) s := by
  obtain ⟨c0, iS0, hKn0⟩ := u_known (C := RX0) (T := TX0) (N := 7) (n := 7) hg kc0.2.1 (hg _ kinX0)
  obtain ⟨c1, iS1, hKn1⟩ := u_known (C := RX1) (T := TX1) (N := 5) (n := 5) hg kc1.2.1 (hg _ kinX1)
  obtain ⟨c2, iS2, hKn2⟩ := u_known (C := RX2) (T := TX2) (N := 2) (n := 2) hg kc2.2.1 (hg _ kinX2)
  obtain ⟨c3, iS3, hKn3⟩ := u_known (C := RX3) (T := TX3) (N := 2) (n := 2) hg kc3.2.1 (hg _ kinX3)
  obtain ⟨c4, iS4, hKn4⟩ := u_known (C := RX4) (T := TX4) (N := 8) (n := 8) hg kc4.2.1 (hg _ kinX4)
  obtain ⟨c5, iS5, hKn5⟩ := u_known (C := RX5) (T := TX5) (N := 4) (n := 4) hg kc5.2.1 (hg _ kinX5)
  obtain ⟨c6, iS6, hKn6⟩ := u_known (C := RX6) (T := TX6) (N := 3) (n := 3) hg kc6.2.1 (hg _ kinX6)
  obtain ⟨c7, iS7, hKn7⟩ := u_known (C := RX7) (T := TX7) (N := 2) (n := 2) hg kc7.2.1 (hg _ kinX7)
  obtain ⟨c8, iS8, hKn8⟩ := u_known (C := RX8) (T := TX8) (N := 16) (n := 16) hg kc8.2.1 (hg _ kinX8)
  obtain ⟨c9, iS9, hKn9⟩ := u_known (C := RX9) (T := TX9) (N := 31) (n := 31) hg kc9.2.1 (hg _ kinX9)
  obtain ⟨b0, kb0, cb0, f0, g0, e0⟩ := Cond.arrayClass_spec (hg _ kac_int)
  obtain ⟨b1, kb1, cb1, f1, g1, e1⟩ := Cond.arrayClass_spec (hg _ kac_boolean)
  obtain ⟨b2, kb2, cb2, f2, g2, e2⟩ := Cond.arrayClass_spec (hg _ kac_char)
  obtain ⟨b3, kb3, cb3, f3, g3, e3⟩ := Cond.arrayClass_spec (hg _ kac_long)
  obtain ⟨cb4, b4, kb4, f4, -, g4, e4, i4⟩ := Cond.arrayOver_spec (args := #[]) ha.1
  obtain ⟨cb5, b5, kb5, f5, -, g5, e5, i5⟩ := Cond.arrayOver_spec (args := #[]) ha.2.1
  obtain ⟨cb6, b6, kb6, f6, -, g6, e6, i6⟩ := Cond.arrayOver_spec (args := #[]) ha.2.2
  refine ⟨(fun k => match k with | 0 => c0 | 1 => c1 | 2 => c2 | 3 => c3 | 4 => c4 | 5 => c5 | 6 => c6 | 7 => c7 | 8 => c8 | _ => c9, fun k => match k with | 0 => iS0 | 1 => iS1 | 2 => iS2 | 3 => iS3 | 4 => iS4 | 5 => iS5 | 6 => iS6 | 7 => iS7 | 8 => iS8 | _ => iS9), fun t => match t with | 0 => b0 | 1 => b1 | 2 => b2 | 3 => b3 | 4 => b4 | 5 => b5 | _ => b6, ?_, ?_⟩
  · intro k q hq
    match k, hq with
    | 0, hq => cases hq; exact hKn0
    | 1, hq => cases hq; exact hKn1
    | 2, hq => cases hq; exact hKn2
    | 3, hq => cases hq; exact hKn3
    | 4, hq => cases hq; exact hKn4
    | 5, hq => cases hq; exact hKn5
    | 6, hq => cases hq; exact hKn6
    | 7, hq => cases hq; exact hKn7
    | 8, hq => cases hq; exact hKn8
    | 9, hq => cases hq; exact hKn9
    | k + 10, hq => simp [vwCl] at hq
  · intro k q hq
    match k, hq with
    | 0, hq => cases hq; exact ⟨fun n z => ⟨(fun k h => by cases h), kb0, g0, cb0, e0⟩, f0⟩
    | 1, hq => cases hq; exact ⟨fun n z => ⟨(fun k h => by cases h), kb1, g1, cb1, e1⟩, f1⟩
    | 2, hq => cases hq; exact ⟨fun n z => ⟨(fun k h => by cases h), kb2, g2, cb2, e2⟩, f2⟩
    | 3, hq => cases hq; exact ⟨fun n z => ⟨(fun k h => by cases h), kb3, g3, cb3, e3⟩, f3⟩
    | 4, hq => cases hq; exact ⟨fun n z => ⟨(fun k h => by cases h), kb4, g4, cb4, e4⟩, kb4, cb4, g4, e4, f4, i4⟩
    | 5, hq => cases hq; exact ⟨fun n z => ⟨(fun k h => by cases h), kb5, g5, cb5, e5⟩, kb5, cb5, g5, e5, f5, i5⟩
    | 6, hq => cases hq; exact ⟨fun n z => ⟨(fun k h => by cases h), kb6, g6, cb6, e6⟩, kb6, cb6, g6, e6, f6, i6⟩
    | k + 7, hq => simp [cxT] at hq
theorem sts_of {args : Array Value} {s : State} {A : Nat → Prop} (hts : ∀ w ∈ lw_tbl, w.before args s = true) (hg : ∀ w ∈ lw_g, w.before args s = true) (hv : (Jvm.Cond.and given_1 narrow_1).before args s = true) (hA : ∀ a : Nat, a < s.heap.size → ¬ A a) : ∃ sa : Nat → Nat, ∀ i, i < 7 → va_Z "MiddlePlank" (stN i) "[C" (.ref (sa i)) A s s.heap ∧ stX i (sa i) s s.heap ∧ ¬ A (sa i) := by
  have hs := flat_of_before _ hv
  obtain ⟨s0, h0⟩ := st_of (A := A) 0 (by decide) (hts (.laysStatic "MiddlePlank" "PLANK_SIGNS" "[C") (List.mem_of_getElem? (i := 361) (by decide +kernel))) (hg (.initialized RX8) kni8) (hs (.arrayOf (.static "MiddlePlank" "PLANK_SIGNS" "[C") .char) (by decide +kernel)) (hs (.eq (.length (.static "MiddlePlank" "PLANK_SIGNS" "[C")) (.int 2)) (by decide +kernel)) (fun j hj => by
    have hj : j < 2 := hj
    rcases (show j = 0 ∨ j = 1 by omega) with rfl | rfl
    · exact hs (.eq (.elem (.static "MiddlePlank" "PLANK_SIGNS" "[C") (.int 0)) (.int 46)) (by decide +kernel)
    · exact hs (.eq (.elem (.static "MiddlePlank" "PLANK_SIGNS" "[C") (.int 1)) (.int 114)) (by decide +kernel)) hA
  obtain ⟨s1, h1⟩ := st_of (A := A) 1 (by decide) (hts (.laysStatic "MiddlePlank" "KIND_SIGNS" "[C") (List.mem_of_getElem? (i := 365) (by decide +kernel))) (hg (.initialized RX8) kni8) (hs (.arrayOf (.static "MiddlePlank" "KIND_SIGNS" "[C") .char) (by decide +kernel)) (hs (.eq (.length (.static "MiddlePlank" "KIND_SIGNS" "[C")) (.int 5)) (by decide +kernel)) (fun j hj => by
    have hj : j < 5 := hj
    rcases (show j = 0 ∨ j = 1 ∨ j = 2 ∨ j = 3 ∨ j = 4 by omega) with rfl | rfl | rfl | rfl | rfl
    · exact hs (.eq (.elem (.static "MiddlePlank" "KIND_SIGNS" "[C") (.int 0)) (.int 112)) (by decide +kernel)
    · exact hs (.eq (.elem (.static "MiddlePlank" "KIND_SIGNS" "[C") (.int 1)) (.int 104)) (by decide +kernel)
    · exact hs (.eq (.elem (.static "MiddlePlank" "KIND_SIGNS" "[C") (.int 2)) (.int 99)) (by decide +kernel)
    · exact hs (.eq (.elem (.static "MiddlePlank" "KIND_SIGNS" "[C") (.int 3)) (.int 103)) (by decide +kernel)
    · exact hs (.eq (.elem (.static "MiddlePlank" "KIND_SIGNS" "[C") (.int 4)) (.int 98)) (by decide +kernel)) hA
  obtain ⟨s2, h2⟩ := st_of (A := A) 2 (by decide) (hts (.laysStatic "MiddlePlank" "WEIGHT_SIGNS" "[C") (List.mem_of_getElem? (i := 367) (by decide +kernel))) (hg (.initialized RX8) kni8) (hs (.arrayOf (.static "MiddlePlank" "WEIGHT_SIGNS" "[C") .char) (by decide +kernel)) (hs (.eq (.length (.static "MiddlePlank" "WEIGHT_SIGNS" "[C")) (.int 9)) (by decide +kernel)) (fun j hj => by
    have hj : j < 9 := hj
    rcases (show j = 0 ∨ j = 1 ∨ j = 2 ∨ j = 3 ∨ j = 4 ∨ j = 5 ∨ j = 6 ∨ j = 7 ∨ j = 8 by omega) with rfl | rfl | rfl | rfl | rfl | rfl | rfl | rfl | rfl
    · exact hs (.eq (.elem (.static "MiddlePlank" "WEIGHT_SIGNS" "[C") (.int 0)) (.int 49)) (by decide +kernel)
    · exact hs (.eq (.elem (.static "MiddlePlank" "WEIGHT_SIGNS" "[C") (.int 1)) (.int 50)) (by decide +kernel)
    · exact hs (.eq (.elem (.static "MiddlePlank" "WEIGHT_SIGNS" "[C") (.int 2)) (.int 51)) (by decide +kernel)
    · exact hs (.eq (.elem (.static "MiddlePlank" "WEIGHT_SIGNS" "[C") (.int 3)) (.int 52)) (by decide +kernel)
    · exact hs (.eq (.elem (.static "MiddlePlank" "WEIGHT_SIGNS" "[C") (.int 4)) (.int 53)) (by decide +kernel)
    · exact hs (.eq (.elem (.static "MiddlePlank" "WEIGHT_SIGNS" "[C") (.int 5)) (.int 54)) (by decide +kernel)
    · exact hs (.eq (.elem (.static "MiddlePlank" "WEIGHT_SIGNS" "[C") (.int 6)) (.int 55)) (by decide +kernel)
    · exact hs (.eq (.elem (.static "MiddlePlank" "WEIGHT_SIGNS" "[C") (.int 7)) (.int 56)) (by decide +kernel)
    · exact hs (.eq (.elem (.static "MiddlePlank" "WEIGHT_SIGNS" "[C") (.int 8)) (.int 57)) (by decide +kernel)) hA
  obtain ⟨s3, h3⟩ := st_of (A := A) 3 (by decide) (hts (.laysStatic "MiddlePlank" "END_SIGNS" "[C") (List.mem_of_getElem? (i := 369) (by decide +kernel))) (hg (.initialized RX8) kni8) (hs (.arrayOf (.static "MiddlePlank" "END_SIGNS" "[C") .char) (by decide +kernel)) (hs (.eq (.length (.static "MiddlePlank" "END_SIGNS" "[C")) (.int 2)) (by decide +kernel)) (fun j hj => by
    have hj : j < 2 := hj
    rcases (show j = 0 ∨ j = 1 by omega) with rfl | rfl
    · exact hs (.eq (.elem (.static "MiddlePlank" "END_SIGNS" "[C") (.int 0)) (.int 119)) (by decide +kernel)
    · exact hs (.eq (.elem (.static "MiddlePlank" "END_SIGNS" "[C") (.int 1)) (.int 101)) (by decide +kernel)) hA
  obtain ⟨s4, h4⟩ := st_of (A := A) 4 (by decide) (hts (.laysStatic "MiddlePlank" "LEAP_SIGNS" "[C") (List.mem_of_getElem? (i := 371) (by decide +kernel))) (hg (.initialized RX8) kni8) (hs (.arrayOf (.static "MiddlePlank" "LEAP_SIGNS" "[C") .char) (by decide +kernel)) (hs (.eq (.length (.static "MiddlePlank" "LEAP_SIGNS" "[C")) (.int 10)) (by decide +kernel)) (fun j hj => by
    have hj : j < 10 := hj
    rcases (show j = 0 ∨ j = 1 ∨ j = 2 ∨ j = 3 ∨ j = 4 ∨ j = 5 ∨ j = 6 ∨ j = 7 ∨ j = 8 ∨ j = 9 by omega) with rfl | rfl | rfl | rfl | rfl | rfl | rfl | rfl | rfl | rfl
    · exact hs (.eq (.elem (.static "MiddlePlank" "LEAP_SIGNS" "[C") (.int 0)) (.int 48)) (by decide +kernel)
    · exact hs (.eq (.elem (.static "MiddlePlank" "LEAP_SIGNS" "[C") (.int 1)) (.int 49)) (by decide +kernel)
    · exact hs (.eq (.elem (.static "MiddlePlank" "LEAP_SIGNS" "[C") (.int 2)) (.int 50)) (by decide +kernel)
    · exact hs (.eq (.elem (.static "MiddlePlank" "LEAP_SIGNS" "[C") (.int 3)) (.int 51)) (by decide +kernel)
    · exact hs (.eq (.elem (.static "MiddlePlank" "LEAP_SIGNS" "[C") (.int 4)) (.int 52)) (by decide +kernel)
    · exact hs (.eq (.elem (.static "MiddlePlank" "LEAP_SIGNS" "[C") (.int 5)) (.int 53)) (by decide +kernel)
    · exact hs (.eq (.elem (.static "MiddlePlank" "LEAP_SIGNS" "[C") (.int 6)) (.int 54)) (by decide +kernel)
    · exact hs (.eq (.elem (.static "MiddlePlank" "LEAP_SIGNS" "[C") (.int 7)) (.int 55)) (by decide +kernel)
    · exact hs (.eq (.elem (.static "MiddlePlank" "LEAP_SIGNS" "[C") (.int 8)) (.int 56)) (by decide +kernel)
    · exact hs (.eq (.elem (.static "MiddlePlank" "LEAP_SIGNS" "[C") (.int 9)) (.int 57)) (by decide +kernel)) hA
  obtain ⟨s5, h5⟩ := st_of (A := A) 5 (by decide) (hts (.laysStatic "MiddlePlank" "BETWEEN_SIGNS" "[C") (List.mem_of_getElem? (i := 373) (by decide +kernel))) (hg (.initialized RX8) kni8) (hs (.arrayOf (.static "MiddlePlank" "BETWEEN_SIGNS" "[C") .char) (by decide +kernel)) (hs (.eq (.length (.static "MiddlePlank" "BETWEEN_SIGNS" "[C")) (.int 1)) (by decide +kernel)) (fun j hj => by
    have hj : j < 1 := hj
    rcases (show j = 0 by omega) with rfl
    · exact hs (.eq (.elem (.static "MiddlePlank" "BETWEEN_SIGNS" "[C") (.int 0)) (.int 59)) (by decide +kernel)) hA
  obtain ⟨s6, h6⟩ := st_of (A := A) 6 (by decide) (hts (.laysStatic "MiddlePlank" "CROSSING_SIGNS" "[C") (List.mem_of_getElem? (i := 363) (by decide +kernel))) (hg (.initialized RX8) kni8) (hs (.arrayOf (.static "MiddlePlank" "CROSSING_SIGNS" "[C") .char) (by decide +kernel)) (hs (.eq (.length (.static "MiddlePlank" "CROSSING_SIGNS" "[C")) (.int 8)) (by decide +kernel)) (fun j hj => by
    have hj : j < 8 := hj
    rcases (show j = 0 ∨ j = 1 ∨ j = 2 ∨ j = 3 ∨ j = 4 ∨ j = 5 ∨ j = 6 ∨ j = 7 by omega) with rfl | rfl | rfl | rfl | rfl | rfl | rfl | rfl
    · exact hs (.eq (.elem (.static "MiddlePlank" "CROSSING_SIGNS" "[C") (.int 0)) (.int 97)) (by decide +kernel)
    · exact hs (.eq (.elem (.static "MiddlePlank" "CROSSING_SIGNS" "[C") (.int 1)) (.int 98)) (by decide +kernel)
    · exact hs (.eq (.elem (.static "MiddlePlank" "CROSSING_SIGNS" "[C") (.int 2)) (.int 99)) (by decide +kernel)
    · exact hs (.eq (.elem (.static "MiddlePlank" "CROSSING_SIGNS" "[C") (.int 3)) (.int 100)) (by decide +kernel)
    · exact hs (.eq (.elem (.static "MiddlePlank" "CROSSING_SIGNS" "[C") (.int 4)) (.int 101)) (by decide +kernel)
    · exact hs (.eq (.elem (.static "MiddlePlank" "CROSSING_SIGNS" "[C") (.int 5)) (.int 102)) (by decide +kernel)
    · exact hs (.eq (.elem (.static "MiddlePlank" "CROSSING_SIGNS" "[C") (.int 6)) (.int 103)) (by decide +kernel)
    · exact hs (.eq (.elem (.static "MiddlePlank" "CROSSING_SIGNS" "[C") (.int 7)) (.int 104)) (by decide +kernel)) hA
  refine ⟨fun i => match i with | 0 => s0 | 1 => s1 | 2 => s2 | 3 => s3 | 4 => s4 | 5 => s5 | _ => s6, fun i hi => ?_⟩
  match i, hi with
  | 0, _ => exact h0
  | 1, _ => exact h1
  | 2, _ => exact h2
  | 3, _ => exact h3
  | 4, _ => exact h4
  | 5, _ => exact h5
  | 6, _ => exact h6
  | k + 7, hi => exact absurd hi (by omega)
def qq (a1 : Nat) (u1 : Nat → Nat) (a2 : Nat) (u2 sa : Nat → Nat) : Nat → Nat := fun k => if k ≤ 48 then qz 1 a1 u1 k else if k ≤ 68 then qz 49 a2 u2 k else sa (k - 69)
theorem gw_qq (a1 : Nat) (u1 : Nat → Nat) (a2 : Nat) (u2 sa : Nat → Nat) (cA : Nat → ClassId) : gwp 1 48 (qz 1 a1 u1) cA h00 ++ gwp 49 68 (qz 49 a2 u2) cA h00 = gw (qq a1 u1 a2 u2 sa) cA h00 := by
  have e1 : gwp 1 48 (qz 1 a1 u1) cA h00 = gwp 1 48 (qq a1 u1 a2 u2 sa) cA h00 := by
    rw [gwp1, gwp1]
    simp only [ce1, ce2, ce3, ce4, ce5, ce6, ce7, ce8, ce9, ce10, ce11, ce12, ce13, ce14, ce15, ce16, ce17, ce18, ce19, ce20, ce21, ce22, ce23, ce24, ce25, ce26, ce27, ce28, ce29, ce30, ce31, ce32, ce33, ce34, ce35, ce36, ce37, ce38, ce39, ce40, ce41, ce42, ce43, ce44, ce45, ce46, ce47, ce48]
    rfl
  have e2 : gwp 49 68 (qz 49 a2 u2) cA h00 = gwp 49 68 (qq a1 u1 a2 u2 sa) cA h00 := by
    rw [gwp49, gwp49]
    simp only [ce49, ce50, ce51, ce52, ce53, ce54, ce55, ce56, ce57, ce58, ce59, ce60, ce61, ce62, ce63, ce64, ce65, ce66, ce67, ce68]
    rfl
  rw [e1, e2, gwp1, gwp49]
  rfl
theorem isR_of {w : va_W} {x : Nat × va_E} {n : Nat} (h : w.length = n) : (List.range n).map (fun i => (w ++ [x])[i]?) = w.map some := by
  subst h
  apply List.ext_getElem?
  intro i
  simp only [List.getElem?_map]
  by_cases hi : i < w.length
  · rw [List.getElem?_range hi, List.getElem?_eq_getElem hi]
    simp [List.getElem?_append_left hi, hi]
  · rw [List.getElem?_eq_none (by simpa using hi), List.getElem?_eq_none (by simpa using hi)]
    rfl

set_option maxHeartbeats 4000000 in
set_option maxRecDepth 100000 in
/-- out of the pure statement, the law from its entry -/
theorem start_of {p : Program} {e : Env} {s : State} {m : MethodId} {below : List Frame} {meth : Method} {c : Code} (l : Launch) {b L : Nat} {xs : Nat → Int32} (C0 : lw_At p s m meth c b L xs) (N : Nat) (h' : pH) (hp : fL_law N L xs h00 = some (1, h')) : W p l e room_1 s m #[Value.ref b] below meth c s.heap [] 0 0 (lw_Z below #[Value.ref b] s) (entryFrame m ([Value.ref b] : List Value).toArray 4) := by
  obtain ⟨hx, hb, hr, hml, hown, hts, hX, hbl, hlocks, hgv⟩ := id C0
  have hg : ∀ w ∈ lw_g, w.before #[Value.ref b] s = true := fun w hw => hts w (List.mem_filter.mp hw).1
  have hns := nsK_of hts
  obtain ⟨D, cA, hK⟩ := K_of hg hns.2
  obtain ⟨sa, hsa⟩ := sts_of (A := fun q : Nat => s.heap.size ≤ q) hts hg hgv (fun a h z => absurd h (Nat.not_lt.mpr z))
  have hl := lv_entry ([.ref b]) (n := 4) (Nat.le_of_ble_eq_true rfl)
  rw [lg_entry_eq]
  obtain ⟨Z, hZ⟩ : ∃ Z : Zt, Z = (p, l, e, room_1, s, m, #[Value.ref b], below, meth, c, lw_Z below #[Value.ref b] s, D, cA, fun q : Nat => s.heap.size ≤ q) := ⟨_, rfl⟩
  have C : Cz Z cL_law RL 4 := by rw [hZ]; exact ⟨hx, hb, hml, hown, hg, hns, hK, fun _ z => z⟩
  have hR : zR Z = room_1 := by rw [hZ]; rfl
  have main : Wz Z 0 0 4 0 [(0, .ref b)] [] [] := by
    refine z_new (fs := [.null, .null, .null, .null, .null, .null, .null, .null, .null, .null, .null, .null, .null, .int 0, .int 0, .int 0]) C dL_law_0 kc8 klL_7 kinX8 kni8 (fun j hj => by rcases (show j = 0 ∨ j = 1 ∨ j = 2 ∨ j = 3 ∨ j = 4 ∨ j = 5 ∨ j = 6 ∨ j = 7 ∨ j = 8 ∨ j = 9 ∨ j = 10 ∨ j = 11 ∨ j = 12 ∨ j = 13 ∨ j = 14 ∨ j = 15 by omega) with rfl | rfl | rfl | rfl | rfl | rfl | rfl | rfl | rfl | rfl | rfl | rfl | rfl | rfl | rfl | rfl <;> rfl) (by rw [hR]; decide) (by rw [hR]; decide) (fun a1 => ?_)
    refine z_dup C dL_law_3 ?_
    refine z_callI (As := []) (rest := [.ref a1]) (wr := []) C dL_law_4 kmL_9 miX8_init (ciX8_init (zl Z) (zD Z) (zA Z) a1) rfl rfl ⟨by rw [hR]; decide, by rw [hR]; decide⟩ (by simp [Value.category]) [0] [] rfl (by decide) rfl (by decide) (by decide) (by rw [hR]; decide) (by rw [hR]; decide) (fun u1 => ?_)
    refine z_astore_n (i := 1) (lv' := [(1, .ref a1), (0, .ref b)]) C dL_law_7 rfl (by decide) rfl ?_
    refine z_new (fs := [.null, .null, .null, .null, .int 0, .null, .null, .int 0, .null, .int 0, .null, .int 0, .null, .null, .null, .null, .null, .null, .null, .int 0, .int 0, .int 0, .int 0, .null, .null, .int 0, .int 0, .int 0, .null, .null, .int 0]) C dL_law_8 kc9 klL_10 kinX9 kni9 (fun j hj => by rcases (show j = 0 ∨ j = 1 ∨ j = 2 ∨ j = 3 ∨ j = 4 ∨ j = 5 ∨ j = 6 ∨ j = 7 ∨ j = 8 ∨ j = 9 ∨ j = 10 ∨ j = 11 ∨ j = 12 ∨ j = 13 ∨ j = 14 ∨ j = 15 ∨ j = 16 ∨ j = 17 ∨ j = 18 ∨ j = 19 ∨ j = 20 ∨ j = 21 ∨ j = 22 ∨ j = 23 ∨ j = 24 ∨ j = 25 ∨ j = 26 ∨ j = 27 ∨ j = 28 ∨ j = 29 ∨ j = 30 by omega) with rfl | rfl | rfl | rfl | rfl | rfl | rfl | rfl | rfl | rfl | rfl | rfl | rfl | rfl | rfl | rfl | rfl | rfl | rfl | rfl | rfl | rfl | rfl | rfl | rfl | rfl | rfl | rfl | rfl | rfl | rfl <;> rfl) (by rw [hR]; decide) (by rw [hR]; decide) (fun a2 => ?_)
    refine z_dup C dL_law_11 ?_
    have h48 : (([] : va_W) ++ gwp 1 48 (qz 1 a1 u1) (zA Z) h00).length = 48 := by simp [gwp]
    refine z_callI (As := []) (rest := [.ref a2]) (wr := [] ++ gwp 1 48 (qz 1 a1 u1) (zA Z) h00) C dL_law_12 kmL_12 miX9_init (ciX9_init (zl Z) (zD Z) (zA Z) a2) rfl rfl ⟨by rw [hR]; decide, by rw [hR]; decide⟩ (by simp [Value.category]) [48] (List.range 48) (by
      simp only [List.map_cons, List.map_nil]
      rw [List.getElem?_append_right (by rw [h48]; exact Nat.le_refl _), h48]
      rfl) (by decide) (isR_of h48) (by decide) (by intro i hi hc; have := List.mem_range.mp hi; have := List.mem_singleton.mp hc; omega) (by rw [hR]; decide) (by rw [hR]; decide) (fun u2 => ?_)
    refine z_astore_n (i := 2) (lv' := [(2, .ref a2), (1, .ref a1), (0, .ref b)]) C dL_law_15 rfl (by decide) rfl ?_
    have e9 : ([] : va_W) ++ gwp 1 48 (qz 1 a1 u1) (zA Z) h00 ++ gwp 49 68 (qz 49 a2 u2) (zA Z) h00 = gw (qq a1 u1 a2 u2 sa) (zA Z) h00 := gw_qq a1 u1 a2 u2 sa (zA Z)
    show Wz Z _ _ 4 16 _ [] ([] ++ gwp 1 48 (qz 1 a1 u1) (zA Z) h00 ++ gwp 49 68 (qz 49 a2 u2) (zA Z) h00)
    rw [e9]
    subst hZ
    intro H locs ls hP hD hS hl
    have hij : inj (qq a1 u1 a2 u2 sa) := fun i j hi hj hij => by
      have := hD.1 (i - 1) (j - 1) _ _ (gw_at hi) (gw_at hj) hij
      omega
    have hwA : ∀ a, wA (qq a1 u1 a2 u2 sa) a → s.heap.size ≤ a := fun a ⟨k, hk, ha⟩ => by
      rw [ha]
      exact hD.2 (k - 1) _ (gw_at hk)
    have hst : stK (qq a1 u1 a2 u2 sa) (fun q : Nat => s.heap.size ≤ q) s s.heap := fun i hi => by
      have e : qq a1 u1 a2 u2 sa (69 + i) = sa i := by
        unfold qq
        rw [if_neg (by omega), if_neg (by omega)]
        congr 1
        omega
      rw [e]
      exact hsa i hi
    refine tL_law (X := (p, l, e, room_1, s, m, #[Value.ref b], below, meth, c, (68, 7010), lw_Z below #[Value.ref b] s, D, qq a1 u1 a2 u2 sa, cA, fun q : Nat => s.heap.size ≤ q)) (b := b) N L xs ⟨hX, hbl, Nat.not_le.mpr hbl⟩ h00 ⟨⟨hx, hb, hml, hown, hg, hns.1, hK, hij, hwA, hst, by decide, by decide⟩, rfl, rfl, Nat.le_of_ble_eq_true rfl, Nat.le_of_ble_eq_true rfl, ?_, ?_, ?_, ?_, ?_⟩ hp H locs ls hP hS (lv_sub hl [2, 1, 0] rfl)
    · intro v rt e1 e2 hn pc lv d H locs ls hP hS hl
      cases e1
      refine va_forget hS.2.2 ?_
      refine W.widen (k := 600000) (n := 7302250) (by decide) (by decide) ?_
      exact lw_ret hx hb hr hlocks d
    · intro v e1; cases e1
    · intro r n e1; cases r <;> cases e1
    · intro r n e1; cases r <;> cases e1
    · intro e1; cases e1
  subst hZ
  exact main s.heap [] _ (fun k q h => by simp at h) ⟨fun i j p q h => by simp at h, fun k q h => by simp at h⟩ va_S.rf hl

