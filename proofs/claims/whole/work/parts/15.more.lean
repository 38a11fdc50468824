theorem x_ixor {X : Xt} {cc : ByteArray} {own : String} {nL pc : Nat} {lv : List (Nat × Value)} {rest : List Value} {h : pH} {x y : Int32} (C : Cx X cc own nL) (d : decode cc pc = .ok (.ixor, 1)) (k : Wx X nL (pc + 1) lv (.int (x ^^^ y) :: rest) h) : Wx X nL pc lv (.int y :: .int x :: rest) h := by
  obtain ⟨p, l, e, R, s, m, args, below, meth, c, cs, Q, D, q, cA, A⟩ := X
  intro H locs ls hP hS hl
  exact lv_ixor C.1 C.2.1 d (k H locs ls hP hS hl)
theorem x_tabIn {X : Xt} {cc : ByteArray} {own : String} {nL pc : Nat} {lv : List (Nat × Value)} {rest : List Value} {h : pH} {x w : Int32} {dflt lo hi off : Int} {offs : Array Int} {len tgt : Nat} (C : Cx X cc own nL) (d : decode cc pc = .ok (.tableswitch dflt lo hi offs, len)) (hx : x = w) (h1 : ¬ w.toInt < lo) (h2 : ¬ hi < w.toInt) (ho : offs[(w.toInt - lo).toNat]? = some off) (ht : (pc : Int) + off = (tgt : Int)) (k : Wx X nL tgt lv rest h) : Wx X nL pc lv (.int x :: rest) h := by
  obtain ⟨p, l, e, R, s, m, args, below, meth, c, cs, Q, D, q, cA, A⟩ := X
  intro H locs ls hP hS hl
  subst hx
  exact lv_tableIn C.1 C.2.1 d h1 h2 ho ht (k H locs ls hP hS hl)
theorem tab_out {n : Nat} {x : Int32} (hn : n < 2 ^ 31) (h : ∀ i, i < n → ¬ x = Int32.ofNat i) : x.toInt < 0 ∨ (n : Int) - 1 < x.toInt := by
  rcases Int.lt_or_le x.toInt 0 with q | q
  · exact Or.inl q
  · rcases Int.lt_or_le ((n : Int) - 1) x.toInt with q2 | q2
    · exact Or.inr q2
    · refine absurd ?_ (h x.toInt.toNat (by omega))
      have hx := nI_toInt (n := x.toInt.toNat) (by omega)
      exact Int32.toInt_inj.mp (by rw [show (Int32.ofNat x.toInt.toNat).toInt = (x.toInt.toNat : Int) from hx]; omega)
theorem x_tabOut {X : Xt} {cc : ByteArray} {own : String} {nL pc : Nat} {lv : List (Nat × Value)} {rest : List Value} {h : pH} {x : Int32} {dflt hi : Int} {offs : Array Int} {len tgt : Nat} {n : Nat} (C : Cx X cc own nL) (d : decode cc pc = .ok (.tableswitch dflt 0 hi offs, len)) (hx : ∀ i, i < n → ¬ x = Int32.ofNat i) (ht : n < 2 ^ 31 ∧ hi = (n : Int) - 1 ∧ (pc : Int) + dflt = (tgt : Int)) (k : Wx X nL tgt lv rest h) : Wx X nL pc lv (.int x :: rest) h := by
  obtain ⟨p, l, e, R, s, m, args, below, meth, c, cs, Q, D, q, cA, A⟩ := X
  intro H locs ls hP hS hl
  exact lv_tableOut C.1 C.2.1 d (by rw [ht.2.1]; exact tab_out ht.1 hx) ht.2.2 (k H locs ls hP hS hl)
theorem lk_out {x : Int32} {a b : Int} {d : Int} (hab : a = 26 ∧ b = 34) (h0 : ¬ x = 0) (h1 : ¬ x = 1) : Op.lookupswitch.offset [(0, a), (1, b)] d x.toInt = d := by
  have e0 : ¬ x.toInt = 0 := fun z => h0 (Int32.toInt_inj.mp z)
  have e1 : ¬ x.toInt = 1 := fun z => h1 (Int32.toInt_inj.mp z)
  simp [Op.lookupswitch.offset, List.find?, e0, e1, Ne.symm e0, Ne.symm e1]
theorem rtn {α β : Type} {a v : α} {b h' : β} (h : some (a, b) = some (v, h')) : v = a ∧ h' = b := ⟨(Prod.mk.inj (Option.some.inj h)).1.symm, (Prod.mk.inj (Option.some.inj h)).2.symm⟩
