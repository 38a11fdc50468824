theorem x_iadd {X : Xt} {cc : ByteArray} {own : String} {nL pc : Nat} {lv : List (Nat × Value)} {rest : List Value} {h : pH} {x y : Int32} (C : Cx X cc own nL) (d : decode cc pc = .ok (.iadd, 1)) (k : Wx X nL (pc + 1) lv (.int (x + y) :: rest) h) : Wx X nL pc lv (.int y :: .int x :: rest) h := by
  obtain ⟨p, l, e, R, s, m, args, below, meth, c, cs, Q, D, q, cA, A⟩ := X
  intro H locs ls hP hS hl
  exact lv_iadd C.1 C.2.1 d (k H locs ls hP hS hl)
theorem x_isub {X : Xt} {cc : ByteArray} {own : String} {nL pc : Nat} {lv : List (Nat × Value)} {rest : List Value} {h : pH} {x y : Int32} (C : Cx X cc own nL) (d : decode cc pc = .ok (.isub, 1)) (k : Wx X nL (pc + 1) lv (.int (x - y) :: rest) h) : Wx X nL pc lv (.int y :: .int x :: rest) h := by
  obtain ⟨p, l, e, R, s, m, args, below, meth, c, cs, Q, D, q, cA, A⟩ := X
  intro H locs ls hP hS hl
  exact lv_isub C.1 C.2.1 d (k H locs ls hP hS hl)
theorem x_imul {X : Xt} {cc : ByteArray} {own : String} {nL pc : Nat} {lv : List (Nat × Value)} {rest : List Value} {h : pH} {x y : Int32} (C : Cx X cc own nL) (d : decode cc pc = .ok (.imul, 1)) (k : Wx X nL (pc + 1) lv (.int (x * y) :: rest) h) : Wx X nL pc lv (.int y :: .int x :: rest) h := by
  obtain ⟨p, l, e, R, s, m, args, below, meth, c, cs, Q, D, q, cA, A⟩ := X
  intro H locs ls hP hS hl
  exact lv_imul C.1 C.2.1 d (k H locs ls hP hS hl)
theorem x_ishl {X : Xt} {cc : ByteArray} {own : String} {nL pc : Nat} {lv : List (Nat × Value)} {rest : List Value} {h : pH} {x y : Int32} (C : Cx X cc own nL) (d : decode cc pc = .ok (.ishl, 1)) (k : Wx X nL (pc + 1) lv (.int (x <<< (y &&& 31)) :: rest) h) : Wx X nL pc lv (.int y :: .int x :: rest) h := by
  obtain ⟨p, l, e, R, s, m, args, below, meth, c, cs, Q, D, q, cA, A⟩ := X
  intro H locs ls hP hS hl
  exact lv_ishl C.1 C.2.1 d (k H locs ls hP hS hl)
theorem x_ishr {X : Xt} {cc : ByteArray} {own : String} {nL pc : Nat} {lv : List (Nat × Value)} {rest : List Value} {h : pH} {x y : Int32} (C : Cx X cc own nL) (d : decode cc pc = .ok (.ishr, 1)) (k : Wx X nL (pc + 1) lv (.int (x >>> (y &&& 31)) :: rest) h) : Wx X nL pc lv (.int y :: .int x :: rest) h := by
  obtain ⟨p, l, e, R, s, m, args, below, meth, c, cs, Q, D, q, cA, A⟩ := X
  intro H locs ls hP hS hl
  exact lv_ishr C.1 C.2.1 d (k H locs ls hP hS hl)
theorem x_iand {X : Xt} {cc : ByteArray} {own : String} {nL pc : Nat} {lv : List (Nat × Value)} {rest : List Value} {h : pH} {x y : Int32} (C : Cx X cc own nL) (d : decode cc pc = .ok (.iand, 1)) (k : Wx X nL (pc + 1) lv (.int (x &&& y) :: rest) h) : Wx X nL pc lv (.int y :: .int x :: rest) h := by
  obtain ⟨p, l, e, R, s, m, args, below, meth, c, cs, Q, D, q, cA, A⟩ := X
  intro H locs ls hP hS hl
  exact lv_iand C.1 C.2.1 d (k H locs ls hP hS hl)
theorem x_ior {X : Xt} {cc : ByteArray} {own : String} {nL pc : Nat} {lv : List (Nat × Value)} {rest : List Value} {h : pH} {x y : Int32} (C : Cx X cc own nL) (d : decode cc pc = .ok (.ior, 1)) (k : Wx X nL (pc + 1) lv (.int (x ||| y) :: rest) h) : Wx X nL pc lv (.int y :: .int x :: rest) h := by
  obtain ⟨p, l, e, R, s, m, args, below, meth, c, cs, Q, D, q, cA, A⟩ := X
  intro H locs ls hP hS hl
  exact lv_ior C.1 C.2.1 d (k H locs ls hP hS hl)
theorem x_idiv {X : Xt} {cc : ByteArray} {own : String} {nL pc : Nat} {lv : List (Nat × Value)} {rest : List Value} {h : pH} {x y : Int32} (C : Cx X cc own nL) (d : decode cc pc = .ok (.idiv, 1)) (hne : ¬ y = 0) (k : Wx X nL (pc + 1) lv (.int (x / y) :: rest) h) : Wx X nL pc lv (.int y :: .int x :: rest) h := by
  obtain ⟨p, l, e, R, s, m, args, below, meth, c, cs, Q, D, q, cA, A⟩ := X
  intro H locs ls hP hS hl
  exact lv_idiv C.1 C.2.1 d hne (k H locs ls hP hS hl)
theorem x_irem {X : Xt} {cc : ByteArray} {own : String} {nL pc : Nat} {lv : List (Nat × Value)} {rest : List Value} {h : pH} {x y : Int32} (C : Cx X cc own nL) (d : decode cc pc = .ok (.irem, 1)) (hne : ¬ y = 0) (k : Wx X nL (pc + 1) lv (.int (x - x / y * y) :: rest) h) : Wx X nL pc lv (.int y :: .int x :: rest) h := by
  obtain ⟨p, l, e, R, s, m, args, below, meth, c, cs, Q, D, q, cA, A⟩ := X
  intro H locs ls hP hS hl
  exact lv_irem C.1 C.2.1 d hne (k H locs ls hP hS hl)
theorem x_ladd {X : Xt} {cc : ByteArray} {own : String} {nL pc : Nat} {lv : List (Nat × Value)} {rest : List Value} {h : pH} {x y : Int64} (C : Cx X cc own nL) (d : decode cc pc = .ok (.ladd, 1)) (k : Wx X nL (pc + 1) lv (.long (x + y) :: rest) h) : Wx X nL pc lv (.long y :: .long x :: rest) h := by
  obtain ⟨p, l, e, R, s, m, args, below, meth, c, cs, Q, D, q, cA, A⟩ := X
  intro H locs ls hP hS hl
  exact lv_ladd C.1 C.2.1 d (k H locs ls hP hS hl)
theorem x_lsub {X : Xt} {cc : ByteArray} {own : String} {nL pc : Nat} {lv : List (Nat × Value)} {rest : List Value} {h : pH} {x y : Int64} (C : Cx X cc own nL) (d : decode cc pc = .ok (.lsub, 1)) (k : Wx X nL (pc + 1) lv (.long (x - y) :: rest) h) : Wx X nL pc lv (.long y :: .long x :: rest) h := by
  obtain ⟨p, l, e, R, s, m, args, below, meth, c, cs, Q, D, q, cA, A⟩ := X
  intro H locs ls hP hS hl
  exact lv_lsub C.1 C.2.1 d (k H locs ls hP hS hl)
theorem x_lmul {X : Xt} {cc : ByteArray} {own : String} {nL pc : Nat} {lv : List (Nat × Value)} {rest : List Value} {h : pH} {x y : Int64} (C : Cx X cc own nL) (d : decode cc pc = .ok (.lmul, 1)) (k : Wx X nL (pc + 1) lv (.long (x * y) :: rest) h) : Wx X nL pc lv (.long y :: .long x :: rest) h := by
  obtain ⟨p, l, e, R, s, m, args, below, meth, c, cs, Q, D, q, cA, A⟩ := X
  intro H locs ls hP hS hl
  exact lv_lmul C.1 C.2.1 d (k H locs ls hP hS hl)
theorem x_land {X : Xt} {cc : ByteArray} {own : String} {nL pc : Nat} {lv : List (Nat × Value)} {rest : List Value} {h : pH} {x y : Int64} (C : Cx X cc own nL) (d : decode cc pc = .ok (.land, 1)) (k : Wx X nL (pc + 1) lv (.long (x &&& y) :: rest) h) : Wx X nL pc lv (.long y :: .long x :: rest) h := by
  obtain ⟨p, l, e, R, s, m, args, below, meth, c, cs, Q, D, q, cA, A⟩ := X
  intro H locs ls hP hS hl
  exact lv_land C.1 C.2.1 d (k H locs ls hP hS hl)
theorem x_ldiv {X : Xt} {cc : ByteArray} {own : String} {nL pc : Nat} {lv : List (Nat × Value)} {rest : List Value} {h : pH} {x y : Int64} (C : Cx X cc own nL) (d : decode cc pc = .ok (.ldiv, 1)) (hne : ¬ y = 0) (k : Wx X nL (pc + 1) lv (.long (x / y) :: rest) h) : Wx X nL pc lv (.long y :: .long x :: rest) h := by
  obtain ⟨p, l, e, R, s, m, args, below, meth, c, cs, Q, D, q, cA, A⟩ := X
  intro H locs ls hP hS hl
  exact lv_ldiv C.1 C.2.1 d hne (k H locs ls hP hS hl)
theorem x_lrem {X : Xt} {cc : ByteArray} {own : String} {nL pc : Nat} {lv : List (Nat × Value)} {rest : List Value} {h : pH} {x y : Int64} (C : Cx X cc own nL) (d : decode cc pc = .ok (.lrem, 1)) (hne : ¬ y = 0) (k : Wx X nL (pc + 1) lv (.long (x - x / y * y) :: rest) h) : Wx X nL pc lv (.long y :: .long x :: rest) h := by
  obtain ⟨p, l, e, R, s, m, args, below, meth, c, cs, Q, D, q, cA, A⟩ := X
  intro H locs ls hP hS hl
  exact lv_lrem C.1 C.2.1 d hne (k H locs ls hP hS hl)
theorem x_ineg {X : Xt} {cc : ByteArray} {own : String} {nL pc : Nat} {lv : List (Nat × Value)} {rest : List Value} {h : pH} {x : Int32} (C : Cx X cc own nL) (d : decode cc pc = .ok (.ineg, 1)) (k : Wx X nL (pc + 1) lv (.int (-x) :: rest) h) : Wx X nL pc lv (.int x :: rest) h := by
  obtain ⟨p, l, e, R, s, m, args, below, meth, c, cs, Q, D, q, cA, A⟩ := X
  intro H locs ls hP hS hl
  exact lv_ineg C.1 C.2.1 d (k H locs ls hP hS hl)
theorem x_iushr {X : Xt} {cc : ByteArray} {own : String} {nL pc : Nat} {lv : List (Nat × Value)} {rest : List Value} {h : pH} {x y : Int32} (C : Cx X cc own nL) (d : decode cc pc = .ok (.iushr, 1)) (k : Wx X nL (pc + 1) lv (.int ((x.toUInt32 >>> (y.toUInt32 &&& Int32.toUInt32 31)).toInt32) :: rest) h) : Wx X nL pc lv (.int y :: .int x :: rest) h := by
  obtain ⟨p, l, e, R, s, m, args, below, meth, c, cs, Q, D, q, cA, A⟩ := X
  intro H locs ls hP hS hl
  exact lv_iushr C.1 C.2.1 d rfl (k H locs ls hP hS hl)
theorem x_i2l {X : Xt} {cc : ByteArray} {own : String} {nL pc : Nat} {lv : List (Nat × Value)} {rest : List Value} {h : pH} {x : Int32} (C : Cx X cc own nL) (d : decode cc pc = .ok (.i2l, 1)) (k : Wx X nL (pc + 1) lv (.long x.toInt64 :: rest) h) : Wx X nL pc lv (.int x :: rest) h := by
  obtain ⟨p, l, e, R, s, m, args, below, meth, c, cs, Q, D, q, cA, A⟩ := X
  intro H locs ls hP hS hl
  exact lv_i2l C.1 C.2.1 d rfl (k H locs ls hP hS hl)
theorem x_i2b {X : Xt} {cc : ByteArray} {own : String} {nL pc : Nat} {lv : List (Nat × Value)} {rest : List Value} {h : pH} {x : Int32} (C : Cx X cc own nL) (d : decode cc pc = .ok (.i2b, 1)) (k : Wx X nL (pc + 1) lv (.int x.toInt8.toInt32 :: rest) h) : Wx X nL pc lv (.int x :: rest) h := by
  obtain ⟨p, l, e, R, s, m, args, below, meth, c, cs, Q, D, q, cA, A⟩ := X
  intro H locs ls hP hS hl
  exact lv_i2b C.1 C.2.1 d rfl (k H locs ls hP hS hl)
theorem x_i2s {X : Xt} {cc : ByteArray} {own : String} {nL pc : Nat} {lv : List (Nat × Value)} {rest : List Value} {h : pH} {x : Int32} (C : Cx X cc own nL) (d : decode cc pc = .ok (.i2s, 1)) (k : Wx X nL (pc + 1) lv (.int x.toInt16.toInt32 :: rest) h) : Wx X nL pc lv (.int x :: rest) h := by
  obtain ⟨p, l, e, R, s, m, args, below, meth, c, cs, Q, D, q, cA, A⟩ := X
  intro H locs ls hP hS hl
  exact lv_i2s C.1 C.2.1 d rfl (k H locs ls hP hS hl)
theorem x_lshl {X : Xt} {cc : ByteArray} {own : String} {nL pc : Nat} {lv : List (Nat × Value)} {rest : List Value} {h : pH} {x : Int64} {y : Int32} (C : Cx X cc own nL) (d : decode cc pc = .ok (.lshl, 1)) (k : Wx X nL (pc + 1) lv (.long (x <<< (y.toInt64 &&& 63)) :: rest) h) : Wx X nL pc lv (.int y :: .long x :: rest) h := by
  obtain ⟨p, l, e, R, s, m, args, below, meth, c, cs, Q, D, q, cA, A⟩ := X
  intro H locs ls hP hS hl
  exact lv_lshl C.1 C.2.1 d rfl (k H locs ls hP hS hl)
theorem x_lshr {X : Xt} {cc : ByteArray} {own : String} {nL pc : Nat} {lv : List (Nat × Value)} {rest : List Value} {h : pH} {x : Int64} {y : Int32} (C : Cx X cc own nL) (d : decode cc pc = .ok (.lshr, 1)) (k : Wx X nL (pc + 1) lv (.long (x >>> (y.toInt64 &&& 63)) :: rest) h) : Wx X nL pc lv (.int y :: .long x :: rest) h := by
  obtain ⟨p, l, e, R, s, m, args, below, meth, c, cs, Q, D, q, cA, A⟩ := X
  intro H locs ls hP hS hl
  exact lv_lshr C.1 C.2.1 d rfl (k H locs ls hP hS hl)
theorem x_lcmp {X : Xt} {cc : ByteArray} {own : String} {nL pc : Nat} {lv : List (Nat × Value)} {rest : List Value} {h : pH} {x y : Int64} (C : Cx X cc own nL) (d : decode cc pc = .ok (.lcmp, 1)) (k : Wx X nL (pc + 1) lv (.int (lg_cmp x y) :: rest) h) : Wx X nL pc lv (.long y :: .long x :: rest) h := by
  obtain ⟨p, l, e, R, s, m, args, below, meth, c, cs, Q, D, q, cA, A⟩ := X
  intro H locs ls hP hS hl
  exact W.lcmp C.1 C.2.1 d (k H locs ls hP hS hl)
theorem x_iconst {X : Xt} {cc : ByteArray} {own : String} {nL pc : Nat} {lv : List (Nat × Value)} {rest : List Value} {h : pH} {n : Int} {v : Int32} (C : Cx X cc own nL) (d : decode cc pc = .ok (.iconst n, 1)) (hv : Int32.ofInt n = v) (k : Wx X nL (pc + 1) lv (.int v :: rest) h) : Wx X nL pc lv (rest) h := by
  obtain ⟨p, l, e, R, s, m, args, below, meth, c, cs, Q, D, q, cA, A⟩ := X
  intro H locs ls hP hS hl
  exact lv_iconst C.1 C.2.1 d hv (k H locs ls hP hS hl)
theorem x_bipush {X : Xt} {cc : ByteArray} {own : String} {nL pc : Nat} {lv : List (Nat × Value)} {rest : List Value} {h : pH} {n : Int} {v : Int32} (C : Cx X cc own nL) (d : decode cc pc = .ok (.bipush n, 2)) (hv : (Int8.ofInt n).toInt32 = v) (k : Wx X nL (pc + 2) lv (.int v :: rest) h) : Wx X nL pc lv (rest) h := by
  obtain ⟨p, l, e, R, s, m, args, below, meth, c, cs, Q, D, q, cA, A⟩ := X
  intro H locs ls hP hS hl
  exact lv_bipush C.1 C.2.1 d hv (k H locs ls hP hS hl)
theorem x_sipush {X : Xt} {cc : ByteArray} {own : String} {nL pc : Nat} {lv : List (Nat × Value)} {rest : List Value} {h : pH} {n : Int} {v : Int32} (C : Cx X cc own nL) (d : decode cc pc = .ok (.sipush n, 3)) (hv : (Int16.ofInt n).toInt32 = v) (k : Wx X nL (pc + 3) lv (.int v :: rest) h) : Wx X nL pc lv (rest) h := by
  obtain ⟨p, l, e, R, s, m, args, below, meth, c, cs, Q, D, q, cA, A⟩ := X
  intro H locs ls hP hS hl
  exact lv_sipush C.1 C.2.1 d hv (k H locs ls hP hS hl)
theorem x_lconst {X : Xt} {cc : ByteArray} {own : String} {nL pc : Nat} {lv : List (Nat × Value)} {rest : List Value} {h : pH} {n : Fin 2} {v : Int64} (C : Cx X cc own nL) (d : decode cc pc = .ok (.lconst n, 1)) (hv : Int64.ofNat (n : Nat) = v) (k : Wx X nL (pc + 1) lv (.long v :: rest) h) : Wx X nL pc lv (rest) h := by
  obtain ⟨p, l, e, R, s, m, args, below, meth, c, cs, Q, D, q, cA, A⟩ := X
  intro H locs ls hP hS hl
  exact lv_lconst C.1 C.2.1 d hv (k H locs ls hP hS hl)
theorem x_ldc {X : Xt} {cc : ByteArray} {own : String} {nL pc : Nat} {lv : List (Nat × Value)} {rest : List Value} {h : pH} {i : Nat} {v : Int32} (C : Cx X cc own nL) (d : decode cc pc = .ok (.ldc i, 2)) (hv : Cond.constant own i v ∈ lw_g) (k : Wx X nL (pc + 2) lv (.int v :: rest) h) : Wx X nL pc lv (rest) h := by
  obtain ⟨p, l, e, R, s, m, args, below, meth, c, cs, Q, D, q, cA, A⟩ := X
  intro H locs ls hP hS hl
  exact lv_ldc C.1 C.2.1 C.2.2.2.1 (C.2.2.2.2.1 _ hv) d (k H locs ls hP hS hl)
theorem x_ldcw {X : Xt} {cc : ByteArray} {own : String} {nL pc : Nat} {lv : List (Nat × Value)} {rest : List Value} {h : pH} {i : Nat} {v : Int32} (C : Cx X cc own nL) (d : decode cc pc = .ok (.ldc_w i, 3)) (hv : Cond.constant own i v ∈ lw_g) (k : Wx X nL (pc + 3) lv (.int v :: rest) h) : Wx X nL pc lv (rest) h := by
  obtain ⟨p, l, e, R, s, m, args, below, meth, c, cs, Q, D, q, cA, A⟩ := X
  intro H locs ls hP hS hl
  exact lv_ldcw C.1 C.2.1 C.2.2.2.1 (C.2.2.2.2.1 _ hv) d (k H locs ls hP hS hl)
theorem x_ldc2 {X : Xt} {cc : ByteArray} {own : String} {nL pc : Nat} {lv : List (Nat × Value)} {rest : List Value} {h : pH} {i : Nat} {v : Int64} (C : Cx X cc own nL) (d : decode cc pc = .ok (.ldc2_w i, 3)) (hv : Cond.constantLong own i v ∈ lw_g) (k : Wx X nL (pc + 3) lv (.long v :: rest) h) : Wx X nL pc lv (rest) h := by
  obtain ⟨p, l, e, R, s, m, args, below, meth, c, cs, Q, D, q, cA, A⟩ := X
  intro H locs ls hP hS hl
  exact lv_ldc2 C.1 C.2.1 C.2.2.2.1 (C.2.2.2.2.1 _ hv) d (k H locs ls hP hS hl)
theorem x_null {X : Xt} {cc : ByteArray} {own : String} {nL pc : Nat} {lv : List (Nat × Value)} {rest : List Value} {h : pH}  (C : Cx X cc own nL) (d : decode cc pc = .ok (.aconst_null, 1)) (k : Wx X nL (pc + 1) lv (rf (qo X) 0 :: rest) h) : Wx X nL pc lv (rest) h := by
  obtain ⟨p, l, e, R, s, m, args, below, meth, c, cs, Q, D, q, cA, A⟩ := X
  intro H locs ls hP hS hl
  exact lv_null C.1 C.2.1 d (k H locs ls hP hS hl)
theorem x_dupI {X : Xt} {cc : ByteArray} {own : String} {nL pc : Nat} {lv : List (Nat × Value)} {rest : List Value} {h : pH} {x : Int32} (C : Cx X cc own nL) (d : decode cc pc = .ok (.dup, 1)) (k : Wx X nL (pc + 1) lv (.int x :: .int x :: rest) h) : Wx X nL pc lv (.int x :: rest) h := by
  obtain ⟨p, l, e, R, s, m, args, below, meth, c, cs, Q, D, q, cA, A⟩ := X
  intro H locs ls hP hS hl
  exact lv_dup C.1 C.2.1 d rfl (k H locs ls hP hS hl)
theorem x_dupA {X : Xt} {cc : ByteArray} {own : String} {nL pc : Nat} {lv : List (Nat × Value)} {rest : List Value} {h : pH} {r : Nat} (C : Cx X cc own nL) (d : decode cc pc = .ok (.dup, 1)) (k : Wx X nL (pc + 1) lv (rf (qo X) r :: rf (qo X) r :: rest) h) : Wx X nL pc lv (rf (qo X) r :: rest) h := by
  obtain ⟨p, l, e, R, s, m, args, below, meth, c, cs, Q, D, q, cA, A⟩ := X
  intro H locs ls hP hS hl
  exact lv_dup C.1 C.2.1 d (rf_cat _ _) (k H locs ls hP hS hl)
theorem x_dup2IA {X : Xt} {cc : ByteArray} {own : String} {nL pc : Nat} {lv : List (Nat × Value)} {rest : List Value} {h : pH} {x : Int32} {r : Nat} (C : Cx X cc own nL) (d : decode cc pc = .ok (.dup2, 1)) (k : Wx X nL (pc + 1) lv (.int x :: rf (qo X) r :: .int x :: rf (qo X) r :: rest) h) : Wx X nL pc lv (.int x :: rf (qo X) r :: rest) h := by
  obtain ⟨p, l, e, R, s, m, args, below, meth, c, cs, Q, D, q, cA, A⟩ := X
  intro H locs ls hP hS hl
  exact lv_dup2_11 C.1 C.2.1 d (by first | rfl | exact rf_cat _ _) (by first | rfl | exact rf_cat _ _) (k H locs ls hP hS hl)
theorem x_popI {X : Xt} {cc : ByteArray} {own : String} {nL pc : Nat} {lv : List (Nat × Value)} {rest : List Value} {h : pH} {x : Int32} (C : Cx X cc own nL) (d : decode cc pc = .ok (.pop, 1)) (k : Wx X nL (pc + 1) lv (rest) h) : Wx X nL pc lv (.int x :: rest) h := by
  obtain ⟨p, l, e, R, s, m, args, below, meth, c, cs, Q, D, q, cA, A⟩ := X
  intro H locs ls hP hS hl
  exact lv_pop C.1 C.2.1 d rfl (k H locs ls hP hS hl)
theorem x_iload_n {X : Xt} {cc : ByteArray} {own : String} {nL pc : Nat} {lv : List (Nat × Value)} {rest : List Value} {h : pH} {n : Fin 4} {i : Nat} {x : Int32} (j : Nat) (C : Cx X cc own nL) (d : decode cc pc = .ok (.iload_n n, 1)) (hi : (n : Nat) = i) (hj : lv[j]? = some (i, .int x)) (k : Wx X nL (pc + 1) lv (.int x :: rest) h) : Wx X nL pc lv rest h := by
  obtain ⟨p, l, e, R, s, m, args, below, meth, c, cs, Q, D, q, cA, A⟩ := X
  intro H locs ls hP hS hl
  exact lv_iload_n C.1 C.2.1 d hi (lv_at hl j hj) (k H locs ls hP hS hl)
theorem x_iload {X : Xt} {cc : ByteArray} {own : String} {nL pc : Nat} {lv : List (Nat × Value)} {rest : List Value} {h : pH} {i : Nat} {x : Int32} (j : Nat) (C : Cx X cc own nL) (d : decode cc pc = .ok (.iload i, 2)) (hj : lv[j]? = some (i, .int x)) (k : Wx X nL (pc + 2) lv (.int x :: rest) h) : Wx X nL pc lv rest h := by
  obtain ⟨p, l, e, R, s, m, args, below, meth, c, cs, Q, D, q, cA, A⟩ := X
  intro H locs ls hP hS hl
  exact lv_iload C.1 C.2.1 d (lv_at hl j hj) (k H locs ls hP hS hl)
theorem x_lload_n {X : Xt} {cc : ByteArray} {own : String} {nL pc : Nat} {lv : List (Nat × Value)} {rest : List Value} {h : pH} {n : Fin 4} {i : Nat} {x : Int64} (j : Nat) (C : Cx X cc own nL) (d : decode cc pc = .ok (.lload_n n, 1)) (hi : (n : Nat) = i) (hj : lv[j]? = some (i, .long x)) (k : Wx X nL (pc + 1) lv (.long x :: rest) h) : Wx X nL pc lv rest h := by
  obtain ⟨p, l, e, R, s, m, args, below, meth, c, cs, Q, D, q, cA, A⟩ := X
  intro H locs ls hP hS hl
  exact lv_lload_n C.1 C.2.1 d hi (lv_at hl j hj) (k H locs ls hP hS hl)
theorem x_lload {X : Xt} {cc : ByteArray} {own : String} {nL pc : Nat} {lv : List (Nat × Value)} {rest : List Value} {h : pH} {i : Nat} {x : Int64} (j : Nat) (C : Cx X cc own nL) (d : decode cc pc = .ok (.lload i, 2)) (hj : lv[j]? = some (i, .long x)) (k : Wx X nL (pc + 2) lv (.long x :: rest) h) : Wx X nL pc lv rest h := by
  obtain ⟨p, l, e, R, s, m, args, below, meth, c, cs, Q, D, q, cA, A⟩ := X
  intro H locs ls hP hS hl
  exact lv_lload C.1 C.2.1 d (lv_at hl j hj) (k H locs ls hP hS hl)
theorem x_aload_n {X : Xt} {cc : ByteArray} {own : String} {nL pc : Nat} {lv : List (Nat × Value)} {rest : List Value} {h : pH} {n : Fin 4} {i : Nat} {r : Nat} (j : Nat) (C : Cx X cc own nL) (d : decode cc pc = .ok (.aload_n n, 1)) (hi : (n : Nat) = i) (hj : lv[j]? = some (i, rf (qo X) r)) (k : Wx X nL (pc + 1) lv (rf (qo X) r :: rest) h) : Wx X nL pc lv rest h := by
  obtain ⟨p, l, e, R, s, m, args, below, meth, c, cs, Q, D, q, cA, A⟩ := X
  intro H locs ls hP hS hl
  cases r with
  | zero => exact lv_aload_nN C.1 C.2.1 d hi (lv_at hl j hj) (k H locs ls hP hS hl)
  | succ r => exact lv_aload_n C.1 C.2.1 d hi (lv_at hl j hj) (k H locs ls hP hS hl)
theorem x_aload {X : Xt} {cc : ByteArray} {own : String} {nL pc : Nat} {lv : List (Nat × Value)} {rest : List Value} {h : pH} {i : Nat} {r : Nat} (j : Nat) (C : Cx X cc own nL) (d : decode cc pc = .ok (.aload i, 2)) (hj : lv[j]? = some (i, rf (qo X) r)) (k : Wx X nL (pc + 2) lv (rf (qo X) r :: rest) h) : Wx X nL pc lv rest h := by
  obtain ⟨p, l, e, R, s, m, args, below, meth, c, cs, Q, D, q, cA, A⟩ := X
  intro H locs ls hP hS hl
  cases r with
  | zero => exact lv_aloadN C.1 C.2.1 d (lv_at hl j hj) (k H locs ls hP hS hl)
  | succ r => exact lv_aload C.1 C.2.1 d (lv_at hl j hj) (k H locs ls hP hS hl)
theorem x_istore_n {X : Xt} {cc : ByteArray} {own : String} {nL pc : Nat} {lv lv' : List (Nat × Value)} {rest : List Value} {h : pH} {n : Fin 4} {i : Nat} {x : Int32} (C : Cx X cc own nL) (d : decode cc pc = .ok (.istore_n n, 1)) (hi : (n : Nat) = i) (hn : i < nL) (hv : (i, Value.int x) :: lv.filter (fun q => !(q.1 == i) && !(q.1 + 1 == i && q.2.category == 2)) = lv') (k : Wx X nL (pc + 1) lv' rest h) : Wx X nL pc lv (Value.int x :: rest) h := by
  obtain ⟨p, l, e, R, s, m, args, below, meth, c, cs, Q, D, q, cA, A⟩ := X
  intro H locs ls hP hS hl
  exact lv_istore_n C.1 C.2.1 d hi hl hn hv (fun ls' hl' => k H locs ls' hP hS hl')
theorem x_istore {X : Xt} {cc : ByteArray} {own : String} {nL pc : Nat} {lv lv' : List (Nat × Value)} {rest : List Value} {h : pH} {i : Nat} {x : Int32} (C : Cx X cc own nL) (d : decode cc pc = .ok (.istore i, 2)) (hn : i < nL) (hv : (i, Value.int x) :: lv.filter (fun q => !(q.1 == i) && !(q.1 + 1 == i && q.2.category == 2)) = lv') (k : Wx X nL (pc + 2) lv' rest h) : Wx X nL pc lv (Value.int x :: rest) h := by
  obtain ⟨p, l, e, R, s, m, args, below, meth, c, cs, Q, D, q, cA, A⟩ := X
  intro H locs ls hP hS hl
  exact lv_istore C.1 C.2.1 d hl hn hv (fun ls' hl' => k H locs ls' hP hS hl')
theorem x_lstore_n {X : Xt} {cc : ByteArray} {own : String} {nL pc : Nat} {lv lv' : List (Nat × Value)} {rest : List Value} {h : pH} {n : Fin 4} {i : Nat} {x : Int64} (C : Cx X cc own nL) (d : decode cc pc = .ok (.lstore_n n, 1)) (hi : (n : Nat) = i) (hn : i + 1 < nL) (hv : (i, Value.long x) :: lv.filter (fun q => !(q.1 == i) && (!(q.1 == i + 1) && !(q.1 + 1 == i && q.2.category == 2))) = lv') (k : Wx X nL (pc + 1) lv' rest h) : Wx X nL pc lv (Value.long x :: rest) h := by
  obtain ⟨p, l, e, R, s, m, args, below, meth, c, cs, Q, D, q, cA, A⟩ := X
  intro H locs ls hP hS hl
  exact lv_lstore_n C.1 C.2.1 d hi hl hn hv (fun ls' hl' => k H locs ls' hP hS hl')
theorem x_lstore {X : Xt} {cc : ByteArray} {own : String} {nL pc : Nat} {lv lv' : List (Nat × Value)} {rest : List Value} {h : pH} {i : Nat} {x : Int64} (C : Cx X cc own nL) (d : decode cc pc = .ok (.lstore i, 2)) (hn : i + 1 < nL) (hv : (i, Value.long x) :: lv.filter (fun q => !(q.1 == i) && (!(q.1 == i + 1) && !(q.1 + 1 == i && q.2.category == 2))) = lv') (k : Wx X nL (pc + 2) lv' rest h) : Wx X nL pc lv (Value.long x :: rest) h := by
  obtain ⟨p, l, e, R, s, m, args, below, meth, c, cs, Q, D, q, cA, A⟩ := X
  intro H locs ls hP hS hl
  exact lv_lstore C.1 C.2.1 d hl hn hv (fun ls' hl' => k H locs ls' hP hS hl')
theorem x_astore_n {X : Xt} {cc : ByteArray} {own : String} {nL pc : Nat} {lv lv' : List (Nat × Value)} {rest : List Value} {h : pH} {n : Fin 4} {i : Nat} {r : Nat} (C : Cx X cc own nL) (d : decode cc pc = .ok (.astore_n n, 1)) (hi : (n : Nat) = i) (hn : i < nL) (hv : (i, rf (qo X) r) :: lv.filter (fun q => !(q.1 == i) && !(q.1 + 1 == i && q.2.category == 2)) = lv') (k : Wx X nL (pc + 1) lv' rest h) : Wx X nL pc lv (rf (qo X) r :: rest) h := by
  obtain ⟨p, l, e, R, s, m, args, below, meth, c, cs, Q, D, q, cA, A⟩ := X
  intro H locs ls hP hS hl
  cases r with
  | zero => exact lv_astore_nN C.1 C.2.1 d hi hl hn hv (fun ls' hl' => k H locs ls' hP hS hl')
  | succ r => exact lv_astore_n C.1 C.2.1 d hi hl hn hv (fun ls' hl' => k H locs ls' hP hS hl')
theorem x_astore {X : Xt} {cc : ByteArray} {own : String} {nL pc : Nat} {lv lv' : List (Nat × Value)} {rest : List Value} {h : pH} {i : Nat} {r : Nat} (C : Cx X cc own nL) (d : decode cc pc = .ok (.astore i, 2)) (hn : i < nL) (hv : (i, rf (qo X) r) :: lv.filter (fun q => !(q.1 == i) && !(q.1 + 1 == i && q.2.category == 2)) = lv') (k : Wx X nL (pc + 2) lv' rest h) : Wx X nL pc lv (rf (qo X) r :: rest) h := by
  obtain ⟨p, l, e, R, s, m, args, below, meth, c, cs, Q, D, q, cA, A⟩ := X
  intro H locs ls hP hS hl
  cases r with
  | zero => exact lv_astoreN C.1 C.2.1 d hl hn hv (fun ls' hl' => k H locs ls' hP hS hl')
  | succ r => exact lv_astore C.1 C.2.1 d hl hn hv (fun ls' hl' => k H locs ls' hP hS hl')
theorem x_iinc {X : Xt} {cc : ByteArray} {own : String} {nL pc : Nat} {lv lv' : List (Nat × Value)} {rest : List Value} {h : pH} {i : Nat} {n : Int} {x v : Int32} (j : Nat) (C : Cx X cc own nL) (d : decode cc pc = .ok (.iinc i n, 3)) (hj : lv[j]? = some (i, .int x)) (hx : x + Int32.ofInt n = v) (hn : i < nL) (hv : (i, Value.int v) :: lv.filter (fun q => !(q.1 == i) && !(q.1 + 1 == i && q.2.category == 2)) = lv') (k : Wx X nL (pc + 3) lv' rest h) : Wx X nL pc lv rest h := by
  obtain ⟨p, l, e, R, s, m, args, below, meth, c, cs, Q, D, q, cA, A⟩ := X
  intro H locs ls hP hS hl
  exact lv_iinc C.1 C.2.1 d hl hj hx hn hv (fun ls' hl' => k H locs ls' hP hS hl')
theorem x_icmp_eq {X : Xt} {cc : ByteArray} {own : String} {nL pc : Nat} {lv : List (Nat × Value)} {rest : List Value} {h : pH} {x y : Int32} {off : Int} {tgt : Nat} (C : Cx X cc own nL) (d : decode cc pc = .ok (.if_icmp .eq off, 3)) (ht : (pc : Int) + off = (tgt : Int)) (kt : x = y → Wx X nL tgt lv rest h) (kf : ¬ x = y → Wx X nL (pc + 3) lv rest h) : Wx X nL pc lv (.int y :: .int x :: rest) h := by
  obtain ⟨p, l, e, R, s, m, args, below, meth, c, cs, Q, D, q, cA, A⟩ := X
  intro H locs ls hP hS hl
  exact lv_icmp_eq C.1 C.2.1 d ht (fun z => kt z H locs ls hP hS hl) (fun z => kf z H locs ls hP hS hl)
theorem x_icmp_lt {X : Xt} {cc : ByteArray} {own : String} {nL pc : Nat} {lv : List (Nat × Value)} {rest : List Value} {h : pH} {x y : Int32} {off : Int} {tgt : Nat} (C : Cx X cc own nL) (d : decode cc pc = .ok (.if_icmp .lt off, 3)) (ht : (pc : Int) + off = (tgt : Int)) (kt : x < y → Wx X nL tgt lv rest h) (kf : ¬ x < y → Wx X nL (pc + 3) lv rest h) : Wx X nL pc lv (.int y :: .int x :: rest) h := by
  obtain ⟨p, l, e, R, s, m, args, below, meth, c, cs, Q, D, q, cA, A⟩ := X
  intro H locs ls hP hS hl
  exact lv_icmp_lt C.1 C.2.1 d ht (fun z => kt z H locs ls hP hS hl) (fun z => kf z H locs ls hP hS hl)
theorem x_icmp_ge {X : Xt} {cc : ByteArray} {own : String} {nL pc : Nat} {lv : List (Nat × Value)} {rest : List Value} {h : pH} {x y : Int32} {off : Int} {tgt : Nat} (C : Cx X cc own nL) (d : decode cc pc = .ok (.if_icmp .ge off, 3)) (ht : (pc : Int) + off = (tgt : Int)) (kt : y ≤ x → Wx X nL tgt lv rest h) (kf : ¬ y ≤ x → Wx X nL (pc + 3) lv rest h) : Wx X nL pc lv (.int y :: .int x :: rest) h := by
  obtain ⟨p, l, e, R, s, m, args, below, meth, c, cs, Q, D, q, cA, A⟩ := X
  intro H locs ls hP hS hl
  exact lv_icmp_ge C.1 C.2.1 d ht (fun z => kt z H locs ls hP hS hl) (fun z => kf z H locs ls hP hS hl)
theorem x_icmp_gt {X : Xt} {cc : ByteArray} {own : String} {nL pc : Nat} {lv : List (Nat × Value)} {rest : List Value} {h : pH} {x y : Int32} {off : Int} {tgt : Nat} (C : Cx X cc own nL) (d : decode cc pc = .ok (.if_icmp .gt off, 3)) (ht : (pc : Int) + off = (tgt : Int)) (kt : y < x → Wx X nL tgt lv rest h) (kf : ¬ y < x → Wx X nL (pc + 3) lv rest h) : Wx X nL pc lv (.int y :: .int x :: rest) h := by
  obtain ⟨p, l, e, R, s, m, args, below, meth, c, cs, Q, D, q, cA, A⟩ := X
  intro H locs ls hP hS hl
  exact lv_icmp_gt C.1 C.2.1 d ht (fun z => kt z H locs ls hP hS hl) (fun z => kf z H locs ls hP hS hl)
theorem x_icmp_le {X : Xt} {cc : ByteArray} {own : String} {nL pc : Nat} {lv : List (Nat × Value)} {rest : List Value} {h : pH} {x y : Int32} {off : Int} {tgt : Nat} (C : Cx X cc own nL) (d : decode cc pc = .ok (.if_icmp .le off, 3)) (ht : (pc : Int) + off = (tgt : Int)) (kt : x ≤ y → Wx X nL tgt lv rest h) (kf : ¬ x ≤ y → Wx X nL (pc + 3) lv rest h) : Wx X nL pc lv (.int y :: .int x :: rest) h := by
  obtain ⟨p, l, e, R, s, m, args, below, meth, c, cs, Q, D, q, cA, A⟩ := X
  intro H locs ls hP hS hl
  exact lv_icmp_le C.1 C.2.1 d ht (fun z => kt z H locs ls hP hS hl) (fun z => kf z H locs ls hP hS hl)
theorem x_icmp_ne {X : Xt} {cc : ByteArray} {own : String} {nL pc : Nat} {lv : List (Nat × Value)} {rest : List Value} {h : pH} {x y : Int32} {off : Int} {tgt : Nat} (C : Cx X cc own nL) (d : decode cc pc = .ok (.if_icmp .ne off, 3)) (ht : (pc : Int) + off = (tgt : Int)) (kt : ¬ x = y → Wx X nL tgt lv rest h) (kf : x = y → Wx X nL (pc + 3) lv rest h) : Wx X nL pc lv (.int y :: .int x :: rest) h := by
  obtain ⟨p, l, e, R, s, m, args, below, meth, c, cs, Q, D, q, cA, A⟩ := X
  intro H locs ls hP hS hl
  exact lv_icmp_ne C.1 C.2.1 d ht (fun z => kt z H locs ls hP hS hl) (fun z => kf z H locs ls hP hS hl)
theorem x_if_eq {X : Xt} {cc : ByteArray} {own : String} {nL pc : Nat} {lv : List (Nat × Value)} {rest : List Value} {h : pH} {x : Int32} {off : Int} {tgt : Nat} (C : Cx X cc own nL) (d : decode cc pc = .ok (.ifCond .eq off, 3)) (ht : (pc : Int) + off = (tgt : Int)) (kt : x = 0 → Wx X nL tgt lv rest h) (kf : ¬ x = 0 → Wx X nL (pc + 3) lv rest h) : Wx X nL pc lv (.int x :: rest) h := by
  obtain ⟨p, l, e, R, s, m, args, below, meth, c, cs, Q, D, q, cA, A⟩ := X
  intro H locs ls hP hS hl
  exact lv_if_eq C.1 C.2.1 d ht (fun z => kt z H locs ls hP hS hl) (fun z => kf z H locs ls hP hS hl)
theorem x_if_lt {X : Xt} {cc : ByteArray} {own : String} {nL pc : Nat} {lv : List (Nat × Value)} {rest : List Value} {h : pH} {x : Int32} {off : Int} {tgt : Nat} (C : Cx X cc own nL) (d : decode cc pc = .ok (.ifCond .lt off, 3)) (ht : (pc : Int) + off = (tgt : Int)) (kt : x < 0 → Wx X nL tgt lv rest h) (kf : ¬ x < 0 → Wx X nL (pc + 3) lv rest h) : Wx X nL pc lv (.int x :: rest) h := by
  obtain ⟨p, l, e, R, s, m, args, below, meth, c, cs, Q, D, q, cA, A⟩ := X
  intro H locs ls hP hS hl
  exact lv_if_lt C.1 C.2.1 d ht (fun z => kt z H locs ls hP hS hl) (fun z => kf z H locs ls hP hS hl)
theorem x_if_ge {X : Xt} {cc : ByteArray} {own : String} {nL pc : Nat} {lv : List (Nat × Value)} {rest : List Value} {h : pH} {x : Int32} {off : Int} {tgt : Nat} (C : Cx X cc own nL) (d : decode cc pc = .ok (.ifCond .ge off, 3)) (ht : (pc : Int) + off = (tgt : Int)) (kt : 0 ≤ x → Wx X nL tgt lv rest h) (kf : ¬ 0 ≤ x → Wx X nL (pc + 3) lv rest h) : Wx X nL pc lv (.int x :: rest) h := by
  obtain ⟨p, l, e, R, s, m, args, below, meth, c, cs, Q, D, q, cA, A⟩ := X
  intro H locs ls hP hS hl
  exact lv_if_ge C.1 C.2.1 d ht (fun z => kt z H locs ls hP hS hl) (fun z => kf z H locs ls hP hS hl)
theorem x_if_gt {X : Xt} {cc : ByteArray} {own : String} {nL pc : Nat} {lv : List (Nat × Value)} {rest : List Value} {h : pH} {x : Int32} {off : Int} {tgt : Nat} (C : Cx X cc own nL) (d : decode cc pc = .ok (.ifCond .gt off, 3)) (ht : (pc : Int) + off = (tgt : Int)) (kt : 0 < x → Wx X nL tgt lv rest h) (kf : ¬ 0 < x → Wx X nL (pc + 3) lv rest h) : Wx X nL pc lv (.int x :: rest) h := by
  obtain ⟨p, l, e, R, s, m, args, below, meth, c, cs, Q, D, q, cA, A⟩ := X
  intro H locs ls hP hS hl
  exact lv_if_gt C.1 C.2.1 d ht (fun z => kt z H locs ls hP hS hl) (fun z => kf z H locs ls hP hS hl)
theorem x_if_le {X : Xt} {cc : ByteArray} {own : String} {nL pc : Nat} {lv : List (Nat × Value)} {rest : List Value} {h : pH} {x : Int32} {off : Int} {tgt : Nat} (C : Cx X cc own nL) (d : decode cc pc = .ok (.ifCond .le off, 3)) (ht : (pc : Int) + off = (tgt : Int)) (kt : x ≤ 0 → Wx X nL tgt lv rest h) (kf : ¬ x ≤ 0 → Wx X nL (pc + 3) lv rest h) : Wx X nL pc lv (.int x :: rest) h := by
  obtain ⟨p, l, e, R, s, m, args, below, meth, c, cs, Q, D, q, cA, A⟩ := X
  intro H locs ls hP hS hl
  exact lv_if_le C.1 C.2.1 d ht (fun z => kt z H locs ls hP hS hl) (fun z => kf z H locs ls hP hS hl)
theorem x_if_ne {X : Xt} {cc : ByteArray} {own : String} {nL pc : Nat} {lv : List (Nat × Value)} {rest : List Value} {h : pH} {x : Int32} {off : Int} {tgt : Nat} (C : Cx X cc own nL) (d : decode cc pc = .ok (.ifCond .ne off, 3)) (ht : (pc : Int) + off = (tgt : Int)) (kt : ¬ x = 0 → Wx X nL tgt lv rest h) (kf : x = 0 → Wx X nL (pc + 3) lv rest h) : Wx X nL pc lv (.int x :: rest) h := by
  obtain ⟨p, l, e, R, s, m, args, below, meth, c, cs, Q, D, q, cA, A⟩ := X
  intro H locs ls hP hS hl
  exact lv_if_ne C.1 C.2.1 d ht (fun z => kt z H locs ls hP hS hl) (fun z => kf z H locs ls hP hS hl)
theorem x_goto {X : Xt} {cc : ByteArray} {own : String} {nL pc : Nat} {lv : List (Nat × Value)} {rest : List Value} {h : pH} {off : Int} {tgt : Nat} (C : Cx X cc own nL) (d : decode cc pc = .ok (.goto off, 3)) (ht : (pc : Int) + off = (tgt : Int)) (k : Wx X nL tgt lv rest h) : Wx X nL pc lv rest h := by
  obtain ⟨p, l, e, R, s, m, args, below, meth, c, cs, Q, D, q, cA, A⟩ := X
  intro H locs ls hP hS hl
  exact lv_goto C.1 C.2.1 d ht (k H locs ls hP hS hl)
theorem x_ifnull {X : Xt} {cc : ByteArray} {own : String} {nL pc : Nat} {lv : List (Nat × Value)} {rest : List Value} {h : pH} {r : Nat} {off : Int} {tgt : Nat} (C : Cx X cc own nL) (d : decode cc pc = .ok (.ifnull off, 3)) (ht : (pc : Int) + off = (tgt : Int)) (kt : r = 0 → Wx X nL tgt lv rest h) (kf : ¬ r = 0 → Wx X nL (pc + 3) lv rest h) : Wx X nL pc lv (rf (qo X) r :: rest) h := by
  obtain ⟨p, l, e, R, s, m, args, below, meth, c, cs, Q, D, q, cA, A⟩ := X
  intro H locs ls hP hS hl
  cases r with
  | zero => exact lv_ifnullN C.1 C.2.1 d ht (kt rfl H locs ls hP hS hl)
  | succ r => exact lv_ifnull C.1 C.2.1 d (kf (by omega) H locs ls hP hS hl)
theorem x_ifnonnull {X : Xt} {cc : ByteArray} {own : String} {nL pc : Nat} {lv : List (Nat × Value)} {rest : List Value} {h : pH} {r : Nat} {off : Int} {tgt : Nat} (C : Cx X cc own nL) (d : decode cc pc = .ok (.ifnonnull off, 3)) (ht : (pc : Int) + off = (tgt : Int)) (kt : ¬ r = 0 → Wx X nL tgt lv rest h) (kf : r = 0 → Wx X nL (pc + 3) lv rest h) : Wx X nL pc lv (rf (qo X) r :: rest) h := by
  obtain ⟨p, l, e, R, s, m, args, below, meth, c, cs, Q, D, q, cA, A⟩ := X
  intro H locs ls hP hS hl
  cases r with
  | zero => exact lv_ifnonnullN C.1 C.2.1 d (kf rfl H locs ls hP hS hl)
  | succ r => exact lv_ifnonnull C.1 C.2.1 d ht (kt (by omega) H locs ls hP hS hl)
theorem x_table {X : Xt} {cc : ByteArray} {own : String} {nL pc : Nat} {lv : List (Nat × Value)} {rest : List Value} {h : pH} {x : Int32} {dflt lo hi : Int} {offs : Array Int} {len : Nat} (C : Cx X cc own nL) (d : decode cc pc = .ok (.tableswitch dflt lo hi offs, len)) (kd : (x.toInt < lo ∨ hi < x.toInt) → ∃ tgt : Nat, (pc : Int) + dflt = (tgt : Int) ∧ Wx X nL tgt lv rest h) (kt : ¬ x.toInt < lo → ¬ hi < x.toInt → ∃ (off : Int) (tgt : Nat), offs[(x.toInt - lo).toNat]? = some off ∧ (pc : Int) + off = (tgt : Int) ∧ Wx X nL tgt lv rest h) : Wx X nL pc lv (.int x :: rest) h := by
  obtain ⟨p, l, e, R, s, m, args, below, meth, c, cs, Q, D, q, cA, A⟩ := X
  intro H locs ls hP hS hl
  by_cases hh : x.toInt < lo ∨ hi < x.toInt
  · obtain ⟨tgt, ht, k⟩ := kd hh
    exact lv_tableOut C.1 C.2.1 d hh ht (k H locs ls hP hS hl)
  · obtain ⟨off, tgt, ho, ht, k⟩ := kt (fun z => hh (Or.inl z)) (fun z => hh (Or.inr z))
    exact lv_tableIn C.1 C.2.1 d (fun z => hh (Or.inl z)) (fun z => hh (Or.inr z)) ho ht (k H locs ls hP hS hl)
theorem x_lookup {X : Xt} {cc : ByteArray} {own : String} {nL pc : Nat} {lv : List (Nat × Value)} {rest : List Value} {h : pH} {x : Int32} {dflt off : Int} {ps : Array (Int × Int)} {len tgt : Nat} (C : Cx X cc own nL) (d : decode cc pc = .ok (.lookupswitch dflt ps, len)) (hp : (ps.toList.zip (ps.toList.drop 1)).all (fun (a, next) => a.1 < next.1) = true) (ho : Op.lookupswitch.offset ps.toList dflt x.toInt = off) (ht : (pc : Int) + off = (tgt : Int)) (k : Wx X nL tgt lv rest h) : Wx X nL pc lv (.int x :: rest) h := by
  obtain ⟨p, l, e, R, s, m, args, below, meth, c, cs, Q, D, q, cA, A⟩ := X
  intro H locs ls hP hS hl
  exact lv_lookup C.1 C.2.1 d hp ho ht (k H locs ls hP hS hl)
theorem x_lv {X : Xt} {nL pc : Nat} {lv lv' : List (Nat × Value)} {st : List Value} {h : pH} (is : List Nat) (hl2 : lv_pick lv is = lv') (k : Wx X nL pc lv' st h) : Wx X nL pc lv st h := by
  obtain ⟨p, l, e, R, s, m, args, below, meth, c, cs, Q, D, q, cA, A⟩ := X
  intro H locs ls hP hS hl
  exact k H locs ls hP hS (lv_sub hl is hl2)
