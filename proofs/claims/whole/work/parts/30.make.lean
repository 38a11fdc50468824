theorem oi1 : Cond.instanceMethod Lib.objectInit ∈ lw_g := lw_in (i := 78) (by decide +kernel) rfl
theorem oi2 : Cond.code Lib.objectInit ⟨#[0xb1]⟩ 1 none ∈ lw_g := lw_in (i := 79) (by decide +kernel) rfl
abbrev Zt : Type := Program × Launch × Env × Room × State × MethodId × Array Value × List Frame × Method × Code × (State → Prop) × va_G × (Nat → ClassId) × (Nat → Prop)
def aoK (U : State) : Prop := va_AO RX7 U ∧ va_AO RX1 U ∧ va_AO RX5 U
theorem aoK.moved {u U : State} (hvm : u.vm.Alike U.vm) (h : aoK u) : aoK U := ⟨h.1.moved hvm, h.2.1.moved hvm, h.2.2.moved hvm⟩
def nsA (U : State) : Prop := nsK U ∧ aoK U
def Wz : Zt → Nat → Nat → Nat → Nat → List (Nat × Value) → List Value → va_W → Prop
  | (p, l, e, R, s, m, args, below, meth, c, Q, D, _, A), nc, ns, nL, pc, lv, st, ws => ∀ (H : Heap) (locs : List Loc) (ls : Array Slot), va_P D vwCl ws H → va_D A ws → va_S A s.heap H locs → lv_has ls nL lv → W p l e R s m args below meth c H locs nc ns Q (F0 m pc ls st)
def Cz : Zt → ByteArray → String → Nat → Prop
  | (p, _, _, _, s, m, args, _, _, c, _, D, cA, A), cc, own, nL => p.tables.exec = Jvm.exec ∧ c.code = cc ∧ c.maxLocals = nL ∧ s.vm.findClass own = some m.cls ∧ (∀ w ∈ lw_g, w.before args s = true) ∧ nsA s ∧ va_K D vwCl (cxT cA) s ∧ (∀ a, s.heap.size ≤ a → A a)
def zR (Z : Zt) : Room := Z.2.2.2.1
def zM (Z : Zt) : Method := Z.2.2.2.2.2.2.2.2.1
def zA (Z : Zt) : Nat → ClassId := Z.2.2.2.2.2.2.2.2.2.2.2.2.1
def zl (Z : Zt) : Launch := Z.2.1
def zD (Z : Zt) : va_G := Z.2.2.2.2.2.2.2.2.2.2.2.1

theorem z_iconst {Z : Zt} {cc : ByteArray} {own : String} {nc ns nL pc : Nat} {lv : List (Nat × Value)} {rest : List Value} {ws : va_W} {n : Int} {v : Int32} (C : Cz Z cc own nL) (d : decode cc pc = .ok (.iconst n, 1)) (hv : Int32.ofInt n = v) (k : Wz Z nc ns nL (pc + 1) lv (.int v :: rest) ws) : Wz Z nc ns nL pc lv (rest) ws := by
  obtain ⟨p, l, e, R, s, m, args, below, meth, c, Q, D, cA, A⟩ := Z
  intro H locs ls hP hD hS hl
  exact lv_iconst C.1 C.2.1 d hv (k H locs ls hP hD hS hl)
theorem z_bipush {Z : Zt} {cc : ByteArray} {own : String} {nc ns nL pc : Nat} {lv : List (Nat × Value)} {rest : List Value} {ws : va_W} {n : Int} {v : Int32} (C : Cz Z cc own nL) (d : decode cc pc = .ok (.bipush n, 2)) (hv : (Int8.ofInt n).toInt32 = v) (k : Wz Z nc ns nL (pc + 2) lv (.int v :: rest) ws) : Wz Z nc ns nL pc lv (rest) ws := by
  obtain ⟨p, l, e, R, s, m, args, below, meth, c, Q, D, cA, A⟩ := Z
  intro H locs ls hP hD hS hl
  exact lv_bipush C.1 C.2.1 d hv (k H locs ls hP hD hS hl)
theorem z_sipush {Z : Zt} {cc : ByteArray} {own : String} {nc ns nL pc : Nat} {lv : List (Nat × Value)} {rest : List Value} {ws : va_W} {n : Int} {v : Int32} (C : Cz Z cc own nL) (d : decode cc pc = .ok (.sipush n, 3)) (hv : (Int16.ofInt n).toInt32 = v) (k : Wz Z nc ns nL (pc + 3) lv (.int v :: rest) ws) : Wz Z nc ns nL pc lv (rest) ws := by
  obtain ⟨p, l, e, R, s, m, args, below, meth, c, Q, D, cA, A⟩ := Z
  intro H locs ls hP hD hS hl
  exact lv_sipush C.1 C.2.1 d hv (k H locs ls hP hD hS hl)
theorem z_dup {Z : Zt} {cc : ByteArray} {own : String} {nc ns nL pc : Nat} {lv : List (Nat × Value)} {rest : List Value} {ws : va_W} {a : Nat} (C : Cz Z cc own nL) (d : decode cc pc = .ok (.dup, 1)) (k : Wz Z nc ns nL (pc + 1) lv (.ref a :: .ref a :: rest) ws) : Wz Z nc ns nL pc lv (.ref a :: rest) ws := by
  obtain ⟨p, l, e, R, s, m, args, below, meth, c, Q, D, cA, A⟩ := Z
  intro H locs ls hP hD hS hl
  exact lv_dup C.1 C.2.1 d rfl (k H locs ls hP hD hS hl)
theorem z_aload_n {Z : Zt} {cc : ByteArray} {own : String} {nc ns nL pc : Nat} {lv : List (Nat × Value)} {rest : List Value} {ws : va_W} {n : Fin 4} {i : Nat} {a : Nat} (j : Nat) (C : Cz Z cc own nL) (d : decode cc pc = .ok (.aload_n n, 1)) (hi : (n : Nat) = i) (hj : lv[j]? = some (i, .ref a)) (k : Wz Z nc ns nL (pc + 1) lv (.ref a :: rest) ws) : Wz Z nc ns nL pc lv (rest) ws := by
  obtain ⟨p, l, e, R, s, m, args, below, meth, c, Q, D, cA, A⟩ := Z
  intro H locs ls hP hD hS hl
  exact lv_aload_n C.1 C.2.1 d hi (lv_at hl j hj) (k H locs ls hP hD hS hl)
theorem z_iload_n {Z : Zt} {cc : ByteArray} {own : String} {nc ns nL pc : Nat} {lv : List (Nat × Value)} {rest : List Value} {ws : va_W} {n : Fin 4} {i : Nat} {x : Int32} (j : Nat) (C : Cz Z cc own nL) (d : decode cc pc = .ok (.iload_n n, 1)) (hi : (n : Nat) = i) (hj : lv[j]? = some (i, .int x)) (k : Wz Z nc ns nL (pc + 1) lv (.int x :: rest) ws) : Wz Z nc ns nL pc lv (rest) ws := by
  obtain ⟨p, l, e, R, s, m, args, below, meth, c, Q, D, cA, A⟩ := Z
  intro H locs ls hP hD hS hl
  exact lv_iload_n C.1 C.2.1 d hi (lv_at hl j hj) (k H locs ls hP hD hS hl)
theorem z_istore_n {Z : Zt} {cc : ByteArray} {own : String} {nc ns nL pc : Nat} {lv : List (Nat × Value)} {rest : List Value} {ws : va_W} {lv' : List (Nat × Value)} {n : Fin 4} {i : Nat} {x : Int32} (C : Cz Z cc own nL) (d : decode cc pc = .ok (.istore_n n, 1)) (hi : (n : Nat) = i) (hn : i < nL) (hv : (i, Value.int x) :: lv.filter (fun q => !(q.1 == i) && !(q.1 + 1 == i && q.2.category == 2)) = lv') (k : Wz Z nc ns nL (pc + 1) lv' rest ws) : Wz Z nc ns nL pc lv (.int x :: rest) ws := by
  obtain ⟨p, l, e, R, s, m, args, below, meth, c, Q, D, cA, A⟩ := Z
  intro H locs ls hP hD hS hl
  exact lv_istore_n C.1 C.2.1 d hi hl hn hv (fun ls' hl' => k H locs ls' hP hD hS hl')
theorem z_astore_n {Z : Zt} {cc : ByteArray} {own : String} {nc ns nL pc : Nat} {lv : List (Nat × Value)} {rest : List Value} {ws : va_W} {lv' : List (Nat × Value)} {n : Fin 4} {i : Nat} {x : Nat} (C : Cz Z cc own nL) (d : decode cc pc = .ok (.astore_n n, 1)) (hi : (n : Nat) = i) (hn : i < nL) (hv : (i, Value.ref x) :: lv.filter (fun q => !(q.1 == i) && !(q.1 + 1 == i && q.2.category == 2)) = lv') (k : Wz Z nc ns nL (pc + 1) lv' rest ws) : Wz Z nc ns nL pc lv (.ref x :: rest) ws := by
  obtain ⟨p, l, e, R, s, m, args, below, meth, c, Q, D, cA, A⟩ := Z
  intro H locs ls hP hD hS hl
  exact lv_astore_n C.1 C.2.1 d hi hl hn hv (fun ls' hl' => k H locs ls' hP hD hS hl')
theorem z_iinc {Z : Zt} {cc : ByteArray} {own : String} {nc ns nL pc : Nat} {lv : List (Nat × Value)} {rest : List Value} {ws : va_W} {lv' : List (Nat × Value)} {i : Nat} {n : Int} {x v : Int32} (j : Nat) (C : Cz Z cc own nL) (d : decode cc pc = .ok (.iinc i n, 3)) (hj : lv[j]? = some (i, .int x)) (hx : x + Int32.ofInt n = v) (hn : i < nL) (hv : (i, Value.int v) :: lv.filter (fun q => !(q.1 == i) && !(q.1 + 1 == i && q.2.category == 2)) = lv') (k : Wz Z nc ns nL (pc + 3) lv' rest ws) : Wz Z nc ns nL pc lv rest ws := by
  obtain ⟨p, l, e, R, s, m, args, below, meth, c, Q, D, cA, A⟩ := Z
  intro H locs ls hP hD hS hl
  exact lv_iinc C.1 C.2.1 d hl hj hx hn hv (fun ls' hl' => k H locs ls' hP hD hS hl')
theorem z_goto {Z : Zt} {cc : ByteArray} {own : String} {nc ns nL pc : Nat} {lv : List (Nat × Value)} {rest : List Value} {ws : va_W} {off : Int} {tgt : Nat} (C : Cz Z cc own nL) (d : decode cc pc = .ok (.goto off, 3)) (ht : (pc : Int) + off = (tgt : Int)) (k : Wz Z nc ns nL tgt lv rest ws) : Wz Z nc ns nL pc lv rest ws := by
  obtain ⟨p, l, e, R, s, m, args, below, meth, c, Q, D, cA, A⟩ := Z
  intro H locs ls hP hD hS hl
  exact lv_goto C.1 C.2.1 d ht (k H locs ls hP hD hS hl)
theorem z_geT {Z : Zt} {cc : ByteArray} {own : String} {nc ns nL pc : Nat} {lv : List (Nat × Value)} {rest : List Value} {ws : va_W} {x y : Int32} {off : Int} {tgt : Nat} (C : Cz Z cc own nL) (d : decode cc pc = .ok (.if_icmp .ge off, 3)) (ht : (pc : Int) + off = (tgt : Int)) (hc : y ≤ x) (k : Wz Z nc ns nL tgt lv rest ws) : Wz Z nc ns nL pc lv (.int y :: .int x :: rest) ws := by
  obtain ⟨p, l, e, R, s, m, args, below, meth, c, Q, D, cA, A⟩ := Z
  intro H locs ls hP hD hS hl
  exact lv_icmp_ge C.1 C.2.1 d ht (fun _ => (k H locs ls hP hD hS hl)) (fun z => absurd hc z)
theorem z_geF {Z : Zt} {cc : ByteArray} {own : String} {nc ns nL pc : Nat} {lv : List (Nat × Value)} {rest : List Value} {ws : va_W} {x y : Int32} {off : Int} {tgt : Nat} (C : Cz Z cc own nL) (d : decode cc pc = .ok (.if_icmp .ge off, 3)) (ht : (pc : Int) + off = (tgt : Int)) (hc : ¬ y ≤ x) (k : Wz Z nc ns nL (pc + 3) lv rest ws) : Wz Z nc ns nL pc lv (.int y :: .int x :: rest) ws := by
  obtain ⟨p, l, e, R, s, m, args, below, meth, c, Q, D, cA, A⟩ := Z
  intro H locs ls hP hD hS hl
  exact lv_icmp_ge C.1 C.2.1 d ht (fun z => absurd z hc) (fun _ => (k H locs ls hP hD hS hl))
theorem z_obj {Z : Zt} {cc : ByteArray} {own : String} {nc ns nL pc : Nat} {lv : List (Nat × Value)} {rest : List Value} {ws : va_W} {idx a : Nat} (C : Cz Z cc own nL) (d : decode cc pc = .ok (.invokespecial idx, 3)) (hL : Cond.methodLink own idx Lib.objectInit ∈ lw_g) (hR : 1 ≤ (zR Z).frames ∧ (rest.map fun v => v.category).sum + 12 ≤ (zR Z).locals) (k : Wz Z nc ns nL (pc + 3) lv rest ws) : Wz Z nc ns nL pc lv (.ref a :: rest) ws := by
  obtain ⟨p, l, e, R, s, m, args, below, meth, c, Q, D, cA, A⟩ := Z
  intro H locs ls hP hD hS hl
  exact W.objInit C.1 C.2.1 C.2.2.2.1 (C.2.2.2.2.1 _ hL) (C.2.2.2.2.1 _ oi1) (C.2.2.2.2.1 _ oi2) rfl (by rw [C.2.2.1]; exact hl.1) rfl d hR.1 (by have h2 : (rest.map fun v => v.category).sum + 12 ≤ R.locals := hR.2; show 2 * 0 + (rest.map fun v => v.category).sum + 12 ≤ R.locals; omega) (W.eq (g2 := F0 m (pc + 3) ls rest) rfl (k H locs ls hP hD hS hl))
theorem z_new {Z : Zt} {cc : ByteArray} {own : String} {nc ns nL pc : Nat} {lv : List (Nat × Value)} {rest : List Value} {ws : va_W} {ci idx N : Nat} {Cn : String} {T : u_T} {ty0 : Nat → FieldType} {fs : List Value} (C : Cz Z cc own nL) (d : decode cc pc = .ok (.new idx, 3)) (K : KCl ci Cn T N ty0) (h1 : Cond.classLink own idx Cn ∈ lw_g) (h2 : Cond.instantiable Cn N ∈ lw_g) (h3 : Cond.initialized Cn ∈ lw_g) (hfs : ∀ j, j < N → defaultValue (ty0 j) = vp_V fs j) (hc : nc + 1 ≤ (zR Z).cells) (hs : ns + N ≤ (zR Z).slots) (k : ∀ a, Wz Z (nc + 1) (ns + N) nL (pc + 3) lv (.ref a :: rest) (ws ++ [(a, .inr (ci, fs))])) : Wz Z nc ns nL pc lv rest ws := by
  obtain ⟨p, l, e, R, s, m, args, below, meth, c, Q, D, cA, A⟩ := Z
  intro H locs ls hP hD hS hl
  obtain ⟨hx, hb, hml, hown, hts, hns, hK, hA⟩ := C
  obtain ⟨k1, k2, k3, k4⟩ := K
  exact va_new hx hb hts k2 ty0 k3 hown (hts _ h1) (hts _ h2) (hts _ h3) hK hP hD hS hA k1 hfs hc hs d (fun a H1 a1 a2 a3 => k a H1 locs ls a1 a2 a3 hl)
theorem z_putF {Z : Zt} {cc : ByteArray} {own : String} {nc ns nL pc : Nat} {lv : List (Nat × Value)} {rest : List Value} {ws : va_W} {ci j idx a p0 N : Nat} {v : Value} {Cn : String} {T : u_T} {ty0 : Nat → FieldType} {fs : List Value} {ws' : va_W} (C : Cz Z cc own nL) (d : decode cc pc = .ok (.putfield idx, 3)) (K : KCl ci Cn T N ty0) (he : ws[p0]? = some (a, .inr (ci, fs))) (hj : j < N) (hL : Cond.fieldLink own idx (T j).1 (T j).2.1 (T j).2.2.1 ∈ lw_g) (hfin : (T j).2.2.2 = true) (hn2 : (zM Z).name = "<init>") (hd : (T j).1 = own) (hn : narrow (ty0 j) v = v) (hfit : fits (ty0 j) v = true) (hl2 : j < fs.length) (hw : ws.set p0 (a, .inr (ci, fs.set j v)) = ws') (k : Wz Z nc ns nL (pc + 3) lv rest ws') : Wz Z nc ns nL pc lv (v :: .ref a :: rest) ws := by
  obtain ⟨p, l, e, R, s, m, args, below, meth, c, Q, D, cA, A⟩ := Z
  intro H locs ls hP hD hS hl
  obtain ⟨hx, hb, hml, hown, hts, hns, hK, hA⟩ := C
  obtain ⟨k1, k2, k3, k4⟩ := K
  subst hw
  exact va_putF hx hb hts k2 ty0 k3 k4 hown hK hP hD hS p0 he k1 j hj (hts _ hL) (fun _ z => z) hfin hn2 hd (k3 j hj) hn hfit hl2 d (fun H1 locs1 a1 a2 a3 => k H1 locs1 ls a1 a2 a3 hl)
theorem z_put {Z : Zt} {cc : ByteArray} {own : String} {nc ns nL pc : Nat} {lv : List (Nat × Value)} {rest : List Value} {ws : va_W} {ci j idx a p0 N : Nat} {v : Value} {Cn : String} {T : u_T} {ty0 : Nat → FieldType} {fs : List Value} {ws' : va_W} (C : Cz Z cc own nL) (d : decode cc pc = .ok (.putfield idx, 3)) (K : KCl ci Cn T N ty0) (he : ws[p0]? = some (a, .inr (ci, fs))) (hj : j < N) (hL : Cond.fieldLink own idx (T j).1 (T j).2.1 (T j).2.2.1 ∈ lw_g) (hfin : (T j).2.2.2 = false) (hn : narrow (ty0 j) v = v) (hfit : fits (ty0 j) v = true) (hl2 : j < fs.length) (hw : ws.set p0 (a, .inr (ci, fs.set j v)) = ws') (k : Wz Z nc ns nL (pc + 3) lv rest ws') : Wz Z nc ns nL pc lv (v :: .ref a :: rest) ws := by
  obtain ⟨p, l, e, R, s, m, args, below, meth, c, Q, D, cA, A⟩ := Z
  intro H locs ls hP hD hS hl
  obtain ⟨hx, hb, hml, hown, hts, hns, hK, hA⟩ := C
  obtain ⟨k1, k2, k3, k4⟩ := K
  subst hw
  exact va_put hx hb hts k2 ty0 k3 k4 hown hK hP hD hS p0 he k1 j hj (hts _ hL) (fun _ z => z) hfin (k3 j hj) hn hfit hl2 d (fun H1 locs1 a1 a2 a3 => k H1 locs1 ls a1 a2 a3 hl)
theorem z_get {Z : Zt} {cc : ByteArray} {own : String} {nc ns nL pc : Nat} {lv : List (Nat × Value)} {rest : List Value} {ws : va_W} {ci j idx a p0 N : Nat} {v : Value} {Cn : String} {T : u_T} {ty0 : Nat → FieldType} {fs : List Value} (C : Cz Z cc own nL) (d : decode cc pc = .ok (.getfield idx, 3)) (K : KCl ci Cn T N ty0) (he : ws[p0]? = some (a, .inr (ci, fs))) (hj : j < N) (hL : Cond.fieldLink own idx (T j).1 (T j).2.1 (T j).2.2.1 ∈ lw_g) (hv : fs[j]? = some v) (k : Wz Z nc ns nL (pc + 3) lv (v :: rest) ws) : Wz Z nc ns nL pc lv (.ref a :: rest) ws := by
  obtain ⟨p, l, e, R, s, m, args, below, meth, c, Q, D, cA, A⟩ := Z
  intro H locs ls hP hD hS hl
  obtain ⟨hx, hb, hml, hown, hts, hns, hK, hA⟩ := C
  obtain ⟨k1, k2, k3, k4⟩ := K
  exact va_get hx hb hts k2 hown hK hP p0 he k1 j hj (hts _ hL) (fun _ z => z) hv d (k H locs ls hP hD hS hl)
theorem z_iast {Z : Zt} {cc : ByteArray} {own : String} {nc ns nL pc : Nat} {lv : List (Nat × Value)} {rest : List Value} {ws : va_W} {a p0 n : Nat} {i x : Int32} {f : Nat → Int32} {ws' : va_W} (C : Cz Z cc own nL) (d : decode cc pc = .ok (.iastore, 1)) (he : ws[p0]? = some (a, .inl (zA Z 0, n, .inl f))) (hi : ix i n = true) (hw : ws.set p0 (a, .inl (zA Z 0, n, .inl (upd f i.toNatClampNeg x))) = ws') (k : Wz Z nc ns nL (pc + 1) lv rest ws') : Wz Z nc ns nL pc lv (.int x :: .int i :: .ref a :: rest) ws := by
  obtain ⟨p, l, e, R, s, m, args, below, meth, c, Q, D, cA, A⟩ := Z
  intro H locs ls hP hD hS hl
  obtain ⟨hx, hb, hml, hown, hts, hns, hK, hA⟩ := C
  subst hw
  exact va_iast hx hb hK hP hD hS p0 0 he rfl (ix_in hi) d (fun H1 locs1 a1 a2 a3 => k H1 locs1 ls a1 a2 a3 hl)
theorem z_max {Z : Zt} {cc : ByteArray} {own : String} {nc ns nL pc : Nat} {lv : List (Nat × Value)} {rest : List Value} {ws : va_W} {idx : Nat} {x y : Int32} (C : Cz Z cc own nL) (d : decode cc pc = .ok (.invokestatic idx, 3)) (M : MiS Lib.Math.max.name Lib.Math.max.code 2 (some .int) 2) (hN : Cond.methodLink own idx Lib.Math.max.name ∈ lw_g) (hR : 1 ≤ (zR Z).frames ∧ (rest.map fun v => v.category).sum + 13 ≤ (zR Z).locals) (hc : nc ≤ (zR Z).cells) (hs : ns ≤ (zR Z).slots) {v : Int32} (hv : (if x < y then y else x) = v) (k : Wz Z nc ns nL (pc + 3) lv (.int v :: rest) ws) : Wz Z nc ns nL pc lv (.int y :: .int x :: rest) ws := by
  obtain ⟨p, l, e, R, s, m, args, below, meth, c, Q, D, cA, A⟩ := Z
  intro H locs ls hP hD hS hl
  obtain ⟨hx, hb, hml, hown, hts, hns, hK, hA⟩ := C
  subst hv
  exact va_mmax hx hb (by rw [hml]; exact hl.1.symm) hown (hts _ hN) (hts _ M.2.2.1) (hts _ M.2.1) (hts _ M.1) hR.1 hR.2 hc hs d (k H locs ls hP hD hS hl)

theorem z_newa0 {Z : Zt} {cc : ByteArray} {own : String} {nc ns nL pc : Nat} {lv : List (Nat × Value)} {rest : List Value} {ws : va_W} {n : Int32} {N : Nat} (C : Cz Z cc own nL) (d : decode cc pc = .ok (.newarray .int, 2)) (h1 : Cond.arrayClass .int ∈ lw_g) (hn : ¬ n < 0) (hN : n.toNatClampNeg = N) (hB : N * 8 ≤ 536870912) (hc : nc + 1 ≤ (zR Z).cells) (hs : ns + N ≤ (zR Z).slots) (k : ∀ a, Wz Z (nc + 1) (ns + N) nL (pc + 2) lv (.ref a :: rest) (ws ++ [(a, .inl (zA Z 0, N, .inl (fun _ => 0)))])) : Wz Z nc ns nL pc lv (.int n :: rest) ws := by
  obtain ⟨p, l, e, R, s, m, args, below, meth, c, Q, D, cA, A⟩ := Z
  intro H locs ls hP hD hS hl
  obtain ⟨hx, hb, hml, hown, hts, hns, hK, hA⟩ := C
  refine va_newa (atype := .int) (a0 := (N, .inl (fun _ => 0))) hx hb (hts _ h1) (ty := .int) rfl hK hP hD hS hA (fun _ => rfl) hn hN (by simp [componentBytes]; omega) hc hs d (fun a cA' H1 b1 b2 b3 b4 => ?_)
  have e1 : s.vm.findClass ("[" ++ (FieldType.toString .int)) = some cA' := (b1.2 7 (cA', .int) rfl).2
  have e2 : s.vm.findClass ("[" ++ (FieldType.toString .int)) = some (cA 0) := (hK.2 0 (cA 0, .int) rfl).2
  obtain rfl : cA 0 = cA' := Option.some.inj (e2.symm.trans e1)
  exact k a H1 locs ls b2 b3 b4 hl
theorem z_newa1 {Z : Zt} {cc : ByteArray} {own : String} {nc ns nL pc : Nat} {lv : List (Nat × Value)} {rest : List Value} {ws : va_W} {n : Int32} {N : Nat} (C : Cz Z cc own nL) (d : decode cc pc = .ok (.newarray .boolean, 2)) (h1 : Cond.arrayClass .boolean ∈ lw_g) (hn : ¬ n < 0) (hN : n.toNatClampNeg = N) (hB : N * 8 ≤ 536870912) (hc : nc + 1 ≤ (zR Z).cells) (hs : ns + N ≤ (zR Z).slots) (k : ∀ a, Wz Z (nc + 1) (ns + N) nL (pc + 2) lv (.ref a :: rest) (ws ++ [(a, .inl (zA Z 1, N, .inl (fun _ => 0)))])) : Wz Z nc ns nL pc lv (.int n :: rest) ws := by
  obtain ⟨p, l, e, R, s, m, args, below, meth, c, Q, D, cA, A⟩ := Z
  intro H locs ls hP hD hS hl
  obtain ⟨hx, hb, hml, hown, hts, hns, hK, hA⟩ := C
  refine va_newa (atype := .boolean) (a0 := (N, .inl (fun _ => 0))) hx hb (hts _ h1) (ty := .boolean) rfl hK hP hD hS hA (fun _ => rfl) hn hN (by simp [componentBytes]; omega) hc hs d (fun a cA' H1 b1 b2 b3 b4 => ?_)
  have e1 : s.vm.findClass ("[" ++ (FieldType.toString .boolean)) = some cA' := (b1.2 7 (cA', .boolean) rfl).2
  have e2 : s.vm.findClass ("[" ++ (FieldType.toString .boolean)) = some (cA 1) := (hK.2 1 (cA 1, .boolean) rfl).2
  obtain rfl : cA 1 = cA' := Option.some.inj (e2.symm.trans e1)
  exact k a H1 locs ls b2 b3 b4 hl
theorem z_newa3 {Z : Zt} {cc : ByteArray} {own : String} {nc ns nL pc : Nat} {lv : List (Nat × Value)} {rest : List Value} {ws : va_W} {n : Int32} {N : Nat} (C : Cz Z cc own nL) (d : decode cc pc = .ok (.newarray .long, 2)) (h1 : Cond.arrayClass .long ∈ lw_g) (hn : ¬ n < 0) (hN : n.toNatClampNeg = N) (hB : N * 8 ≤ 536870912) (hc : nc + 1 ≤ (zR Z).cells) (hs : ns + N ≤ (zR Z).slots) (k : ∀ a, Wz Z (nc + 1) (ns + N) nL (pc + 2) lv (.ref a :: rest) (ws ++ [(a, .inl (zA Z 3, N, .inr (.inl (fun _ => 0))))])) : Wz Z nc ns nL pc lv (.int n :: rest) ws := by
  obtain ⟨p, l, e, R, s, m, args, below, meth, c, Q, D, cA, A⟩ := Z
  intro H locs ls hP hD hS hl
  obtain ⟨hx, hb, hml, hown, hts, hns, hK, hA⟩ := C
  refine va_newa (atype := .long) (a0 := (N, .inr (.inl (fun _ => 0)))) hx hb (hts _ h1) (ty := .long) rfl hK hP hD hS hA (fun _ => rfl) hn hN (by simp [componentBytes]; omega) hc hs d (fun a cA' H1 b1 b2 b3 b4 => ?_)
  have e1 : s.vm.findClass ("[" ++ (FieldType.toString .long)) = some cA' := (b1.2 7 (cA', .long) rfl).2
  have e2 : s.vm.findClass ("[" ++ (FieldType.toString .long)) = some (cA 3) := (hK.2 3 (cA 3, .long) rfl).2
  obtain rfl : cA 3 = cA' := Option.some.inj (e2.symm.trans e1)
  exact k a H1 locs ls b2 b3 b4 hl
theorem z_newq4 {Z : Zt} {cc : ByteArray} {own : String} {nc ns nL pc : Nat} {lv : List (Nat × Value)} {rest : List Value} {ws : va_W} {idx : Nat} {n : Int32} {N : Nat} (C : Cz Z cc own nL) (d : decode cc pc = .ok (.anewarray idx, 3)) (h0 : Cond.classLink own idx RX7 ∈ lw_g) (hn : ¬ n < 0) (hN : n.toNatClampNeg = N) (hB : N * 8 ≤ 536870912) (hc : nc + 1 ≤ (zR Z).cells) (hs : ns + N ≤ (zR Z).slots) (k : ∀ a, Wz Z (nc + 1) (ns + N) nL (pc + 3) lv (.ref a :: rest) (ws ++ [(a, .inl (zA Z 4, N, .inr (.inr (.inr (.inr (fun _ => none))))))])) : Wz Z nc ns nL pc lv (.int n :: rest) ws := by
  obtain ⟨p, l, e, R, s, m, args, below, meth, c, Q, D, cA, A⟩ := Z
  intro H locs ls hP hD hS hl
  obtain ⟨hx, hb, hml, hown, hts, hns, hK, hA⟩ := C
  refine va_newq hx hb hown (hts _ h0) hns.2.1 hK hP hD hS hA hn hN (by omega) hc hs d (fun a cA' H1 b1 b2 b3 b4 => ?_)
  obtain ⟨_, _, _, _, _, e1⟩ := (b1.2 7 (cA', .object RX7) rfl).2
  obtain ⟨_, _, _, _, _, e2⟩ := (hK.2 4 (cA 4, .object RX7) rfl).2
  obtain rfl : cA 4 = cA' := Option.some.inj (e2.symm.trans e1)
  exact k a H1 locs ls b2 b3 b4 hl
theorem z_astq4 {Z : Zt} {cc : ByteArray} {own : String} {nc ns nL pc : Nat} {lv : List (Nat × Value)} {rest : List Value} {ws : va_W} {a p0 pk v n : Nat} {i : Int32} {f : Nat → Option Nat} {vs : List Value} {ws' : va_W} (C : Cz Z cc own nL) (d : decode cc pc = .ok (.aastore, 1)) (he : ws[p0]? = some (a, .inl (zA Z 4, n, .inr (.inr (.inr (.inr f)))))) (hv : ws[pk]? = some (v, .inr (7, vs))) (hi : ix i n = true) (hw : ws.set p0 (a, .inl (zA Z 4, n, .inr (.inr (.inr (.inr (va_up f i.toNatClampNeg (some v))))))) = ws') (k : Wz Z nc ns nL (pc + 1) lv rest ws') : Wz Z nc ns nL pc lv (.ref v :: .int i :: .ref a :: rest) ws := by
  obtain ⟨p, l, e, R, s, m, args, below, meth, c, Q, D, cA, A⟩ := Z
  intro H locs ls hP hD hS hl
  obtain ⟨hx, hb, hml, hown, hts, hns, hK, hA⟩ := C
  subst hw
  exact va_astq hx hb hK hP hD hS p0 4 pk 7 (r := (RX7, TX7, 2)) he rfl hv rfl (ix_in hi) d (fun H1 locs1 a1 a2 a3 => k H1 locs1 ls a1 a2 a3 hl)
theorem z_newq5 {Z : Zt} {cc : ByteArray} {own : String} {nc ns nL pc : Nat} {lv : List (Nat × Value)} {rest : List Value} {ws : va_W} {idx : Nat} {n : Int32} {N : Nat} (C : Cz Z cc own nL) (d : decode cc pc = .ok (.anewarray idx, 3)) (h0 : Cond.classLink own idx RX1 ∈ lw_g) (hn : ¬ n < 0) (hN : n.toNatClampNeg = N) (hB : N * 8 ≤ 536870912) (hc : nc + 1 ≤ (zR Z).cells) (hs : ns + N ≤ (zR Z).slots) (k : ∀ a, Wz Z (nc + 1) (ns + N) nL (pc + 3) lv (.ref a :: rest) (ws ++ [(a, .inl (zA Z 5, N, .inr (.inr (.inr (.inr (fun _ => none))))))])) : Wz Z nc ns nL pc lv (.int n :: rest) ws := by
  obtain ⟨p, l, e, R, s, m, args, below, meth, c, Q, D, cA, A⟩ := Z
  intro H locs ls hP hD hS hl
  obtain ⟨hx, hb, hml, hown, hts, hns, hK, hA⟩ := C
  refine va_newq hx hb hown (hts _ h0) hns.2.2.1 hK hP hD hS hA hn hN (by omega) hc hs d (fun a cA' H1 b1 b2 b3 b4 => ?_)
  obtain ⟨_, _, _, _, _, e1⟩ := (b1.2 7 (cA', .object RX1) rfl).2
  obtain ⟨_, _, _, _, _, e2⟩ := (hK.2 5 (cA 5, .object RX1) rfl).2
  obtain rfl : cA 5 = cA' := Option.some.inj (e2.symm.trans e1)
  exact k a H1 locs ls b2 b3 b4 hl
theorem z_astq5 {Z : Zt} {cc : ByteArray} {own : String} {nc ns nL pc : Nat} {lv : List (Nat × Value)} {rest : List Value} {ws : va_W} {a p0 pk v n : Nat} {i : Int32} {f : Nat → Option Nat} {vs : List Value} {ws' : va_W} (C : Cz Z cc own nL) (d : decode cc pc = .ok (.aastore, 1)) (he : ws[p0]? = some (a, .inl (zA Z 5, n, .inr (.inr (.inr (.inr f)))))) (hv : ws[pk]? = some (v, .inr (1, vs))) (hi : ix i n = true) (hw : ws.set p0 (a, .inl (zA Z 5, n, .inr (.inr (.inr (.inr (va_up f i.toNatClampNeg (some v))))))) = ws') (k : Wz Z nc ns nL (pc + 1) lv rest ws') : Wz Z nc ns nL pc lv (.ref v :: .int i :: .ref a :: rest) ws := by
  obtain ⟨p, l, e, R, s, m, args, below, meth, c, Q, D, cA, A⟩ := Z
  intro H locs ls hP hD hS hl
  obtain ⟨hx, hb, hml, hown, hts, hns, hK, hA⟩ := C
  subst hw
  exact va_astq hx hb hK hP hD hS p0 5 pk 1 (r := (RX1, TX1, 5)) he rfl hv rfl (ix_in hi) d (fun H1 locs1 a1 a2 a3 => k H1 locs1 ls a1 a2 a3 hl)
theorem z_newq6 {Z : Zt} {cc : ByteArray} {own : String} {nc ns nL pc : Nat} {lv : List (Nat × Value)} {rest : List Value} {ws : va_W} {idx : Nat} {n : Int32} {N : Nat} (C : Cz Z cc own nL) (d : decode cc pc = .ok (.anewarray idx, 3)) (h0 : Cond.classLink own idx RX5 ∈ lw_g) (hn : ¬ n < 0) (hN : n.toNatClampNeg = N) (hB : N * 8 ≤ 536870912) (hc : nc + 1 ≤ (zR Z).cells) (hs : ns + N ≤ (zR Z).slots) (k : ∀ a, Wz Z (nc + 1) (ns + N) nL (pc + 3) lv (.ref a :: rest) (ws ++ [(a, .inl (zA Z 6, N, .inr (.inr (.inr (.inr (fun _ => none))))))])) : Wz Z nc ns nL pc lv (.int n :: rest) ws := by
  obtain ⟨p, l, e, R, s, m, args, below, meth, c, Q, D, cA, A⟩ := Z
  intro H locs ls hP hD hS hl
  obtain ⟨hx, hb, hml, hown, hts, hns, hK, hA⟩ := C
  refine va_newq hx hb hown (hts _ h0) hns.2.2.2 hK hP hD hS hA hn hN (by omega) hc hs d (fun a cA' H1 b1 b2 b3 b4 => ?_)
  obtain ⟨_, _, _, _, _, e1⟩ := (b1.2 7 (cA', .object RX5) rfl).2
  obtain ⟨_, _, _, _, _, e2⟩ := (hK.2 6 (cA 6, .object RX5) rfl).2
  obtain rfl : cA 6 = cA' := Option.some.inj (e2.symm.trans e1)
  exact k a H1 locs ls b2 b3 b4 hl
theorem z_astq6 {Z : Zt} {cc : ByteArray} {own : String} {nc ns nL pc : Nat} {lv : List (Nat × Value)} {rest : List Value} {ws : va_W} {a p0 pk v n : Nat} {i : Int32} {f : Nat → Option Nat} {vs : List Value} {ws' : va_W} (C : Cz Z cc own nL) (d : decode cc pc = .ok (.aastore, 1)) (he : ws[p0]? = some (a, .inl (zA Z 6, n, .inr (.inr (.inr (.inr f)))))) (hv : ws[pk]? = some (v, .inr (5, vs))) (hi : ix i n = true) (hw : ws.set p0 (a, .inl (zA Z 6, n, .inr (.inr (.inr (.inr (va_up f i.toNatClampNeg (some v))))))) = ws') (k : Wz Z nc ns nL (pc + 1) lv rest ws') : Wz Z nc ns nL pc lv (.ref v :: .int i :: .ref a :: rest) ws := by
  obtain ⟨p, l, e, R, s, m, args, below, meth, c, Q, D, cA, A⟩ := Z
  intro H locs ls hP hD hS hl
  obtain ⟨hx, hb, hml, hown, hts, hns, hK, hA⟩ := C
  subst hw
  exact va_astq hx hb hK hP hD hS p0 6 pk 5 (r := (RX5, TX5, 4)) he rfl hv rfl (ix_in hi) d (fun H1 locs1 a1 a2 a3 => k H1 locs1 ls a1 a2 a3 hl)
/-! contracts of constructors -/
def Ci0 (D : va_G) (cA : Nat → ClassId) (ws0 : va_W) (sz : Nat) (U : State) : Prop := U.heap.size = sz ∧ va_P D vwCl ws0 U.heap ∧ va_K D vwCl (cxT cA) U ∧ nsA U ∧ va_D (fun _ => True) ws0
def Ci1 (D : va_G) (ws0 : va_W) (wsf : (Nat → Nat) → va_W) (sz : Nat) (u : Nat → Nat) (t : State) : Prop := va_P D vwCl (wsf u) t.heap ∧ va_D (va_A ws0 sz) (wsf u)
def Cti (l : Launch) (y : MethodName) (bytes : ByteArray) (maxL fr lc kc ks : Nat) (D : va_G) (cA : Nat → ClassId) (av : List Value) (ws0 : va_W) (wsf : (Nat → Nat) → va_W) : Prop := ∀ sz : Nat, Met l y (.code y bytes maxL none :: lw_g) { frames := fr, cells := kc, slots := ks, locals := lc } (va_Pc av (Ci0 D cA ws0 sz)) (va_Qv (fun _ : Nat → Nat => True) (Ci1 D ws0 wsf sz) (va_A ws0 sz)) kc ks (va_A ws0 sz)
def MiI (y : MethodName) (bytes : ByteArray) (maxL n : Nat) : Prop := Cond.code y bytes maxL none ∈ lw_g ∧ Cond.initialized y.cls ∈ lw_g ∧ Cond.instanceMethod y ∈ lw_g ∧ nmOk y n ∧ y.name = "<init>"
theorem Ci0_blind {D : va_G} {cA : Nat → ClassId} {ws0 : va_W} {sz : Nat} {av : List Value} : FrameBlind (va_Pc av (Ci0 D cA ws0 sz)) := fun a U g mk z => by
  obtain ⟨h1, h2, h3, h4, h5, h6⟩ := z
  exact ⟨h1, h2, h3, va_K.moved (u := U) (U := U.calling g mk a) (Vm.Alike.refl U.vm) h4, ⟨h5.1.same rfl, h5.2.moved (Vm.Alike.refl U.vm)⟩, h6⟩
theorem z_callI {Z : Zt} {cc : ByteArray} {own : String} {nc ns nL pc : Nat} {lv : List (Nat × Value)} {rest : List Value} {ws : va_W} {st As : List Value} {ws0 wr : va_W} {wsf : (Nat → Nat) → va_W} {idx fr lc kc ks maxL n b : Nat} {y : MethodName} {bytes : ByteArray} (C : Cz Z cc own nL) (d : decode cc pc = .ok (.invokespecial idx, 3)) (L : LkM own idx y) (M : MiI y bytes maxL n) (hM : Cti (zl Z) y bytes maxL fr lc kc ks (zD Z) (zA Z) (.ref b :: As) ws0 wsf) (hst : st = As.reverse ++ .ref b :: rest) (hn : As.length = n) (hR : fr + 1 ≤ (zR Z).frames ∧ 8 + (maxL + 11) + lc ≤ (zR Z).locals) (hW : (rest.map fun v => v.category).sum ≤ 8) (isC isR : List Nat) (hC : isC.map (fun i => ws[i]?) = ws0.map some) (hCn : va_nd isC = true) (hRr : isR.map (fun i => ws[i]?) = wr.map some) (hRn : va_nd isR = true) (hdis : ∀ i ∈ isR, i ∉ isC) (hc : nc + kc ≤ (zR Z).cells) (hs : ns + ks ≤ (zR Z).slots) (k : ∀ u : Nat → Nat, Wz Z (nc + kc) (ns + ks) nL (pc + 3) lv rest (wr ++ wsf u)) : Wz Z nc ns nL pc lv st ws := by
  obtain ⟨p, l, e, R, s, m, args, below, meth, c, Q, D, cA, A⟩ := Z
  intro H locs ls hP hD hS hl
  obtain ⟨hx, hb, hml, hown, hts, hns, hK, hA⟩ := C
  obtain ⟨m1, m2, m3, m4, m5⟩ := M
  have hG : GoodIn lw_g (Cond.code y bytes maxL none :: lw_g) := lw_good (fun _ z => z) m1
  have hrm : ({ frames := fr, cells := kc, slots := ks, locals := lc } : Room).frames + 1 ≤ R.frames ∧ 8 + (maxL + 11) + ({ frames := fr, cells := kc, slots := ks, locals := lc } : Room).locals ≤ R.locals := hR
  have hPc : va_P D vwCl ws0 H := hP.sub (ws' := ws0) isC (by
    have e : isC.filterMap (fun i => ws[i]?) = (isC.map (fun i => ws[i]?)).filterMap id := by rw [List.filterMap_map]; rfl
    rw [e, hC, List.filterMap_map]
    simp)
  have hDc : va_D A ws0 := hD.sub isC hCn hC
  have hFc := va_free (wc := ws0) hD hS hA isC hC
  have hpre : ∀ U : State, U.heap = H → s.WarmedH U.vm → va_Pc (.ref b :: As) (Ci0 D cA ws0 H.size) (Value.ref b :: As).toArray U := fun U hU hW => ⟨rfl, by rw [hU], by rw [hU]; exact hPc, va_K.moved hW.alike hK, ⟨hns.1.warm hW, hns.2.moved hW.alike⟩, hDc.weaken (fun _ _ _ _ => trivial)⟩
  have kk : ∀ (u : Nat → Nat) (t : State) (H1 : Heap) (locs1 : List Loc), t.heap = H1 → s.vm.Alike t.vm → True → Ci1 D ws0 wsf H.size u t → H.size ≤ H1.size → (∀ q : Nat, q < H.size → ¬ va_A ws0 H.size q → H1[q]? = H[q]?) → va_S A s.heap H1 locs1 → W p l e R s m args below meth c H1 locs1 (nc + kc) (ns + ks) Q (F0 m (pc + 3) ls rest) := fun u t H1 locs1 ht hvm _ hB hz hk hS1 => by
    obtain ⟨hP1, hD1⟩ := hB
    rw [ht] at hP1
    obtain ⟨a1, a2⟩ := va_join (wr := wr) (w1 := wsf u) hP hD isC isR hC hRr hRn hdis hk hFc hP1 hD1
    exact k u H1 locs1 ls a1 a2 hS1 hl
  rcases L with L | ⟨host, L⟩
  · exact va_callv (va_runI (As := As) (rest := rest) ⟨hx, hb, hml, hown, hts⟩ (hM H.size) ⟨callB_of n hts hG rfl rfl rfl (hts _ m2) (hts _ L) m4 hrm, m5, hts _ m3⟩ ⟨Ci0_blind, hpre⟩ rfl hn hl.1 hst (by show 2 * 0 + _ ≤ 8; omega) d ⟨hc, hs⟩) hS (fun q _ h => hFc q h) hFc kk
  · exact va_callv (va_runIN (As := As) (rest := rest) ⟨hx, hb, hml, hown, hts⟩ (hM H.size) ⟨va_cnB n hts hG rfl rfl rfl (hns.1.2 _ L) (hts _ m2) m4 hrm, m5, hts _ m3⟩ ⟨Ci0_blind, hpre⟩ rfl hn hl.1 hst (by show 2 * 0 + _ ≤ 8; omega) d ⟨hc, hs⟩) hS (fun q _ h => hFc q h) hFc kk
def RtZ (Z : Zt) (cc : ByteArray) (nL kc ks : Nat) (wsf : (Nat → Nat) → va_W) : Prop := ∀ (nc ns pc : Nat) (lv : List (Nat × Value)) (ws : va_W) (u : Nat → Nat) (is : List Nat), nc ≤ kc → ns ≤ ks → va_nd is = true → is.map (fun i => ws[i]?) = (wsf u).map some → decode cc pc = .ok (.return_, 1) → Wz Z nc ns nL pc lv [] ws
def Bz (l : Launch) (cc : ByteArray) (own : String) (nL fr lc kc ks : Nat) (D : va_G) (cA : Nat → ClassId) (wsf : (Nat → Nat) → va_W) (Z : Zt) : Prop := Cz Z cc own nL ∧ zl Z = l ∧ zD Z = D ∧ zA Z = cA ∧ (zM Z).name = "<init>" ∧ zR Z = { frames := fr, cells := kc, slots := ks, locals := lc } ∧ RtZ Z cc nL kc ks wsf
theorem ci_of {l : Launch} {y : MethodName} {cc : ByteArray} {own : String} {maxL fr lc kc ks : Nat} {D : va_G} {cA : Nat → ClassId} {av : List Value} {lv : List (Nat × Value)} {ws0 : va_W} {wsf : (Nat → Nat) → va_W} (hy : plainFor y = true) (hown : y.cls = own) (hnm : y.name = "<init>") (hlen : (lg_sl av).length ≤ maxL) (hlv : lv_args 0 av = lv) (body : ∀ Z : Zt, Bz l cc own maxL fr lc kc ks D cA wsf Z → Wz Z 0 0 maxL 0 lv [] ws0) : Cti l y cc maxL fr lc kc ks D cA av ws0 wsf := by
  subst hown
  subst hlv
  intro sz
  refine Met_ofWF (cc := cc) (maxL := maxL) (ret := none) hy rfl ?_
  intro p e s m args below meth c s₁ B hml hv
  obtain ⟨rfl, hsz, hP, hK, hns, hD0⟩ := hv
  have hx := B.exec
  have hb := B.bytes
  have hr := B.returns
  have hts0 := atoms_spec (ws := Cond.code y cc maxL none :: lw_g) B.pre
  have hts : ∀ w ∈ lw_g, w.before av.toArray s = true := fun w hw => hts0 w (List.mem_cons_of_mem _ hw)
  have hown : s.vm.findClass y.cls = some m.cls := findClass_of_methodNamed B.named
  have hin : meth.name = "<init>" := by rw [(name_of_methodNamed B.named B.method).1, hnm]
  have hlocks := B.notSynchronized
  subst hsz
  have hD := hD0.self (sz := s.heap.size)
  have hl := lv_entry av (n := maxL) hlen
  rw [lg_entry_eq]
  refine body (p, l, e, { frames := fr, cells := kc, slots := ks, locals := lc }, s, m, av.toArray, below, meth, c, MQ below (va_Qv (fun _ : Nat → Nat => True) (Ci1 D ws0 wsf s.heap.size) (va_A ws0 s.heap.size)) av.toArray s kc ks (va_A ws0 s.heap.size), D, cA, va_A ws0 s.heap.size) ⟨⟨hx, hb, hml, hown, hts, hns, hK, fun a h => Or.inr h⟩, rfl, rfl, rfl, hin, rfl, ?_⟩ s.heap [] _ hP hD va_S.rf hl
  intro nc ns pc lv ws u is hnc hns' hnd his d H locs ls hP hD hS hl
  refine W.widen (k := kc) (n := ks) hnc hns' ?_
  have hP9 : va_P D vwCl (wsf u) H := hP.sub (ws' := wsf u) is (by
    have e : is.filterMap (fun i => ws[i]?) = (is.map (fun i => ws[i]?)).filterMap id := by rw [List.filterMap_map]; rfl
    rw [e, his, List.filterMap_map]
    simp)
  have hD9 := hD.sub is hnd his
  exact W.vret hx hb hr (fun t ht hW => ⟨⟨u, rfl, trivial, by rw [ht]; exact hP9, hD9⟩, hS.F ht⟩) hS.2.2 d

