/-! ===== links ===== -/
def KCl (ci : Nat) (Cn : String) (T : u_T) (N : Nat) (ty0 : Nat → FieldType) : Prop := vwCl[ci]? = some (Cn, T, N) ∧ (∀ w ∈ u_ws Cn T N, w ∈ lw_g) ∧ (∀ k, k < N → parseFieldDescriptor (T k).2.2.1 = some (ty0 k)) ∧ (∀ a, a < N → ∀ b, b < N → a ≠ b → (T a).2.1 ≠ (T b).2.1)
def LkF (own : String) (idx ci j : Nat) (ty : FieldType) (fin : Bool) : Prop := ∃ (Cn : String) (T : u_T) (N : Nat) (ty0 : Nat → FieldType), KCl ci Cn T N ty0 ∧ j < N ∧ ty0 j = ty ∧ (T j).2.2.2 = fin ∧ (Cond.fieldLink own idx (T j).1 (T j).2.1 (T j).2.2.1 ∈ lw_g ∨ ∃ host, (own, idx, (T j).1, (T j).2.1, (T j).2.2.1, host) ∈ nsF)
def LkG (own : String) (idx i : Nat) : Prop := Cond.fieldLink own idx "MiddlePlank" (stN i) "[C" ∈ lw_g ∨ ∃ host, (own, idx, "MiddlePlank", stN i, "[C", host) ∈ nsF
def nmOk (y : MethodName) (n : Nat) : Prop := y.cls ≠ "java/lang/invoke/MethodHandle" ∧ y.cls ≠ "java/lang/invoke/VarHandle" ∧ (parseMethodDescriptor y.desc).map (fun d => d.parameters.length) = some n
def LkM (own : String) (idx : Nat) (y : MethodName) : Prop := Cond.methodLink own idx y ∈ lw_g ∨ ∃ host, (own, idx, y, host) ∈ nsM
def MiV (ci : Nat) (y : MethodName) (bytes : ByteArray) (maxL : Nat) (ret : Option FieldType) (n : Nat) : Prop := (∃ T N, vwCl[ci]? = some (y.cls, T, N)) ∧ Cond.code y bytes maxL ret ∈ lw_g ∧ Cond.initialized y.cls ∈ lw_g ∧ Cond.instanceMethod y ∈ lw_g ∧ Cond.selects y.cls y y ∈ lw_g ∧ nmOk y n
def MiS (y : MethodName) (bytes : ByteArray) (maxL : Nat) (ret : Option FieldType) (n : Nat) : Prop := Cond.code y bytes maxL ret ∈ lw_g ∧ Cond.initialized y.cls ∈ lw_g ∧ Cond.static y ∈ lw_g ∧ nmOk y n
/-! ===== fields and arrays ===== -/
theorem x_getI {X : Xt} {cc : ByteArray} {own : String} {nL pc : Nat} {lv : List (Nat × Value)} {rest : List Value} {h : pH} {r j ci idx : Nat} {ty : FieldType} {fin : Bool} (C : Cx X cc own nL) (d : decode cc pc = .ok (.getfield idx, 3)) (L : LkF own idx ci j ty fin) (hf : fI ci j r = true) (k : Wx X nL (pc + 3) lv (.int (h.1 r j) :: rest) h) : Wx X nL pc lv (rf (qo X) r :: rest) h := by
  obtain ⟨p, l, e, R, s, m, args, below, meth, c, cs, Q, D, q, cA, A⟩ := X
  intro H locs ls hP hS hl
  obtain ⟨hx, hb, hml, hown, hts, hns, hK, hi, hA, hst, -⟩ := C
  obtain ⟨Cn, T, N, ty0, ⟨k1, k2, k3, k4⟩, hj, -, -, hlk⟩ := L
  obtain ⟨fs, e1, e2⟩ := fI_of hf
  have hr := shp_lt (k := r) (by rw [e1]; exact fun z => by cases z)
  have he : (gw q cA h)[r - 1]? = some (q r, .inr (ci, flv q h r fs)) := by rw [gw_at hr]; simp only [cel, e1]
  have hv := flv_get (q := q) (h := h) (k := r) e2
  rw [if_pos rfl] at hv
  obtain ⟨r, rfl⟩ : ∃ r', r = r' + 1 := ⟨r - 1, by omega⟩
  rcases hlk with hlk | ⟨host, hlk⟩
  · exact va_get hx hb hts k2 hown hK hP _ he k1 j hj (hts _ hlk) (fun _ z => z) hv d (k H locs ls hP hS hl)
  · exact va_getN hx hb hts k2 hown hK hP _ he k1 j hj (va_Nw.use rfl (hns.1 _ hlk)) (fun _ z => z) hv d (k H locs ls hP hS hl)
theorem x_getR {X : Xt} {cc : ByteArray} {own : String} {nL pc : Nat} {lv : List (Nat × Value)} {rest : List Value} {h : pH} {r j ci idx r2 : Nat} {ty : FieldType} {fin : Bool} (C : Cx X cc own nL) (d : decode cc pc = .ok (.getfield idx, 3)) (L : LkF own idx ci j ty fin) (hf : isO ci r = true) (he2 : fR r j = r2) (hn : ¬ r2 = 0) (k : Wx X nL (pc + 3) lv (rf (qo X) r2 :: rest) h) : Wx X nL pc lv (rf (qo X) r :: rest) h := by
  obtain ⟨p, l, e, R, s, m, args, below, meth, c, cs, Q, D, q, cA, A⟩ := X
  intro H locs ls hP hS hl
  obtain ⟨hx, hb, hml, hown, hts, hns, hK, hi, hA, hst, -⟩ := C
  obtain ⟨Cn, T, N, ty0, ⟨k1, k2, k3, k4⟩, hj, -, -, hlk⟩ := L
  obtain ⟨fs, e1⟩ := isO_of hf
  have hr := shp_lt (k := r) (by rw [e1]; exact fun z => by cases z)
  have he : (gw q cA h)[r - 1]? = some (q r, .inr (ci, flv q h r fs)) := by rw [gw_at hr]; simp only [cel, e1]
  have e2 : fs[j]? = some r2 := by
    simp only [fR, e1] at he2
    rw [List.getD_eq_getElem?_getD] at he2
    cases hz : fs[j]? with
    | none => rw [hz] at he2; exact absurd he2.symm hn
    | some z => rw [hz] at he2; exact congrArg some he2
  have hv := flv_get (q := q) (h := h) (k := r) e2
  rw [if_neg hn] at hv
  obtain ⟨r, rfl⟩ : ∃ r', r = r' + 1 := ⟨r - 1, by omega⟩
  obtain ⟨r2, rfl⟩ : ∃ r', r2 = r' + 1 := ⟨r2 - 1, by omega⟩
  rcases hlk with hlk | ⟨host, hlk⟩
  · exact va_get hx hb hts k2 hown hK hP _ he k1 j hj (hts _ hlk) (fun _ z => z) hv d (k H locs ls hP hS hl)
  · exact va_getN hx hb hts k2 hown hK hP _ he k1 j hj (va_Nw.use rfl (hns.1 _ hlk)) (fun _ z => z) hv d (k H locs ls hP hS hl)
theorem x_putI {X : Xt} {cc : ByteArray} {own : String} {nL pc : Nat} {lv : List (Nat × Value)} {rest : List Value} {h : pH} {r j ci idx : Nat} {ty : FieldType} {v : Int32} (C : Cx X cc own nL) (d : decode cc pc = .ok (.putfield idx, 3)) (L : LkF own idx ci j ty false) (hf : fI ci j r = true) (hn : narrow ty (.int v) = .int v) (hfit : fits ty (.int v) = true) (k : Wx X nL (pc + 3) lv rest (pw h r j v)) : Wx X nL pc lv (.int v :: rf (qo X) r :: rest) h := by
  obtain ⟨p, l, e, R, s, m, args, below, meth, c, cs, Q, D, q, cA, A⟩ := X
  intro H locs ls hP hS hl
  obtain ⟨hx, hb, hml, hown, hts, hns, hK, hi, hA, hst, -⟩ := C
  obtain ⟨Cn, T, N, ty0, ⟨k1, k2, k3, k4⟩, hj, hty, hfin, hlk⟩ := L
  obtain ⟨fs, e1, e2⟩ := fI_of hf
  have hr := shp_lt (k := r) (by rw [e1]; exact fun z => by cases z)
  have he : (gw q cA h)[r - 1]? = some (q r, .inr (ci, flv q h r fs)) := by rw [gw_at hr]; simp only [cel, e1]
  have hset : (gw q cA h).set (r - 1) (q r, .inr (ci, (flv q h r fs).set j (.int v))) = gw q cA (pw h r j v) := gw_set hr (by simp only [cel, e1]; rw [flv_set e2]) cel_pw
  have hlen : j < (flv q h r fs).length := by simp only [flv, List.length_mapIdx]; exact (List.getElem?_eq_some_iff.mp e2).1
  have hd : parseFieldDescriptor (T j).2.2.1 = some ty := by rw [← hty]; exact k3 j hj
  have hD := gwD (cA := cA) (h := h) hi hA
  have kk : ∀ (H1 : Heap) (locs1 : List Loc), va_P D vwCl ((gw q cA h).set (r - 1) (q r, .inr (ci, (flv q h r fs).set j (.int v)))) H1 → va_D A ((gw q cA h).set (r - 1) (q r, .inr (ci, (flv q h r fs).set j (.int v)))) → va_S A s.heap H1 locs1 → W p l e R s m args below meth c H1 locs1 cs.1 cs.2 Q (F0 m (pc + 3) ls rest) := fun H1 locs1 a1 _ a3 => k H1 locs1 ls (by rw [hset] at a1; exact a1) a3 hl
  obtain ⟨r, rfl⟩ : ∃ r', r = r' + 1 := ⟨r - 1, by omega⟩
  rcases hlk with hlk | ⟨host, hlk⟩
  · exact va_put hx hb hts k2 ty0 k3 k4 hown hK hP hD hS _ he k1 j hj (hts _ hlk) (fun _ z => z) hfin hd hn hfit hlen d kk
  · exact va_putN hx hb hts k2 ty0 k3 k4 hown hK hP hD hS _ he k1 j hj (va_Nw.use rfl (hns.1 _ hlk)) (fun _ z => z) hfin hd hn hfit hlen d kk

theorem x_iald {X : Xt} {cc : ByteArray} {own : String} {nL pc : Nat} {lv : List (Nat × Value)} {rest : List Value} {h : pH} {r : Nat} {i : Int32} (C : Cx X cc own nL) (d : decode cc pc = .ok (.iaload, 1)) (ha : aK r = 0) (hi : ix i (aN r) = true) (k : Wx X nL (pc + 1) lv (.int (h.1 r i.toNatClampNeg) :: rest) h) : Wx X nL pc lv (.int i :: rf (qo X) r :: rest) h := by
  obtain ⟨p, l, e, R, s, m, args, below, meth, c, cs, Q, D, q, cA, A⟩ := X
  intro H locs ls hP hS hl
  obtain ⟨hx, hb, hml, hown, hts, hns, hK, hij, hA, hst, -⟩ := C
  obtain ⟨els, e1⟩ := aK_of ha (by decide)
  have hr := shp_lt (k := r) (by rw [e1]; exact fun z => by cases z)
  have he : (gw q cA h)[r - 1]? = some (q r, .inl (cA 0, aN r, .inl (h.1 r))) := by rw [gw_at hr]; simp [cel, e1]
  obtain ⟨r, rfl⟩ : ∃ r', r = r' + 1 := ⟨r - 1, by omega⟩
  exact va_iald hx hb hK hP _ 0 he rfl (ix_in hi) d (k H locs ls hP hS hl)
theorem x_zald {X : Xt} {cc : ByteArray} {own : String} {nL pc : Nat} {lv : List (Nat × Value)} {rest : List Value} {h : pH} {r : Nat} {i : Int32} (C : Cx X cc own nL) (d : decode cc pc = .ok (.baload, 1)) (ha : aK r = 1) (hi : ix i (aN r) = true) (k : Wx X nL (pc + 1) lv (.int (h.1 r i.toNatClampNeg) :: rest) h) : Wx X nL pc lv (.int i :: rf (qo X) r :: rest) h := by
  obtain ⟨p, l, e, R, s, m, args, below, meth, c, cs, Q, D, q, cA, A⟩ := X
  intro H locs ls hP hS hl
  obtain ⟨hx, hb, hml, hown, hts, hns, hK, hij, hA, hst, -⟩ := C
  obtain ⟨els, e1⟩ := aK_of ha (by decide)
  have hr := shp_lt (k := r) (by rw [e1]; exact fun z => by cases z)
  have he : (gw q cA h)[r - 1]? = some (q r, .inl (cA 1, aN r, .inl (h.1 r))) := by rw [gw_at hr]; simp [cel, e1]
  obtain ⟨r, rfl⟩ : ∃ r', r = r' + 1 := ⟨r - 1, by omega⟩
  exact va_zald hx hb hK hP _ 1 he rfl (ix_in hi) d (k H locs ls hP hS hl)
theorem x_lald {X : Xt} {cc : ByteArray} {own : String} {nL pc : Nat} {lv : List (Nat × Value)} {rest : List Value} {h : pH} {r : Nat} {i : Int32} (C : Cx X cc own nL) (d : decode cc pc = .ok (.laload, 1)) (ha : aK r = 3) (hi : ix i (aN r) = true) (k : Wx X nL (pc + 1) lv (.long (h.2 r i.toNatClampNeg) :: rest) h) : Wx X nL pc lv (.int i :: rf (qo X) r :: rest) h := by
  obtain ⟨p, l, e, R, s, m, args, below, meth, c, cs, Q, D, q, cA, A⟩ := X
  intro H locs ls hP hS hl
  obtain ⟨hx, hb, hml, hown, hts, hns, hK, hij, hA, hst, -⟩ := C
  obtain ⟨els, e1⟩ := aK_of ha (by decide)
  have hr := shp_lt (k := r) (by rw [e1]; exact fun z => by cases z)
  have he : (gw q cA h)[r - 1]? = some (q r, .inl (cA 3, aN r, .inr (.inl (h.2 r)))) := by rw [gw_at hr]; simp [cel, e1]
  obtain ⟨r, rfl⟩ : ∃ r', r = r' + 1 := ⟨r - 1, by omega⟩
  exact va_lald hx hb hK hP _ 3 he rfl (ix_in hi) d (k H locs ls hP hS hl)
theorem x_aald4 {X : Xt} {cc : ByteArray} {own : String} {nL pc : Nat} {lv : List (Nat × Value)} {rest : List Value} {h : pH} {r : Nat} {i : Int32} (C : Cx X cc own nL) (d : decode cc pc = .ok (.aaload, 1)) (ha : aK r = 4) (hi : ix i (aN r) = true) (k : Wx X nL (pc + 1) lv (rf (qo X) (aE r i.toNatClampNeg) :: rest) h) : Wx X nL pc lv (.int i :: rf (qo X) r :: rest) h := by
  obtain ⟨p, l, e, R, s, m, args, below, meth, c, cs, Q, D, q, cA, A⟩ := X
  intro H locs ls hP hS hl
  obtain ⟨hx, hb, hml, hown, hts, hns, hK, hij, hA, hst, -⟩ := C
  obtain ⟨els, e1⟩ := aK_of ha (by decide)
  have hr := shp_lt (k := r) (by rw [e1]; exact fun z => by cases z)
  have he : (gw q cA h)[r - 1]? = some (q r, .inl (cA 4, aN r, .inr (.inr (.inr (.inr (fun j => rfo q (els.getD j 0))))))) := by rw [gw_at hr]; simp [cel, e1]
  have hv : va_rf ((fun j => rfo q (els.getD j 0)) i.toNatClampNeg) = rf q (aE r i.toNatClampNeg) := by rw [va_rf_rfo]; simp only [aE, e1]
  obtain ⟨r, rfl⟩ : ∃ r', r = r' + 1 := ⟨r - 1, by omega⟩
  exact va_aldq hx hb hK hP _ 4 he rfl (ix_in hi) d (by rw [hv]; exact k H locs ls hP hS hl)
theorem x_aald5 {X : Xt} {cc : ByteArray} {own : String} {nL pc : Nat} {lv : List (Nat × Value)} {rest : List Value} {h : pH} {r : Nat} {i : Int32} (C : Cx X cc own nL) (d : decode cc pc = .ok (.aaload, 1)) (ha : aK r = 5) (hi : ix i (aN r) = true) (k : Wx X nL (pc + 1) lv (rf (qo X) (aE r i.toNatClampNeg) :: rest) h) : Wx X nL pc lv (.int i :: rf (qo X) r :: rest) h := by
  obtain ⟨p, l, e, R, s, m, args, below, meth, c, cs, Q, D, q, cA, A⟩ := X
  intro H locs ls hP hS hl
  obtain ⟨hx, hb, hml, hown, hts, hns, hK, hij, hA, hst, -⟩ := C
  obtain ⟨els, e1⟩ := aK_of ha (by decide)
  have hr := shp_lt (k := r) (by rw [e1]; exact fun z => by cases z)
  have he : (gw q cA h)[r - 1]? = some (q r, .inl (cA 5, aN r, .inr (.inr (.inr (.inr (fun j => rfo q (els.getD j 0))))))) := by rw [gw_at hr]; simp [cel, e1]
  have hv : va_rf ((fun j => rfo q (els.getD j 0)) i.toNatClampNeg) = rf q (aE r i.toNatClampNeg) := by rw [va_rf_rfo]; simp only [aE, e1]
  obtain ⟨r, rfl⟩ : ∃ r', r = r' + 1 := ⟨r - 1, by omega⟩
  exact va_aldq hx hb hK hP _ 5 he rfl (ix_in hi) d (by rw [hv]; exact k H locs ls hP hS hl)
theorem x_aald6 {X : Xt} {cc : ByteArray} {own : String} {nL pc : Nat} {lv : List (Nat × Value)} {rest : List Value} {h : pH} {r : Nat} {i : Int32} (C : Cx X cc own nL) (d : decode cc pc = .ok (.aaload, 1)) (ha : aK r = 6) (hi : ix i (aN r) = true) (k : Wx X nL (pc + 1) lv (rf (qo X) (aE r i.toNatClampNeg) :: rest) h) : Wx X nL pc lv (.int i :: rf (qo X) r :: rest) h := by
  obtain ⟨p, l, e, R, s, m, args, below, meth, c, cs, Q, D, q, cA, A⟩ := X
  intro H locs ls hP hS hl
  obtain ⟨hx, hb, hml, hown, hts, hns, hK, hij, hA, hst, -⟩ := C
  obtain ⟨els, e1⟩ := aK_of ha (by decide)
  have hr := shp_lt (k := r) (by rw [e1]; exact fun z => by cases z)
  have he : (gw q cA h)[r - 1]? = some (q r, .inl (cA 6, aN r, .inr (.inr (.inr (.inr (fun j => rfo q (els.getD j 0))))))) := by rw [gw_at hr]; simp [cel, e1]
  have hv : va_rf ((fun j => rfo q (els.getD j 0)) i.toNatClampNeg) = rf q (aE r i.toNatClampNeg) := by rw [va_rf_rfo]; simp only [aE, e1]
  obtain ⟨r, rfl⟩ : ∃ r', r = r' + 1 := ⟨r - 1, by omega⟩
  exact va_aldq hx hb hK hP _ 6 he rfl (ix_in hi) d (by rw [hv]; exact k H locs ls hP hS hl)
theorem x_iast {X : Xt} {cc : ByteArray} {own : String} {nL pc : Nat} {lv : List (Nat × Value)} {rest : List Value} {h : pH} {r : Nat} {i : Int32} {x : Int32} (C : Cx X cc own nL) (d : decode cc pc = .ok (.iastore, 1)) (ha : aK r = 0) (hi : ix i (aN r) = true) (k : Wx X nL (pc + 1) lv rest (pw h r i.toNatClampNeg x)) : Wx X nL pc lv (.int x :: .int i :: rf (qo X) r :: rest) h := by
  obtain ⟨p, l, e, R, s, m, args, below, meth, c, cs, Q, D, q, cA, A⟩ := X
  intro H locs ls hP hS hl
  obtain ⟨hx, hb, hml, hown, hts, hns, hK, hij, hA, hst, -⟩ := C
  obtain ⟨els, e1⟩ := aK_of ha (by decide)
  have hr := shp_lt (k := r) (by rw [e1]; exact fun z => by cases z)
  have he : (gw q cA h)[r - 1]? = some (q r, .inl (cA 0, aN r, .inl (h.1 r))) := by rw [gw_at hr]; simp [cel, e1]
  have hset : (gw q cA h).set (r - 1) (q r, .inl (cA 0, aN r, .inl (upd (h.1 r) i.toNatClampNeg x))) = gw q cA (pw h r i.toNatClampNeg x) := gw_set hr (by simp [cel, e1, pw, pv]) cel_pw
  have hD := gwD (cA := cA) (h := h) hij hA
  have kk : ∀ (H1 : Heap) (locs1 : List Loc), va_P D vwCl ((gw q cA h).set (r - 1) (q r, .inl (cA 0, aN r, .inl (upd (h.1 r) i.toNatClampNeg x)))) H1 → va_D A ((gw q cA h).set (r - 1) (q r, .inl (cA 0, aN r, .inl (upd (h.1 r) i.toNatClampNeg x)))) → va_S A s.heap H1 locs1 → W p l e R s m args below meth c H1 locs1 cs.1 cs.2 Q (F0 m (pc + 1) ls rest) := fun H1 locs1 a1 _ a3 => k H1 locs1 ls (by rw [hset] at a1; exact a1) a3 hl
  obtain ⟨r, rfl⟩ : ∃ r', r = r' + 1 := ⟨r - 1, by omega⟩
  exact va_iast hx hb hK hP hD hS _ 0 he rfl (ix_in hi) d kk
theorem x_zast {X : Xt} {cc : ByteArray} {own : String} {nL pc : Nat} {lv : List (Nat × Value)} {rest : List Value} {h : pH} {r : Nat} {i : Int32} {x : Int32} (C : Cx X cc own nL) (d : decode cc pc = .ok (.bastore, 1)) (ha : aK r = 1) (hi : ix i (aN r) = true) (k : Wx X nL (pc + 1) lv rest (pw h r i.toNatClampNeg (vp_nar .boolean x))) : Wx X nL pc lv (.int x :: .int i :: rf (qo X) r :: rest) h := by
  obtain ⟨p, l, e, R, s, m, args, below, meth, c, cs, Q, D, q, cA, A⟩ := X
  intro H locs ls hP hS hl
  obtain ⟨hx, hb, hml, hown, hts, hns, hK, hij, hA, hst, -⟩ := C
  obtain ⟨els, e1⟩ := aK_of ha (by decide)
  have hr := shp_lt (k := r) (by rw [e1]; exact fun z => by cases z)
  have he : (gw q cA h)[r - 1]? = some (q r, .inl (cA 1, aN r, .inl (h.1 r))) := by rw [gw_at hr]; simp [cel, e1]
  have hset : (gw q cA h).set (r - 1) (q r, .inl (cA 1, aN r, .inl (upd (h.1 r) i.toNatClampNeg (vp_nar .boolean x)))) = gw q cA (pw h r i.toNatClampNeg (vp_nar .boolean x)) := gw_set hr (by simp [cel, e1, pw, pv]) cel_pw
  have hD := gwD (cA := cA) (h := h) hij hA
  have kk : ∀ (H1 : Heap) (locs1 : List Loc), va_P D vwCl ((gw q cA h).set (r - 1) (q r, .inl (cA 1, aN r, .inl (upd (h.1 r) i.toNatClampNeg (vp_nar .boolean x))))) H1 → va_D A ((gw q cA h).set (r - 1) (q r, .inl (cA 1, aN r, .inl (upd (h.1 r) i.toNatClampNeg (vp_nar .boolean x))))) → va_S A s.heap H1 locs1 → W p l e R s m args below meth c H1 locs1 cs.1 cs.2 Q (F0 m (pc + 1) ls rest) := fun H1 locs1 a1 _ a3 => k H1 locs1 ls (by rw [hset] at a1; exact a1) a3 hl
  obtain ⟨r, rfl⟩ : ∃ r', r = r' + 1 := ⟨r - 1, by omega⟩
  exact va_zast hx hb hK hP hD hS _ 1 he rfl (ix_in hi) d kk
theorem x_last {X : Xt} {cc : ByteArray} {own : String} {nL pc : Nat} {lv : List (Nat × Value)} {rest : List Value} {h : pH} {r : Nat} {i : Int32} {x : Int64} (C : Cx X cc own nL) (d : decode cc pc = .ok (.lastore, 1)) (ha : aK r = 3) (hi : ix i (aN r) = true) (k : Wx X nL (pc + 1) lv rest (pv h r i.toNatClampNeg x)) : Wx X nL pc lv (.long x :: .int i :: rf (qo X) r :: rest) h := by
  obtain ⟨p, l, e, R, s, m, args, below, meth, c, cs, Q, D, q, cA, A⟩ := X
  intro H locs ls hP hS hl
  obtain ⟨hx, hb, hml, hown, hts, hns, hK, hij, hA, hst, -⟩ := C
  obtain ⟨els, e1⟩ := aK_of ha (by decide)
  have hr := shp_lt (k := r) (by rw [e1]; exact fun z => by cases z)
  have he : (gw q cA h)[r - 1]? = some (q r, .inl (cA 3, aN r, .inr (.inl (h.2 r)))) := by rw [gw_at hr]; simp [cel, e1]
  have hset : (gw q cA h).set (r - 1) (q r, .inl (cA 3, aN r, .inr (.inl (vp_updL (h.2 r) i.toNatClampNeg x)))) = gw q cA (pv h r i.toNatClampNeg x) := gw_set hr (by simp [cel, e1, pw, pv]) cel_pv
  have hD := gwD (cA := cA) (h := h) hij hA
  have kk : ∀ (H1 : Heap) (locs1 : List Loc), va_P D vwCl ((gw q cA h).set (r - 1) (q r, .inl (cA 3, aN r, .inr (.inl (vp_updL (h.2 r) i.toNatClampNeg x))))) H1 → va_D A ((gw q cA h).set (r - 1) (q r, .inl (cA 3, aN r, .inr (.inl (vp_updL (h.2 r) i.toNatClampNeg x))))) → va_S A s.heap H1 locs1 → W p l e R s m args below meth c H1 locs1 cs.1 cs.2 Q (F0 m (pc + 1) ls rest) := fun H1 locs1 a1 _ a3 => k H1 locs1 ls (by rw [hset] at a1; exact a1) a3 hl
  obtain ⟨r, rfl⟩ : ∃ r', r = r' + 1 := ⟨r - 1, by omega⟩
  exact va_last hx hb hK hP hD hS _ 3 he rfl (ix_in hi) d kk
theorem x_alen0 {X : Xt} {cc : ByteArray} {own : String} {nL pc : Nat} {lv : List (Nat × Value)} {rest : List Value} {h : pH} {r : Nat} {v : Int32} (C : Cx X cc own nL) (d : decode cc pc = .ok (.arraylength, 1)) (ha : aK r = 0) (hv : Int32.ofNat (aN r) = v) (k : Wx X nL (pc + 1) lv (.int v :: rest) h) : Wx X nL pc lv (rf (qo X) r :: rest) h := by
  obtain ⟨p, l, e, R, s, m, args, below, meth, c, cs, Q, D, q, cA, A⟩ := X
  intro H locs ls hP hS hl
  obtain ⟨hx, hb, hml, hown, hts, hns, hK, hij, hA, hst, -⟩ := C
  obtain ⟨els, e1⟩ := aK_of ha (by decide)
  have hr := shp_lt (k := r) (by rw [e1]; exact fun z => by cases z)
  have he : (gw q cA h)[r - 1]? = some (q r, .inl (cA 0, aN r, .inl (h.1 r))) := by rw [gw_at hr]; simp [cel, e1]
  obtain ⟨r, rfl⟩ : ∃ r', r = r' + 1 := ⟨r - 1, by omega⟩
  exact va_alen hx hb hK hP _ 0 he rfl hv d (k H locs ls hP hS hl)
theorem x_alen4 {X : Xt} {cc : ByteArray} {own : String} {nL pc : Nat} {lv : List (Nat × Value)} {rest : List Value} {h : pH} {r : Nat} {v : Int32} (C : Cx X cc own nL) (d : decode cc pc = .ok (.arraylength, 1)) (ha : aK r = 4) (hv : Int32.ofNat (aN r) = v) (k : Wx X nL (pc + 1) lv (.int v :: rest) h) : Wx X nL pc lv (rf (qo X) r :: rest) h := by
  obtain ⟨p, l, e, R, s, m, args, below, meth, c, cs, Q, D, q, cA, A⟩ := X
  intro H locs ls hP hS hl
  obtain ⟨hx, hb, hml, hown, hts, hns, hK, hij, hA, hst, -⟩ := C
  obtain ⟨els, e1⟩ := aK_of ha (by decide)
  have hr := shp_lt (k := r) (by rw [e1]; exact fun z => by cases z)
  have he : (gw q cA h)[r - 1]? = some (q r, .inl (cA 4, aN r, .inr (.inr (.inr (.inr (fun j => rfo q (els.getD j 0))))))) := by rw [gw_at hr]; simp [cel, e1]
  obtain ⟨r, rfl⟩ : ∃ r', r = r' + 1 := ⟨r - 1, by omega⟩
  exact va_alen hx hb hK hP _ 4 he rfl hv d (k H locs ls hP hS hl)
theorem x_cald {X : Xt} {cc : ByteArray} {own : String} {nL pc : Nat} {lv : List (Nat × Value)} {rest : List Value} {h : pH} {t : Nat} {i : Int32} (C : Cx X cc own nL) (d : decode cc pc = .ok (.caload, 1)) (ht : t < 7) (hi : ix i (stL t).length = true) (k : Wx X nL (pc + 1) lv (.int (stc t i.toNatClampNeg) :: rest) h) : Wx X nL pc lv (.int i :: rf (qo X) (69 + t) :: rest) h := by
  obtain ⟨p, l, e, R, s, m, args, below, meth, c, cs, Q, D, q, cA, A⟩ := X
  intro H locs ls hP hS hl
  obtain ⟨hx, hb, hml, hown, hts, hns, hK, hij, hA, hst, -⟩ := C
  have e : rf (qo (p, l, e, R, s, m, args, below, meth, c, cs, Q, D, q, cA, A)) (69 + t) = .ref (q (69 + t)) := by rw [show 69 + t = (68 + t) + 1 by omega]; rfl
  rw [e]
  obtain ⟨-, hz, hn⟩ := hst t ht
  obtain ⟨scr, z1, z2, z3, z4, z5⟩ := hz.kept (hS.2.1 _ hz.lt hn)
  have hlt : i.toNatClampNeg < (stL t).length := Nat.not_le.mp fun y => ix_in hi (Or.inr y)
  exact W.cald (v := .int (stc t i.toNatClampNeg)) hx hb z1 z2 z3 (by rw [z4]; exact ix_in hi) (z5 _ hlt) rfl rfl d (k H locs ls hP hS hl)
theorem x_alenC {X : Xt} {cc : ByteArray} {own : String} {nL pc : Nat} {lv : List (Nat × Value)} {rest : List Value} {h : pH} {t : Nat} {v : Int32} (C : Cx X cc own nL) (d : decode cc pc = .ok (.arraylength, 1)) (ht : t < 7) (hv : Int32.ofNat (stL t).length = v) (k : Wx X nL (pc + 1) lv (.int v :: rest) h) : Wx X nL pc lv (rf (qo X) (69 + t) :: rest) h := by
  obtain ⟨p, l, e, R, s, m, args, below, meth, c, cs, Q, D, q, cA, A⟩ := X
  intro H locs ls hP hS hl
  obtain ⟨hx, hb, hml, hown, hts, hns, hK, hij, hA, hst, -⟩ := C
  have e : rf (qo (p, l, e, R, s, m, args, below, meth, c, cs, Q, D, q, cA, A)) (69 + t) = .ref (q (69 + t)) := by rw [show 69 + t = (68 + t) + 1 by omega]; rfl
  rw [e]
  obtain ⟨-, hz, hn⟩ := hst t ht
  obtain ⟨scr, z1, z2, z3, z4, z5⟩ := hz.kept (hS.2.1 _ hz.lt hn)
  exact W.alen (n := v) hx hb z1 z2 (by rw [z4]; exact hv) rfl rfl d (k H locs ls hP hS hl)
theorem x_gets {X : Xt} {cc : ByteArray} {own : String} {nL pc : Nat} {lv : List (Nat × Value)} {rest : List Value} {h : pH} {t idx : Nat} (C : Cx X cc own nL) (d : decode cc pc = .ok (.getstatic idx, 3)) (L : LkG own idx t) (ht : t < 7) (k : Wx X nL (pc + 3) lv (rf (qo X) (69 + t) :: rest) h) : Wx X nL pc lv rest h := by
  obtain ⟨p, l, e, R, s, m, args, below, meth, c, cs, Q, D, q, cA, A⟩ := X
  intro H locs ls hP hS hl
  obtain ⟨hx, hb, hml, hown, hts, hns, hK, hij, hA, hst, -⟩ := C
  have e : rf (qo (p, l, e, R, s, m, args, below, meth, c, cs, Q, D, q, cA, A)) (69 + t) = .ref (q (69 + t)) := by rw [show 69 + t = (68 + t) + 1 by omega]; rfl
  rw [e] at k
  rcases L with L | ⟨host, L⟩
  · exact va_gets hx hb (hst t ht).1 hS hown (hts _ L) (fun _ z => z) d (k H locs ls hP hS hl)
  · exact va_getsN hx hb (hst t ht).1 hS hown (va_Nw.use rfl (hns.1 _ L)) (fun _ z => z) d (k H locs ls hP hS hl)
theorem x_max {X : Xt} {cc : ByteArray} {own : String} {nL pc : Nat} {lv : List (Nat × Value)} {rest : List Value} {h : pH} {idx : Nat} {x y : Int32} (C : Cx X cc own nL) (d : decode cc pc = .ok (.invokestatic idx, 3)) (L : LkM own idx Lib.Math.max.name) (M : MiS Lib.Math.max.name Lib.Math.max.code 2 (some .int) 2) (hR : 1 ≤ (ro X).frames ∧ (rest.map fun v => v.category).sum + 13 ≤ (ro X).locals) (hN : Cond.methodLink own idx Lib.Math.max.name ∈ lw_g) (k : Wx X nL (pc + 3) lv (.int (if x < y then y else x) :: rest) h) : Wx X nL pc lv (.int y :: .int x :: rest) h := by
  obtain ⟨p, l, e, R, s, m, args, below, meth, c, cs, Q, D, q, cA, A⟩ := X
  intro H locs ls hP hS hl
  obtain ⟨hx, hb, hml, hown, hts, hns, hK, hij, hA, hst, hc1, hc2⟩ := C
  exact va_mmax hx hb (by rw [hml]; exact hl.1.symm) hown (hts _ hN) (hts _ M.2.2.1) (hts _ M.2.1) (hts _ M.1) hR.1 hR.2 hc1 hc2 d (k H locs ls hP hS hl)
theorem x_min {X : Xt} {cc : ByteArray} {own : String} {nL pc : Nat} {lv : List (Nat × Value)} {rest : List Value} {h : pH} {idx : Nat} {x y : Int32} (C : Cx X cc own nL) (d : decode cc pc = .ok (.invokestatic idx, 3)) (M : MiS Lib.Math.min.name Lib.Math.min.code 2 (some .int) 2) (hR : 1 ≤ (ro X).frames ∧ (rest.map fun v => v.category).sum + 13 ≤ (ro X).locals) (hN : Cond.methodLink own idx Lib.Math.min.name ∈ lw_g) (k : Wx X nL (pc + 3) lv (.int (if y < x then y else x) :: rest) h) : Wx X nL pc lv (.int y :: .int x :: rest) h := by
  obtain ⟨p, l, e, R, s, m, args, below, meth, c, cs, Q, D, q, cA, A⟩ := X
  intro H locs ls hP hS hl
  obtain ⟨hx, hb, hml, hown, hts, hns, hK, hij, hA, hst, hc1, hc2⟩ := C
  exact va_mmin hx hb (by rw [hml]; exact hl.1.symm) hown (hts _ hN) (hts _ M.2.2.1) (hts _ M.2.1) (hts _ M.1) hR.1 hR.2 hc1 hc2 d (k H locs ls hP hS hl)
theorem cel_pcI {q : Nat → Nat} {cA : Nat → ClassId} {h : pH} {k1 k2 a b n : Nat} : ∀ j, j ≠ k2 → cel q cA (pcI h k1 k2 a b n) j = cel q cA h j := fun j hj => cel_congr (by simp [pcI, hj]) rfl
theorem cel_pcL {q : Nat → Nat} {cA : Nat → ClassId} {h : pH} {k1 k2 a b n : Nat} : ∀ j, j ≠ k2 → cel q cA (pcL h k1 k2 a b n) j = cel q cA h j := fun j hj => cel_congr rfl (by simp [pcL, hj])
def cpyOk (sp dp n : Int32) (n1 n2 : Nat) : Prop := ¬ sp < 0 ∧ ¬ dp < 0 ∧ ¬ n < 0 ∧ sp.toNatClampNeg + n.toNatClampNeg ≤ n1 ∧ dp.toNatClampNeg + n.toNatClampNeg ≤ n2

theorem x_copyi {X : Xt} {cc : ByteArray} {own : String} {nL pc : Nat} {lv : List (Nat × Value)} {rest : List Value} {h : pH} {idx r1 r2 : Nat} {sp dp n : Int32} (C : Cx X cc own nL) (d : decode cc pc = .ok (.invokestatic idx, 3)) (hN : Cond.methodLink own idx arraycopyName ∈ lw_g) (hn1 : Cond.native arraycopyName ∈ lw_g) (hn2 : Cond.static arraycopyName ∈ lw_g) (hn3 : Cond.initialized "java/lang/System" ∈ lw_g) (ha1 : aK r1 = 0) (ha2 : aK r2 = 0) (hc : cpyOk sp dp n (aN r1) (aN r2)) (hR : 1 ≤ (ro X).frames ∧ (rest.map fun v => v.category).sum + (nativeFrameWords "java/lang/System" "arraycopy" 5 + 11) ≤ (ro X).locals) (k : Wx X nL (pc + 3) lv rest (pcI h r1 r2 sp.toNatClampNeg dp.toNatClampNeg n.toNatClampNeg)) : Wx X nL pc lv (.int n :: .int dp :: rf (qo X) r2 :: .int sp :: rf (qo X) r1 :: rest) h := by
  obtain ⟨p, l, e, R, s, m, args, below, meth, c, cs, Q, D, q, cA, A⟩ := X
  intro H locs ls hP hS hl
  obtain ⟨hx, hb, hml, hown, hts, hns, hK, hij, hA, hst, -⟩ := C
  obtain ⟨els1, e1⟩ := aK_of ha1 (by decide)
  obtain ⟨els2, e2⟩ := aK_of ha2 (by decide)
  have hr1 := shp_lt (k := r1) (by rw [e1]; exact fun z => by cases z)
  have hr2 := shp_lt (k := r2) (by rw [e2]; exact fun z => by cases z)
  have he1 : (gw q cA h)[r1 - 1]? = some (q r1, .inl (cA 0, aN r1, .inl (h.1 r1))) := by rw [gw_at hr1]; simp [cel, e1]
  have he2 : (gw q cA h)[r2 - 1]? = some (q r2, .inl (cA 0, aN r2, .inl (h.1 r2))) := by rw [gw_at hr2]; simp [cel, e2]
  have hset : (gw q cA h).set (r2 - 1) (q r2, .inl (cA 0, aN r2, .inl (va_cpy (h.1 r1) (h.1 r2) sp.toNatClampNeg dp.toNatClampNeg n.toNatClampNeg))) = gw q cA (pcI h r1 r2 sp.toNatClampNeg dp.toNatClampNeg n.toNatClampNeg) := gw_set hr2 (by simp [cel, e2, pcI]) cel_pcI
  have hD := gwD (cA := cA) (h := h) hij hA
  have kk : ∀ (H1 : Heap) (locs1 : List Loc), va_P D vwCl ((gw q cA h).set (r2 - 1) (q r2, .inl (cA 0, aN r2, .inl (va_cpy (h.1 r1) (h.1 r2) sp.toNatClampNeg dp.toNatClampNeg n.toNatClampNeg)))) H1 → va_D A ((gw q cA h).set (r2 - 1) (q r2, .inl (cA 0, aN r2, .inl (va_cpy (h.1 r1) (h.1 r2) sp.toNatClampNeg dp.toNatClampNeg n.toNatClampNeg)))) → va_S A s.heap H1 locs1 → W p l e R s m args below meth c H1 locs1 cs.1 cs.2 Q (F0 m (pc + 3) ls rest) := fun H1 locs1 a1 _ a3 => k H1 locs1 ls (by rw [hset] at a1; exact a1) a3 hl
  obtain ⟨h1, h2, h3, h4, h5⟩ := hc
  have z1 : rf q r1 = .ref (q r1) := by obtain ⟨r, rfl⟩ : ∃ r', r1 = r' + 1 := ⟨r1 - 1, by omega⟩; rfl
  have z2 : rf q r2 = .ref (q r2) := by obtain ⟨r, rfl⟩ : ∃ r', r2 = r' + 1 := ⟨r2 - 1, by omega⟩; rfl
  show W p l e R s m args below meth c H locs cs.1 cs.2 Q (F0 m pc ls (.int n :: .int dp :: rf q r2 :: .int sp :: rf q r1 :: rest))
  rw [z1, z2]
  exact va_copyi hx hb (by rw [hml]; exact hl.1.symm) hown (hts _ hN) (hts _ hn1) (hts _ hn2) (hts _ hn3) hK hP hD hS _ _ 0 0 he1 he2 rfl rfl rfl h1 h2 h3 h4 h5 (fun _ _ => rfl) hR.1 hR.2 d kk
theorem x_copyl {X : Xt} {cc : ByteArray} {own : String} {nL pc : Nat} {lv : List (Nat × Value)} {rest : List Value} {h : pH} {idx r1 r2 : Nat} {sp dp n : Int32} (C : Cx X cc own nL) (d : decode cc pc = .ok (.invokestatic idx, 3)) (hN : Cond.methodLink own idx arraycopyName ∈ lw_g) (hn1 : Cond.native arraycopyName ∈ lw_g) (hn2 : Cond.static arraycopyName ∈ lw_g) (hn3 : Cond.initialized "java/lang/System" ∈ lw_g) (ha1 : aK r1 = 3) (ha2 : aK r2 = 3) (hc : cpyOk sp dp n (aN r1) (aN r2)) (hR : 1 ≤ (ro X).frames ∧ (rest.map fun v => v.category).sum + (nativeFrameWords "java/lang/System" "arraycopy" 5 + 11) ≤ (ro X).locals) (k : Wx X nL (pc + 3) lv rest (pcL h r1 r2 sp.toNatClampNeg dp.toNatClampNeg n.toNatClampNeg)) : Wx X nL pc lv (.int n :: .int dp :: rf (qo X) r2 :: .int sp :: rf (qo X) r1 :: rest) h := by
  obtain ⟨p, l, e, R, s, m, args, below, meth, c, cs, Q, D, q, cA, A⟩ := X
  intro H locs ls hP hS hl
  obtain ⟨hx, hb, hml, hown, hts, hns, hK, hij, hA, hst, -⟩ := C
  obtain ⟨els1, e1⟩ := aK_of ha1 (by decide)
  obtain ⟨els2, e2⟩ := aK_of ha2 (by decide)
  have hr1 := shp_lt (k := r1) (by rw [e1]; exact fun z => by cases z)
  have hr2 := shp_lt (k := r2) (by rw [e2]; exact fun z => by cases z)
  have he1 : (gw q cA h)[r1 - 1]? = some (q r1, .inl (cA 3, aN r1, .inr (.inl (h.2 r1)))) := by rw [gw_at hr1]; simp [cel, e1]
  have he2 : (gw q cA h)[r2 - 1]? = some (q r2, .inl (cA 3, aN r2, .inr (.inl (h.2 r2)))) := by rw [gw_at hr2]; simp [cel, e2]
  have hset : (gw q cA h).set (r2 - 1) (q r2, .inl (cA 3, aN r2, .inr (.inl (va_cpy (h.2 r1) (h.2 r2) sp.toNatClampNeg dp.toNatClampNeg n.toNatClampNeg)))) = gw q cA (pcL h r1 r2 sp.toNatClampNeg dp.toNatClampNeg n.toNatClampNeg) := gw_set hr2 (by simp [cel, e2, pcL]) cel_pcL
  have hD := gwD (cA := cA) (h := h) hij hA
  have kk : ∀ (H1 : Heap) (locs1 : List Loc), va_P D vwCl ((gw q cA h).set (r2 - 1) (q r2, .inl (cA 3, aN r2, .inr (.inl (va_cpy (h.2 r1) (h.2 r2) sp.toNatClampNeg dp.toNatClampNeg n.toNatClampNeg))))) H1 → va_D A ((gw q cA h).set (r2 - 1) (q r2, .inl (cA 3, aN r2, .inr (.inl (va_cpy (h.2 r1) (h.2 r2) sp.toNatClampNeg dp.toNatClampNeg n.toNatClampNeg))))) → va_S A s.heap H1 locs1 → W p l e R s m args below meth c H1 locs1 cs.1 cs.2 Q (F0 m (pc + 3) ls rest) := fun H1 locs1 a1 _ a3 => k H1 locs1 ls (by rw [hset] at a1; exact a1) a3 hl
  obtain ⟨h1, h2, h3, h4, h5⟩ := hc
  have z1 : rf q r1 = .ref (q r1) := by obtain ⟨r, rfl⟩ : ∃ r', r1 = r' + 1 := ⟨r1 - 1, by omega⟩; rfl
  have z2 : rf q r2 = .ref (q r2) := by obtain ⟨r, rfl⟩ : ∃ r', r2 = r' + 1 := ⟨r2 - 1, by omega⟩; rfl
  show W p l e R s m args below meth c H locs cs.1 cs.2 Q (F0 m pc ls (.int n :: .int dp :: rf q r2 :: .int sp :: rf q r1 :: rest))
  rw [z1, z2]
  exact va_copyl hx hb (by rw [hml]; exact hl.1.symm) hown (hts _ hN) (hts _ hn1) (hts _ hn2) (hts _ hn3) hK hP hD hS _ _ 3 3 he1 he2 rfl rfl rfl h1 h2 h3 h4 h5 (fun _ _ => rfl) hR.1 hR.2 d kk
