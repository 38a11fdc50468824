/-! ===== contracts and calls ===== -/
def Wd (D : va_G) (q : Nat → Nat) (cA : Nat → ClassId) (h : pH) (U : State) : Prop := va_P D vwCl (gw q cA h) U.heap ∧ va_K D vwCl (cxT cA) U ∧ nsK U ∧ inj q ∧ stK q (wA q) U U.heap
def Qd (D : va_G) (q : Nat → Nat) (cA : Nat → ClassId) (h' : pH) (rv : Option Value) : Array Value → State → Outcome → State → Prop := fun _ st oc t => oc = .returned rv ∧ va_P D vwCl (gw q cA h') t.heap ∧ va_F (wA q) st t
def Ctr (l : Launch) (q : Nat → Nat) (y : MethodName) (bytes : ByteArray) (maxL : Nat) (ret : Option FieldType) (fr lc : Nat) (av : List Value) (h h' : pH) (rv : Option Value) : Prop := ∀ (D : va_G) (cA : Nat → ClassId), Met l y (.code y bytes maxL ret :: lw_g) { frames := fr, cells := 0, slots := 0, locals := lc } (va_Pc av (Wd D q cA h)) (Qd D q cA h' rv) 0 0 (wA q)
theorem Wd_blind {D : va_G} {q : Nat → Nat} {cA : Nat → ClassId} {h : pH} {av : List Value} : FrameBlind (va_Pc av (Wd D q cA h)) := fun a U g mk z => by
  obtain ⟨h1, h2, h3, h4, h5, h6⟩ := z
  exact ⟨h1, h2, va_K.moved (u := U) (U := U.calling g mk a) (Vm.Alike.refl U.vm) h3, h4.same rfl, h5, h6.kept (Vm.Alike.refl U.vm) (fun _ _ _ => rfl) (fun _ z => z)⟩
theorem Wd_pre {D : va_G} {q : Nat → Nat} {cA : Nat → ClassId} {h : pH} {av : List Value} {A : Nat → Prop} {s : State} {H : Heap} {locs : List Loc} (hP : va_P D vwCl (gw q cA h) H) (hS : va_S A s.heap H locs) (hns : nsK s) (hK : va_K D vwCl (cxT cA) s) (hij : inj q) (hA : ∀ a, wA q a → A a) (hst : stK q A s s.heap) : ∀ U : State, U.heap = H → s.WarmedH U.vm → va_Pc av (Wd D q cA h) av.toArray U := fun U hU hW =>
  ⟨rfl, by rw [hU]; exact hP, va_K.moved hW.alike hK, hns.warm hW, hij, by rw [hU]; exact hst.kept hW.alike hS.2.1 hA⟩
theorem x_run {p : Program} {l : Launch} {e : Env} {R : Room} {s : State} {m : MethodId} {args : Array Value} {below : List Frame} {meth : Method} {c : Code} {cs : Nat × Nat} {Q : State → Prop} {D : va_G} {q : Nat → Nat} {cA : Nat → ClassId} {A : Nat → Prop} {nL pc : Nat} {lv : List (Nat × Value)} {st rest : List Value} {h' : pH} {rv : Option Value} {H : Heap} {locs : List Loc} {ls : Array Slot} {a : Array Value}
    (hr : va_Run p l e R s m args below meth c H locs cs.1 cs.2 0 0 (F0 m pc ls st) rest (Qd D q cA h' rv a) (wA q)) (hS : va_S A s.heap H locs) (hA : ∀ a, wA q a → A a) (hl : lv_has ls nL lv)
    (k : Wx (p, l, e, R, s, m, args, below, meth, c, cs, Q, D, q, cA, A) nL (pc + 3) lv (rv.toList ++ rest) h') : W p l e R s m args below meth c H locs cs.1 cs.2 Q (F0 m pc ls st) := by
  intro T hT X
  obtain ⟨v, st₀, t, T', L, h0, X', hL, e1, e2, ⟨hv, hb, hz, hk⟩, stp⟩ := hr T hT X
  cases hv
  rw [h0] at hz hk
  have hS' : va_S A s.heap T'.heap (locs ++ L) := ⟨Nat.le_trans hS.1 (by rw [e1]; exact hz), fun x h1 h2 => by rw [e1, hk x (Nat.lt_of_lt_of_le h1 hS.1) (fun z => h2 (hA x z))]; exact hS.2.1 x h1 h2, fun x hx => by
      rcases List.mem_append.mp hx with z | z
      · exact hS.2.2 x z
      · exact hA _ (hL x z)⟩
  obtain ⟨t2, a1, b1⟩ := k T'.heap (locs ++ L) ls (by rw [e1]; exact hb) hS' hl T' rfl X'
  exact ⟨t2, stp t2 a1, b1⟩
theorem x_callV {X : Xt} {cc : ByteArray} {own : String} {nL pc : Nat} {lv : List (Nat × Value)} {st rest As : List Value} {h h' : pH} {idx fr lc maxL n r ci : Nat} {y : MethodName} {bytes : ByteArray} {ret : Option FieldType} {rv : Option Value} (C : Cx X cc own nL) (d : decode cc pc = .ok (.invokevirtual idx, 3)) (L : LkM own idx y) (M : MiV ci y bytes maxL ret n) (hM : Ctr (lo X) (qo X) y bytes maxL ret fr lc (rf (qo X) r :: As) h h' rv) (hst : st = As.reverse ++ rf (qo X) r :: rest) (hn : As.length = n) (hR : fr + 1 ≤ (ro X).frames ∧ 8 + (maxL + 11) + lc ≤ (ro X).locals) (hW : (rest.map fun v => v.category).sum ≤ 8) (hr : isO ci r = true) (k : Wx X nL (pc + 3) lv (rv.toList ++ rest) h') : Wx X nL pc lv st h := by
  obtain ⟨p, l, e, R, s, m, args, below, meth, c, cs, Q, D, q, cA, A⟩ := X
  intro H locs ls hP hS hl
  obtain ⟨hx, hb, hml, hown, hts, hns, hK, hij, hA, hsta, hc1, hc2⟩ := C
  obtain ⟨⟨T, N, m0⟩, m1, m2, m3, m4, m5⟩ := M
  obtain ⟨fs, e1⟩ := isO_of hr
  have hrr := shp_lt (k := r) (by rw [e1]; exact fun z => by cases z)
  have he : (gw q cA h)[r - 1]? = some (q r, .inr (ci, flv q h r fs)) := by rw [gw_at hrr]; simp only [cel, e1]
  have hrec := va_recv hK hP m0 he
  have hG : GoodIn lw_g (Cond.code y bytes maxL ret :: lw_g) := lw_good (fun _ z => z) m1
  have hrm : ({ frames := fr, cells := 0, slots := 0, locals := lc } : Room).frames + 1 ≤ R.frames ∧ 8 + (maxL + 11) + ({ frames := fr, cells := 0, slots := 0, locals := lc } : Room).locals ≤ R.locals := hR
  have hpre := Wd_pre (av := .ref (q r) :: As) hP hS hns hK hij hA hsta
  obtain ⟨r, rfl⟩ : ∃ r', r = r' + 1 := ⟨r - 1, by omega⟩
  rcases L with L | ⟨host, L⟩
  · exact x_run (va_runV (As := As) (rest := rest) ⟨hx, hb, hml, hown, hts⟩ (hM D cA) ⟨callB_of n hts hG rfl rfl rfl (hts _ m2) (hts _ L) m5 hrm, hts _ m3, hts _ m4⟩ ⟨Wd_blind, hrec, hpre⟩ rfl hn hl.1 hst (by show 2 * 0 + _ ≤ 8; omega) d ⟨hc1, hc2⟩) hS hA hl k
  · exact x_run (va_runVN (As := As) (rest := rest) ⟨hx, hb, hml, hown, hts⟩ (hM D cA) ⟨va_cnB n hts hG rfl rfl rfl (hns.2 _ L) (hts _ m2) m5 hrm, hts _ m3, hts _ m4⟩ ⟨Wd_blind, hrec, hpre⟩ rfl hn hl.1 hst (by show 2 * 0 + _ ≤ 8; omega) d ⟨hc1, hc2⟩) hS hA hl k
theorem x_callS {X : Xt} {cc : ByteArray} {own : String} {nL pc : Nat} {lv : List (Nat × Value)} {st rest As : List Value} {h h' : pH} {idx fr lc maxL n : Nat} {y : MethodName} {bytes : ByteArray} {ret : Option FieldType} {rv : Option Value} (C : Cx X cc own nL) (d : decode cc pc = .ok (.invokestatic idx, 3)) (L : LkM own idx y) (M : MiS y bytes maxL ret n) (hM : Ctr (lo X) (qo X) y bytes maxL ret fr lc As h h' rv) (hst : st = As.reverse ++ rest) (hn : As.length = n) (hR : fr + 1 ≤ (ro X).frames ∧ 8 + (maxL + 11) + lc ≤ (ro X).locals) (hW : (rest.map fun v => v.category).sum ≤ 8) (k : Wx X nL (pc + 3) lv (rv.toList ++ rest) h') : Wx X nL pc lv st h := by
  obtain ⟨p, l, e, R, s, m, args, below, meth, c, cs, Q, D, q, cA, A⟩ := X
  intro H locs ls hP hS hl
  obtain ⟨hx, hb, hml, hown, hts, hns, hK, hij, hA, hsta, hc1, hc2⟩ := C
  obtain ⟨m1, m2, m3, m5⟩ := M
  have hG : GoodIn lw_g (Cond.code y bytes maxL ret :: lw_g) := lw_good (fun _ z => z) m1
  have hrm : ({ frames := fr, cells := 0, slots := 0, locals := lc } : Room).frames + 1 ≤ R.frames ∧ 8 + (maxL + 11) + ({ frames := fr, cells := 0, slots := 0, locals := lc } : Room).locals ≤ R.locals := hR
  have hpre := Wd_pre (av := As) hP hS hns hK hij hA hsta
  rcases L with L | ⟨host, L⟩
  · exact x_run (va_runS (As := As) (rest := rest) ⟨hx, hb, hml, hown, hts⟩ (hM D cA) ⟨callB_of n hts hG rfl rfl rfl (hts _ m2) (hts _ L) m5 hrm, hts _ m3⟩ ⟨Wd_blind, hpre⟩ rfl hn hl.1 hst (by show 2 * 0 + _ ≤ 8; omega) d ⟨hc1, hc2⟩) hS hA hl k
  · exact x_run (va_runSN (As := As) (rest := rest) ⟨hx, hb, hml, hown, hts⟩ (hM D cA) ⟨va_cnB n hts hG rfl rfl rfl (hns.2 _ L) (hts _ m2) m5 hrm, hts _ m3, trivial⟩ ⟨Wd_blind, hpre⟩ rfl hn hl.1 hst (by show 2 * 0 + _ ≤ 8; omega) d ⟨hc1, hc2⟩) hS hA hl k
/-! ===== a method's own end ===== -/
def RtX (X : Xt) (cc : ByteArray) (nL : Nat) (ret : Option FieldType) (rv : Option Value) (h' : pH) : Prop :=
  (∀ v rt, rv = some (.int v) → ret = some rt → narrow rt (.int v) = .int v → ∀ pc lv, decode cc pc = .ok (.ireturn, 1) → Wx X nL pc lv [.int v] h') ∧
  (∀ v, rv = some (.long v) → ret = some .long → ∀ pc lv, decode cc pc = .ok (.lreturn, 1) → Wx X nL pc lv [.long v] h') ∧
  (∀ r n, rv = some (rf (qo X) r) → ret = some (.object n) → ∀ pc lv, decode cc pc = .ok (.areturn, 1) → Wx X nL pc lv [rf (qo X) r] h') ∧
  (∀ r t, rv = some (rf (qo X) r) → ret = some (.array t) → ∀ pc lv, decode cc pc = .ok (.areturn, 1) → Wx X nL pc lv [rf (qo X) r] h') ∧
  (rv = none → ret = none → ∀ pc lv, decode cc pc = .ok (.return_, 1) → Wx X nL pc lv [] h')
def Bd (l : Launch) (q : Nat → Nat) (cc : ByteArray) (own : String) (nL : Nat) (ret : Option FieldType) (fr lc : Nat) (rv : Option Value) (h' : pH) (X : Xt) : Prop := Cx X cc own nL ∧ qo X = q ∧ lo X = l ∧ fr ≤ (ro X).frames ∧ lc ≤ (ro X).locals ∧ RtX X cc nL ret rv h'
theorem Met_ofWF {l : Launch} {y : MethodName} {ws ws' : List Cond} {rm : Room} {Pc : Array Value → State → Prop} {Qc : Array Value → State → Outcome → State → Prop} {mc ms : Nat} {free : Addr → Prop} {cc : ByteArray} {maxL : Nat} {ret : Option FieldType}
    (hy : plainFor y = true) (hw : ws = Cond.code y cc maxL ret :: ws')
    (body : ∀ p e s m args below meth c s₁, BodyLoose p l y (headSpec ws rm) cc maxL ret e s m args below meth c s₁ → c.maxLocals = maxL → Pc args s →
      W p l e (headSpec ws rm).room s m args below meth c s.heap [] 0 0 (MQ below Qc args s mc ms free) (entryFrame m args maxL)) : Met l y ws rm Pc Qc mc ms free := by
  refine MetFree.of_bodySF (code := cc) (maxLocals := maxL) (ret := ret) hy ?_ ?_
  · intro args s m h hn
    obtain ⟨meth, c, h1, h2, h3, h4, h5, h6, -, -⟩ := Cond.code_spec hn (atoms_spec (ws := ws) h _ (by rw [hw]; exact List.mem_cons_self))
    exact ⟨meth, c, h1, h2, h3, h4, h5, h6⟩
  · intro p e s m args below meth c s₁ B hml hP _
    have hh0 : s₁.heap = s.heap := by rw [B.state]; rfl
    obtain ⟨t, a1, o, b1, b2, b3⟩ := body p e s m args below meth c s₁ B hml hP s₁ hh0 (Stand.of_body B)
    exact ⟨t, o, a1, b1, b2, ⟨b3.1, b3.2⟩⟩
theorem cat_i (x : Int32) : (Value.int x).category = 1 := rfl
theorem cat_l (x : Int64) : (Value.long x).category = 2 := rfl
theorem ct_of {l : Launch} {q : Nat → Nat} {y : MethodName} {cc : ByteArray} {own : String} {maxL : Nat} {ret : Option FieldType} {fr lc : Nat} {av : List Value} {lv : List (Nat × Value)} {h h' : pH} {rv : Option Value} (hy : plainFor y = true) (hown : y.cls = own) (hlen : (lg_sl av).length ≤ maxL) (hlv : lv_args 0 av = lv) (body : ∀ X : Xt, Bd l q cc own maxL ret fr lc rv h' X → Wx X maxL 0 lv [] h) : Ctr l q y cc maxL ret fr lc av h h' rv := by
  subst hown
  subst hlv
  intro D cA
  refine Met_ofWF (cc := cc) (maxL := maxL) (ret := ret) hy rfl ?_
  intro p e s m args below meth c s₁ B hml hv
  obtain ⟨rfl, hP, hK, hns, hij, hst⟩ := hv
  have hx := B.exec
  have hb := B.bytes
  have hr := B.returns
  have hts0 := atoms_spec (ws := Cond.code y cc maxL ret :: lw_g) B.pre
  have hts : ∀ w ∈ lw_g, w.before av.toArray s = true := fun w hw => hts0 w (List.mem_cons_of_mem _ hw)
  have hown : s.vm.findClass y.cls = some m.cls := findClass_of_methodNamed B.named
  have hlocks := B.notSynchronized
  have hl := lv_entry av (n := maxL) hlen
  rw [lg_entry_eq]
  refine body (p, l, e, { frames := fr, cells := 0, slots := 0, locals := lc }, s, m, av.toArray, below, meth, c, (0, 0), MQ below (Qd D q cA h' rv) av.toArray s 0 0 (wA q), D, q, cA, wA q) ⟨⟨hx, hb, hml, hown, hts, hns, hK, hij, fun _ z => z, hst, Nat.le_refl _, Nat.le_refl _⟩, rfl, rfl, Nat.le_refl _, Nat.le_refl _, ?_, ?_, ?_, ?_, ?_⟩ s.heap [] _ hP va_S.rf hl
  · intro v rt e1 e2 hn pc lv d H locs ls hP hS hl
    subst e1
    exact W.zret hx hb (by rw [hr, e2]) hn (fun t ht hW => ⟨rfl, by rw [ht]; exact hP, hS.F ht⟩) hS.2.2 d
  · intro v e1 e2 pc lv d H locs ls hP hS hl
    subst e1
    exact W.lret hx hb (by rw [hr, e2]) (fun t ht hW => ⟨rfl, by rw [ht]; exact hP, hS.F ht⟩) hS.2.2 d
  · intro r n e1 e2 pc lv d H locs ls hP hS hl
    have e1 : rv = some (rf q r) := e1
    exact W.aret (v := rf q r) hx hb (by rw [hr, e2]) (Or.inl ⟨n, rfl⟩) (by cases r with
      | zero => exact Or.inl rfl
      | succ r => exact Or.inr ⟨_, rfl⟩) (fun t ht hW => ⟨by rw [e1], by rw [ht]; exact hP, hS.F ht⟩) hS.2.2 d
  · intro r t2 e1 e2 pc lv d H locs ls hP hS hl
    have e1 : rv = some (rf q r) := e1
    exact W.aret (v := rf q r) hx hb (by rw [hr, e2]) (Or.inr ⟨t2, rfl⟩) (by cases r with
      | zero => exact Or.inl rfl
      | succ r => exact Or.inr ⟨_, rfl⟩) (fun t ht hW => ⟨by rw [e1], by rw [ht]; exact hP, hS.F ht⟩) hS.2.2 d
  · intro e1 e2 pc lv d H locs ls hP hS hl
    subst e1
    exact W.vret hx hb (by rw [hr, e2]) (fun t ht hW => ⟨rfl, by rw [ht]; exact hP, hS.F ht⟩) hS.2.2 d
/-! ===== small helps for the walks ===== -/
theorem ife {α : Type} {c : Prop} [Decidable c] {x : Option α} {r : α} (h : (if c then x else none) = some r) : c ∧ x = some r := by
  by_cases hc : c
  · rw [if_pos hc] at h; exact ⟨hc, h⟩
  · rw [if_neg hc] at h; cases h
theorem bnd {α β : Type} {x : Option α} {f : α → Option β} {r : β} (h : x.bind f = some r) : ∃ a, x = some a ∧ f a = some r := Option.bind_eq_some_iff.mp h
theorem nrB {v : Int32} (h : v = 0 ∨ v = 1) : narrow .boolean (.int v) = .int v := by rcases h with rfl | rfl <;> rfl

