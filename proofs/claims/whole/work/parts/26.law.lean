def Sx : Xt → Nat → Nat → (Nat → Int32) → Prop
  | (_, _, _, _, s, _, _, _, _, _, _, _, _, _, _, A), b, L, xs => va_X b L xs s s.heap ∧ b < s.heap.size ∧ ¬ A b
theorem x_sld {X : Xt} {cc : ByteArray} {own : String} {nL pc : Nat} {lv : List (Nat × Value)} {rest : List Value} {h : pH} {b L : Nat} {xs : Nat → Int32} {i : Int32} (C : Cx X cc own nL) (hX : Sx X b L xs) (d : decode cc pc = .ok (.iaload, 1)) (hi : ix i L = true) (k : Wx X nL (pc + 1) lv (.int (xs i.toNatClampNeg) :: rest) h) : Wx X nL pc lv (.int i :: .ref b :: rest) h := by
  obtain ⟨p, l, e, R, s, m, args, below, meth, c, cs, Q, D, q, cA, A⟩ := X
  intro H locs ls hP hS hl
  exact va_sld C.1 C.2.1 hX.1 hX.2.1 hX.2.2 hS (ix_in hi) d (k H locs ls hP hS hl)
theorem x_slen {X : Xt} {cc : ByteArray} {own : String} {nL pc : Nat} {lv : List (Nat × Value)} {rest : List Value} {h : pH} {b L : Nat} {xs : Nat → Int32} (C : Cx X cc own nL) (hX : Sx X b L xs) (d : decode cc pc = .ok (.arraylength, 1)) (k : Wx X nL (pc + 1) lv (.int (Int32.ofNat L) :: rest) h) : Wx X nL pc lv (.ref b :: rest) h := by
  obtain ⟨p, l, e, R, s, m, args, below, meth, c, cs, Q, D, q, cA, A⟩ := X
  intro H locs ls hP hS hl
  exact va_slen C.1 C.2.1 hX.1 hX.2.1 hX.2.2 hS d (k H locs ls hP hS hl)
theorem x_aload_nS {X : Xt} {cc : ByteArray} {own : String} {nL pc : Nat} {lv : List (Nat × Value)} {rest : List Value} {h : pH} {n : Fin 4} {i b : Nat} (j : Nat) (C : Cx X cc own nL) (d : decode cc pc = .ok (.aload_n n, 1)) (hi : (n : Nat) = i) (hj : lv[j]? = some (i, .ref b)) (k : Wx X nL (pc + 1) lv (.ref b :: rest) h) : Wx X nL pc lv rest h := by
  obtain ⟨p, l, e, R, s, m, args, below, meth, c, cs, Q, D, q, cA, A⟩ := X
  intro H locs ls hP hS hl
  exact lv_aload_n C.1 C.2.1 d hi (lv_at hl j hj) (k H locs ls hP hS hl)
def fL_law_b1138 (N : Nat) (L : Nat) (xs : Nat → Int32) (k18 : pH → Int32 → Option (Int32 × pH)) (h : pH) (x3 : Int32) : Option (Int32 × pH) :=
  k18 h (x3 + 6)
set_option maxRecDepth 100000 in
set_option maxHeartbeats 4000000 in
theorem tL_law_b1138 {X : Xt} {v : Int32} {h' : pH} (N : Nat) {b : Nat} (L : Nat) (xs : Nat → Int32) (hX : Sx X b L xs) (k18 : pH → Int32 → Option (Int32 × pH)) (HK18 : ∀ (h : pH) (x3 : Int32), k18 h x3 = some (v, h') → Wx X 4 18 [(0, .ref b), (1, rf (qo X) 1), (2, rf (qo X) 49), (3, .int x3)] [] h) (h : pH) (x3 : Int32) (B : Bd (lo X) (qo X) cL_law RL 4 (some .boolean) 8 186 (some (.int v)) h' X) (hf : fL_law_b1138 N L xs k18 h x3 = some (v, h')) : Wx X 4 1138 [(0, .ref b), (1, rf (qo X) 1), (2, rf (qo X) 49), (3, .int x3)] [] h := by
  have C := B.1
  unfold fL_law_b1138 at hf
  refine x_iinc (v := x3 + 6) (lv' := [(3, .int (x3 + 6)), (0, .ref b), (1, rf (qo X) 1), (2, rf (qo X) 49)]) 3 C dL_law_1138 rfl rfl (by decide) rfl ?_
  refine x_goto (tgt := 18) C dL_law_1141 (by decide) ?_
  refine x_lv [1, 2, 3, 0] rfl ?_
  exact HK18 h (x3 + 6) hf
def fL_law_b184 (N : Nat) (L : Nat) (xs : Nat → Int32) (k18 : pH → Int32 → Option (Int32 × pH)) (h : pH) (x3 : Int32) : Option (Int32 × pH) :=
  if ix (x3 + 1) L = true then (if ix (x3 + 2) L = true then ((fX8_type N h (xs (x3 + 1).toNatClampNeg) (xs (x3 + 2).toNatClampNeg)).bind fun z1 => (if ix (x3 + 1) L = true then (if ix (x3 + 2) L = true then ((fX9_type N z1.2 (xs (x3 + 1).toNatClampNeg) (xs (x3 + 2).toNatClampNeg)).bind fun z2 => (if z1.1 = z2.1 then (fL_law_b1138 N L xs k18 z2.2 x3) else (some (0, z2.2)))) else none) else none)) else none) else none
set_option maxRecDepth 100000 in
set_option maxHeartbeats 4000000 in
theorem tL_law_b184 {X : Xt} {v : Int32} {h' : pH} (N : Nat) {b : Nat} (L : Nat) (xs : Nat → Int32) (hX : Sx X b L xs) (k18 : pH → Int32 → Option (Int32 × pH)) (HK18 : ∀ (h : pH) (x3 : Int32), k18 h x3 = some (v, h') → Wx X 4 18 [(0, .ref b), (1, rf (qo X) 1), (2, rf (qo X) 49), (3, .int x3)] [] h) (h : pH) (x3 : Int32) (B : Bd (lo X) (qo X) cL_law RL 4 (some .boolean) 8 186 (some (.int v)) h' X) (hf : fL_law_b184 N L xs k18 h x3 = some (v, h')) : Wx X 4 184 [(0, .ref b), (1, rf (qo X) 1), (2, rf (qo X) 49), (3, .int x3)] [] h := by
  have C := B.1
  unfold fL_law_b184 at hf
  refine x_aload_n (i := 1) 1 C dL_law_184 rfl rfl ?_
  refine x_aload_nS (i := 0) 0 C dL_law_185 rfl rfl ?_
  refine x_iload_n (i := 3) 3 C dL_law_186 rfl rfl ?_
  refine x_iconst (v := 1) C dL_law_187 (by decide) ?_
  refine x_iadd C dL_law_188 ?_
  obtain ⟨g1, hf⟩ := ife hf
  refine x_sld C hX dL_law_189 g1 ?_
  refine x_aload_nS (i := 0) 0 C dL_law_190 rfl rfl ?_
  refine x_iload_n (i := 3) 3 C dL_law_191 rfl rfl ?_
  refine x_iconst (v := 2) C dL_law_192 (by decide) ?_
  refine x_iadd C dL_law_193 ?_
  obtain ⟨g2, hf⟩ := ife hf
  refine x_sld C hX dL_law_194 g2 ?_
  obtain ⟨z1, e1, hf⟩ := bnd hf
  refine x_callV (r := 1) (As := [.int (xs (x3 + 1).toNatClampNeg), .int (xs (x3 + 2).toNatClampNeg)]) (rest := []) C dL_law_195 kmL_13 miX8_type (ctX8_type (lo X) (qo X) N h (xs (x3 + 1).toNatClampNeg) (xs (x3 + 2).toNatClampNeg) z1.1 z1.2 e1) rfl rfl ⟨Nat.le_trans (by decide) B.2.2.2.1, Nat.le_trans (by decide) B.2.2.2.2.1⟩ (by simp [cat_i, cat_l, rf_cat]) rfl ?_
  refine x_aload_n (i := 2) 2 C dL_law_198 rfl rfl ?_
  refine x_aload_nS (i := 0) 0 C dL_law_199 rfl rfl ?_
  refine x_iload_n (i := 3) 3 C dL_law_200 rfl rfl ?_
  refine x_iconst (v := 1) C dL_law_201 (by decide) ?_
  refine x_iadd C dL_law_202 ?_
  obtain ⟨g3, hf⟩ := ife hf
  refine x_sld C hX dL_law_203 g3 ?_
  refine x_aload_nS (i := 0) 0 C dL_law_204 rfl rfl ?_
  refine x_iload_n (i := 3) 3 C dL_law_205 rfl rfl ?_
  refine x_iconst (v := 2) C dL_law_206 (by decide) ?_
  refine x_iadd C dL_law_207 ?_
  obtain ⟨g4, hf⟩ := ife hf
  refine x_sld C hX dL_law_208 g4 ?_
  obtain ⟨z2, e2, hf⟩ := bnd hf
  refine x_callV (r := 49) (As := [.int (xs (x3 + 1).toNatClampNeg), .int (xs (x3 + 2).toNatClampNeg)]) (rest := [.int z1.1]) C dL_law_209 kmL_17 miX9_type (ctX9_type (lo X) (qo X) N z1.2 (xs (x3 + 1).toNatClampNeg) (xs (x3 + 2).toNatClampNeg) z2.1 z2.2 e2) rfl rfl ⟨Nat.le_trans (by decide) B.2.2.2.1, Nat.le_trans (by decide) B.2.2.2.2.1⟩ (by simp [cat_i, cat_l, rf_cat]) rfl ?_
  refine x_icmp_eq (tgt := 1138) C dL_law_212 (by decide) (fun c => ?_) (fun c => ?_)
  · rw [if_pos c] at hf
    exact tL_law_b1138 N L xs hX k18 HK18 z2.2 x3 B hf
  · rw [if_neg c] at hf
    refine x_iconst (v := 0) C dL_law_215 (by decide) ?_
    obtain ⟨rfl, rfl⟩ := rtn hf
    exact B.2.2.2.2.2.1 _ _ rfl rfl (nrB (Or.inl rfl)) _ _ dL_law_216
def fL_law_b217 (N : Nat) (L : Nat) (xs : Nat → Int32) (k18 : pH → Int32 → Option (Int32 × pH)) (h : pH) (x3 : Int32) : Option (Int32 × pH) :=
  if ix (x3 + 1) L = true then ((fX8_wipe N h (xs (x3 + 1).toNatClampNeg)).bind fun z1 => (if ix (x3 + 1) L = true then ((fX9_wipe N z1.2 (xs (x3 + 1).toNatClampNeg)).bind fun z2 => (if z1.1 = z2.1 then (fL_law_b1138 N L xs k18 z2.2 x3) else (some (0, z2.2)))) else none)) else none
set_option maxRecDepth 100000 in
set_option maxHeartbeats 4000000 in
theorem tL_law_b217 {X : Xt} {v : Int32} {h' : pH} (N : Nat) {b : Nat} (L : Nat) (xs : Nat → Int32) (hX : Sx X b L xs) (k18 : pH → Int32 → Option (Int32 × pH)) (HK18 : ∀ (h : pH) (x3 : Int32), k18 h x3 = some (v, h') → Wx X 4 18 [(0, .ref b), (1, rf (qo X) 1), (2, rf (qo X) 49), (3, .int x3)] [] h) (h : pH) (x3 : Int32) (B : Bd (lo X) (qo X) cL_law RL 4 (some .boolean) 8 186 (some (.int v)) h' X) (hf : fL_law_b217 N L xs k18 h x3 = some (v, h')) : Wx X 4 217 [(0, .ref b), (1, rf (qo X) 1), (2, rf (qo X) 49), (3, .int x3)] [] h := by
  have C := B.1
  unfold fL_law_b217 at hf
  refine x_aload_n (i := 1) 1 C dL_law_217 rfl rfl ?_
  refine x_aload_nS (i := 0) 0 C dL_law_218 rfl rfl ?_
  refine x_iload_n (i := 3) 3 C dL_law_219 rfl rfl ?_
  refine x_iconst (v := 1) C dL_law_220 (by decide) ?_
  refine x_iadd C dL_law_221 ?_
  obtain ⟨g1, hf⟩ := ife hf
  refine x_sld C hX dL_law_222 g1 ?_
  obtain ⟨z1, e1, hf⟩ := bnd hf
  refine x_callV (r := 1) (As := [.int (xs (x3 + 1).toNatClampNeg)]) (rest := []) C dL_law_223 kmL_18 miX8_wipe (ctX8_wipe (lo X) (qo X) N h (xs (x3 + 1).toNatClampNeg) z1.1 z1.2 e1) rfl rfl ⟨Nat.le_trans (by decide) B.2.2.2.1, Nat.le_trans (by decide) B.2.2.2.2.1⟩ (by simp [cat_i, cat_l, rf_cat]) rfl ?_
  refine x_aload_n (i := 2) 2 C dL_law_226 rfl rfl ?_
  refine x_aload_nS (i := 0) 0 C dL_law_227 rfl rfl ?_
  refine x_iload_n (i := 3) 3 C dL_law_228 rfl rfl ?_
  refine x_iconst (v := 1) C dL_law_229 (by decide) ?_
  refine x_iadd C dL_law_230 ?_
  obtain ⟨g2, hf⟩ := ife hf
  refine x_sld C hX dL_law_231 g2 ?_
  obtain ⟨z2, e2, hf⟩ := bnd hf
  refine x_callV (r := 49) (As := [.int (xs (x3 + 1).toNatClampNeg)]) (rest := [.int z1.1]) C dL_law_232 kmL_22 miX9_wipe (ctX9_wipe (lo X) (qo X) N z1.2 (xs (x3 + 1).toNatClampNeg) z2.1 z2.2 e2) rfl rfl ⟨Nat.le_trans (by decide) B.2.2.2.1, Nat.le_trans (by decide) B.2.2.2.2.1⟩ (by simp [cat_i, cat_l, rf_cat]) rfl ?_
  refine x_icmp_eq (tgt := 1138) C dL_law_235 (by decide) (fun c => ?_) (fun c => ?_)
  · rw [if_pos c] at hf
    exact tL_law_b1138 N L xs hX k18 HK18 z2.2 x3 B hf
  · rw [if_neg c] at hf
    refine x_iconst (v := 0) C dL_law_238 (by decide) ?_
    obtain ⟨rfl, rfl⟩ := rtn hf
    exact B.2.2.2.2.2.1 _ _ rfl rfl (nrB (Or.inl rfl)) _ _ dL_law_239
def fL_law_b240 (N : Nat) (L : Nat) (xs : Nat → Int32) (k18 : pH → Int32 → Option (Int32 × pH)) (h : pH) (x3 : Int32) : Option (Int32 × pH) :=
  if ix (x3 + 1) L = true then ((fX8_undo N h (xs (x3 + 1).toNatClampNeg)).bind fun z1 => (if ix (x3 + 1) L = true then ((fX9_undo N z1.2 (xs (x3 + 1).toNatClampNeg)).bind fun z2 => (if z1.1 = z2.1 then (fL_law_b1138 N L xs k18 z2.2 x3) else (some (0, z2.2)))) else none)) else none
set_option maxRecDepth 100000 in
set_option maxHeartbeats 4000000 in
theorem tL_law_b240 {X : Xt} {v : Int32} {h' : pH} (N : Nat) {b : Nat} (L : Nat) (xs : Nat → Int32) (hX : Sx X b L xs) (k18 : pH → Int32 → Option (Int32 × pH)) (HK18 : ∀ (h : pH) (x3 : Int32), k18 h x3 = some (v, h') → Wx X 4 18 [(0, .ref b), (1, rf (qo X) 1), (2, rf (qo X) 49), (3, .int x3)] [] h) (h : pH) (x3 : Int32) (B : Bd (lo X) (qo X) cL_law RL 4 (some .boolean) 8 186 (some (.int v)) h' X) (hf : fL_law_b240 N L xs k18 h x3 = some (v, h')) : Wx X 4 240 [(0, .ref b), (1, rf (qo X) 1), (2, rf (qo X) 49), (3, .int x3)] [] h := by
  have C := B.1
  unfold fL_law_b240 at hf
  refine x_aload_n (i := 1) 1 C dL_law_240 rfl rfl ?_
  refine x_aload_nS (i := 0) 0 C dL_law_241 rfl rfl ?_
  refine x_iload_n (i := 3) 3 C dL_law_242 rfl rfl ?_
  refine x_iconst (v := 1) C dL_law_243 (by decide) ?_
  refine x_iadd C dL_law_244 ?_
  obtain ⟨g1, hf⟩ := ife hf
  refine x_sld C hX dL_law_245 g1 ?_
  obtain ⟨z1, e1, hf⟩ := bnd hf
  refine x_callV (r := 1) (As := [.int (xs (x3 + 1).toNatClampNeg)]) (rest := []) C dL_law_246 kmL_23 miX8_undo (ctX8_undo (lo X) (qo X) N h (xs (x3 + 1).toNatClampNeg) z1.1 z1.2 e1) rfl rfl ⟨Nat.le_trans (by decide) B.2.2.2.1, Nat.le_trans (by decide) B.2.2.2.2.1⟩ (by simp [cat_i, cat_l, rf_cat]) rfl ?_
  refine x_aload_n (i := 2) 2 C dL_law_249 rfl rfl ?_
  refine x_aload_nS (i := 0) 0 C dL_law_250 rfl rfl ?_
  refine x_iload_n (i := 3) 3 C dL_law_251 rfl rfl ?_
  refine x_iconst (v := 1) C dL_law_252 (by decide) ?_
  refine x_iadd C dL_law_253 ?_
  obtain ⟨g2, hf⟩ := ife hf
  refine x_sld C hX dL_law_254 g2 ?_
  obtain ⟨z2, e2, hf⟩ := bnd hf
  refine x_callV (r := 49) (As := [.int (xs (x3 + 1).toNatClampNeg)]) (rest := [.int z1.1]) C dL_law_255 kmL_26 miX9_undo (ctX9_undo (lo X) (qo X) N z1.2 (xs (x3 + 1).toNatClampNeg) z2.1 z2.2 e2) rfl rfl ⟨Nat.le_trans (by decide) B.2.2.2.1, Nat.le_trans (by decide) B.2.2.2.2.1⟩ (by simp [cat_i, cat_l, rf_cat]) rfl ?_
  refine x_icmp_eq (tgt := 1138) C dL_law_258 (by decide) (fun c => ?_) (fun c => ?_)
  · rw [if_pos c] at hf
    exact tL_law_b1138 N L xs hX k18 HK18 z2.2 x3 B hf
  · rw [if_neg c] at hf
    refine x_iconst (v := 0) C dL_law_261 (by decide) ?_
    obtain ⟨rfl, rfl⟩ := rtn hf
    exact B.2.2.2.2.2.1 _ _ rfl rfl (nrB (Or.inl rfl)) _ _ dL_law_262
def fL_law_b263 (N : Nat) (L : Nat) (xs : Nat → Int32) (k18 : pH → Int32 → Option (Int32 × pH)) (h : pH) (x3 : Int32) : Option (Int32 × pH) :=
  if ix (x3 + 1) L = true then ((fX8_fault N h (xs (x3 + 1).toNatClampNeg)).bind fun z1 => (if ix (x3 + 1) L = true then ((fX9_fault N z1.2 (xs (x3 + 1).toNatClampNeg)).bind fun z2 => (if z1.1 = z2.1 then (fL_law_b1138 N L xs k18 z2.2 x3) else (some (0, z2.2)))) else none)) else none
set_option maxRecDepth 100000 in
set_option maxHeartbeats 4000000 in
theorem tL_law_b263 {X : Xt} {v : Int32} {h' : pH} (N : Nat) {b : Nat} (L : Nat) (xs : Nat → Int32) (hX : Sx X b L xs) (k18 : pH → Int32 → Option (Int32 × pH)) (HK18 : ∀ (h : pH) (x3 : Int32), k18 h x3 = some (v, h') → Wx X 4 18 [(0, .ref b), (1, rf (qo X) 1), (2, rf (qo X) 49), (3, .int x3)] [] h) (h : pH) (x3 : Int32) (B : Bd (lo X) (qo X) cL_law RL 4 (some .boolean) 8 186 (some (.int v)) h' X) (hf : fL_law_b263 N L xs k18 h x3 = some (v, h')) : Wx X 4 263 [(0, .ref b), (1, rf (qo X) 1), (2, rf (qo X) 49), (3, .int x3)] [] h := by
  have C := B.1
  unfold fL_law_b263 at hf
  refine x_aload_n (i := 1) 1 C dL_law_263 rfl rfl ?_
  refine x_aload_nS (i := 0) 0 C dL_law_264 rfl rfl ?_
  refine x_iload_n (i := 3) 3 C dL_law_265 rfl rfl ?_
  refine x_iconst (v := 1) C dL_law_266 (by decide) ?_
  refine x_iadd C dL_law_267 ?_
  obtain ⟨g1, hf⟩ := ife hf
  refine x_sld C hX dL_law_268 g1 ?_
  obtain ⟨z1, e1, hf⟩ := bnd hf
  refine x_callV (r := 1) (As := [.int (xs (x3 + 1).toNatClampNeg)]) (rest := []) C dL_law_269 kmL_27 miX8_fault (ctX8_fault (lo X) (qo X) N h (xs (x3 + 1).toNatClampNeg) z1.1 z1.2 e1) rfl rfl ⟨Nat.le_trans (by decide) B.2.2.2.1, Nat.le_trans (by decide) B.2.2.2.2.1⟩ (by simp [cat_i, cat_l, rf_cat]) rfl ?_
  refine x_aload_n (i := 2) 2 C dL_law_272 rfl rfl ?_
  refine x_aload_nS (i := 0) 0 C dL_law_273 rfl rfl ?_
  refine x_iload_n (i := 3) 3 C dL_law_274 rfl rfl ?_
  refine x_iconst (v := 1) C dL_law_275 (by decide) ?_
  refine x_iadd C dL_law_276 ?_
  obtain ⟨g2, hf⟩ := ife hf
  refine x_sld C hX dL_law_277 g2 ?_
  obtain ⟨z2, e2, hf⟩ := bnd hf
  refine x_callV (r := 49) (As := [.int (xs (x3 + 1).toNatClampNeg)]) (rest := [.int z1.1]) C dL_law_278 kmL_30 miX9_fault (ctX9_fault (lo X) (qo X) N z1.2 (xs (x3 + 1).toNatClampNeg) z2.1 z2.2 e2) rfl rfl ⟨Nat.le_trans (by decide) B.2.2.2.1, Nat.le_trans (by decide) B.2.2.2.2.1⟩ (by simp [cat_i, cat_l, rf_cat]) rfl ?_
  refine x_icmp_eq (tgt := 1138) C dL_law_281 (by decide) (fun c => ?_) (fun c => ?_)
  · rw [if_pos c] at hf
    exact tL_law_b1138 N L xs hX k18 HK18 z2.2 x3 B hf
  · rw [if_neg c] at hf
    refine x_iconst (v := 0) C dL_law_284 (by decide) ?_
    obtain ⟨rfl, rfl⟩ := rtn hf
    exact B.2.2.2.2.2.1 _ _ rfl rfl (nrB (Or.inl rfl)) _ _ dL_law_285
def fL_law_b286 (N : Nat) (L : Nat) (xs : Nat → Int32) (k18 : pH → Int32 → Option (Int32 × pH)) (h : pH) (x3 : Int32) : Option (Int32 × pH) :=
  if ix (x3 + 1) L = true then ((fX8_plank N h (xs (x3 + 1).toNatClampNeg)).bind fun z1 => (if ix (x3 + 1) L = true then ((fX9_plank N z1.2 (xs (x3 + 1).toNatClampNeg)).bind fun z2 => (if z1.1 = z2.1 then (fL_law_b1138 N L xs k18 z2.2 x3) else (some (0, z2.2)))) else none)) else none
set_option maxRecDepth 100000 in
set_option maxHeartbeats 4000000 in
theorem tL_law_b286 {X : Xt} {v : Int32} {h' : pH} (N : Nat) {b : Nat} (L : Nat) (xs : Nat → Int32) (hX : Sx X b L xs) (k18 : pH → Int32 → Option (Int32 × pH)) (HK18 : ∀ (h : pH) (x3 : Int32), k18 h x3 = some (v, h') → Wx X 4 18 [(0, .ref b), (1, rf (qo X) 1), (2, rf (qo X) 49), (3, .int x3)] [] h) (h : pH) (x3 : Int32) (B : Bd (lo X) (qo X) cL_law RL 4 (some .boolean) 8 186 (some (.int v)) h' X) (hf : fL_law_b286 N L xs k18 h x3 = some (v, h')) : Wx X 4 286 [(0, .ref b), (1, rf (qo X) 1), (2, rf (qo X) 49), (3, .int x3)] [] h := by
  have C := B.1
  unfold fL_law_b286 at hf
  refine x_aload_n (i := 1) 1 C dL_law_286 rfl rfl ?_
  refine x_aload_nS (i := 0) 0 C dL_law_287 rfl rfl ?_
  refine x_iload_n (i := 3) 3 C dL_law_288 rfl rfl ?_
  refine x_iconst (v := 1) C dL_law_289 (by decide) ?_
  refine x_iadd C dL_law_290 ?_
  obtain ⟨g1, hf⟩ := ife hf
  refine x_sld C hX dL_law_291 g1 ?_
  obtain ⟨z1, e1, hf⟩ := bnd hf
  refine x_callV (r := 1) (As := [.int (xs (x3 + 1).toNatClampNeg)]) (rest := []) C dL_law_292 kmL_31 miX8_plank (ctX8_plank (lo X) (qo X) N h (xs (x3 + 1).toNatClampNeg) z1.1 z1.2 e1) rfl rfl ⟨Nat.le_trans (by decide) B.2.2.2.1, Nat.le_trans (by decide) B.2.2.2.2.1⟩ (by simp [cat_i, cat_l, rf_cat]) rfl ?_
  refine x_aload_n (i := 2) 2 C dL_law_295 rfl rfl ?_
  refine x_aload_nS (i := 0) 0 C dL_law_296 rfl rfl ?_
  refine x_iload_n (i := 3) 3 C dL_law_297 rfl rfl ?_
  refine x_iconst (v := 1) C dL_law_298 (by decide) ?_
  refine x_iadd C dL_law_299 ?_
  obtain ⟨g2, hf⟩ := ife hf
  refine x_sld C hX dL_law_300 g2 ?_
  obtain ⟨z2, e2, hf⟩ := bnd hf
  refine x_callV (r := 49) (As := [.int (xs (x3 + 1).toNatClampNeg)]) (rest := [.int z1.1]) C dL_law_301 kmL_34 miX9_plank (ctX9_plank (lo X) (qo X) N z1.2 (xs (x3 + 1).toNatClampNeg) z2.1 z2.2 e2) rfl rfl ⟨Nat.le_trans (by decide) B.2.2.2.1, Nat.le_trans (by decide) B.2.2.2.2.1⟩ (by simp [cat_i, cat_l, rf_cat]) rfl ?_
  refine x_icmp_eq (tgt := 1138) C dL_law_304 (by decide) (fun c => ?_) (fun c => ?_)
  · rw [if_pos c] at hf
    exact tL_law_b1138 N L xs hX k18 HK18 z2.2 x3 B hf
  · rw [if_neg c] at hf
    refine x_iconst (v := 0) C dL_law_307 (by decide) ?_
    obtain ⟨rfl, rfl⟩ := rtn hf
    exact B.2.2.2.2.2.1 _ _ rfl rfl (nrB (Or.inl rfl)) _ _ dL_law_308
def fL_law_b309 (N : Nat) (L : Nat) (xs : Nat → Int32) (k18 : pH → Int32 → Option (Int32 × pH)) (h : pH) (x3 : Int32) : Option (Int32 × pH) :=
  if ix (x3 + 1) L = true then (if ix (x3 + 2) L = true then ((fX8_crosser N h (xs (x3 + 1).toNatClampNeg) (xs (x3 + 2).toNatClampNeg)).bind fun z1 => (if ix (x3 + 1) L = true then (if ix (x3 + 2) L = true then ((fX9_crosser N z1.2 (xs (x3 + 1).toNatClampNeg) (xs (x3 + 2).toNatClampNeg)).bind fun z2 => (if z1.1 = z2.1 then (fL_law_b1138 N L xs k18 z2.2 x3) else (some (0, z2.2)))) else none) else none)) else none) else none
set_option maxRecDepth 100000 in
set_option maxHeartbeats 4000000 in
theorem tL_law_b309 {X : Xt} {v : Int32} {h' : pH} (N : Nat) {b : Nat} (L : Nat) (xs : Nat → Int32) (hX : Sx X b L xs) (k18 : pH → Int32 → Option (Int32 × pH)) (HK18 : ∀ (h : pH) (x3 : Int32), k18 h x3 = some (v, h') → Wx X 4 18 [(0, .ref b), (1, rf (qo X) 1), (2, rf (qo X) 49), (3, .int x3)] [] h) (h : pH) (x3 : Int32) (B : Bd (lo X) (qo X) cL_law RL 4 (some .boolean) 8 186 (some (.int v)) h' X) (hf : fL_law_b309 N L xs k18 h x3 = some (v, h')) : Wx X 4 309 [(0, .ref b), (1, rf (qo X) 1), (2, rf (qo X) 49), (3, .int x3)] [] h := by
  have C := B.1
  unfold fL_law_b309 at hf
  refine x_aload_n (i := 1) 1 C dL_law_309 rfl rfl ?_
  refine x_aload_nS (i := 0) 0 C dL_law_310 rfl rfl ?_
  refine x_iload_n (i := 3) 3 C dL_law_311 rfl rfl ?_
  refine x_iconst (v := 1) C dL_law_312 (by decide) ?_
  refine x_iadd C dL_law_313 ?_
  obtain ⟨g1, hf⟩ := ife hf
  refine x_sld C hX dL_law_314 g1 ?_
  refine x_aload_nS (i := 0) 0 C dL_law_315 rfl rfl ?_
  refine x_iload_n (i := 3) 3 C dL_law_316 rfl rfl ?_
  refine x_iconst (v := 2) C dL_law_317 (by decide) ?_
  refine x_iadd C dL_law_318 ?_
  obtain ⟨g2, hf⟩ := ife hf
  refine x_sld C hX dL_law_319 g2 ?_
  obtain ⟨z1, e1, hf⟩ := bnd hf
  refine x_callV (r := 1) (As := [.int (xs (x3 + 1).toNatClampNeg), .int (xs (x3 + 2).toNatClampNeg)]) (rest := []) C dL_law_320 kmL_35 miX8_crosser (ctX8_crosser (lo X) (qo X) N h (xs (x3 + 1).toNatClampNeg) (xs (x3 + 2).toNatClampNeg) z1.1 z1.2 e1) rfl rfl ⟨Nat.le_trans (by decide) B.2.2.2.1, Nat.le_trans (by decide) B.2.2.2.2.1⟩ (by simp [cat_i, cat_l, rf_cat]) rfl ?_
  refine x_aload_n (i := 2) 2 C dL_law_323 rfl rfl ?_
  refine x_aload_nS (i := 0) 0 C dL_law_324 rfl rfl ?_
  refine x_iload_n (i := 3) 3 C dL_law_325 rfl rfl ?_
  refine x_iconst (v := 1) C dL_law_326 (by decide) ?_
  refine x_iadd C dL_law_327 ?_
  obtain ⟨g3, hf⟩ := ife hf
  refine x_sld C hX dL_law_328 g3 ?_
  refine x_aload_nS (i := 0) 0 C dL_law_329 rfl rfl ?_
  refine x_iload_n (i := 3) 3 C dL_law_330 rfl rfl ?_
  refine x_iconst (v := 2) C dL_law_331 (by decide) ?_
  refine x_iadd C dL_law_332 ?_
  obtain ⟨g4, hf⟩ := ife hf
  refine x_sld C hX dL_law_333 g4 ?_
  obtain ⟨z2, e2, hf⟩ := bnd hf
  refine x_callV (r := 49) (As := [.int (xs (x3 + 1).toNatClampNeg), .int (xs (x3 + 2).toNatClampNeg)]) (rest := [.int z1.1]) C dL_law_334 kmL_38 miX9_crosser (ctX9_crosser (lo X) (qo X) N z1.2 (xs (x3 + 1).toNatClampNeg) (xs (x3 + 2).toNatClampNeg) z2.1 z2.2 e2) rfl rfl ⟨Nat.le_trans (by decide) B.2.2.2.1, Nat.le_trans (by decide) B.2.2.2.2.1⟩ (by simp [cat_i, cat_l, rf_cat]) rfl ?_
  refine x_icmp_eq (tgt := 1138) C dL_law_337 (by decide) (fun c => ?_) (fun c => ?_)
  · rw [if_pos c] at hf
    exact tL_law_b1138 N L xs hX k18 HK18 z2.2 x3 B hf
  · rw [if_neg c] at hf
    refine x_iconst (v := 0) C dL_law_340 (by decide) ?_
    obtain ⟨rfl, rfl⟩ := rtn hf
    exact B.2.2.2.2.2.1 _ _ rfl rfl (nrB (Or.inl rfl)) _ _ dL_law_341
def fL_law_b342 (N : Nat) (L : Nat) (xs : Nat → Int32) (k18 : pH → Int32 → Option (Int32 × pH)) (h : pH) (x3 : Int32) : Option (Int32 × pH) :=
  if ix (x3 + 1) L = true then ((fX8_crossing N h (xs (x3 + 1).toNatClampNeg)).bind fun z1 => (if ix (x3 + 1) L = true then ((fX9_crossing N z1.2 (xs (x3 + 1).toNatClampNeg)).bind fun z2 => (if z1.1 = z2.1 then (fL_law_b1138 N L xs k18 z2.2 x3) else (some (0, z2.2)))) else none)) else none
set_option maxRecDepth 100000 in
set_option maxHeartbeats 4000000 in
theorem tL_law_b342 {X : Xt} {v : Int32} {h' : pH} (N : Nat) {b : Nat} (L : Nat) (xs : Nat → Int32) (hX : Sx X b L xs) (k18 : pH → Int32 → Option (Int32 × pH)) (HK18 : ∀ (h : pH) (x3 : Int32), k18 h x3 = some (v, h') → Wx X 4 18 [(0, .ref b), (1, rf (qo X) 1), (2, rf (qo X) 49), (3, .int x3)] [] h) (h : pH) (x3 : Int32) (B : Bd (lo X) (qo X) cL_law RL 4 (some .boolean) 8 186 (some (.int v)) h' X) (hf : fL_law_b342 N L xs k18 h x3 = some (v, h')) : Wx X 4 342 [(0, .ref b), (1, rf (qo X) 1), (2, rf (qo X) 49), (3, .int x3)] [] h := by
  have C := B.1
  unfold fL_law_b342 at hf
  refine x_aload_n (i := 1) 1 C dL_law_342 rfl rfl ?_
  refine x_aload_nS (i := 0) 0 C dL_law_343 rfl rfl ?_
  refine x_iload_n (i := 3) 3 C dL_law_344 rfl rfl ?_
  refine x_iconst (v := 1) C dL_law_345 (by decide) ?_
  refine x_iadd C dL_law_346 ?_
  obtain ⟨g1, hf⟩ := ife hf
  refine x_sld C hX dL_law_347 g1 ?_
  obtain ⟨z1, e1, hf⟩ := bnd hf
  refine x_callV (r := 1) (As := [.int (xs (x3 + 1).toNatClampNeg)]) (rest := []) C dL_law_348 kmL_39 miX8_crossing (ctX8_crossing (lo X) (qo X) N h (xs (x3 + 1).toNatClampNeg) z1.1 z1.2 e1) rfl rfl ⟨Nat.le_trans (by decide) B.2.2.2.1, Nat.le_trans (by decide) B.2.2.2.2.1⟩ (by simp [cat_i, cat_l, rf_cat]) rfl ?_
  refine x_aload_n (i := 2) 2 C dL_law_351 rfl rfl ?_
  refine x_aload_nS (i := 0) 0 C dL_law_352 rfl rfl ?_
  refine x_iload_n (i := 3) 3 C dL_law_353 rfl rfl ?_
  refine x_iconst (v := 1) C dL_law_354 (by decide) ?_
  refine x_iadd C dL_law_355 ?_
  obtain ⟨g2, hf⟩ := ife hf
  refine x_sld C hX dL_law_356 g2 ?_
  obtain ⟨z2, e2, hf⟩ := bnd hf
  refine x_callV (r := 49) (As := [.int (xs (x3 + 1).toNatClampNeg)]) (rest := [.int z1.1]) C dL_law_357 kmL_42 miX9_crossing (ctX9_crossing (lo X) (qo X) N z1.2 (xs (x3 + 1).toNatClampNeg) z2.1 z2.2 e2) rfl rfl ⟨Nat.le_trans (by decide) B.2.2.2.1, Nat.le_trans (by decide) B.2.2.2.2.1⟩ (by simp [cat_i, cat_l, rf_cat]) rfl ?_
  refine x_icmp_eq (tgt := 1138) C dL_law_360 (by decide) (fun c => ?_) (fun c => ?_)
  · rw [if_pos c] at hf
    exact tL_law_b1138 N L xs hX k18 HK18 z2.2 x3 B hf
  · rw [if_neg c] at hf
    refine x_iconst (v := 0) C dL_law_363 (by decide) ?_
    obtain ⟨rfl, rfl⟩ := rtn hf
    exact B.2.2.2.2.2.1 _ _ rfl rfl (nrB (Or.inl rfl)) _ _ dL_law_364
def fL_law_b365 (N : Nat) (L : Nat) (xs : Nat → Int32) (k18 : pH → Int32 → Option (Int32 × pH)) (h : pH) (x3 : Int32) : Option (Int32 × pH) :=
  if ix (x3 + 1) L = true then (if ix (x3 + 2) L = true then ((fX8_set N h (xs (x3 + 1).toNatClampNeg) (xs (x3 + 2).toNatClampNeg)).bind fun z1 => (if ix (x3 + 1) L = true then (if ix (x3 + 2) L = true then ((fX9_set N z1.2 (xs (x3 + 1).toNatClampNeg) (xs (x3 + 2).toNatClampNeg)).bind fun z2 => (if z1.1 = z2.1 then (fL_law_b1138 N L xs k18 z2.2 x3) else (some (0, z2.2)))) else none) else none)) else none) else none
set_option maxRecDepth 100000 in
set_option maxHeartbeats 4000000 in
theorem tL_law_b365 {X : Xt} {v : Int32} {h' : pH} (N : Nat) {b : Nat} (L : Nat) (xs : Nat → Int32) (hX : Sx X b L xs) (k18 : pH → Int32 → Option (Int32 × pH)) (HK18 : ∀ (h : pH) (x3 : Int32), k18 h x3 = some (v, h') → Wx X 4 18 [(0, .ref b), (1, rf (qo X) 1), (2, rf (qo X) 49), (3, .int x3)] [] h) (h : pH) (x3 : Int32) (B : Bd (lo X) (qo X) cL_law RL 4 (some .boolean) 8 186 (some (.int v)) h' X) (hf : fL_law_b365 N L xs k18 h x3 = some (v, h')) : Wx X 4 365 [(0, .ref b), (1, rf (qo X) 1), (2, rf (qo X) 49), (3, .int x3)] [] h := by
  have C := B.1
  unfold fL_law_b365 at hf
  refine x_aload_n (i := 1) 1 C dL_law_365 rfl rfl ?_
  refine x_aload_nS (i := 0) 0 C dL_law_366 rfl rfl ?_
  refine x_iload_n (i := 3) 3 C dL_law_367 rfl rfl ?_
  refine x_iconst (v := 1) C dL_law_368 (by decide) ?_
  refine x_iadd C dL_law_369 ?_
  obtain ⟨g1, hf⟩ := ife hf
  refine x_sld C hX dL_law_370 g1 ?_
  refine x_aload_nS (i := 0) 0 C dL_law_371 rfl rfl ?_
  refine x_iload_n (i := 3) 3 C dL_law_372 rfl rfl ?_
  refine x_iconst (v := 2) C dL_law_373 (by decide) ?_
  refine x_iadd C dL_law_374 ?_
  obtain ⟨g2, hf⟩ := ife hf
  refine x_sld C hX dL_law_375 g2 ?_
  obtain ⟨z1, e1, hf⟩ := bnd hf
  refine x_callV (r := 1) (As := [.int (xs (x3 + 1).toNatClampNeg), .int (xs (x3 + 2).toNatClampNeg)]) (rest := []) C dL_law_376 kmL_43 miX8_set (ctX8_set (lo X) (qo X) N h (xs (x3 + 1).toNatClampNeg) (xs (x3 + 2).toNatClampNeg) z1.1 z1.2 e1) rfl rfl ⟨Nat.le_trans (by decide) B.2.2.2.1, Nat.le_trans (by decide) B.2.2.2.2.1⟩ (by simp [cat_i, cat_l, rf_cat]) rfl ?_
  refine x_aload_n (i := 2) 2 C dL_law_379 rfl rfl ?_
  refine x_aload_nS (i := 0) 0 C dL_law_380 rfl rfl ?_
  refine x_iload_n (i := 3) 3 C dL_law_381 rfl rfl ?_
  refine x_iconst (v := 1) C dL_law_382 (by decide) ?_
  refine x_iadd C dL_law_383 ?_
  obtain ⟨g3, hf⟩ := ife hf
  refine x_sld C hX dL_law_384 g3 ?_
  refine x_aload_nS (i := 0) 0 C dL_law_385 rfl rfl ?_
  refine x_iload_n (i := 3) 3 C dL_law_386 rfl rfl ?_
  refine x_iconst (v := 2) C dL_law_387 (by decide) ?_
  refine x_iadd C dL_law_388 ?_
  obtain ⟨g4, hf⟩ := ife hf
  refine x_sld C hX dL_law_389 g4 ?_
  obtain ⟨z2, e2, hf⟩ := bnd hf
  refine x_callV (r := 49) (As := [.int (xs (x3 + 1).toNatClampNeg), .int (xs (x3 + 2).toNatClampNeg)]) (rest := [.int z1.1]) C dL_law_390 kmL_46 miX9_set (ctX9_set (lo X) (qo X) N z1.2 (xs (x3 + 1).toNatClampNeg) (xs (x3 + 2).toNatClampNeg) z2.1 z2.2 e2) rfl rfl ⟨Nat.le_trans (by decide) B.2.2.2.1, Nat.le_trans (by decide) B.2.2.2.2.1⟩ (by simp [cat_i, cat_l, rf_cat]) rfl ?_
  refine x_icmp_eq (tgt := 1138) C dL_law_393 (by decide) (fun c => ?_) (fun c => ?_)
  · rw [if_pos c] at hf
    exact tL_law_b1138 N L xs hX k18 HK18 z2.2 x3 B hf
  · rw [if_neg c] at hf
    refine x_iconst (v := 0) C dL_law_396 (by decide) ?_
    obtain ⟨rfl, rfl⟩ := rtn hf
    exact B.2.2.2.2.2.1 _ _ rfl rfl (nrB (Or.inl rfl)) _ _ dL_law_397
def fL_law_b398 (N : Nat) (L : Nat) (xs : Nat → Int32) (k18 : pH → Int32 → Option (Int32 × pH)) (h : pH) (x3 : Int32) : Option (Int32 × pH) :=
  if ix (x3 + 1) L = true then (if ix (x3 + 2) L = true then ((fX8_shift N h (xs (x3 + 1).toNatClampNeg) (xs (x3 + 2).toNatClampNeg)).bind fun z1 => (if ix (x3 + 1) L = true then (if ix (x3 + 2) L = true then ((fX9_shift N z1.2 (xs (x3 + 1).toNatClampNeg) (xs (x3 + 2).toNatClampNeg)).bind fun z2 => (if z1.1 = z2.1 then (fL_law_b1138 N L xs k18 z2.2 x3) else (some (0, z2.2)))) else none) else none)) else none) else none
set_option maxRecDepth 100000 in
set_option maxHeartbeats 4000000 in
theorem tL_law_b398 {X : Xt} {v : Int32} {h' : pH} (N : Nat) {b : Nat} (L : Nat) (xs : Nat → Int32) (hX : Sx X b L xs) (k18 : pH → Int32 → Option (Int32 × pH)) (HK18 : ∀ (h : pH) (x3 : Int32), k18 h x3 = some (v, h') → Wx X 4 18 [(0, .ref b), (1, rf (qo X) 1), (2, rf (qo X) 49), (3, .int x3)] [] h) (h : pH) (x3 : Int32) (B : Bd (lo X) (qo X) cL_law RL 4 (some .boolean) 8 186 (some (.int v)) h' X) (hf : fL_law_b398 N L xs k18 h x3 = some (v, h')) : Wx X 4 398 [(0, .ref b), (1, rf (qo X) 1), (2, rf (qo X) 49), (3, .int x3)] [] h := by
  have C := B.1
  unfold fL_law_b398 at hf
  refine x_aload_n (i := 1) 1 C dL_law_398 rfl rfl ?_
  refine x_aload_nS (i := 0) 0 C dL_law_399 rfl rfl ?_
  refine x_iload_n (i := 3) 3 C dL_law_400 rfl rfl ?_
  refine x_iconst (v := 1) C dL_law_401 (by decide) ?_
  refine x_iadd C dL_law_402 ?_
  obtain ⟨g1, hf⟩ := ife hf
  refine x_sld C hX dL_law_403 g1 ?_
  refine x_aload_nS (i := 0) 0 C dL_law_404 rfl rfl ?_
  refine x_iload_n (i := 3) 3 C dL_law_405 rfl rfl ?_
  refine x_iconst (v := 2) C dL_law_406 (by decide) ?_
  refine x_iadd C dL_law_407 ?_
  obtain ⟨g2, hf⟩ := ife hf
  refine x_sld C hX dL_law_408 g2 ?_
  obtain ⟨z1, e1, hf⟩ := bnd hf
  refine x_callV (r := 1) (As := [.int (xs (x3 + 1).toNatClampNeg), .int (xs (x3 + 2).toNatClampNeg)]) (rest := []) C dL_law_409 kmL_47 miX8_shift (ctX8_shift (lo X) (qo X) N h (xs (x3 + 1).toNatClampNeg) (xs (x3 + 2).toNatClampNeg) z1.1 z1.2 e1) rfl rfl ⟨Nat.le_trans (by decide) B.2.2.2.1, Nat.le_trans (by decide) B.2.2.2.2.1⟩ (by simp [cat_i, cat_l, rf_cat]) rfl ?_
  refine x_aload_n (i := 2) 2 C dL_law_412 rfl rfl ?_
  refine x_aload_nS (i := 0) 0 C dL_law_413 rfl rfl ?_
  refine x_iload_n (i := 3) 3 C dL_law_414 rfl rfl ?_
  refine x_iconst (v := 1) C dL_law_415 (by decide) ?_
  refine x_iadd C dL_law_416 ?_
  obtain ⟨g3, hf⟩ := ife hf
  refine x_sld C hX dL_law_417 g3 ?_
  refine x_aload_nS (i := 0) 0 C dL_law_418 rfl rfl ?_
  refine x_iload_n (i := 3) 3 C dL_law_419 rfl rfl ?_
  refine x_iconst (v := 2) C dL_law_420 (by decide) ?_
  refine x_iadd C dL_law_421 ?_
  obtain ⟨g4, hf⟩ := ife hf
  refine x_sld C hX dL_law_422 g4 ?_
  obtain ⟨z2, e2, hf⟩ := bnd hf
  refine x_callV (r := 49) (As := [.int (xs (x3 + 1).toNatClampNeg), .int (xs (x3 + 2).toNatClampNeg)]) (rest := [.int z1.1]) C dL_law_423 kmL_50 miX9_shift (ctX9_shift (lo X) (qo X) N z1.2 (xs (x3 + 1).toNatClampNeg) (xs (x3 + 2).toNatClampNeg) z2.1 z2.2 e2) rfl rfl ⟨Nat.le_trans (by decide) B.2.2.2.1, Nat.le_trans (by decide) B.2.2.2.2.1⟩ (by simp [cat_i, cat_l, rf_cat]) rfl ?_
  refine x_icmp_eq (tgt := 1138) C dL_law_426 (by decide) (fun c => ?_) (fun c => ?_)
  · rw [if_pos c] at hf
    exact tL_law_b1138 N L xs hX k18 HK18 z2.2 x3 B hf
  · rw [if_neg c] at hf
    refine x_iconst (v := 0) C dL_law_429 (by decide) ?_
    obtain ⟨rfl, rfl⟩ := rtn hf
    exact B.2.2.2.2.2.1 _ _ rfl rfl (nrB (Or.inl rfl)) _ _ dL_law_430
def fL_law_b431 (N : Nat) (L : Nat) (xs : Nat → Int32) (k18 : pH → Int32 → Option (Int32 × pH)) (h : pH) (x3 : Int32) : Option (Int32 × pH) :=
  if ix (x3 + 1) L = true then ((fX8_gap N h (xs (x3 + 1).toNatClampNeg)).bind fun z1 => (if ix (x3 + 1) L = true then ((fX9_gap N z1.2 (xs (x3 + 1).toNatClampNeg)).bind fun z2 => (if z1.1 = z2.1 then (fL_law_b1138 N L xs k18 z2.2 x3) else (some (0, z2.2)))) else none)) else none
set_option maxRecDepth 100000 in
set_option maxHeartbeats 4000000 in
theorem tL_law_b431 {X : Xt} {v : Int32} {h' : pH} (N : Nat) {b : Nat} (L : Nat) (xs : Nat → Int32) (hX : Sx X b L xs) (k18 : pH → Int32 → Option (Int32 × pH)) (HK18 : ∀ (h : pH) (x3 : Int32), k18 h x3 = some (v, h') → Wx X 4 18 [(0, .ref b), (1, rf (qo X) 1), (2, rf (qo X) 49), (3, .int x3)] [] h) (h : pH) (x3 : Int32) (B : Bd (lo X) (qo X) cL_law RL 4 (some .boolean) 8 186 (some (.int v)) h' X) (hf : fL_law_b431 N L xs k18 h x3 = some (v, h')) : Wx X 4 431 [(0, .ref b), (1, rf (qo X) 1), (2, rf (qo X) 49), (3, .int x3)] [] h := by
  have C := B.1
  unfold fL_law_b431 at hf
  refine x_aload_n (i := 1) 1 C dL_law_431 rfl rfl ?_
  refine x_aload_nS (i := 0) 0 C dL_law_432 rfl rfl ?_
  refine x_iload_n (i := 3) 3 C dL_law_433 rfl rfl ?_
  refine x_iconst (v := 1) C dL_law_434 (by decide) ?_
  refine x_iadd C dL_law_435 ?_
  obtain ⟨g1, hf⟩ := ife hf
  refine x_sld C hX dL_law_436 g1 ?_
  obtain ⟨z1, e1, hf⟩ := bnd hf
  refine x_callV (r := 1) (As := [.int (xs (x3 + 1).toNatClampNeg)]) (rest := []) C dL_law_437 kmL_51 miX8_gap (ctX8_gap (lo X) (qo X) N h (xs (x3 + 1).toNatClampNeg) z1.1 z1.2 e1) rfl rfl ⟨Nat.le_trans (by decide) B.2.2.2.1, Nat.le_trans (by decide) B.2.2.2.2.1⟩ (by simp [cat_i, cat_l, rf_cat]) rfl ?_
  refine x_aload_n (i := 2) 2 C dL_law_440 rfl rfl ?_
  refine x_aload_nS (i := 0) 0 C dL_law_441 rfl rfl ?_
  refine x_iload_n (i := 3) 3 C dL_law_442 rfl rfl ?_
  refine x_iconst (v := 1) C dL_law_443 (by decide) ?_
  refine x_iadd C dL_law_444 ?_
  obtain ⟨g2, hf⟩ := ife hf
  refine x_sld C hX dL_law_445 g2 ?_
  obtain ⟨z2, e2, hf⟩ := bnd hf
  refine x_callV (r := 49) (As := [.int (xs (x3 + 1).toNatClampNeg)]) (rest := [.int z1.1]) C dL_law_446 kmL_54 miX9_gap (ctX9_gap (lo X) (qo X) N z1.2 (xs (x3 + 1).toNatClampNeg) z2.1 z2.2 e2) rfl rfl ⟨Nat.le_trans (by decide) B.2.2.2.1, Nat.le_trans (by decide) B.2.2.2.2.1⟩ (by simp [cat_i, cat_l, rf_cat]) rfl ?_
  refine x_icmp_eq (tgt := 1138) C dL_law_449 (by decide) (fun c => ?_) (fun c => ?_)
  · rw [if_pos c] at hf
    exact tL_law_b1138 N L xs hX k18 HK18 z2.2 x3 B hf
  · rw [if_neg c] at hf
    refine x_iconst (v := 0) C dL_law_452 (by decide) ?_
    obtain ⟨rfl, rfl⟩ := rtn hf
    exact B.2.2.2.2.2.1 _ _ rfl rfl (nrB (Or.inl rfl)) _ _ dL_law_453
def fL_law_b454 (N : Nat) (L : Nat) (xs : Nat → Int32) (k18 : pH → Int32 → Option (Int32 × pH)) (h : pH) (x3 : Int32) : Option (Int32 × pH) :=
  if ix (x3 + 1) L = true then (if ix (x3 + 2) L = true then ((fX8_comes N h (xs (x3 + 1).toNatClampNeg) (xs (x3 + 2).toNatClampNeg)).bind fun z1 => (if ix (x3 + 1) L = true then (if ix (x3 + 2) L = true then ((fX9_comes N z1.2 (xs (x3 + 1).toNatClampNeg) (xs (x3 + 2).toNatClampNeg)).bind fun z2 => (if z1.1 = z2.1 then (fL_law_b1138 N L xs k18 z2.2 x3) else (some (0, z2.2)))) else none) else none)) else none) else none
set_option maxRecDepth 100000 in
set_option maxHeartbeats 4000000 in
theorem tL_law_b454 {X : Xt} {v : Int32} {h' : pH} (N : Nat) {b : Nat} (L : Nat) (xs : Nat → Int32) (hX : Sx X b L xs) (k18 : pH → Int32 → Option (Int32 × pH)) (HK18 : ∀ (h : pH) (x3 : Int32), k18 h x3 = some (v, h') → Wx X 4 18 [(0, .ref b), (1, rf (qo X) 1), (2, rf (qo X) 49), (3, .int x3)] [] h) (h : pH) (x3 : Int32) (B : Bd (lo X) (qo X) cL_law RL 4 (some .boolean) 8 186 (some (.int v)) h' X) (hf : fL_law_b454 N L xs k18 h x3 = some (v, h')) : Wx X 4 454 [(0, .ref b), (1, rf (qo X) 1), (2, rf (qo X) 49), (3, .int x3)] [] h := by
  have C := B.1
  unfold fL_law_b454 at hf
  refine x_aload_n (i := 1) 1 C dL_law_454 rfl rfl ?_
  refine x_aload_nS (i := 0) 0 C dL_law_455 rfl rfl ?_
  refine x_iload_n (i := 3) 3 C dL_law_456 rfl rfl ?_
  refine x_iconst (v := 1) C dL_law_457 (by decide) ?_
  refine x_iadd C dL_law_458 ?_
  obtain ⟨g1, hf⟩ := ife hf
  refine x_sld C hX dL_law_459 g1 ?_
  refine x_aload_nS (i := 0) 0 C dL_law_460 rfl rfl ?_
  refine x_iload_n (i := 3) 3 C dL_law_461 rfl rfl ?_
  refine x_iconst (v := 2) C dL_law_462 (by decide) ?_
  refine x_iadd C dL_law_463 ?_
  obtain ⟨g2, hf⟩ := ife hf
  refine x_sld C hX dL_law_464 g2 ?_
  obtain ⟨z1, e1, hf⟩ := bnd hf
  refine x_callV (r := 1) (As := [.int (xs (x3 + 1).toNatClampNeg), .int (xs (x3 + 2).toNatClampNeg)]) (rest := []) C dL_law_465 kmL_55 miX8_comes (ctX8_comes (lo X) (qo X) N h (xs (x3 + 1).toNatClampNeg) (xs (x3 + 2).toNatClampNeg) z1.1 z1.2 e1) rfl rfl ⟨Nat.le_trans (by decide) B.2.2.2.1, Nat.le_trans (by decide) B.2.2.2.2.1⟩ (by simp [cat_i, cat_l, rf_cat]) rfl ?_
  refine x_aload_n (i := 2) 2 C dL_law_468 rfl rfl ?_
  refine x_aload_nS (i := 0) 0 C dL_law_469 rfl rfl ?_
  refine x_iload_n (i := 3) 3 C dL_law_470 rfl rfl ?_
  refine x_iconst (v := 1) C dL_law_471 (by decide) ?_
  refine x_iadd C dL_law_472 ?_
  obtain ⟨g3, hf⟩ := ife hf
  refine x_sld C hX dL_law_473 g3 ?_
  refine x_aload_nS (i := 0) 0 C dL_law_474 rfl rfl ?_
  refine x_iload_n (i := 3) 3 C dL_law_475 rfl rfl ?_
  refine x_iconst (v := 2) C dL_law_476 (by decide) ?_
  refine x_iadd C dL_law_477 ?_
  obtain ⟨g4, hf⟩ := ife hf
  refine x_sld C hX dL_law_478 g4 ?_
  obtain ⟨z2, e2, hf⟩ := bnd hf
  refine x_callV (r := 49) (As := [.int (xs (x3 + 1).toNatClampNeg), .int (xs (x3 + 2).toNatClampNeg)]) (rest := [.int z1.1]) C dL_law_479 kmL_58 miX9_comes (ctX9_comes (lo X) (qo X) N z1.2 (xs (x3 + 1).toNatClampNeg) (xs (x3 + 2).toNatClampNeg) z2.1 z2.2 e2) rfl rfl ⟨Nat.le_trans (by decide) B.2.2.2.1, Nat.le_trans (by decide) B.2.2.2.2.1⟩ (by simp [cat_i, cat_l, rf_cat]) rfl ?_
  refine x_icmp_eq (tgt := 1138) C dL_law_482 (by decide) (fun c => ?_) (fun c => ?_)
  · rw [if_pos c] at hf
    exact tL_law_b1138 N L xs hX k18 HK18 z2.2 x3 B hf
  · rw [if_neg c] at hf
    refine x_iconst (v := 0) C dL_law_485 (by decide) ?_
    obtain ⟨rfl, rfl⟩ := rtn hf
    exact B.2.2.2.2.2.1 _ _ rfl rfl (nrB (Or.inl rfl)) _ _ dL_law_486
def fL_law_b487 (N : Nat) (L : Nat) (xs : Nat → Int32) (k18 : pH → Int32 → Option (Int32 × pH)) (h : pH) (x3 : Int32) : Option (Int32 × pH) :=
  if ix (x3 + 1) L = true then (if ix (x3 + 2) L = true then ((fX8_times N h (xs (x3 + 1).toNatClampNeg) (xs (x3 + 2).toNatClampNeg)).bind fun z1 => (if ix (x3 + 1) L = true then (if ix (x3 + 2) L = true then ((fX9_times N z1.2 (xs (x3 + 1).toNatClampNeg) (xs (x3 + 2).toNatClampNeg)).bind fun z2 => (if z1.1 = z2.1 then (fL_law_b1138 N L xs k18 z2.2 x3) else (some (0, z2.2)))) else none) else none)) else none) else none
set_option maxRecDepth 100000 in
set_option maxHeartbeats 4000000 in
theorem tL_law_b487 {X : Xt} {v : Int32} {h' : pH} (N : Nat) {b : Nat} (L : Nat) (xs : Nat → Int32) (hX : Sx X b L xs) (k18 : pH → Int32 → Option (Int32 × pH)) (HK18 : ∀ (h : pH) (x3 : Int32), k18 h x3 = some (v, h') → Wx X 4 18 [(0, .ref b), (1, rf (qo X) 1), (2, rf (qo X) 49), (3, .int x3)] [] h) (h : pH) (x3 : Int32) (B : Bd (lo X) (qo X) cL_law RL 4 (some .boolean) 8 186 (some (.int v)) h' X) (hf : fL_law_b487 N L xs k18 h x3 = some (v, h')) : Wx X 4 487 [(0, .ref b), (1, rf (qo X) 1), (2, rf (qo X) 49), (3, .int x3)] [] h := by
  have C := B.1
  unfold fL_law_b487 at hf
  refine x_aload_n (i := 1) 1 C dL_law_487 rfl rfl ?_
  refine x_aload_nS (i := 0) 0 C dL_law_488 rfl rfl ?_
  refine x_iload_n (i := 3) 3 C dL_law_489 rfl rfl ?_
  refine x_iconst (v := 1) C dL_law_490 (by decide) ?_
  refine x_iadd C dL_law_491 ?_
  obtain ⟨g1, hf⟩ := ife hf
  refine x_sld C hX dL_law_492 g1 ?_
  refine x_aload_nS (i := 0) 0 C dL_law_493 rfl rfl ?_
  refine x_iload_n (i := 3) 3 C dL_law_494 rfl rfl ?_
  refine x_iconst (v := 2) C dL_law_495 (by decide) ?_
  refine x_iadd C dL_law_496 ?_
  obtain ⟨g2, hf⟩ := ife hf
  refine x_sld C hX dL_law_497 g2 ?_
  obtain ⟨z1, e1, hf⟩ := bnd hf
  refine x_callV (r := 1) (As := [.int (xs (x3 + 1).toNatClampNeg), .int (xs (x3 + 2).toNatClampNeg)]) (rest := []) C dL_law_498 kmL_59 miX8_times (ctX8_times (lo X) (qo X) N h (xs (x3 + 1).toNatClampNeg) (xs (x3 + 2).toNatClampNeg) z1.1 z1.2 e1) rfl rfl ⟨Nat.le_trans (by decide) B.2.2.2.1, Nat.le_trans (by decide) B.2.2.2.2.1⟩ (by simp [cat_i, cat_l, rf_cat]) rfl ?_
  refine x_aload_n (i := 2) 2 C dL_law_501 rfl rfl ?_
  refine x_aload_nS (i := 0) 0 C dL_law_502 rfl rfl ?_
  refine x_iload_n (i := 3) 3 C dL_law_503 rfl rfl ?_
  refine x_iconst (v := 1) C dL_law_504 (by decide) ?_
  refine x_iadd C dL_law_505 ?_
  obtain ⟨g3, hf⟩ := ife hf
  refine x_sld C hX dL_law_506 g3 ?_
  refine x_aload_nS (i := 0) 0 C dL_law_507 rfl rfl ?_
  refine x_iload_n (i := 3) 3 C dL_law_508 rfl rfl ?_
  refine x_iconst (v := 2) C dL_law_509 (by decide) ?_
  refine x_iadd C dL_law_510 ?_
  obtain ⟨g4, hf⟩ := ife hf
  refine x_sld C hX dL_law_511 g4 ?_
  obtain ⟨z2, e2, hf⟩ := bnd hf
  refine x_callV (r := 49) (As := [.int (xs (x3 + 1).toNatClampNeg), .int (xs (x3 + 2).toNatClampNeg)]) (rest := [.int z1.1]) C dL_law_512 kmL_62 miX9_times (ctX9_times (lo X) (qo X) N z1.2 (xs (x3 + 1).toNatClampNeg) (xs (x3 + 2).toNatClampNeg) z2.1 z2.2 e2) rfl rfl ⟨Nat.le_trans (by decide) B.2.2.2.1, Nat.le_trans (by decide) B.2.2.2.2.1⟩ (by simp [cat_i, cat_l, rf_cat]) rfl ?_
  refine x_icmp_eq (tgt := 1138) C dL_law_515 (by decide) (fun c => ?_) (fun c => ?_)
  · rw [if_pos c] at hf
    exact tL_law_b1138 N L xs hX k18 HK18 z2.2 x3 B hf
  · rw [if_neg c] at hf
    refine x_iconst (v := 0) C dL_law_518 (by decide) ?_
    obtain ⟨rfl, rfl⟩ := rtn hf
    exact B.2.2.2.2.2.1 _ _ rfl rfl (nrB (Or.inl rfl)) _ _ dL_law_519
def fL_law_b520 (N : Nat) (L : Nat) (xs : Nat → Int32) (k18 : pH → Int32 → Option (Int32 × pH)) (h : pH) (x3 : Int32) : Option (Int32 × pH) :=
  if ix (x3 + 1) L = true then ((fX8_taken N h (xs (x3 + 1).toNatClampNeg)).bind fun z1 => (if ix (x3 + 1) L = true then ((fX9_taken N z1.2 (xs (x3 + 1).toNatClampNeg)).bind fun z2 => (if z1.1 = z2.1 then (fL_law_b1138 N L xs k18 z2.2 x3) else (some (0, z2.2)))) else none)) else none
set_option maxRecDepth 100000 in
set_option maxHeartbeats 4000000 in
theorem tL_law_b520 {X : Xt} {v : Int32} {h' : pH} (N : Nat) {b : Nat} (L : Nat) (xs : Nat → Int32) (hX : Sx X b L xs) (k18 : pH → Int32 → Option (Int32 × pH)) (HK18 : ∀ (h : pH) (x3 : Int32), k18 h x3 = some (v, h') → Wx X 4 18 [(0, .ref b), (1, rf (qo X) 1), (2, rf (qo X) 49), (3, .int x3)] [] h) (h : pH) (x3 : Int32) (B : Bd (lo X) (qo X) cL_law RL 4 (some .boolean) 8 186 (some (.int v)) h' X) (hf : fL_law_b520 N L xs k18 h x3 = some (v, h')) : Wx X 4 520 [(0, .ref b), (1, rf (qo X) 1), (2, rf (qo X) 49), (3, .int x3)] [] h := by
  have C := B.1
  unfold fL_law_b520 at hf
  refine x_aload_n (i := 1) 1 C dL_law_520 rfl rfl ?_
  refine x_aload_nS (i := 0) 0 C dL_law_521 rfl rfl ?_
  refine x_iload_n (i := 3) 3 C dL_law_522 rfl rfl ?_
  refine x_iconst (v := 1) C dL_law_523 (by decide) ?_
  refine x_iadd C dL_law_524 ?_
  obtain ⟨g1, hf⟩ := ife hf
  refine x_sld C hX dL_law_525 g1 ?_
  obtain ⟨z1, e1, hf⟩ := bnd hf
  refine x_callV (r := 1) (As := [.int (xs (x3 + 1).toNatClampNeg)]) (rest := []) C dL_law_526 kmL_63 miX8_taken (ctX8_taken (lo X) (qo X) N h (xs (x3 + 1).toNatClampNeg) z1.1 z1.2 e1) rfl rfl ⟨Nat.le_trans (by decide) B.2.2.2.1, Nat.le_trans (by decide) B.2.2.2.2.1⟩ (by simp [cat_i, cat_l, rf_cat]) rfl ?_
  refine x_aload_n (i := 2) 2 C dL_law_529 rfl rfl ?_
  refine x_aload_nS (i := 0) 0 C dL_law_530 rfl rfl ?_
  refine x_iload_n (i := 3) 3 C dL_law_531 rfl rfl ?_
  refine x_iconst (v := 1) C dL_law_532 (by decide) ?_
  refine x_iadd C dL_law_533 ?_
  obtain ⟨g2, hf⟩ := ife hf
  refine x_sld C hX dL_law_534 g2 ?_
  obtain ⟨z2, e2, hf⟩ := bnd hf
  refine x_callV (r := 49) (As := [.int (xs (x3 + 1).toNatClampNeg)]) (rest := [.int z1.1]) C dL_law_535 kmL_66 miX9_taken (ctX9_taken (lo X) (qo X) N z1.2 (xs (x3 + 1).toNatClampNeg) z2.1 z2.2 e2) rfl rfl ⟨Nat.le_trans (by decide) B.2.2.2.1, Nat.le_trans (by decide) B.2.2.2.2.1⟩ (by simp [cat_i, cat_l, rf_cat]) rfl ?_
  refine x_icmp_eq (tgt := 1138) C dL_law_538 (by decide) (fun c => ?_) (fun c => ?_)
  · rw [if_pos c] at hf
    exact tL_law_b1138 N L xs hX k18 HK18 z2.2 x3 B hf
  · rw [if_neg c] at hf
    refine x_iconst (v := 0) C dL_law_541 (by decide) ?_
    obtain ⟨rfl, rfl⟩ := rtn hf
    exact B.2.2.2.2.2.1 _ _ rfl rfl (nrB (Or.inl rfl)) _ _ dL_law_542
def fL_law_b543 (N : Nat) (L : Nat) (xs : Nat → Int32) (k18 : pH → Int32 → Option (Int32 × pH)) (h : pH) (x3 : Int32) : Option (Int32 × pH) :=
  (fX8_stuck N h).bind fun z1 => ((fX9_stuck N z1.2).bind fun z2 => (if z1.1 = z2.1 then (fL_law_b1138 N L xs k18 z2.2 x3) else (some (0, z2.2))))
set_option maxRecDepth 100000 in
set_option maxHeartbeats 4000000 in
theorem tL_law_b543 {X : Xt} {v : Int32} {h' : pH} (N : Nat) {b : Nat} (L : Nat) (xs : Nat → Int32) (hX : Sx X b L xs) (k18 : pH → Int32 → Option (Int32 × pH)) (HK18 : ∀ (h : pH) (x3 : Int32), k18 h x3 = some (v, h') → Wx X 4 18 [(0, .ref b), (1, rf (qo X) 1), (2, rf (qo X) 49), (3, .int x3)] [] h) (h : pH) (x3 : Int32) (B : Bd (lo X) (qo X) cL_law RL 4 (some .boolean) 8 186 (some (.int v)) h' X) (hf : fL_law_b543 N L xs k18 h x3 = some (v, h')) : Wx X 4 543 [(0, .ref b), (1, rf (qo X) 1), (2, rf (qo X) 49), (3, .int x3)] [] h := by
  have C := B.1
  unfold fL_law_b543 at hf
  refine x_aload_n (i := 1) 1 C dL_law_543 rfl rfl ?_
  obtain ⟨z1, e1, hf⟩ := bnd hf
  refine x_callV (r := 1) (As := []) (rest := []) C dL_law_544 kmL_67 miX8_stuck (ctX8_stuck (lo X) (qo X) N h z1.1 z1.2 e1) rfl rfl ⟨Nat.le_trans (by decide) B.2.2.2.1, Nat.le_trans (by decide) B.2.2.2.2.1⟩ (by simp [cat_i, cat_l, rf_cat]) rfl ?_
  refine x_aload_n (i := 2) 2 C dL_law_547 rfl rfl ?_
  obtain ⟨z2, e2, hf⟩ := bnd hf
  refine x_callV (r := 49) (As := []) (rest := [.int z1.1]) C dL_law_548 kmL_71 miX9_stuck (ctX9_stuck (lo X) (qo X) N z1.2 z2.1 z2.2 e2) rfl rfl ⟨Nat.le_trans (by decide) B.2.2.2.1, Nat.le_trans (by decide) B.2.2.2.2.1⟩ (by simp [cat_i, cat_l, rf_cat]) rfl ?_
  refine x_icmp_eq (tgt := 1138) C dL_law_551 (by decide) (fun c => ?_) (fun c => ?_)
  · rw [if_pos c] at hf
    exact tL_law_b1138 N L xs hX k18 HK18 z2.2 x3 B hf
  · rw [if_neg c] at hf
    refine x_iconst (v := 0) C dL_law_554 (by decide) ?_
    obtain ⟨rfl, rfl⟩ := rtn hf
    exact B.2.2.2.2.2.1 _ _ rfl rfl (nrB (Or.inl rfl)) _ _ dL_law_555
def fL_law_b556 (N : Nat) (L : Nat) (xs : Nat → Int32) (k18 : pH → Int32 → Option (Int32 × pH)) (h : pH) (x3 : Int32) : Option (Int32 × pH) :=
  (fX8_worn N h).bind fun z1 => ((fX9_worn N z1.2).bind fun z2 => (if z1.1 = z2.1 then (fL_law_b1138 N L xs k18 z2.2 x3) else (some (0, z2.2))))
set_option maxRecDepth 100000 in
set_option maxHeartbeats 4000000 in
theorem tL_law_b556 {X : Xt} {v : Int32} {h' : pH} (N : Nat) {b : Nat} (L : Nat) (xs : Nat → Int32) (hX : Sx X b L xs) (k18 : pH → Int32 → Option (Int32 × pH)) (HK18 : ∀ (h : pH) (x3 : Int32), k18 h x3 = some (v, h') → Wx X 4 18 [(0, .ref b), (1, rf (qo X) 1), (2, rf (qo X) 49), (3, .int x3)] [] h) (h : pH) (x3 : Int32) (B : Bd (lo X) (qo X) cL_law RL 4 (some .boolean) 8 186 (some (.int v)) h' X) (hf : fL_law_b556 N L xs k18 h x3 = some (v, h')) : Wx X 4 556 [(0, .ref b), (1, rf (qo X) 1), (2, rf (qo X) 49), (3, .int x3)] [] h := by
  have C := B.1
  unfold fL_law_b556 at hf
  refine x_aload_n (i := 1) 1 C dL_law_556 rfl rfl ?_
  obtain ⟨z1, e1, hf⟩ := bnd hf
  refine x_callV (r := 1) (As := []) (rest := []) C dL_law_557 kmL_72 miX8_worn (ctX8_worn (lo X) (qo X) N h z1.1 z1.2 e1) rfl rfl ⟨Nat.le_trans (by decide) B.2.2.2.1, Nat.le_trans (by decide) B.2.2.2.2.1⟩ (by simp [cat_i, cat_l, rf_cat]) rfl ?_
  refine x_aload_n (i := 2) 2 C dL_law_560 rfl rfl ?_
  obtain ⟨z2, e2, hf⟩ := bnd hf
  refine x_callV (r := 49) (As := []) (rest := [.int z1.1]) C dL_law_561 kmL_75 miX9_worn (ctX9_worn (lo X) (qo X) N z1.2 z2.1 z2.2 e2) rfl rfl ⟨Nat.le_trans (by decide) B.2.2.2.1, Nat.le_trans (by decide) B.2.2.2.2.1⟩ (by simp [cat_i, cat_l, rf_cat]) rfl ?_
  refine x_icmp_eq (tgt := 1138) C dL_law_564 (by decide) (fun c => ?_) (fun c => ?_)
  · rw [if_pos c] at hf
    exact tL_law_b1138 N L xs hX k18 HK18 z2.2 x3 B hf
  · rw [if_neg c] at hf
    refine x_iconst (v := 0) C dL_law_567 (by decide) ?_
    obtain ⟨rfl, rfl⟩ := rtn hf
    exact B.2.2.2.2.2.1 _ _ rfl rfl (nrB (Or.inl rfl)) _ _ dL_law_568
def fL_law_b569 (N : Nat) (L : Nat) (xs : Nat → Int32) (k18 : pH → Int32 → Option (Int32 × pH)) (h : pH) (x3 : Int32) : Option (Int32 × pH) :=
  if ix (x3 + 1) L = true then ((fX8_order N h (xs (x3 + 1).toNatClampNeg)).bind fun z1 => (if ix (x3 + 1) L = true then ((fX9_order N z1.2 (xs (x3 + 1).toNatClampNeg)).bind fun z2 => (if z1.1 = z2.1 then (fL_law_b1138 N L xs k18 z2.2 x3) else (some (0, z2.2)))) else none)) else none
set_option maxRecDepth 100000 in
set_option maxHeartbeats 4000000 in
theorem tL_law_b569 {X : Xt} {v : Int32} {h' : pH} (N : Nat) {b : Nat} (L : Nat) (xs : Nat → Int32) (hX : Sx X b L xs) (k18 : pH → Int32 → Option (Int32 × pH)) (HK18 : ∀ (h : pH) (x3 : Int32), k18 h x3 = some (v, h') → Wx X 4 18 [(0, .ref b), (1, rf (qo X) 1), (2, rf (qo X) 49), (3, .int x3)] [] h) (h : pH) (x3 : Int32) (B : Bd (lo X) (qo X) cL_law RL 4 (some .boolean) 8 186 (some (.int v)) h' X) (hf : fL_law_b569 N L xs k18 h x3 = some (v, h')) : Wx X 4 569 [(0, .ref b), (1, rf (qo X) 1), (2, rf (qo X) 49), (3, .int x3)] [] h := by
  have C := B.1
  unfold fL_law_b569 at hf
  refine x_aload_n (i := 1) 1 C dL_law_569 rfl rfl ?_
  refine x_aload_nS (i := 0) 0 C dL_law_570 rfl rfl ?_
  refine x_iload_n (i := 3) 3 C dL_law_571 rfl rfl ?_
  refine x_iconst (v := 1) C dL_law_572 (by decide) ?_
  refine x_iadd C dL_law_573 ?_
  obtain ⟨g1, hf⟩ := ife hf
  refine x_sld C hX dL_law_574 g1 ?_
  obtain ⟨z1, e1, hf⟩ := bnd hf
  refine x_callV (r := 1) (As := [.int (xs (x3 + 1).toNatClampNeg)]) (rest := []) C dL_law_575 kmL_76 miX8_order (ctX8_order (lo X) (qo X) N h (xs (x3 + 1).toNatClampNeg) z1.1 z1.2 e1) rfl rfl ⟨Nat.le_trans (by decide) B.2.2.2.1, Nat.le_trans (by decide) B.2.2.2.2.1⟩ (by simp [cat_i, cat_l, rf_cat]) rfl ?_
  refine x_aload_n (i := 2) 2 C dL_law_578 rfl rfl ?_
  refine x_aload_nS (i := 0) 0 C dL_law_579 rfl rfl ?_
  refine x_iload_n (i := 3) 3 C dL_law_580 rfl rfl ?_
  refine x_iconst (v := 1) C dL_law_581 (by decide) ?_
  refine x_iadd C dL_law_582 ?_
  obtain ⟨g2, hf⟩ := ife hf
  refine x_sld C hX dL_law_583 g2 ?_
  obtain ⟨z2, e2, hf⟩ := bnd hf
  refine x_callV (r := 49) (As := [.int (xs (x3 + 1).toNatClampNeg)]) (rest := [.int z1.1]) C dL_law_584 kmL_79 miX9_order (ctX9_order (lo X) (qo X) N z1.2 (xs (x3 + 1).toNatClampNeg) z2.1 z2.2 e2) rfl rfl ⟨Nat.le_trans (by decide) B.2.2.2.1, Nat.le_trans (by decide) B.2.2.2.2.1⟩ (by simp [cat_i, cat_l, rf_cat]) rfl ?_
  refine x_icmp_eq (tgt := 1138) C dL_law_587 (by decide) (fun c => ?_) (fun c => ?_)
  · rw [if_pos c] at hf
    exact tL_law_b1138 N L xs hX k18 HK18 z2.2 x3 B hf
  · rw [if_neg c] at hf
    refine x_iconst (v := 0) C dL_law_590 (by decide) ?_
    obtain ⟨rfl, rfl⟩ := rtn hf
    exact B.2.2.2.2.2.1 _ _ rfl rfl (nrB (Or.inl rfl)) _ _ dL_law_591
def fL_law_b592 (N : Nat) (L : Nat) (xs : Nat → Int32) (k18 : pH → Int32 → Option (Int32 × pH)) (h : pH) (x3 : Int32) : Option (Int32 × pH) :=
  if ix (x3 + 1) L = true then ((fX8_ahead N h (xs (x3 + 1).toNatClampNeg)).bind fun z1 => (if ix (x3 + 1) L = true then ((fX9_ahead N z1.2 (xs (x3 + 1).toNatClampNeg)).bind fun z2 => (if z1.1 = z2.1 then (fL_law_b1138 N L xs k18 z2.2 x3) else (some (0, z2.2)))) else none)) else none
set_option maxRecDepth 100000 in
set_option maxHeartbeats 4000000 in
theorem tL_law_b592 {X : Xt} {v : Int32} {h' : pH} (N : Nat) {b : Nat} (L : Nat) (xs : Nat → Int32) (hX : Sx X b L xs) (k18 : pH → Int32 → Option (Int32 × pH)) (HK18 : ∀ (h : pH) (x3 : Int32), k18 h x3 = some (v, h') → Wx X 4 18 [(0, .ref b), (1, rf (qo X) 1), (2, rf (qo X) 49), (3, .int x3)] [] h) (h : pH) (x3 : Int32) (B : Bd (lo X) (qo X) cL_law RL 4 (some .boolean) 8 186 (some (.int v)) h' X) (hf : fL_law_b592 N L xs k18 h x3 = some (v, h')) : Wx X 4 592 [(0, .ref b), (1, rf (qo X) 1), (2, rf (qo X) 49), (3, .int x3)] [] h := by
  have C := B.1
  unfold fL_law_b592 at hf
  refine x_aload_n (i := 1) 1 C dL_law_592 rfl rfl ?_
  refine x_aload_nS (i := 0) 0 C dL_law_593 rfl rfl ?_
  refine x_iload_n (i := 3) 3 C dL_law_594 rfl rfl ?_
  refine x_iconst (v := 1) C dL_law_595 (by decide) ?_
  refine x_iadd C dL_law_596 ?_
  obtain ⟨g1, hf⟩ := ife hf
  refine x_sld C hX dL_law_597 g1 ?_
  obtain ⟨z1, e1, hf⟩ := bnd hf
  refine x_callV (r := 1) (As := [.int (xs (x3 + 1).toNatClampNeg)]) (rest := []) C dL_law_598 kmL_80 miX8_ahead (ctX8_ahead (lo X) (qo X) N h (xs (x3 + 1).toNatClampNeg) z1.1 z1.2 e1) rfl rfl ⟨Nat.le_trans (by decide) B.2.2.2.1, Nat.le_trans (by decide) B.2.2.2.2.1⟩ (by simp [cat_i, cat_l, rf_cat]) rfl ?_
  refine x_aload_n (i := 2) 2 C dL_law_601 rfl rfl ?_
  refine x_aload_nS (i := 0) 0 C dL_law_602 rfl rfl ?_
  refine x_iload_n (i := 3) 3 C dL_law_603 rfl rfl ?_
  refine x_iconst (v := 1) C dL_law_604 (by decide) ?_
  refine x_iadd C dL_law_605 ?_
  obtain ⟨g2, hf⟩ := ife hf
  refine x_sld C hX dL_law_606 g2 ?_
  obtain ⟨z2, e2, hf⟩ := bnd hf
  refine x_callV (r := 49) (As := [.int (xs (x3 + 1).toNatClampNeg)]) (rest := [.int z1.1]) C dL_law_607 kmL_83 miX9_ahead (ctX9_ahead (lo X) (qo X) N z1.2 (xs (x3 + 1).toNatClampNeg) z2.1 z2.2 e2) rfl rfl ⟨Nat.le_trans (by decide) B.2.2.2.1, Nat.le_trans (by decide) B.2.2.2.2.1⟩ (by simp [cat_i, cat_l, rf_cat]) rfl ?_
  refine x_icmp_eq (tgt := 1138) C dL_law_610 (by decide) (fun c => ?_) (fun c => ?_)
  · rw [if_pos c] at hf
    exact tL_law_b1138 N L xs hX k18 HK18 z2.2 x3 B hf
  · rw [if_neg c] at hf
    refine x_iconst (v := 0) C dL_law_613 (by decide) ?_
    obtain ⟨rfl, rfl⟩ := rtn hf
    exact B.2.2.2.2.2.1 _ _ rfl rfl (nrB (Or.inl rfl)) _ _ dL_law_614
def fL_law_b615 (N : Nat) (L : Nat) (xs : Nat → Int32) (k18 : pH → Int32 → Option (Int32 × pH)) (h : pH) (x3 : Int32) : Option (Int32 × pH) :=
  if ix (x3 + 1) L = true then (if ix (x3 + 2) L = true then ((fX8_often N h (xs (x3 + 1).toNatClampNeg) (xs (x3 + 2).toNatClampNeg)).bind fun z1 => (if ix (x3 + 1) L = true then (if ix (x3 + 2) L = true then ((fX9_often N z1.2 (xs (x3 + 1).toNatClampNeg) (xs (x3 + 2).toNatClampNeg)).bind fun z2 => (if z1.1 = z2.1 then (fL_law_b1138 N L xs k18 z2.2 x3) else (some (0, z2.2)))) else none) else none)) else none) else none
set_option maxRecDepth 100000 in
set_option maxHeartbeats 4000000 in
theorem tL_law_b615 {X : Xt} {v : Int32} {h' : pH} (N : Nat) {b : Nat} (L : Nat) (xs : Nat → Int32) (hX : Sx X b L xs) (k18 : pH → Int32 → Option (Int32 × pH)) (HK18 : ∀ (h : pH) (x3 : Int32), k18 h x3 = some (v, h') → Wx X 4 18 [(0, .ref b), (1, rf (qo X) 1), (2, rf (qo X) 49), (3, .int x3)] [] h) (h : pH) (x3 : Int32) (B : Bd (lo X) (qo X) cL_law RL 4 (some .boolean) 8 186 (some (.int v)) h' X) (hf : fL_law_b615 N L xs k18 h x3 = some (v, h')) : Wx X 4 615 [(0, .ref b), (1, rf (qo X) 1), (2, rf (qo X) 49), (3, .int x3)] [] h := by
  have C := B.1
  unfold fL_law_b615 at hf
  refine x_aload_n (i := 1) 1 C dL_law_615 rfl rfl ?_
  refine x_aload_nS (i := 0) 0 C dL_law_616 rfl rfl ?_
  refine x_iload_n (i := 3) 3 C dL_law_617 rfl rfl ?_
  refine x_iconst (v := 1) C dL_law_618 (by decide) ?_
  refine x_iadd C dL_law_619 ?_
  obtain ⟨g1, hf⟩ := ife hf
  refine x_sld C hX dL_law_620 g1 ?_
  refine x_aload_nS (i := 0) 0 C dL_law_621 rfl rfl ?_
  refine x_iload_n (i := 3) 3 C dL_law_622 rfl rfl ?_
  refine x_iconst (v := 2) C dL_law_623 (by decide) ?_
  refine x_iadd C dL_law_624 ?_
  obtain ⟨g2, hf⟩ := ife hf
  refine x_sld C hX dL_law_625 g2 ?_
  obtain ⟨z1, e1, hf⟩ := bnd hf
  refine x_callV (r := 1) (As := [.int (xs (x3 + 1).toNatClampNeg), .int (xs (x3 + 2).toNatClampNeg)]) (rest := []) C dL_law_626 kmL_84 miX8_often (ctX8_often (lo X) (qo X) N h (xs (x3 + 1).toNatClampNeg) (xs (x3 + 2).toNatClampNeg) z1.1 z1.2 e1) rfl rfl ⟨Nat.le_trans (by decide) B.2.2.2.1, Nat.le_trans (by decide) B.2.2.2.2.1⟩ (by simp [cat_i, cat_l, rf_cat]) rfl ?_
  refine x_aload_n (i := 2) 2 C dL_law_629 rfl rfl ?_
  refine x_aload_nS (i := 0) 0 C dL_law_630 rfl rfl ?_
  refine x_iload_n (i := 3) 3 C dL_law_631 rfl rfl ?_
  refine x_iconst (v := 1) C dL_law_632 (by decide) ?_
  refine x_iadd C dL_law_633 ?_
  obtain ⟨g3, hf⟩ := ife hf
  refine x_sld C hX dL_law_634 g3 ?_
  refine x_aload_nS (i := 0) 0 C dL_law_635 rfl rfl ?_
  refine x_iload_n (i := 3) 3 C dL_law_636 rfl rfl ?_
  refine x_iconst (v := 2) C dL_law_637 (by decide) ?_
  refine x_iadd C dL_law_638 ?_
  obtain ⟨g4, hf⟩ := ife hf
  refine x_sld C hX dL_law_639 g4 ?_
  obtain ⟨z2, e2, hf⟩ := bnd hf
  refine x_callV (r := 49) (As := [.int (xs (x3 + 1).toNatClampNeg), .int (xs (x3 + 2).toNatClampNeg)]) (rest := [.int z1.1]) C dL_law_640 kmL_87 miX9_often (ctX9_often (lo X) (qo X) N z1.2 (xs (x3 + 1).toNatClampNeg) (xs (x3 + 2).toNatClampNeg) z2.1 z2.2 e2) rfl rfl ⟨Nat.le_trans (by decide) B.2.2.2.1, Nat.le_trans (by decide) B.2.2.2.2.1⟩ (by simp [cat_i, cat_l, rf_cat]) rfl ?_
  refine x_icmp_eq (tgt := 1138) C dL_law_643 (by decide) (fun c => ?_) (fun c => ?_)
  · rw [if_pos c] at hf
    exact tL_law_b1138 N L xs hX k18 HK18 z2.2 x3 B hf
  · rw [if_neg c] at hf
    refine x_iconst (v := 0) C dL_law_646 (by decide) ?_
    obtain ⟨rfl, rfl⟩ := rtn hf
    exact B.2.2.2.2.2.1 _ _ rfl rfl (nrB (Or.inl rfl)) _ _ dL_law_647
def fL_law_b648 (N : Nat) (L : Nat) (xs : Nat → Int32) (k18 : pH → Int32 → Option (Int32 × pH)) (h : pH) (x3 : Int32) : Option (Int32 × pH) :=
  if ix (x3 + 1) L = true then (if ix (x3 + 2) L = true then ((fX8_seen N h (xs (x3 + 1).toNatClampNeg) (xs (x3 + 2).toNatClampNeg)).bind fun z1 => (if ix (x3 + 1) L = true then (if ix (x3 + 2) L = true then ((fX9_seen N z1.2 (xs (x3 + 1).toNatClampNeg) (xs (x3 + 2).toNatClampNeg)).bind fun z2 => (if z1.1 = z2.1 then (fL_law_b1138 N L xs k18 z2.2 x3) else (some (0, z2.2)))) else none) else none)) else none) else none
set_option maxRecDepth 100000 in
set_option maxHeartbeats 4000000 in
theorem tL_law_b648 {X : Xt} {v : Int32} {h' : pH} (N : Nat) {b : Nat} (L : Nat) (xs : Nat → Int32) (hX : Sx X b L xs) (k18 : pH → Int32 → Option (Int32 × pH)) (HK18 : ∀ (h : pH) (x3 : Int32), k18 h x3 = some (v, h') → Wx X 4 18 [(0, .ref b), (1, rf (qo X) 1), (2, rf (qo X) 49), (3, .int x3)] [] h) (h : pH) (x3 : Int32) (B : Bd (lo X) (qo X) cL_law RL 4 (some .boolean) 8 186 (some (.int v)) h' X) (hf : fL_law_b648 N L xs k18 h x3 = some (v, h')) : Wx X 4 648 [(0, .ref b), (1, rf (qo X) 1), (2, rf (qo X) 49), (3, .int x3)] [] h := by
  have C := B.1
  unfold fL_law_b648 at hf
  refine x_aload_n (i := 1) 1 C dL_law_648 rfl rfl ?_
  refine x_aload_nS (i := 0) 0 C dL_law_649 rfl rfl ?_
  refine x_iload_n (i := 3) 3 C dL_law_650 rfl rfl ?_
  refine x_iconst (v := 1) C dL_law_651 (by decide) ?_
  refine x_iadd C dL_law_652 ?_
  obtain ⟨g1, hf⟩ := ife hf
  refine x_sld C hX dL_law_653 g1 ?_
  refine x_aload_nS (i := 0) 0 C dL_law_654 rfl rfl ?_
  refine x_iload_n (i := 3) 3 C dL_law_655 rfl rfl ?_
  refine x_iconst (v := 2) C dL_law_656 (by decide) ?_
  refine x_iadd C dL_law_657 ?_
  obtain ⟨g2, hf⟩ := ife hf
  refine x_sld C hX dL_law_658 g2 ?_
  obtain ⟨z1, e1, hf⟩ := bnd hf
  refine x_callV (r := 1) (As := [.int (xs (x3 + 1).toNatClampNeg), .int (xs (x3 + 2).toNatClampNeg)]) (rest := []) C dL_law_659 kmL_88 miX8_seen (ctX8_seen (lo X) (qo X) N h (xs (x3 + 1).toNatClampNeg) (xs (x3 + 2).toNatClampNeg) z1.1 z1.2 e1) rfl rfl ⟨Nat.le_trans (by decide) B.2.2.2.1, Nat.le_trans (by decide) B.2.2.2.2.1⟩ (by simp [cat_i, cat_l, rf_cat]) rfl ?_
  refine x_aload_n (i := 2) 2 C dL_law_662 rfl rfl ?_
  refine x_aload_nS (i := 0) 0 C dL_law_663 rfl rfl ?_
  refine x_iload_n (i := 3) 3 C dL_law_664 rfl rfl ?_
  refine x_iconst (v := 1) C dL_law_665 (by decide) ?_
  refine x_iadd C dL_law_666 ?_
  obtain ⟨g3, hf⟩ := ife hf
  refine x_sld C hX dL_law_667 g3 ?_
  refine x_aload_nS (i := 0) 0 C dL_law_668 rfl rfl ?_
  refine x_iload_n (i := 3) 3 C dL_law_669 rfl rfl ?_
  refine x_iconst (v := 2) C dL_law_670 (by decide) ?_
  refine x_iadd C dL_law_671 ?_
  obtain ⟨g4, hf⟩ := ife hf
  refine x_sld C hX dL_law_672 g4 ?_
  obtain ⟨z2, e2, hf⟩ := bnd hf
  refine x_callV (r := 49) (As := [.int (xs (x3 + 1).toNatClampNeg), .int (xs (x3 + 2).toNatClampNeg)]) (rest := [.int z1.1]) C dL_law_673 kmL_91 miX9_seen (ctX9_seen (lo X) (qo X) N z1.2 (xs (x3 + 1).toNatClampNeg) (xs (x3 + 2).toNatClampNeg) z2.1 z2.2 e2) rfl rfl ⟨Nat.le_trans (by decide) B.2.2.2.1, Nat.le_trans (by decide) B.2.2.2.2.1⟩ (by simp [cat_i, cat_l, rf_cat]) rfl ?_
  refine x_icmp_eq (tgt := 1138) C dL_law_676 (by decide) (fun c => ?_) (fun c => ?_)
  · rw [if_pos c] at hf
    exact tL_law_b1138 N L xs hX k18 HK18 z2.2 x3 B hf
  · rw [if_neg c] at hf
    refine x_iconst (v := 0) C dL_law_679 (by decide) ?_
    obtain ⟨rfl, rfl⟩ := rtn hf
    exact B.2.2.2.2.2.1 _ _ rfl rfl (nrB (Or.inl rfl)) _ _ dL_law_680
def fL_law_b681 (N : Nat) (L : Nat) (xs : Nat → Int32) (k18 : pH → Int32 → Option (Int32 × pH)) (h : pH) (x3 : Int32) : Option (Int32 × pH) :=
  (fX8_forget N h).bind fun z1 => ((fX9_forget N z1.2).bind fun z2 => (if z1.1 = z2.1 then (fL_law_b1138 N L xs k18 z2.2 x3) else (some (0, z2.2))))
set_option maxRecDepth 100000 in
set_option maxHeartbeats 4000000 in
theorem tL_law_b681 {X : Xt} {v : Int32} {h' : pH} (N : Nat) {b : Nat} (L : Nat) (xs : Nat → Int32) (hX : Sx X b L xs) (k18 : pH → Int32 → Option (Int32 × pH)) (HK18 : ∀ (h : pH) (x3 : Int32), k18 h x3 = some (v, h') → Wx X 4 18 [(0, .ref b), (1, rf (qo X) 1), (2, rf (qo X) 49), (3, .int x3)] [] h) (h : pH) (x3 : Int32) (B : Bd (lo X) (qo X) cL_law RL 4 (some .boolean) 8 186 (some (.int v)) h' X) (hf : fL_law_b681 N L xs k18 h x3 = some (v, h')) : Wx X 4 681 [(0, .ref b), (1, rf (qo X) 1), (2, rf (qo X) 49), (3, .int x3)] [] h := by
  have C := B.1
  unfold fL_law_b681 at hf
  refine x_aload_n (i := 1) 1 C dL_law_681 rfl rfl ?_
  obtain ⟨z1, e1, hf⟩ := bnd hf
  refine x_callV (r := 1) (As := []) (rest := []) C dL_law_682 kmL_92 miX8_forget (ctX8_forget (lo X) (qo X) N h z1.1 z1.2 e1) rfl rfl ⟨Nat.le_trans (by decide) B.2.2.2.1, Nat.le_trans (by decide) B.2.2.2.2.1⟩ (by simp [cat_i, cat_l, rf_cat]) rfl ?_
  refine x_aload_n (i := 2) 2 C dL_law_685 rfl rfl ?_
  obtain ⟨z2, e2, hf⟩ := bnd hf
  refine x_callV (r := 49) (As := []) (rest := [.int z1.1]) C dL_law_686 kmL_95 miX9_forget (ctX9_forget (lo X) (qo X) N z1.2 z2.1 z2.2 e2) rfl rfl ⟨Nat.le_trans (by decide) B.2.2.2.1, Nat.le_trans (by decide) B.2.2.2.2.1⟩ (by simp [cat_i, cat_l, rf_cat]) rfl ?_
  refine x_icmp_eq (tgt := 1138) C dL_law_689 (by decide) (fun c => ?_) (fun c => ?_)
  · rw [if_pos c] at hf
    exact tL_law_b1138 N L xs hX k18 HK18 z2.2 x3 B hf
  · rw [if_neg c] at hf
    refine x_iconst (v := 0) C dL_law_692 (by decide) ?_
    obtain ⟨rfl, rfl⟩ := rtn hf
    exact B.2.2.2.2.2.1 _ _ rfl rfl (nrB (Or.inl rfl)) _ _ dL_law_693
def fL_law_b694 (N : Nat) (L : Nat) (xs : Nat → Int32) (k18 : pH → Int32 → Option (Int32 × pH)) (h : pH) (x3 : Int32) : Option (Int32 × pH) :=
  if ix (x3 + 1) L = true then ((fX8_read N h (xs (x3 + 1).toNatClampNeg)).bind fun z1 => (if ix (x3 + 1) L = true then ((fX9_read N z1.2 (xs (x3 + 1).toNatClampNeg)).bind fun z2 => (if z1.1 = z2.1 then (fL_law_b1138 N L xs k18 z2.2 x3) else (some (0, z2.2)))) else none)) else none
set_option maxRecDepth 100000 in
set_option maxHeartbeats 4000000 in
theorem tL_law_b694 {X : Xt} {v : Int32} {h' : pH} (N : Nat) {b : Nat} (L : Nat) (xs : Nat → Int32) (hX : Sx X b L xs) (k18 : pH → Int32 → Option (Int32 × pH)) (HK18 : ∀ (h : pH) (x3 : Int32), k18 h x3 = some (v, h') → Wx X 4 18 [(0, .ref b), (1, rf (qo X) 1), (2, rf (qo X) 49), (3, .int x3)] [] h) (h : pH) (x3 : Int32) (B : Bd (lo X) (qo X) cL_law RL 4 (some .boolean) 8 186 (some (.int v)) h' X) (hf : fL_law_b694 N L xs k18 h x3 = some (v, h')) : Wx X 4 694 [(0, .ref b), (1, rf (qo X) 1), (2, rf (qo X) 49), (3, .int x3)] [] h := by
  have C := B.1
  unfold fL_law_b694 at hf
  refine x_aload_n (i := 1) 1 C dL_law_694 rfl rfl ?_
  refine x_aload_nS (i := 0) 0 C dL_law_695 rfl rfl ?_
  refine x_iload_n (i := 3) 3 C dL_law_696 rfl rfl ?_
  refine x_iconst (v := 1) C dL_law_697 (by decide) ?_
  refine x_iadd C dL_law_698 ?_
  obtain ⟨g1, hf⟩ := ife hf
  refine x_sld C hX dL_law_699 g1 ?_
  obtain ⟨z1, e1, hf⟩ := bnd hf
  refine x_callV (r := 1) (As := [.int (xs (x3 + 1).toNatClampNeg)]) (rest := []) C dL_law_700 kmL_96 miX8_read (ctX8_read (lo X) (qo X) N h (xs (x3 + 1).toNatClampNeg) z1.1 z1.2 e1) rfl rfl ⟨Nat.le_trans (by decide) B.2.2.2.1, Nat.le_trans (by decide) B.2.2.2.2.1⟩ (by simp [cat_i, cat_l, rf_cat]) rfl ?_
  refine x_aload_n (i := 2) 2 C dL_law_703 rfl rfl ?_
  refine x_aload_nS (i := 0) 0 C dL_law_704 rfl rfl ?_
  refine x_iload_n (i := 3) 3 C dL_law_705 rfl rfl ?_
  refine x_iconst (v := 1) C dL_law_706 (by decide) ?_
  refine x_iadd C dL_law_707 ?_
  obtain ⟨g2, hf⟩ := ife hf
  refine x_sld C hX dL_law_708 g2 ?_
  obtain ⟨z2, e2, hf⟩ := bnd hf
  refine x_callV (r := 49) (As := [.int (xs (x3 + 1).toNatClampNeg)]) (rest := [.int z1.1]) C dL_law_709 kmL_99 miX9_read (ctX9_read (lo X) (qo X) N z1.2 (xs (x3 + 1).toNatClampNeg) z2.1 z2.2 e2) rfl rfl ⟨Nat.le_trans (by decide) B.2.2.2.1, Nat.le_trans (by decide) B.2.2.2.2.1⟩ (by simp [cat_i, cat_l, rf_cat]) rfl ?_
  refine x_icmp_eq (tgt := 1138) C dL_law_712 (by decide) (fun c => ?_) (fun c => ?_)
  · rw [if_pos c] at hf
    exact tL_law_b1138 N L xs hX k18 HK18 z2.2 x3 B hf
  · rw [if_neg c] at hf
    refine x_iconst (v := 0) C dL_law_715 (by decide) ?_
    obtain ⟨rfl, rfl⟩ := rtn hf
    exact B.2.2.2.2.2.1 _ _ rfl rfl (nrB (Or.inl rfl)) _ _ dL_law_716
def fL_law_b717 (N : Nat) (L : Nat) (xs : Nat → Int32) (k18 : pH → Int32 → Option (Int32 × pH)) (h : pH) (x3 : Int32) : Option (Int32 × pH) :=
  if ix (x3 + 1) L = true then ((fX8_rule N h (xs (x3 + 1).toNatClampNeg)).bind fun z1 => (if ix (x3 + 1) L = true then ((fX9_rule N z1.2 (xs (x3 + 1).toNatClampNeg)).bind fun z2 => (if z1.1 = z2.1 then (fL_law_b1138 N L xs k18 z2.2 x3) else (some (0, z2.2)))) else none)) else none
set_option maxRecDepth 100000 in
set_option maxHeartbeats 4000000 in
theorem tL_law_b717 {X : Xt} {v : Int32} {h' : pH} (N : Nat) {b : Nat} (L : Nat) (xs : Nat → Int32) (hX : Sx X b L xs) (k18 : pH → Int32 → Option (Int32 × pH)) (HK18 : ∀ (h : pH) (x3 : Int32), k18 h x3 = some (v, h') → Wx X 4 18 [(0, .ref b), (1, rf (qo X) 1), (2, rf (qo X) 49), (3, .int x3)] [] h) (h : pH) (x3 : Int32) (B : Bd (lo X) (qo X) cL_law RL 4 (some .boolean) 8 186 (some (.int v)) h' X) (hf : fL_law_b717 N L xs k18 h x3 = some (v, h')) : Wx X 4 717 [(0, .ref b), (1, rf (qo X) 1), (2, rf (qo X) 49), (3, .int x3)] [] h := by
  have C := B.1
  unfold fL_law_b717 at hf
  refine x_aload_n (i := 1) 1 C dL_law_717 rfl rfl ?_
  refine x_aload_nS (i := 0) 0 C dL_law_718 rfl rfl ?_
  refine x_iload_n (i := 3) 3 C dL_law_719 rfl rfl ?_
  refine x_iconst (v := 1) C dL_law_720 (by decide) ?_
  refine x_iadd C dL_law_721 ?_
  obtain ⟨g1, hf⟩ := ife hf
  refine x_sld C hX dL_law_722 g1 ?_
  obtain ⟨z1, e1, hf⟩ := bnd hf
  refine x_callV (r := 1) (As := [.int (xs (x3 + 1).toNatClampNeg)]) (rest := []) C dL_law_723 kmL_100 miX8_rule (ctX8_rule (lo X) (qo X) N h (xs (x3 + 1).toNatClampNeg) z1.1 z1.2 e1) rfl rfl ⟨Nat.le_trans (by decide) B.2.2.2.1, Nat.le_trans (by decide) B.2.2.2.2.1⟩ (by simp [cat_i, cat_l, rf_cat]) rfl ?_
  refine x_aload_n (i := 2) 2 C dL_law_726 rfl rfl ?_
  refine x_aload_nS (i := 0) 0 C dL_law_727 rfl rfl ?_
  refine x_iload_n (i := 3) 3 C dL_law_728 rfl rfl ?_
  refine x_iconst (v := 1) C dL_law_729 (by decide) ?_
  refine x_iadd C dL_law_730 ?_
  obtain ⟨g2, hf⟩ := ife hf
  refine x_sld C hX dL_law_731 g2 ?_
  obtain ⟨z2, e2, hf⟩ := bnd hf
  refine x_callV (r := 49) (As := [.int (xs (x3 + 1).toNatClampNeg)]) (rest := [.int z1.1]) C dL_law_732 kmL_103 miX9_rule (ctX9_rule (lo X) (qo X) N z1.2 (xs (x3 + 1).toNatClampNeg) z2.1 z2.2 e2) rfl rfl ⟨Nat.le_trans (by decide) B.2.2.2.1, Nat.le_trans (by decide) B.2.2.2.2.1⟩ (by simp [cat_i, cat_l, rf_cat]) rfl ?_
  refine x_icmp_eq (tgt := 1138) C dL_law_735 (by decide) (fun c => ?_) (fun c => ?_)
  · rw [if_pos c] at hf
    exact tL_law_b1138 N L xs hX k18 HK18 z2.2 x3 B hf
  · rw [if_neg c] at hf
    refine x_iconst (v := 0) C dL_law_738 (by decide) ?_
    obtain ⟨rfl, rfl⟩ := rtn hf
    exact B.2.2.2.2.2.1 _ _ rfl rfl (nrB (Or.inl rfl)) _ _ dL_law_739
def fL_law_b740 (N : Nat) (L : Nat) (xs : Nat → Int32) (k18 : pH → Int32 → Option (Int32 × pH)) (h : pH) (x3 : Int32) : Option (Int32 × pH) :=
  (fX8_began N h).bind fun z1 => ((fX9_began N z1.2).bind fun z2 => (if z1.1 = z2.1 then (fL_law_b1138 N L xs k18 z2.2 x3) else (some (0, z2.2))))
set_option maxRecDepth 100000 in
set_option maxHeartbeats 4000000 in
theorem tL_law_b740 {X : Xt} {v : Int32} {h' : pH} (N : Nat) {b : Nat} (L : Nat) (xs : Nat → Int32) (hX : Sx X b L xs) (k18 : pH → Int32 → Option (Int32 × pH)) (HK18 : ∀ (h : pH) (x3 : Int32), k18 h x3 = some (v, h') → Wx X 4 18 [(0, .ref b), (1, rf (qo X) 1), (2, rf (qo X) 49), (3, .int x3)] [] h) (h : pH) (x3 : Int32) (B : Bd (lo X) (qo X) cL_law RL 4 (some .boolean) 8 186 (some (.int v)) h' X) (hf : fL_law_b740 N L xs k18 h x3 = some (v, h')) : Wx X 4 740 [(0, .ref b), (1, rf (qo X) 1), (2, rf (qo X) 49), (3, .int x3)] [] h := by
  have C := B.1
  unfold fL_law_b740 at hf
  refine x_aload_n (i := 1) 1 C dL_law_740 rfl rfl ?_
  obtain ⟨z1, e1, hf⟩ := bnd hf
  refine x_callV (r := 1) (As := []) (rest := []) C dL_law_741 kmL_104 miX8_began (ctX8_began (lo X) (qo X) N h z1.1 z1.2 e1) rfl rfl ⟨Nat.le_trans (by decide) B.2.2.2.1, Nat.le_trans (by decide) B.2.2.2.2.1⟩ (by simp [cat_i, cat_l, rf_cat]) rfl ?_
  refine x_aload_n (i := 2) 2 C dL_law_744 rfl rfl ?_
  obtain ⟨z2, e2, hf⟩ := bnd hf
  refine x_callV (r := 49) (As := []) (rest := [.int z1.1]) C dL_law_745 kmL_107 miX9_began (ctX9_began (lo X) (qo X) N z1.2 z2.1 z2.2 e2) rfl rfl ⟨Nat.le_trans (by decide) B.2.2.2.1, Nat.le_trans (by decide) B.2.2.2.2.1⟩ (by simp [cat_i, cat_l, rf_cat]) rfl ?_
  refine x_icmp_eq (tgt := 1138) C dL_law_748 (by decide) (fun c => ?_) (fun c => ?_)
  · rw [if_pos c] at hf
    exact tL_law_b1138 N L xs hX k18 HK18 z2.2 x3 B hf
  · rw [if_neg c] at hf
    refine x_iconst (v := 0) C dL_law_751 (by decide) ?_
    obtain ⟨rfl, rfl⟩ := rtn hf
    exact B.2.2.2.2.2.1 _ _ rfl rfl (nrB (Or.inl rfl)) _ _ dL_law_752
def fL_law_b753 (N : Nat) (L : Nat) (xs : Nat → Int32) (k18 : pH → Int32 → Option (Int32 × pH)) (h : pH) (x3 : Int32) : Option (Int32 × pH) :=
  (fX8_ask N h).bind fun z1 => ((fX9_ask N z1.2).bind fun z2 => (if z1.1 = z2.1 then (fL_law_b1138 N L xs k18 z2.2 x3) else (some (0, z2.2))))
set_option maxRecDepth 100000 in
set_option maxHeartbeats 4000000 in
theorem tL_law_b753 {X : Xt} {v : Int32} {h' : pH} (N : Nat) {b : Nat} (L : Nat) (xs : Nat → Int32) (hX : Sx X b L xs) (k18 : pH → Int32 → Option (Int32 × pH)) (HK18 : ∀ (h : pH) (x3 : Int32), k18 h x3 = some (v, h') → Wx X 4 18 [(0, .ref b), (1, rf (qo X) 1), (2, rf (qo X) 49), (3, .int x3)] [] h) (h : pH) (x3 : Int32) (B : Bd (lo X) (qo X) cL_law RL 4 (some .boolean) 8 186 (some (.int v)) h' X) (hf : fL_law_b753 N L xs k18 h x3 = some (v, h')) : Wx X 4 753 [(0, .ref b), (1, rf (qo X) 1), (2, rf (qo X) 49), (3, .int x3)] [] h := by
  have C := B.1
  unfold fL_law_b753 at hf
  refine x_aload_n (i := 1) 1 C dL_law_753 rfl rfl ?_
  obtain ⟨z1, e1, hf⟩ := bnd hf
  refine x_callV (r := 1) (As := []) (rest := []) C dL_law_754 kmL_108 miX8_ask (ctX8_ask (lo X) (qo X) N h z1.1 z1.2 e1) rfl rfl ⟨Nat.le_trans (by decide) B.2.2.2.1, Nat.le_trans (by decide) B.2.2.2.2.1⟩ (by simp [cat_i, cat_l, rf_cat]) rfl ?_
  refine x_aload_n (i := 2) 2 C dL_law_757 rfl rfl ?_
  obtain ⟨z2, e2, hf⟩ := bnd hf
  refine x_callV (r := 49) (As := []) (rest := [.int z1.1]) C dL_law_758 kmL_111 miX9_ask (ctX9_ask (lo X) (qo X) N z1.2 z2.1 z2.2 e2) rfl rfl ⟨Nat.le_trans (by decide) B.2.2.2.1, Nat.le_trans (by decide) B.2.2.2.2.1⟩ (by simp [cat_i, cat_l, rf_cat]) rfl ?_
  refine x_icmp_eq (tgt := 1138) C dL_law_761 (by decide) (fun c => ?_) (fun c => ?_)
  · rw [if_pos c] at hf
    exact tL_law_b1138 N L xs hX k18 HK18 z2.2 x3 B hf
  · rw [if_neg c] at hf
    refine x_iconst (v := 0) C dL_law_764 (by decide) ?_
    obtain ⟨rfl, rfl⟩ := rtn hf
    exact B.2.2.2.2.2.1 _ _ rfl rfl (nrB (Or.inl rfl)) _ _ dL_law_765
def fL_law_b766 (N : Nat) (L : Nat) (xs : Nat → Int32) (k18 : pH → Int32 → Option (Int32 × pH)) (h : pH) (x3 : Int32) : Option (Int32 × pH) :=
  if ix (x3 + 1) L = true then (if ix (x3 + 2) L = true then (if ix (x3 + 3) L = true then ((fX8_maybe N h (xs (x3 + 1).toNatClampNeg) (xs (x3 + 2).toNatClampNeg) (xs (x3 + 3).toNatClampNeg)).bind fun z1 => (if ix (x3 + 1) L = true then (if ix (x3 + 2) L = true then (if ix (x3 + 3) L = true then ((fX9_maybe N z1.2 (xs (x3 + 1).toNatClampNeg) (xs (x3 + 2).toNatClampNeg) (xs (x3 + 3).toNatClampNeg)).bind fun z2 => (if (lg_cmp z1.1 z2.1) = 0 then (fL_law_b1138 N L xs k18 z2.2 x3) else (some (0, z2.2)))) else none) else none) else none)) else none) else none) else none
set_option maxRecDepth 100000 in
set_option maxHeartbeats 4000000 in
theorem tL_law_b766 {X : Xt} {v : Int32} {h' : pH} (N : Nat) {b : Nat} (L : Nat) (xs : Nat → Int32) (hX : Sx X b L xs) (k18 : pH → Int32 → Option (Int32 × pH)) (HK18 : ∀ (h : pH) (x3 : Int32), k18 h x3 = some (v, h') → Wx X 4 18 [(0, .ref b), (1, rf (qo X) 1), (2, rf (qo X) 49), (3, .int x3)] [] h) (h : pH) (x3 : Int32) (B : Bd (lo X) (qo X) cL_law RL 4 (some .boolean) 8 186 (some (.int v)) h' X) (hf : fL_law_b766 N L xs k18 h x3 = some (v, h')) : Wx X 4 766 [(0, .ref b), (1, rf (qo X) 1), (2, rf (qo X) 49), (3, .int x3)] [] h := by
  have C := B.1
  unfold fL_law_b766 at hf
  refine x_aload_n (i := 1) 1 C dL_law_766 rfl rfl ?_
  refine x_aload_nS (i := 0) 0 C dL_law_767 rfl rfl ?_
  refine x_iload_n (i := 3) 3 C dL_law_768 rfl rfl ?_
  refine x_iconst (v := 1) C dL_law_769 (by decide) ?_
  refine x_iadd C dL_law_770 ?_
  obtain ⟨g1, hf⟩ := ife hf
  refine x_sld C hX dL_law_771 g1 ?_
  refine x_aload_nS (i := 0) 0 C dL_law_772 rfl rfl ?_
  refine x_iload_n (i := 3) 3 C dL_law_773 rfl rfl ?_
  refine x_iconst (v := 2) C dL_law_774 (by decide) ?_
  refine x_iadd C dL_law_775 ?_
  obtain ⟨g2, hf⟩ := ife hf
  refine x_sld C hX dL_law_776 g2 ?_
  refine x_aload_nS (i := 0) 0 C dL_law_777 rfl rfl ?_
  refine x_iload_n (i := 3) 3 C dL_law_778 rfl rfl ?_
  refine x_iconst (v := 3) C dL_law_779 (by decide) ?_
  refine x_iadd C dL_law_780 ?_
  obtain ⟨g3, hf⟩ := ife hf
  refine x_sld C hX dL_law_781 g3 ?_
  obtain ⟨z1, e1, hf⟩ := bnd hf
  refine x_callV (r := 1) (As := [.int (xs (x3 + 1).toNatClampNeg), .int (xs (x3 + 2).toNatClampNeg), .int (xs (x3 + 3).toNatClampNeg)]) (rest := []) C dL_law_782 kmL_112 miX8_maybe (ctX8_maybe (lo X) (qo X) N h (xs (x3 + 1).toNatClampNeg) (xs (x3 + 2).toNatClampNeg) (xs (x3 + 3).toNatClampNeg) z1.1 z1.2 e1) rfl rfl ⟨Nat.le_trans (by decide) B.2.2.2.1, Nat.le_trans (by decide) B.2.2.2.2.1⟩ (by simp [cat_i, cat_l, rf_cat]) rfl ?_
  refine x_aload_n (i := 2) 2 C dL_law_785 rfl rfl ?_
  refine x_aload_nS (i := 0) 0 C dL_law_786 rfl rfl ?_
  refine x_iload_n (i := 3) 3 C dL_law_787 rfl rfl ?_
  refine x_iconst (v := 1) C dL_law_788 (by decide) ?_
  refine x_iadd C dL_law_789 ?_
  obtain ⟨g4, hf⟩ := ife hf
  refine x_sld C hX dL_law_790 g4 ?_
  refine x_aload_nS (i := 0) 0 C dL_law_791 rfl rfl ?_
  refine x_iload_n (i := 3) 3 C dL_law_792 rfl rfl ?_
  refine x_iconst (v := 2) C dL_law_793 (by decide) ?_
  refine x_iadd C dL_law_794 ?_
  obtain ⟨g5, hf⟩ := ife hf
  refine x_sld C hX dL_law_795 g5 ?_
  refine x_aload_nS (i := 0) 0 C dL_law_796 rfl rfl ?_
  refine x_iload_n (i := 3) 3 C dL_law_797 rfl rfl ?_
  refine x_iconst (v := 3) C dL_law_798 (by decide) ?_
  refine x_iadd C dL_law_799 ?_
  obtain ⟨g6, hf⟩ := ife hf
  refine x_sld C hX dL_law_800 g6 ?_
  obtain ⟨z2, e2, hf⟩ := bnd hf
  refine x_callV (r := 49) (As := [.int (xs (x3 + 1).toNatClampNeg), .int (xs (x3 + 2).toNatClampNeg), .int (xs (x3 + 3).toNatClampNeg)]) (rest := [.long z1.1]) C dL_law_801 kmL_116 miX9_maybe (ctX9_maybe (lo X) (qo X) N z1.2 (xs (x3 + 1).toNatClampNeg) (xs (x3 + 2).toNatClampNeg) (xs (x3 + 3).toNatClampNeg) z2.1 z2.2 e2) rfl rfl ⟨Nat.le_trans (by decide) B.2.2.2.1, Nat.le_trans (by decide) B.2.2.2.2.1⟩ (by simp [cat_i, cat_l, rf_cat]) rfl ?_
  refine x_lcmp C dL_law_804 ?_
  refine x_if_eq (tgt := 1138) C dL_law_805 (by decide) (fun c => ?_) (fun c => ?_)
  · rw [if_pos c] at hf
    exact tL_law_b1138 N L xs hX k18 HK18 z2.2 x3 B hf
  · rw [if_neg c] at hf
    refine x_iconst (v := 0) C dL_law_808 (by decide) ?_
    obtain ⟨rfl, rfl⟩ := rtn hf
    exact B.2.2.2.2.2.1 _ _ rfl rfl (nrB (Or.inl rfl)) _ _ dL_law_809
def fL_law_b810 (N : Nat) (L : Nat) (xs : Nat → Int32) (k18 : pH → Int32 → Option (Int32 × pH)) (h : pH) (x3 : Int32) : Option (Int32 × pH) :=
  if ix (x3 + 1) L = true then (if ix (x3 + 2) L = true then (if ix (x3 + 3) L = true then ((fX8_week N h (xs (x3 + 1).toNatClampNeg) (xs (x3 + 2).toNatClampNeg) (xs (x3 + 3).toNatClampNeg)).bind fun z1 => (if ix (x3 + 1) L = true then (if ix (x3 + 2) L = true then (if ix (x3 + 3) L = true then ((fX9_week N z1.2 (xs (x3 + 1).toNatClampNeg) (xs (x3 + 2).toNatClampNeg) (xs (x3 + 3).toNatClampNeg)).bind fun z2 => (if z1.1 = z2.1 then (fL_law_b1138 N L xs k18 z2.2 x3) else (some (0, z2.2)))) else none) else none) else none)) else none) else none) else none
set_option maxRecDepth 100000 in
set_option maxHeartbeats 4000000 in
theorem tL_law_b810 {X : Xt} {v : Int32} {h' : pH} (N : Nat) {b : Nat} (L : Nat) (xs : Nat → Int32) (hX : Sx X b L xs) (k18 : pH → Int32 → Option (Int32 × pH)) (HK18 : ∀ (h : pH) (x3 : Int32), k18 h x3 = some (v, h') → Wx X 4 18 [(0, .ref b), (1, rf (qo X) 1), (2, rf (qo X) 49), (3, .int x3)] [] h) (h : pH) (x3 : Int32) (B : Bd (lo X) (qo X) cL_law RL 4 (some .boolean) 8 186 (some (.int v)) h' X) (hf : fL_law_b810 N L xs k18 h x3 = some (v, h')) : Wx X 4 810 [(0, .ref b), (1, rf (qo X) 1), (2, rf (qo X) 49), (3, .int x3)] [] h := by
  have C := B.1
  unfold fL_law_b810 at hf
  refine x_aload_n (i := 1) 1 C dL_law_810 rfl rfl ?_
  refine x_aload_nS (i := 0) 0 C dL_law_811 rfl rfl ?_
  refine x_iload_n (i := 3) 3 C dL_law_812 rfl rfl ?_
  refine x_iconst (v := 1) C dL_law_813 (by decide) ?_
  refine x_iadd C dL_law_814 ?_
  obtain ⟨g1, hf⟩ := ife hf
  refine x_sld C hX dL_law_815 g1 ?_
  refine x_aload_nS (i := 0) 0 C dL_law_816 rfl rfl ?_
  refine x_iload_n (i := 3) 3 C dL_law_817 rfl rfl ?_
  refine x_iconst (v := 2) C dL_law_818 (by decide) ?_
  refine x_iadd C dL_law_819 ?_
  obtain ⟨g2, hf⟩ := ife hf
  refine x_sld C hX dL_law_820 g2 ?_
  refine x_aload_nS (i := 0) 0 C dL_law_821 rfl rfl ?_
  refine x_iload_n (i := 3) 3 C dL_law_822 rfl rfl ?_
  refine x_iconst (v := 3) C dL_law_823 (by decide) ?_
  refine x_iadd C dL_law_824 ?_
  obtain ⟨g3, hf⟩ := ife hf
  refine x_sld C hX dL_law_825 g3 ?_
  obtain ⟨z1, e1, hf⟩ := bnd hf
  refine x_callV (r := 1) (As := [.int (xs (x3 + 1).toNatClampNeg), .int (xs (x3 + 2).toNatClampNeg), .int (xs (x3 + 3).toNatClampNeg)]) (rest := []) C dL_law_826 kmL_117 miX8_week (ctX8_week (lo X) (qo X) N h (xs (x3 + 1).toNatClampNeg) (xs (x3 + 2).toNatClampNeg) (xs (x3 + 3).toNatClampNeg) z1.1 z1.2 e1) rfl rfl ⟨Nat.le_trans (by decide) B.2.2.2.1, Nat.le_trans (by decide) B.2.2.2.2.1⟩ (by simp [cat_i, cat_l, rf_cat]) rfl ?_
  refine x_aload_n (i := 2) 2 C dL_law_829 rfl rfl ?_
  refine x_aload_nS (i := 0) 0 C dL_law_830 rfl rfl ?_
  refine x_iload_n (i := 3) 3 C dL_law_831 rfl rfl ?_
  refine x_iconst (v := 1) C dL_law_832 (by decide) ?_
  refine x_iadd C dL_law_833 ?_
  obtain ⟨g4, hf⟩ := ife hf
  refine x_sld C hX dL_law_834 g4 ?_
  refine x_aload_nS (i := 0) 0 C dL_law_835 rfl rfl ?_
  refine x_iload_n (i := 3) 3 C dL_law_836 rfl rfl ?_
  refine x_iconst (v := 2) C dL_law_837 (by decide) ?_
  refine x_iadd C dL_law_838 ?_
  obtain ⟨g5, hf⟩ := ife hf
  refine x_sld C hX dL_law_839 g5 ?_
  refine x_aload_nS (i := 0) 0 C dL_law_840 rfl rfl ?_
  refine x_iload_n (i := 3) 3 C dL_law_841 rfl rfl ?_
  refine x_iconst (v := 3) C dL_law_842 (by decide) ?_
  refine x_iadd C dL_law_843 ?_
  obtain ⟨g6, hf⟩ := ife hf
  refine x_sld C hX dL_law_844 g6 ?_
  obtain ⟨z2, e2, hf⟩ := bnd hf
  refine x_callV (r := 49) (As := [.int (xs (x3 + 1).toNatClampNeg), .int (xs (x3 + 2).toNatClampNeg), .int (xs (x3 + 3).toNatClampNeg)]) (rest := [.int z1.1]) C dL_law_845 kmL_121 miX9_week (ctX9_week (lo X) (qo X) N z1.2 (xs (x3 + 1).toNatClampNeg) (xs (x3 + 2).toNatClampNeg) (xs (x3 + 3).toNatClampNeg) z2.1 z2.2 e2) rfl rfl ⟨Nat.le_trans (by decide) B.2.2.2.1, Nat.le_trans (by decide) B.2.2.2.2.1⟩ (by simp [cat_i, cat_l, rf_cat]) rfl ?_
  refine x_icmp_eq (tgt := 1138) C dL_law_848 (by decide) (fun c => ?_) (fun c => ?_)
  · rw [if_pos c] at hf
    exact tL_law_b1138 N L xs hX k18 HK18 z2.2 x3 B hf
  · rw [if_neg c] at hf
    refine x_iconst (v := 0) C dL_law_851 (by decide) ?_
    obtain ⟨rfl, rfl⟩ := rtn hf
    exact B.2.2.2.2.2.1 _ _ rfl rfl (nrB (Or.inl rfl)) _ _ dL_law_852
def fL_law_b853 (N : Nat) (L : Nat) (xs : Nat → Int32) (k18 : pH → Int32 → Option (Int32 × pH)) (h : pH) (x3 : Int32) : Option (Int32 × pH) :=
  if ix (x3 + 1) L = true then (if ix (x3 + 2) L = true then (if ix (x3 + 3) L = true then ((fX8_sheet N h (xs (x3 + 1).toNatClampNeg) (xs (x3 + 2).toNatClampNeg) (xs (x3 + 3).toNatClampNeg)).bind fun z1 => (if ix (x3 + 1) L = true then (if ix (x3 + 2) L = true then (if ix (x3 + 3) L = true then ((fX9_sheet N z1.2 (xs (x3 + 1).toNatClampNeg) (xs (x3 + 2).toNatClampNeg) (xs (x3 + 3).toNatClampNeg)).bind fun z2 => (if z1.1 = z2.1 then (fL_law_b1138 N L xs k18 z2.2 x3) else (some (0, z2.2)))) else none) else none) else none)) else none) else none) else none
set_option maxRecDepth 100000 in
set_option maxHeartbeats 4000000 in
theorem tL_law_b853 {X : Xt} {v : Int32} {h' : pH} (N : Nat) {b : Nat} (L : Nat) (xs : Nat → Int32) (hX : Sx X b L xs) (k18 : pH → Int32 → Option (Int32 × pH)) (HK18 : ∀ (h : pH) (x3 : Int32), k18 h x3 = some (v, h') → Wx X 4 18 [(0, .ref b), (1, rf (qo X) 1), (2, rf (qo X) 49), (3, .int x3)] [] h) (h : pH) (x3 : Int32) (B : Bd (lo X) (qo X) cL_law RL 4 (some .boolean) 8 186 (some (.int v)) h' X) (hf : fL_law_b853 N L xs k18 h x3 = some (v, h')) : Wx X 4 853 [(0, .ref b), (1, rf (qo X) 1), (2, rf (qo X) 49), (3, .int x3)] [] h := by
  have C := B.1
  unfold fL_law_b853 at hf
  refine x_aload_n (i := 1) 1 C dL_law_853 rfl rfl ?_
  refine x_aload_nS (i := 0) 0 C dL_law_854 rfl rfl ?_
  refine x_iload_n (i := 3) 3 C dL_law_855 rfl rfl ?_
  refine x_iconst (v := 1) C dL_law_856 (by decide) ?_
  refine x_iadd C dL_law_857 ?_
  obtain ⟨g1, hf⟩ := ife hf
  refine x_sld C hX dL_law_858 g1 ?_
  refine x_aload_nS (i := 0) 0 C dL_law_859 rfl rfl ?_
  refine x_iload_n (i := 3) 3 C dL_law_860 rfl rfl ?_
  refine x_iconst (v := 2) C dL_law_861 (by decide) ?_
  refine x_iadd C dL_law_862 ?_
  obtain ⟨g2, hf⟩ := ife hf
  refine x_sld C hX dL_law_863 g2 ?_
  refine x_aload_nS (i := 0) 0 C dL_law_864 rfl rfl ?_
  refine x_iload_n (i := 3) 3 C dL_law_865 rfl rfl ?_
  refine x_iconst (v := 3) C dL_law_866 (by decide) ?_
  refine x_iadd C dL_law_867 ?_
  obtain ⟨g3, hf⟩ := ife hf
  refine x_sld C hX dL_law_868 g3 ?_
  obtain ⟨z1, e1, hf⟩ := bnd hf
  refine x_callV (r := 1) (As := [.int (xs (x3 + 1).toNatClampNeg), .int (xs (x3 + 2).toNatClampNeg), .int (xs (x3 + 3).toNatClampNeg)]) (rest := []) C dL_law_869 kmL_122 miX8_sheet (ctX8_sheet (lo X) (qo X) N h (xs (x3 + 1).toNatClampNeg) (xs (x3 + 2).toNatClampNeg) (xs (x3 + 3).toNatClampNeg) z1.1 z1.2 e1) rfl rfl ⟨Nat.le_trans (by decide) B.2.2.2.1, Nat.le_trans (by decide) B.2.2.2.2.1⟩ (by simp [cat_i, cat_l, rf_cat]) rfl ?_
  refine x_aload_n (i := 2) 2 C dL_law_872 rfl rfl ?_
  refine x_aload_nS (i := 0) 0 C dL_law_873 rfl rfl ?_
  refine x_iload_n (i := 3) 3 C dL_law_874 rfl rfl ?_
  refine x_iconst (v := 1) C dL_law_875 (by decide) ?_
  refine x_iadd C dL_law_876 ?_
  obtain ⟨g4, hf⟩ := ife hf
  refine x_sld C hX dL_law_877 g4 ?_
  refine x_aload_nS (i := 0) 0 C dL_law_878 rfl rfl ?_
  refine x_iload_n (i := 3) 3 C dL_law_879 rfl rfl ?_
  refine x_iconst (v := 2) C dL_law_880 (by decide) ?_
  refine x_iadd C dL_law_881 ?_
  obtain ⟨g5, hf⟩ := ife hf
  refine x_sld C hX dL_law_882 g5 ?_
  refine x_aload_nS (i := 0) 0 C dL_law_883 rfl rfl ?_
  refine x_iload_n (i := 3) 3 C dL_law_884 rfl rfl ?_
  refine x_iconst (v := 3) C dL_law_885 (by decide) ?_
  refine x_iadd C dL_law_886 ?_
  obtain ⟨g6, hf⟩ := ife hf
  refine x_sld C hX dL_law_887 g6 ?_
  obtain ⟨z2, e2, hf⟩ := bnd hf
  refine x_callV (r := 49) (As := [.int (xs (x3 + 1).toNatClampNeg), .int (xs (x3 + 2).toNatClampNeg), .int (xs (x3 + 3).toNatClampNeg)]) (rest := [.int z1.1]) C dL_law_888 kmL_125 miX9_sheet (ctX9_sheet (lo X) (qo X) N z1.2 (xs (x3 + 1).toNatClampNeg) (xs (x3 + 2).toNatClampNeg) (xs (x3 + 3).toNatClampNeg) z2.1 z2.2 e2) rfl rfl ⟨Nat.le_trans (by decide) B.2.2.2.1, Nat.le_trans (by decide) B.2.2.2.2.1⟩ (by simp [cat_i, cat_l, rf_cat]) rfl ?_
  refine x_icmp_eq (tgt := 1138) C dL_law_891 (by decide) (fun c => ?_) (fun c => ?_)
  · rw [if_pos c] at hf
    exact tL_law_b1138 N L xs hX k18 HK18 z2.2 x3 B hf
  · rw [if_neg c] at hf
    refine x_iconst (v := 0) C dL_law_894 (by decide) ?_
    obtain ⟨rfl, rfl⟩ := rtn hf
    exact B.2.2.2.2.2.1 _ _ rfl rfl (nrB (Or.inl rfl)) _ _ dL_law_895
def fL_law_b896 (N : Nat) (L : Nat) (xs : Nat → Int32) (k18 : pH → Int32 → Option (Int32 × pH)) (h : pH) (x3 : Int32) : Option (Int32 × pH) :=
  if ix (x3 + 1) L = true then ((fX8_lose N h (xs (x3 + 1).toNatClampNeg)).bind fun z1 => (if ix (x3 + 1) L = true then ((fX9_lose N z1.2 (xs (x3 + 1).toNatClampNeg)).bind fun z2 => (if z1.1 = z2.1 then (fL_law_b1138 N L xs k18 z2.2 x3) else (some (0, z2.2)))) else none)) else none
set_option maxRecDepth 100000 in
set_option maxHeartbeats 4000000 in
theorem tL_law_b896 {X : Xt} {v : Int32} {h' : pH} (N : Nat) {b : Nat} (L : Nat) (xs : Nat → Int32) (hX : Sx X b L xs) (k18 : pH → Int32 → Option (Int32 × pH)) (HK18 : ∀ (h : pH) (x3 : Int32), k18 h x3 = some (v, h') → Wx X 4 18 [(0, .ref b), (1, rf (qo X) 1), (2, rf (qo X) 49), (3, .int x3)] [] h) (h : pH) (x3 : Int32) (B : Bd (lo X) (qo X) cL_law RL 4 (some .boolean) 8 186 (some (.int v)) h' X) (hf : fL_law_b896 N L xs k18 h x3 = some (v, h')) : Wx X 4 896 [(0, .ref b), (1, rf (qo X) 1), (2, rf (qo X) 49), (3, .int x3)] [] h := by
  have C := B.1
  unfold fL_law_b896 at hf
  refine x_aload_n (i := 1) 1 C dL_law_896 rfl rfl ?_
  refine x_aload_nS (i := 0) 0 C dL_law_897 rfl rfl ?_
  refine x_iload_n (i := 3) 3 C dL_law_898 rfl rfl ?_
  refine x_iconst (v := 1) C dL_law_899 (by decide) ?_
  refine x_iadd C dL_law_900 ?_
  obtain ⟨g1, hf⟩ := ife hf
  refine x_sld C hX dL_law_901 g1 ?_
  obtain ⟨z1, e1, hf⟩ := bnd hf
  refine x_callV (r := 1) (As := [.int (xs (x3 + 1).toNatClampNeg)]) (rest := []) C dL_law_902 kmL_126 miX8_lose (ctX8_lose (lo X) (qo X) N h (xs (x3 + 1).toNatClampNeg) z1.1 z1.2 e1) rfl rfl ⟨Nat.le_trans (by decide) B.2.2.2.1, Nat.le_trans (by decide) B.2.2.2.2.1⟩ (by simp [cat_i, cat_l, rf_cat]) rfl ?_
  refine x_aload_n (i := 2) 2 C dL_law_905 rfl rfl ?_
  refine x_aload_nS (i := 0) 0 C dL_law_906 rfl rfl ?_
  refine x_iload_n (i := 3) 3 C dL_law_907 rfl rfl ?_
  refine x_iconst (v := 1) C dL_law_908 (by decide) ?_
  refine x_iadd C dL_law_909 ?_
  obtain ⟨g2, hf⟩ := ife hf
  refine x_sld C hX dL_law_910 g2 ?_
  obtain ⟨z2, e2, hf⟩ := bnd hf
  refine x_callV (r := 49) (As := [.int (xs (x3 + 1).toNatClampNeg)]) (rest := [.int z1.1]) C dL_law_911 kmL_129 miX9_lose (ctX9_lose (lo X) (qo X) N z1.2 (xs (x3 + 1).toNatClampNeg) z2.1 z2.2 e2) rfl rfl ⟨Nat.le_trans (by decide) B.2.2.2.1, Nat.le_trans (by decide) B.2.2.2.2.1⟩ (by simp [cat_i, cat_l, rf_cat]) rfl ?_
  refine x_icmp_eq (tgt := 1138) C dL_law_914 (by decide) (fun c => ?_) (fun c => ?_)
  · rw [if_pos c] at hf
    exact tL_law_b1138 N L xs hX k18 HK18 z2.2 x3 B hf
  · rw [if_neg c] at hf
    refine x_iconst (v := 0) C dL_law_917 (by decide) ?_
    obtain ⟨rfl, rfl⟩ := rtn hf
    exact B.2.2.2.2.2.1 _ _ rfl rfl (nrB (Or.inl rfl)) _ _ dL_law_918
def fL_law_b919 (N : Nat) (L : Nat) (xs : Nat → Int32) (k18 : pH → Int32 → Option (Int32 × pH)) (h : pH) (x3 : Int32) : Option (Int32 × pH) :=
  if ix (x3 + 1) L = true then (if ix (x3 + 2) L = true then (if ix (x3 + 3) L = true then (if ix (x3 + 4) L = true then ((fX8_lay N h (xs (x3 + 1).toNatClampNeg) (xs (x3 + 2).toNatClampNeg) (xs (x3 + 3).toNatClampNeg) (xs (x3 + 4).toNatClampNeg)).bind fun z1 => (if ix (x3 + 1) L = true then (if ix (x3 + 2) L = true then (if ix (x3 + 3) L = true then (if ix (x3 + 4) L = true then ((fX9_lay N z1.2 (xs (x3 + 1).toNatClampNeg) (xs (x3 + 2).toNatClampNeg) (xs (x3 + 3).toNatClampNeg) (xs (x3 + 4).toNatClampNeg)).bind fun z2 => (if z1.1 = z2.1 then (fL_law_b1138 N L xs k18 z2.2 x3) else (some (0, z2.2)))) else none) else none) else none) else none)) else none) else none) else none) else none
set_option maxRecDepth 100000 in
set_option maxHeartbeats 4000000 in
theorem tL_law_b919 {X : Xt} {v : Int32} {h' : pH} (N : Nat) {b : Nat} (L : Nat) (xs : Nat → Int32) (hX : Sx X b L xs) (k18 : pH → Int32 → Option (Int32 × pH)) (HK18 : ∀ (h : pH) (x3 : Int32), k18 h x3 = some (v, h') → Wx X 4 18 [(0, .ref b), (1, rf (qo X) 1), (2, rf (qo X) 49), (3, .int x3)] [] h) (h : pH) (x3 : Int32) (B : Bd (lo X) (qo X) cL_law RL 4 (some .boolean) 8 186 (some (.int v)) h' X) (hf : fL_law_b919 N L xs k18 h x3 = some (v, h')) : Wx X 4 919 [(0, .ref b), (1, rf (qo X) 1), (2, rf (qo X) 49), (3, .int x3)] [] h := by
  have C := B.1
  unfold fL_law_b919 at hf
  refine x_aload_n (i := 1) 1 C dL_law_919 rfl rfl ?_
  refine x_aload_nS (i := 0) 0 C dL_law_920 rfl rfl ?_
  refine x_iload_n (i := 3) 3 C dL_law_921 rfl rfl ?_
  refine x_iconst (v := 1) C dL_law_922 (by decide) ?_
  refine x_iadd C dL_law_923 ?_
  obtain ⟨g1, hf⟩ := ife hf
  refine x_sld C hX dL_law_924 g1 ?_
  refine x_aload_nS (i := 0) 0 C dL_law_925 rfl rfl ?_
  refine x_iload_n (i := 3) 3 C dL_law_926 rfl rfl ?_
  refine x_iconst (v := 2) C dL_law_927 (by decide) ?_
  refine x_iadd C dL_law_928 ?_
  obtain ⟨g2, hf⟩ := ife hf
  refine x_sld C hX dL_law_929 g2 ?_
  refine x_aload_nS (i := 0) 0 C dL_law_930 rfl rfl ?_
  refine x_iload_n (i := 3) 3 C dL_law_931 rfl rfl ?_
  refine x_iconst (v := 3) C dL_law_932 (by decide) ?_
  refine x_iadd C dL_law_933 ?_
  obtain ⟨g3, hf⟩ := ife hf
  refine x_sld C hX dL_law_934 g3 ?_
  refine x_aload_nS (i := 0) 0 C dL_law_935 rfl rfl ?_
  refine x_iload_n (i := 3) 3 C dL_law_936 rfl rfl ?_
  refine x_iconst (v := 4) C dL_law_937 (by decide) ?_
  refine x_iadd C dL_law_938 ?_
  obtain ⟨g4, hf⟩ := ife hf
  refine x_sld C hX dL_law_939 g4 ?_
  obtain ⟨z1, e1, hf⟩ := bnd hf
  refine x_callV (r := 1) (As := [.int (xs (x3 + 1).toNatClampNeg), .int (xs (x3 + 2).toNatClampNeg), .int (xs (x3 + 3).toNatClampNeg), .int (xs (x3 + 4).toNatClampNeg)]) (rest := []) C dL_law_940 kmL_130 miX8_lay (ctX8_lay (lo X) (qo X) N h (xs (x3 + 1).toNatClampNeg) (xs (x3 + 2).toNatClampNeg) (xs (x3 + 3).toNatClampNeg) (xs (x3 + 4).toNatClampNeg) z1.1 z1.2 e1) rfl rfl ⟨Nat.le_trans (by decide) B.2.2.2.1, Nat.le_trans (by decide) B.2.2.2.2.1⟩ (by simp [cat_i, cat_l, rf_cat]) rfl ?_
  refine x_aload_n (i := 2) 2 C dL_law_943 rfl rfl ?_
  refine x_aload_nS (i := 0) 0 C dL_law_944 rfl rfl ?_
  refine x_iload_n (i := 3) 3 C dL_law_945 rfl rfl ?_
  refine x_iconst (v := 1) C dL_law_946 (by decide) ?_
  refine x_iadd C dL_law_947 ?_
  obtain ⟨g5, hf⟩ := ife hf
  refine x_sld C hX dL_law_948 g5 ?_
  refine x_aload_nS (i := 0) 0 C dL_law_949 rfl rfl ?_
  refine x_iload_n (i := 3) 3 C dL_law_950 rfl rfl ?_
  refine x_iconst (v := 2) C dL_law_951 (by decide) ?_
  refine x_iadd C dL_law_952 ?_
  obtain ⟨g6, hf⟩ := ife hf
  refine x_sld C hX dL_law_953 g6 ?_
  refine x_aload_nS (i := 0) 0 C dL_law_954 rfl rfl ?_
  refine x_iload_n (i := 3) 3 C dL_law_955 rfl rfl ?_
  refine x_iconst (v := 3) C dL_law_956 (by decide) ?_
  refine x_iadd C dL_law_957 ?_
  obtain ⟨g7, hf⟩ := ife hf
  refine x_sld C hX dL_law_958 g7 ?_
  refine x_aload_nS (i := 0) 0 C dL_law_959 rfl rfl ?_
  refine x_iload_n (i := 3) 3 C dL_law_960 rfl rfl ?_
  refine x_iconst (v := 4) C dL_law_961 (by decide) ?_
  refine x_iadd C dL_law_962 ?_
  obtain ⟨g8, hf⟩ := ife hf
  refine x_sld C hX dL_law_963 g8 ?_
  obtain ⟨z2, e2, hf⟩ := bnd hf
  refine x_callV (r := 49) (As := [.int (xs (x3 + 1).toNatClampNeg), .int (xs (x3 + 2).toNatClampNeg), .int (xs (x3 + 3).toNatClampNeg), .int (xs (x3 + 4).toNatClampNeg)]) (rest := [.int z1.1]) C dL_law_964 kmL_134 miX9_lay (ctX9_lay (lo X) (qo X) N z1.2 (xs (x3 + 1).toNatClampNeg) (xs (x3 + 2).toNatClampNeg) (xs (x3 + 3).toNatClampNeg) (xs (x3 + 4).toNatClampNeg) z2.1 z2.2 e2) rfl rfl ⟨Nat.le_trans (by decide) B.2.2.2.1, Nat.le_trans (by decide) B.2.2.2.2.1⟩ (by simp [cat_i, cat_l, rf_cat]) rfl ?_
  refine x_icmp_eq (tgt := 1138) C dL_law_967 (by decide) (fun c => ?_) (fun c => ?_)
  · rw [if_pos c] at hf
    exact tL_law_b1138 N L xs hX k18 HK18 z2.2 x3 B hf
  · rw [if_neg c] at hf
    refine x_iconst (v := 0) C dL_law_970 (by decide) ?_
    obtain ⟨rfl, rfl⟩ := rtn hf
    exact B.2.2.2.2.2.1 _ _ rfl rfl (nrB (Or.inl rfl)) _ _ dL_law_971
def fL_law_b972 (N : Nat) (L : Nat) (xs : Nat → Int32) (k18 : pH → Int32 → Option (Int32 × pH)) (h : pH) (x3 : Int32) : Option (Int32 × pH) :=
  if ix (x3 + 1) L = true then (if ix (x3 + 2) L = true then (if ix (x3 + 3) L = true then ((fX8_get N h (xs (x3 + 1).toNatClampNeg) (xs (x3 + 2).toNatClampNeg) (xs (x3 + 3).toNatClampNeg)).bind fun z1 => (if ix (x3 + 1) L = true then (if ix (x3 + 2) L = true then (if ix (x3 + 3) L = true then ((fX9_get N z1.2 (xs (x3 + 1).toNatClampNeg) (xs (x3 + 2).toNatClampNeg) (xs (x3 + 3).toNatClampNeg)).bind fun z2 => (if z1.1 = z2.1 then (fL_law_b1138 N L xs k18 z2.2 x3) else (some (0, z2.2)))) else none) else none) else none)) else none) else none) else none
set_option maxRecDepth 100000 in
set_option maxHeartbeats 4000000 in
theorem tL_law_b972 {X : Xt} {v : Int32} {h' : pH} (N : Nat) {b : Nat} (L : Nat) (xs : Nat → Int32) (hX : Sx X b L xs) (k18 : pH → Int32 → Option (Int32 × pH)) (HK18 : ∀ (h : pH) (x3 : Int32), k18 h x3 = some (v, h') → Wx X 4 18 [(0, .ref b), (1, rf (qo X) 1), (2, rf (qo X) 49), (3, .int x3)] [] h) (h : pH) (x3 : Int32) (B : Bd (lo X) (qo X) cL_law RL 4 (some .boolean) 8 186 (some (.int v)) h' X) (hf : fL_law_b972 N L xs k18 h x3 = some (v, h')) : Wx X 4 972 [(0, .ref b), (1, rf (qo X) 1), (2, rf (qo X) 49), (3, .int x3)] [] h := by
  have C := B.1
  unfold fL_law_b972 at hf
  refine x_aload_n (i := 1) 1 C dL_law_972 rfl rfl ?_
  refine x_aload_nS (i := 0) 0 C dL_law_973 rfl rfl ?_
  refine x_iload_n (i := 3) 3 C dL_law_974 rfl rfl ?_
  refine x_iconst (v := 1) C dL_law_975 (by decide) ?_
  refine x_iadd C dL_law_976 ?_
  obtain ⟨g1, hf⟩ := ife hf
  refine x_sld C hX dL_law_977 g1 ?_
  refine x_aload_nS (i := 0) 0 C dL_law_978 rfl rfl ?_
  refine x_iload_n (i := 3) 3 C dL_law_979 rfl rfl ?_
  refine x_iconst (v := 2) C dL_law_980 (by decide) ?_
  refine x_iadd C dL_law_981 ?_
  obtain ⟨g2, hf⟩ := ife hf
  refine x_sld C hX dL_law_982 g2 ?_
  refine x_aload_nS (i := 0) 0 C dL_law_983 rfl rfl ?_
  refine x_iload_n (i := 3) 3 C dL_law_984 rfl rfl ?_
  refine x_iconst (v := 3) C dL_law_985 (by decide) ?_
  refine x_iadd C dL_law_986 ?_
  obtain ⟨g3, hf⟩ := ife hf
  refine x_sld C hX dL_law_987 g3 ?_
  obtain ⟨z1, e1, hf⟩ := bnd hf
  refine x_callV (r := 1) (As := [.int (xs (x3 + 1).toNatClampNeg), .int (xs (x3 + 2).toNatClampNeg), .int (xs (x3 + 3).toNatClampNeg)]) (rest := []) C dL_law_988 kmL_135 miX8_get (ctX8_get (lo X) (qo X) N h (xs (x3 + 1).toNatClampNeg) (xs (x3 + 2).toNatClampNeg) (xs (x3 + 3).toNatClampNeg) z1.1 z1.2 e1) rfl rfl ⟨Nat.le_trans (by decide) B.2.2.2.1, Nat.le_trans (by decide) B.2.2.2.2.1⟩ (by simp [cat_i, cat_l, rf_cat]) rfl ?_
  refine x_aload_n (i := 2) 2 C dL_law_991 rfl rfl ?_
  refine x_aload_nS (i := 0) 0 C dL_law_992 rfl rfl ?_
  refine x_iload_n (i := 3) 3 C dL_law_993 rfl rfl ?_
  refine x_iconst (v := 1) C dL_law_994 (by decide) ?_
  refine x_iadd C dL_law_995 ?_
  obtain ⟨g4, hf⟩ := ife hf
  refine x_sld C hX dL_law_996 g4 ?_
  refine x_aload_nS (i := 0) 0 C dL_law_997 rfl rfl ?_
  refine x_iload_n (i := 3) 3 C dL_law_998 rfl rfl ?_
  refine x_iconst (v := 2) C dL_law_999 (by decide) ?_
  refine x_iadd C dL_law_1000 ?_
  obtain ⟨g5, hf⟩ := ife hf
  refine x_sld C hX dL_law_1001 g5 ?_
  refine x_aload_nS (i := 0) 0 C dL_law_1002 rfl rfl ?_
  refine x_iload_n (i := 3) 3 C dL_law_1003 rfl rfl ?_
  refine x_iconst (v := 3) C dL_law_1004 (by decide) ?_
  refine x_iadd C dL_law_1005 ?_
  obtain ⟨g6, hf⟩ := ife hf
  refine x_sld C hX dL_law_1006 g6 ?_
  obtain ⟨z2, e2, hf⟩ := bnd hf
  refine x_callV (r := 49) (As := [.int (xs (x3 + 1).toNatClampNeg), .int (xs (x3 + 2).toNatClampNeg), .int (xs (x3 + 3).toNatClampNeg)]) (rest := [.int z1.1]) C dL_law_1007 kmL_138 miX9_get (ctX9_get (lo X) (qo X) N z1.2 (xs (x3 + 1).toNatClampNeg) (xs (x3 + 2).toNatClampNeg) (xs (x3 + 3).toNatClampNeg) z2.1 z2.2 e2) rfl rfl ⟨Nat.le_trans (by decide) B.2.2.2.1, Nat.le_trans (by decide) B.2.2.2.2.1⟩ (by simp [cat_i, cat_l, rf_cat]) rfl ?_
  refine x_icmp_eq (tgt := 1138) C dL_law_1010 (by decide) (fun c => ?_) (fun c => ?_)
  · rw [if_pos c] at hf
    exact tL_law_b1138 N L xs hX k18 HK18 z2.2 x3 B hf
  · rw [if_neg c] at hf
    refine x_iconst (v := 0) C dL_law_1013 (by decide) ?_
    obtain ⟨rfl, rfl⟩ := rtn hf
    exact B.2.2.2.2.2.1 _ _ rfl rfl (nrB (Or.inl rfl)) _ _ dL_law_1014
def fL_law_b1015 (N : Nat) (L : Nat) (xs : Nat → Int32) (k18 : pH → Int32 → Option (Int32 × pH)) (h : pH) (x3 : Int32) : Option (Int32 × pH) :=
  if ix (x3 + 1) L = true then (if ix (x3 + 2) L = true then (if ix (x3 + 3) L = true then (if ix (x3 + 4) L = true then (if ix (x3 + 5) L = true then ((fX8_copy N h (xs (x3 + 1).toNatClampNeg) (xs (x3 + 2).toNatClampNeg) (xs (x3 + 3).toNatClampNeg) (xs (x3 + 4).toNatClampNeg) (xs (x3 + 5).toNatClampNeg)).bind fun z1 => (if ix (x3 + 1) L = true then (if ix (x3 + 2) L = true then (if ix (x3 + 3) L = true then (if ix (x3 + 4) L = true then (if ix (x3 + 5) L = true then ((fX9_copy N z1.2 (xs (x3 + 1).toNatClampNeg) (xs (x3 + 2).toNatClampNeg) (xs (x3 + 3).toNatClampNeg) (xs (x3 + 4).toNatClampNeg) (xs (x3 + 5).toNatClampNeg)).bind fun z2 => (if z1.1 = z2.1 then (fL_law_b1138 N L xs k18 z2.2 x3) else (some (0, z2.2)))) else none) else none) else none) else none) else none)) else none) else none) else none) else none) else none
set_option maxRecDepth 100000 in
set_option maxHeartbeats 4000000 in
theorem tL_law_b1015 {X : Xt} {v : Int32} {h' : pH} (N : Nat) {b : Nat} (L : Nat) (xs : Nat → Int32) (hX : Sx X b L xs) (k18 : pH → Int32 → Option (Int32 × pH)) (HK18 : ∀ (h : pH) (x3 : Int32), k18 h x3 = some (v, h') → Wx X 4 18 [(0, .ref b), (1, rf (qo X) 1), (2, rf (qo X) 49), (3, .int x3)] [] h) (h : pH) (x3 : Int32) (B : Bd (lo X) (qo X) cL_law RL 4 (some .boolean) 8 186 (some (.int v)) h' X) (hf : fL_law_b1015 N L xs k18 h x3 = some (v, h')) : Wx X 4 1015 [(0, .ref b), (1, rf (qo X) 1), (2, rf (qo X) 49), (3, .int x3)] [] h := by
  have C := B.1
  unfold fL_law_b1015 at hf
  refine x_aload_n (i := 1) 1 C dL_law_1015 rfl rfl ?_
  refine x_aload_nS (i := 0) 0 C dL_law_1016 rfl rfl ?_
  refine x_iload_n (i := 3) 3 C dL_law_1017 rfl rfl ?_
  refine x_iconst (v := 1) C dL_law_1018 (by decide) ?_
  refine x_iadd C dL_law_1019 ?_
  obtain ⟨g1, hf⟩ := ife hf
  refine x_sld C hX dL_law_1020 g1 ?_
  refine x_aload_nS (i := 0) 0 C dL_law_1021 rfl rfl ?_
  refine x_iload_n (i := 3) 3 C dL_law_1022 rfl rfl ?_
  refine x_iconst (v := 2) C dL_law_1023 (by decide) ?_
  refine x_iadd C dL_law_1024 ?_
  obtain ⟨g2, hf⟩ := ife hf
  refine x_sld C hX dL_law_1025 g2 ?_
  refine x_aload_nS (i := 0) 0 C dL_law_1026 rfl rfl ?_
  refine x_iload_n (i := 3) 3 C dL_law_1027 rfl rfl ?_
  refine x_iconst (v := 3) C dL_law_1028 (by decide) ?_
  refine x_iadd C dL_law_1029 ?_
  obtain ⟨g3, hf⟩ := ife hf
  refine x_sld C hX dL_law_1030 g3 ?_
  refine x_aload_nS (i := 0) 0 C dL_law_1031 rfl rfl ?_
  refine x_iload_n (i := 3) 3 C dL_law_1032 rfl rfl ?_
  refine x_iconst (v := 4) C dL_law_1033 (by decide) ?_
  refine x_iadd C dL_law_1034 ?_
  obtain ⟨g4, hf⟩ := ife hf
  refine x_sld C hX dL_law_1035 g4 ?_
  refine x_aload_nS (i := 0) 0 C dL_law_1036 rfl rfl ?_
  refine x_iload_n (i := 3) 3 C dL_law_1037 rfl rfl ?_
  refine x_iconst (v := 5) C dL_law_1038 (by decide) ?_
  refine x_iadd C dL_law_1039 ?_
  obtain ⟨g5, hf⟩ := ife hf
  refine x_sld C hX dL_law_1040 g5 ?_
  obtain ⟨z1, e1, hf⟩ := bnd hf
  refine x_callV (r := 1) (As := [.int (xs (x3 + 1).toNatClampNeg), .int (xs (x3 + 2).toNatClampNeg), .int (xs (x3 + 3).toNatClampNeg), .int (xs (x3 + 4).toNatClampNeg), .int (xs (x3 + 5).toNatClampNeg)]) (rest := []) C dL_law_1041 kmL_139 miX8_copy (ctX8_copy (lo X) (qo X) N h (xs (x3 + 1).toNatClampNeg) (xs (x3 + 2).toNatClampNeg) (xs (x3 + 3).toNatClampNeg) (xs (x3 + 4).toNatClampNeg) (xs (x3 + 5).toNatClampNeg) z1.1 z1.2 e1) rfl rfl ⟨Nat.le_trans (by decide) B.2.2.2.1, Nat.le_trans (by decide) B.2.2.2.2.1⟩ (by simp [cat_i, cat_l, rf_cat]) rfl ?_
  refine x_aload_n (i := 2) 2 C dL_law_1044 rfl rfl ?_
  refine x_aload_nS (i := 0) 0 C dL_law_1045 rfl rfl ?_
  refine x_iload_n (i := 3) 3 C dL_law_1046 rfl rfl ?_
  refine x_iconst (v := 1) C dL_law_1047 (by decide) ?_
  refine x_iadd C dL_law_1048 ?_
  obtain ⟨g6, hf⟩ := ife hf
  refine x_sld C hX dL_law_1049 g6 ?_
  refine x_aload_nS (i := 0) 0 C dL_law_1050 rfl rfl ?_
  refine x_iload_n (i := 3) 3 C dL_law_1051 rfl rfl ?_
  refine x_iconst (v := 2) C dL_law_1052 (by decide) ?_
  refine x_iadd C dL_law_1053 ?_
  obtain ⟨g7, hf⟩ := ife hf
  refine x_sld C hX dL_law_1054 g7 ?_
  refine x_aload_nS (i := 0) 0 C dL_law_1055 rfl rfl ?_
  refine x_iload_n (i := 3) 3 C dL_law_1056 rfl rfl ?_
  refine x_iconst (v := 3) C dL_law_1057 (by decide) ?_
  refine x_iadd C dL_law_1058 ?_
  obtain ⟨g8, hf⟩ := ife hf
  refine x_sld C hX dL_law_1059 g8 ?_
  refine x_aload_nS (i := 0) 0 C dL_law_1060 rfl rfl ?_
  refine x_iload_n (i := 3) 3 C dL_law_1061 rfl rfl ?_
  refine x_iconst (v := 4) C dL_law_1062 (by decide) ?_
  refine x_iadd C dL_law_1063 ?_
  obtain ⟨g9, hf⟩ := ife hf
  refine x_sld C hX dL_law_1064 g9 ?_
  refine x_aload_nS (i := 0) 0 C dL_law_1065 rfl rfl ?_
  refine x_iload_n (i := 3) 3 C dL_law_1066 rfl rfl ?_
  refine x_iconst (v := 5) C dL_law_1067 (by decide) ?_
  refine x_iadd C dL_law_1068 ?_
  obtain ⟨g10, hf⟩ := ife hf
  refine x_sld C hX dL_law_1069 g10 ?_
  obtain ⟨z2, e2, hf⟩ := bnd hf
  refine x_callV (r := 49) (As := [.int (xs (x3 + 1).toNatClampNeg), .int (xs (x3 + 2).toNatClampNeg), .int (xs (x3 + 3).toNatClampNeg), .int (xs (x3 + 4).toNatClampNeg), .int (xs (x3 + 5).toNatClampNeg)]) (rest := [.int z1.1]) C dL_law_1070 kmL_143 miX9_copy (ctX9_copy (lo X) (qo X) N z1.2 (xs (x3 + 1).toNatClampNeg) (xs (x3 + 2).toNatClampNeg) (xs (x3 + 3).toNatClampNeg) (xs (x3 + 4).toNatClampNeg) (xs (x3 + 5).toNatClampNeg) z2.1 z2.2 e2) rfl rfl ⟨Nat.le_trans (by decide) B.2.2.2.1, Nat.le_trans (by decide) B.2.2.2.2.1⟩ (by simp [cat_i, cat_l, rf_cat]) rfl ?_
  refine x_icmp_eq (tgt := 1138) C dL_law_1073 (by decide) (fun c => ?_) (fun c => ?_)
  · rw [if_pos c] at hf
    exact tL_law_b1138 N L xs hX k18 HK18 z2.2 x3 B hf
  · rw [if_neg c] at hf
    refine x_iconst (v := 0) C dL_law_1076 (by decide) ?_
    obtain ⟨rfl, rfl⟩ := rtn hf
    exact B.2.2.2.2.2.1 _ _ rfl rfl (nrB (Or.inl rfl)) _ _ dL_law_1077
def fL_law_b1078 (N : Nat) (L : Nat) (xs : Nat → Int32) (k18 : pH → Int32 → Option (Int32 × pH)) (h : pH) (x3 : Int32) : Option (Int32 × pH) :=
  if ix (x3 + 1) L = true then ((fX8_write N h (xs (x3 + 1).toNatClampNeg)).bind fun z1 => (if ix (x3 + 1) L = true then ((fX9_write N z1.2 (xs (x3 + 1).toNatClampNeg)).bind fun z2 => (if z1.1 = z2.1 then (fL_law_b1138 N L xs k18 z2.2 x3) else (some (0, z2.2)))) else none)) else none
set_option maxRecDepth 100000 in
set_option maxHeartbeats 4000000 in
theorem tL_law_b1078 {X : Xt} {v : Int32} {h' : pH} (N : Nat) {b : Nat} (L : Nat) (xs : Nat → Int32) (hX : Sx X b L xs) (k18 : pH → Int32 → Option (Int32 × pH)) (HK18 : ∀ (h : pH) (x3 : Int32), k18 h x3 = some (v, h') → Wx X 4 18 [(0, .ref b), (1, rf (qo X) 1), (2, rf (qo X) 49), (3, .int x3)] [] h) (h : pH) (x3 : Int32) (B : Bd (lo X) (qo X) cL_law RL 4 (some .boolean) 8 186 (some (.int v)) h' X) (hf : fL_law_b1078 N L xs k18 h x3 = some (v, h')) : Wx X 4 1078 [(0, .ref b), (1, rf (qo X) 1), (2, rf (qo X) 49), (3, .int x3)] [] h := by
  have C := B.1
  unfold fL_law_b1078 at hf
  refine x_aload_n (i := 1) 1 C dL_law_1078 rfl rfl ?_
  refine x_aload_nS (i := 0) 0 C dL_law_1079 rfl rfl ?_
  refine x_iload_n (i := 3) 3 C dL_law_1080 rfl rfl ?_
  refine x_iconst (v := 1) C dL_law_1081 (by decide) ?_
  refine x_iadd C dL_law_1082 ?_
  obtain ⟨g1, hf⟩ := ife hf
  refine x_sld C hX dL_law_1083 g1 ?_
  obtain ⟨z1, e1, hf⟩ := bnd hf
  refine x_callV (r := 1) (As := [.int (xs (x3 + 1).toNatClampNeg)]) (rest := []) C dL_law_1084 kmL_144 miX8_write (ctX8_write (lo X) (qo X) N h (xs (x3 + 1).toNatClampNeg) z1.1 z1.2 e1) rfl rfl ⟨Nat.le_trans (by decide) B.2.2.2.1, Nat.le_trans (by decide) B.2.2.2.2.1⟩ (by simp [cat_i, cat_l, rf_cat]) rfl ?_
  refine x_aload_n (i := 2) 2 C dL_law_1087 rfl rfl ?_
  refine x_aload_nS (i := 0) 0 C dL_law_1088 rfl rfl ?_
  refine x_iload_n (i := 3) 3 C dL_law_1089 rfl rfl ?_
  refine x_iconst (v := 1) C dL_law_1090 (by decide) ?_
  refine x_iadd C dL_law_1091 ?_
  obtain ⟨g2, hf⟩ := ife hf
  refine x_sld C hX dL_law_1092 g2 ?_
  obtain ⟨z2, e2, hf⟩ := bnd hf
  refine x_callV (r := 49) (As := [.int (xs (x3 + 1).toNatClampNeg)]) (rest := [.int z1.1]) C dL_law_1093 kmL_147 miX9_write (ctX9_write (lo X) (qo X) N z1.2 (xs (x3 + 1).toNatClampNeg) z2.1 z2.2 e2) rfl rfl ⟨Nat.le_trans (by decide) B.2.2.2.1, Nat.le_trans (by decide) B.2.2.2.2.1⟩ (by simp [cat_i, cat_l, rf_cat]) rfl ?_
  refine x_icmp_eq (tgt := 1138) C dL_law_1096 (by decide) (fun c => ?_) (fun c => ?_)
  · rw [if_pos c] at hf
    exact tL_law_b1138 N L xs hX k18 HK18 z2.2 x3 B hf
  · rw [if_neg c] at hf
    refine x_iconst (v := 0) C dL_law_1099 (by decide) ?_
    obtain ⟨rfl, rfl⟩ := rtn hf
    exact B.2.2.2.2.2.1 _ _ rfl rfl (nrB (Or.inl rfl)) _ _ dL_law_1100
def fL_law_b1101 (N : Nat) (L : Nat) (xs : Nat → Int32) (k18 : pH → Int32 → Option (Int32 × pH)) (h : pH) (x3 : Int32) : Option (Int32 × pH) :=
  if ix (x3 + 1) L = true then ((fX8_count N h (xs (x3 + 1).toNatClampNeg)).bind fun z1 => (if ix (x3 + 1) L = true then ((fX9_count N z1.2 (xs (x3 + 1).toNatClampNeg)).bind fun z2 => (if z1.1 = z2.1 then (fL_law_b1138 N L xs k18 z2.2 x3) else (some (0, z2.2)))) else none)) else none
set_option maxRecDepth 100000 in
set_option maxHeartbeats 4000000 in
theorem tL_law_b1101 {X : Xt} {v : Int32} {h' : pH} (N : Nat) {b : Nat} (L : Nat) (xs : Nat → Int32) (hX : Sx X b L xs) (k18 : pH → Int32 → Option (Int32 × pH)) (HK18 : ∀ (h : pH) (x3 : Int32), k18 h x3 = some (v, h') → Wx X 4 18 [(0, .ref b), (1, rf (qo X) 1), (2, rf (qo X) 49), (3, .int x3)] [] h) (h : pH) (x3 : Int32) (B : Bd (lo X) (qo X) cL_law RL 4 (some .boolean) 8 186 (some (.int v)) h' X) (hf : fL_law_b1101 N L xs k18 h x3 = some (v, h')) : Wx X 4 1101 [(0, .ref b), (1, rf (qo X) 1), (2, rf (qo X) 49), (3, .int x3)] [] h := by
  have C := B.1
  unfold fL_law_b1101 at hf
  refine x_aload_n (i := 1) 1 C dL_law_1101 rfl rfl ?_
  refine x_aload_nS (i := 0) 0 C dL_law_1102 rfl rfl ?_
  refine x_iload_n (i := 3) 3 C dL_law_1103 rfl rfl ?_
  refine x_iconst (v := 1) C dL_law_1104 (by decide) ?_
  refine x_iadd C dL_law_1105 ?_
  obtain ⟨g1, hf⟩ := ife hf
  refine x_sld C hX dL_law_1106 g1 ?_
  obtain ⟨z1, e1, hf⟩ := bnd hf
  refine x_callV (r := 1) (As := [.int (xs (x3 + 1).toNatClampNeg)]) (rest := []) C dL_law_1107 kmL_148 miX8_count (ctX8_count (lo X) (qo X) N h (xs (x3 + 1).toNatClampNeg) z1.1 z1.2 e1) rfl rfl ⟨Nat.le_trans (by decide) B.2.2.2.1, Nat.le_trans (by decide) B.2.2.2.2.1⟩ (by simp [cat_i, cat_l, rf_cat]) rfl ?_
  refine x_aload_n (i := 2) 2 C dL_law_1110 rfl rfl ?_
  refine x_aload_nS (i := 0) 0 C dL_law_1111 rfl rfl ?_
  refine x_iload_n (i := 3) 3 C dL_law_1112 rfl rfl ?_
  refine x_iconst (v := 1) C dL_law_1113 (by decide) ?_
  refine x_iadd C dL_law_1114 ?_
  obtain ⟨g2, hf⟩ := ife hf
  refine x_sld C hX dL_law_1115 g2 ?_
  obtain ⟨z2, e2, hf⟩ := bnd hf
  refine x_callV (r := 49) (As := [.int (xs (x3 + 1).toNatClampNeg)]) (rest := [.int z1.1]) C dL_law_1116 kmL_151 miX9_count (ctX9_count (lo X) (qo X) N z1.2 (xs (x3 + 1).toNatClampNeg) z2.1 z2.2 e2) rfl rfl ⟨Nat.le_trans (by decide) B.2.2.2.1, Nat.le_trans (by decide) B.2.2.2.2.1⟩ (by simp [cat_i, cat_l, rf_cat]) rfl ?_
  refine x_icmp_eq (tgt := 1138) C dL_law_1119 (by decide) (fun c => ?_) (fun c => ?_)
  · rw [if_pos c] at hf
    exact tL_law_b1138 N L xs hX k18 HK18 z2.2 x3 B hf
  · rw [if_neg c] at hf
    refine x_iconst (v := 0) C dL_law_1122 (by decide) ?_
    obtain ⟨rfl, rfl⟩ := rtn hf
    exact B.2.2.2.2.2.1 _ _ rfl rfl (nrB (Or.inl rfl)) _ _ dL_law_1123
def fL_law_b1124 (N : Nat) (L : Nat) (xs : Nat → Int32) (k18 : pH → Int32 → Option (Int32 × pH)) (h : pH) (x3 : Int32) : Option (Int32 × pH) :=
  (fX8_digest N h).bind fun z1 => ((fX9_digest N z1.2).bind fun z2 => (if (lg_cmp z1.1 z2.1) = 0 then (fL_law_b1138 N L xs k18 z2.2 x3) else (some (0, z2.2))))
set_option maxRecDepth 100000 in
set_option maxHeartbeats 4000000 in
theorem tL_law_b1124 {X : Xt} {v : Int32} {h' : pH} (N : Nat) {b : Nat} (L : Nat) (xs : Nat → Int32) (hX : Sx X b L xs) (k18 : pH → Int32 → Option (Int32 × pH)) (HK18 : ∀ (h : pH) (x3 : Int32), k18 h x3 = some (v, h') → Wx X 4 18 [(0, .ref b), (1, rf (qo X) 1), (2, rf (qo X) 49), (3, .int x3)] [] h) (h : pH) (x3 : Int32) (B : Bd (lo X) (qo X) cL_law RL 4 (some .boolean) 8 186 (some (.int v)) h' X) (hf : fL_law_b1124 N L xs k18 h x3 = some (v, h')) : Wx X 4 1124 [(0, .ref b), (1, rf (qo X) 1), (2, rf (qo X) 49), (3, .int x3)] [] h := by
  have C := B.1
  unfold fL_law_b1124 at hf
  refine x_aload_n (i := 1) 1 C dL_law_1124 rfl rfl ?_
  obtain ⟨z1, e1, hf⟩ := bnd hf
  refine x_callV (r := 1) (As := []) (rest := []) C dL_law_1125 kmL_152 miX8_digest (ctX8_digest (lo X) (qo X) N h z1.1 z1.2 e1) rfl rfl ⟨Nat.le_trans (by decide) B.2.2.2.1, Nat.le_trans (by decide) B.2.2.2.2.1⟩ (by simp [cat_i, cat_l, rf_cat]) rfl ?_
  refine x_aload_n (i := 2) 2 C dL_law_1128 rfl rfl ?_
  obtain ⟨z2, e2, hf⟩ := bnd hf
  refine x_callV (r := 49) (As := []) (rest := [.long z1.1]) C dL_law_1129 kmL_156 miX9_digest (ctX9_digest (lo X) (qo X) N z1.2 z2.1 z2.2 e2) rfl rfl ⟨Nat.le_trans (by decide) B.2.2.2.1, Nat.le_trans (by decide) B.2.2.2.2.1⟩ (by simp [cat_i, cat_l, rf_cat]) rfl ?_
  refine x_lcmp C dL_law_1132 ?_
  refine x_if_eq (tgt := 1138) C dL_law_1133 (by decide) (fun c => ?_) (fun c => ?_)
  · rw [if_pos c] at hf
    exact tL_law_b1138 N L xs hX k18 HK18 z2.2 x3 B hf
  · rw [if_neg c] at hf
    refine x_iconst (v := 0) C dL_law_1136 (by decide) ?_
    obtain ⟨rfl, rfl⟩ := rtn hf
    exact B.2.2.2.2.2.1 _ _ rfl rfl (nrB (Or.inl rfl)) _ _ dL_law_1137
def fL_law_B18 (N : Nat) (L : Nat) (xs : Nat → Int32) (k18 : pH → Int32 → Option (Int32 × pH)) (h : pH) (x3 : Int32) : Option (Int32 × pH) :=
  if ((Int32.ofNat L) - 6) < x3 then (some (1, h)) else (if ix x3 L = true then (if ((xs x3.toNatClampNeg) &&& 63) = 0 then (fL_law_b184 N L xs k18 h x3) else (if ((xs x3.toNatClampNeg) &&& 63) = 1 then (fL_law_b217 N L xs k18 h x3) else (if ((xs x3.toNatClampNeg) &&& 63) = 2 then (fL_law_b240 N L xs k18 h x3) else (if ((xs x3.toNatClampNeg) &&& 63) = 3 then (fL_law_b263 N L xs k18 h x3) else (if ((xs x3.toNatClampNeg) &&& 63) = 4 then (fL_law_b286 N L xs k18 h x3) else (if ((xs x3.toNatClampNeg) &&& 63) = 5 then (fL_law_b309 N L xs k18 h x3) else (if ((xs x3.toNatClampNeg) &&& 63) = 6 then (fL_law_b342 N L xs k18 h x3) else (if ((xs x3.toNatClampNeg) &&& 63) = 7 then (fL_law_b365 N L xs k18 h x3) else (if ((xs x3.toNatClampNeg) &&& 63) = 8 then (fL_law_b398 N L xs k18 h x3) else (if ((xs x3.toNatClampNeg) &&& 63) = 9 then (fL_law_b431 N L xs k18 h x3) else (if ((xs x3.toNatClampNeg) &&& 63) = 10 then (fL_law_b454 N L xs k18 h x3) else (if ((xs x3.toNatClampNeg) &&& 63) = 11 then (fL_law_b487 N L xs k18 h x3) else (if ((xs x3.toNatClampNeg) &&& 63) = 12 then (fL_law_b520 N L xs k18 h x3) else (if ((xs x3.toNatClampNeg) &&& 63) = 13 then (fL_law_b543 N L xs k18 h x3) else (if ((xs x3.toNatClampNeg) &&& 63) = 14 then (fL_law_b556 N L xs k18 h x3) else (if ((xs x3.toNatClampNeg) &&& 63) = 15 then (fL_law_b569 N L xs k18 h x3) else (if ((xs x3.toNatClampNeg) &&& 63) = 16 then (fL_law_b592 N L xs k18 h x3) else (if ((xs x3.toNatClampNeg) &&& 63) = 17 then (fL_law_b615 N L xs k18 h x3) else (if ((xs x3.toNatClampNeg) &&& 63) = 18 then (fL_law_b648 N L xs k18 h x3) else (if ((xs x3.toNatClampNeg) &&& 63) = 19 then (fL_law_b681 N L xs k18 h x3) else (if ((xs x3.toNatClampNeg) &&& 63) = 20 then (fL_law_b694 N L xs k18 h x3) else (if ((xs x3.toNatClampNeg) &&& 63) = 21 then (fL_law_b717 N L xs k18 h x3) else (if ((xs x3.toNatClampNeg) &&& 63) = 22 then (fL_law_b740 N L xs k18 h x3) else (if ((xs x3.toNatClampNeg) &&& 63) = 23 then (fL_law_b753 N L xs k18 h x3) else (if ((xs x3.toNatClampNeg) &&& 63) = 24 then (fL_law_b766 N L xs k18 h x3) else (if ((xs x3.toNatClampNeg) &&& 63) = 25 then (fL_law_b810 N L xs k18 h x3) else (if ((xs x3.toNatClampNeg) &&& 63) = 26 then (fL_law_b853 N L xs k18 h x3) else (if ((xs x3.toNatClampNeg) &&& 63) = 27 then (fL_law_b896 N L xs k18 h x3) else (if ((xs x3.toNatClampNeg) &&& 63) = 28 then (fL_law_b919 N L xs k18 h x3) else (if ((xs x3.toNatClampNeg) &&& 63) = 29 then (fL_law_b972 N L xs k18 h x3) else (if ((xs x3.toNatClampNeg) &&& 63) = 30 then (fL_law_b1015 N L xs k18 h x3) else (if ((xs x3.toNatClampNeg) &&& 63) = 31 then (fL_law_b1078 N L xs k18 h x3) else (if ((xs x3.toNatClampNeg) &&& 63) = 32 then (fL_law_b1101 N L xs k18 h x3) else (if ((xs x3.toNatClampNeg) &&& 63) = 33 then (fL_law_b1124 N L xs k18 h x3) else (fL_law_b1138 N L xs k18 h x3))))))))))))))))))))))))))))))))))) else none)
set_option maxRecDepth 100000 in
set_option maxHeartbeats 4000000 in
theorem tL_law_B18 {X : Xt} {v : Int32} {h' : pH} (N : Nat) {b : Nat} (L : Nat) (xs : Nat → Int32) (hX : Sx X b L xs) (k18 : pH → Int32 → Option (Int32 × pH)) (HK18 : ∀ (h : pH) (x3 : Int32), k18 h x3 = some (v, h') → Wx X 4 18 [(0, .ref b), (1, rf (qo X) 1), (2, rf (qo X) 49), (3, .int x3)] [] h) (h : pH) (x3 : Int32) (B : Bd (lo X) (qo X) cL_law RL 4 (some .boolean) 8 186 (some (.int v)) h' X) (hf : fL_law_B18 N L xs k18 h x3 = some (v, h')) : Wx X 4 18 [(0, .ref b), (1, rf (qo X) 1), (2, rf (qo X) 49), (3, .int x3)] [] h := by
  have C := B.1
  unfold fL_law_B18 at hf
  refine x_iload_n (i := 3) 3 C dL_law_18 rfl rfl ?_
  refine x_aload_nS (i := 0) 0 C dL_law_19 rfl rfl ?_
  refine x_slen C hX dL_law_20 ?_
  refine x_bipush (v := 6) C dL_law_21 (by decide) ?_
  refine x_isub C dL_law_23 ?_
  refine x_icmp_gt (tgt := 1144) C dL_law_24 (by decide) (fun c => ?_) (fun c => ?_)
  · rw [if_pos c] at hf
    refine x_iconst (v := 1) C dL_law_1144 (by decide) ?_
    obtain ⟨rfl, rfl⟩ := rtn hf
    exact B.2.2.2.2.2.1 _ _ rfl rfl (nrB (Or.inr rfl)) _ _ dL_law_1145
  · rw [if_neg c] at hf
    refine x_aload_nS (i := 0) 0 C dL_law_27 rfl rfl ?_
    refine x_iload_n (i := 3) 3 C dL_law_28 rfl rfl ?_
    obtain ⟨g1, hf⟩ := ife hf
    refine x_sld C hX dL_law_29 g1 ?_
    refine x_bipush (v := 63) C dL_law_30 (by decide) ?_
    refine x_iand C dL_law_32 ?_
    by_cases c0 : ((xs x3.toNatClampNeg) &&& 63) = 0
    · rw [if_pos c0] at hf
      refine x_tabIn (w := 0) (tgt := 184) (off := 151) C dL_law_33 c0 (by decide) (by decide) (by decide) (by decide) ?_
      exact tL_law_b184 N L xs hX k18 HK18 h x3 B hf
    rw [if_neg c0] at hf
    by_cases c1 : ((xs x3.toNatClampNeg) &&& 63) = 1
    · rw [if_pos c1] at hf
      refine x_tabIn (w := 1) (tgt := 217) (off := 184) C dL_law_33 c1 (by decide) (by decide) (by decide) (by decide) ?_
      exact tL_law_b217 N L xs hX k18 HK18 h x3 B hf
    rw [if_neg c1] at hf
    by_cases c2 : ((xs x3.toNatClampNeg) &&& 63) = 2
    · rw [if_pos c2] at hf
      refine x_tabIn (w := 2) (tgt := 240) (off := 207) C dL_law_33 c2 (by decide) (by decide) (by decide) (by decide) ?_
      exact tL_law_b240 N L xs hX k18 HK18 h x3 B hf
    rw [if_neg c2] at hf
    by_cases c3 : ((xs x3.toNatClampNeg) &&& 63) = 3
    · rw [if_pos c3] at hf
      refine x_tabIn (w := 3) (tgt := 263) (off := 230) C dL_law_33 c3 (by decide) (by decide) (by decide) (by decide) ?_
      exact tL_law_b263 N L xs hX k18 HK18 h x3 B hf
    rw [if_neg c3] at hf
    by_cases c4 : ((xs x3.toNatClampNeg) &&& 63) = 4
    · rw [if_pos c4] at hf
      refine x_tabIn (w := 4) (tgt := 286) (off := 253) C dL_law_33 c4 (by decide) (by decide) (by decide) (by decide) ?_
      exact tL_law_b286 N L xs hX k18 HK18 h x3 B hf
    rw [if_neg c4] at hf
    by_cases c5 : ((xs x3.toNatClampNeg) &&& 63) = 5
    · rw [if_pos c5] at hf
      refine x_tabIn (w := 5) (tgt := 309) (off := 276) C dL_law_33 c5 (by decide) (by decide) (by decide) (by decide) ?_
      exact tL_law_b309 N L xs hX k18 HK18 h x3 B hf
    rw [if_neg c5] at hf
    by_cases c6 : ((xs x3.toNatClampNeg) &&& 63) = 6
    · rw [if_pos c6] at hf
      refine x_tabIn (w := 6) (tgt := 342) (off := 309) C dL_law_33 c6 (by decide) (by decide) (by decide) (by decide) ?_
      exact tL_law_b342 N L xs hX k18 HK18 h x3 B hf
    rw [if_neg c6] at hf
    by_cases c7 : ((xs x3.toNatClampNeg) &&& 63) = 7
    · rw [if_pos c7] at hf
      refine x_tabIn (w := 7) (tgt := 365) (off := 332) C dL_law_33 c7 (by decide) (by decide) (by decide) (by decide) ?_
      exact tL_law_b365 N L xs hX k18 HK18 h x3 B hf
    rw [if_neg c7] at hf
    by_cases c8 : ((xs x3.toNatClampNeg) &&& 63) = 8
    · rw [if_pos c8] at hf
      refine x_tabIn (w := 8) (tgt := 398) (off := 365) C dL_law_33 c8 (by decide) (by decide) (by decide) (by decide) ?_
      exact tL_law_b398 N L xs hX k18 HK18 h x3 B hf
    rw [if_neg c8] at hf
    by_cases c9 : ((xs x3.toNatClampNeg) &&& 63) = 9
    · rw [if_pos c9] at hf
      refine x_tabIn (w := 9) (tgt := 431) (off := 398) C dL_law_33 c9 (by decide) (by decide) (by decide) (by decide) ?_
      exact tL_law_b431 N L xs hX k18 HK18 h x3 B hf
    rw [if_neg c9] at hf
    by_cases c10 : ((xs x3.toNatClampNeg) &&& 63) = 10
    · rw [if_pos c10] at hf
      refine x_tabIn (w := 10) (tgt := 454) (off := 421) C dL_law_33 c10 (by decide) (by decide) (by decide) (by decide) ?_
      exact tL_law_b454 N L xs hX k18 HK18 h x3 B hf
    rw [if_neg c10] at hf
    by_cases c11 : ((xs x3.toNatClampNeg) &&& 63) = 11
    · rw [if_pos c11] at hf
      refine x_tabIn (w := 11) (tgt := 487) (off := 454) C dL_law_33 c11 (by decide) (by decide) (by decide) (by decide) ?_
      exact tL_law_b487 N L xs hX k18 HK18 h x3 B hf
    rw [if_neg c11] at hf
    by_cases c12 : ((xs x3.toNatClampNeg) &&& 63) = 12
    · rw [if_pos c12] at hf
      refine x_tabIn (w := 12) (tgt := 520) (off := 487) C dL_law_33 c12 (by decide) (by decide) (by decide) (by decide) ?_
      exact tL_law_b520 N L xs hX k18 HK18 h x3 B hf
    rw [if_neg c12] at hf
    by_cases c13 : ((xs x3.toNatClampNeg) &&& 63) = 13
    · rw [if_pos c13] at hf
      refine x_tabIn (w := 13) (tgt := 543) (off := 510) C dL_law_33 c13 (by decide) (by decide) (by decide) (by decide) ?_
      exact tL_law_b543 N L xs hX k18 HK18 h x3 B hf
    rw [if_neg c13] at hf
    by_cases c14 : ((xs x3.toNatClampNeg) &&& 63) = 14
    · rw [if_pos c14] at hf
      refine x_tabIn (w := 14) (tgt := 556) (off := 523) C dL_law_33 c14 (by decide) (by decide) (by decide) (by decide) ?_
      exact tL_law_b556 N L xs hX k18 HK18 h x3 B hf
    rw [if_neg c14] at hf
    by_cases c15 : ((xs x3.toNatClampNeg) &&& 63) = 15
    · rw [if_pos c15] at hf
      refine x_tabIn (w := 15) (tgt := 569) (off := 536) C dL_law_33 c15 (by decide) (by decide) (by decide) (by decide) ?_
      exact tL_law_b569 N L xs hX k18 HK18 h x3 B hf
    rw [if_neg c15] at hf
    by_cases c16 : ((xs x3.toNatClampNeg) &&& 63) = 16
    · rw [if_pos c16] at hf
      refine x_tabIn (w := 16) (tgt := 592) (off := 559) C dL_law_33 c16 (by decide) (by decide) (by decide) (by decide) ?_
      exact tL_law_b592 N L xs hX k18 HK18 h x3 B hf
    rw [if_neg c16] at hf
    by_cases c17 : ((xs x3.toNatClampNeg) &&& 63) = 17
    · rw [if_pos c17] at hf
      refine x_tabIn (w := 17) (tgt := 615) (off := 582) C dL_law_33 c17 (by decide) (by decide) (by decide) (by decide) ?_
      exact tL_law_b615 N L xs hX k18 HK18 h x3 B hf
    rw [if_neg c17] at hf
    by_cases c18 : ((xs x3.toNatClampNeg) &&& 63) = 18
    · rw [if_pos c18] at hf
      refine x_tabIn (w := 18) (tgt := 648) (off := 615) C dL_law_33 c18 (by decide) (by decide) (by decide) (by decide) ?_
      exact tL_law_b648 N L xs hX k18 HK18 h x3 B hf
    rw [if_neg c18] at hf
    by_cases c19 : ((xs x3.toNatClampNeg) &&& 63) = 19
    · rw [if_pos c19] at hf
      refine x_tabIn (w := 19) (tgt := 681) (off := 648) C dL_law_33 c19 (by decide) (by decide) (by decide) (by decide) ?_
      exact tL_law_b681 N L xs hX k18 HK18 h x3 B hf
    rw [if_neg c19] at hf
    by_cases c20 : ((xs x3.toNatClampNeg) &&& 63) = 20
    · rw [if_pos c20] at hf
      refine x_tabIn (w := 20) (tgt := 694) (off := 661) C dL_law_33 c20 (by decide) (by decide) (by decide) (by decide) ?_
      exact tL_law_b694 N L xs hX k18 HK18 h x3 B hf
    rw [if_neg c20] at hf
    by_cases c21 : ((xs x3.toNatClampNeg) &&& 63) = 21
    · rw [if_pos c21] at hf
      refine x_tabIn (w := 21) (tgt := 717) (off := 684) C dL_law_33 c21 (by decide) (by decide) (by decide) (by decide) ?_
      exact tL_law_b717 N L xs hX k18 HK18 h x3 B hf
    rw [if_neg c21] at hf
    by_cases c22 : ((xs x3.toNatClampNeg) &&& 63) = 22
    · rw [if_pos c22] at hf
      refine x_tabIn (w := 22) (tgt := 740) (off := 707) C dL_law_33 c22 (by decide) (by decide) (by decide) (by decide) ?_
      exact tL_law_b740 N L xs hX k18 HK18 h x3 B hf
    rw [if_neg c22] at hf
    by_cases c23 : ((xs x3.toNatClampNeg) &&& 63) = 23
    · rw [if_pos c23] at hf
      refine x_tabIn (w := 23) (tgt := 753) (off := 720) C dL_law_33 c23 (by decide) (by decide) (by decide) (by decide) ?_
      exact tL_law_b753 N L xs hX k18 HK18 h x3 B hf
    rw [if_neg c23] at hf
    by_cases c24 : ((xs x3.toNatClampNeg) &&& 63) = 24
    · rw [if_pos c24] at hf
      refine x_tabIn (w := 24) (tgt := 766) (off := 733) C dL_law_33 c24 (by decide) (by decide) (by decide) (by decide) ?_
      exact tL_law_b766 N L xs hX k18 HK18 h x3 B hf
    rw [if_neg c24] at hf
    by_cases c25 : ((xs x3.toNatClampNeg) &&& 63) = 25
    · rw [if_pos c25] at hf
      refine x_tabIn (w := 25) (tgt := 810) (off := 777) C dL_law_33 c25 (by decide) (by decide) (by decide) (by decide) ?_
      exact tL_law_b810 N L xs hX k18 HK18 h x3 B hf
    rw [if_neg c25] at hf
    by_cases c26 : ((xs x3.toNatClampNeg) &&& 63) = 26
    · rw [if_pos c26] at hf
      refine x_tabIn (w := 26) (tgt := 853) (off := 820) C dL_law_33 c26 (by decide) (by decide) (by decide) (by decide) ?_
      exact tL_law_b853 N L xs hX k18 HK18 h x3 B hf
    rw [if_neg c26] at hf
    by_cases c27 : ((xs x3.toNatClampNeg) &&& 63) = 27
    · rw [if_pos c27] at hf
      refine x_tabIn (w := 27) (tgt := 896) (off := 863) C dL_law_33 c27 (by decide) (by decide) (by decide) (by decide) ?_
      exact tL_law_b896 N L xs hX k18 HK18 h x3 B hf
    rw [if_neg c27] at hf
    by_cases c28 : ((xs x3.toNatClampNeg) &&& 63) = 28
    · rw [if_pos c28] at hf
      refine x_tabIn (w := 28) (tgt := 919) (off := 886) C dL_law_33 c28 (by decide) (by decide) (by decide) (by decide) ?_
      exact tL_law_b919 N L xs hX k18 HK18 h x3 B hf
    rw [if_neg c28] at hf
    by_cases c29 : ((xs x3.toNatClampNeg) &&& 63) = 29
    · rw [if_pos c29] at hf
      refine x_tabIn (w := 29) (tgt := 972) (off := 939) C dL_law_33 c29 (by decide) (by decide) (by decide) (by decide) ?_
      exact tL_law_b972 N L xs hX k18 HK18 h x3 B hf
    rw [if_neg c29] at hf
    by_cases c30 : ((xs x3.toNatClampNeg) &&& 63) = 30
    · rw [if_pos c30] at hf
      refine x_tabIn (w := 30) (tgt := 1015) (off := 982) C dL_law_33 c30 (by decide) (by decide) (by decide) (by decide) ?_
      exact tL_law_b1015 N L xs hX k18 HK18 h x3 B hf
    rw [if_neg c30] at hf
    by_cases c31 : ((xs x3.toNatClampNeg) &&& 63) = 31
    · rw [if_pos c31] at hf
      refine x_tabIn (w := 31) (tgt := 1078) (off := 1045) C dL_law_33 c31 (by decide) (by decide) (by decide) (by decide) ?_
      exact tL_law_b1078 N L xs hX k18 HK18 h x3 B hf
    rw [if_neg c31] at hf
    by_cases c32 : ((xs x3.toNatClampNeg) &&& 63) = 32
    · rw [if_pos c32] at hf
      refine x_tabIn (w := 32) (tgt := 1101) (off := 1068) C dL_law_33 c32 (by decide) (by decide) (by decide) (by decide) ?_
      exact tL_law_b1101 N L xs hX k18 HK18 h x3 B hf
    rw [if_neg c32] at hf
    by_cases c33 : ((xs x3.toNatClampNeg) &&& 63) = 33
    · rw [if_pos c33] at hf
      refine x_tabIn (w := 33) (tgt := 1124) (off := 1091) C dL_law_33 c33 (by decide) (by decide) (by decide) (by decide) ?_
      exact tL_law_b1124 N L xs hX k18 HK18 h x3 B hf
    rw [if_neg c33] at hf
    refine x_tabOut (n := 34) (tgt := 1138) C dL_law_33 (fun i hi => match i, hi with | 0, _ => c0 | 1, _ => c1 | 2, _ => c2 | 3, _ => c3 | 4, _ => c4 | 5, _ => c5 | 6, _ => c6 | 7, _ => c7 | 8, _ => c8 | 9, _ => c9 | 10, _ => c10 | 11, _ => c11 | 12, _ => c12 | 13, _ => c13 | 14, _ => c14 | 15, _ => c15 | 16, _ => c16 | 17, _ => c17 | 18, _ => c18 | 19, _ => c19 | 20, _ => c20 | 21, _ => c21 | 22, _ => c22 | 23, _ => c23 | 24, _ => c24 | 25, _ => c25 | 26, _ => c26 | 27, _ => c27 | 28, _ => c28 | 29, _ => c29 | 30, _ => c30 | 31, _ => c31 | 32, _ => c32 | 33, _ => c33 | i + 34, hi => absurd hi (by omega)) (by decide) ?_
    exact tL_law_b1138 N L xs hX k18 HK18 h x3 B hf
def fL_law_L18 (N : Nat) (L : Nat) (xs : Nat → Int32) : Nat → pH → Int32 → Option (Int32 × pH)
  | 0 => fun _ _ => none
  | n + 1 => fL_law_B18 N L xs (fL_law_L18 N L xs n)
theorem tL_law_L18 {X : Xt} {v : Int32} {h' : pH} (N : Nat) {b : Nat} (L : Nat) (xs : Nat → Int32) (hX : Sx X b L xs) (B : Bd (lo X) (qo X) cL_law RL 4 (some .boolean) 8 186 (some (.int v)) h' X) : ∀ (n : Nat) (h : pH) (x3 : Int32), fL_law_L18 N L xs n h x3 = some (v, h') → Wx X 4 18 [(0, .ref b), (1, rf (qo X) 1), (2, rf (qo X) 49), (3, .int x3)] [] h := by
  intro n
  induction n with
  | zero => intro h x3 hf; exact absurd (show (none : Option (Int32 × pH)) = some (v, h') from hf) (fun z => by cases z)
  | succ n ih => intro h x3 hf; exact tL_law_B18 N L xs hX (fL_law_L18 N L xs n) ih h x3 B hf
def fL_law (N : Nat) (L : Nat) (xs : Nat → Int32) (h : pH)  : Option (Int32 × pH) :=
  fL_law_L18 N L xs N h 0
set_option maxRecDepth 100000 in
set_option maxHeartbeats 4000000 in
theorem tL_law {X : Xt} {v : Int32} {h' : pH} (N : Nat) {b : Nat} (L : Nat) (xs : Nat → Int32) (hX : Sx X b L xs) (h : pH)  (B : Bd (lo X) (qo X) cL_law RL 4 (some .boolean) 8 186 (some (.int v)) h' X) (hf : fL_law N L xs h  = some (v, h')) : Wx X 4 16 [(0, .ref b), (1, rf (qo X) 1), (2, rf (qo X) 49)] [] h := by
  have C := B.1
  unfold fL_law at hf
  refine x_iconst (v := 0) C dL_law_16 (by decide) ?_
  refine x_istore_n (i := 3) (lv' := [(3, .int 0), (0, .ref b), (1, rf (qo X) 1), (2, rf (qo X) 49)]) C dL_law_17 rfl (by decide) rfl ?_
  refine x_lv [1, 2, 3, 0] rfl ?_
  exact tL_law_L18 N L xs hX  B N h 0 hf
