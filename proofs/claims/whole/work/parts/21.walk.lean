def fX5_put_b20 (N : Nat) (h : pH)  : Option (Unit × pH) :=
  some ((), h)
set_option maxRecDepth 100000 in
set_option maxHeartbeats 4000000 in
theorem tX5_put_b20 {X : Xt} {v : Unit} {h' : pH} (N : Nat) (h : pH)  (B : Bd (lo X) (qo X) cX5_put RX5 3 none 1 22 none h' X) (hf : fX5_put_b20 N h  = some (v, h')) : Wx X 3 20 [] [] h := by
  have C := B.1
  unfold fX5_put_b20 at hf
  obtain ⟨rfl, rfl⟩ := rtn hf
  exact B.2.2.2.2.2.2.2.2.2 rfl rfl _ _ dX5_put_20
def fX5_put (N : Nat) (h : pH) (r0 : Nat) (x1 : Int32) (x2 : Int32) : Option (Unit × pH) :=
  if isO 5 r0 = true then ((fX5_hasItems N h r0 x1 1).bind fun z1 => (if z1.1 = 0 then (fX5_put_b20 N z1.2) else (if isO 5 r0 = true ∧ ¬ fR r0 0 = 0 then (if isO 5 r0 = true then ((fX5_lowestBits N z1.2 r0 x2).bind fun z2 => (if aK (fR r0 0) = 0 ∧ ix x1 (aN (fR r0 0)) = true then (fX5_put_b20 N (pw z2.2 (fR r0 0) x1.toNatClampNeg z2.1)) else none)) else none) else none))) else none
set_option maxRecDepth 100000 in
set_option maxHeartbeats 4000000 in
theorem tX5_put {X : Xt} {v : Unit} {h' : pH} (N : Nat) (h : pH) (r0 : Nat) (x1 : Int32) (x2 : Int32) (B : Bd (lo X) (qo X) cX5_put RX5 3 none 1 22 none h' X) (hf : fX5_put N h r0 x1 x2 = some (v, h')) : Wx X 3 0 [(0, rf (qo X) r0), (1, .int x1), (2, .int x2)] [] h := by
  have C := B.1
  unfold fX5_put at hf
  refine x_aload_n (i := 0) 0 C dX5_put_0 rfl rfl ?_
  refine x_iload_n (i := 1) 1 C dX5_put_1 rfl rfl ?_
  refine x_iconst (v := 1) C dX5_put_2 (by decide) ?_
  obtain ⟨g1, hf⟩ := ife hf
  obtain ⟨z1, e1, hf⟩ := bnd hf
  refine x_callV (r := r0) (As := [.int x1, .int 1]) (rest := []) C dX5_put_3 kmX5_32 miX5_hasItems (ctX5_hasItems (lo X) (qo X) N h r0 x1 1 z1.1 z1.2 e1) rfl rfl ⟨Nat.le_trans (by decide) B.2.2.2.1, Nat.le_trans (by decide) B.2.2.2.2.1⟩ (by simp [cat_i, cat_l, rf_cat]) g1 ?_
  refine x_if_eq (tgt := 20) C dX5_put_6 (by decide) (fun c => ?_) (fun c => ?_)
  · rw [if_pos c] at hf
    refine x_lv [] rfl ?_
    exact tX5_put_b20 N z1.2 B hf
  · rw [if_neg c] at hf
    refine x_aload_n (i := 0) 0 C dX5_put_9 rfl rfl ?_
    obtain ⟨g2, hf⟩ := ife hf
    refine x_getR (r := r0) C dX5_put_10 kfX5_9 g2.1 rfl g2.2 ?_
    refine x_iload_n (i := 1) 1 C dX5_put_13 rfl rfl ?_
    refine x_aload_n (i := 0) 0 C dX5_put_14 rfl rfl ?_
    refine x_iload_n (i := 2) 2 C dX5_put_15 rfl rfl ?_
    obtain ⟨g3, hf⟩ := ife hf
    obtain ⟨z2, e2, hf⟩ := bnd hf
    refine x_callV (r := r0) (As := [.int x2]) (rest := [.int x1, rf (qo X) (fR r0 0)]) C dX5_put_16 kmX5_36 miX5_lowestBits (ctX5_lowestBits (lo X) (qo X) N z1.2 r0 x2 z2.1 z2.2 e2) rfl rfl ⟨Nat.le_trans (by decide) B.2.2.2.1, Nat.le_trans (by decide) B.2.2.2.2.1⟩ (by simp [cat_i, cat_l, rf_cat]) g3 ?_
    obtain ⟨g4, hf⟩ := ife hf
    refine x_iast (r := (fR r0 0)) C dX5_put_19 g4.1 g4.2 ?_
    refine x_lv [] rfl ?_
    exact tX5_put_b20 N (pw z2.2 (fR r0 0) x1.toNatClampNeg z2.1) B hf
theorem ctX5_put (l : Launch) (q : Nat → Nat) (N : Nat) (h : pH) (r0 : Nat) (x1 : Int32) (x2 : Int32) (v : Unit) (h' : pH) (hf : fX5_put N h r0 x1 x2 = some (v, h')) : Ctr l q yX5_put cX5_put 3 none 1 22 [rf q r0, .int x1, .int x2] h h' none := by
  refine ct_of (own := RX5) (lv := [(0, rf q r0), (1, .int x1), (2, .int x2)]) (by decide +kernel) rfl (by simp [lg_sl, rf_cat, cat_i, cat_l]) (by first | rfl | simp [lv_args, rf_cat, cat_i, cat_l]) ?_
  intro X B
  obtain rfl := B.2.1
  obtain rfl := B.2.2.1
  exact tX5_put N h r0 x1 x2 B hf
def fX6_isPossible_b25 (N : Nat) (h : pH) (xs0 : Int32) : Option (Int32 × pH) :=
  if xs0 = 0 ∨ xs0 = 1 then (some (xs0, h)) else none
set_option maxRecDepth 100000 in
set_option maxHeartbeats 4000000 in
theorem tX6_isPossible_b25 {X : Xt} {v : Int32} {h' : pH} (N : Nat) (h : pH) (xs0 : Int32) (B : Bd (lo X) (qo X) cX6_isPossible RX6 2 (some .boolean) 1 22 (some (.int v)) h' X) (hf : fX6_isPossible_b25 N h xs0 = some (v, h')) : Wx X 2 25 [] [.int xs0] h := by
  have C := B.1
  unfold fX6_isPossible_b25 at hf
  obtain ⟨g1, hf⟩ := ife hf
  obtain ⟨rfl, rfl⟩ := rtn hf
  exact B.2.2.2.2.2.1 _ _ rfl rfl (nrB g1) _ _ dX6_isPossible_25
def fX6_isPossible_b24 (N : Nat) (h : pH)  : Option (Int32 × pH) :=
  fX6_isPossible_b25 N h 0
set_option maxRecDepth 100000 in
set_option maxHeartbeats 4000000 in
theorem tX6_isPossible_b24 {X : Xt} {v : Int32} {h' : pH} (N : Nat) (h : pH)  (B : Bd (lo X) (qo X) cX6_isPossible RX6 2 (some .boolean) 1 22 (some (.int v)) h' X) (hf : fX6_isPossible_b24 N h  = some (v, h')) : Wx X 2 24 [] [] h := by
  have C := B.1
  unfold fX6_isPossible_b24 at hf
  refine x_iconst (v := 0) C dX6_isPossible_24 (by decide) ?_
  exact tX6_isPossible_b25 N h 0 B hf
def fX6_isPossible (N : Nat) (h : pH) (x0 : Int32) (x1 : Int32) : Option (Int32 × pH) :=
  (fX8_within N h x0 0 24).bind fun z1 => (if z1.1 = 0 then (fX6_isPossible_b24 N z1.2) else ((fX8_within N z1.2 x1 0 18).bind fun z2 => (if z2.1 = 0 then (fX6_isPossible_b24 N z2.2) else (fX6_isPossible_b25 N z2.2 1))))
set_option maxRecDepth 100000 in
set_option maxHeartbeats 4000000 in
theorem tX6_isPossible {X : Xt} {v : Int32} {h' : pH} (N : Nat) (h : pH) (x0 : Int32) (x1 : Int32) (B : Bd (lo X) (qo X) cX6_isPossible RX6 2 (some .boolean) 1 22 (some (.int v)) h' X) (hf : fX6_isPossible N h x0 x1 = some (v, h')) : Wx X 2 0 [(0, .int x0), (1, .int x1)] [] h := by
  have C := B.1
  unfold fX6_isPossible at hf
  refine x_iload_n (i := 0) 0 C dX6_isPossible_0 rfl rfl ?_
  refine x_iconst (v := 0) C dX6_isPossible_1 (by decide) ?_
  refine x_bipush (v := 24) C dX6_isPossible_2 (by decide) ?_
  obtain ⟨z1, e1, hf⟩ := bnd hf
  refine x_callS (As := [.int x0, .int 0, .int 24]) (rest := []) C dX6_isPossible_4 kmX6_18 miX8_within (ctX8_within (lo X) (qo X) N h x0 0 24 z1.1 z1.2 e1) rfl rfl ⟨Nat.le_trans (by decide) B.2.2.2.1, Nat.le_trans (by decide) B.2.2.2.2.1⟩ (by simp [cat_i, cat_l, rf_cat]) ?_
  refine x_if_eq (tgt := 24) C dX6_isPossible_7 (by decide) (fun c => ?_) (fun c => ?_)
  · rw [if_pos c] at hf
    refine x_lv [] rfl ?_
    exact tX6_isPossible_b24 N z1.2 B hf
  · rw [if_neg c] at hf
    refine x_iload_n (i := 1) 1 C dX6_isPossible_10 rfl rfl ?_
    refine x_iconst (v := 0) C dX6_isPossible_11 (by decide) ?_
    refine x_bipush (v := 18) C dX6_isPossible_12 (by decide) ?_
    obtain ⟨z2, e2, hf⟩ := bnd hf
    refine x_callS (As := [.int x1, .int 0, .int 18]) (rest := []) C dX6_isPossible_14 kmX6_18 miX8_within (ctX8_within (lo X) (qo X) N z1.2 x1 0 18 z2.1 z2.2 e2) rfl rfl ⟨Nat.le_trans (by decide) B.2.2.2.1, Nat.le_trans (by decide) B.2.2.2.2.1⟩ (by simp [cat_i, cat_l, rf_cat]) ?_
    refine x_if_eq (tgt := 24) C dX6_isPossible_17 (by decide) (fun c => ?_) (fun c => ?_)
    · rw [if_pos c] at hf
      refine x_lv [] rfl ?_
      exact tX6_isPossible_b24 N z2.2 B hf
    · rw [if_neg c] at hf
      refine x_iconst (v := 1) C dX6_isPossible_20 (by decide) ?_
      refine x_goto (tgt := 25) C dX6_isPossible_21 (by decide) ?_
      refine x_lv [] rfl ?_
      exact tX6_isPossible_b25 N z2.2 1 B hf
theorem ctX6_isPossible (l : Launch) (q : Nat → Nat) (N : Nat) (h : pH) (x0 : Int32) (x1 : Int32) (v : Int32) (h' : pH) (hf : fX6_isPossible N h x0 x1 = some (v, h')) : Ctr l q yX6_isPossible cX6_isPossible 2 (some .boolean) 1 22 [.int x0, .int x1] h h' (some (.int v)) := by
  refine ct_of (own := RX6) (lv := [(0, .int x0), (1, .int x1)]) (by decide +kernel) rfl (by simp [lg_sl, rf_cat, cat_i, cat_l]) (by first | rfl | simp [lv_args, rf_cat, cat_i, cat_l]) ?_
  intro X B
  obtain rfl := B.2.1
  obtain rfl := B.2.2.1
  exact tX6_isPossible N h x0 x1 B hf
def fX6_isFull_b14 (N : Nat) (h : pH) (xs0 : Int32) : Option (Int32 × pH) :=
  if xs0 = 0 ∨ xs0 = 1 then (some (xs0, h)) else none
set_option maxRecDepth 100000 in
set_option maxHeartbeats 4000000 in
theorem tX6_isFull_b14 {X : Xt} {v : Int32} {h' : pH} (N : Nat) (h : pH) (xs0 : Int32) (B : Bd (lo X) (qo X) cX6_isFull RX6 1 (some .boolean) 0 0 (some (.int v)) h' X) (hf : fX6_isFull_b14 N h xs0 = some (v, h')) : Wx X 1 14 [] [.int xs0] h := by
  have C := B.1
  unfold fX6_isFull_b14 at hf
  obtain ⟨g1, hf⟩ := ife hf
  obtain ⟨rfl, rfl⟩ := rtn hf
  exact B.2.2.2.2.2.1 _ _ rfl rfl (nrB g1) _ _ dX6_isFull_14
def fX6_isFull (N : Nat) (h : pH)  : Option (Int32 × pH) :=
  if (h.1 35 2) < 8 then (fX6_isFull_b14 N h 0) else (fX6_isFull_b14 N h 1)
set_option maxRecDepth 100000 in
set_option maxHeartbeats 4000000 in
theorem tX6_isFull {X : Xt} {v : Int32} {h' : pH} (N : Nat) (h : pH)  (B : Bd (lo X) (qo X) cX6_isFull RX6 1 (some .boolean) 0 0 (some (.int v)) h' X) (hf : fX6_isFull N h  = some (v, h')) : Wx X 1 0 [(0, rf (qo X) 35)] [] h := by
  have C := B.1
  unfold fX6_isFull at hf
  refine x_aload_n (i := 0) 0 C dX6_isFull_0 rfl rfl ?_
  refine x_getI (r := 35) C dX6_isFull_1 kfX6_22 rfl ?_
  refine x_bipush (v := 8) C dX6_isFull_4 (by decide) ?_
  refine x_icmp_lt (tgt := 13) C dX6_isFull_6 (by decide) (fun c => ?_) (fun c => ?_)
  · rw [if_pos c] at hf
    refine x_iconst (v := 0) C dX6_isFull_13 (by decide) ?_
    refine x_lv [] rfl ?_
    exact tX6_isFull_b14 N h 0 B hf
  · rw [if_neg c] at hf
    refine x_iconst (v := 1) C dX6_isFull_9 (by decide) ?_
    refine x_goto (tgt := 14) C dX6_isFull_10 (by decide) ?_
    refine x_lv [] rfl ?_
    exact tX6_isFull_b14 N h 1 B hf
theorem ctX6_isFull (l : Launch) (q : Nat → Nat) (N : Nat) (h : pH)  (v : Int32) (h' : pH) (hf : fX6_isFull N h  = some (v, h')) : Ctr l q yX6_isFull cX6_isFull 1 (some .boolean) 0 0 [rf q 35] h h' (some (.int v)) := by
  refine ct_of (own := RX6) (lv := [(0, rf q 35)]) (by decide +kernel) rfl (by simp [lg_sl, rf_cat, cat_i, cat_l]) (by first | rfl | simp [lv_args, rf_cat, cat_i, cat_l]) ?_
  intro X B
  obtain rfl := B.2.1
  obtain rfl := B.2.2.1
  exact tX6_isFull N h  B hf
def fX6_add_b37 (N : Nat) (h : pH)  : Option (Unit × pH) :=
  some ((), h)
set_option maxRecDepth 100000 in
set_option maxHeartbeats 4000000 in
theorem tX6_add_b37 {X : Xt} {v : Unit} {h' : pH} (N : Nat) (h : pH)  (B : Bd (lo X) (qo X) cX6_add RX6 3 none 1 20 none h' X) (hf : fX6_add_b37 N h  = some (v, h')) : Wx X 3 37 [] [] h := by
  have C := B.1
  unfold fX6_add_b37 at hf
  obtain ⟨rfl, rfl⟩ := rtn hf
  exact B.2.2.2.2.2.2.2.2.2 rfl rfl _ _ dX6_add_37
def fX6_add (N : Nat) (h : pH) (x1 : Int32) (x2 : Int32) : Option (Unit × pH) :=
  (fX6_isFull N h).bind fun z1 => (if z1.1 = 0 then (if ix (z1.2.1 35 2) 8 = true then (if ix ((pw z1.2 36 (z1.2.1 35 2).toNatClampNeg x1).1 35 2) 8 = true then (fX6_add_b37 N (pw (pw (pw z1.2 36 (z1.2.1 35 2).toNatClampNeg x1) 37 ((pw z1.2 36 (z1.2.1 35 2).toNatClampNeg x1).1 35 2).toNatClampNeg x2) 35 2 (((pw (pw z1.2 36 (z1.2.1 35 2).toNatClampNeg x1) 37 ((pw z1.2 36 (z1.2.1 35 2).toNatClampNeg x1).1 35 2).toNatClampNeg x2).1 35 2) + 1))) else none) else none) else (fX6_add_b37 N z1.2))
set_option maxRecDepth 100000 in
set_option maxHeartbeats 4000000 in
theorem tX6_add {X : Xt} {v : Unit} {h' : pH} (N : Nat) (h : pH) (x1 : Int32) (x2 : Int32) (B : Bd (lo X) (qo X) cX6_add RX6 3 none 1 20 none h' X) (hf : fX6_add N h x1 x2 = some (v, h')) : Wx X 3 0 [(0, rf (qo X) 35), (1, .int x1), (2, .int x2)] [] h := by
  have C := B.1
  unfold fX6_add at hf
  refine x_aload_n (i := 0) 0 C dX6_add_0 rfl rfl ?_
  obtain ⟨z1, e1, hf⟩ := bnd hf
  refine x_callV (r := 35) (As := []) (rest := []) C dX6_add_1 kmX6_26 miX6_isFull (ctX6_isFull (lo X) (qo X) N h z1.1 z1.2 e1) rfl rfl ⟨Nat.le_trans (by decide) B.2.2.2.1, Nat.le_trans (by decide) B.2.2.2.2.1⟩ (by simp [cat_i, cat_l, rf_cat]) rfl ?_
  refine x_if_ne (tgt := 37) C dX6_add_4 (by decide) (fun c => ?_) (fun c => ?_)
  · rw [if_neg c] at hf
    refine x_lv [] rfl ?_
    exact tX6_add_b37 N z1.2 B hf
  · rw [if_pos c] at hf
    refine x_aload_n (i := 0) 0 C dX6_add_7 rfl rfl ?_
    refine x_getR (r := 35) (r2 := 36) C dX6_add_8 kfX6_9 rfl rfl (by decide) ?_
    refine x_aload_n (i := 0) 0 C dX6_add_11 rfl rfl ?_
    refine x_getI (r := 35) C dX6_add_12 kfX6_22 rfl ?_
    refine x_iload_n (i := 1) 1 C dX6_add_15 rfl rfl ?_
    obtain ⟨g1, hf⟩ := ife hf
    refine x_iast (r := 36) C dX6_add_16 rfl g1 ?_
    refine x_aload_n (i := 0) 0 C dX6_add_17 rfl rfl ?_
    refine x_getR (r := 35) (r2 := 37) C dX6_add_18 kfX6_15 rfl rfl (by decide) ?_
    refine x_aload_n (i := 0) 0 C dX6_add_21 rfl rfl ?_
    refine x_getI (r := 35) C dX6_add_22 kfX6_22 rfl ?_
    refine x_iload_n (i := 2) 2 C dX6_add_25 rfl rfl ?_
    obtain ⟨g2, hf⟩ := ife hf
    refine x_iast (r := 37) C dX6_add_26 rfl g2 ?_
    refine x_aload_n (i := 0) 0 C dX6_add_27 rfl rfl ?_
    refine x_dupA C dX6_add_28 ?_
    refine x_getI (r := 35) C dX6_add_29 kfX6_22 rfl ?_
    refine x_iconst (v := 1) C dX6_add_32 (by decide) ?_
    refine x_iadd C dX6_add_33 ?_
    refine x_putI (r := 35) C dX6_add_34 kfX6_22 rfl rfl rfl ?_
    refine x_lv [] rfl ?_
    exact tX6_add_b37 N (pw (pw (pw z1.2 36 (z1.2.1 35 2).toNatClampNeg x1) 37 ((pw z1.2 36 (z1.2.1 35 2).toNatClampNeg x1).1 35 2).toNatClampNeg x2) 35 2 (((pw (pw z1.2 36 (z1.2.1 35 2).toNatClampNeg x1) 37 ((pw z1.2 36 (z1.2.1 35 2).toNatClampNeg x1).1 35 2).toNatClampNeg x2).1 35 2) + 1)) B hf
theorem ctX6_add (l : Launch) (q : Nat → Nat) (N : Nat) (h : pH) (x1 : Int32) (x2 : Int32) (v : Unit) (h' : pH) (hf : fX6_add N h x1 x2 = some (v, h')) : Ctr l q yX6_add cX6_add 3 none 1 20 [rf q 35, .int x1, .int x2] h h' none := by
  refine ct_of (own := RX6) (lv := [(0, rf q 35), (1, .int x1), (2, .int x2)]) (by decide +kernel) rfl (by simp [lg_sl, rf_cat, cat_i, cat_l]) (by first | rfl | simp [lv_args, rf_cat, cat_i, cat_l]) ?_
  intro X B
  obtain rfl := B.2.1
  obtain rfl := B.2.2.1
  exact tX6_add N h x1 x2 B hf
def fX6_agreeWith_b44 (N : Nat) (h : pH)  : Option (Int32 × pH) :=
  some (0, h)
set_option maxRecDepth 100000 in
set_option maxHeartbeats 4000000 in
theorem tX6_agreeWith_b44 {X : Xt} {v : Int32} {h' : pH} (N : Nat) (h : pH)  (B : Bd (lo X) (qo X) cX6_agreeWith RX6 5 (some .boolean) 0 0 (some (.int v)) h' X) (hf : fX6_agreeWith_b44 N h  = some (v, h')) : Wx X 5 44 [] [] h := by
  have C := B.1
  unfold fX6_agreeWith_b44 at hf
  refine x_iconst (v := 0) C dX6_agreeWith_44 (by decide) ?_
  obtain ⟨rfl, rfl⟩ := rtn hf
  exact B.2.2.2.2.2.1 _ _ rfl rfl (nrB (Or.inl rfl)) _ _ dX6_agreeWith_45
def fX6_agreeWith_B2 (N : Nat) (k2 : pH → Nat → Int32 → Int32 → Option (Int32 × pH)) (h : pH) (r1 : Nat) (x2 : Int32) (x3 : Int32) : Option (Int32 × pH) :=
  if (h.1 35 2) ≤ x3 then (some (1, h)) else (if ix x3 8 = true then (if x2 < (h.1 36 x3.toNatClampNeg) then (fX6_agreeWith_b44 N h) else (if aK r1 = 0 then (if (Int32.ofNat (aN r1)) ≤ (h.1 36 x3.toNatClampNeg) then (fX6_agreeWith_b44 N h) else (if aK r1 = 0 ∧ ix (h.1 36 x3.toNatClampNeg) (aN r1) = true then (if ix x3 8 = true then (if (h.1 r1 (h.1 36 x3.toNatClampNeg).toNatClampNeg) = (h.1 37 x3.toNatClampNeg) then (k2 h r1 x2 (x3 + 1)) else (fX6_agreeWith_b44 N h)) else none) else none)) else none)) else none)
set_option maxRecDepth 100000 in
set_option maxHeartbeats 4000000 in
theorem tX6_agreeWith_B2 {X : Xt} {v : Int32} {h' : pH} (N : Nat) (k2 : pH → Nat → Int32 → Int32 → Option (Int32 × pH)) (HK2 : ∀ (h : pH) (r1 : Nat) (x2 : Int32) (x3 : Int32), k2 h r1 x2 x3 = some (v, h') → Wx X 5 2 [(0, rf (qo X) 35), (1, rf (qo X) r1), (2, .int x2), (3, .int x3)] [] h) (h : pH) (r1 : Nat) (x2 : Int32) (x3 : Int32) (B : Bd (lo X) (qo X) cX6_agreeWith RX6 5 (some .boolean) 0 0 (some (.int v)) h' X) (hf : fX6_agreeWith_B2 N k2 h r1 x2 x3 = some (v, h')) : Wx X 5 2 [(0, rf (qo X) 35), (1, rf (qo X) r1), (2, .int x2), (3, .int x3)] [] h := by
  have C := B.1
  unfold fX6_agreeWith_B2 at hf
  refine x_iload_n (i := 3) 3 C dX6_agreeWith_2 rfl rfl ?_
  refine x_aload_n (i := 0) 0 C dX6_agreeWith_3 rfl rfl ?_
  refine x_getI (r := 35) C dX6_agreeWith_4 kfX6_22 rfl ?_
  refine x_icmp_ge (tgt := 52) C dX6_agreeWith_7 (by decide) (fun c => ?_) (fun c => ?_)
  · rw [if_pos c] at hf
    refine x_iconst (v := 1) C dX6_agreeWith_52 (by decide) ?_
    obtain ⟨rfl, rfl⟩ := rtn hf
    exact B.2.2.2.2.2.1 _ _ rfl rfl (nrB (Or.inr rfl)) _ _ dX6_agreeWith_53
  · rw [if_neg c] at hf
    refine x_aload_n (i := 0) 0 C dX6_agreeWith_10 rfl rfl ?_
    refine x_getR (r := 35) (r2 := 36) C dX6_agreeWith_11 kfX6_9 rfl rfl (by decide) ?_
    refine x_iload_n (i := 3) 3 C dX6_agreeWith_14 rfl rfl ?_
    obtain ⟨g1, hf⟩ := ife hf
    refine x_iald (r := 36) C dX6_agreeWith_15 rfl g1 ?_
    refine x_istore (lv' := [(4, .int (h.1 36 x3.toNatClampNeg)), (0, rf (qo X) 35), (1, rf (qo X) r1), (2, .int x2), (3, .int x3)]) C dX6_agreeWith_16 (by decide) rfl ?_
    refine x_iload 0 C dX6_agreeWith_18 rfl ?_
    refine x_iload_n (i := 2) 3 C dX6_agreeWith_20 rfl rfl ?_
    refine x_icmp_gt (tgt := 44) C dX6_agreeWith_21 (by decide) (fun c => ?_) (fun c => ?_)
    · rw [if_pos c] at hf
      refine x_lv [] rfl ?_
      exact tX6_agreeWith_b44 N h B hf
    · rw [if_neg c] at hf
      refine x_iload 0 C dX6_agreeWith_24 rfl ?_
      refine x_aload_n (i := 1) 2 C dX6_agreeWith_26 rfl rfl ?_
      obtain ⟨g2, hf⟩ := ife hf
      refine x_alen0 (r := r1) C dX6_agreeWith_27 g2 rfl ?_
      refine x_icmp_ge (tgt := 44) C dX6_agreeWith_28 (by decide) (fun c => ?_) (fun c => ?_)
      · rw [if_pos c] at hf
        refine x_lv [] rfl ?_
        exact tX6_agreeWith_b44 N h B hf
      · rw [if_neg c] at hf
        refine x_aload_n (i := 1) 2 C dX6_agreeWith_31 rfl rfl ?_
        refine x_iload 0 C dX6_agreeWith_32 rfl ?_
        obtain ⟨g3, hf⟩ := ife hf
        refine x_iald (r := r1) C dX6_agreeWith_34 g3.1 g3.2 ?_
        refine x_aload_n (i := 0) 1 C dX6_agreeWith_35 rfl rfl ?_
        refine x_getR (r := 35) (r2 := 37) C dX6_agreeWith_36 kfX6_15 rfl rfl (by decide) ?_
        refine x_iload_n (i := 3) 4 C dX6_agreeWith_39 rfl rfl ?_
        obtain ⟨g4, hf⟩ := ife hf
        refine x_iald (r := 37) C dX6_agreeWith_40 rfl g4 ?_
        refine x_icmp_eq (tgt := 46) C dX6_agreeWith_41 (by decide) (fun c => ?_) (fun c => ?_)
        · rw [if_pos c] at hf
          refine x_iinc (v := x3 + 1) (lv' := [(3, .int (x3 + 1)), (4, .int (h.1 36 x3.toNatClampNeg)), (0, rf (qo X) 35), (1, rf (qo X) r1), (2, .int x2)]) 4 C dX6_agreeWith_46 rfl rfl (by decide) rfl ?_
          refine x_goto (tgt := 2) C dX6_agreeWith_49 (by decide) ?_
          refine x_lv [2, 3, 4, 0] rfl ?_
          exact HK2 h r1 x2 (x3 + 1) hf
        · rw [if_neg c] at hf
          refine x_lv [] rfl ?_
          exact tX6_agreeWith_b44 N h B hf
def fX6_agreeWith_L2 (N : Nat) : Nat → pH → Nat → Int32 → Int32 → Option (Int32 × pH)
  | 0 => fun _ _ _ _ => none
  | n + 1 => fX6_agreeWith_B2 N (fX6_agreeWith_L2 N n)
theorem tX6_agreeWith_L2 {X : Xt} {v : Int32} {h' : pH} (N : Nat) (B : Bd (lo X) (qo X) cX6_agreeWith RX6 5 (some .boolean) 0 0 (some (.int v)) h' X) : ∀ (n : Nat) (h : pH) (r1 : Nat) (x2 : Int32) (x3 : Int32), fX6_agreeWith_L2 N n h r1 x2 x3 = some (v, h') → Wx X 5 2 [(0, rf (qo X) 35), (1, rf (qo X) r1), (2, .int x2), (3, .int x3)] [] h := by
  intro n
  induction n with
  | zero => intro h r1 x2 x3 hf; exact absurd (show (none : Option (Int32 × pH)) = some (v, h') from hf) (fun z => by cases z)
  | succ n ih => intro h r1 x2 x3 hf; exact tX6_agreeWith_B2 N (fX6_agreeWith_L2 N n) ih h r1 x2 x3 B hf
def fX6_agreeWith (N : Nat) (h : pH) (r1 : Nat) (x2 : Int32) : Option (Int32 × pH) :=
  fX6_agreeWith_L2 N N h r1 x2 0
set_option maxRecDepth 100000 in
set_option maxHeartbeats 4000000 in
theorem tX6_agreeWith {X : Xt} {v : Int32} {h' : pH} (N : Nat) (h : pH) (r1 : Nat) (x2 : Int32) (B : Bd (lo X) (qo X) cX6_agreeWith RX6 5 (some .boolean) 0 0 (some (.int v)) h' X) (hf : fX6_agreeWith N h r1 x2 = some (v, h')) : Wx X 5 0 [(0, rf (qo X) 35), (1, rf (qo X) r1), (2, .int x2)] [] h := by
  have C := B.1
  unfold fX6_agreeWith at hf
  refine x_iconst (v := 0) C dX6_agreeWith_0 (by decide) ?_
  refine x_istore_n (i := 3) (lv' := [(3, .int 0), (0, rf (qo X) 35), (1, rf (qo X) r1), (2, .int x2)]) C dX6_agreeWith_1 rfl (by decide) rfl ?_
  refine x_lv [1, 2, 3, 0] rfl ?_
  exact tX6_agreeWith_L2 N  B N h r1 x2 0 hf
theorem ctX6_agreeWith (l : Launch) (q : Nat → Nat) (N : Nat) (h : pH) (r1 : Nat) (x2 : Int32) (v : Int32) (h' : pH) (hf : fX6_agreeWith N h r1 x2 = some (v, h')) : Ctr l q yX6_agreeWith cX6_agreeWith 5 (some .boolean) 0 0 [rf q 35, rf q r1, .int x2] h h' (some (.int v)) := by
  refine ct_of (own := RX6) (lv := [(0, rf q 35), (1, rf q r1), (2, .int x2)]) (by decide +kernel) rfl (by simp [lg_sl, rf_cat, cat_i, cat_l]) (by first | rfl | simp [lv_args, rf_cat, cat_i, cat_l]) ?_
  intro X B
  obtain rfl := B.2.1
  obtain rfl := B.2.2.1
  exact tX6_agreeWith N h r1 x2 B hf
def fX7_isFull_b17 (N : Nat) (h : pH) (xs0 : Int32) : Option (Int32 × pH) :=
  if xs0 = 0 ∨ xs0 = 1 then (some (xs0, h)) else none
set_option maxRecDepth 100000 in
set_option maxHeartbeats 4000000 in
theorem tX7_isFull_b17 {X : Xt} {v : Int32} {h' : pH} (N : Nat) (h : pH) (xs0 : Int32) (B : Bd (lo X) (qo X) cX7_isFull RX7 1 (some .boolean) 0 0 (some (.int v)) h' X) (hf : fX7_isFull_b17 N h xs0 = some (v, h')) : Wx X 1 17 [] [.int xs0] h := by
  have C := B.1
  unfold fX7_isFull_b17 at hf
  obtain ⟨g1, hf⟩ := ife hf
  obtain ⟨rfl, rfl⟩ := rtn hf
  exact B.2.2.2.2.2.1 _ _ rfl rfl (nrB g1) _ _ dX7_isFull_17
def fX7_isFull (N : Nat) (h : pH) (r0 : Nat) : Option (Int32 × pH) :=
  if fI 7 1 r0 = true then (if isO 7 r0 = true ∧ ¬ fR r0 0 = 0 then (if aK (fR r0 0) = 0 then (if (h.1 r0 1) < (Int32.ofNat (aN (fR r0 0))) then (fX7_isFull_b17 N h 0) else (fX7_isFull_b17 N h 1)) else none) else none) else none
set_option maxRecDepth 100000 in
set_option maxHeartbeats 4000000 in
theorem tX7_isFull {X : Xt} {v : Int32} {h' : pH} (N : Nat) (h : pH) (r0 : Nat) (B : Bd (lo X) (qo X) cX7_isFull RX7 1 (some .boolean) 0 0 (some (.int v)) h' X) (hf : fX7_isFull N h r0 = some (v, h')) : Wx X 1 0 [(0, rf (qo X) r0)] [] h := by
  have C := B.1
  unfold fX7_isFull at hf
  refine x_aload_n (i := 0) 0 C dX7_isFull_0 rfl rfl ?_
  obtain ⟨g1, hf⟩ := ife hf
  refine x_getI (r := r0) C dX7_isFull_1 kfX7_21 g1 ?_
  refine x_aload_n (i := 0) 0 C dX7_isFull_4 rfl rfl ?_
  obtain ⟨g2, hf⟩ := ife hf
  refine x_getR (r := r0) C dX7_isFull_5 kfX7_15 g2.1 rfl g2.2 ?_
  obtain ⟨g3, hf⟩ := ife hf
  refine x_alen0 (r := (fR r0 0)) C dX7_isFull_8 g3 rfl ?_
  refine x_icmp_lt (tgt := 16) C dX7_isFull_9 (by decide) (fun c => ?_) (fun c => ?_)
  · rw [if_pos c] at hf
    refine x_iconst (v := 0) C dX7_isFull_16 (by decide) ?_
    refine x_lv [] rfl ?_
    exact tX7_isFull_b17 N h 0 B hf
  · rw [if_neg c] at hf
    refine x_iconst (v := 1) C dX7_isFull_12 (by decide) ?_
    refine x_goto (tgt := 17) C dX7_isFull_13 (by decide) ?_
    refine x_lv [] rfl ?_
    exact tX7_isFull_b17 N h 1 B hf
theorem ctX7_isFull (l : Launch) (q : Nat → Nat) (N : Nat) (h : pH) (r0 : Nat) (v : Int32) (h' : pH) (hf : fX7_isFull N h r0 = some (v, h')) : Ctr l q yX7_isFull cX7_isFull 1 (some .boolean) 0 0 [rf q r0] h h' (some (.int v)) := by
  refine ct_of (own := RX7) (lv := [(0, rf q r0)]) (by decide +kernel) rfl (by simp [lg_sl, rf_cat, cat_i, cat_l]) (by first | rfl | simp [lv_args, rf_cat, cat_i, cat_l]) ?_
  intro X B
  obtain rfl := B.2.1
  obtain rfl := B.2.2.1
  exact tX7_isFull N h r0 B hf
def fX7_append_b27 (N : Nat) (h : pH)  : Option (Unit × pH) :=
  some ((), h)
set_option maxRecDepth 100000 in
set_option maxHeartbeats 4000000 in
theorem tX7_append_b27 {X : Xt} {v : Unit} {h' : pH} (N : Nat) (h : pH)  (B : Bd (lo X) (qo X) cX7_append RX7 2 none 1 20 none h' X) (hf : fX7_append_b27 N h  = some (v, h')) : Wx X 2 27 [] [] h := by
  have C := B.1
  unfold fX7_append_b27 at hf
  obtain ⟨rfl, rfl⟩ := rtn hf
  exact B.2.2.2.2.2.2.2.2.2 rfl rfl _ _ dX7_append_27
def fX7_append (N : Nat) (h : pH) (r0 : Nat) (x1 : Int32) : Option (Unit × pH) :=
  if isO 7 r0 = true then ((fX7_isFull N h r0).bind fun z1 => (if z1.1 = 0 then (if isO 7 r0 = true ∧ ¬ fR r0 0 = 0 then (if fI 7 1 r0 = true then (if aK (fR r0 0) = 0 ∧ ix (z1.2.1 r0 1) (aN (fR r0 0)) = true then (if fI 7 1 r0 = true then (if fI 7 1 r0 = true then (fX7_append_b27 N (pw (pw z1.2 (fR r0 0) (z1.2.1 r0 1).toNatClampNeg x1) r0 1 (((pw z1.2 (fR r0 0) (z1.2.1 r0 1).toNatClampNeg x1).1 r0 1) + 1))) else none) else none) else none) else none) else none) else (fX7_append_b27 N z1.2))) else none
set_option maxRecDepth 100000 in
set_option maxHeartbeats 4000000 in
theorem tX7_append {X : Xt} {v : Unit} {h' : pH} (N : Nat) (h : pH) (r0 : Nat) (x1 : Int32) (B : Bd (lo X) (qo X) cX7_append RX7 2 none 1 20 none h' X) (hf : fX7_append N h r0 x1 = some (v, h')) : Wx X 2 0 [(0, rf (qo X) r0), (1, .int x1)] [] h := by
  have C := B.1
  unfold fX7_append at hf
  refine x_aload_n (i := 0) 0 C dX7_append_0 rfl rfl ?_
  obtain ⟨g1, hf⟩ := ife hf
  obtain ⟨z1, e1, hf⟩ := bnd hf
  refine x_callV (r := r0) (As := []) (rest := []) C dX7_append_1 kmX7_25 miX7_isFull (ctX7_isFull (lo X) (qo X) N h r0 z1.1 z1.2 e1) rfl rfl ⟨Nat.le_trans (by decide) B.2.2.2.1, Nat.le_trans (by decide) B.2.2.2.2.1⟩ (by simp [cat_i, cat_l, rf_cat]) g1 ?_
  refine x_if_ne (tgt := 27) C dX7_append_4 (by decide) (fun c => ?_) (fun c => ?_)
  · rw [if_neg c] at hf
    refine x_lv [] rfl ?_
    exact tX7_append_b27 N z1.2 B hf
  · rw [if_pos c] at hf
    refine x_aload_n (i := 0) 0 C dX7_append_7 rfl rfl ?_
    obtain ⟨g2, hf⟩ := ife hf
    refine x_getR (r := r0) C dX7_append_8 kfX7_15 g2.1 rfl g2.2 ?_
    refine x_aload_n (i := 0) 0 C dX7_append_11 rfl rfl ?_
    obtain ⟨g3, hf⟩ := ife hf
    refine x_getI (r := r0) C dX7_append_12 kfX7_21 g3 ?_
    refine x_iload_n (i := 1) 1 C dX7_append_15 rfl rfl ?_
    obtain ⟨g4, hf⟩ := ife hf
    refine x_iast (r := (fR r0 0)) C dX7_append_16 g4.1 g4.2 ?_
    refine x_aload_n (i := 0) 0 C dX7_append_17 rfl rfl ?_
    refine x_dupA C dX7_append_18 ?_
    obtain ⟨g5, hf⟩ := ife hf
    refine x_getI (r := r0) C dX7_append_19 kfX7_21 g5 ?_
    refine x_iconst (v := 1) C dX7_append_22 (by decide) ?_
    refine x_iadd C dX7_append_23 ?_
    obtain ⟨g6, hf⟩ := ife hf
    refine x_putI (r := r0) C dX7_append_24 kfX7_21 g6 rfl rfl ?_
    refine x_lv [] rfl ?_
    exact tX7_append_b27 N (pw (pw z1.2 (fR r0 0) (z1.2.1 r0 1).toNatClampNeg x1) r0 1 (((pw z1.2 (fR r0 0) (z1.2.1 r0 1).toNatClampNeg x1).1 r0 1) + 1)) B hf
theorem ctX7_append (l : Launch) (q : Nat → Nat) (N : Nat) (h : pH) (r0 : Nat) (x1 : Int32) (v : Unit) (h' : pH) (hf : fX7_append N h r0 x1 = some (v, h')) : Ctr l q yX7_append cX7_append 2 none 1 20 [rf q r0, .int x1] h h' none := by
  refine ct_of (own := RX7) (lv := [(0, rf q r0), (1, .int x1)]) (by decide +kernel) rfl (by simp [lg_sl, rf_cat, cat_i, cat_l]) (by first | rfl | simp [lv_args, rf_cat, cat_i, cat_l]) ?_
  intro X B
  obtain rfl := B.2.1
  obtain rfl := B.2.2.1
  exact tX7_append N h r0 x1 B hf
def fX8_textAt_b25 (N : Nat) (h : pH) (rs0 : Nat) : Option (Nat × pH) :=
  some (rs0, h)
set_option maxRecDepth 100000 in
set_option maxHeartbeats 4000000 in
theorem tX8_textAt_b25 {X : Xt} {v : Nat} {h' : pH} (N : Nat) (h : pH) (rs0 : Nat) (B : Bd (lo X) (qo X) cX8_textAt RX8 2 (some (.object "MiddlePlank$Text")) 1 22 (some (rf (qo X) v)) h' X) (hf : fX8_textAt_b25 N h rs0 = some (v, h')) : Wx X 2 25 [] [rf (qo X) rs0] h := by
  have C := B.1
  unfold fX8_textAt_b25 at hf
  obtain ⟨rfl, rfl⟩ := rtn hf
  exact B.2.2.2.2.2.2.2.1 _ _ rfl rfl _ _ dX8_textAt_25
def fX8_textAt (N : Nat) (h : pH) (x1 : Int32) : Option (Nat × pH) :=
  (fX8_within N h x1 0 (3 - 1)).bind fun z1 => (if z1.1 = 0 then (fX8_textAt_b25 N z1.2 0) else (if ix x1 3 = true then (fX8_textAt_b25 N z1.2 (aE 2 x1.toNatClampNeg)) else none))
set_option maxRecDepth 100000 in
set_option maxHeartbeats 4000000 in
theorem tX8_textAt {X : Xt} {v : Nat} {h' : pH} (N : Nat) (h : pH) (x1 : Int32) (B : Bd (lo X) (qo X) cX8_textAt RX8 2 (some (.object "MiddlePlank$Text")) 1 22 (some (rf (qo X) v)) h' X) (hf : fX8_textAt N h x1 = some (v, h')) : Wx X 2 0 [(0, rf (qo X) 1), (1, .int x1)] [] h := by
  have C := B.1
  unfold fX8_textAt at hf
  refine x_iload_n (i := 1) 1 C dX8_textAt_0 rfl rfl ?_
  refine x_iconst (v := 0) C dX8_textAt_1 (by decide) ?_
  refine x_aload_n (i := 0) 0 C dX8_textAt_2 rfl rfl ?_
  refine x_getR (r := 1) (r2 := 2) C dX8_textAt_3 kfX8_11 rfl rfl (by decide) ?_
  refine x_alen4 (r := 2) (v := 3) C dX8_textAt_6 rfl rfl ?_
  refine x_iconst (v := 1) C dX8_textAt_7 (by decide) ?_
  refine x_isub C dX8_textAt_8 ?_
  obtain ⟨z1, e1, hf⟩ := bnd hf
  refine x_callS (As := [.int x1, .int 0, .int (3 - 1)]) (rest := []) C dX8_textAt_9 kmX8_91 miX8_within (ctX8_within (lo X) (qo X) N h x1 0 (3 - 1) z1.1 z1.2 e1) rfl rfl ⟨Nat.le_trans (by decide) B.2.2.2.1, Nat.le_trans (by decide) B.2.2.2.2.1⟩ (by simp [cat_i, cat_l, rf_cat]) ?_
  refine x_if_eq (tgt := 24) C dX8_textAt_12 (by decide) (fun c => ?_) (fun c => ?_)
  · rw [if_pos c] at hf
    refine x_null C dX8_textAt_24 ?_
    refine x_lv [] rfl ?_
    exact tX8_textAt_b25 N z1.2 0 B hf
  · rw [if_neg c] at hf
    refine x_aload_n (i := 0) 0 C dX8_textAt_15 rfl rfl ?_
    refine x_getR (r := 1) (r2 := 2) C dX8_textAt_16 kfX8_11 rfl rfl (by decide) ?_
    refine x_iload_n (i := 1) 1 C dX8_textAt_19 rfl rfl ?_
    obtain ⟨g1, hf⟩ := ife hf
    refine x_aald4 (r := 2) C dX8_textAt_20 rfl g1 ?_
    refine x_goto (tgt := 25) C dX8_textAt_21 (by decide) ?_
    refine x_lv [] rfl ?_
    exact tX8_textAt_b25 N z1.2 (aE 2 x1.toNatClampNeg) B hf
theorem ctX8_textAt (l : Launch) (q : Nat → Nat) (N : Nat) (h : pH) (x1 : Int32) (v : Nat) (h' : pH) (hf : fX8_textAt N h x1 = some (v, h')) : Ctr l q yX8_textAt cX8_textAt 2 (some (.object "MiddlePlank$Text")) 1 22 [rf q 1, .int x1] h h' (some (rf q v)) := by
  refine ct_of (own := RX8) (lv := [(0, rf q 1), (1, .int x1)]) (by decide +kernel) rfl (by simp [lg_sl, rf_cat, cat_i, cat_l]) (by first | rfl | simp [lv_args, rf_cat, cat_i, cat_l]) ?_
  intro X B
  obtain rfl := B.2.1
  obtain rfl := B.2.2.1
  exact tX8_textAt N h x1 B hf
def fX8_type_b21 (N : Nat) (h : pH)  : Option (Int32 × pH) :=
  some ((-2), h)
set_option maxRecDepth 100000 in
set_option maxHeartbeats 4000000 in
theorem tX8_type_b21 {X : Xt} {v : Int32} {h' : pH} (N : Nat) (h : pH)  (B : Bd (lo X) (qo X) cX8_type RX8 4 (some .int) 2 43 (some (.int v)) h' X) (hf : fX8_type_b21 N h  = some (v, h')) : Wx X 4 21 [] [] h := by
  have C := B.1
  unfold fX8_type_b21 at hf
  refine x_bipush (v := (-2)) C dX8_type_21 (by decide) ?_
  obtain ⟨rfl, rfl⟩ := rtn hf
  exact B.2.2.2.2.2.1 _ _ rfl rfl rfl _ _ dX8_type_23
def fX8_type (N : Nat) (h : pH) (x1 : Int32) (x2 : Int32) : Option (Int32 × pH) :=
  (fX8_textAt N h x1).bind fun z1 => (if z1.1 = 0 then (fX8_type_b21 N z1.2) else ((fX8_within N z1.2 x2 0 255).bind fun z2 => (if z2.1 = 0 then (fX8_type_b21 N z2.2) else (if isO 7 z1.1 = true then ((fX7_isFull N z2.2 z1.1).bind fun z3 => (if z3.1 = 0 then (if isO 7 z1.1 = true then ((fX7_append N z3.2 z1.1 x2).bind fun z4 => (if fI 7 1 z1.1 = true then (some ((pw z4.2 1 14 1).1 z1.1 1, (pw z4.2 1 14 1))) else none)) else none) else (some ((-4), z3.2)))) else none))))
set_option maxRecDepth 100000 in
set_option maxHeartbeats 4000000 in
theorem tX8_type {X : Xt} {v : Int32} {h' : pH} (N : Nat) (h : pH) (x1 : Int32) (x2 : Int32) (B : Bd (lo X) (qo X) cX8_type RX8 4 (some .int) 2 43 (some (.int v)) h' X) (hf : fX8_type N h x1 x2 = some (v, h')) : Wx X 4 0 [(0, rf (qo X) 1), (1, .int x1), (2, .int x2)] [] h := by
  have C := B.1
  unfold fX8_type at hf
  refine x_aload_n (i := 0) 0 C dX8_type_0 rfl rfl ?_
  refine x_iload_n (i := 1) 1 C dX8_type_1 rfl rfl ?_
  obtain ⟨z1, e1, hf⟩ := bnd hf
  refine x_callV (r := 1) (As := [.int x1]) (rest := []) C dX8_type_2 kmX8_87 miX8_textAt (ctX8_textAt (lo X) (qo X) N h x1 z1.1 z1.2 e1) rfl rfl ⟨Nat.le_trans (by decide) B.2.2.2.1, Nat.le_trans (by decide) B.2.2.2.2.1⟩ (by simp [cat_i, cat_l, rf_cat]) rfl ?_
  refine x_astore_n (i := 3) (lv' := [(3, rf (qo X) z1.1), (0, rf (qo X) 1), (1, .int x1), (2, .int x2)]) C dX8_type_5 rfl (by decide) rfl ?_
  refine x_aload_n (i := 3) 0 C dX8_type_6 rfl rfl ?_
  refine x_ifnull (tgt := 21) C dX8_type_7 (by decide) (fun c => ?_) (fun c => ?_)
  · rw [if_pos c] at hf
    refine x_lv [] rfl ?_
    exact tX8_type_b21 N z1.2 B hf
  · rw [if_neg c] at hf
    refine x_iload_n (i := 2) 3 C dX8_type_10 rfl rfl ?_
    refine x_iconst (v := 0) C dX8_type_11 (by decide) ?_
    refine x_sipush (v := 255) C dX8_type_12 (by decide) ?_
    obtain ⟨z2, e2, hf⟩ := bnd hf
    refine x_callS (As := [.int x2, .int 0, .int 255]) (rest := []) C dX8_type_15 kmX8_91 miX8_within (ctX8_within (lo X) (qo X) N z1.2 x2 0 255 z2.1 z2.2 e2) rfl rfl ⟨Nat.le_trans (by decide) B.2.2.2.1, Nat.le_trans (by decide) B.2.2.2.2.1⟩ (by simp [cat_i, cat_l, rf_cat]) ?_
    refine x_if_ne (tgt := 24) C dX8_type_18 (by decide) (fun c => ?_) (fun c => ?_)
    · rw [if_neg c] at hf
      refine x_aload_n (i := 3) 0 C dX8_type_24 rfl rfl ?_
      obtain ⟨g1, hf⟩ := ife hf
      obtain ⟨z3, e3, hf⟩ := bnd hf
      refine x_callV (r := z1.1) (As := []) (rest := []) C dX8_type_25 kmX8_95 miX7_isFull (ctX7_isFull (lo X) (qo X) N z2.2 z1.1 z3.1 z3.2 e3) rfl rfl ⟨Nat.le_trans (by decide) B.2.2.2.1, Nat.le_trans (by decide) B.2.2.2.2.1⟩ (by simp [cat_i, cat_l, rf_cat]) g1 ?_
      refine x_if_eq (tgt := 34) C dX8_type_28 (by decide) (fun c => ?_) (fun c => ?_)
      · rw [if_pos c] at hf
        refine x_aload_n (i := 3) 0 C dX8_type_34 rfl rfl ?_
        refine x_iload_n (i := 2) 3 C dX8_type_35 rfl rfl ?_
        obtain ⟨g2, hf⟩ := ife hf
        obtain ⟨z4, e4, hf⟩ := bnd hf
        refine x_callV (r := z1.1) (As := [.int x2]) (rest := []) C dX8_type_36 kmX8_99 miX7_append (ctX7_append (lo X) (qo X) N z3.2 z1.1 x2 z4.1 z4.2 e4) rfl rfl ⟨Nat.le_trans (by decide) B.2.2.2.1, Nat.le_trans (by decide) B.2.2.2.2.1⟩ (by simp [cat_i, cat_l, rf_cat]) g2 ?_
        refine x_aload_n (i := 0) 1 C dX8_type_39 rfl rfl ?_
        refine x_iconst (v := 1) C dX8_type_40 (by decide) ?_
        refine x_putI (r := 1) C dX8_type_41 kfX8_76 rfl rfl rfl ?_
        refine x_aload_n (i := 3) 0 C dX8_type_44 rfl rfl ?_
        obtain ⟨g3, hf⟩ := ife hf
        refine x_getI (r := z1.1) C dX8_type_45 kfX8_102 g3 ?_
        obtain ⟨rfl, rfl⟩ := rtn hf
        exact B.2.2.2.2.2.1 _ _ rfl rfl rfl _ _ dX8_type_48
      · rw [if_neg c] at hf
        refine x_bipush (v := (-4)) C dX8_type_31 (by decide) ?_
        obtain ⟨rfl, rfl⟩ := rtn hf
        exact B.2.2.2.2.2.1 _ _ rfl rfl rfl _ _ dX8_type_33
    · rw [if_pos c] at hf
      refine x_lv [] rfl ?_
      exact tX8_type_b21 N z2.2 B hf
theorem ctX8_type (l : Launch) (q : Nat → Nat) (N : Nat) (h : pH) (x1 : Int32) (x2 : Int32) (v : Int32) (h' : pH) (hf : fX8_type N h x1 x2 = some (v, h')) : Ctr l q yX8_type cX8_type 4 (some .int) 2 43 [rf q 1, .int x1, .int x2] h h' (some (.int v)) := by
  refine ct_of (own := RX8) (lv := [(0, rf q 1), (1, .int x1), (2, .int x2)]) (by decide +kernel) rfl (by simp [lg_sl, rf_cat, cat_i, cat_l]) (by first | rfl | simp [lv_args, rf_cat, cat_i, cat_l]) ?_
  intro X B
  obtain rfl := B.2.1
  obtain rfl := B.2.2.1
  exact tX8_type N h x1 x2 B hf
def fX8_wipe (N : Nat) (h : pH) (x1 : Int32) : Option (Int32 × pH) :=
  (fX8_textAt N h x1).bind fun z1 => (if z1.1 = 0 then (some ((-2), z1.2)) else (if fI 7 1 z1.1 = true then (if fI 7 1 z1.1 = true then (some (z1.2.1 z1.1 1, (pw (pw z1.2 z1.1 1 0) 1 14 1))) else none) else none))
set_option maxRecDepth 100000 in
set_option maxHeartbeats 4000000 in
theorem tX8_wipe {X : Xt} {v : Int32} {h' : pH} (N : Nat) (h : pH) (x1 : Int32) (B : Bd (lo X) (qo X) cX8_wipe RX8 4 (some .int) 2 43 (some (.int v)) h' X) (hf : fX8_wipe N h x1 = some (v, h')) : Wx X 4 0 [(0, rf (qo X) 1), (1, .int x1)] [] h := by
  have C := B.1
  unfold fX8_wipe at hf
  refine x_aload_n (i := 0) 0 C dX8_wipe_0 rfl rfl ?_
  refine x_iload_n (i := 1) 1 C dX8_wipe_1 rfl rfl ?_
  obtain ⟨z1, e1, hf⟩ := bnd hf
  refine x_callV (r := 1) (As := [.int x1]) (rest := []) C dX8_wipe_2 kmX8_87 miX8_textAt (ctX8_textAt (lo X) (qo X) N h x1 z1.1 z1.2 e1) rfl rfl ⟨Nat.le_trans (by decide) B.2.2.2.1, Nat.le_trans (by decide) B.2.2.2.2.1⟩ (by simp [cat_i, cat_l, rf_cat]) rfl ?_
  refine x_astore_n (i := 2) (lv' := [(2, rf (qo X) z1.1), (0, rf (qo X) 1), (1, .int x1)]) C dX8_wipe_5 rfl (by decide) rfl ?_
  refine x_aload_n (i := 2) 0 C dX8_wipe_6 rfl rfl ?_
  refine x_ifnonnull (tgt := 13) C dX8_wipe_7 (by decide) (fun c => ?_) (fun c => ?_)
  · rw [if_neg c] at hf
    refine x_aload_n (i := 2) 0 C dX8_wipe_13 rfl rfl ?_
    obtain ⟨g1, hf⟩ := ife hf
    refine x_getI (r := z1.1) C dX8_wipe_14 kfX8_102 g1 ?_
    refine x_istore_n (i := 3) (lv' := [(3, .int (z1.2.1 z1.1 1)), (2, rf (qo X) z1.1), (0, rf (qo X) 1), (1, .int x1)]) C dX8_wipe_17 rfl (by decide) (by simp [List.filter, rf_cat]) ?_
    refine x_aload_n (i := 2) 1 C dX8_wipe_18 rfl rfl ?_
    refine x_iconst (v := 0) C dX8_wipe_19 (by decide) ?_
    obtain ⟨g2, hf⟩ := ife hf
    refine x_putI (r := z1.1) C dX8_wipe_20 kfX8_102 g2 rfl rfl ?_
    refine x_aload_n (i := 0) 2 C dX8_wipe_23 rfl rfl ?_
    refine x_iconst (v := 1) C dX8_wipe_24 (by decide) ?_
    refine x_putI (r := 1) C dX8_wipe_25 kfX8_76 rfl rfl rfl ?_
    refine x_iload_n (i := 3) 0 C dX8_wipe_28 rfl rfl ?_
    obtain ⟨rfl, rfl⟩ := rtn hf
    exact B.2.2.2.2.2.1 _ _ rfl rfl rfl _ _ dX8_wipe_29
  · rw [if_pos c] at hf
    refine x_bipush (v := (-2)) C dX8_wipe_10 (by decide) ?_
    obtain ⟨rfl, rfl⟩ := rtn hf
    exact B.2.2.2.2.2.1 _ _ rfl rfl rfl _ _ dX8_wipe_12
theorem ctX8_wipe (l : Launch) (q : Nat → Nat) (N : Nat) (h : pH) (x1 : Int32) (v : Int32) (h' : pH) (hf : fX8_wipe N h x1 = some (v, h')) : Ctr l q yX8_wipe cX8_wipe 4 (some .int) 2 43 [rf q 1, .int x1] h h' (some (.int v)) := by
  refine ct_of (own := RX8) (lv := [(0, rf q 1), (1, .int x1)]) (by decide +kernel) rfl (by simp [lg_sl, rf_cat, cat_i, cat_l]) (by first | rfl | simp [lv_args, rf_cat, cat_i, cat_l]) ?_
  intro X B
  obtain rfl := B.2.1
  obtain rfl := B.2.2.1
  exact tX8_wipe N h x1 B hf
def fX8_undo (N : Nat) (h : pH) (x1 : Int32) : Option (Int32 × pH) :=
  (fX8_textAt N h x1).bind fun z1 => (if z1.1 = 0 then (some ((-2), z1.2)) else (if fI 7 1 z1.1 = true then (if (z1.2.1 z1.1 1) = 0 then (some ((-3), z1.2)) else (if fI 7 1 z1.1 = true then (if fI 7 1 z1.1 = true then (if fI 7 1 z1.1 = true then (some ((pw (pw z1.2 z1.1 1 ((z1.2.1 z1.1 1) - 1)) 1 14 1).1 z1.1 1, (pw (pw z1.2 z1.1 1 ((z1.2.1 z1.1 1) - 1)) 1 14 1))) else none) else none) else none)) else none))
set_option maxRecDepth 100000 in
set_option maxHeartbeats 4000000 in
theorem tX8_undo {X : Xt} {v : Int32} {h' : pH} (N : Nat) (h : pH) (x1 : Int32) (B : Bd (lo X) (qo X) cX8_undo RX8 3 (some .int) 2 43 (some (.int v)) h' X) (hf : fX8_undo N h x1 = some (v, h')) : Wx X 3 0 [(0, rf (qo X) 1), (1, .int x1)] [] h := by
  have C := B.1
  unfold fX8_undo at hf
  refine x_aload_n (i := 0) 0 C dX8_undo_0 rfl rfl ?_
  refine x_iload_n (i := 1) 1 C dX8_undo_1 rfl rfl ?_
  obtain ⟨z1, e1, hf⟩ := bnd hf
  refine x_callV (r := 1) (As := [.int x1]) (rest := []) C dX8_undo_2 kmX8_87 miX8_textAt (ctX8_textAt (lo X) (qo X) N h x1 z1.1 z1.2 e1) rfl rfl ⟨Nat.le_trans (by decide) B.2.2.2.1, Nat.le_trans (by decide) B.2.2.2.2.1⟩ (by simp [cat_i, cat_l, rf_cat]) rfl ?_
  refine x_astore_n (i := 2) (lv' := [(2, rf (qo X) z1.1), (0, rf (qo X) 1), (1, .int x1)]) C dX8_undo_5 rfl (by decide) rfl ?_
  refine x_aload_n (i := 2) 0 C dX8_undo_6 rfl rfl ?_
  refine x_ifnonnull (tgt := 13) C dX8_undo_7 (by decide) (fun c => ?_) (fun c => ?_)
  · rw [if_neg c] at hf
    refine x_aload_n (i := 2) 0 C dX8_undo_13 rfl rfl ?_
    obtain ⟨g1, hf⟩ := ife hf
    refine x_getI (r := z1.1) C dX8_undo_14 kfX8_102 g1 ?_
    refine x_if_ne (tgt := 23) C dX8_undo_17 (by decide) (fun c => ?_) (fun c => ?_)
    · rw [if_neg c] at hf
      refine x_aload_n (i := 2) 0 C dX8_undo_23 rfl rfl ?_
      refine x_dupA C dX8_undo_24 ?_
      obtain ⟨g2, hf⟩ := ife hf
      refine x_getI (r := z1.1) C dX8_undo_25 kfX8_102 g2 ?_
      refine x_iconst (v := 1) C dX8_undo_28 (by decide) ?_
      refine x_isub C dX8_undo_29 ?_
      obtain ⟨g3, hf⟩ := ife hf
      refine x_putI (r := z1.1) C dX8_undo_30 kfX8_102 g3 rfl rfl ?_
      refine x_aload_n (i := 0) 1 C dX8_undo_33 rfl rfl ?_
      refine x_iconst (v := 1) C dX8_undo_34 (by decide) ?_
      refine x_putI (r := 1) C dX8_undo_35 kfX8_76 rfl rfl rfl ?_
      refine x_aload_n (i := 2) 0 C dX8_undo_38 rfl rfl ?_
      obtain ⟨g4, hf⟩ := ife hf
      refine x_getI (r := z1.1) C dX8_undo_39 kfX8_102 g4 ?_
      obtain ⟨rfl, rfl⟩ := rtn hf
      exact B.2.2.2.2.2.1 _ _ rfl rfl rfl _ _ dX8_undo_42
    · rw [if_pos c] at hf
      refine x_bipush (v := (-3)) C dX8_undo_20 (by decide) ?_
      obtain ⟨rfl, rfl⟩ := rtn hf
      exact B.2.2.2.2.2.1 _ _ rfl rfl rfl _ _ dX8_undo_22
  · rw [if_pos c] at hf
    refine x_bipush (v := (-2)) C dX8_undo_10 (by decide) ?_
    obtain ⟨rfl, rfl⟩ := rtn hf
    exact B.2.2.2.2.2.1 _ _ rfl rfl rfl _ _ dX8_undo_12
theorem ctX8_undo (l : Launch) (q : Nat → Nat) (N : Nat) (h : pH) (x1 : Int32) (v : Int32) (h' : pH) (hf : fX8_undo N h x1 = some (v, h')) : Ctr l q yX8_undo cX8_undo 3 (some .int) 2 43 [rf q 1, .int x1] h h' (some (.int v)) := by
  refine ct_of (own := RX8) (lv := [(0, rf q 1), (1, .int x1)]) (by decide +kernel) rfl (by simp [lg_sl, rf_cat, cat_i, cat_l]) (by first | rfl | simp [lv_args, rf_cat, cat_i, cat_l]) ?_
  intro X B
  obtain rfl := B.2.1
  obtain rfl := B.2.2.1
  exact tX8_undo N h x1 B hf
def fX8_signsFor (N : Nat) (h : pH) (x0 : Int32) (x1 : Int32) : Option (Nat × pH) :=
  if x0 = 0 then (some (0, h)) else (if x0 = 2 then (some (6, h)) else (if (x1 - x1 / 5 * 5) = 0 then (some (1, h)) else (if (x1 - x1 / 5 * 5) = 1 then (some (2, h)) else (if (x1 - x1 / 5 * 5) = 2 then (some (3, h)) else (if (x1 - x1 / 5 * 5) = 3 then (some (4, h)) else (some (5, h)))))))
set_option maxRecDepth 100000 in
set_option maxHeartbeats 4000000 in
theorem tX8_signsFor {X : Xt} {v : Nat} {h' : pH} (N : Nat) (h : pH) (x0 : Int32) (x1 : Int32) (B : Bd (lo X) (qo X) cX8_signsFor RX8 2 (some (.array .char)) 0 0 (some (rf (qo X) (69 + v))) h' X) (hf : fX8_signsFor N h x0 x1 = some (v, h')) : Wx X 2 0 [(0, .int x0), (1, .int x1)] [] h := by
  have C := B.1
  unfold fX8_signsFor at hf
  refine x_iload_n (i := 0) 0 C dX8_signsFor_0 rfl rfl ?_
  refine x_if_ne (tgt := 8) C dX8_signsFor_1 (by decide) (fun c => ?_) (fun c => ?_)
  · rw [if_neg c] at hf
    refine x_iload_n (i := 0) 0 C dX8_signsFor_8 rfl rfl ?_
    refine x_iconst (v := 2) C dX8_signsFor_9 (by decide) ?_
    refine x_icmp_ne (tgt := 17) C dX8_signsFor_10 (by decide) (fun c => ?_) (fun c => ?_)
    · rw [if_neg c] at hf
      refine x_iload_n (i := 1) 1 C dX8_signsFor_17 rfl rfl ?_
      refine x_iconst (v := 5) C dX8_signsFor_18 (by decide) ?_
      refine x_irem C dX8_signsFor_19 (by decide) ?_
      by_cases c0 : (x1 - x1 / 5 * 5) = 0
      · rw [if_pos c0] at hf
        refine x_tabIn (w := 0) (tgt := 52) (off := 32) C dX8_signsFor_20 c0 (by decide) (by decide) (by decide) (by decide) ?_
        refine x_gets (t := 1) C dX8_signsFor_52 kgX8_347 (by decide) ?_
        obtain ⟨rfl, rfl⟩ := rtn hf
        exact B.2.2.2.2.2.2.2.2.1 _ _ rfl rfl _ _ dX8_signsFor_55
      rw [if_neg c0] at hf
      by_cases c1 : (x1 - x1 / 5 * 5) = 1
      · rw [if_pos c1] at hf
        refine x_tabIn (w := 1) (tgt := 56) (off := 36) C dX8_signsFor_20 c1 (by decide) (by decide) (by decide) (by decide) ?_
        refine x_gets (t := 2) C dX8_signsFor_56 kgX8_350 (by decide) ?_
        obtain ⟨rfl, rfl⟩ := rtn hf
        exact B.2.2.2.2.2.2.2.2.1 _ _ rfl rfl _ _ dX8_signsFor_59
      rw [if_neg c1] at hf
      by_cases c2 : (x1 - x1 / 5 * 5) = 2
      · rw [if_pos c2] at hf
        refine x_tabIn (w := 2) (tgt := 60) (off := 40) C dX8_signsFor_20 c2 (by decide) (by decide) (by decide) (by decide) ?_
        refine x_gets (t := 3) C dX8_signsFor_60 kgX8_353 (by decide) ?_
        obtain ⟨rfl, rfl⟩ := rtn hf
        exact B.2.2.2.2.2.2.2.2.1 _ _ rfl rfl _ _ dX8_signsFor_63
      rw [if_neg c2] at hf
      by_cases c3 : (x1 - x1 / 5 * 5) = 3
      · rw [if_pos c3] at hf
        refine x_tabIn (w := 3) (tgt := 64) (off := 44) C dX8_signsFor_20 c3 (by decide) (by decide) (by decide) (by decide) ?_
        refine x_gets (t := 4) C dX8_signsFor_64 kgX8_356 (by decide) ?_
        obtain ⟨rfl, rfl⟩ := rtn hf
        exact B.2.2.2.2.2.2.2.2.1 _ _ rfl rfl _ _ dX8_signsFor_67
      rw [if_neg c3] at hf
      refine x_tabOut (n := 4) (tgt := 68) C dX8_signsFor_20 (fun i hi => match i, hi with | 0, _ => c0 | 1, _ => c1 | 2, _ => c2 | 3, _ => c3 | i + 4, hi => absurd hi (by omega)) (by decide) ?_
      refine x_gets (t := 5) C dX8_signsFor_68 kgX8_359 (by decide) ?_
      obtain ⟨rfl, rfl⟩ := rtn hf
      exact B.2.2.2.2.2.2.2.2.1 _ _ rfl rfl _ _ dX8_signsFor_71
    · rw [if_pos c] at hf
      refine x_gets (t := 6) C dX8_signsFor_13 kgX8_344 (by decide) ?_
      obtain ⟨rfl, rfl⟩ := rtn hf
      exact B.2.2.2.2.2.2.2.2.1 _ _ rfl rfl _ _ dX8_signsFor_16
  · rw [if_pos c] at hf
    refine x_gets (t := 0) C dX8_signsFor_4 kgX8_340 (by decide) ?_
    obtain ⟨rfl, rfl⟩ := rtn hf
    exact B.2.2.2.2.2.2.2.2.1 _ _ rfl rfl _ _ dX8_signsFor_7
theorem ctX8_signsFor (l : Launch) (q : Nat → Nat) (N : Nat) (h : pH) (x0 : Int32) (x1 : Int32) (v : Nat) (h' : pH) (hf : fX8_signsFor N h x0 x1 = some (v, h')) : Ctr l q yX8_signsFor cX8_signsFor 2 (some (.array .char)) 0 0 [.int x0, .int x1] h h' (some (rf q (69 + v))) := by
  refine ct_of (own := RX8) (lv := [(0, .int x0), (1, .int x1)]) (by decide +kernel) rfl (by simp [lg_sl, rf_cat, cat_i, cat_l]) (by first | rfl | simp [lv_args, rf_cat, cat_i, cat_l]) ?_
  intro X B
  obtain rfl := B.2.1
  obtain rfl := B.2.2.1
  exact tX8_signsFor N h x0 x1 B hf
def fX8_faultOf_b75 (N : Nat) (h : pH) (xs0 : Int32) : Option (Int32 × pH) :=
  some (xs0, h)
set_option maxRecDepth 100000 in
set_option maxHeartbeats 4000000 in
theorem tX8_faultOf_b75 {X : Xt} {v : Int32} {h' : pH} (N : Nat) (h : pH) (xs0 : Int32) (B : Bd (lo X) (qo X) cX8_faultOf RX8 3 (some .int) 1 22 (some (.int v)) h' X) (hf : fX8_faultOf_b75 N h xs0 = some (v, h')) : Wx X 3 75 [] [.int xs0] h := by
  have C := B.1
  unfold fX8_faultOf_b75 at hf
  obtain ⟨rfl, rfl⟩ := rtn hf
  exact B.2.2.2.2.2.1 _ _ rfl rfl rfl _ _ dX8_faultOf_75
def fX8_faultOf_b62 (N : Nat) (h : pH) (r1 : Nat) (xs0 : Int32) : Option (Int32 × pH) :=
  if xs0 = 0 then (if fI 7 1 r1 = true then (fX8_faultOf_b75 N h (h.1 r1 1)) else none) else (fX8_faultOf_b75 N h (-1))
set_option maxRecDepth 100000 in
set_option maxHeartbeats 4000000 in
theorem tX8_faultOf_b62 {X : Xt} {v : Int32} {h' : pH} (N : Nat) (h : pH) (r1 : Nat) (xs0 : Int32) (B : Bd (lo X) (qo X) cX8_faultOf RX8 3 (some .int) 1 22 (some (.int v)) h' X) (hf : fX8_faultOf_b62 N h r1 xs0 = some (v, h')) : Wx X 3 62 [(1, rf (qo X) r1)] [.int xs0] h := by
  have C := B.1
  unfold fX8_faultOf_b62 at hf
  refine x_istore_n (i := 2) (lv' := [(2, .int xs0), (1, rf (qo X) r1)]) C dX8_faultOf_62 rfl (by decide) (by simp [List.filter, rf_cat]) ?_
  refine x_iload_n (i := 2) 0 C dX8_faultOf_63 rfl rfl ?_
  refine x_if_eq (tgt := 71) C dX8_faultOf_64 (by decide) (fun c => ?_) (fun c => ?_)
  · rw [if_pos c] at hf
    refine x_aload_n (i := 1) 1 C dX8_faultOf_71 rfl rfl ?_
    obtain ⟨g1, hf⟩ := ife hf
    refine x_getI (r := r1) C dX8_faultOf_72 kfX8_102 g1 ?_
    refine x_lv [] rfl ?_
    exact tX8_faultOf_b75 N h (h.1 r1 1) B hf
  · rw [if_neg c] at hf
    refine x_iconst (v := (-1)) C dX8_faultOf_67 (by decide) ?_
    refine x_goto (tgt := 75) C dX8_faultOf_68 (by decide) ?_
    refine x_lv [] rfl ?_
    exact tX8_faultOf_b75 N h (-1) B hf
def fX8_faultOf_b57 (N : Nat) (h : pH) (r1 : Nat) : Option (Int32 × pH) :=
  fX8_faultOf_b62 N h r1 1
set_option maxRecDepth 100000 in
set_option maxHeartbeats 4000000 in
theorem tX8_faultOf_b57 {X : Xt} {v : Int32} {h' : pH} (N : Nat) (h : pH) (r1 : Nat) (B : Bd (lo X) (qo X) cX8_faultOf RX8 3 (some .int) 1 22 (some (.int v)) h' X) (hf : fX8_faultOf_b57 N h r1 = some (v, h')) : Wx X 3 57 [(1, rf (qo X) r1)] [] h := by
  have C := B.1
  unfold fX8_faultOf_b57 at hf
  refine x_iconst (v := 1) C dX8_faultOf_57 (by decide) ?_
  refine x_goto (tgt := 62) C dX8_faultOf_58 (by decide) ?_
  exact tX8_faultOf_b62 N h r1 1 B hf
def fX8_faultOf_B2 (N : Nat) (k2 : pH → Int32 → Nat → Int32 → Option (Int32 × pH)) (h : pH) (x0 : Int32) (r1 : Nat) (x2 : Int32) : Option (Int32 × pH) :=
  if fI 7 1 r1 = true then (if (h.1 r1 1) ≤ x2 then (if x0 = 1 then (if fI 7 1 r1 = true then (if (h.1 r1 1) = 0 then (fX8_faultOf_b57 N h r1) else (if fI 7 1 r1 = true then (if ((h.1 r1 1) - (h.1 r1 1) / 5 * 5) = 4 then (fX8_faultOf_b57 N h r1) else (fX8_faultOf_b62 N h r1 0)) else none)) else none) else (fX8_faultOf_b57 N h r1)) else (if isO 7 r1 = true then ((fX7_at N h r1 x2).bind fun z1 => ((fX8_signsFor N z1.2 x0 x2).bind fun z2 => ((fX8_placeOf N z2.2 z1.1 z2.1).bind fun z3 => (if z3.1 = (-1) then (some (x2, z3.2)) else (k2 z3.2 x0 r1 (x2 + 1)))))) else none)) else none
set_option maxRecDepth 100000 in
set_option maxHeartbeats 4000000 in
theorem tX8_faultOf_B2 {X : Xt} {v : Int32} {h' : pH} (N : Nat) (k2 : pH → Int32 → Nat → Int32 → Option (Int32 × pH)) (HK2 : ∀ (h : pH) (x0 : Int32) (r1 : Nat) (x2 : Int32), k2 h x0 r1 x2 = some (v, h') → Wx X 3 2 [(0, .int x0), (1, rf (qo X) r1), (2, .int x2)] [] h) (h : pH) (x0 : Int32) (r1 : Nat) (x2 : Int32) (B : Bd (lo X) (qo X) cX8_faultOf RX8 3 (some .int) 1 22 (some (.int v)) h' X) (hf : fX8_faultOf_B2 N k2 h x0 r1 x2 = some (v, h')) : Wx X 3 2 [(0, .int x0), (1, rf (qo X) r1), (2, .int x2)] [] h := by
  have C := B.1
  unfold fX8_faultOf_B2 at hf
  refine x_iload_n (i := 2) 2 C dX8_faultOf_2 rfl rfl ?_
  refine x_aload_n (i := 1) 1 C dX8_faultOf_3 rfl rfl ?_
  obtain ⟨g1, hf⟩ := ife hf
  refine x_getI (r := r1) C dX8_faultOf_4 kfX8_102 g1 ?_
  refine x_icmp_ge (tgt := 35) C dX8_faultOf_7 (by decide) (fun c => ?_) (fun c => ?_)
  · rw [if_pos c] at hf
    refine x_iload_n (i := 0) 0 C dX8_faultOf_35 rfl rfl ?_
    refine x_iconst (v := 1) C dX8_faultOf_36 (by decide) ?_
    refine x_icmp_ne (tgt := 57) C dX8_faultOf_37 (by decide) (fun c => ?_) (fun c => ?_)
    · rw [if_neg c] at hf
      refine x_lv [1] rfl ?_
      exact tX8_faultOf_b57 N h r1 B hf
    · rw [if_pos c] at hf
      refine x_aload_n (i := 1) 1 C dX8_faultOf_40 rfl rfl ?_
      obtain ⟨g2, hf⟩ := ife hf
      refine x_getI (r := r1) C dX8_faultOf_41 kfX8_102 g2 ?_
      refine x_if_eq (tgt := 57) C dX8_faultOf_44 (by decide) (fun c => ?_) (fun c => ?_)
      · rw [if_pos c] at hf
        refine x_lv [1] rfl ?_
        exact tX8_faultOf_b57 N h r1 B hf
      · rw [if_neg c] at hf
        refine x_aload_n (i := 1) 1 C dX8_faultOf_47 rfl rfl ?_
        obtain ⟨g3, hf⟩ := ife hf
        refine x_getI (r := r1) C dX8_faultOf_48 kfX8_102 g3 ?_
        refine x_iconst (v := 5) C dX8_faultOf_51 (by decide) ?_
        refine x_irem C dX8_faultOf_52 (by decide) ?_
        refine x_iconst (v := 4) C dX8_faultOf_53 (by decide) ?_
        refine x_icmp_ne (tgt := 61) C dX8_faultOf_54 (by decide) (fun c => ?_) (fun c => ?_)
        · rw [if_neg c] at hf
          refine x_iconst (v := 0) C dX8_faultOf_61 (by decide) ?_
          refine x_lv [1] rfl ?_
          exact tX8_faultOf_b62 N h r1 0 B hf
        · rw [if_pos c] at hf
          refine x_lv [1] rfl ?_
          exact tX8_faultOf_b57 N h r1 B hf
  · rw [if_neg c] at hf
    refine x_aload_n (i := 1) 1 C dX8_faultOf_10 rfl rfl ?_
    refine x_iload_n (i := 2) 2 C dX8_faultOf_11 rfl rfl ?_
    obtain ⟨g4, hf⟩ := ife hf
    obtain ⟨z1, e1, hf⟩ := bnd hf
    refine x_callV (r := r1) (As := [.int x2]) (rest := []) C dX8_faultOf_12 kmX8_362 miX7_at (ctX7_at (lo X) (qo X) N h r1 x2 z1.1 z1.2 e1) rfl rfl ⟨Nat.le_trans (by decide) B.2.2.2.1, Nat.le_trans (by decide) B.2.2.2.2.1⟩ (by simp [cat_i, cat_l, rf_cat]) g4 ?_
    refine x_iload_n (i := 0) 0 C dX8_faultOf_15 rfl rfl ?_
    refine x_iload_n (i := 2) 2 C dX8_faultOf_16 rfl rfl ?_
    obtain ⟨z2, e2, hf⟩ := bnd hf
    refine x_callS (As := [.int x0, .int x2]) (rest := [.int z1.1]) C dX8_faultOf_17 kmX8_364 miX8_signsFor (ctX8_signsFor (lo X) (qo X) N z1.2 x0 x2 z2.1 z2.2 e2) rfl rfl ⟨Nat.le_trans (by decide) B.2.2.2.1, Nat.le_trans (by decide) B.2.2.2.2.1⟩ (by simp [cat_i, cat_l, rf_cat]) ?_
    obtain ⟨z3, e3, hf⟩ := bnd hf
    refine x_callS (As := [.int z1.1, rf (qo X) (69 + z2.1)]) (rest := []) C dX8_faultOf_20 kmX8_368 miX8_placeOf (ctX8_placeOf (lo X) (qo X) N z2.2 z1.1 z2.1 z3.1 z3.2 e3) rfl rfl ⟨Nat.le_trans (by decide) B.2.2.2.1, Nat.le_trans (by decide) B.2.2.2.2.1⟩ (by simp [cat_i, cat_l, rf_cat]) ?_
    refine x_iconst (v := (-1)) C dX8_faultOf_23 (by decide) ?_
    refine x_icmp_ne (tgt := 29) C dX8_faultOf_24 (by decide) (fun c => ?_) (fun c => ?_)
    · rw [if_neg c] at hf
      refine x_iinc (v := x2 + 1) (lv' := [(2, .int (x2 + 1)), (0, .int x0), (1, rf (qo X) r1)]) 2 C dX8_faultOf_29 rfl rfl (by decide) (by simp [List.filter, rf_cat]) ?_
      refine x_goto (tgt := 2) C dX8_faultOf_32 (by decide) ?_
      refine x_lv [1, 2, 0] rfl ?_
      exact HK2 z3.2 x0 r1 (x2 + 1) hf
    · rw [if_pos c] at hf
      refine x_iload_n (i := 2) 2 C dX8_faultOf_27 rfl rfl ?_
      obtain ⟨rfl, rfl⟩ := rtn hf
      exact B.2.2.2.2.2.1 _ _ rfl rfl rfl _ _ dX8_faultOf_28
def fX8_faultOf_L2 (N : Nat) : Nat → pH → Int32 → Nat → Int32 → Option (Int32 × pH)
  | 0 => fun _ _ _ _ => none
  | n + 1 => fX8_faultOf_B2 N (fX8_faultOf_L2 N n)
theorem tX8_faultOf_L2 {X : Xt} {v : Int32} {h' : pH} (N : Nat) (B : Bd (lo X) (qo X) cX8_faultOf RX8 3 (some .int) 1 22 (some (.int v)) h' X) : ∀ (n : Nat) (h : pH) (x0 : Int32) (r1 : Nat) (x2 : Int32), fX8_faultOf_L2 N n h x0 r1 x2 = some (v, h') → Wx X 3 2 [(0, .int x0), (1, rf (qo X) r1), (2, .int x2)] [] h := by
  intro n
  induction n with
  | zero => intro h x0 r1 x2 hf; exact absurd (show (none : Option (Int32 × pH)) = some (v, h') from hf) (fun z => by cases z)
  | succ n ih => intro h x0 r1 x2 hf; exact tX8_faultOf_B2 N (fX8_faultOf_L2 N n) ih h x0 r1 x2 B hf
def fX8_faultOf (N : Nat) (h : pH) (x0 : Int32) (r1 : Nat) : Option (Int32 × pH) :=
  fX8_faultOf_L2 N N h x0 r1 0
set_option maxRecDepth 100000 in
set_option maxHeartbeats 4000000 in
theorem tX8_faultOf {X : Xt} {v : Int32} {h' : pH} (N : Nat) (h : pH) (x0 : Int32) (r1 : Nat) (B : Bd (lo X) (qo X) cX8_faultOf RX8 3 (some .int) 1 22 (some (.int v)) h' X) (hf : fX8_faultOf N h x0 r1 = some (v, h')) : Wx X 3 0 [(0, .int x0), (1, rf (qo X) r1)] [] h := by
  have C := B.1
  unfold fX8_faultOf at hf
  refine x_iconst (v := 0) C dX8_faultOf_0 (by decide) ?_
  refine x_istore_n (i := 2) (lv' := [(2, .int 0), (0, .int x0), (1, rf (qo X) r1)]) C dX8_faultOf_1 rfl (by decide) (by simp [List.filter, rf_cat]) ?_
  refine x_lv [1, 2, 0] rfl ?_
  exact tX8_faultOf_L2 N  B N h x0 r1 0 hf
theorem ctX8_faultOf (l : Launch) (q : Nat → Nat) (N : Nat) (h : pH) (x0 : Int32) (r1 : Nat) (v : Int32) (h' : pH) (hf : fX8_faultOf N h x0 r1 = some (v, h')) : Ctr l q yX8_faultOf cX8_faultOf 3 (some .int) 1 22 [.int x0, rf q r1] h h' (some (.int v)) := by
  refine ct_of (own := RX8) (lv := [(0, .int x0), (1, rf q r1)]) (by decide +kernel) rfl (by simp [lg_sl, rf_cat, cat_i, cat_l]) (by first | rfl | simp [lv_args, rf_cat, cat_i, cat_l]) ?_
  intro X B
  obtain rfl := B.2.1
  obtain rfl := B.2.2.1
  exact tX8_faultOf N h x0 r1 B hf
def fX8_fault_b20 (N : Nat) (h : pH) (xs0 : Int32) : Option (Int32 × pH) :=
  some (xs0, h)
set_option maxRecDepth 100000 in
set_option maxHeartbeats 4000000 in
theorem tX8_fault_b20 {X : Xt} {v : Int32} {h' : pH} (N : Nat) (h : pH) (xs0 : Int32) (B : Bd (lo X) (qo X) cX8_fault RX8 3 (some .int) 2 44 (some (.int v)) h' X) (hf : fX8_fault_b20 N h xs0 = some (v, h')) : Wx X 3 20 [] [.int xs0] h := by
  have C := B.1
  unfold fX8_fault_b20 at hf
  obtain ⟨rfl, rfl⟩ := rtn hf
  exact B.2.2.2.2.2.1 _ _ rfl rfl rfl _ _ dX8_fault_20
def fX8_fault (N : Nat) (h : pH) (x1 : Int32) : Option (Int32 × pH) :=
  (fX8_textAt N h x1).bind fun z1 => (if z1.1 = 0 then (fX8_fault_b20 N z1.2 (-2)) else ((fX8_faultOf N z1.2 x1 z1.1).bind fun z2 => (fX8_fault_b20 N z2.2 z2.1)))
set_option maxRecDepth 100000 in
set_option maxHeartbeats 4000000 in
theorem tX8_fault {X : Xt} {v : Int32} {h' : pH} (N : Nat) (h : pH) (x1 : Int32) (B : Bd (lo X) (qo X) cX8_fault RX8 3 (some .int) 2 44 (some (.int v)) h' X) (hf : fX8_fault N h x1 = some (v, h')) : Wx X 3 0 [(0, rf (qo X) 1), (1, .int x1)] [] h := by
  have C := B.1
  unfold fX8_fault at hf
  refine x_aload_n (i := 0) 0 C dX8_fault_0 rfl rfl ?_
  refine x_iload_n (i := 1) 1 C dX8_fault_1 rfl rfl ?_
  obtain ⟨z1, e1, hf⟩ := bnd hf
  refine x_callV (r := 1) (As := [.int x1]) (rest := []) C dX8_fault_2 kmX8_87 miX8_textAt (ctX8_textAt (lo X) (qo X) N h x1 z1.1 z1.2 e1) rfl rfl ⟨Nat.le_trans (by decide) B.2.2.2.1, Nat.le_trans (by decide) B.2.2.2.2.1⟩ (by simp [cat_i, cat_l, rf_cat]) rfl ?_
  refine x_astore_n (i := 2) (lv' := [(2, rf (qo X) z1.1), (0, rf (qo X) 1), (1, .int x1)]) C dX8_fault_5 rfl (by decide) rfl ?_
  refine x_aload_n (i := 2) 0 C dX8_fault_6 rfl rfl ?_
  refine x_ifnonnull (tgt := 15) C dX8_fault_7 (by decide) (fun c => ?_) (fun c => ?_)
  · rw [if_neg c] at hf
    refine x_iload_n (i := 1) 2 C dX8_fault_15 rfl rfl ?_
    refine x_aload_n (i := 2) 0 C dX8_fault_16 rfl rfl ?_
    obtain ⟨z2, e2, hf⟩ := bnd hf
    refine x_callS (As := [.int x1, rf (qo X) z1.1]) (rest := []) C dX8_fault_17 kmX8_106 miX8_faultOf (ctX8_faultOf (lo X) (qo X) N z1.2 x1 z1.1 z2.1 z2.2 e2) rfl rfl ⟨Nat.le_trans (by decide) B.2.2.2.1, Nat.le_trans (by decide) B.2.2.2.2.1⟩ (by simp [cat_i, cat_l, rf_cat]) ?_
    refine x_lv [] rfl ?_
    exact tX8_fault_b20 N z2.2 z2.1 B hf
  · rw [if_pos c] at hf
    refine x_bipush (v := (-2)) C dX8_fault_10 (by decide) ?_
    refine x_goto (tgt := 20) C dX8_fault_12 (by decide) ?_
    refine x_lv [] rfl ?_
    exact tX8_fault_b20 N z1.2 (-2) B hf
theorem ctX8_fault (l : Launch) (q : Nat → Nat) (N : Nat) (h : pH) (x1 : Int32) (v : Int32) (h' : pH) (hf : fX8_fault N h x1 = some (v, h')) : Ctr l q yX8_fault cX8_fault 3 (some .int) 2 44 [rf q 1, .int x1] h h' (some (.int v)) := by
  refine ct_of (own := RX8) (lv := [(0, rf q 1), (1, .int x1)]) (by decide +kernel) rfl (by simp [lg_sl, rf_cat, cat_i, cat_l]) (by first | rfl | simp [lv_args, rf_cat, cat_i, cat_l]) ?_
  intro X B
  obtain rfl := B.2.1
  obtain rfl := B.2.2.1
  exact tX8_fault N h x1 B hf
def fX8_lengthWithoutFault_b17 (N : Nat) (h : pH) (xs0 : Int32) : Option (Int32 × pH) :=
  some (xs0, h)
set_option maxRecDepth 100000 in
set_option maxHeartbeats 4000000 in
theorem tX8_lengthWithoutFault_b17 {X : Xt} {v : Int32} {h' : pH} (N : Nat) (h : pH) (xs0 : Int32) (B : Bd (lo X) (qo X) cX8_lengthWithoutFault RX8 2 (some .int) 2 44 (some (.int v)) h' X) (hf : fX8_lengthWithoutFault_b17 N h xs0 = some (v, h')) : Wx X 2 17 [] [.int xs0] h := by
  have C := B.1
  unfold fX8_lengthWithoutFault_b17 at hf
  obtain ⟨rfl, rfl⟩ := rtn hf
  exact B.2.2.2.2.2.1 _ _ rfl rfl rfl _ _ dX8_lengthWithoutFault_17
def fX8_lengthWithoutFault (N : Nat) (h : pH) (x0 : Int32) (r1 : Nat) : Option (Int32 × pH) :=
  (fX8_faultOf N h x0 r1).bind fun z1 => (if z1.1 = (-1) then (if fI 7 1 r1 = true then (fX8_lengthWithoutFault_b17 N z1.2 (z1.2.1 r1 1)) else none) else (fX8_lengthWithoutFault_b17 N z1.2 0))
set_option maxRecDepth 100000 in
set_option maxHeartbeats 4000000 in
theorem tX8_lengthWithoutFault {X : Xt} {v : Int32} {h' : pH} (N : Nat) (h : pH) (x0 : Int32) (r1 : Nat) (B : Bd (lo X) (qo X) cX8_lengthWithoutFault RX8 2 (some .int) 2 44 (some (.int v)) h' X) (hf : fX8_lengthWithoutFault N h x0 r1 = some (v, h')) : Wx X 2 0 [(0, .int x0), (1, rf (qo X) r1)] [] h := by
  have C := B.1
  unfold fX8_lengthWithoutFault at hf
  refine x_iload_n (i := 0) 0 C dX8_lengthWithoutFault_0 rfl rfl ?_
  refine x_aload_n (i := 1) 1 C dX8_lengthWithoutFault_1 rfl rfl ?_
  obtain ⟨z1, e1, hf⟩ := bnd hf
  refine x_callS (As := [.int x0, rf (qo X) r1]) (rest := []) C dX8_lengthWithoutFault_2 kmX8_106 miX8_faultOf (ctX8_faultOf (lo X) (qo X) N h x0 r1 z1.1 z1.2 e1) rfl rfl ⟨Nat.le_trans (by decide) B.2.2.2.1, Nat.le_trans (by decide) B.2.2.2.2.1⟩ (by simp [cat_i, cat_l, rf_cat]) ?_
  refine x_iconst (v := (-1)) C dX8_lengthWithoutFault_5 (by decide) ?_
  refine x_icmp_ne (tgt := 16) C dX8_lengthWithoutFault_6 (by decide) (fun c => ?_) (fun c => ?_)
  · rw [if_neg c] at hf
    refine x_iconst (v := 0) C dX8_lengthWithoutFault_16 (by decide) ?_
    refine x_lv [] rfl ?_
    exact tX8_lengthWithoutFault_b17 N z1.2 0 B hf
  · rw [if_pos c] at hf
    refine x_aload_n (i := 1) 1 C dX8_lengthWithoutFault_9 rfl rfl ?_
    obtain ⟨g1, hf⟩ := ife hf
    refine x_getI (r := r1) C dX8_lengthWithoutFault_10 kfX8_102 g1 ?_
    refine x_goto (tgt := 17) C dX8_lengthWithoutFault_13 (by decide) ?_
    refine x_lv [] rfl ?_
    exact tX8_lengthWithoutFault_b17 N z1.2 (z1.2.1 r1 1) B hf
theorem ctX8_lengthWithoutFault (l : Launch) (q : Nat → Nat) (N : Nat) (h : pH) (x0 : Int32) (r1 : Nat) (v : Int32) (h' : pH) (hf : fX8_lengthWithoutFault N h x0 r1 = some (v, h')) : Ctr l q yX8_lengthWithoutFault cX8_lengthWithoutFault 2 (some .int) 2 44 [.int x0, rf q r1] h h' (some (.int v)) := by
  refine ct_of (own := RX8) (lv := [(0, .int x0), (1, rf q r1)]) (by decide +kernel) rfl (by simp [lg_sl, rf_cat, cat_i, cat_l]) (by first | rfl | simp [lv_args, rf_cat, cat_i, cat_l]) ?_
  intro X B
  obtain rfl := B.2.1
  obtain rfl := B.2.2.1
  exact tX8_lengthWithoutFault N h x0 r1 B hf
def fX8_freshen (N : Nat) (h : pH)  : Option (Unit × pH) :=
  if (h.1 1 14) = 0 then (some ((), h)) else (if ix (0 : Int32) 3 = true then ((fX8_lengthWithoutFault N (pw (pw h 1 14 0) 1 15 1) 0 (aE 2 (0 : Int32).toNatClampNeg)).bind fun z1 => ((fX0_take N z1.2 (aE 2 (0 : Int32).toNatClampNeg) z1.1).bind fun z2 => (if ix (1 : Int32) 3 = true then ((fX8_lengthWithoutFault N z2.2 1 (aE 2 (1 : Int32).toNatClampNeg)).bind fun z3 => ((fX2_take N z3.2 (aE 2 (1 : Int32).toNatClampNeg) z3.1).bind fun z4 => (if ix (2 : Int32) 3 = true then ((fX8_lengthWithoutFault N z4.2 2 (aE 2 (2 : Int32).toNatClampNeg)).bind fun z5 => ((fX3_take N z5.2 (aE 2 (2 : Int32).toNatClampNeg) z5.1).bind fun z6 => ((fX0_firstGap N z6.2).bind fun z7 => ((fX3_follow N z7.2 z7.1 10 26).bind fun z8 => (some ((), z8.2)))))) else none))) else none))) else none)
set_option maxRecDepth 100000 in
set_option maxHeartbeats 4000000 in
theorem tX8_freshen {X : Xt} {v : Unit} {h' : pH} (N : Nat) (h : pH)  (B : Bd (lo X) (qo X) cX8_freshen RX8 4 none 3 73 none h' X) (hf : fX8_freshen N h  = some (v, h')) : Wx X 4 0 [(0, rf (qo X) 1)] [] h := by
  have C := B.1
  unfold fX8_freshen at hf
  refine x_aload_n (i := 0) 0 C dX8_freshen_0 rfl rfl ?_
  refine x_getI (r := 1) C dX8_freshen_1 kfX8_76 rfl ?_
  refine x_if_ne (tgt := 8) C dX8_freshen_4 (by decide) (fun c => ?_) (fun c => ?_)
  · rw [if_neg c] at hf
    refine x_aload_n (i := 0) 0 C dX8_freshen_8 rfl rfl ?_
    refine x_iconst (v := 0) C dX8_freshen_9 (by decide) ?_
    refine x_putI (r := 1) C dX8_freshen_10 kfX8_76 rfl rfl rfl ?_
    refine x_aload_n (i := 0) 0 C dX8_freshen_13 rfl rfl ?_
    refine x_iconst (v := 1) C dX8_freshen_14 (by decide) ?_
    refine x_putI (r := 1) C dX8_freshen_15 kfX8_80 rfl rfl rfl ?_
    refine x_aload_n (i := 0) 0 C dX8_freshen_18 rfl rfl ?_
    refine x_getR (r := 1) (r2 := 2) C dX8_freshen_19 kfX8_11 rfl rfl (by decide) ?_
    refine x_iconst (v := 0) C dX8_freshen_22 (by decide) ?_
    obtain ⟨g1, hf⟩ := ife hf
    refine x_aald4 (r := 2) C dX8_freshen_23 rfl g1 ?_
    refine x_astore_n (i := 1) (lv' := [(1, rf (qo X) (aE 2 (0 : Int32).toNatClampNeg)), (0, rf (qo X) 1)]) C dX8_freshen_24 rfl (by decide) rfl ?_
    refine x_aload_n (i := 0) 1 C dX8_freshen_25 rfl rfl ?_
    refine x_getR (r := 1) (r2 := 9) C dX8_freshen_26 kfX8_18 rfl rfl (by decide) ?_
    refine x_aload_n (i := 1) 0 C dX8_freshen_29 rfl rfl ?_
    refine x_iconst (v := 0) C dX8_freshen_30 (by decide) ?_
    refine x_aload_n (i := 1) 0 C dX8_freshen_31 rfl rfl ?_
    obtain ⟨z1, e1, hf⟩ := bnd hf
    refine x_callS (As := [.int 0, rf (qo X) (aE 2 (0 : Int32).toNatClampNeg)]) (rest := [rf (qo X) (aE 2 (0 : Int32).toNatClampNeg), rf (qo X) 9]) C dX8_freshen_32 kmX8_372 miX8_lengthWithoutFault (ctX8_lengthWithoutFault (lo X) (qo X) N (pw (pw h 1 14 0) 1 15 1) 0 (aE 2 (0 : Int32).toNatClampNeg) z1.1 z1.2 e1) rfl rfl ⟨Nat.le_trans (by decide) B.2.2.2.1, Nat.le_trans (by decide) B.2.2.2.2.1⟩ (by simp [cat_i, cat_l, rf_cat]) ?_
    obtain ⟨z2, e2, hf⟩ := bnd hf
    refine x_callV (r := 9) (As := [rf (qo X) (aE 2 (0 : Int32).toNatClampNeg), .int z1.1]) (rest := []) C dX8_freshen_35 kmX8_375 miX0_take (ctX0_take (lo X) (qo X) N z1.2 (aE 2 (0 : Int32).toNatClampNeg) z1.1 z2.1 z2.2 e2) rfl rfl ⟨Nat.le_trans (by decide) B.2.2.2.1, Nat.le_trans (by decide) B.2.2.2.2.1⟩ (by simp [cat_i, cat_l, rf_cat]) rfl ?_
    refine x_aload_n (i := 0) 1 C dX8_freshen_38 rfl rfl ?_
    refine x_getR (r := 1) (r2 := 2) C dX8_freshen_39 kfX8_11 rfl rfl (by decide) ?_
    refine x_iconst (v := 1) C dX8_freshen_42 (by decide) ?_
    obtain ⟨g2, hf⟩ := ife hf
    refine x_aald4 (r := 2) C dX8_freshen_43 rfl g2 ?_
    refine x_astore_n (i := 2) (lv' := [(2, rf (qo X) (aE 2 (1 : Int32).toNatClampNeg)), (1, rf (qo X) (aE 2 (0 : Int32).toNatClampNeg)), (0, rf (qo X) 1)]) C dX8_freshen_44 rfl (by decide) (by simp [List.filter, rf_cat]) ?_
    refine x_aload_n (i := 0) 2 C dX8_freshen_45 rfl rfl ?_
    refine x_getR (r := 1) (r2 := 14) C dX8_freshen_46 kfX8_25 rfl rfl (by decide) ?_
    refine x_aload_n (i := 2) 0 C dX8_freshen_49 rfl rfl ?_
    refine x_iconst (v := 1) C dX8_freshen_50 (by decide) ?_
    refine x_aload_n (i := 2) 0 C dX8_freshen_51 rfl rfl ?_
    obtain ⟨z3, e3, hf⟩ := bnd hf
    refine x_callS (As := [.int 1, rf (qo X) (aE 2 (1 : Int32).toNatClampNeg)]) (rest := [rf (qo X) (aE 2 (1 : Int32).toNatClampNeg), rf (qo X) 14]) C dX8_freshen_52 kmX8_372 miX8_lengthWithoutFault (ctX8_lengthWithoutFault (lo X) (qo X) N z2.2 1 (aE 2 (1 : Int32).toNatClampNeg) z3.1 z3.2 e3) rfl rfl ⟨Nat.le_trans (by decide) B.2.2.2.1, Nat.le_trans (by decide) B.2.2.2.2.1⟩ (by simp [cat_i, cat_l, rf_cat]) ?_
    obtain ⟨z4, e4, hf⟩ := bnd hf
    refine x_callV (r := 14) (As := [rf (qo X) (aE 2 (1 : Int32).toNatClampNeg), .int z3.1]) (rest := []) C dX8_freshen_55 kmX8_379 miX2_take (ctX2_take (lo X) (qo X) N z3.2 (aE 2 (1 : Int32).toNatClampNeg) z3.1 z4.1 z4.2 e4) rfl rfl ⟨Nat.le_trans (by decide) B.2.2.2.1, Nat.le_trans (by decide) B.2.2.2.2.1⟩ (by simp [cat_i, cat_l, rf_cat]) rfl ?_
    refine x_aload_n (i := 0) 2 C dX8_freshen_58 rfl rfl ?_
    refine x_getR (r := 1) (r2 := 2) C dX8_freshen_59 kfX8_11 rfl rfl (by decide) ?_
    refine x_iconst (v := 2) C dX8_freshen_62 (by decide) ?_
    obtain ⟨g3, hf⟩ := ife hf
    refine x_aald4 (r := 2) C dX8_freshen_63 rfl g3 ?_
    refine x_astore_n (i := 3) (lv' := [(3, rf (qo X) (aE 2 (2 : Int32).toNatClampNeg)), (2, rf (qo X) (aE 2 (1 : Int32).toNatClampNeg)), (1, rf (qo X) (aE 2 (0 : Int32).toNatClampNeg)), (0, rf (qo X) 1)]) C dX8_freshen_64 rfl (by decide) (by simp [List.filter, rf_cat]) ?_
    refine x_aload_n (i := 0) 3 C dX8_freshen_65 rfl rfl ?_
    refine x_getR (r := 1) (r2 := 24) C dX8_freshen_66 kfX8_32 rfl rfl (by decide) ?_
    refine x_aload_n (i := 3) 0 C dX8_freshen_69 rfl rfl ?_
    refine x_iconst (v := 2) C dX8_freshen_70 (by decide) ?_
    refine x_aload_n (i := 3) 0 C dX8_freshen_71 rfl rfl ?_
    obtain ⟨z5, e5, hf⟩ := bnd hf
    refine x_callS (As := [.int 2, rf (qo X) (aE 2 (2 : Int32).toNatClampNeg)]) (rest := [rf (qo X) (aE 2 (2 : Int32).toNatClampNeg), rf (qo X) 24]) C dX8_freshen_72 kmX8_372 miX8_lengthWithoutFault (ctX8_lengthWithoutFault (lo X) (qo X) N z4.2 2 (aE 2 (2 : Int32).toNatClampNeg) z5.1 z5.2 e5) rfl rfl ⟨Nat.le_trans (by decide) B.2.2.2.1, Nat.le_trans (by decide) B.2.2.2.2.1⟩ (by simp [cat_i, cat_l, rf_cat]) ?_
    obtain ⟨z6, e6, hf⟩ := bnd hf
    refine x_callV (r := 24) (As := [rf (qo X) (aE 2 (2 : Int32).toNatClampNeg), .int z5.1]) (rest := []) C dX8_freshen_75 kmX8_380 miX3_take (ctX3_take (lo X) (qo X) N z5.2 (aE 2 (2 : Int32).toNatClampNeg) z5.1 z6.1 z6.2 e6) rfl rfl ⟨Nat.le_trans (by decide) B.2.2.2.1, Nat.le_trans (by decide) B.2.2.2.2.1⟩ (by simp [cat_i, cat_l, rf_cat]) rfl ?_
    refine x_aload_n (i := 0) 3 C dX8_freshen_78 rfl rfl ?_
    refine x_getR (r := 1) (r2 := 24) C dX8_freshen_79 kfX8_32 rfl rfl (by decide) ?_
    refine x_aload_n (i := 0) 3 C dX8_freshen_82 rfl rfl ?_
    refine x_getR (r := 1) (r2 := 9) C dX8_freshen_83 kfX8_18 rfl rfl (by decide) ?_
    refine x_aload_n (i := 0) 3 C dX8_freshen_86 rfl rfl ?_
    refine x_getR (r := 1) (r2 := 14) C dX8_freshen_87 kfX8_25 rfl rfl (by decide) ?_
    refine x_aload_n (i := 0) 3 C dX8_freshen_90 rfl rfl ?_
    refine x_getR (r := 1) (r2 := 9) C dX8_freshen_91 kfX8_18 rfl rfl (by decide) ?_
    obtain ⟨z7, e7, hf⟩ := bnd hf
    refine x_callV (r := 9) (As := []) (rest := [rf (qo X) 14, rf (qo X) 9, rf (qo X) 24]) C dX8_freshen_94 kmX8_228 miX0_firstGap (ctX0_firstGap (lo X) (qo X) N z6.2 z7.1 z7.2 e7) rfl rfl ⟨Nat.le_trans (by decide) B.2.2.2.1, Nat.le_trans (by decide) B.2.2.2.2.1⟩ (by simp [cat_i, cat_l, rf_cat]) rfl ?_
    refine x_aload_n (i := 0) 3 C dX8_freshen_97 rfl rfl ?_
    refine x_getR (r := 1) (r2 := 9) C dX8_freshen_98 kfX8_18 rfl rfl (by decide) ?_
    refine x_getR (r := 9) (r2 := 10) C dX8_freshen_101 kfX8_148 rfl rfl (by decide) ?_
    refine x_aload_n (i := 0) 3 C dX8_freshen_104 rfl rfl ?_
    refine x_getR (r := 1) (r2 := 26) C dX8_freshen_105 kfX8_36 rfl rfl (by decide) ?_
    obtain ⟨z8, e8, hf⟩ := bnd hf
    refine x_callV (r := 24) (As := [rf (qo X) 9, rf (qo X) 14, .int z7.1, rf (qo X) 10, rf (qo X) 26]) (rest := []) C dX8_freshen_108 kmX8_381 miX3_follow (ctX3_follow (lo X) (qo X) N z7.2 z7.1 10 26 z8.1 z8.2 e8) rfl rfl ⟨Nat.le_trans (by decide) B.2.2.2.1, Nat.le_trans (by decide) B.2.2.2.2.1⟩ (by simp [cat_i, cat_l, rf_cat]) rfl ?_
    obtain ⟨rfl, rfl⟩ := rtn hf
    exact B.2.2.2.2.2.2.2.2.2 rfl rfl _ _ dX8_freshen_111
  · rw [if_pos c] at hf
    obtain ⟨rfl, rfl⟩ := rtn hf
    exact B.2.2.2.2.2.2.2.2.2 rfl rfl _ _ dX8_freshen_7
theorem ctX8_freshen (l : Launch) (q : Nat → Nat) (N : Nat) (h : pH)  (v : Unit) (h' : pH) (hf : fX8_freshen N h  = some (v, h')) : Ctr l q yX8_freshen cX8_freshen 4 none 3 73 [rf q 1] h h' none := by
  refine ct_of (own := RX8) (lv := [(0, rf q 1)]) (by decide +kernel) rfl (by simp [lg_sl, rf_cat, cat_i, cat_l]) (by first | rfl | simp [lv_args, rf_cat, cat_i, cat_l]) ?_
  intro X B
  obtain rfl := B.2.1
  obtain rfl := B.2.2.1
  exact tX8_freshen N h  B hf
def fX8_plank_b46 (N : Nat) (h : pH) (xs0 : Int32) : Option (Int32 × pH) :=
  some (xs0, h)
set_option maxRecDepth 100000 in
set_option maxHeartbeats 4000000 in
theorem tX8_plank_b46 {X : Xt} {v : Int32} {h' : pH} (N : Nat) (h : pH) (xs0 : Int32) (B : Bd (lo X) (qo X) cX8_plank RX8 2 (some .int) 4 96 (some (.int v)) h' X) (hf : fX8_plank_b46 N h xs0 = some (v, h')) : Wx X 2 46 [] [.int xs0] h := by
  have C := B.1
  unfold fX8_plank_b46 at hf
  obtain ⟨rfl, rfl⟩ := rtn hf
  exact B.2.2.2.2.2.1 _ _ rfl rfl rfl _ _ dX8_plank_46
def fX8_plank (N : Nat) (h : pH) (x1 : Int32) : Option (Int32 × pH) :=
  (fX8_within N h x1 0 18).bind fun z1 => (if z1.1 = 0 then (some ((-2), z1.2)) else ((fX8_freshen N z1.2).bind fun z2 => ((fX0_hasPlank N z2.2 x1).bind fun z3 => (if z3.1 = 0 then (some ((-1), z3.2)) else ((fX0_isRotten N z3.2 x1).bind fun z4 => (if z4.1 = 0 then (fX8_plank_b46 N z4.2 0) else (fX8_plank_b46 N z4.2 1)))))))
set_option maxRecDepth 100000 in
set_option maxHeartbeats 4000000 in
theorem tX8_plank {X : Xt} {v : Int32} {h' : pH} (N : Nat) (h : pH) (x1 : Int32) (B : Bd (lo X) (qo X) cX8_plank RX8 2 (some .int) 4 96 (some (.int v)) h' X) (hf : fX8_plank N h x1 = some (v, h')) : Wx X 2 0 [(0, rf (qo X) 1), (1, .int x1)] [] h := by
  have C := B.1
  unfold fX8_plank at hf
  refine x_iload_n (i := 1) 1 C dX8_plank_0 rfl rfl ?_
  refine x_iconst (v := 0) C dX8_plank_1 (by decide) ?_
  refine x_bipush (v := 18) C dX8_plank_2 (by decide) ?_
  obtain ⟨z1, e1, hf⟩ := bnd hf
  refine x_callS (As := [.int x1, .int 0, .int 18]) (rest := []) C dX8_plank_4 kmX8_91 miX8_within (ctX8_within (lo X) (qo X) N h x1 0 18 z1.1 z1.2 e1) rfl rfl ⟨Nat.le_trans (by decide) B.2.2.2.1, Nat.le_trans (by decide) B.2.2.2.2.1⟩ (by simp [cat_i, cat_l, rf_cat]) ?_
  refine x_if_ne (tgt := 13) C dX8_plank_7 (by decide) (fun c => ?_) (fun c => ?_)
  · rw [if_neg c] at hf
    refine x_aload_n (i := 0) 0 C dX8_plank_13 rfl rfl ?_
    obtain ⟨z2, e2, hf⟩ := bnd hf
    refine x_callV (r := 1) (As := []) (rest := []) C dX8_plank_14 kmX8_110 miX8_freshen (ctX8_freshen (lo X) (qo X) N z1.2 z2.1 z2.2 e2) rfl rfl ⟨Nat.le_trans (by decide) B.2.2.2.1, Nat.le_trans (by decide) B.2.2.2.2.1⟩ (by simp [cat_i, cat_l, rf_cat]) rfl ?_
    refine x_aload_n (i := 0) 0 C dX8_plank_17 rfl rfl ?_
    refine x_getR (r := 1) (r2 := 9) C dX8_plank_18 kfX8_18 rfl rfl (by decide) ?_
    refine x_iload_n (i := 1) 1 C dX8_plank_21 rfl rfl ?_
    obtain ⟨z3, e3, hf⟩ := bnd hf
    refine x_callV (r := 9) (As := [.int x1]) (rest := []) C dX8_plank_22 kmX8_113 miX0_hasPlank (ctX0_hasPlank (lo X) (qo X) N z2.2 x1 z3.1 z3.2 e3) rfl rfl ⟨Nat.le_trans (by decide) B.2.2.2.1, Nat.le_trans (by decide) B.2.2.2.2.1⟩ (by simp [cat_i, cat_l, rf_cat]) rfl ?_
    refine x_if_ne (tgt := 30) C dX8_plank_25 (by decide) (fun c => ?_) (fun c => ?_)
    · rw [if_neg c] at hf
      refine x_aload_n (i := 0) 0 C dX8_plank_30 rfl rfl ?_
      refine x_getR (r := 1) (r2 := 9) C dX8_plank_31 kfX8_18 rfl rfl (by decide) ?_
      refine x_iload_n (i := 1) 1 C dX8_plank_34 rfl rfl ?_
      obtain ⟨z4, e4, hf⟩ := bnd hf
      refine x_callV (r := 9) (As := [.int x1]) (rest := []) C dX8_plank_35 kmX8_117 miX0_isRotten (ctX0_isRotten (lo X) (qo X) N z3.2 x1 z4.1 z4.2 e4) rfl rfl ⟨Nat.le_trans (by decide) B.2.2.2.1, Nat.le_trans (by decide) B.2.2.2.2.1⟩ (by simp [cat_i, cat_l, rf_cat]) rfl ?_
      refine x_if_eq (tgt := 45) C dX8_plank_38 (by decide) (fun c => ?_) (fun c => ?_)
      · rw [if_pos c] at hf
        refine x_iconst (v := 0) C dX8_plank_45 (by decide) ?_
        refine x_lv [] rfl ?_
        exact tX8_plank_b46 N z4.2 0 B hf
      · rw [if_neg c] at hf
        refine x_iconst (v := 1) C dX8_plank_41 (by decide) ?_
        refine x_goto (tgt := 46) C dX8_plank_42 (by decide) ?_
        refine x_lv [] rfl ?_
        exact tX8_plank_b46 N z4.2 1 B hf
    · rw [if_pos c] at hf
      refine x_iconst (v := (-1)) C dX8_plank_28 (by decide) ?_
      obtain ⟨rfl, rfl⟩ := rtn hf
      exact B.2.2.2.2.2.1 _ _ rfl rfl rfl _ _ dX8_plank_29
  · rw [if_pos c] at hf
    refine x_bipush (v := (-2)) C dX8_plank_10 (by decide) ?_
    obtain ⟨rfl, rfl⟩ := rtn hf
    exact B.2.2.2.2.2.1 _ _ rfl rfl rfl _ _ dX8_plank_12
theorem ctX8_plank (l : Launch) (q : Nat → Nat) (N : Nat) (h : pH) (x1 : Int32) (v : Int32) (h' : pH) (hf : fX8_plank N h x1 = some (v, h')) : Ctr l q yX8_plank cX8_plank 2 (some .int) 4 96 [rf q 1, .int x1] h h' (some (.int v)) := by
  refine ct_of (own := RX8) (lv := [(0, rf q 1), (1, .int x1)]) (by decide +kernel) rfl (by simp [lg_sl, rf_cat, cat_i, cat_l]) (by first | rfl | simp [lv_args, rf_cat, cat_i, cat_l]) ?_
  intro X B
  obtain rfl := B.2.1
  obtain rfl := B.2.2.1
  exact tX8_plank N h x1 B hf
def fX8_crosser (N : Nat) (h : pH) (x1 : Int32) (x2 : Int32) : Option (Int32 × pH) :=
  (fX8_freshen N h).bind fun z1 => ((fX2_at N z1.2 x1).bind fun z2 => (if z2.1 = 0 then (some ((-2), z2.2)) else (if x2 = 0 then (if fI 1 0 z2.1 = true then (some (z2.2.1 z2.1 0, z2.2)) else none) else (if x2 = 1 then (if fI 1 1 z2.1 = true then (some (z2.2.1 z2.1 1, z2.2)) else none) else (if x2 = 2 then (if fI 1 3 z2.1 = true then (some (z2.2.1 z2.1 3, z2.2)) else none) else (if x2 = 3 then (if fI 1 4 z2.1 = true then (some (z2.2.1 z2.1 4, z2.2)) else none) else (some ((-2), z2.2))))))))
set_option maxRecDepth 100000 in
set_option maxHeartbeats 4000000 in
theorem tX8_crosser {X : Xt} {v : Int32} {h' : pH} (N : Nat) (h : pH) (x1 : Int32) (x2 : Int32) (B : Bd (lo X) (qo X) cX8_crosser RX8 4 (some .int) 4 96 (some (.int v)) h' X) (hf : fX8_crosser N h x1 x2 = some (v, h')) : Wx X 4 0 [(0, rf (qo X) 1), (1, .int x1), (2, .int x2)] [] h := by
  have C := B.1
  unfold fX8_crosser at hf
  refine x_aload_n (i := 0) 0 C dX8_crosser_0 rfl rfl ?_
  obtain ⟨z1, e1, hf⟩ := bnd hf
  refine x_callV (r := 1) (As := []) (rest := []) C dX8_crosser_1 kmX8_110 miX8_freshen (ctX8_freshen (lo X) (qo X) N h z1.1 z1.2 e1) rfl rfl ⟨Nat.le_trans (by decide) B.2.2.2.1, Nat.le_trans (by decide) B.2.2.2.2.1⟩ (by simp [cat_i, cat_l, rf_cat]) rfl ?_
  refine x_aload_n (i := 0) 0 C dX8_crosser_4 rfl rfl ?_
  refine x_getR (r := 1) (r2 := 14) C dX8_crosser_5 kfX8_25 rfl rfl (by decide) ?_
  refine x_iload_n (i := 1) 1 C dX8_crosser_8 rfl rfl ?_
  obtain ⟨z2, e2, hf⟩ := bnd hf
  refine x_callV (r := 14) (As := [.int x1]) (rest := []) C dX8_crosser_9 kmX8_120 miX2_at (ctX2_at (lo X) (qo X) N z1.2 x1 z2.1 z2.2 e2) rfl rfl ⟨Nat.le_trans (by decide) B.2.2.2.1, Nat.le_trans (by decide) B.2.2.2.2.1⟩ (by simp [cat_i, cat_l, rf_cat]) rfl ?_
  refine x_astore_n (i := 3) (lv' := [(3, rf (qo X) z2.1), (0, rf (qo X) 1), (1, .int x1), (2, .int x2)]) C dX8_crosser_12 rfl (by decide) rfl ?_
  refine x_aload_n (i := 3) 0 C dX8_crosser_13 rfl rfl ?_
  refine x_ifnonnull (tgt := 20) C dX8_crosser_14 (by decide) (fun c => ?_) (fun c => ?_)
  · rw [if_neg c] at hf
    refine x_iload_n (i := 2) 3 C dX8_crosser_20 rfl rfl ?_
    by_cases c0 : x2 = 0
    · rw [if_pos c0] at hf
      refine x_tabIn (w := 0) (tgt := 52) (off := 31) C dX8_crosser_21 c0 (by decide) (by decide) (by decide) (by decide) ?_
      refine x_aload_n (i := 3) 0 C dX8_crosser_52 rfl rfl ?_
      obtain ⟨g1, hf⟩ := ife hf
      refine x_getI (r := z2.1) C dX8_crosser_53 kfX8_124 g1 ?_
      obtain ⟨rfl, rfl⟩ := rtn hf
      exact B.2.2.2.2.2.1 _ _ rfl rfl rfl _ _ dX8_crosser_56
    rw [if_neg c0] at hf
    by_cases c1 : x2 = 1
    · rw [if_pos c1] at hf
      refine x_tabIn (w := 1) (tgt := 57) (off := 36) C dX8_crosser_21 c1 (by decide) (by decide) (by decide) (by decide) ?_
      refine x_aload_n (i := 3) 0 C dX8_crosser_57 rfl rfl ?_
      obtain ⟨g2, hf⟩ := ife hf
      refine x_getI (r := z2.1) C dX8_crosser_58 kfX8_129 g2 ?_
      obtain ⟨rfl, rfl⟩ := rtn hf
      exact B.2.2.2.2.2.1 _ _ rfl rfl rfl _ _ dX8_crosser_61
    rw [if_neg c1] at hf
    by_cases c2 : x2 = 2
    · rw [if_pos c2] at hf
      refine x_tabIn (w := 2) (tgt := 62) (off := 41) C dX8_crosser_21 c2 (by decide) (by decide) (by decide) (by decide) ?_
      refine x_aload_n (i := 3) 0 C dX8_crosser_62 rfl rfl ?_
      obtain ⟨g3, hf⟩ := ife hf
      refine x_getI (r := z2.1) C dX8_crosser_63 kfX8_132 g3 ?_
      obtain ⟨rfl, rfl⟩ := rtn hf
      exact B.2.2.2.2.2.1 _ _ rfl rfl rfl _ _ dX8_crosser_66
    rw [if_neg c2] at hf
    by_cases c3 : x2 = 3
    · rw [if_pos c3] at hf
      refine x_tabIn (w := 3) (tgt := 67) (off := 46) C dX8_crosser_21 c3 (by decide) (by decide) (by decide) (by decide) ?_
      refine x_aload_n (i := 3) 0 C dX8_crosser_67 rfl rfl ?_
      obtain ⟨g4, hf⟩ := ife hf
      refine x_getI (r := z2.1) C dX8_crosser_68 kfX8_135 g4 ?_
      obtain ⟨rfl, rfl⟩ := rtn hf
      exact B.2.2.2.2.2.1 _ _ rfl rfl rfl _ _ dX8_crosser_71
    rw [if_neg c3] at hf
    refine x_tabOut (n := 4) (tgt := 72) C dX8_crosser_21 (fun i hi => match i, hi with | 0, _ => c0 | 1, _ => c1 | 2, _ => c2 | 3, _ => c3 | i + 4, hi => absurd hi (by omega)) (by decide) ?_
    refine x_bipush (v := (-2)) C dX8_crosser_72 (by decide) ?_
    obtain ⟨rfl, rfl⟩ := rtn hf
    exact B.2.2.2.2.2.1 _ _ rfl rfl rfl _ _ dX8_crosser_74
  · rw [if_pos c] at hf
    refine x_bipush (v := (-2)) C dX8_crosser_17 (by decide) ?_
    obtain ⟨rfl, rfl⟩ := rtn hf
    exact B.2.2.2.2.2.1 _ _ rfl rfl rfl _ _ dX8_crosser_19
theorem ctX8_crosser (l : Launch) (q : Nat → Nat) (N : Nat) (h : pH) (x1 : Int32) (x2 : Int32) (v : Int32) (h' : pH) (hf : fX8_crosser N h x1 x2 = some (v, h')) : Ctr l q yX8_crosser cX8_crosser 4 (some .int) 4 96 [rf q 1, .int x1, .int x2] h h' (some (.int v)) := by
  refine ct_of (own := RX8) (lv := [(0, rf q 1), (1, .int x1), (2, .int x2)]) (by decide +kernel) rfl (by simp [lg_sl, rf_cat, cat_i, cat_l]) (by first | rfl | simp [lv_args, rf_cat, cat_i, cat_l]) ?_
  intro X B
  obtain rfl := B.2.1
  obtain rfl := B.2.2.1
  exact tX8_crosser N h x1 x2 B hf
def fX8_crossing (N : Nat) (h : pH) (x1 : Int32) : Option (Int32 × pH) :=
  (fX8_within N h x1 0 23).bind fun z1 => (if z1.1 = 0 then (some ((-2), z1.2)) else ((fX8_freshen N z1.2).bind fun z2 => ((fX3_whoAt N z2.2 x1).bind fun z3 => (some (z3.1, z3.2)))))
set_option maxRecDepth 100000 in
set_option maxHeartbeats 4000000 in
theorem tX8_crossing {X : Xt} {v : Int32} {h' : pH} (N : Nat) (h : pH) (x1 : Int32) (B : Bd (lo X) (qo X) cX8_crossing RX8 2 (some .int) 4 96 (some (.int v)) h' X) (hf : fX8_crossing N h x1 = some (v, h')) : Wx X 2 0 [(0, rf (qo X) 1), (1, .int x1)] [] h := by
  have C := B.1
  unfold fX8_crossing at hf
  refine x_iload_n (i := 1) 1 C dX8_crossing_0 rfl rfl ?_
  refine x_iconst (v := 0) C dX8_crossing_1 (by decide) ?_
  refine x_bipush (v := 23) C dX8_crossing_2 (by decide) ?_
  obtain ⟨z1, e1, hf⟩ := bnd hf
  refine x_callS (As := [.int x1, .int 0, .int 23]) (rest := []) C dX8_crossing_4 kmX8_91 miX8_within (ctX8_within (lo X) (qo X) N h x1 0 23 z1.1 z1.2 e1) rfl rfl ⟨Nat.le_trans (by decide) B.2.2.2.1, Nat.le_trans (by decide) B.2.2.2.2.1⟩ (by simp [cat_i, cat_l, rf_cat]) ?_
  refine x_if_ne (tgt := 13) C dX8_crossing_7 (by decide) (fun c => ?_) (fun c => ?_)
  · rw [if_neg c] at hf
    refine x_aload_n (i := 0) 0 C dX8_crossing_13 rfl rfl ?_
    obtain ⟨z2, e2, hf⟩ := bnd hf
    refine x_callV (r := 1) (As := []) (rest := []) C dX8_crossing_14 kmX8_110 miX8_freshen (ctX8_freshen (lo X) (qo X) N z1.2 z2.1 z2.2 e2) rfl rfl ⟨Nat.le_trans (by decide) B.2.2.2.1, Nat.le_trans (by decide) B.2.2.2.2.1⟩ (by simp [cat_i, cat_l, rf_cat]) rfl ?_
    refine x_aload_n (i := 0) 0 C dX8_crossing_17 rfl rfl ?_
    refine x_getR (r := 1) (r2 := 24) C dX8_crossing_18 kfX8_32 rfl rfl (by decide) ?_
    refine x_iload_n (i := 1) 1 C dX8_crossing_21 rfl rfl ?_
    obtain ⟨z3, e3, hf⟩ := bnd hf
    refine x_callV (r := 24) (As := [.int x1]) (rest := []) C dX8_crossing_22 kmX8_138 miX3_whoAt (ctX3_whoAt (lo X) (qo X) N z2.2 x1 z3.1 z3.2 e3) rfl rfl ⟨Nat.le_trans (by decide) B.2.2.2.1, Nat.le_trans (by decide) B.2.2.2.2.1⟩ (by simp [cat_i, cat_l, rf_cat]) rfl ?_
    obtain ⟨rfl, rfl⟩ := rtn hf
    exact B.2.2.2.2.2.1 _ _ rfl rfl rfl _ _ dX8_crossing_25
  · rw [if_pos c] at hf
    refine x_bipush (v := (-2)) C dX8_crossing_10 (by decide) ?_
    obtain ⟨rfl, rfl⟩ := rtn hf
    exact B.2.2.2.2.2.1 _ _ rfl rfl rfl _ _ dX8_crossing_12
theorem ctX8_crossing (l : Launch) (q : Nat → Nat) (N : Nat) (h : pH) (x1 : Int32) (v : Int32) (h' : pH) (hf : fX8_crossing N h x1 = some (v, h')) : Ctr l q yX8_crossing cX8_crossing 2 (some .int) 4 96 [rf q 1, .int x1] h h' (some (.int v)) := by
  refine ct_of (own := RX8) (lv := [(0, rf q 1), (1, .int x1)]) (by decide +kernel) rfl (by simp [lg_sl, rf_cat, cat_i, cat_l]) (by first | rfl | simp [lv_args, rf_cat, cat_i, cat_l]) ?_
  intro X B
  obtain rfl := B.2.1
  obtain rfl := B.2.2.1
  exact tX8_crossing N h x1 B hf
def fX8_set_b75 (N : Nat) (h : pH)  : Option (Int32 × pH) :=
  some ((-2), h)
set_option maxRecDepth 100000 in
set_option maxHeartbeats 4000000 in
theorem tX8_set_b75 {X : Xt} {v : Int32} {h' : pH} (N : Nat) (h : pH)  (B : Bd (lo X) (qo X) cX8_set RX8 4 (some .int) 1 22 (some (.int v)) h' X) (hf : fX8_set_b75 N h  = some (v, h')) : Wx X 4 75 [] [] h := by
  have C := B.1
  unfold fX8_set_b75 at hf
  refine x_bipush (v := (-2)) C dX8_set_75 (by decide) ?_
  obtain ⟨rfl, rfl⟩ := rtn hf
  exact B.2.2.2.2.2.1 _ _ rfl rfl rfl _ _ dX8_set_77
def fX8_set_b37 (N : Nat) (h : pH) (x1 : Int32) (x2 : Int32) : Option (Int32 × pH) :=
  if x1 = 1 then ((fX8_within N h x2 0 18).bind fun z1 => (if z1.1 = 0 then (fX8_set_b75 N z1.2) else (some (z1.2.1 9 1, (pw (pw z1.2 9 1 x2) 1 14 1))))) else (fX8_set_b75 N h)
set_option maxRecDepth 100000 in
set_option maxHeartbeats 4000000 in
theorem tX8_set_b37 {X : Xt} {v : Int32} {h' : pH} (N : Nat) (h : pH) (x1 : Int32) (x2 : Int32) (B : Bd (lo X) (qo X) cX8_set RX8 4 (some .int) 1 22 (some (.int v)) h' X) (hf : fX8_set_b37 N h x1 x2 = some (v, h')) : Wx X 4 37 [(0, rf (qo X) 1), (1, .int x1), (2, .int x2)] [] h := by
  have C := B.1
  unfold fX8_set_b37 at hf
  refine x_iload_n (i := 1) 1 C dX8_set_37 rfl rfl ?_
  refine x_iconst (v := 1) C dX8_set_38 (by decide) ?_
  refine x_icmp_ne (tgt := 75) C dX8_set_39 (by decide) (fun c => ?_) (fun c => ?_)
  · rw [if_neg c] at hf
    refine x_lv [] rfl ?_
    exact tX8_set_b75 N h B hf
  · rw [if_pos c] at hf
    refine x_iload_n (i := 2) 2 C dX8_set_42 rfl rfl ?_
    refine x_iconst (v := 0) C dX8_set_43 (by decide) ?_
    refine x_bipush (v := 18) C dX8_set_44 (by decide) ?_
    obtain ⟨z1, e1, hf⟩ := bnd hf
    refine x_callS (As := [.int x2, .int 0, .int 18]) (rest := []) C dX8_set_46 kmX8_91 miX8_within (ctX8_within (lo X) (qo X) N h x2 0 18 z1.1 z1.2 e1) rfl rfl ⟨Nat.le_trans (by decide) B.2.2.2.1, Nat.le_trans (by decide) B.2.2.2.2.1⟩ (by simp [cat_i, cat_l, rf_cat]) ?_
    refine x_if_eq (tgt := 75) C dX8_set_49 (by decide) (fun c => ?_) (fun c => ?_)
    · rw [if_pos c] at hf
      refine x_lv [] rfl ?_
      exact tX8_set_b75 N z1.2 B hf
    · rw [if_neg c] at hf
      refine x_aload_n (i := 0) 0 C dX8_set_52 rfl rfl ?_
      refine x_getR (r := 1) (r2 := 9) C dX8_set_53 kfX8_18 rfl rfl (by decide) ?_
      refine x_getI (r := 9) C dX8_set_56 kfX8_145 rfl ?_
      refine x_istore_n (i := 3) (lv' := [(3, .int (z1.2.1 9 1)), (0, rf (qo X) 1), (1, .int x1), (2, .int x2)]) C dX8_set_59 rfl (by decide) rfl ?_
      refine x_aload_n (i := 0) 1 C dX8_set_60 rfl rfl ?_
      refine x_getR (r := 1) (r2 := 9) C dX8_set_61 kfX8_18 rfl rfl (by decide) ?_
      refine x_iload_n (i := 2) 3 C dX8_set_64 rfl rfl ?_
      refine x_putI (r := 9) C dX8_set_65 kfX8_145 rfl rfl rfl ?_
      refine x_aload_n (i := 0) 1 C dX8_set_68 rfl rfl ?_
      refine x_iconst (v := 1) C dX8_set_69 (by decide) ?_
      refine x_putI (r := 1) C dX8_set_70 kfX8_76 rfl rfl rfl ?_
      refine x_iload_n (i := 3) 0 C dX8_set_73 rfl rfl ?_
      obtain ⟨rfl, rfl⟩ := rtn hf
      exact B.2.2.2.2.2.1 _ _ rfl rfl rfl _ _ dX8_set_74
def fX8_set (N : Nat) (h : pH) (x1 : Int32) (x2 : Int32) : Option (Int32 × pH) :=
  if x1 = 0 then ((fX8_within N h x2 0 9).bind fun z1 => (if z1.1 = 0 then (fX8_set_b37 N z1.2 x1 x2) else (some (z1.2.1 9 0, (pw (pw z1.2 9 0 x2) 1 14 1))))) else (fX8_set_b37 N h x1 x2)
set_option maxRecDepth 100000 in
set_option maxHeartbeats 4000000 in
theorem tX8_set {X : Xt} {v : Int32} {h' : pH} (N : Nat) (h : pH) (x1 : Int32) (x2 : Int32) (B : Bd (lo X) (qo X) cX8_set RX8 4 (some .int) 1 22 (some (.int v)) h' X) (hf : fX8_set N h x1 x2 = some (v, h')) : Wx X 4 0 [(0, rf (qo X) 1), (1, .int x1), (2, .int x2)] [] h := by
  have C := B.1
  unfold fX8_set at hf
  refine x_iload_n (i := 1) 1 C dX8_set_0 rfl rfl ?_
  refine x_if_ne (tgt := 37) C dX8_set_1 (by decide) (fun c => ?_) (fun c => ?_)
  · rw [if_neg c] at hf
    exact tX8_set_b37 N h x1 x2 B hf
  · rw [if_pos c] at hf
    refine x_iload_n (i := 2) 2 C dX8_set_4 rfl rfl ?_
    refine x_iconst (v := 0) C dX8_set_5 (by decide) ?_
    refine x_bipush (v := 9) C dX8_set_6 (by decide) ?_
    obtain ⟨z1, e1, hf⟩ := bnd hf
    refine x_callS (As := [.int x2, .int 0, .int 9]) (rest := []) C dX8_set_8 kmX8_91 miX8_within (ctX8_within (lo X) (qo X) N h x2 0 9 z1.1 z1.2 e1) rfl rfl ⟨Nat.le_trans (by decide) B.2.2.2.1, Nat.le_trans (by decide) B.2.2.2.2.1⟩ (by simp [cat_i, cat_l, rf_cat]) ?_
    refine x_if_eq (tgt := 37) C dX8_set_11 (by decide) (fun c => ?_) (fun c => ?_)
    · rw [if_pos c] at hf
      exact tX8_set_b37 N z1.2 x1 x2 B hf
    · rw [if_neg c] at hf
      refine x_aload_n (i := 0) 0 C dX8_set_14 rfl rfl ?_
      refine x_getR (r := 1) (r2 := 9) C dX8_set_15 kfX8_18 rfl rfl (by decide) ?_
      refine x_getI (r := 9) C dX8_set_18 kfX8_142 rfl ?_
      refine x_istore_n (i := 3) (lv' := [(3, .int (z1.2.1 9 0)), (0, rf (qo X) 1), (1, .int x1), (2, .int x2)]) C dX8_set_21 rfl (by decide) rfl ?_
      refine x_aload_n (i := 0) 1 C dX8_set_22 rfl rfl ?_
      refine x_getR (r := 1) (r2 := 9) C dX8_set_23 kfX8_18 rfl rfl (by decide) ?_
      refine x_iload_n (i := 2) 3 C dX8_set_26 rfl rfl ?_
      refine x_putI (r := 9) C dX8_set_27 kfX8_142 rfl rfl rfl ?_
      refine x_aload_n (i := 0) 1 C dX8_set_30 rfl rfl ?_
      refine x_iconst (v := 1) C dX8_set_31 (by decide) ?_
      refine x_putI (r := 1) C dX8_set_32 kfX8_76 rfl rfl rfl ?_
      refine x_iload_n (i := 3) 0 C dX8_set_35 rfl rfl ?_
      obtain ⟨rfl, rfl⟩ := rtn hf
      exact B.2.2.2.2.2.1 _ _ rfl rfl rfl _ _ dX8_set_36
theorem ctX8_set (l : Launch) (q : Nat → Nat) (N : Nat) (h : pH) (x1 : Int32) (x2 : Int32) (v : Int32) (h' : pH) (hf : fX8_set N h x1 x2 = some (v, h')) : Ctr l q yX8_set cX8_set 4 (some .int) 1 22 [rf q 1, .int x1, .int x2] h h' (some (.int v)) := by
  refine ct_of (own := RX8) (lv := [(0, rf q 1), (1, .int x1), (2, .int x2)]) (by decide +kernel) rfl (by simp [lg_sl, rf_cat, cat_i, cat_l]) (by first | rfl | simp [lv_args, rf_cat, cat_i, cat_l]) ?_
  intro X B
  obtain rfl := B.2.1
  obtain rfl := B.2.2.1
  exact tX8_set N h x1 x2 B hf
def fX8_shift_b20 (N : Nat) (h : pH)  : Option (Int32 × pH) :=
  some ((-10002), h)
set_option maxRecDepth 100000 in
set_option maxHeartbeats 4000000 in
theorem tX8_shift_b20 {X : Xt} {v : Int32} {h' : pH} (N : Nat) (h : pH)  (B : Bd (lo X) (qo X) cX8_shift RX8 4 (some .int) 1 22 (some (.int v)) h' X) (hf : fX8_shift_b20 N h  = some (v, h')) : Wx X 4 20 [] [] h := by
  have C := B.1
  unfold fX8_shift_b20 at hf
  refine x_sipush (v := (-10002)) C dX8_shift_20 (by decide) ?_
  obtain ⟨rfl, rfl⟩ := rtn hf
  exact B.2.2.2.2.2.1 _ _ rfl rfl rfl _ _ dX8_shift_23
def fX8_shift (N : Nat) (h : pH) (x1 : Int32) (x2 : Int32) : Option (Int32 × pH) :=
  (fX8_within N h x1 0 3).bind fun z1 => (if z1.1 = 0 then (fX8_shift_b20 N z1.2) else ((fX8_within N z1.2 x2 (-9) 9).bind fun z2 => (if z2.1 = 0 then (fX8_shift_b20 N z2.2) else (if ix x1 4 = true then (if ix x1 4 = true then (some (z2.2.1 10 x1.toNatClampNeg, (pw (pw z2.2 10 x1.toNatClampNeg x2) 1 14 1))) else none) else none))))
set_option maxRecDepth 100000 in
set_option maxHeartbeats 4000000 in
theorem tX8_shift {X : Xt} {v : Int32} {h' : pH} (N : Nat) (h : pH) (x1 : Int32) (x2 : Int32) (B : Bd (lo X) (qo X) cX8_shift RX8 4 (some .int) 1 22 (some (.int v)) h' X) (hf : fX8_shift N h x1 x2 = some (v, h')) : Wx X 4 0 [(0, rf (qo X) 1), (1, .int x1), (2, .int x2)] [] h := by
  have C := B.1
  unfold fX8_shift at hf
  refine x_iload_n (i := 1) 1 C dX8_shift_0 rfl rfl ?_
  refine x_iconst (v := 0) C dX8_shift_1 (by decide) ?_
  refine x_iconst (v := 3) C dX8_shift_2 (by decide) ?_
  obtain ⟨z1, e1, hf⟩ := bnd hf
  refine x_callS (As := [.int x1, .int 0, .int 3]) (rest := []) C dX8_shift_3 kmX8_91 miX8_within (ctX8_within (lo X) (qo X) N h x1 0 3 z1.1 z1.2 e1) rfl rfl ⟨Nat.le_trans (by decide) B.2.2.2.1, Nat.le_trans (by decide) B.2.2.2.2.1⟩ (by simp [cat_i, cat_l, rf_cat]) ?_
  refine x_if_eq (tgt := 20) C dX8_shift_6 (by decide) (fun c => ?_) (fun c => ?_)
  · rw [if_pos c] at hf
    refine x_lv [] rfl ?_
    exact tX8_shift_b20 N z1.2 B hf
  · rw [if_neg c] at hf
    refine x_iload_n (i := 2) 2 C dX8_shift_9 rfl rfl ?_
    refine x_bipush (v := (-9)) C dX8_shift_10 (by decide) ?_
    refine x_bipush (v := 9) C dX8_shift_12 (by decide) ?_
    obtain ⟨z2, e2, hf⟩ := bnd hf
    refine x_callS (As := [.int x2, .int (-9), .int 9]) (rest := []) C dX8_shift_14 kmX8_91 miX8_within (ctX8_within (lo X) (qo X) N z1.2 x2 (-9) 9 z2.1 z2.2 e2) rfl rfl ⟨Nat.le_trans (by decide) B.2.2.2.1, Nat.le_trans (by decide) B.2.2.2.2.1⟩ (by simp [cat_i, cat_l, rf_cat]) ?_
    refine x_if_ne (tgt := 24) C dX8_shift_17 (by decide) (fun c => ?_) (fun c => ?_)
    · rw [if_neg c] at hf
      refine x_aload_n (i := 0) 0 C dX8_shift_24 rfl rfl ?_
      refine x_getR (r := 1) (r2 := 9) C dX8_shift_25 kfX8_18 rfl rfl (by decide) ?_
      refine x_getR (r := 9) (r2 := 10) C dX8_shift_28 kfX8_148 rfl rfl (by decide) ?_
      refine x_iload_n (i := 1) 1 C dX8_shift_31 rfl rfl ?_
      obtain ⟨g1, hf⟩ := ife hf
      refine x_iald (r := 10) C dX8_shift_32 rfl g1 ?_
      refine x_istore_n (i := 3) (lv' := [(3, .int (z2.2.1 10 x1.toNatClampNeg)), (0, rf (qo X) 1), (1, .int x1), (2, .int x2)]) C dX8_shift_33 rfl (by decide) rfl ?_
      refine x_aload_n (i := 0) 1 C dX8_shift_34 rfl rfl ?_
      refine x_getR (r := 1) (r2 := 9) C dX8_shift_35 kfX8_18 rfl rfl (by decide) ?_
      refine x_getR (r := 9) (r2 := 10) C dX8_shift_38 kfX8_148 rfl rfl (by decide) ?_
      refine x_iload_n (i := 1) 2 C dX8_shift_41 rfl rfl ?_
      refine x_iload_n (i := 2) 3 C dX8_shift_42 rfl rfl ?_
      obtain ⟨g2, hf⟩ := ife hf
      refine x_iast (r := 10) C dX8_shift_43 rfl g2 ?_
      refine x_aload_n (i := 0) 1 C dX8_shift_44 rfl rfl ?_
      refine x_iconst (v := 1) C dX8_shift_45 (by decide) ?_
      refine x_putI (r := 1) C dX8_shift_46 kfX8_76 rfl rfl rfl ?_
      refine x_iload_n (i := 3) 0 C dX8_shift_49 rfl rfl ?_
      obtain ⟨rfl, rfl⟩ := rtn hf
      exact B.2.2.2.2.2.1 _ _ rfl rfl rfl _ _ dX8_shift_50
    · rw [if_pos c] at hf
      refine x_lv [] rfl ?_
      exact tX8_shift_b20 N z2.2 B hf
theorem ctX8_shift (l : Launch) (q : Nat → Nat) (N : Nat) (h : pH) (x1 : Int32) (x2 : Int32) (v : Int32) (h' : pH) (hf : fX8_shift N h x1 x2 = some (v, h')) : Ctr l q yX8_shift cX8_shift 4 (some .int) 1 22 [rf q 1, .int x1, .int x2] h h' (some (.int v)) := by
  refine ct_of (own := RX8) (lv := [(0, rf q 1), (1, .int x1), (2, .int x2)]) (by decide +kernel) rfl (by simp [lg_sl, rf_cat, cat_i, cat_l]) (by first | rfl | simp [lv_args, rf_cat, cat_i, cat_l]) ?_
  intro X B
  obtain rfl := B.2.1
  obtain rfl := B.2.2.1
  exact tX8_shift N h x1 x2 B hf
def fX8_isNumberOfCrossings (N : Nat) (h : pH) (x1 : Int32) : Option (Int32 × pH) :=
  (fX8_within N h x1 0 (h.1 24 1)).bind fun z1 => (if z1.1 = 0 ∨ z1.1 = 1 then (some (z1.1, z1.2)) else none)
set_option maxRecDepth 100000 in
set_option maxHeartbeats 4000000 in
theorem tX8_isNumberOfCrossings {X : Xt} {v : Int32} {h' : pH} (N : Nat) (h : pH) (x1 : Int32) (B : Bd (lo X) (qo X) cX8_isNumberOfCrossings RX8 2 (some .boolean) 1 22 (some (.int v)) h' X) (hf : fX8_isNumberOfCrossings N h x1 = some (v, h')) : Wx X 2 0 [(0, rf (qo X) 1), (1, .int x1)] [] h := by
  have C := B.1
  unfold fX8_isNumberOfCrossings at hf
  refine x_iload_n (i := 1) 1 C dX8_isNumberOfCrossings_0 rfl rfl ?_
  refine x_iconst (v := 0) C dX8_isNumberOfCrossings_1 (by decide) ?_
  refine x_aload_n (i := 0) 0 C dX8_isNumberOfCrossings_2 rfl rfl ?_
  refine x_getR (r := 1) (r2 := 24) C dX8_isNumberOfCrossings_3 kfX8_32 rfl rfl (by decide) ?_
  refine x_getI (r := 24) C dX8_isNumberOfCrossings_6 kfX8_154 rfl ?_
  obtain ⟨z1, e1, hf⟩ := bnd hf
  refine x_callS (As := [.int x1, .int 0, .int (h.1 24 1)]) (rest := []) C dX8_isNumberOfCrossings_9 kmX8_91 miX8_within (ctX8_within (lo X) (qo X) N h x1 0 (h.1 24 1) z1.1 z1.2 e1) rfl rfl ⟨Nat.le_trans (by decide) B.2.2.2.1, Nat.le_trans (by decide) B.2.2.2.2.1⟩ (by simp [cat_i, cat_l, rf_cat]) ?_
  obtain ⟨g1, hf⟩ := ife hf
  obtain ⟨rfl, rfl⟩ := rtn hf
  exact B.2.2.2.2.2.1 _ _ rfl rfl (nrB g1) _ _ dX8_isNumberOfCrossings_12
theorem ctX8_isNumberOfCrossings (l : Launch) (q : Nat → Nat) (N : Nat) (h : pH) (x1 : Int32) (v : Int32) (h' : pH) (hf : fX8_isNumberOfCrossings N h x1 = some (v, h')) : Ctr l q yX8_isNumberOfCrossings cX8_isNumberOfCrossings 2 (some .boolean) 1 22 [rf q 1, .int x1] h h' (some (.int v)) := by
  refine ct_of (own := RX8) (lv := [(0, rf q 1), (1, .int x1)]) (by decide +kernel) rfl (by simp [lg_sl, rf_cat, cat_i, cat_l]) (by first | rfl | simp [lv_args, rf_cat, cat_i, cat_l]) ?_
  intro X B
  obtain rfl := B.2.1
  obtain rfl := B.2.2.1
  exact tX8_isNumberOfCrossings N h x1 B hf
def fX8_gap_b23 (N : Nat) (h : pH) (xs0 : Int32) : Option (Int32 × pH) :=
  some (xs0, h)
set_option maxRecDepth 100000 in
set_option maxHeartbeats 4000000 in
theorem tX8_gap_b23 {X : Xt} {v : Int32} {h' : pH} (N : Nat) (h : pH) (xs0 : Int32) (B : Bd (lo X) (qo X) cX8_gap RX8 2 (some .int) 4 96 (some (.int v)) h' X) (hf : fX8_gap_b23 N h xs0 = some (v, h')) : Wx X 2 23 [] [.int xs0] h := by
  have C := B.1
  unfold fX8_gap_b23 at hf
  obtain ⟨rfl, rfl⟩ := rtn hf
  exact B.2.2.2.2.2.1 _ _ rfl rfl rfl _ _ dX8_gap_23
def fX8_gap (N : Nat) (h : pH) (x1 : Int32) : Option (Int32 × pH) :=
  (fX8_freshen N h).bind fun z1 => ((fX8_isNumberOfCrossings N z1.2 x1).bind fun z2 => (if z2.1 = 0 then (fX8_gap_b23 N z2.2 (-2)) else (if ix x1 25 = true then (fX8_gap_b23 N z2.2 (z2.2.1 26 x1.toNatClampNeg)) else none)))
set_option maxRecDepth 100000 in
set_option maxHeartbeats 4000000 in
theorem tX8_gap {X : Xt} {v : Int32} {h' : pH} (N : Nat) (h : pH) (x1 : Int32) (B : Bd (lo X) (qo X) cX8_gap RX8 2 (some .int) 4 96 (some (.int v)) h' X) (hf : fX8_gap N h x1 = some (v, h')) : Wx X 2 0 [(0, rf (qo X) 1), (1, .int x1)] [] h := by
  have C := B.1
  unfold fX8_gap at hf
  refine x_aload_n (i := 0) 0 C dX8_gap_0 rfl rfl ?_
  obtain ⟨z1, e1, hf⟩ := bnd hf
  refine x_callV (r := 1) (As := []) (rest := []) C dX8_gap_1 kmX8_110 miX8_freshen (ctX8_freshen (lo X) (qo X) N h z1.1 z1.2 e1) rfl rfl ⟨Nat.le_trans (by decide) B.2.2.2.1, Nat.le_trans (by decide) B.2.2.2.2.1⟩ (by simp [cat_i, cat_l, rf_cat]) rfl ?_
  refine x_aload_n (i := 0) 0 C dX8_gap_4 rfl rfl ?_
  refine x_iload_n (i := 1) 1 C dX8_gap_5 rfl rfl ?_
  obtain ⟨z2, e2, hf⟩ := bnd hf
  refine x_callV (r := 1) (As := [.int x1]) (rest := []) C dX8_gap_6 kmX8_151 miX8_isNumberOfCrossings (ctX8_isNumberOfCrossings (lo X) (qo X) N z1.2 x1 z2.1 z2.2 e2) rfl rfl ⟨Nat.le_trans (by decide) B.2.2.2.1, Nat.le_trans (by decide) B.2.2.2.2.1⟩ (by simp [cat_i, cat_l, rf_cat]) rfl ?_
  refine x_if_eq (tgt := 21) C dX8_gap_9 (by decide) (fun c => ?_) (fun c => ?_)
  · rw [if_pos c] at hf
    refine x_bipush (v := (-2)) C dX8_gap_21 (by decide) ?_
    refine x_lv [] rfl ?_
    exact tX8_gap_b23 N z2.2 (-2) B hf
  · rw [if_neg c] at hf
    refine x_aload_n (i := 0) 0 C dX8_gap_12 rfl rfl ?_
    refine x_getR (r := 1) (r2 := 26) C dX8_gap_13 kfX8_36 rfl rfl (by decide) ?_
    refine x_iload_n (i := 1) 1 C dX8_gap_16 rfl rfl ?_
    obtain ⟨g1, hf⟩ := ife hf
    refine x_iald (r := 26) C dX8_gap_17 rfl g1 ?_
    refine x_goto (tgt := 23) C dX8_gap_18 (by decide) ?_
    refine x_lv [] rfl ?_
    exact tX8_gap_b23 N z2.2 (z2.2.1 26 x1.toNatClampNeg) B hf
theorem ctX8_gap (l : Launch) (q : Nat → Nat) (N : Nat) (h : pH) (x1 : Int32) (v : Int32) (h' : pH) (hf : fX8_gap N h x1 = some (v, h')) : Ctr l q yX8_gap cX8_gap 2 (some .int) 4 96 [rf q 1, .int x1] h h' (some (.int v)) := by
  refine ct_of (own := RX8) (lv := [(0, rf q 1), (1, .int x1)]) (by decide +kernel) rfl (by simp [lg_sl, rf_cat, cat_i, cat_l]) (by first | rfl | simp [lv_args, rf_cat, cat_i, cat_l]) ?_
  intro X B
  obtain rfl := B.2.1
  obtain rfl := B.2.2.1
  exact tX8_gap N h x1 B hf
def fX8_comes (N : Nat) (h : pH) (x1 : Int32) (x2 : Int32) : Option (Int32 × pH) :=
  (fX8_freshen N h).bind fun z1 => ((fX8_within N z1.2 x1 0 ((z1.2.1 24 1) - 1)).bind fun z2 => (if z2.1 = 0 then (some ((-2), z2.2)) else ((fX3_whoAt N z2.2 x1).bind fun z3 => ((fX2_at N z3.2 z3.1).bind fun z4 => (if ix x1 25 = true then (if x2 = 0 then ((fX0_outcome N z4.2 z4.1 (z4.2.1 26 x1.toNatClampNeg)).bind fun z5 => (some (z5.1, z5.2))) else (if x2 = 1 then ((fX0_toll N z4.2 z4.1 (z4.2.1 26 x1.toNatClampNeg)).bind fun z6 => (some (z6.1, z6.2))) else (if x2 = 2 then ((fX0_longestRow N z4.2 z4.1 (z4.2.1 26 x1.toNatClampNeg)).bind fun z7 => (some (z7.1, z7.2))) else (some ((-2), z4.2))))) else none)))))
set_option maxRecDepth 100000 in
set_option maxHeartbeats 4000000 in
theorem tX8_comes {X : Xt} {v : Int32} {h' : pH} (N : Nat) (h : pH) (x1 : Int32) (x2 : Int32) (B : Bd (lo X) (qo X) cX8_comes RX8 5 (some .int) 4 96 (some (.int v)) h' X) (hf : fX8_comes N h x1 x2 = some (v, h')) : Wx X 5 0 [(0, rf (qo X) 1), (1, .int x1), (2, .int x2)] [] h := by
  have C := B.1
  unfold fX8_comes at hf
  refine x_aload_n (i := 0) 0 C dX8_comes_0 rfl rfl ?_
  obtain ⟨z1, e1, hf⟩ := bnd hf
  refine x_callV (r := 1) (As := []) (rest := []) C dX8_comes_1 kmX8_110 miX8_freshen (ctX8_freshen (lo X) (qo X) N h z1.1 z1.2 e1) rfl rfl ⟨Nat.le_trans (by decide) B.2.2.2.1, Nat.le_trans (by decide) B.2.2.2.2.1⟩ (by simp [cat_i, cat_l, rf_cat]) rfl ?_
  refine x_iload_n (i := 1) 1 C dX8_comes_4 rfl rfl ?_
  refine x_iconst (v := 0) C dX8_comes_5 (by decide) ?_
  refine x_aload_n (i := 0) 0 C dX8_comes_6 rfl rfl ?_
  refine x_getR (r := 1) (r2 := 24) C dX8_comes_7 kfX8_32 rfl rfl (by decide) ?_
  refine x_getI (r := 24) C dX8_comes_10 kfX8_154 rfl ?_
  refine x_iconst (v := 1) C dX8_comes_13 (by decide) ?_
  refine x_isub C dX8_comes_14 ?_
  obtain ⟨z2, e2, hf⟩ := bnd hf
  refine x_callS (As := [.int x1, .int 0, .int ((z1.2.1 24 1) - 1)]) (rest := []) C dX8_comes_15 kmX8_91 miX8_within (ctX8_within (lo X) (qo X) N z1.2 x1 0 ((z1.2.1 24 1) - 1) z2.1 z2.2 e2) rfl rfl ⟨Nat.le_trans (by decide) B.2.2.2.1, Nat.le_trans (by decide) B.2.2.2.2.1⟩ (by simp [cat_i, cat_l, rf_cat]) ?_
  refine x_if_ne (tgt := 24) C dX8_comes_18 (by decide) (fun c => ?_) (fun c => ?_)
  · rw [if_neg c] at hf
    refine x_aload_n (i := 0) 0 C dX8_comes_24 rfl rfl ?_
    refine x_getR (r := 1) (r2 := 14) C dX8_comes_25 kfX8_25 rfl rfl (by decide) ?_
    refine x_aload_n (i := 0) 0 C dX8_comes_28 rfl rfl ?_
    refine x_getR (r := 1) (r2 := 24) C dX8_comes_29 kfX8_32 rfl rfl (by decide) ?_
    refine x_iload_n (i := 1) 1 C dX8_comes_32 rfl rfl ?_
    obtain ⟨z3, e3, hf⟩ := bnd hf
    refine x_callV (r := 24) (As := [.int x1]) (rest := [rf (qo X) 14]) C dX8_comes_33 kmX8_138 miX3_whoAt (ctX3_whoAt (lo X) (qo X) N z2.2 x1 z3.1 z3.2 e3) rfl rfl ⟨Nat.le_trans (by decide) B.2.2.2.1, Nat.le_trans (by decide) B.2.2.2.2.1⟩ (by simp [cat_i, cat_l, rf_cat]) rfl ?_
    obtain ⟨z4, e4, hf⟩ := bnd hf
    refine x_callV (r := 14) (As := [.int z3.1]) (rest := []) C dX8_comes_36 kmX8_120 miX2_at (ctX2_at (lo X) (qo X) N z3.2 z3.1 z4.1 z4.2 e4) rfl rfl ⟨Nat.le_trans (by decide) B.2.2.2.1, Nat.le_trans (by decide) B.2.2.2.2.1⟩ (by simp [cat_i, cat_l, rf_cat]) rfl ?_
    refine x_astore_n (i := 3) (lv' := [(3, rf (qo X) z4.1), (0, rf (qo X) 1), (1, .int x1), (2, .int x2)]) C dX8_comes_39 rfl (by decide) rfl ?_
    refine x_aload_n (i := 0) 1 C dX8_comes_40 rfl rfl ?_
    refine x_getR (r := 1) (r2 := 26) C dX8_comes_41 kfX8_36 rfl rfl (by decide) ?_
    refine x_iload_n (i := 1) 2 C dX8_comes_44 rfl rfl ?_
    obtain ⟨g1, hf⟩ := ife hf
    refine x_iald (r := 26) C dX8_comes_45 rfl g1 ?_
    refine x_istore (lv' := [(4, .int (z4.2.1 26 x1.toNatClampNeg)), (3, rf (qo X) z4.1), (0, rf (qo X) 1), (1, .int x1), (2, .int x2)]) C dX8_comes_46 (by decide) (by simp [List.filter, rf_cat]) ?_
    refine x_iload_n (i := 2) 4 C dX8_comes_48 rfl rfl ?_
    by_cases c0 : x2 = 0
    · rw [if_pos c0] at hf
      refine x_tabIn (w := 0) (tgt := 76) (off := 27) C dX8_comes_49 c0 (by decide) (by decide) (by decide) (by decide) ?_
      refine x_aload_n (i := 0) 2 C dX8_comes_76 rfl rfl ?_
      refine x_getR (r := 1) (r2 := 9) C dX8_comes_77 kfX8_18 rfl rfl (by decide) ?_
      refine x_aload_n (i := 3) 1 C dX8_comes_80 rfl rfl ?_
      refine x_iload 0 C dX8_comes_81 rfl ?_
      obtain ⟨z5, e5, hf⟩ := bnd hf
      refine x_callV (r := 9) (As := [rf (qo X) z4.1, .int (z4.2.1 26 x1.toNatClampNeg)]) (rest := []) C dX8_comes_83 kmX8_157 miX0_outcome (ctX0_outcome (lo X) (qo X) N z4.2 z4.1 (z4.2.1 26 x1.toNatClampNeg) z5.1 z5.2 e5) rfl rfl ⟨Nat.le_trans (by decide) B.2.2.2.1, Nat.le_trans (by decide) B.2.2.2.2.1⟩ (by simp [cat_i, cat_l, rf_cat]) rfl ?_
      obtain ⟨rfl, rfl⟩ := rtn hf
      exact B.2.2.2.2.2.1 _ _ rfl rfl rfl _ _ dX8_comes_86
    rw [if_neg c0] at hf
    by_cases c1 : x2 = 1
    · rw [if_pos c1] at hf
      refine x_tabIn (w := 1) (tgt := 87) (off := 38) C dX8_comes_49 c1 (by decide) (by decide) (by decide) (by decide) ?_
      refine x_aload_n (i := 0) 2 C dX8_comes_87 rfl rfl ?_
      refine x_getR (r := 1) (r2 := 9) C dX8_comes_88 kfX8_18 rfl rfl (by decide) ?_
      refine x_aload_n (i := 3) 1 C dX8_comes_91 rfl rfl ?_
      refine x_iload 0 C dX8_comes_92 rfl ?_
      obtain ⟨z6, e6, hf⟩ := bnd hf
      refine x_callV (r := 9) (As := [rf (qo X) z4.1, .int (z4.2.1 26 x1.toNatClampNeg)]) (rest := []) C dX8_comes_94 kmX8_161 miX0_toll (ctX0_toll (lo X) (qo X) N z4.2 z4.1 (z4.2.1 26 x1.toNatClampNeg) z6.1 z6.2 e6) rfl rfl ⟨Nat.le_trans (by decide) B.2.2.2.1, Nat.le_trans (by decide) B.2.2.2.2.1⟩ (by simp [cat_i, cat_l, rf_cat]) rfl ?_
      obtain ⟨rfl, rfl⟩ := rtn hf
      exact B.2.2.2.2.2.1 _ _ rfl rfl rfl _ _ dX8_comes_97
    rw [if_neg c1] at hf
    by_cases c2 : x2 = 2
    · rw [if_pos c2] at hf
      refine x_tabIn (w := 2) (tgt := 98) (off := 49) C dX8_comes_49 c2 (by decide) (by decide) (by decide) (by decide) ?_
      refine x_aload_n (i := 0) 2 C dX8_comes_98 rfl rfl ?_
      refine x_getR (r := 1) (r2 := 9) C dX8_comes_99 kfX8_18 rfl rfl (by decide) ?_
      refine x_aload_n (i := 3) 1 C dX8_comes_102 rfl rfl ?_
      refine x_iload 0 C dX8_comes_103 rfl ?_
      obtain ⟨z7, e7, hf⟩ := bnd hf
      refine x_callV (r := 9) (As := [rf (qo X) z4.1, .int (z4.2.1 26 x1.toNatClampNeg)]) (rest := []) C dX8_comes_105 kmX8_164 miX0_longestRow (ctX0_longestRow (lo X) (qo X) N z4.2 z4.1 (z4.2.1 26 x1.toNatClampNeg) z7.1 z7.2 e7) rfl rfl ⟨Nat.le_trans (by decide) B.2.2.2.1, Nat.le_trans (by decide) B.2.2.2.2.1⟩ (by simp [cat_i, cat_l, rf_cat]) rfl ?_
      obtain ⟨rfl, rfl⟩ := rtn hf
      exact B.2.2.2.2.2.1 _ _ rfl rfl rfl _ _ dX8_comes_108
    rw [if_neg c2] at hf
    refine x_tabOut (n := 3) (tgt := 109) C dX8_comes_49 (fun i hi => match i, hi with | 0, _ => c0 | 1, _ => c1 | 2, _ => c2 | i + 3, hi => absurd hi (by omega)) (by decide) ?_
    refine x_bipush (v := (-2)) C dX8_comes_109 (by decide) ?_
    obtain ⟨rfl, rfl⟩ := rtn hf
    exact B.2.2.2.2.2.1 _ _ rfl rfl rfl _ _ dX8_comes_111
  · rw [if_pos c] at hf
    refine x_bipush (v := (-2)) C dX8_comes_21 (by decide) ?_
    obtain ⟨rfl, rfl⟩ := rtn hf
    exact B.2.2.2.2.2.1 _ _ rfl rfl rfl _ _ dX8_comes_23
theorem ctX8_comes (l : Launch) (q : Nat → Nat) (N : Nat) (h : pH) (x1 : Int32) (x2 : Int32) (v : Int32) (h' : pH) (hf : fX8_comes N h x1 x2 = some (v, h')) : Ctr l q yX8_comes cX8_comes 5 (some .int) 4 96 [rf q 1, .int x1, .int x2] h h' (some (.int v)) := by
  refine ct_of (own := RX8) (lv := [(0, rf q 1), (1, .int x1), (2, .int x2)]) (by decide +kernel) rfl (by simp [lg_sl, rf_cat, cat_i, cat_l]) (by first | rfl | simp [lv_args, rf_cat, cat_i, cat_l]) ?_
  intro X B
  obtain rfl := B.2.1
  obtain rfl := B.2.2.1
  exact tX8_comes N h x1 x2 B hf
def fX8_outcomeOfCrossing (N : Nat) (h : pH) (x1 : Int32) : Option (Int32 × pH) :=
  (fX3_whoAt N h x1).bind fun z1 => ((fX2_at N z1.2 z1.1).bind fun z2 => (if ix x1 25 = true then ((fX0_outcome N z2.2 z2.1 (z2.2.1 26 x1.toNatClampNeg)).bind fun z3 => (some (z3.1, z3.2))) else none))
set_option maxRecDepth 100000 in
set_option maxHeartbeats 4000000 in
theorem tX8_outcomeOfCrossing {X : Xt} {v : Int32} {h' : pH} (N : Nat) (h : pH) (x1 : Int32) (B : Bd (lo X) (qo X) cX8_outcomeOfCrossing RX8 2 (some .int) 2 43 (some (.int v)) h' X) (hf : fX8_outcomeOfCrossing N h x1 = some (v, h')) : Wx X 2 0 [(0, rf (qo X) 1), (1, .int x1)] [] h := by
  have C := B.1
  unfold fX8_outcomeOfCrossing at hf
  refine x_aload_n (i := 0) 0 C dX8_outcomeOfCrossing_0 rfl rfl ?_
  refine x_getR (r := 1) (r2 := 9) C dX8_outcomeOfCrossing_1 kfX8_18 rfl rfl (by decide) ?_
  refine x_aload_n (i := 0) 0 C dX8_outcomeOfCrossing_4 rfl rfl ?_
  refine x_getR (r := 1) (r2 := 14) C dX8_outcomeOfCrossing_5 kfX8_25 rfl rfl (by decide) ?_
  refine x_aload_n (i := 0) 0 C dX8_outcomeOfCrossing_8 rfl rfl ?_
  refine x_getR (r := 1) (r2 := 24) C dX8_outcomeOfCrossing_9 kfX8_32 rfl rfl (by decide) ?_
  refine x_iload_n (i := 1) 1 C dX8_outcomeOfCrossing_12 rfl rfl ?_
  obtain ⟨z1, e1, hf⟩ := bnd hf
  refine x_callV (r := 24) (As := [.int x1]) (rest := [rf (qo X) 14, rf (qo X) 9]) C dX8_outcomeOfCrossing_13 kmX8_138 miX3_whoAt (ctX3_whoAt (lo X) (qo X) N h x1 z1.1 z1.2 e1) rfl rfl ⟨Nat.le_trans (by decide) B.2.2.2.1, Nat.le_trans (by decide) B.2.2.2.2.1⟩ (by simp [cat_i, cat_l, rf_cat]) rfl ?_
  obtain ⟨z2, e2, hf⟩ := bnd hf
  refine x_callV (r := 14) (As := [.int z1.1]) (rest := [rf (qo X) 9]) C dX8_outcomeOfCrossing_16 kmX8_120 miX2_at (ctX2_at (lo X) (qo X) N z1.2 z1.1 z2.1 z2.2 e2) rfl rfl ⟨Nat.le_trans (by decide) B.2.2.2.1, Nat.le_trans (by decide) B.2.2.2.2.1⟩ (by simp [cat_i, cat_l, rf_cat]) rfl ?_
  refine x_aload_n (i := 0) 0 C dX8_outcomeOfCrossing_19 rfl rfl ?_
  refine x_getR (r := 1) (r2 := 26) C dX8_outcomeOfCrossing_20 kfX8_36 rfl rfl (by decide) ?_
  refine x_iload_n (i := 1) 1 C dX8_outcomeOfCrossing_23 rfl rfl ?_
  obtain ⟨g1, hf⟩ := ife hf
  refine x_iald (r := 26) C dX8_outcomeOfCrossing_24 rfl g1 ?_
  obtain ⟨z3, e3, hf⟩ := bnd hf
  refine x_callV (r := 9) (As := [rf (qo X) z2.1, .int (z2.2.1 26 x1.toNatClampNeg)]) (rest := []) C dX8_outcomeOfCrossing_25 kmX8_157 miX0_outcome (ctX0_outcome (lo X) (qo X) N z2.2 z2.1 (z2.2.1 26 x1.toNatClampNeg) z3.1 z3.2 e3) rfl rfl ⟨Nat.le_trans (by decide) B.2.2.2.1, Nat.le_trans (by decide) B.2.2.2.2.1⟩ (by simp [cat_i, cat_l, rf_cat]) rfl ?_
  obtain ⟨rfl, rfl⟩ := rtn hf
  exact B.2.2.2.2.2.1 _ _ rfl rfl rfl _ _ dX8_outcomeOfCrossing_28
theorem ctX8_outcomeOfCrossing (l : Launch) (q : Nat → Nat) (N : Nat) (h : pH) (x1 : Int32) (v : Int32) (h' : pH) (hf : fX8_outcomeOfCrossing N h x1 = some (v, h')) : Ctr l q yX8_outcomeOfCrossing cX8_outcomeOfCrossing 2 (some .int) 2 43 [rf q 1, .int x1] h h' (some (.int v)) := by
  refine ct_of (own := RX8) (lv := [(0, rf q 1), (1, .int x1)]) (by decide +kernel) rfl (by simp [lg_sl, rf_cat, cat_i, cat_l]) (by first | rfl | simp [lv_args, rf_cat, cat_i, cat_l]) ?_
  intro X B
  obtain rfl := B.2.1
  obtain rfl := B.2.2.1
  exact tX8_outcomeOfCrossing N h x1 B hf
def fX8_times_b24 (N : Nat) (h : pH)  : Option (Int32 × pH) :=
  some ((-2), h)
set_option maxRecDepth 100000 in
set_option maxHeartbeats 4000000 in
theorem tX8_times_b24 {X : Xt} {v : Int32} {h' : pH} (N : Nat) (h : pH)  (B : Bd (lo X) (qo X) cX8_times RX8 6 (some .int) 4 96 (some (.int v)) h' X) (hf : fX8_times_b24 N h  = some (v, h')) : Wx X 6 24 [] [] h := by
  have C := B.1
  unfold fX8_times_b24 at hf
  refine x_bipush (v := (-2)) C dX8_times_24 (by decide) ?_
  obtain ⟨rfl, rfl⟩ := rtn hf
  exact B.2.2.2.2.2.1 _ _ rfl rfl rfl _ _ dX8_times_26
def fX8_times_b81 (N : Nat) (k43 : pH → Int32 → Int32 → Int32 → Int32 → Option (Int32 × pH)) (h : pH) (x1 : Int32) (x3 : Int32) (x4 : Int32) (x5 : Int32) : Option (Int32 × pH) :=
  k43 h x1 x3 x4 (x5 + 1)
set_option maxRecDepth 100000 in
set_option maxHeartbeats 4000000 in
theorem tX8_times_b81 {X : Xt} {v : Int32} {h' : pH} (N : Nat) (k43 : pH → Int32 → Int32 → Int32 → Int32 → Option (Int32 × pH)) (HK43 : ∀ (h : pH) (x1 : Int32) (x3 : Int32) (x4 : Int32) (x5 : Int32), k43 h x1 x3 x4 x5 = some (v, h') → Wx X 6 43 [(0, rf (qo X) 1), (1, .int x1), (3, .int x3), (4, .int x4), (5, .int x5)] [] h) (h : pH) (x1 : Int32) (x3 : Int32) (x4 : Int32) (x5 : Int32) (B : Bd (lo X) (qo X) cX8_times RX8 6 (some .int) 4 96 (some (.int v)) h' X) (hf : fX8_times_b81 N k43 h x1 x3 x4 x5 = some (v, h')) : Wx X 6 81 [(0, rf (qo X) 1), (1, .int x1), (3, .int x3), (4, .int x4), (5, .int x5)] [] h := by
  have C := B.1
  unfold fX8_times_b81 at hf
  refine x_iinc (v := x5 + 1) (lv' := [(5, .int (x5 + 1)), (0, rf (qo X) 1), (1, .int x1), (3, .int x3), (4, .int x4)]) 4 C dX8_times_81 rfl rfl (by decide) rfl ?_
  refine x_goto (tgt := 43) C dX8_times_84 (by decide) ?_
  refine x_lv [1, 2, 3, 4, 0] rfl ?_
  exact HK43 h x1 x3 x4 (x5 + 1) hf
def fX8_times_B43 (N : Nat) (k43 : pH → Int32 → Int32 → Int32 → Int32 → Option (Int32 × pH)) (h : pH) (x1 : Int32) (x3 : Int32) (x4 : Int32) (x5 : Int32) : Option (Int32 × pH) :=
  if (h.1 24 1) ≤ x5 then (some (x4, h)) else ((fX3_whoAt N h x5).bind fun z1 => (if z1.1 = x1 then ((fX8_outcomeOfCrossing N z1.2 x5).bind fun z2 => (if z2.1 = x3 then (fX8_times_b81 N k43 z2.2 x1 x3 (x4 + 1) x5) else (fX8_times_b81 N k43 z2.2 x1 x3 x4 x5))) else (fX8_times_b81 N k43 z1.2 x1 x3 x4 x5)))
set_option maxRecDepth 100000 in
set_option maxHeartbeats 4000000 in
theorem tX8_times_B43 {X : Xt} {v : Int32} {h' : pH} (N : Nat) (k43 : pH → Int32 → Int32 → Int32 → Int32 → Option (Int32 × pH)) (HK43 : ∀ (h : pH) (x1 : Int32) (x3 : Int32) (x4 : Int32) (x5 : Int32), k43 h x1 x3 x4 x5 = some (v, h') → Wx X 6 43 [(0, rf (qo X) 1), (1, .int x1), (3, .int x3), (4, .int x4), (5, .int x5)] [] h) (h : pH) (x1 : Int32) (x3 : Int32) (x4 : Int32) (x5 : Int32) (B : Bd (lo X) (qo X) cX8_times RX8 6 (some .int) 4 96 (some (.int v)) h' X) (hf : fX8_times_B43 N k43 h x1 x3 x4 x5 = some (v, h')) : Wx X 6 43 [(0, rf (qo X) 1), (1, .int x1), (3, .int x3), (4, .int x4), (5, .int x5)] [] h := by
  have C := B.1
  unfold fX8_times_B43 at hf
  refine x_iload 4 C dX8_times_43 rfl ?_
  refine x_aload_n (i := 0) 0 C dX8_times_45 rfl rfl ?_
  refine x_getR (r := 1) (r2 := 24) C dX8_times_46 kfX8_32 rfl rfl (by decide) ?_
  refine x_getI (r := 24) C dX8_times_49 kfX8_154 rfl ?_
  refine x_icmp_ge (tgt := 87) C dX8_times_52 (by decide) (fun c => ?_) (fun c => ?_)
  · rw [if_pos c] at hf
    refine x_iload 3 C dX8_times_87 rfl ?_
    obtain ⟨rfl, rfl⟩ := rtn hf
    exact B.2.2.2.2.2.1 _ _ rfl rfl rfl _ _ dX8_times_89
  · rw [if_neg c] at hf
    refine x_aload_n (i := 0) 0 C dX8_times_55 rfl rfl ?_
    refine x_getR (r := 1) (r2 := 24) C dX8_times_56 kfX8_32 rfl rfl (by decide) ?_
    refine x_iload 4 C dX8_times_59 rfl ?_
    obtain ⟨z1, e1, hf⟩ := bnd hf
    refine x_callV (r := 24) (As := [.int x5]) (rest := []) C dX8_times_61 kmX8_138 miX3_whoAt (ctX3_whoAt (lo X) (qo X) N h x5 z1.1 z1.2 e1) rfl rfl ⟨Nat.le_trans (by decide) B.2.2.2.1, Nat.le_trans (by decide) B.2.2.2.2.1⟩ (by simp [cat_i, cat_l, rf_cat]) rfl ?_
    refine x_iload_n (i := 1) 1 C dX8_times_64 rfl rfl ?_
    refine x_icmp_ne (tgt := 81) C dX8_times_65 (by decide) (fun c => ?_) (fun c => ?_)
    · rw [if_neg c] at hf
      exact tX8_times_b81 N k43 HK43 z1.2 x1 x3 x4 x5 B hf
    · rw [if_pos c] at hf
      refine x_aload_n (i := 0) 0 C dX8_times_68 rfl rfl ?_
      refine x_iload 4 C dX8_times_69 rfl ?_
      obtain ⟨z2, e2, hf⟩ := bnd hf
      refine x_callV (r := 1) (As := [.int x5]) (rest := []) C dX8_times_71 kmX8_167 miX8_outcomeOfCrossing (ctX8_outcomeOfCrossing (lo X) (qo X) N z1.2 x5 z2.1 z2.2 e2) rfl rfl ⟨Nat.le_trans (by decide) B.2.2.2.1, Nat.le_trans (by decide) B.2.2.2.2.1⟩ (by simp [cat_i, cat_l, rf_cat]) rfl ?_
      refine x_iload_n (i := 3) 2 C dX8_times_74 rfl rfl ?_
      refine x_icmp_ne (tgt := 81) C dX8_times_75 (by decide) (fun c => ?_) (fun c => ?_)
      · rw [if_neg c] at hf
        exact tX8_times_b81 N k43 HK43 z2.2 x1 x3 x4 x5 B hf
      · rw [if_pos c] at hf
        refine x_iinc (v := x4 + 1) (lv' := [(4, .int (x4 + 1)), (0, rf (qo X) 1), (1, .int x1), (3, .int x3), (5, .int x5)]) 3 C dX8_times_78 rfl rfl (by decide) rfl ?_
        refine x_lv [1, 2, 3, 0, 4] rfl ?_
        exact tX8_times_b81 N k43 HK43 z2.2 x1 x3 (x4 + 1) x5 B hf
def fX8_times_L43 (N : Nat) : Nat → pH → Int32 → Int32 → Int32 → Int32 → Option (Int32 × pH)
  | 0 => fun _ _ _ _ _ => none
  | n + 1 => fX8_times_B43 N (fX8_times_L43 N n)
theorem tX8_times_L43 {X : Xt} {v : Int32} {h' : pH} (N : Nat) (B : Bd (lo X) (qo X) cX8_times RX8 6 (some .int) 4 96 (some (.int v)) h' X) : ∀ (n : Nat) (h : pH) (x1 : Int32) (x3 : Int32) (x4 : Int32) (x5 : Int32), fX8_times_L43 N n h x1 x3 x4 x5 = some (v, h') → Wx X 6 43 [(0, rf (qo X) 1), (1, .int x1), (3, .int x3), (4, .int x4), (5, .int x5)] [] h := by
  intro n
  induction n with
  | zero => intro h x1 x3 x4 x5 hf; exact absurd (show (none : Option (Int32 × pH)) = some (v, h') from hf) (fun z => by cases z)
  | succ n ih => intro h x1 x3 x4 x5 hf; exact tX8_times_B43 N (fX8_times_L43 N n) ih h x1 x3 x4 x5 B hf
def fX8_times_b36 (N : Nat) (h : pH) (x1 : Int32) (xs0 : Int32) : Option (Int32 × pH) :=
  fX8_times_L43 N N h x1 xs0 0 0
set_option maxRecDepth 100000 in
set_option maxHeartbeats 4000000 in
theorem tX8_times_b36 {X : Xt} {v : Int32} {h' : pH} (N : Nat) (h : pH) (x1 : Int32) (xs0 : Int32) (B : Bd (lo X) (qo X) cX8_times RX8 6 (some .int) 4 96 (some (.int v)) h' X) (hf : fX8_times_b36 N h x1 xs0 = some (v, h')) : Wx X 6 36 [(0, rf (qo X) 1), (1, .int x1)] [.int xs0] h := by
  have C := B.1
  unfold fX8_times_b36 at hf
  refine x_istore_n (i := 3) (lv' := [(3, .int xs0), (0, rf (qo X) 1), (1, .int x1)]) C dX8_times_36 rfl (by decide) rfl ?_
  refine x_iconst (v := 0) C dX8_times_37 (by decide) ?_
  refine x_istore (lv' := [(4, .int 0), (3, .int xs0), (0, rf (qo X) 1), (1, .int x1)]) C dX8_times_38 (by decide) rfl ?_
  refine x_iconst (v := 0) C dX8_times_40 (by decide) ?_
  refine x_istore (lv' := [(5, .int 0), (4, .int 0), (3, .int xs0), (0, rf (qo X) 1), (1, .int x1)]) C dX8_times_41 (by decide) rfl ?_
  refine x_lv [3, 4, 2, 1, 0] rfl ?_
  exact tX8_times_L43 N  B N h x1 xs0 0 0 hf
def fX8_times (N : Nat) (h : pH) (x1 : Int32) (x2 : Int32) : Option (Int32 × pH) :=
  (fX8_freshen N h).bind fun z1 => ((fX2_at N z1.2 x1).bind fun z2 => (if z2.1 = 0 then (fX8_times_b24 N z2.2) else ((fX8_within N z2.2 x2 0 1).bind fun z3 => (if z3.1 = 0 then (fX8_times_b24 N z3.2) else (if x2 = 0 then (fX8_times_b36 N z3.2 x1 1) else (fX8_times_b36 N z3.2 x1 2))))))
set_option maxRecDepth 100000 in
set_option maxHeartbeats 4000000 in
theorem tX8_times {X : Xt} {v : Int32} {h' : pH} (N : Nat) (h : pH) (x1 : Int32) (x2 : Int32) (B : Bd (lo X) (qo X) cX8_times RX8 6 (some .int) 4 96 (some (.int v)) h' X) (hf : fX8_times N h x1 x2 = some (v, h')) : Wx X 6 0 [(0, rf (qo X) 1), (1, .int x1), (2, .int x2)] [] h := by
  have C := B.1
  unfold fX8_times at hf
  refine x_aload_n (i := 0) 0 C dX8_times_0 rfl rfl ?_
  obtain ⟨z1, e1, hf⟩ := bnd hf
  refine x_callV (r := 1) (As := []) (rest := []) C dX8_times_1 kmX8_110 miX8_freshen (ctX8_freshen (lo X) (qo X) N h z1.1 z1.2 e1) rfl rfl ⟨Nat.le_trans (by decide) B.2.2.2.1, Nat.le_trans (by decide) B.2.2.2.2.1⟩ (by simp [cat_i, cat_l, rf_cat]) rfl ?_
  refine x_aload_n (i := 0) 0 C dX8_times_4 rfl rfl ?_
  refine x_getR (r := 1) (r2 := 14) C dX8_times_5 kfX8_25 rfl rfl (by decide) ?_
  refine x_iload_n (i := 1) 1 C dX8_times_8 rfl rfl ?_
  obtain ⟨z2, e2, hf⟩ := bnd hf
  refine x_callV (r := 14) (As := [.int x1]) (rest := []) C dX8_times_9 kmX8_120 miX2_at (ctX2_at (lo X) (qo X) N z1.2 x1 z2.1 z2.2 e2) rfl rfl ⟨Nat.le_trans (by decide) B.2.2.2.1, Nat.le_trans (by decide) B.2.2.2.2.1⟩ (by simp [cat_i, cat_l, rf_cat]) rfl ?_
  refine x_ifnull (tgt := 24) C dX8_times_12 (by decide) (fun c => ?_) (fun c => ?_)
  · rw [if_pos c] at hf
    refine x_lv [] rfl ?_
    exact tX8_times_b24 N z2.2 B hf
  · rw [if_neg c] at hf
    refine x_iload_n (i := 2) 2 C dX8_times_15 rfl rfl ?_
    refine x_iconst (v := 0) C dX8_times_16 (by decide) ?_
    refine x_iconst (v := 1) C dX8_times_17 (by decide) ?_
    obtain ⟨z3, e3, hf⟩ := bnd hf
    refine x_callS (As := [.int x2, .int 0, .int 1]) (rest := []) C dX8_times_18 kmX8_91 miX8_within (ctX8_within (lo X) (qo X) N z2.2 x2 0 1 z3.1 z3.2 e3) rfl rfl ⟨Nat.le_trans (by decide) B.2.2.2.1, Nat.le_trans (by decide) B.2.2.2.2.1⟩ (by simp [cat_i, cat_l, rf_cat]) ?_
    refine x_if_ne (tgt := 27) C dX8_times_21 (by decide) (fun c => ?_) (fun c => ?_)
    · rw [if_neg c] at hf
      refine x_iload_n (i := 2) 2 C dX8_times_27 rfl rfl ?_
      refine x_if_ne (tgt := 35) C dX8_times_28 (by decide) (fun c => ?_) (fun c => ?_)
      · rw [if_neg c] at hf
        refine x_iconst (v := 2) C dX8_times_35 (by decide) ?_
        refine x_lv [0, 1] rfl ?_
        exact tX8_times_b36 N z3.2 x1 2 B hf
      · rw [if_pos c] at hf
        refine x_iconst (v := 1) C dX8_times_31 (by decide) ?_
        refine x_goto (tgt := 36) C dX8_times_32 (by decide) ?_
        refine x_lv [0, 1] rfl ?_
        exact tX8_times_b36 N z3.2 x1 1 B hf
    · rw [if_pos c] at hf
      refine x_lv [] rfl ?_
      exact tX8_times_b24 N z3.2 B hf
theorem ctX8_times (l : Launch) (q : Nat → Nat) (N : Nat) (h : pH) (x1 : Int32) (x2 : Int32) (v : Int32) (h' : pH) (hf : fX8_times N h x1 x2 = some (v, h')) : Ctr l q yX8_times cX8_times 6 (some .int) 4 96 [rf q 1, .int x1, .int x2] h h' (some (.int v)) := by
  refine ct_of (own := RX8) (lv := [(0, rf q 1), (1, .int x1), (2, .int x2)]) (by decide +kernel) rfl (by simp [lg_sl, rf_cat, cat_i, cat_l]) (by first | rfl | simp [lv_args, rf_cat, cat_i, cat_l]) ?_
  intro X B
  obtain rfl := B.2.1
  obtain rfl := B.2.2.1
  exact tX8_times N h x1 x2 B hf
def fX8_tollsBehind_B4 (N : Nat) (k4 : pH → Int32 → Int32 → Int32 → Option (Int32 × pH)) (h : pH) (x1 : Int32) (x2 : Int32) (x3 : Int32) : Option (Int32 × pH) :=
  if x1 ≤ x3 then (some (x2, h)) else ((fX3_whoAt N h x3).bind fun z1 => ((fX2_at N z1.2 z1.1).bind fun z2 => (if ix x3 25 = true then ((fX0_toll N z2.2 z2.1 (z2.2.1 26 x3.toNatClampNeg)).bind fun z3 => (k4 z3.2 x1 (x2 + z3.1) (x3 + 1))) else none)))
set_option maxRecDepth 100000 in
set_option maxHeartbeats 4000000 in
theorem tX8_tollsBehind_B4 {X : Xt} {v : Int32} {h' : pH} (N : Nat) (k4 : pH → Int32 → Int32 → Int32 → Option (Int32 × pH)) (HK4 : ∀ (h : pH) (x1 : Int32) (x2 : Int32) (x3 : Int32), k4 h x1 x2 x3 = some (v, h') → Wx X 4 4 [(0, rf (qo X) 1), (1, .int x1), (2, .int x2), (3, .int x3)] [] h) (h : pH) (x1 : Int32) (x2 : Int32) (x3 : Int32) (B : Bd (lo X) (qo X) cX8_tollsBehind RX8 4 (some .int) 2 44 (some (.int v)) h' X) (hf : fX8_tollsBehind_B4 N k4 h x1 x2 x3 = some (v, h')) : Wx X 4 4 [(0, rf (qo X) 1), (1, .int x1), (2, .int x2), (3, .int x3)] [] h := by
  have C := B.1
  unfold fX8_tollsBehind_B4 at hf
  refine x_iload_n (i := 3) 3 C dX8_tollsBehind_4 rfl rfl ?_
  refine x_iload_n (i := 1) 1 C dX8_tollsBehind_5 rfl rfl ?_
  refine x_icmp_ge (tgt := 46) C dX8_tollsBehind_6 (by decide) (fun c => ?_) (fun c => ?_)
  · rw [if_pos c] at hf
    refine x_iload_n (i := 2) 2 C dX8_tollsBehind_46 rfl rfl ?_
    obtain ⟨rfl, rfl⟩ := rtn hf
    exact B.2.2.2.2.2.1 _ _ rfl rfl rfl _ _ dX8_tollsBehind_47
  · rw [if_neg c] at hf
    refine x_iload_n (i := 2) 2 C dX8_tollsBehind_9 rfl rfl ?_
    refine x_aload_n (i := 0) 0 C dX8_tollsBehind_10 rfl rfl ?_
    refine x_getR (r := 1) (r2 := 9) C dX8_tollsBehind_11 kfX8_18 rfl rfl (by decide) ?_
    refine x_aload_n (i := 0) 0 C dX8_tollsBehind_14 rfl rfl ?_
    refine x_getR (r := 1) (r2 := 14) C dX8_tollsBehind_15 kfX8_25 rfl rfl (by decide) ?_
    refine x_aload_n (i := 0) 0 C dX8_tollsBehind_18 rfl rfl ?_
    refine x_getR (r := 1) (r2 := 24) C dX8_tollsBehind_19 kfX8_32 rfl rfl (by decide) ?_
    refine x_iload_n (i := 3) 3 C dX8_tollsBehind_22 rfl rfl ?_
    obtain ⟨z1, e1, hf⟩ := bnd hf
    refine x_callV (r := 24) (As := [.int x3]) (rest := [rf (qo X) 14, rf (qo X) 9, .int x2]) C dX8_tollsBehind_23 kmX8_138 miX3_whoAt (ctX3_whoAt (lo X) (qo X) N h x3 z1.1 z1.2 e1) rfl rfl ⟨Nat.le_trans (by decide) B.2.2.2.1, Nat.le_trans (by decide) B.2.2.2.2.1⟩ (by simp [cat_i, cat_l, rf_cat]) rfl ?_
    obtain ⟨z2, e2, hf⟩ := bnd hf
    refine x_callV (r := 14) (As := [.int z1.1]) (rest := [rf (qo X) 9, .int x2]) C dX8_tollsBehind_26 kmX8_120 miX2_at (ctX2_at (lo X) (qo X) N z1.2 z1.1 z2.1 z2.2 e2) rfl rfl ⟨Nat.le_trans (by decide) B.2.2.2.1, Nat.le_trans (by decide) B.2.2.2.2.1⟩ (by simp [cat_i, cat_l, rf_cat]) rfl ?_
    refine x_aload_n (i := 0) 0 C dX8_tollsBehind_29 rfl rfl ?_
    refine x_getR (r := 1) (r2 := 26) C dX8_tollsBehind_30 kfX8_36 rfl rfl (by decide) ?_
    refine x_iload_n (i := 3) 3 C dX8_tollsBehind_33 rfl rfl ?_
    obtain ⟨g1, hf⟩ := ife hf
    refine x_iald (r := 26) C dX8_tollsBehind_34 rfl g1 ?_
    obtain ⟨z3, e3, hf⟩ := bnd hf
    refine x_callV (r := 9) (As := [rf (qo X) z2.1, .int (z2.2.1 26 x3.toNatClampNeg)]) (rest := [.int x2]) C dX8_tollsBehind_35 kmX8_161 miX0_toll (ctX0_toll (lo X) (qo X) N z2.2 z2.1 (z2.2.1 26 x3.toNatClampNeg) z3.1 z3.2 e3) rfl rfl ⟨Nat.le_trans (by decide) B.2.2.2.1, Nat.le_trans (by decide) B.2.2.2.2.1⟩ (by simp [cat_i, cat_l, rf_cat]) rfl ?_
    refine x_iadd C dX8_tollsBehind_38 ?_
    refine x_istore_n (i := 2) (lv' := [(2, .int (x2 + z3.1)), (0, rf (qo X) 1), (1, .int x1), (3, .int x3)]) C dX8_tollsBehind_39 rfl (by decide) rfl ?_
    refine x_iinc (v := x3 + 1) (lv' := [(3, .int (x3 + 1)), (2, .int (x2 + z3.1)), (0, rf (qo X) 1), (1, .int x1)]) 3 C dX8_tollsBehind_40 rfl rfl (by decide) rfl ?_
    refine x_goto (tgt := 4) C dX8_tollsBehind_43 (by decide) ?_
    refine x_lv [2, 3, 1, 0] rfl ?_
    exact HK4 z3.2 x1 (x2 + z3.1) (x3 + 1) hf
def fX8_tollsBehind_L4 (N : Nat) : Nat → pH → Int32 → Int32 → Int32 → Option (Int32 × pH)
  | 0 => fun _ _ _ _ => none
  | n + 1 => fX8_tollsBehind_B4 N (fX8_tollsBehind_L4 N n)
theorem tX8_tollsBehind_L4 {X : Xt} {v : Int32} {h' : pH} (N : Nat) (B : Bd (lo X) (qo X) cX8_tollsBehind RX8 4 (some .int) 2 44 (some (.int v)) h' X) : ∀ (n : Nat) (h : pH) (x1 : Int32) (x2 : Int32) (x3 : Int32), fX8_tollsBehind_L4 N n h x1 x2 x3 = some (v, h') → Wx X 4 4 [(0, rf (qo X) 1), (1, .int x1), (2, .int x2), (3, .int x3)] [] h := by
  intro n
  induction n with
  | zero => intro h x1 x2 x3 hf; exact absurd (show (none : Option (Int32 × pH)) = some (v, h') from hf) (fun z => by cases z)
  | succ n ih => intro h x1 x2 x3 hf; exact tX8_tollsBehind_B4 N (fX8_tollsBehind_L4 N n) ih h x1 x2 x3 B hf
def fX8_tollsBehind (N : Nat) (h : pH) (x1 : Int32) : Option (Int32 × pH) :=
  fX8_tollsBehind_L4 N N h x1 0 0
set_option maxRecDepth 100000 in
set_option maxHeartbeats 4000000 in
theorem tX8_tollsBehind {X : Xt} {v : Int32} {h' : pH} (N : Nat) (h : pH) (x1 : Int32) (B : Bd (lo X) (qo X) cX8_tollsBehind RX8 4 (some .int) 2 44 (some (.int v)) h' X) (hf : fX8_tollsBehind N h x1 = some (v, h')) : Wx X 4 0 [(0, rf (qo X) 1), (1, .int x1)] [] h := by
  have C := B.1
  unfold fX8_tollsBehind at hf
  refine x_iconst (v := 0) C dX8_tollsBehind_0 (by decide) ?_
  refine x_istore_n (i := 2) (lv' := [(2, .int 0), (0, rf (qo X) 1), (1, .int x1)]) C dX8_tollsBehind_1 rfl (by decide) rfl ?_
  refine x_iconst (v := 0) C dX8_tollsBehind_2 (by decide) ?_
  refine x_istore_n (i := 3) (lv' := [(3, .int 0), (2, .int 0), (0, rf (qo X) 1), (1, .int x1)]) C dX8_tollsBehind_3 rfl (by decide) rfl ?_
  refine x_lv [2, 3, 1, 0] rfl ?_
  exact tX8_tollsBehind_L4 N  B N h x1 0 0 hf
theorem ctX8_tollsBehind (l : Launch) (q : Nat → Nat) (N : Nat) (h : pH) (x1 : Int32) (v : Int32) (h' : pH) (hf : fX8_tollsBehind N h x1 = some (v, h')) : Ctr l q yX8_tollsBehind cX8_tollsBehind 4 (some .int) 2 44 [rf q 1, .int x1] h h' (some (.int v)) := by
  refine ct_of (own := RX8) (lv := [(0, rf q 1), (1, .int x1)]) (by decide +kernel) rfl (by simp [lg_sl, rf_cat, cat_i, cat_l]) (by first | rfl | simp [lv_args, rf_cat, cat_i, cat_l]) ?_
  intro X B
  obtain rfl := B.2.1
  obtain rfl := B.2.2.1
  exact tX8_tollsBehind N h x1 B hf
def fX8_taken_b22 (N : Nat) (h : pH) (xs0 : Int32) : Option (Int32 × pH) :=
  some (xs0, h)
set_option maxRecDepth 100000 in
set_option maxHeartbeats 4000000 in
theorem tX8_taken_b22 {X : Xt} {v : Int32} {h' : pH} (N : Nat) (h : pH) (xs0 : Int32) (B : Bd (lo X) (qo X) cX8_taken RX8 2 (some .int) 4 96 (some (.int v)) h' X) (hf : fX8_taken_b22 N h xs0 = some (v, h')) : Wx X 2 22 [] [.int xs0] h := by
  have C := B.1
  unfold fX8_taken_b22 at hf
  obtain ⟨rfl, rfl⟩ := rtn hf
  exact B.2.2.2.2.2.1 _ _ rfl rfl rfl _ _ dX8_taken_22
def fX8_taken (N : Nat) (h : pH) (x1 : Int32) : Option (Int32 × pH) :=
  (fX8_freshen N h).bind fun z1 => ((fX8_isNumberOfCrossings N z1.2 x1).bind fun z2 => (if z2.1 = 0 then (fX8_taken_b22 N z2.2 (-2)) else ((fX8_tollsBehind N z2.2 x1).bind fun z3 => (fX8_taken_b22 N z3.2 z3.1))))
set_option maxRecDepth 100000 in
set_option maxHeartbeats 4000000 in
theorem tX8_taken {X : Xt} {v : Int32} {h' : pH} (N : Nat) (h : pH) (x1 : Int32) (B : Bd (lo X) (qo X) cX8_taken RX8 2 (some .int) 4 96 (some (.int v)) h' X) (hf : fX8_taken N h x1 = some (v, h')) : Wx X 2 0 [(0, rf (qo X) 1), (1, .int x1)] [] h := by
  have C := B.1
  unfold fX8_taken at hf
  refine x_aload_n (i := 0) 0 C dX8_taken_0 rfl rfl ?_
  obtain ⟨z1, e1, hf⟩ := bnd hf
  refine x_callV (r := 1) (As := []) (rest := []) C dX8_taken_1 kmX8_110 miX8_freshen (ctX8_freshen (lo X) (qo X) N h z1.1 z1.2 e1) rfl rfl ⟨Nat.le_trans (by decide) B.2.2.2.1, Nat.le_trans (by decide) B.2.2.2.2.1⟩ (by simp [cat_i, cat_l, rf_cat]) rfl ?_
  refine x_aload_n (i := 0) 0 C dX8_taken_4 rfl rfl ?_
  refine x_iload_n (i := 1) 1 C dX8_taken_5 rfl rfl ?_
  obtain ⟨z2, e2, hf⟩ := bnd hf
  refine x_callV (r := 1) (As := [.int x1]) (rest := []) C dX8_taken_6 kmX8_151 miX8_isNumberOfCrossings (ctX8_isNumberOfCrossings (lo X) (qo X) N z1.2 x1 z2.1 z2.2 e2) rfl rfl ⟨Nat.le_trans (by decide) B.2.2.2.1, Nat.le_trans (by decide) B.2.2.2.2.1⟩ (by simp [cat_i, cat_l, rf_cat]) rfl ?_
  refine x_if_eq (tgt := 20) C dX8_taken_9 (by decide) (fun c => ?_) (fun c => ?_)
  · rw [if_pos c] at hf
    refine x_bipush (v := (-2)) C dX8_taken_20 (by decide) ?_
    refine x_lv [] rfl ?_
    exact tX8_taken_b22 N z2.2 (-2) B hf
  · rw [if_neg c] at hf
    refine x_aload_n (i := 0) 0 C dX8_taken_12 rfl rfl ?_
    refine x_iload_n (i := 1) 1 C dX8_taken_13 rfl rfl ?_
    obtain ⟨z3, e3, hf⟩ := bnd hf
    refine x_callV (r := 1) (As := [.int x1]) (rest := []) C dX8_taken_14 kmX8_170 miX8_tollsBehind (ctX8_tollsBehind (lo X) (qo X) N z2.2 x1 z3.1 z3.2 e3) rfl rfl ⟨Nat.le_trans (by decide) B.2.2.2.1, Nat.le_trans (by decide) B.2.2.2.2.1⟩ (by simp [cat_i, cat_l, rf_cat]) rfl ?_
    refine x_goto (tgt := 22) C dX8_taken_17 (by decide) ?_
    refine x_lv [] rfl ?_
    exact tX8_taken_b22 N z3.2 z3.1 B hf
theorem ctX8_taken (l : Launch) (q : Nat → Nat) (N : Nat) (h : pH) (x1 : Int32) (v : Int32) (h' : pH) (hf : fX8_taken N h x1 = some (v, h')) : Ctr l q yX8_taken cX8_taken 2 (some .int) 4 96 [rf q 1, .int x1] h h' (some (.int v)) := by
  refine ct_of (own := RX8) (lv := [(0, rf q 1), (1, .int x1)]) (by decide +kernel) rfl (by simp [lg_sl, rf_cat, cat_i, cat_l]) (by first | rfl | simp [lv_args, rf_cat, cat_i, cat_l]) ?_
  intro X B
  obtain rfl := B.2.1
  obtain rfl := B.2.2.1
  exact tX8_taken N h x1 B hf
def fX8_stuck_B6 (N : Nat) (k6 : pH → Int32 → Option (Int32 × pH)) (h : pH) (x1 : Int32) : Option (Int32 × pH) :=
  if (h.1 24 1) ≤ x1 then (some ((-1), h)) else ((fX8_outcomeOfCrossing N h x1).bind fun z1 => (if z1.1 = 2 then (some (x1, z1.2)) else (k6 z1.2 (x1 + 1))))
set_option maxRecDepth 100000 in
set_option maxHeartbeats 4000000 in
theorem tX8_stuck_B6 {X : Xt} {v : Int32} {h' : pH} (N : Nat) (k6 : pH → Int32 → Option (Int32 × pH)) (HK6 : ∀ (h : pH) (x1 : Int32), k6 h x1 = some (v, h') → Wx X 2 6 [(0, rf (qo X) 1), (1, .int x1)] [] h) (h : pH) (x1 : Int32) (B : Bd (lo X) (qo X) cX8_stuck RX8 2 (some .int) 4 96 (some (.int v)) h' X) (hf : fX8_stuck_B6 N k6 h x1 = some (v, h')) : Wx X 2 6 [(0, rf (qo X) 1), (1, .int x1)] [] h := by
  have C := B.1
  unfold fX8_stuck_B6 at hf
  refine x_iload_n (i := 1) 1 C dX8_stuck_6 rfl rfl ?_
  refine x_aload_n (i := 0) 0 C dX8_stuck_7 rfl rfl ?_
  refine x_getR (r := 1) (r2 := 24) C dX8_stuck_8 kfX8_32 rfl rfl (by decide) ?_
  refine x_getI (r := 24) C dX8_stuck_11 kfX8_154 rfl ?_
  refine x_icmp_ge (tgt := 34) C dX8_stuck_14 (by decide) (fun c => ?_) (fun c => ?_)
  · rw [if_pos c] at hf
    refine x_iconst (v := (-1)) C dX8_stuck_34 (by decide) ?_
    obtain ⟨rfl, rfl⟩ := rtn hf
    exact B.2.2.2.2.2.1 _ _ rfl rfl rfl _ _ dX8_stuck_35
  · rw [if_neg c] at hf
    refine x_aload_n (i := 0) 0 C dX8_stuck_17 rfl rfl ?_
    refine x_iload_n (i := 1) 1 C dX8_stuck_18 rfl rfl ?_
    obtain ⟨z1, e1, hf⟩ := bnd hf
    refine x_callV (r := 1) (As := [.int x1]) (rest := []) C dX8_stuck_19 kmX8_167 miX8_outcomeOfCrossing (ctX8_outcomeOfCrossing (lo X) (qo X) N h x1 z1.1 z1.2 e1) rfl rfl ⟨Nat.le_trans (by decide) B.2.2.2.1, Nat.le_trans (by decide) B.2.2.2.2.1⟩ (by simp [cat_i, cat_l, rf_cat]) rfl ?_
    refine x_iconst (v := 2) C dX8_stuck_22 (by decide) ?_
    refine x_icmp_ne (tgt := 28) C dX8_stuck_23 (by decide) (fun c => ?_) (fun c => ?_)
    · rw [if_neg c] at hf
      refine x_iinc (v := x1 + 1) (lv' := [(1, .int (x1 + 1)), (0, rf (qo X) 1)]) 1 C dX8_stuck_28 rfl rfl (by decide) rfl ?_
      refine x_goto (tgt := 6) C dX8_stuck_31 (by decide) ?_
      refine x_lv [1, 0] rfl ?_
      exact HK6 z1.2 (x1 + 1) hf
    · rw [if_pos c] at hf
      refine x_iload_n (i := 1) 1 C dX8_stuck_26 rfl rfl ?_
      obtain ⟨rfl, rfl⟩ := rtn hf
      exact B.2.2.2.2.2.1 _ _ rfl rfl rfl _ _ dX8_stuck_27
def fX8_stuck_L6 (N : Nat) : Nat → pH → Int32 → Option (Int32 × pH)
  | 0 => fun _ _ => none
  | n + 1 => fX8_stuck_B6 N (fX8_stuck_L6 N n)
theorem tX8_stuck_L6 {X : Xt} {v : Int32} {h' : pH} (N : Nat) (B : Bd (lo X) (qo X) cX8_stuck RX8 2 (some .int) 4 96 (some (.int v)) h' X) : ∀ (n : Nat) (h : pH) (x1 : Int32), fX8_stuck_L6 N n h x1 = some (v, h') → Wx X 2 6 [(0, rf (qo X) 1), (1, .int x1)] [] h := by
  intro n
  induction n with
  | zero => intro h x1 hf; exact absurd (show (none : Option (Int32 × pH)) = some (v, h') from hf) (fun z => by cases z)
  | succ n ih => intro h x1 hf; exact tX8_stuck_B6 N (fX8_stuck_L6 N n) ih h x1 B hf
def fX8_stuck (N : Nat) (h : pH)  : Option (Int32 × pH) :=
  (fX8_freshen N h).bind fun z1 => (fX8_stuck_L6 N N z1.2 0)
set_option maxRecDepth 100000 in
set_option maxHeartbeats 4000000 in
theorem tX8_stuck {X : Xt} {v : Int32} {h' : pH} (N : Nat) (h : pH)  (B : Bd (lo X) (qo X) cX8_stuck RX8 2 (some .int) 4 96 (some (.int v)) h' X) (hf : fX8_stuck N h  = some (v, h')) : Wx X 2 0 [(0, rf (qo X) 1)] [] h := by
  have C := B.1
  unfold fX8_stuck at hf
  refine x_aload_n (i := 0) 0 C dX8_stuck_0 rfl rfl ?_
  obtain ⟨z1, e1, hf⟩ := bnd hf
  refine x_callV (r := 1) (As := []) (rest := []) C dX8_stuck_1 kmX8_110 miX8_freshen (ctX8_freshen (lo X) (qo X) N h z1.1 z1.2 e1) rfl rfl ⟨Nat.le_trans (by decide) B.2.2.2.1, Nat.le_trans (by decide) B.2.2.2.2.1⟩ (by simp [cat_i, cat_l, rf_cat]) rfl ?_
  refine x_iconst (v := 0) C dX8_stuck_4 (by decide) ?_
  refine x_istore_n (i := 1) (lv' := [(1, .int 0), (0, rf (qo X) 1)]) C dX8_stuck_5 rfl (by decide) rfl ?_
  refine x_lv [1, 0] rfl ?_
  exact tX8_stuck_L6 N  B N z1.2 0 hf
theorem ctX8_stuck (l : Launch) (q : Nat → Nat) (N : Nat) (h : pH)  (v : Int32) (h' : pH) (hf : fX8_stuck N h  = some (v, h')) : Ctr l q yX8_stuck cX8_stuck 2 (some .int) 4 96 [rf q 1] h h' (some (.int v)) := by
  refine ct_of (own := RX8) (lv := [(0, rf q 1)]) (by decide +kernel) rfl (by simp [lg_sl, rf_cat, cat_i, cat_l]) (by first | rfl | simp [lv_args, rf_cat, cat_i, cat_l]) ?_
  intro X B
  obtain rfl := B.2.1
  obtain rfl := B.2.2.1
  exact tX8_stuck N h  B hf
def fX8_countVisits_b65 (N : Nat) (k23 : pH → Int32 → Option (Unit × pH)) (h : pH) (x1 : Int32) : Option (Unit × pH) :=
  k23 h (x1 + 1)
set_option maxRecDepth 100000 in
set_option maxHeartbeats 4000000 in
theorem tX8_countVisits_b65 {X : Xt} {v : Unit} {h' : pH} (N : Nat) (k23 : pH → Int32 → Option (Unit × pH)) (HK23 : ∀ (h : pH) (x1 : Int32), k23 h x1 = some (v, h') → Wx X 2 23 [(0, rf (qo X) 1), (1, .int x1)] [] h) (h : pH) (x1 : Int32) (B : Bd (lo X) (qo X) cX8_countVisits RX8 2 none 2 43 none h' X) (hf : fX8_countVisits_b65 N k23 h x1 = some (v, h')) : Wx X 2 65 [(0, rf (qo X) 1), (1, .int x1)] [] h := by
  have C := B.1
  unfold fX8_countVisits_b65 at hf
  refine x_iinc (v := x1 + 1) (lv' := [(1, .int (x1 + 1)), (0, rf (qo X) 1)]) 1 C dX8_countVisits_65 rfl rfl (by decide) rfl ?_
  refine x_goto (tgt := 23) C dX8_countVisits_68 (by decide) ?_
  refine x_lv [1, 0] rfl ?_
  exact HK23 h (x1 + 1) hf
def fX8_countVisits_B23 (N : Nat) (k23 : pH → Int32 → Option (Unit × pH)) (h : pH) (x1 : Int32) : Option (Unit × pH) :=
  if (h.1 24 1) < x1 then (some ((), h)) else (if ix x1 25 = true then ((fX0_hasPlank N h (h.1 26 x1.toNatClampNeg)).bind fun z1 => (if z1.1 = 0 then (fX8_countVisits_b65 N k23 z1.2 x1) else (if ix x1 25 = true then (if ix (z1.2.1 26 x1.toNatClampNeg) 19 = true then (if ix (z1.2.1 26 x1.toNatClampNeg) 19 = true then (fX8_countVisits_b65 N k23 (pw z1.2 29 (z1.2.1 26 x1.toNatClampNeg).toNatClampNeg ((z1.2.1 29 (z1.2.1 26 x1.toNatClampNeg).toNatClampNeg) + 1)) x1) else none) else none) else none))) else none)
set_option maxRecDepth 100000 in
set_option maxHeartbeats 4000000 in
theorem tX8_countVisits_B23 {X : Xt} {v : Unit} {h' : pH} (N : Nat) (k23 : pH → Int32 → Option (Unit × pH)) (HK23 : ∀ (h : pH) (x1 : Int32), k23 h x1 = some (v, h') → Wx X 2 23 [(0, rf (qo X) 1), (1, .int x1)] [] h) (h : pH) (x1 : Int32) (B : Bd (lo X) (qo X) cX8_countVisits RX8 2 none 2 43 none h' X) (hf : fX8_countVisits_B23 N k23 h x1 = some (v, h')) : Wx X 2 23 [(0, rf (qo X) 1), (1, .int x1)] [] h := by
  have C := B.1
  unfold fX8_countVisits_B23 at hf
  refine x_iload_n (i := 1) 1 C dX8_countVisits_23 rfl rfl ?_
  refine x_aload_n (i := 0) 0 C dX8_countVisits_24 rfl rfl ?_
  refine x_getR (r := 1) (r2 := 24) C dX8_countVisits_25 kfX8_32 rfl rfl (by decide) ?_
  refine x_getI (r := 24) C dX8_countVisits_28 kfX8_154 rfl ?_
  refine x_icmp_gt (tgt := 71) C dX8_countVisits_31 (by decide) (fun c => ?_) (fun c => ?_)
  · rw [if_pos c] at hf
    obtain ⟨rfl, rfl⟩ := rtn hf
    exact B.2.2.2.2.2.2.2.2.2 rfl rfl _ _ dX8_countVisits_71
  · rw [if_neg c] at hf
    refine x_aload_n (i := 0) 0 C dX8_countVisits_34 rfl rfl ?_
    refine x_getR (r := 1) (r2 := 9) C dX8_countVisits_35 kfX8_18 rfl rfl (by decide) ?_
    refine x_aload_n (i := 0) 0 C dX8_countVisits_38 rfl rfl ?_
    refine x_getR (r := 1) (r2 := 26) C dX8_countVisits_39 kfX8_36 rfl rfl (by decide) ?_
    refine x_iload_n (i := 1) 1 C dX8_countVisits_42 rfl rfl ?_
    obtain ⟨g1, hf⟩ := ife hf
    refine x_iald (r := 26) C dX8_countVisits_43 rfl g1 ?_
    obtain ⟨z1, e1, hf⟩ := bnd hf
    refine x_callV (r := 9) (As := [.int (h.1 26 x1.toNatClampNeg)]) (rest := []) C dX8_countVisits_44 kmX8_113 miX0_hasPlank (ctX0_hasPlank (lo X) (qo X) N h (h.1 26 x1.toNatClampNeg) z1.1 z1.2 e1) rfl rfl ⟨Nat.le_trans (by decide) B.2.2.2.1, Nat.le_trans (by decide) B.2.2.2.2.1⟩ (by simp [cat_i, cat_l, rf_cat]) rfl ?_
    refine x_if_eq (tgt := 65) C dX8_countVisits_47 (by decide) (fun c => ?_) (fun c => ?_)
    · rw [if_pos c] at hf
      exact tX8_countVisits_b65 N k23 HK23 z1.2 x1 B hf
    · rw [if_neg c] at hf
      refine x_aload_n (i := 0) 0 C dX8_countVisits_50 rfl rfl ?_
      refine x_getR (r := 1) (r2 := 29) C dX8_countVisits_51 kfX8_46 rfl rfl (by decide) ?_
      refine x_aload_n (i := 0) 0 C dX8_countVisits_54 rfl rfl ?_
      refine x_getR (r := 1) (r2 := 26) C dX8_countVisits_55 kfX8_36 rfl rfl (by decide) ?_
      refine x_iload_n (i := 1) 1 C dX8_countVisits_58 rfl rfl ?_
      obtain ⟨g2, hf⟩ := ife hf
      refine x_iald (r := 26) C dX8_countVisits_59 rfl g2 ?_
      refine x_dup2IA C dX8_countVisits_60 ?_
      obtain ⟨g3, hf⟩ := ife hf
      refine x_iald (r := 29) C dX8_countVisits_61 rfl g3 ?_
      refine x_iconst (v := 1) C dX8_countVisits_62 (by decide) ?_
      refine x_iadd C dX8_countVisits_63 ?_
      obtain ⟨g4, hf⟩ := ife hf
      refine x_iast (r := 29) C dX8_countVisits_64 rfl g4 ?_
      exact tX8_countVisits_b65 N k23 HK23 (pw z1.2 29 (z1.2.1 26 x1.toNatClampNeg).toNatClampNeg ((z1.2.1 29 (z1.2.1 26 x1.toNatClampNeg).toNatClampNeg) + 1)) x1 B hf
def fX8_countVisits_L23 (N : Nat) : Nat → pH → Int32 → Option (Unit × pH)
  | 0 => fun _ _ => none
  | n + 1 => fX8_countVisits_B23 N (fX8_countVisits_L23 N n)
theorem tX8_countVisits_L23 {X : Xt} {v : Unit} {h' : pH} (N : Nat) (B : Bd (lo X) (qo X) cX8_countVisits RX8 2 none 2 43 none h' X) : ∀ (n : Nat) (h : pH) (x1 : Int32), fX8_countVisits_L23 N n h x1 = some (v, h') → Wx X 2 23 [(0, rf (qo X) 1), (1, .int x1)] [] h := by
  intro n
  induction n with
  | zero => intro h x1 hf; exact absurd (show (none : Option (Unit × pH)) = some (v, h') from hf) (fun z => by cases z)
  | succ n ih => intro h x1 hf; exact tX8_countVisits_B23 N (fX8_countVisits_L23 N n) ih h x1 B hf
def fX8_countVisits_B2 (N : Nat) (k2 : pH → Int32 → Option (Unit × pH)) (h : pH) (x1 : Int32) : Option (Unit × pH) :=
  if 19 ≤ x1 then (fX8_countVisits_L23 N N h 0) else (if ix x1 19 = true then (k2 (pw h 29 x1.toNatClampNeg 0) (x1 + 1)) else none)
set_option maxRecDepth 100000 in
set_option maxHeartbeats 4000000 in
theorem tX8_countVisits_B2 {X : Xt} {v : Unit} {h' : pH} (N : Nat) (k2 : pH → Int32 → Option (Unit × pH)) (HK2 : ∀ (h : pH) (x1 : Int32), k2 h x1 = some (v, h') → Wx X 2 2 [(0, rf (qo X) 1), (1, .int x1)] [] h) (h : pH) (x1 : Int32) (B : Bd (lo X) (qo X) cX8_countVisits RX8 2 none 2 43 none h' X) (hf : fX8_countVisits_B2 N k2 h x1 = some (v, h')) : Wx X 2 2 [(0, rf (qo X) 1), (1, .int x1)] [] h := by
  have C := B.1
  unfold fX8_countVisits_B2 at hf
  refine x_iload_n (i := 1) 1 C dX8_countVisits_2 rfl rfl ?_
  refine x_bipush (v := 19) C dX8_countVisits_3 (by decide) ?_
  refine x_icmp_ge (tgt := 21) C dX8_countVisits_5 (by decide) (fun c => ?_) (fun c => ?_)
  · rw [if_pos c] at hf
    refine x_iconst (v := 0) C dX8_countVisits_21 (by decide) ?_
    refine x_istore_n (i := 1) (lv' := [(1, .int 0), (0, rf (qo X) 1)]) C dX8_countVisits_22 rfl (by decide) rfl ?_
    refine x_lv [1, 0] rfl ?_
    exact tX8_countVisits_L23 N  B N h 0 hf
  · rw [if_neg c] at hf
    refine x_aload_n (i := 0) 0 C dX8_countVisits_8 rfl rfl ?_
    refine x_getR (r := 1) (r2 := 29) C dX8_countVisits_9 kfX8_46 rfl rfl (by decide) ?_
    refine x_iload_n (i := 1) 1 C dX8_countVisits_12 rfl rfl ?_
    refine x_iconst (v := 0) C dX8_countVisits_13 (by decide) ?_
    obtain ⟨g1, hf⟩ := ife hf
    refine x_iast (r := 29) C dX8_countVisits_14 rfl g1 ?_
    refine x_iinc (v := x1 + 1) (lv' := [(1, .int (x1 + 1)), (0, rf (qo X) 1)]) 1 C dX8_countVisits_15 rfl rfl (by decide) rfl ?_
    refine x_goto (tgt := 2) C dX8_countVisits_18 (by decide) ?_
    refine x_lv [1, 0] rfl ?_
    exact HK2 (pw h 29 x1.toNatClampNeg 0) (x1 + 1) hf
def fX8_countVisits_L2 (N : Nat) : Nat → pH → Int32 → Option (Unit × pH)
  | 0 => fun _ _ => none
  | n + 1 => fX8_countVisits_B2 N (fX8_countVisits_L2 N n)
theorem tX8_countVisits_L2 {X : Xt} {v : Unit} {h' : pH} (N : Nat) (B : Bd (lo X) (qo X) cX8_countVisits RX8 2 none 2 43 none h' X) : ∀ (n : Nat) (h : pH) (x1 : Int32), fX8_countVisits_L2 N n h x1 = some (v, h') → Wx X 2 2 [(0, rf (qo X) 1), (1, .int x1)] [] h := by
  intro n
  induction n with
  | zero => intro h x1 hf; exact absurd (show (none : Option (Unit × pH)) = some (v, h') from hf) (fun z => by cases z)
  | succ n ih => intro h x1 hf; exact tX8_countVisits_B2 N (fX8_countVisits_L2 N n) ih h x1 B hf
def fX8_countVisits (N : Nat) (h : pH)  : Option (Unit × pH) :=
  fX8_countVisits_L2 N N h 0
set_option maxRecDepth 100000 in
set_option maxHeartbeats 4000000 in
theorem tX8_countVisits {X : Xt} {v : Unit} {h' : pH} (N : Nat) (h : pH)  (B : Bd (lo X) (qo X) cX8_countVisits RX8 2 none 2 43 none h' X) (hf : fX8_countVisits N h  = some (v, h')) : Wx X 2 0 [(0, rf (qo X) 1)] [] h := by
  have C := B.1
  unfold fX8_countVisits at hf
  refine x_iconst (v := 0) C dX8_countVisits_0 (by decide) ?_
  refine x_istore_n (i := 1) (lv' := [(1, .int 0), (0, rf (qo X) 1)]) C dX8_countVisits_1 rfl (by decide) rfl ?_
  refine x_lv [1, 0] rfl ?_
  exact tX8_countVisits_L2 N  B N h 0 hf
theorem ctX8_countVisits (l : Launch) (q : Nat → Nat) (N : Nat) (h : pH)  (v : Unit) (h' : pH) (hf : fX8_countVisits N h  = some (v, h')) : Ctr l q yX8_countVisits cX8_countVisits 2 none 2 43 [rf q 1] h h' none := by
  refine ct_of (own := RX8) (lv := [(0, rf q 1)]) (by decide +kernel) rfl (by simp [lg_sl, rf_cat, cat_i, cat_l]) (by first | rfl | simp [lv_args, rf_cat, cat_i, cat_l]) ?_
  intro X B
  obtain rfl := B.2.1
  obtain rfl := B.2.2.1
  exact tX8_countVisits N h  B hf
def fX8_worn_b44 (N : Nat) (k14 : pH → Int32 → Int32 → Int32 → Option (Int32 × pH)) (h : pH) (x1 : Int32) (x2 : Int32) (x3 : Int32) : Option (Int32 × pH) :=
  k14 h x1 x2 (x3 + 1)
set_option maxRecDepth 100000 in
set_option maxHeartbeats 4000000 in
theorem tX8_worn_b44 {X : Xt} {v : Int32} {h' : pH} (N : Nat) (k14 : pH → Int32 → Int32 → Int32 → Option (Int32 × pH)) (HK14 : ∀ (h : pH) (x1 : Int32) (x2 : Int32) (x3 : Int32), k14 h x1 x2 x3 = some (v, h') → Wx X 4 14 [(0, rf (qo X) 1), (1, .int x1), (2, .int x2), (3, .int x3)] [] h) (h : pH) (x1 : Int32) (x2 : Int32) (x3 : Int32) (B : Bd (lo X) (qo X) cX8_worn RX8 4 (some .int) 4 96 (some (.int v)) h' X) (hf : fX8_worn_b44 N k14 h x1 x2 x3 = some (v, h')) : Wx X 4 44 [(0, rf (qo X) 1), (1, .int x1), (2, .int x2), (3, .int x3)] [] h := by
  have C := B.1
  unfold fX8_worn_b44 at hf
  refine x_iinc (v := x3 + 1) (lv' := [(3, .int (x3 + 1)), (0, rf (qo X) 1), (1, .int x1), (2, .int x2)]) 3 C dX8_worn_44 rfl rfl (by decide) rfl ?_
  refine x_goto (tgt := 14) C dX8_worn_47 (by decide) ?_
  refine x_lv [1, 2, 3, 0] rfl ?_
  exact HK14 h x1 x2 (x3 + 1) hf
def fX8_worn_B14 (N : Nat) (k14 : pH → Int32 → Int32 → Int32 → Option (Int32 × pH)) (h : pH) (x1 : Int32) (x2 : Int32) (x3 : Int32) : Option (Int32 × pH) :=
  if (h.1 9 3) ≤ x3 then (some (x1, h)) else (if ix x3 19 = true then (if (h.1 29 x3.toNatClampNeg) ≤ x2 then (fX8_worn_b44 N k14 h x1 x2 x3) else (if ix x3 19 = true then (fX8_worn_b44 N k14 h x3 (h.1 29 x3.toNatClampNeg) x3) else none)) else none)
set_option maxRecDepth 100000 in
set_option maxHeartbeats 4000000 in
theorem tX8_worn_B14 {X : Xt} {v : Int32} {h' : pH} (N : Nat) (k14 : pH → Int32 → Int32 → Int32 → Option (Int32 × pH)) (HK14 : ∀ (h : pH) (x1 : Int32) (x2 : Int32) (x3 : Int32), k14 h x1 x2 x3 = some (v, h') → Wx X 4 14 [(0, rf (qo X) 1), (1, .int x1), (2, .int x2), (3, .int x3)] [] h) (h : pH) (x1 : Int32) (x2 : Int32) (x3 : Int32) (B : Bd (lo X) (qo X) cX8_worn RX8 4 (some .int) 4 96 (some (.int v)) h' X) (hf : fX8_worn_B14 N k14 h x1 x2 x3 = some (v, h')) : Wx X 4 14 [(0, rf (qo X) 1), (1, .int x1), (2, .int x2), (3, .int x3)] [] h := by
  have C := B.1
  unfold fX8_worn_B14 at hf
  refine x_iload_n (i := 3) 3 C dX8_worn_14 rfl rfl ?_
  refine x_aload_n (i := 0) 0 C dX8_worn_15 rfl rfl ?_
  refine x_getR (r := 1) (r2 := 9) C dX8_worn_16 kfX8_18 rfl rfl (by decide) ?_
  refine x_getI (r := 9) C dX8_worn_19 kfX8_176 rfl ?_
  refine x_icmp_ge (tgt := 50) C dX8_worn_22 (by decide) (fun c => ?_) (fun c => ?_)
  · rw [if_pos c] at hf
    refine x_iload_n (i := 1) 1 C dX8_worn_50 rfl rfl ?_
    obtain ⟨rfl, rfl⟩ := rtn hf
    exact B.2.2.2.2.2.1 _ _ rfl rfl rfl _ _ dX8_worn_51
  · rw [if_neg c] at hf
    refine x_aload_n (i := 0) 0 C dX8_worn_25 rfl rfl ?_
    refine x_getR (r := 1) (r2 := 29) C dX8_worn_26 kfX8_46 rfl rfl (by decide) ?_
    refine x_iload_n (i := 3) 3 C dX8_worn_29 rfl rfl ?_
    obtain ⟨g1, hf⟩ := ife hf
    refine x_iald (r := 29) C dX8_worn_30 rfl g1 ?_
    refine x_iload_n (i := 2) 2 C dX8_worn_31 rfl rfl ?_
    refine x_icmp_le (tgt := 44) C dX8_worn_32 (by decide) (fun c => ?_) (fun c => ?_)
    · rw [if_pos c] at hf
      exact tX8_worn_b44 N k14 HK14 h x1 x2 x3 B hf
    · rw [if_neg c] at hf
      refine x_aload_n (i := 0) 0 C dX8_worn_35 rfl rfl ?_
      refine x_getR (r := 1) (r2 := 29) C dX8_worn_36 kfX8_46 rfl rfl (by decide) ?_
      refine x_iload_n (i := 3) 3 C dX8_worn_39 rfl rfl ?_
      obtain ⟨g2, hf⟩ := ife hf
      refine x_iald (r := 29) C dX8_worn_40 rfl g2 ?_
      refine x_istore_n (i := 2) (lv' := [(2, .int (h.1 29 x3.toNatClampNeg)), (0, rf (qo X) 1), (1, .int x1), (3, .int x3)]) C dX8_worn_41 rfl (by decide) rfl ?_
      refine x_iload_n (i := 3) 3 C dX8_worn_42 rfl rfl ?_
      refine x_istore_n (i := 1) (lv' := [(1, .int x3), (2, .int (h.1 29 x3.toNatClampNeg)), (0, rf (qo X) 1), (3, .int x3)]) C dX8_worn_43 rfl (by decide) rfl ?_
      refine x_lv [2, 0, 1, 3] rfl ?_
      exact tX8_worn_b44 N k14 HK14 h x3 (h.1 29 x3.toNatClampNeg) x3 B hf
def fX8_worn_L14 (N : Nat) : Nat → pH → Int32 → Int32 → Int32 → Option (Int32 × pH)
  | 0 => fun _ _ _ _ => none
  | n + 1 => fX8_worn_B14 N (fX8_worn_L14 N n)
theorem tX8_worn_L14 {X : Xt} {v : Int32} {h' : pH} (N : Nat) (B : Bd (lo X) (qo X) cX8_worn RX8 4 (some .int) 4 96 (some (.int v)) h' X) : ∀ (n : Nat) (h : pH) (x1 : Int32) (x2 : Int32) (x3 : Int32), fX8_worn_L14 N n h x1 x2 x3 = some (v, h') → Wx X 4 14 [(0, rf (qo X) 1), (1, .int x1), (2, .int x2), (3, .int x3)] [] h := by
  intro n
  induction n with
  | zero => intro h x1 x2 x3 hf; exact absurd (show (none : Option (Int32 × pH)) = some (v, h') from hf) (fun z => by cases z)
  | succ n ih => intro h x1 x2 x3 hf; exact tX8_worn_B14 N (fX8_worn_L14 N n) ih h x1 x2 x3 B hf
def fX8_worn (N : Nat) (h : pH)  : Option (Int32 × pH) :=
  (fX8_freshen N h).bind fun z1 => ((fX8_countVisits N z1.2).bind fun z2 => (fX8_worn_L14 N N z2.2 (-1) 0 0))
set_option maxRecDepth 100000 in
set_option maxHeartbeats 4000000 in
theorem tX8_worn {X : Xt} {v : Int32} {h' : pH} (N : Nat) (h : pH)  (B : Bd (lo X) (qo X) cX8_worn RX8 4 (some .int) 4 96 (some (.int v)) h' X) (hf : fX8_worn N h  = some (v, h')) : Wx X 4 0 [(0, rf (qo X) 1)] [] h := by
  have C := B.1
  unfold fX8_worn at hf
  refine x_aload_n (i := 0) 0 C dX8_worn_0 rfl rfl ?_
  obtain ⟨z1, e1, hf⟩ := bnd hf
  refine x_callV (r := 1) (As := []) (rest := []) C dX8_worn_1 kmX8_110 miX8_freshen (ctX8_freshen (lo X) (qo X) N h z1.1 z1.2 e1) rfl rfl ⟨Nat.le_trans (by decide) B.2.2.2.1, Nat.le_trans (by decide) B.2.2.2.2.1⟩ (by simp [cat_i, cat_l, rf_cat]) rfl ?_
  refine x_aload_n (i := 0) 0 C dX8_worn_4 rfl rfl ?_
  obtain ⟨z2, e2, hf⟩ := bnd hf
  refine x_callV (r := 1) (As := []) (rest := []) C dX8_worn_5 kmX8_173 miX8_countVisits (ctX8_countVisits (lo X) (qo X) N z1.2 z2.1 z2.2 e2) rfl rfl ⟨Nat.le_trans (by decide) B.2.2.2.1, Nat.le_trans (by decide) B.2.2.2.2.1⟩ (by simp [cat_i, cat_l, rf_cat]) rfl ?_
  refine x_iconst (v := (-1)) C dX8_worn_8 (by decide) ?_
  refine x_istore_n (i := 1) (lv' := [(1, .int (-1)), (0, rf (qo X) 1)]) C dX8_worn_9 rfl (by decide) rfl ?_
  refine x_iconst (v := 0) C dX8_worn_10 (by decide) ?_
  refine x_istore_n (i := 2) (lv' := [(2, .int 0), (1, .int (-1)), (0, rf (qo X) 1)]) C dX8_worn_11 rfl (by decide) rfl ?_
  refine x_iconst (v := 0) C dX8_worn_12 (by decide) ?_
  refine x_istore_n (i := 3) (lv' := [(3, .int 0), (2, .int 0), (1, .int (-1)), (0, rf (qo X) 1)]) C dX8_worn_13 rfl (by decide) rfl ?_
  refine x_lv [3, 2, 1, 0] rfl ?_
  exact tX8_worn_L14 N  B N z2.2 (-1) 0 0 hf
theorem ctX8_worn (l : Launch) (q : Nat → Nat) (N : Nat) (h : pH)  (v : Int32) (h' : pH) (hf : fX8_worn N h  = some (v, h')) : Ctr l q yX8_worn cX8_worn 4 (some .int) 4 96 [rf q 1] h h' (some (.int v)) := by
  refine ct_of (own := RX8) (lv := [(0, rf q 1)]) (by decide +kernel) rfl (by simp [lg_sl, rf_cat, cat_i, cat_l]) (by first | rfl | simp [lv_args, rf_cat, cat_i, cat_l]) ?_
  intro X B
  obtain rfl := B.2.1
  obtain rfl := B.2.2.1
  exact tX8_worn N h  B hf
def fX8_freshenPlan_b31 (N : Nat) (h : pH)  : Option (Unit × pH) :=
  some ((), h)
set_option maxRecDepth 100000 in
set_option maxHeartbeats 4000000 in
theorem tX8_freshenPlan_b31 {X : Xt} {v : Unit} {h' : pH} (N : Nat) (h : pH)  (B : Bd (lo X) (qo X) cX8_freshenPlan RX8 1 none 4 97 none h' X) (hf : fX8_freshenPlan_b31 N h  = some (v, h')) : Wx X 1 31 [] [] h := by
  have C := B.1
  unfold fX8_freshenPlan_b31 at hf
  obtain ⟨rfl, rfl⟩ := rtn hf
  exact B.2.2.2.2.2.2.2.2.2 rfl rfl _ _ dX8_freshenPlan_31
def fX8_freshenPlan (N : Nat) (h : pH)  : Option (Unit × pH) :=
  (fX8_freshen N h).bind fun z1 => (if (z1.2.1 1 15) = 0 then (fX8_freshenPlan_b31 N z1.2) else ((fX4_make N (pw z1.2 1 15 0)).bind fun z2 => (fX8_freshenPlan_b31 N z2.2)))
set_option maxRecDepth 100000 in
set_option maxHeartbeats 4000000 in
theorem tX8_freshenPlan {X : Xt} {v : Unit} {h' : pH} (N : Nat) (h : pH)  (B : Bd (lo X) (qo X) cX8_freshenPlan RX8 1 none 4 97 none h' X) (hf : fX8_freshenPlan N h  = some (v, h')) : Wx X 1 0 [(0, rf (qo X) 1)] [] h := by
  have C := B.1
  unfold fX8_freshenPlan at hf
  refine x_aload_n (i := 0) 0 C dX8_freshenPlan_0 rfl rfl ?_
  obtain ⟨z1, e1, hf⟩ := bnd hf
  refine x_callV (r := 1) (As := []) (rest := []) C dX8_freshenPlan_1 kmX8_110 miX8_freshen (ctX8_freshen (lo X) (qo X) N h z1.1 z1.2 e1) rfl rfl ⟨Nat.le_trans (by decide) B.2.2.2.1, Nat.le_trans (by decide) B.2.2.2.2.1⟩ (by simp [cat_i, cat_l, rf_cat]) rfl ?_
  refine x_aload_n (i := 0) 0 C dX8_freshenPlan_4 rfl rfl ?_
  refine x_getI (r := 1) C dX8_freshenPlan_5 kfX8_80 rfl ?_
  refine x_if_eq (tgt := 31) C dX8_freshenPlan_8 (by decide) (fun c => ?_) (fun c => ?_)
  · rw [if_pos c] at hf
    refine x_lv [] rfl ?_
    exact tX8_freshenPlan_b31 N z1.2 B hf
  · rw [if_neg c] at hf
    refine x_aload_n (i := 0) 0 C dX8_freshenPlan_11 rfl rfl ?_
    refine x_iconst (v := 0) C dX8_freshenPlan_12 (by decide) ?_
    refine x_putI (r := 1) C dX8_freshenPlan_13 kfX8_80 rfl rfl rfl ?_
    refine x_aload_n (i := 0) 0 C dX8_freshenPlan_16 rfl rfl ?_
    refine x_getR (r := 1) (r2 := 30) C dX8_freshenPlan_17 kfX8_52 rfl rfl (by decide) ?_
    refine x_aload_n (i := 0) 0 C dX8_freshenPlan_20 rfl rfl ?_
    refine x_getR (r := 1) (r2 := 9) C dX8_freshenPlan_21 kfX8_18 rfl rfl (by decide) ?_
    refine x_aload_n (i := 0) 0 C dX8_freshenPlan_24 rfl rfl ?_
    refine x_getR (r := 1) (r2 := 14) C dX8_freshenPlan_25 kfX8_25 rfl rfl (by decide) ?_
    obtain ⟨z2, e2, hf⟩ := bnd hf
    refine x_callV (r := 30) (As := [rf (qo X) 9, rf (qo X) 14]) (rest := []) C dX8_freshenPlan_28 kmX8_385 miX4_make (ctX4_make (lo X) (qo X) N (pw z1.2 1 15 0) z2.1 z2.2 e2) rfl rfl ⟨Nat.le_trans (by decide) B.2.2.2.1, Nat.le_trans (by decide) B.2.2.2.2.1⟩ (by simp [cat_i, cat_l, rf_cat]) rfl ?_
    refine x_lv [] rfl ?_
    exact tX8_freshenPlan_b31 N z2.2 B hf
theorem ctX8_freshenPlan (l : Launch) (q : Nat → Nat) (N : Nat) (h : pH)  (v : Unit) (h' : pH) (hf : fX8_freshenPlan N h  = some (v, h')) : Ctr l q yX8_freshenPlan cX8_freshenPlan 1 none 4 97 [rf q 1] h h' none := by
  refine ct_of (own := RX8) (lv := [(0, rf q 1)]) (by decide +kernel) rfl (by simp [lg_sl, rf_cat, cat_i, cat_l]) (by first | rfl | simp [lv_args, rf_cat, cat_i, cat_l]) ?_
  intro X B
  obtain rfl := B.2.1
  obtain rfl := B.2.2.1
  exact tX8_freshenPlan N h  B hf
def fX8_order (N : Nat) (h : pH) (x1 : Int32) : Option (Int32 × pH) :=
  (fX8_within N h x1 0 9).bind fun z1 => (if z1.1 = 0 then (some ((-2), z1.2)) else ((fX8_freshenPlan N z1.2).bind fun z2 => (if x1 = 0 then (some (z2.2.1 30 6, z2.2)) else (if x1 = 1 then (some (z2.2.1 30 7, z2.2)) else ((fX4_whoAt N z2.2 (x1 - 2)).bind fun z3 => (some (z3.1, z3.2)))))))
set_option maxRecDepth 100000 in
set_option maxHeartbeats 4000000 in
theorem tX8_order {X : Xt} {v : Int32} {h' : pH} (N : Nat) (h : pH) (x1 : Int32) (B : Bd (lo X) (qo X) cX8_order RX8 2 (some .int) 5 117 (some (.int v)) h' X) (hf : fX8_order N h x1 = some (v, h')) : Wx X 2 0 [(0, rf (qo X) 1), (1, .int x1)] [] h := by
  have C := B.1
  unfold fX8_order at hf
  refine x_iload_n (i := 1) 1 C dX8_order_0 rfl rfl ?_
  refine x_iconst (v := 0) C dX8_order_1 (by decide) ?_
  refine x_bipush (v := 9) C dX8_order_2 (by decide) ?_
  obtain ⟨z1, e1, hf⟩ := bnd hf
  refine x_callS (As := [.int x1, .int 0, .int 9]) (rest := []) C dX8_order_4 kmX8_91 miX8_within (ctX8_within (lo X) (qo X) N h x1 0 9 z1.1 z1.2 e1) rfl rfl ⟨Nat.le_trans (by decide) B.2.2.2.1, Nat.le_trans (by decide) B.2.2.2.2.1⟩ (by simp [cat_i, cat_l, rf_cat]) ?_
  refine x_if_ne (tgt := 13) C dX8_order_7 (by decide) (fun c => ?_) (fun c => ?_)
  · rw [if_neg c] at hf
    refine x_aload_n (i := 0) 0 C dX8_order_13 rfl rfl ?_
    obtain ⟨z2, e2, hf⟩ := bnd hf
    refine x_callV (r := 1) (As := []) (rest := []) C dX8_order_14 kmX8_179 miX8_freshenPlan (ctX8_freshenPlan (lo X) (qo X) N z1.2 z2.1 z2.2 e2) rfl rfl ⟨Nat.le_trans (by decide) B.2.2.2.1, Nat.le_trans (by decide) B.2.2.2.2.1⟩ (by simp [cat_i, cat_l, rf_cat]) rfl ?_
    refine x_iload_n (i := 1) 1 C dX8_order_17 rfl rfl ?_
    by_cases c0 : x1 = 0
    · rw [if_pos c0] at hf
      refine x_lookup (tgt := 44) (off := 26) C dX8_order_18 (by decide) (by rw [c0]; decide) (by decide) ?_
      refine x_aload_n (i := 0) 0 C dX8_order_44 rfl rfl ?_
      refine x_getR (r := 1) (r2 := 30) C dX8_order_45 kfX8_52 rfl rfl (by decide) ?_
      refine x_getI (r := 30) C dX8_order_48 kfX8_182 rfl ?_
      obtain ⟨rfl, rfl⟩ := rtn hf
      exact B.2.2.2.2.2.1 _ _ rfl rfl rfl _ _ dX8_order_51
    rw [if_neg c0] at hf
    by_cases c1 : x1 = 1
    · rw [if_pos c1] at hf
      refine x_lookup (tgt := 52) (off := 34) C dX8_order_18 (by decide) (by rw [c1]; decide) (by decide) ?_
      refine x_aload_n (i := 0) 0 C dX8_order_52 rfl rfl ?_
      refine x_getR (r := 1) (r2 := 30) C dX8_order_53 kfX8_52 rfl rfl (by decide) ?_
      refine x_getI (r := 30) C dX8_order_56 kfX8_185 rfl ?_
      obtain ⟨rfl, rfl⟩ := rtn hf
      exact B.2.2.2.2.2.1 _ _ rfl rfl rfl _ _ dX8_order_59
    rw [if_neg c1] at hf
    refine x_lookup (tgt := 60) (off := 42) C dX8_order_18 (by decide) (lk_out (by simp) c0 c1) (by decide) ?_
    refine x_aload_n (i := 0) 0 C dX8_order_60 rfl rfl ?_
    refine x_getR (r := 1) (r2 := 30) C dX8_order_61 kfX8_52 rfl rfl (by decide) ?_
    refine x_iload_n (i := 1) 1 C dX8_order_64 rfl rfl ?_
    refine x_iconst (v := 2) C dX8_order_65 (by decide) ?_
    refine x_isub C dX8_order_66 ?_
    obtain ⟨z3, e3, hf⟩ := bnd hf
    refine x_callV (r := 30) (As := [.int (x1 - 2)]) (rest := []) C dX8_order_67 kmX8_188 miX4_whoAt (ctX4_whoAt (lo X) (qo X) N z2.2 (x1 - 2) z3.1 z3.2 e3) rfl rfl ⟨Nat.le_trans (by decide) B.2.2.2.1, Nat.le_trans (by decide) B.2.2.2.2.1⟩ (by simp [cat_i, cat_l, rf_cat]) rfl ?_
    obtain ⟨rfl, rfl⟩ := rtn hf
    exact B.2.2.2.2.2.1 _ _ rfl rfl rfl _ _ dX8_order_70
  · rw [if_pos c] at hf
    refine x_bipush (v := (-2)) C dX8_order_10 (by decide) ?_
    obtain ⟨rfl, rfl⟩ := rtn hf
    exact B.2.2.2.2.2.1 _ _ rfl rfl rfl _ _ dX8_order_12
theorem ctX8_order (l : Launch) (q : Nat → Nat) (N : Nat) (h : pH) (x1 : Int32) (v : Int32) (h' : pH) (hf : fX8_order N h x1 = some (v, h')) : Ctr l q yX8_order cX8_order 2 (some .int) 5 117 [rf q 1, .int x1] h h' (some (.int v)) := by
  refine ct_of (own := RX8) (lv := [(0, rf q 1), (1, .int x1)]) (by decide +kernel) rfl (by simp [lg_sl, rf_cat, cat_i, cat_l]) (by first | rfl | simp [lv_args, rf_cat, cat_i, cat_l]) ?_
  intro X B
  obtain rfl := B.2.1
  obtain rfl := B.2.2.1
  exact tX8_order N h x1 B hf
def fX8_gapBehindAll (N : Nat) (h : pH)  : Option (Int32 × pH) :=
  if ix (h.1 24 1) 25 = true then (some (h.1 26 (h.1 24 1).toNatClampNeg, h)) else none
set_option maxRecDepth 100000 in
set_option maxHeartbeats 4000000 in
theorem tX8_gapBehindAll {X : Xt} {v : Int32} {h' : pH} (N : Nat) (h : pH)  (B : Bd (lo X) (qo X) cX8_gapBehindAll RX8 1 (some .int) 0 0 (some (.int v)) h' X) (hf : fX8_gapBehindAll N h  = some (v, h')) : Wx X 1 0 [(0, rf (qo X) 1)] [] h := by
  have C := B.1
  unfold fX8_gapBehindAll at hf
  refine x_aload_n (i := 0) 0 C dX8_gapBehindAll_0 rfl rfl ?_
  refine x_getR (r := 1) (r2 := 26) C dX8_gapBehindAll_1 kfX8_36 rfl rfl (by decide) ?_
  refine x_aload_n (i := 0) 0 C dX8_gapBehindAll_4 rfl rfl ?_
  refine x_getR (r := 1) (r2 := 24) C dX8_gapBehindAll_5 kfX8_32 rfl rfl (by decide) ?_
  refine x_getI (r := 24) C dX8_gapBehindAll_8 kfX8_154 rfl ?_
  obtain ⟨g1, hf⟩ := ife hf
  refine x_iald (r := 26) C dX8_gapBehindAll_11 rfl g1 ?_
  obtain ⟨rfl, rfl⟩ := rtn hf
  exact B.2.2.2.2.2.1 _ _ rfl rfl rfl _ _ dX8_gapBehindAll_12
theorem ctX8_gapBehindAll (l : Launch) (q : Nat → Nat) (N : Nat) (h : pH)  (v : Int32) (h' : pH) (hf : fX8_gapBehindAll N h  = some (v, h')) : Ctr l q yX8_gapBehindAll cX8_gapBehindAll 1 (some .int) 0 0 [rf q 1] h h' (some (.int v)) := by
  refine ct_of (own := RX8) (lv := [(0, rf q 1)]) (by decide +kernel) rfl (by simp [lg_sl, rf_cat, cat_i, cat_l]) (by first | rfl | simp [lv_args, rf_cat, cat_i, cat_l]) ?_
  intro X B
  obtain rfl := B.2.1
  obtain rfl := B.2.2.1
  exact tX8_gapBehindAll N h  B hf
def fX8_ahead_b105 (N : Nat) (k44 : pH → Int32 → Nat → Int32 → Int32 → Option (Int32 × pH)) (h : pH) (x1 : Int32) (r2 : Nat) (x3 : Int32) (x4 : Int32) : Option (Int32 × pH) :=
  k44 h x1 r2 x3 (x4 + 1)
set_option maxRecDepth 100000 in
set_option maxHeartbeats 4000000 in
theorem tX8_ahead_b105 {X : Xt} {v : Int32} {h' : pH} (N : Nat) (k44 : pH → Int32 → Nat → Int32 → Int32 → Option (Int32 × pH)) (HK44 : ∀ (h : pH) (x1 : Int32) (r2 : Nat) (x3 : Int32) (x4 : Int32), k44 h x1 r2 x3 x4 = some (v, h') → Wx X 6 44 [(0, rf (qo X) 1), (1, .int x1), (2, rf (qo X) r2), (3, .int x3), (4, .int x4)] [] h) (h : pH) (x1 : Int32) (r2 : Nat) (x3 : Int32) (x4 : Int32) (B : Bd (lo X) (qo X) cX8_ahead RX8 6 (some .int) 4 96 (some (.int v)) h' X) (hf : fX8_ahead_b105 N k44 h x1 r2 x3 x4 = some (v, h')) : Wx X 6 105 [(0, rf (qo X) 1), (1, .int x1), (2, rf (qo X) r2), (3, .int x3), (4, .int x4)] [] h := by
  have C := B.1
  unfold fX8_ahead_b105 at hf
  refine x_iinc (v := x4 + 1) (lv' := [(4, .int (x4 + 1)), (0, rf (qo X) 1), (1, .int x1), (2, rf (qo X) r2), (3, .int x3)]) 4 C dX8_ahead_105 rfl rfl (by decide) rfl ?_
  refine x_goto (tgt := 44) C dX8_ahead_108 (by decide) ?_
  refine x_lv [1, 2, 3, 4, 0] rfl ?_
  exact HK44 h x1 r2 x3 (x4 + 1) hf
def fX8_ahead_B44 (N : Nat) (k44 : pH → Int32 → Nat → Int32 → Int32 → Option (Int32 × pH)) (h : pH) (x1 : Int32) (r2 : Nat) (x3 : Int32) (x4 : Int32) : Option (Int32 × pH) :=
  if (h.1 14 1) ≤ x4 then (some ((-1), h)) else ((fX2_at N h x4).bind fun z1 => ((fX0_gapBehind N z1.2 z1.1 x3 10).bind fun z2 => (if x4 = x1 then (fX8_ahead_b105 N k44 z2.2 x1 r2 x3 x4) else ((fX0_outcome N z2.2 r2 z2.1).bind fun z3 => (if z3.1 = 1 then (some (x4, z3.2)) else (fX8_ahead_b105 N k44 z3.2 x1 r2 x3 x4))))))
set_option maxRecDepth 100000 in
set_option maxHeartbeats 4000000 in
theorem tX8_ahead_B44 {X : Xt} {v : Int32} {h' : pH} (N : Nat) (k44 : pH → Int32 → Nat → Int32 → Int32 → Option (Int32 × pH)) (HK44 : ∀ (h : pH) (x1 : Int32) (r2 : Nat) (x3 : Int32) (x4 : Int32), k44 h x1 r2 x3 x4 = some (v, h') → Wx X 6 44 [(0, rf (qo X) 1), (1, .int x1), (2, rf (qo X) r2), (3, .int x3), (4, .int x4)] [] h) (h : pH) (x1 : Int32) (r2 : Nat) (x3 : Int32) (x4 : Int32) (B : Bd (lo X) (qo X) cX8_ahead RX8 6 (some .int) 4 96 (some (.int v)) h' X) (hf : fX8_ahead_B44 N k44 h x1 r2 x3 x4 = some (v, h')) : Wx X 6 44 [(0, rf (qo X) 1), (1, .int x1), (2, rf (qo X) r2), (3, .int x3), (4, .int x4)] [] h := by
  have C := B.1
  unfold fX8_ahead_B44 at hf
  refine x_iload 4 C dX8_ahead_44 rfl ?_
  refine x_aload_n (i := 0) 0 C dX8_ahead_46 rfl rfl ?_
  refine x_getR (r := 1) (r2 := 14) C dX8_ahead_47 kfX8_25 rfl rfl (by decide) ?_
  refine x_getI (r := 14) C dX8_ahead_50 kfX8_193 rfl ?_
  refine x_icmp_ge (tgt := 111) C dX8_ahead_53 (by decide) (fun c => ?_) (fun c => ?_)
  · rw [if_pos c] at hf
    refine x_iconst (v := (-1)) C dX8_ahead_111 (by decide) ?_
    obtain ⟨rfl, rfl⟩ := rtn hf
    exact B.2.2.2.2.2.1 _ _ rfl rfl rfl _ _ dX8_ahead_112
  · rw [if_neg c] at hf
    refine x_aload_n (i := 0) 0 C dX8_ahead_56 rfl rfl ?_
    refine x_getR (r := 1) (r2 := 9) C dX8_ahead_57 kfX8_18 rfl rfl (by decide) ?_
    refine x_aload_n (i := 0) 0 C dX8_ahead_60 rfl rfl ?_
    refine x_getR (r := 1) (r2 := 14) C dX8_ahead_61 kfX8_25 rfl rfl (by decide) ?_
    refine x_iload 4 C dX8_ahead_64 rfl ?_
    obtain ⟨z1, e1, hf⟩ := bnd hf
    refine x_callV (r := 14) (As := [.int x4]) (rest := [rf (qo X) 9]) C dX8_ahead_66 kmX8_120 miX2_at (ctX2_at (lo X) (qo X) N h x4 z1.1 z1.2 e1) rfl rfl ⟨Nat.le_trans (by decide) B.2.2.2.1, Nat.le_trans (by decide) B.2.2.2.2.1⟩ (by simp [cat_i, cat_l, rf_cat]) rfl ?_
    refine x_iload_n (i := 3) 3 C dX8_ahead_69 rfl rfl ?_
    refine x_aload_n (i := 0) 0 C dX8_ahead_70 rfl rfl ?_
    refine x_getR (r := 1) (r2 := 9) C dX8_ahead_71 kfX8_18 rfl rfl (by decide) ?_
    refine x_getR (r := 9) (r2 := 10) C dX8_ahead_74 kfX8_148 rfl rfl (by decide) ?_
    obtain ⟨z2, e2, hf⟩ := bnd hf
    refine x_callV (r := 9) (As := [rf (qo X) z1.1, .int x3, rf (qo X) 10]) (rest := []) C dX8_ahead_77 kmX8_194 miX0_gapBehind (ctX0_gapBehind (lo X) (qo X) N z1.2 z1.1 x3 10 z2.1 z2.2 e2) rfl rfl ⟨Nat.le_trans (by decide) B.2.2.2.1, Nat.le_trans (by decide) B.2.2.2.2.1⟩ (by simp [cat_i, cat_l, rf_cat]) rfl ?_
    refine x_istore (lv' := [(5, .int z2.1), (0, rf (qo X) 1), (1, .int x1), (2, rf (qo X) r2), (3, .int x3), (4, .int x4)]) C dX8_ahead_80 (by decide) rfl ?_
    refine x_iload 5 C dX8_ahead_82 rfl ?_
    refine x_iload_n (i := 1) 2 C dX8_ahead_84 rfl rfl ?_
    refine x_icmp_eq (tgt := 105) C dX8_ahead_85 (by decide) (fun c => ?_) (fun c => ?_)
    · rw [if_pos c] at hf
      refine x_lv [1, 2, 3, 4, 5] rfl ?_
      exact tX8_ahead_b105 N k44 HK44 z2.2 x1 r2 x3 x4 B hf
    · rw [if_neg c] at hf
      refine x_aload_n (i := 0) 1 C dX8_ahead_88 rfl rfl ?_
      refine x_getR (r := 1) (r2 := 9) C dX8_ahead_89 kfX8_18 rfl rfl (by decide) ?_
      refine x_aload_n (i := 2) 3 C dX8_ahead_92 rfl rfl ?_
      refine x_iload 0 C dX8_ahead_93 rfl ?_
      obtain ⟨z3, e3, hf⟩ := bnd hf
      refine x_callV (r := 9) (As := [rf (qo X) r2, .int z2.1]) (rest := []) C dX8_ahead_95 kmX8_157 miX0_outcome (ctX0_outcome (lo X) (qo X) N z2.2 r2 z2.1 z3.1 z3.2 e3) rfl rfl ⟨Nat.le_trans (by decide) B.2.2.2.1, Nat.le_trans (by decide) B.2.2.2.2.1⟩ (by simp [cat_i, cat_l, rf_cat]) rfl ?_
      refine x_iconst (v := 1) C dX8_ahead_98 (by decide) ?_
      refine x_icmp_ne (tgt := 105) C dX8_ahead_99 (by decide) (fun c => ?_) (fun c => ?_)
      · rw [if_neg c] at hf
        refine x_lv [1, 2, 3, 4, 5] rfl ?_
        exact tX8_ahead_b105 N k44 HK44 z3.2 x1 r2 x3 x4 B hf
      · rw [if_pos c] at hf
        refine x_iload 5 C dX8_ahead_102 rfl ?_
        obtain ⟨rfl, rfl⟩ := rtn hf
        exact B.2.2.2.2.2.1 _ _ rfl rfl rfl _ _ dX8_ahead_104
def fX8_ahead_L44 (N : Nat) : Nat → pH → Int32 → Nat → Int32 → Int32 → Option (Int32 × pH)
  | 0 => fun _ _ _ _ _ => none
  | n + 1 => fX8_ahead_B44 N (fX8_ahead_L44 N n)
theorem tX8_ahead_L44 {X : Xt} {v : Int32} {h' : pH} (N : Nat) (B : Bd (lo X) (qo X) cX8_ahead RX8 6 (some .int) 4 96 (some (.int v)) h' X) : ∀ (n : Nat) (h : pH) (x1 : Int32) (r2 : Nat) (x3 : Int32) (x4 : Int32), fX8_ahead_L44 N n h x1 r2 x3 x4 = some (v, h') → Wx X 6 44 [(0, rf (qo X) 1), (1, .int x1), (2, rf (qo X) r2), (3, .int x3), (4, .int x4)] [] h := by
  intro n
  induction n with
  | zero => intro h x1 r2 x3 x4 hf; exact absurd (show (none : Option (Int32 × pH)) = some (v, h') from hf) (fun z => by cases z)
  | succ n ih => intro h x1 r2 x3 x4 hf; exact tX8_ahead_B44 N (fX8_ahead_L44 N n) ih h x1 r2 x3 x4 B hf
def fX8_ahead (N : Nat) (h : pH) (x1 : Int32) : Option (Int32 × pH) :=
  (fX8_freshen N h).bind fun z1 => ((fX2_at N z1.2 x1).bind fun z2 => (if z2.1 = 0 then (some ((-2), z2.2)) else ((fX8_gapBehindAll N z2.2).bind fun z3 => ((fX0_outcome N z3.2 z2.1 z3.1).bind fun z4 => (if z4.1 = 1 then (some ((-3), z4.2)) else (fX8_ahead_L44 N N z4.2 x1 z2.1 z3.1 0))))))
set_option maxRecDepth 100000 in
set_option maxHeartbeats 4000000 in
theorem tX8_ahead {X : Xt} {v : Int32} {h' : pH} (N : Nat) (h : pH) (x1 : Int32) (B : Bd (lo X) (qo X) cX8_ahead RX8 6 (some .int) 4 96 (some (.int v)) h' X) (hf : fX8_ahead N h x1 = some (v, h')) : Wx X 6 0 [(0, rf (qo X) 1), (1, .int x1)] [] h := by
  have C := B.1
  unfold fX8_ahead at hf
  refine x_aload_n (i := 0) 0 C dX8_ahead_0 rfl rfl ?_
  obtain ⟨z1, e1, hf⟩ := bnd hf
  refine x_callV (r := 1) (As := []) (rest := []) C dX8_ahead_1 kmX8_110 miX8_freshen (ctX8_freshen (lo X) (qo X) N h z1.1 z1.2 e1) rfl rfl ⟨Nat.le_trans (by decide) B.2.2.2.1, Nat.le_trans (by decide) B.2.2.2.2.1⟩ (by simp [cat_i, cat_l, rf_cat]) rfl ?_
  refine x_aload_n (i := 0) 0 C dX8_ahead_4 rfl rfl ?_
  refine x_getR (r := 1) (r2 := 14) C dX8_ahead_5 kfX8_25 rfl rfl (by decide) ?_
  refine x_iload_n (i := 1) 1 C dX8_ahead_8 rfl rfl ?_
  obtain ⟨z2, e2, hf⟩ := bnd hf
  refine x_callV (r := 14) (As := [.int x1]) (rest := []) C dX8_ahead_9 kmX8_120 miX2_at (ctX2_at (lo X) (qo X) N z1.2 x1 z2.1 z2.2 e2) rfl rfl ⟨Nat.le_trans (by decide) B.2.2.2.1, Nat.le_trans (by decide) B.2.2.2.2.1⟩ (by simp [cat_i, cat_l, rf_cat]) rfl ?_
  refine x_astore_n (i := 2) (lv' := [(2, rf (qo X) z2.1), (0, rf (qo X) 1), (1, .int x1)]) C dX8_ahead_12 rfl (by decide) rfl ?_
  refine x_aload_n (i := 2) 0 C dX8_ahead_13 rfl rfl ?_
  refine x_ifnonnull (tgt := 20) C dX8_ahead_14 (by decide) (fun c => ?_) (fun c => ?_)
  · rw [if_neg c] at hf
    refine x_aload_n (i := 0) 1 C dX8_ahead_20 rfl rfl ?_
    obtain ⟨z3, e3, hf⟩ := bnd hf
    refine x_callV (r := 1) (As := []) (rest := []) C dX8_ahead_21 kmX8_189 miX8_gapBehindAll (ctX8_gapBehindAll (lo X) (qo X) N z2.2 z3.1 z3.2 e3) rfl rfl ⟨Nat.le_trans (by decide) B.2.2.2.1, Nat.le_trans (by decide) B.2.2.2.2.1⟩ (by simp [cat_i, cat_l, rf_cat]) rfl ?_
    refine x_istore_n (i := 3) (lv' := [(3, .int z3.1), (2, rf (qo X) z2.1), (0, rf (qo X) 1), (1, .int x1)]) C dX8_ahead_24 rfl (by decide) (by simp [List.filter, rf_cat]) ?_
    refine x_aload_n (i := 0) 2 C dX8_ahead_25 rfl rfl ?_
    refine x_getR (r := 1) (r2 := 9) C dX8_ahead_26 kfX8_18 rfl rfl (by decide) ?_
    refine x_aload_n (i := 2) 1 C dX8_ahead_29 rfl rfl ?_
    refine x_iload_n (i := 3) 0 C dX8_ahead_30 rfl rfl ?_
    obtain ⟨z4, e4, hf⟩ := bnd hf
    refine x_callV (r := 9) (As := [rf (qo X) z2.1, .int z3.1]) (rest := []) C dX8_ahead_31 kmX8_157 miX0_outcome (ctX0_outcome (lo X) (qo X) N z3.2 z2.1 z3.1 z4.1 z4.2 e4) rfl rfl ⟨Nat.le_trans (by decide) B.2.2.2.1, Nat.le_trans (by decide) B.2.2.2.2.1⟩ (by simp [cat_i, cat_l, rf_cat]) rfl ?_
    refine x_iconst (v := 1) C dX8_ahead_34 (by decide) ?_
    refine x_icmp_ne (tgt := 41) C dX8_ahead_35 (by decide) (fun c => ?_) (fun c => ?_)
    · rw [if_neg c] at hf
      refine x_iconst (v := 0) C dX8_ahead_41 (by decide) ?_
      refine x_istore (lv' := [(4, .int 0), (3, .int z3.1), (2, rf (qo X) z2.1), (0, rf (qo X) 1), (1, .int x1)]) C dX8_ahead_42 (by decide) rfl ?_
      refine x_lv [3, 4, 2, 1, 0] rfl ?_
      exact tX8_ahead_L44 N  B N z4.2 x1 z2.1 z3.1 0 hf
    · rw [if_pos c] at hf
      refine x_bipush (v := (-3)) C dX8_ahead_38 (by decide) ?_
      obtain ⟨rfl, rfl⟩ := rtn hf
      exact B.2.2.2.2.2.1 _ _ rfl rfl rfl _ _ dX8_ahead_40
  · rw [if_pos c] at hf
    refine x_bipush (v := (-2)) C dX8_ahead_17 (by decide) ?_
    obtain ⟨rfl, rfl⟩ := rtn hf
    exact B.2.2.2.2.2.1 _ _ rfl rfl rfl _ _ dX8_ahead_19
theorem ctX8_ahead (l : Launch) (q : Nat → Nat) (N : Nat) (h : pH) (x1 : Int32) (v : Int32) (h' : pH) (hf : fX8_ahead N h x1 = some (v, h')) : Ctr l q yX8_ahead cX8_ahead 6 (some .int) 4 96 [rf q 1, .int x1] h h' (some (.int v)) := by
  refine ct_of (own := RX8) (lv := [(0, rf q 1), (1, .int x1)]) (by decide +kernel) rfl (by simp [lg_sl, rf_cat, cat_i, cat_l]) (by first | rfl | simp [lv_args, rf_cat, cat_i, cat_l]) ?_
  intro X B
  obtain rfl := B.2.1
  obtain rfl := B.2.2.1
  exact tX8_ahead N h x1 B hf
def fX8_often_b37 (N : Nat) (h : pH)  : Option (Int32 × pH) :=
  some ((-2), h)
set_option maxRecDepth 100000 in
set_option maxHeartbeats 4000000 in
theorem tX8_often_b37 {X : Xt} {v : Int32} {h' : pH} (N : Nat) (h : pH)  (B : Bd (lo X) (qo X) cX8_often RX8 7 (some .int) 4 96 (some (.int v)) h' X) (hf : fX8_often_b37 N h  = some (v, h')) : Wx X 7 37 [] [] h := by
  have C := B.1
  unfold fX8_often_b37 at hf
  refine x_bipush (v := (-2)) C dX8_often_37 (by decide) ?_
  obtain ⟨rfl, rfl⟩ := rtn hf
  exact B.2.2.2.2.2.1 _ _ rfl rfl rfl _ _ dX8_often_39
def fX8_often_B49 (N : Nat) (k49 : pH → Nat → Nat → Int32 → Int32 → Option (Int32 × pH)) (h : pH) (r3 : Nat) (r4 : Nat) (x5 : Int32) (x6 : Int32) : Option (Int32 × pH) :=
  if 9 < x6 then (some ((-1), h)) else ((fX0_outcome N h r3 x5).bind fun z1 => (if z1.1 = 1 then (some (x6, z1.2)) else ((fX0_gapBehind N z1.2 r4 x5 10).bind fun z2 => (k49 z2.2 r3 r4 z2.1 (x6 + 1)))))
set_option maxRecDepth 100000 in
set_option maxHeartbeats 4000000 in
theorem tX8_often_B49 {X : Xt} {v : Int32} {h' : pH} (N : Nat) (k49 : pH → Nat → Nat → Int32 → Int32 → Option (Int32 × pH)) (HK49 : ∀ (h : pH) (r3 : Nat) (r4 : Nat) (x5 : Int32) (x6 : Int32), k49 h r3 r4 x5 x6 = some (v, h') → Wx X 7 49 [(0, rf (qo X) 1), (3, rf (qo X) r3), (4, rf (qo X) r4), (5, .int x5), (6, .int x6)] [] h) (h : pH) (r3 : Nat) (r4 : Nat) (x5 : Int32) (x6 : Int32) (B : Bd (lo X) (qo X) cX8_often RX8 7 (some .int) 4 96 (some (.int v)) h' X) (hf : fX8_often_B49 N k49 h r3 r4 x5 x6 = some (v, h')) : Wx X 7 49 [(0, rf (qo X) 1), (3, rf (qo X) r3), (4, rf (qo X) r4), (5, .int x5), (6, .int x6)] [] h := by
  have C := B.1
  unfold fX8_often_B49 at hf
  refine x_iload 4 C dX8_often_49 rfl ?_
  refine x_bipush (v := 9) C dX8_often_51 (by decide) ?_
  refine x_icmp_gt (tgt := 99) C dX8_often_53 (by decide) (fun c => ?_) (fun c => ?_)
  · rw [if_pos c] at hf
    refine x_iconst (v := (-1)) C dX8_often_99 (by decide) ?_
    obtain ⟨rfl, rfl⟩ := rtn hf
    exact B.2.2.2.2.2.1 _ _ rfl rfl rfl _ _ dX8_often_100
  · rw [if_neg c] at hf
    refine x_aload_n (i := 0) 0 C dX8_often_56 rfl rfl ?_
    refine x_getR (r := 1) (r2 := 9) C dX8_often_57 kfX8_18 rfl rfl (by decide) ?_
    refine x_aload_n (i := 3) 1 C dX8_often_60 rfl rfl ?_
    refine x_iload 3 C dX8_often_61 rfl ?_
    obtain ⟨z1, e1, hf⟩ := bnd hf
    refine x_callV (r := 9) (As := [rf (qo X) r3, .int x5]) (rest := []) C dX8_often_63 kmX8_157 miX0_outcome (ctX0_outcome (lo X) (qo X) N h r3 x5 z1.1 z1.2 e1) rfl rfl ⟨Nat.le_trans (by decide) B.2.2.2.1, Nat.le_trans (by decide) B.2.2.2.2.1⟩ (by simp [cat_i, cat_l, rf_cat]) rfl ?_
    refine x_iconst (v := 1) C dX8_often_66 (by decide) ?_
    refine x_icmp_ne (tgt := 73) C dX8_often_67 (by decide) (fun c => ?_) (fun c => ?_)
    · rw [if_neg c] at hf
      refine x_aload_n (i := 0) 0 C dX8_often_73 rfl rfl ?_
      refine x_getR (r := 1) (r2 := 9) C dX8_often_74 kfX8_18 rfl rfl (by decide) ?_
      refine x_aload 2 C dX8_often_77 rfl ?_
      refine x_iload 3 C dX8_often_79 rfl ?_
      refine x_aload_n (i := 0) 0 C dX8_often_81 rfl rfl ?_
      refine x_getR (r := 1) (r2 := 9) C dX8_often_82 kfX8_18 rfl rfl (by decide) ?_
      refine x_getR (r := 9) (r2 := 10) C dX8_often_85 kfX8_148 rfl rfl (by decide) ?_
      obtain ⟨z2, e2, hf⟩ := bnd hf
      refine x_callV (r := 9) (As := [rf (qo X) r4, .int x5, rf (qo X) 10]) (rest := []) C dX8_often_88 kmX8_194 miX0_gapBehind (ctX0_gapBehind (lo X) (qo X) N z1.2 r4 x5 10 z2.1 z2.2 e2) rfl rfl ⟨Nat.le_trans (by decide) B.2.2.2.1, Nat.le_trans (by decide) B.2.2.2.2.1⟩ (by simp [cat_i, cat_l, rf_cat]) rfl ?_
      refine x_istore (lv' := [(5, .int z2.1), (0, rf (qo X) 1), (3, rf (qo X) r3), (4, rf (qo X) r4), (6, .int x6)]) C dX8_often_91 (by decide) (by simp [List.filter, rf_cat]) ?_
      refine x_iinc (v := x6 + 1) (lv' := [(6, .int (x6 + 1)), (5, .int z2.1), (0, rf (qo X) 1), (3, rf (qo X) r3), (4, rf (qo X) r4)]) 4 C dX8_often_93 rfl rfl (by decide) rfl ?_
      refine x_goto (tgt := 49) C dX8_often_96 (by decide) ?_
      refine x_lv [2, 3, 4, 1, 0] rfl ?_
      exact HK49 z2.2 r3 r4 z2.1 (x6 + 1) hf
    · rw [if_pos c] at hf
      refine x_iload 4 C dX8_often_70 rfl ?_
      obtain ⟨rfl, rfl⟩ := rtn hf
      exact B.2.2.2.2.2.1 _ _ rfl rfl rfl _ _ dX8_often_72
def fX8_often_L49 (N : Nat) : Nat → pH → Nat → Nat → Int32 → Int32 → Option (Int32 × pH)
  | 0 => fun _ _ _ _ _ => none
  | n + 1 => fX8_often_B49 N (fX8_often_L49 N n)
theorem tX8_often_L49 {X : Xt} {v : Int32} {h' : pH} (N : Nat) (B : Bd (lo X) (qo X) cX8_often RX8 7 (some .int) 4 96 (some (.int v)) h' X) : ∀ (n : Nat) (h : pH) (r3 : Nat) (r4 : Nat) (x5 : Int32) (x6 : Int32), fX8_often_L49 N n h r3 r4 x5 x6 = some (v, h') → Wx X 7 49 [(0, rf (qo X) 1), (3, rf (qo X) r3), (4, rf (qo X) r4), (5, .int x5), (6, .int x6)] [] h := by
  intro n
  induction n with
  | zero => intro h r3 r4 x5 x6 hf; exact absurd (show (none : Option (Int32 × pH)) = some (v, h') from hf) (fun z => by cases z)
  | succ n ih => intro h r3 r4 x5 x6 hf; exact tX8_often_B49 N (fX8_often_L49 N n) ih h r3 r4 x5 x6 B hf
def fX8_often (N : Nat) (h : pH) (x1 : Int32) (x2 : Int32) : Option (Int32 × pH) :=
  (fX8_freshen N h).bind fun z1 => ((fX2_at N z1.2 x1).bind fun z2 => ((fX2_at N z2.2 x2).bind fun z3 => (if z2.1 = 0 then (fX8_often_b37 N z3.2) else (if z3.1 = 0 then (fX8_often_b37 N z3.2) else (if x1 = x2 then (fX8_often_b37 N z3.2) else ((fX8_gapBehindAll N z3.2).bind fun z4 => (fX8_often_L49 N N z4.2 z2.1 z3.1 z4.1 0)))))))
set_option maxRecDepth 100000 in
set_option maxHeartbeats 4000000 in
theorem tX8_often {X : Xt} {v : Int32} {h' : pH} (N : Nat) (h : pH) (x1 : Int32) (x2 : Int32) (B : Bd (lo X) (qo X) cX8_often RX8 7 (some .int) 4 96 (some (.int v)) h' X) (hf : fX8_often N h x1 x2 = some (v, h')) : Wx X 7 0 [(0, rf (qo X) 1), (1, .int x1), (2, .int x2)] [] h := by
  have C := B.1
  unfold fX8_often at hf
  refine x_aload_n (i := 0) 0 C dX8_often_0 rfl rfl ?_
  obtain ⟨z1, e1, hf⟩ := bnd hf
  refine x_callV (r := 1) (As := []) (rest := []) C dX8_often_1 kmX8_110 miX8_freshen (ctX8_freshen (lo X) (qo X) N h z1.1 z1.2 e1) rfl rfl ⟨Nat.le_trans (by decide) B.2.2.2.1, Nat.le_trans (by decide) B.2.2.2.2.1⟩ (by simp [cat_i, cat_l, rf_cat]) rfl ?_
  refine x_aload_n (i := 0) 0 C dX8_often_4 rfl rfl ?_
  refine x_getR (r := 1) (r2 := 14) C dX8_often_5 kfX8_25 rfl rfl (by decide) ?_
  refine x_iload_n (i := 1) 1 C dX8_often_8 rfl rfl ?_
  obtain ⟨z2, e2, hf⟩ := bnd hf
  refine x_callV (r := 14) (As := [.int x1]) (rest := []) C dX8_often_9 kmX8_120 miX2_at (ctX2_at (lo X) (qo X) N z1.2 x1 z2.1 z2.2 e2) rfl rfl ⟨Nat.le_trans (by decide) B.2.2.2.1, Nat.le_trans (by decide) B.2.2.2.2.1⟩ (by simp [cat_i, cat_l, rf_cat]) rfl ?_
  refine x_astore_n (i := 3) (lv' := [(3, rf (qo X) z2.1), (0, rf (qo X) 1), (1, .int x1), (2, .int x2)]) C dX8_often_12 rfl (by decide) rfl ?_
  refine x_aload_n (i := 0) 1 C dX8_often_13 rfl rfl ?_
  refine x_getR (r := 1) (r2 := 14) C dX8_often_14 kfX8_25 rfl rfl (by decide) ?_
  refine x_iload_n (i := 2) 3 C dX8_often_17 rfl rfl ?_
  obtain ⟨z3, e3, hf⟩ := bnd hf
  refine x_callV (r := 14) (As := [.int x2]) (rest := []) C dX8_often_18 kmX8_120 miX2_at (ctX2_at (lo X) (qo X) N z2.2 x2 z3.1 z3.2 e3) rfl rfl ⟨Nat.le_trans (by decide) B.2.2.2.1, Nat.le_trans (by decide) B.2.2.2.2.1⟩ (by simp [cat_i, cat_l, rf_cat]) rfl ?_
  refine x_astore (lv' := [(4, rf (qo X) z3.1), (3, rf (qo X) z2.1), (0, rf (qo X) 1), (1, .int x1), (2, .int x2)]) C dX8_often_21 (by decide) (by simp [List.filter, rf_cat]) ?_
  refine x_aload_n (i := 3) 1 C dX8_often_23 rfl rfl ?_
  refine x_ifnull (tgt := 37) C dX8_often_24 (by decide) (fun c => ?_) (fun c => ?_)
  · rw [if_pos c] at hf
    refine x_lv [] rfl ?_
    exact tX8_often_b37 N z3.2 B hf
  · rw [if_neg c] at hf
    refine x_aload 0 C dX8_often_27 rfl ?_
    refine x_ifnull (tgt := 37) C dX8_often_29 (by decide) (fun c => ?_) (fun c => ?_)
    · rw [if_pos c] at hf
      refine x_lv [] rfl ?_
      exact tX8_often_b37 N z3.2 B hf
    · rw [if_neg c] at hf
      refine x_iload_n (i := 1) 3 C dX8_often_32 rfl rfl ?_
      refine x_iload_n (i := 2) 4 C dX8_often_33 rfl rfl ?_
      refine x_icmp_ne (tgt := 40) C dX8_often_34 (by decide) (fun c => ?_) (fun c => ?_)
      · rw [if_neg c] at hf
        refine x_aload_n (i := 0) 2 C dX8_often_40 rfl rfl ?_
        obtain ⟨z4, e4, hf⟩ := bnd hf
        refine x_callV (r := 1) (As := []) (rest := []) C dX8_often_41 kmX8_189 miX8_gapBehindAll (ctX8_gapBehindAll (lo X) (qo X) N z3.2 z4.1 z4.2 e4) rfl rfl ⟨Nat.le_trans (by decide) B.2.2.2.1, Nat.le_trans (by decide) B.2.2.2.2.1⟩ (by simp [cat_i, cat_l, rf_cat]) rfl ?_
        refine x_istore (lv' := [(5, .int z4.1), (4, rf (qo X) z3.1), (3, rf (qo X) z2.1), (0, rf (qo X) 1), (1, .int x1), (2, .int x2)]) C dX8_often_44 (by decide) (by simp [List.filter, rf_cat]) ?_
        refine x_iconst (v := 0) C dX8_often_46 (by decide) ?_
        refine x_istore (lv' := [(6, .int 0), (5, .int z4.1), (4, rf (qo X) z3.1), (3, rf (qo X) z2.1), (0, rf (qo X) 1), (1, .int x1), (2, .int x2)]) C dX8_often_47 (by decide) rfl ?_
        refine x_lv [4, 3, 2, 1, 0] rfl ?_
        exact tX8_often_L49 N  B N z4.2 z2.1 z3.1 z4.1 0 hf
      · rw [if_pos c] at hf
        refine x_lv [] rfl ?_
        exact tX8_often_b37 N z3.2 B hf
theorem ctX8_often (l : Launch) (q : Nat → Nat) (N : Nat) (h : pH) (x1 : Int32) (x2 : Int32) (v : Int32) (h' : pH) (hf : fX8_often N h x1 x2 = some (v, h')) : Ctr l q yX8_often cX8_often 7 (some .int) 4 96 [rf q 1, .int x1, .int x2] h h' (some (.int v)) := by
  refine ct_of (own := RX8) (lv := [(0, rf q 1), (1, .int x1), (2, .int x2)]) (by decide +kernel) rfl (by simp [lg_sl, rf_cat, cat_i, cat_l]) (by first | rfl | simp [lv_args, rf_cat, cat_i, cat_l]) ?_
  intro X B
  obtain rfl := B.2.1
  obtain rfl := B.2.2.1
  exact tX8_often N h x1 x2 B hf
