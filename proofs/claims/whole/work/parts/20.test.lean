def fX8_within_b15 (N : Nat) (h : pH) (xs0 : Int32) : Option (Int32 × pH) :=
  if xs0 = 0 ∨ xs0 = 1 then (some (xs0, h)) else none
set_option maxRecDepth 100000 in
set_option maxHeartbeats 4000000 in
theorem tX8_within_b15 {X : Xt} {v : Int32} {h' : pH} (N : Nat) (h : pH) (xs0 : Int32) (B : Bd (lo X) (qo X) cX8_within RX8 3 (some .boolean) 0 0 (some (.int v)) h' X) (hf : fX8_within_b15 N h xs0 = some (v, h')) : Wx X 3 15 [] [.int xs0] h := by
  have C := B.1
  unfold fX8_within_b15 at hf
  obtain ⟨g1, hf⟩ := ife hf
  cases hf
  exact B.2.2.2.2.2.1 _ _ rfl rfl (nrB g1) _ _ dX8_within_15
def fX8_within_b14 (N : Nat) (h : pH)  : Option (Int32 × pH) :=
  fX8_within_b15 N h 0
set_option maxRecDepth 100000 in
set_option maxHeartbeats 4000000 in
theorem tX8_within_b14 {X : Xt} {v : Int32} {h' : pH} (N : Nat) (h : pH)  (B : Bd (lo X) (qo X) cX8_within RX8 3 (some .boolean) 0 0 (some (.int v)) h' X) (hf : fX8_within_b14 N h  = some (v, h')) : Wx X 3 14 [] [] h := by
  have C := B.1
  unfold fX8_within_b14 at hf
  refine x_iconst (v := 0) C dX8_within_14 (by decide) ?_
  exact tX8_within_b15 N h 0 B hf
def fX8_within (N : Nat) (h : pH) (x0 : Int32) (x1 : Int32) (x2 : Int32) : Option (Int32 × pH) :=
  if x0 < x1 then (fX8_within_b14 N h) else (if x2 < x0 then (fX8_within_b14 N h) else (fX8_within_b15 N h 1))
set_option maxRecDepth 100000 in
set_option maxHeartbeats 4000000 in
theorem tX8_within {X : Xt} {v : Int32} {h' : pH} (N : Nat) (h : pH) (x0 : Int32) (x1 : Int32) (x2 : Int32) (B : Bd (lo X) (qo X) cX8_within RX8 3 (some .boolean) 0 0 (some (.int v)) h' X) (hf : fX8_within N h x0 x1 x2 = some (v, h')) : Wx X 3 0 [(0, .int x0), (1, .int x1), (2, .int x2)] [] h := by
  have C := B.1
  unfold fX8_within at hf
  refine x_iload_n (i := 0) 0 C dX8_within_0 rfl rfl ?_
  refine x_iload_n (i := 1) 1 C dX8_within_1 rfl rfl ?_
  refine x_icmp_lt (tgt := 14) C dX8_within_2 (by decide) (fun c => ?_) (fun c => ?_)
  · rw [if_pos c] at hf
    refine x_lv [] rfl ?_
    exact tX8_within_b14 N h B hf
  · rw [if_neg c] at hf
    refine x_iload_n (i := 0) 0 C dX8_within_5 rfl rfl ?_
    refine x_iload_n (i := 2) 2 C dX8_within_6 rfl rfl ?_
    refine x_icmp_gt (tgt := 14) C dX8_within_7 (by decide) (fun c => ?_) (fun c => ?_)
    · rw [if_pos c] at hf
      refine x_lv [] rfl ?_
      exact tX8_within_b14 N h B hf
    · rw [if_neg c] at hf
      refine x_iconst (v := 1) C dX8_within_10 (by decide) ?_
      refine x_goto (tgt := 15) C dX8_within_11 (by decide) ?_
      refine x_lv [] rfl ?_
      exact tX8_within_b15 N h 1 B hf
theorem ctX8_within (l : Launch) (q : Nat → Nat) (N : Nat) (h : pH) (x0 : Int32) (x1 : Int32) (x2 : Int32) (v : Int32) (h' : pH) (hf : fX8_within N h x0 x1 x2 = some (v, h')) : Ctr l q yX8_within cX8_within 3 (some .boolean) 0 0 [.int x0, .int x1, .int x2] h h' (some (.int v)) := by
  refine ct_of (own := RX8) (lv := [(0, .int x0), (1, .int x1), (2, .int x2)]) (by decide +kernel) rfl (by simp [lg_sl, rf_cat, cat_i, cat_l]) (by first | rfl | simp [lv_args, rf_cat, cat_i, cat_l]) ?_
  intro X B
  obtain rfl := B.2.1
  obtain rfl := B.2.2.1
  exact tX8_within N h x0 x1 x2 B hf
def fJ9_floorMod_7cf53_b18 (N : Nat) (h : pH) (x2 : Int32) : Option (Int32 × pH) :=
  some (x2, h)
set_option maxRecDepth 100000 in
set_option maxHeartbeats 4000000 in
theorem tJ9_floorMod_7cf53_b18 {X : Xt} {v : Int32} {h' : pH} (N : Nat) (h : pH) (x2 : Int32) (B : Bd (lo X) (qo X) cJ9_floorMod_7cf53 RJ9 3 (some .int) 0 0 (some (.int v)) h' X) (hf : fJ9_floorMod_7cf53_b18 N h x2 = some (v, h')) : Wx X 3 18 [(2, .int x2)] [] h := by
  have C := B.1
  unfold fJ9_floorMod_7cf53_b18 at hf
  refine x_iload_n (i := 2) 0 C dJ9_floorMod_7cf53_18 rfl rfl ?_
  cases hf
  exact B.2.2.2.2.2.1 _ _ rfl rfl rfl _ _ dJ9_floorMod_7cf53_19
def fJ9_floorMod_7cf53 (N : Nat) (h : pH) (x0 : Int32) (x1 : Int32) : Option (Int32 × pH) :=
  if ¬ x1 = 0 then (if 0 ≤ (x0 ^^^ x1) then (fJ9_floorMod_7cf53_b18 N h (x0 - x0 / x1 * x1)) else (if (x0 - x0 / x1 * x1) = 0 then (fJ9_floorMod_7cf53_b18 N h (x0 - x0 / x1 * x1)) else (some ((x0 - x0 / x1 * x1) + x1, h)))) else none
set_option maxRecDepth 100000 in
set_option maxHeartbeats 4000000 in
theorem tJ9_floorMod_7cf53 {X : Xt} {v : Int32} {h' : pH} (N : Nat) (h : pH) (x0 : Int32) (x1 : Int32) (B : Bd (lo X) (qo X) cJ9_floorMod_7cf53 RJ9 3 (some .int) 0 0 (some (.int v)) h' X) (hf : fJ9_floorMod_7cf53 N h x0 x1 = some (v, h')) : Wx X 3 0 [(0, .int x0), (1, .int x1)] [] h := by
  have C := B.1
  unfold fJ9_floorMod_7cf53 at hf
  refine x_iload_n (i := 0) 0 C dJ9_floorMod_7cf53_0 rfl rfl ?_
  refine x_iload_n (i := 1) 1 C dJ9_floorMod_7cf53_1 rfl rfl ?_
  obtain ⟨g1, hf⟩ := ife hf
  refine x_irem C dJ9_floorMod_7cf53_2 g1 ?_
  refine x_istore_n (i := 2) (lv' := [(2, .int (x0 - x0 / x1 * x1)), (0, .int x0), (1, .int x1)]) C dJ9_floorMod_7cf53_3 rfl (by decide) rfl ?_
  refine x_iload_n (i := 0) 1 C dJ9_floorMod_7cf53_4 rfl rfl ?_
  refine x_iload_n (i := 1) 2 C dJ9_floorMod_7cf53_5 rfl rfl ?_
  refine x_ixor C dJ9_floorMod_7cf53_6 ?_
  refine x_if_ge (tgt := 18) C dJ9_floorMod_7cf53_7 (by decide) (fun c => ?_) (fun c => ?_)
  · rw [if_pos c] at hf
    refine x_lv [0] rfl ?_
    exact tJ9_floorMod_7cf53_b18 N h (x0 - x0 / x1 * x1) B hf
  · rw [if_neg c] at hf
    refine x_iload_n (i := 2) 0 C dJ9_floorMod_7cf53_10 rfl rfl ?_
    refine x_if_eq (tgt := 18) C dJ9_floorMod_7cf53_11 (by decide) (fun c => ?_) (fun c => ?_)
    · rw [if_pos c] at hf
      refine x_lv [0] rfl ?_
      exact tJ9_floorMod_7cf53_b18 N h (x0 - x0 / x1 * x1) B hf
    · rw [if_neg c] at hf
      refine x_iload_n (i := 2) 0 C dJ9_floorMod_7cf53_14 rfl rfl ?_
      refine x_iload_n (i := 1) 2 C dJ9_floorMod_7cf53_15 rfl rfl ?_
      refine x_iadd C dJ9_floorMod_7cf53_16 ?_
      cases hf
      exact B.2.2.2.2.2.1 _ _ rfl rfl rfl _ _ dJ9_floorMod_7cf53_17
theorem ctJ9_floorMod_7cf53 (l : Launch) (q : Nat → Nat) (N : Nat) (h : pH) (x0 : Int32) (x1 : Int32) (v : Int32) (h' : pH) (hf : fJ9_floorMod_7cf53 N h x0 x1 = some (v, h')) : Ctr l q yJ9_floorMod_7cf53 cJ9_floorMod_7cf53 3 (some .int) 0 0 [.int x0, .int x1] h h' (some (.int v)) := by
  refine ct_of (own := RJ9) (lv := [(0, .int x0), (1, .int x1)]) (by decide +kernel) rfl (by simp [lg_sl, rf_cat, cat_i, cat_l]) (by first | rfl | simp [lv_args, rf_cat, cat_i, cat_l]) ?_
  intro X B
  obtain rfl := B.2.1
  obtain rfl := B.2.2.1
  exact tJ9_floorMod_7cf53 N h x0 x1 B hf
def fX2_at_b24 (N : Nat) (h : pH) (rs0 : Nat) : Option (Nat × pH) :=
  some (rs0, h)
set_option maxRecDepth 100000 in
set_option maxHeartbeats 4000000 in
theorem tX2_at_b24 {X : Xt} {v : Nat} {h' : pH} (N : Nat) (h : pH) (rs0 : Nat) (B : Bd (lo X) (qo X) cX2_at RX2 2 (some (.object "MiddlePlank$Crosser")) 1 22 (some (rf (qo X) v)) h' X) (hf : fX2_at_b24 N h rs0 = some (v, h')) : Wx X 2 24 [] [rf (qo X) rs0] h := by
  have C := B.1
  unfold fX2_at_b24 at hf
  cases hf
  exact B.2.2.2.2.2.2.2.1 _ _ rfl rfl _ _ dX2_at_24
def fX2_at (N : Nat) (h : pH) (x1 : Int32) : Option (Nat × pH) :=
  (fX8_within N h x1 0 ((h.1 14 1) - 1)).bind fun z1 => (if z1.1 = 0 then (fX2_at_b24 N z1.2 0) else (if ix x1 8 = true then (fX2_at_b24 N z1.2 (aE 15 x1.toNatClampNeg)) else none))
set_option maxRecDepth 100000 in
set_option maxHeartbeats 4000000 in
theorem tX2_at {X : Xt} {v : Nat} {h' : pH} (N : Nat) (h : pH) (x1 : Int32) (B : Bd (lo X) (qo X) cX2_at RX2 2 (some (.object "MiddlePlank$Crosser")) 1 22 (some (rf (qo X) v)) h' X) (hf : fX2_at N h x1 = some (v, h')) : Wx X 2 0 [(0, rf (qo X) 14), (1, .int x1)] [] h := by
  have C := B.1
  unfold fX2_at at hf
  refine x_iload_n (i := 1) 1 C dX2_at_0 rfl rfl ?_
  refine x_iconst (v := 0) C dX2_at_1 (by decide) ?_
  refine x_aload_n (i := 0) 0 C dX2_at_2 rfl rfl ?_
  refine x_getI (r := 14) C dX2_at_3 kfX2_24 rfl ?_
  refine x_iconst (v := 1) C dX2_at_6 (by decide) ?_
  refine x_isub C dX2_at_7 ?_
  obtain ⟨z1, e1, hf⟩ := bnd hf
  refine x_callS (As := [.int x1, .int 0, .int ((h.1 14 1) - 1)]) (rest := []) C dX2_at_8 kmX2_32 miX8_within (ctX8_within (lo X) (qo X) N h x1 0 ((h.1 14 1) - 1) z1.1 z1.2 e1) rfl rfl ⟨Nat.le_trans (by decide) B.2.2.2.1, Nat.le_trans (by decide) B.2.2.2.2.1⟩ (by simp [cat_i, cat_l, rf_cat]) ?_
  refine x_if_eq (tgt := 23) C dX2_at_11 (by decide) (fun c => ?_) (fun c => ?_)
  · rw [if_pos c] at hf
    refine x_null C dX2_at_23 ?_
    refine x_lv [] rfl ?_
    exact tX2_at_b24 N z1.2 0 B hf
  · rw [if_neg c] at hf
    refine x_aload_n (i := 0) 0 C dX2_at_14 rfl rfl ?_
    refine x_getR (r := 14) (r2 := 15) C dX2_at_15 kfX2_11 rfl rfl (by decide) ?_
    refine x_iload_n (i := 1) 1 C dX2_at_18 rfl rfl ?_
    obtain ⟨g1, hf⟩ := ife hf
    refine x_aald5 (r := 15) C dX2_at_19 rfl g1 ?_
    refine x_goto (tgt := 24) C dX2_at_20 (by decide) ?_
    refine x_lv [] rfl ?_
    exact tX2_at_b24 N z1.2 (aE 15 x1.toNatClampNeg) B hf
theorem ctX2_at (l : Launch) (q : Nat → Nat) (N : Nat) (h : pH) (x1 : Int32) (v : Nat) (h' : pH) (hf : fX2_at N h x1 = some (v, h')) : Ctr l q yX2_at cX2_at 2 (some (.object "MiddlePlank$Crosser")) 1 22 [rf q 14, .int x1] h h' (some (rf q v)) := by
  refine ct_of (own := RX2) (lv := [(0, rf q 14), (1, .int x1)]) (by decide +kernel) rfl (by simp [lg_sl, rf_cat, cat_i, cat_l]) (by first | rfl | simp [lv_args, rf_cat, cat_i, cat_l]) ?_
  intro X B
  obtain rfl := B.2.1
  obtain rfl := B.2.2.1
  exact tX2_at N h x1 B hf
def fX7_isFull_b17 (N : Nat) (h : pH) (xs0 : Int32) : Option (Int32 × pH) :=
  if xs0 = 0 ∨ xs0 = 1 then (some (xs0, h)) else none
set_option maxRecDepth 100000 in
set_option maxHeartbeats 4000000 in
theorem tX7_isFull_b17 {X : Xt} {v : Int32} {h' : pH} (N : Nat) (h : pH) (xs0 : Int32) (B : Bd (lo X) (qo X) cX7_isFull RX7 1 (some .boolean) 0 0 (some (.int v)) h' X) (hf : fX7_isFull_b17 N h xs0 = some (v, h')) : Wx X 1 17 [] [.int xs0] h := by
  have C := B.1
  unfold fX7_isFull_b17 at hf
  obtain ⟨g1, hf⟩ := ife hf
  cases hf
  exact B.2.2.2.2.2.1 _ _ rfl rfl (nrB g1) _ _ dX7_isFull_17
def fX7_isFull (N : Nat) (h : pH) (r0 : Nat) : Option (Int32 × pH) :=
  if fI 7 1 r0 = true then (if isO 7 r0 = true ∧ ¬ fR r0 0 = 0 then (if aK (fR r0 0) = 0 then (if (h.1 r0 1) < (Int32.ofNat (aN (fR r0 0))) then (fX7_isFull_b17 N h 0) else (fX7_isFull_b17 N h 1)) else none) else none) else none
set_option maxRecDepth 100000 in
set_option maxHeartbeats 4000000 in
theorem tX7_isFull {X : Xt} {v : Int32} {h' : pH} (N : Nat) (h : pH) (r0 : Nat) (B : Bd (lo X) (qo X) cX7_isFull RX7 1 (some .boolean) 0 0 (some (.int v)) h' X) (hf : fX7_isFull N h r0 = some (v, h')) : Wx X 1 0 [(0, rf (qo X) r0)] [] h := by
  have C := B.1
  unfold fX7_isFull at hf
  refine x_aload_n (i := 0) 0 C dX7_isFull_0 rfl rfl ?_
  obtain ⟨g1, hf⟩ := ife hf
  refine x_getI (r := r0) C dX7_isFull_1 kfX7_21 g1 ?_
  refine x_aload_n (i := 0) 0 C dX7_isFull_4 rfl rfl ?_
  obtain ⟨g2, hf⟩ := ife hf
  refine x_getR (r := r0) C dX7_isFull_5 kfX7_15 g2.1 rfl g2.2 ?_
  obtain ⟨g3, hf⟩ := ife hf
  refine x_alen0 (r := (fR r0 0)) C dX7_isFull_8 g3 rfl ?_
  refine x_icmp_lt (tgt := 16) C dX7_isFull_9 (by decide) (fun c => ?_) (fun c => ?_)
  · rw [if_pos c] at hf
    refine x_iconst (v := 0) C dX7_isFull_16 (by decide) ?_
    refine x_lv [] rfl ?_
    exact tX7_isFull_b17 N h 0 B hf
  · rw [if_neg c] at hf
    refine x_iconst (v := 1) C dX7_isFull_12 (by decide) ?_
    refine x_goto (tgt := 17) C dX7_isFull_13 (by decide) ?_
    refine x_lv [] rfl ?_
    exact tX7_isFull_b17 N h 1 B hf
theorem ctX7_isFull (l : Launch) (q : Nat → Nat) (N : Nat) (h : pH) (r0 : Nat) (v : Int32) (h' : pH) (hf : fX7_isFull N h r0 = some (v, h')) : Ctr l q yX7_isFull cX7_isFull 1 (some .boolean) 0 0 [rf q r0] h h' (some (.int v)) := by
  refine ct_of (own := RX7) (lv := [(0, rf q r0)]) (by decide +kernel) rfl (by simp [lg_sl, rf_cat, cat_i, cat_l]) (by first | rfl | simp [lv_args, rf_cat, cat_i, cat_l]) ?_
  intro X B
  obtain rfl := B.2.1
  obtain rfl := B.2.2.1
  exact tX7_isFull N h r0 B hf
def fX7_append_b27 (N : Nat) (h : pH)  : Option (Unit × pH) :=
  some ((), h)
set_option maxRecDepth 100000 in
set_option maxHeartbeats 4000000 in
theorem tX7_append_b27 {X : Xt} {v : Unit} {h' : pH} (N : Nat) (h : pH)  (B : Bd (lo X) (qo X) cX7_append RX7 2 none 1 20 none h' X) (hf : fX7_append_b27 N h  = some (v, h')) : Wx X 2 27 [] [] h := by
  have C := B.1
  unfold fX7_append_b27 at hf
  cases hf
  exact B.2.2.2.2.2.2.2.2.2 rfl rfl _ _ dX7_append_27
def fX7_append (N : Nat) (h : pH) (r0 : Nat) (x1 : Int32) : Option (Unit × pH) :=
  if isO 7 r0 = true then ((fX7_isFull N h r0).bind fun z1 => (if z1.1 = 0 then (if isO 7 r0 = true ∧ ¬ fR r0 0 = 0 then (if fI 7 1 r0 = true then (if aK (fR r0 0) = 0 ∧ ix (z1.2.1 r0 1) (aN (fR r0 0)) = true then (if fI 7 1 r0 = true then (if fI 7 1 r0 = true then (fX7_append_b27 N (pw (pw z1.2 (fR r0 0) (z1.2.1 r0 1).toNatClampNeg x1) r0 1 (((pw z1.2 (fR r0 0) (z1.2.1 r0 1).toNatClampNeg x1).1 r0 1) + 1))) else none) else none) else none) else none) else none) else (fX7_append_b27 N z1.2))) else none
set_option maxRecDepth 100000 in
set_option maxHeartbeats 4000000 in
theorem tX7_append {X : Xt} {v : Unit} {h' : pH} (N : Nat) (h : pH) (r0 : Nat) (x1 : Int32) (B : Bd (lo X) (qo X) cX7_append RX7 2 none 1 20 none h' X) (hf : fX7_append N h r0 x1 = some (v, h')) : Wx X 2 0 [(0, rf (qo X) r0), (1, .int x1)] [] h := by
  have C := B.1
  unfold fX7_append at hf
  refine x_aload_n (i := 0) 0 C dX7_append_0 rfl rfl ?_
  obtain ⟨g1, hf⟩ := ife hf
  obtain ⟨z1, e1, hf⟩ := bnd hf
  refine x_callV (r := r0) (As := []) (rest := []) C dX7_append_1 kmX7_25 miX7_isFull (ctX7_isFull (lo X) (qo X) N h r0 z1.1 z1.2 e1) rfl rfl ⟨Nat.le_trans (by decide) B.2.2.2.1, Nat.le_trans (by decide) B.2.2.2.2.1⟩ (by simp [cat_i, cat_l, rf_cat]) g1 ?_
  refine x_if_ne (tgt := 27) C dX7_append_4 (by decide) (fun c => ?_) (fun c => ?_)
  · rw [if_neg c] at hf
    refine x_lv [] rfl ?_
    exact tX7_append_b27 N z1.2 B hf
  · rw [if_pos c] at hf
    refine x_aload_n (i := 0) 0 C dX7_append_7 rfl rfl ?_
    obtain ⟨g2, hf⟩ := ife hf
    refine x_getR (r := r0) C dX7_append_8 kfX7_15 g2.1 rfl g2.2 ?_
    refine x_aload_n (i := 0) 0 C dX7_append_11 rfl rfl ?_
    obtain ⟨g3, hf⟩ := ife hf
    refine x_getI (r := r0) C dX7_append_12 kfX7_21 g3 ?_
    refine x_iload_n (i := 1) 1 C dX7_append_15 rfl rfl ?_
    obtain ⟨g4, hf⟩ := ife hf
    refine x_iast (r := (fR r0 0)) C dX7_append_16 g4.1 g4.2 ?_
    refine x_aload_n (i := 0) 0 C dX7_append_17 rfl rfl ?_
    refine x_dupA C dX7_append_18 ?_
    obtain ⟨g5, hf⟩ := ife hf
    refine x_getI (r := r0) C dX7_append_19 kfX7_21 g5 ?_
    refine x_iconst (v := 1) C dX7_append_22 (by decide) ?_
    refine x_iadd C dX7_append_23 ?_
    obtain ⟨g6, hf⟩ := ife hf
    refine x_putI (r := r0) C dX7_append_24 kfX7_21 g6 rfl rfl ?_
    refine x_lv [] rfl ?_
    exact tX7_append_b27 N (pw (pw z1.2 (fR r0 0) (z1.2.1 r0 1).toNatClampNeg x1) r0 1 (((pw z1.2 (fR r0 0) (z1.2.1 r0 1).toNatClampNeg x1).1 r0 1) + 1)) B hf
theorem ctX7_append (l : Launch) (q : Nat → Nat) (N : Nat) (h : pH) (r0 : Nat) (x1 : Int32) (v : Unit) (h' : pH) (hf : fX7_append N h r0 x1 = some (v, h')) : Ctr l q yX7_append cX7_append 2 none 1 20 [rf q r0, .int x1] h h' none := by
  refine ct_of (own := RX7) (lv := [(0, rf q r0), (1, .int x1)]) (by decide +kernel) rfl (by simp [lg_sl, rf_cat, cat_i, cat_l]) (by first | rfl | simp [lv_args, rf_cat, cat_i, cat_l]) ?_
  intro X B
  obtain rfl := B.2.1
  obtain rfl := B.2.2.1
  exact tX7_append N h r0 x1 B hf
def fX8_textAt_b25 (N : Nat) (h : pH) (rs0 : Nat) : Option (Nat × pH) :=
  some (rs0, h)
set_option maxRecDepth 100000 in
set_option maxHeartbeats 4000000 in
theorem tX8_textAt_b25 {X : Xt} {v : Nat} {h' : pH} (N : Nat) (h : pH) (rs0 : Nat) (B : Bd (lo X) (qo X) cX8_textAt RX8 2 (some (.object "MiddlePlank$Text")) 1 22 (some (rf (qo X) v)) h' X) (hf : fX8_textAt_b25 N h rs0 = some (v, h')) : Wx X 2 25 [] [rf (qo X) rs0] h := by
  have C := B.1
  unfold fX8_textAt_b25 at hf
  cases hf
  exact B.2.2.2.2.2.2.2.1 _ _ rfl rfl _ _ dX8_textAt_25
def fX8_textAt (N : Nat) (h : pH) (x1 : Int32) : Option (Nat × pH) :=
  (fX8_within N h x1 0 (3 - 1)).bind fun z1 => (if z1.1 = 0 then (fX8_textAt_b25 N z1.2 0) else (if ix x1 3 = true then (fX8_textAt_b25 N z1.2 (aE 2 x1.toNatClampNeg)) else none))
set_option maxRecDepth 100000 in
set_option maxHeartbeats 4000000 in
theorem tX8_textAt {X : Xt} {v : Nat} {h' : pH} (N : Nat) (h : pH) (x1 : Int32) (B : Bd (lo X) (qo X) cX8_textAt RX8 2 (some (.object "MiddlePlank$Text")) 1 22 (some (rf (qo X) v)) h' X) (hf : fX8_textAt N h x1 = some (v, h')) : Wx X 2 0 [(0, rf (qo X) 1), (1, .int x1)] [] h := by
  have C := B.1
  unfold fX8_textAt at hf
  refine x_iload_n (i := 1) 1 C dX8_textAt_0 rfl rfl ?_
  refine x_iconst (v := 0) C dX8_textAt_1 (by decide) ?_
  refine x_aload_n (i := 0) 0 C dX8_textAt_2 rfl rfl ?_
  refine x_getR (r := 1) (r2 := 2) C dX8_textAt_3 kfX8_11 rfl rfl (by decide) ?_
  refine x_alen4 (r := 2) (v := 3) C dX8_textAt_6 rfl rfl ?_
  refine x_iconst (v := 1) C dX8_textAt_7 (by decide) ?_
  refine x_isub C dX8_textAt_8 ?_
  obtain ⟨z1, e1, hf⟩ := bnd hf
  refine x_callS (As := [.int x1, .int 0, .int (3 - 1)]) (rest := []) C dX8_textAt_9 kmX8_91 miX8_within (ctX8_within (lo X) (qo X) N h x1 0 (3 - 1) z1.1 z1.2 e1) rfl rfl ⟨Nat.le_trans (by decide) B.2.2.2.1, Nat.le_trans (by decide) B.2.2.2.2.1⟩ (by simp [cat_i, cat_l, rf_cat]) ?_
  refine x_if_eq (tgt := 24) C dX8_textAt_12 (by decide) (fun c => ?_) (fun c => ?_)
  · rw [if_pos c] at hf
    refine x_null C dX8_textAt_24 ?_
    refine x_lv [] rfl ?_
    exact tX8_textAt_b25 N z1.2 0 B hf
  · rw [if_neg c] at hf
    refine x_aload_n (i := 0) 0 C dX8_textAt_15 rfl rfl ?_
    refine x_getR (r := 1) (r2 := 2) C dX8_textAt_16 kfX8_11 rfl rfl (by decide) ?_
    refine x_iload_n (i := 1) 1 C dX8_textAt_19 rfl rfl ?_
    obtain ⟨g1, hf⟩ := ife hf
    refine x_aald4 (r := 2) C dX8_textAt_20 rfl g1 ?_
    refine x_goto (tgt := 25) C dX8_textAt_21 (by decide) ?_
    refine x_lv [] rfl ?_
    exact tX8_textAt_b25 N z1.2 (aE 2 x1.toNatClampNeg) B hf
theorem ctX8_textAt (l : Launch) (q : Nat → Nat) (N : Nat) (h : pH) (x1 : Int32) (v : Nat) (h' : pH) (hf : fX8_textAt N h x1 = some (v, h')) : Ctr l q yX8_textAt cX8_textAt 2 (some (.object "MiddlePlank$Text")) 1 22 [rf q 1, .int x1] h h' (some (rf q v)) := by
  refine ct_of (own := RX8) (lv := [(0, rf q 1), (1, .int x1)]) (by decide +kernel) rfl (by simp [lg_sl, rf_cat, cat_i, cat_l]) (by first | rfl | simp [lv_args, rf_cat, cat_i, cat_l]) ?_
  intro X B
  obtain rfl := B.2.1
  obtain rfl := B.2.2.1
  exact tX8_textAt N h x1 B hf
def fX8_type_b21 (N : Nat) (h : pH)  : Option (Int32 × pH) :=
  some ((-2), h)
set_option maxRecDepth 100000 in
set_option maxHeartbeats 4000000 in
theorem tX8_type_b21 {X : Xt} {v : Int32} {h' : pH} (N : Nat) (h : pH)  (B : Bd (lo X) (qo X) cX8_type RX8 4 (some .int) 2 43 (some (.int v)) h' X) (hf : fX8_type_b21 N h  = some (v, h')) : Wx X 4 21 [] [] h := by
  have C := B.1
  unfold fX8_type_b21 at hf
  refine x_bipush (v := (-2)) C dX8_type_21 (by decide) ?_
  cases hf
  exact B.2.2.2.2.2.1 _ _ rfl rfl rfl _ _ dX8_type_23
def fX8_type (N : Nat) (h : pH) (x1 : Int32) (x2 : Int32) : Option (Int32 × pH) :=
  (fX8_textAt N h x1).bind fun z1 => (if z1.1 = 0 then (fX8_type_b21 N z1.2) else ((fX8_within N z1.2 x2 0 255).bind fun z2 => (if z2.1 = 0 then (fX8_type_b21 N z2.2) else (if isO 7 z1.1 = true then ((fX7_isFull N z2.2 z1.1).bind fun z3 => (if z3.1 = 0 then (if isO 7 z1.1 = true then ((fX7_append N z3.2 z1.1 x2).bind fun z4 => (if fI 7 1 z1.1 = true then (some ((pw z4.2 1 14 1).1 z1.1 1, (pw z4.2 1 14 1))) else none)) else none) else (some ((-4), z3.2)))) else none))))
set_option maxRecDepth 100000 in
set_option maxHeartbeats 4000000 in
theorem tX8_type {X : Xt} {v : Int32} {h' : pH} (N : Nat) (h : pH) (x1 : Int32) (x2 : Int32) (B : Bd (lo X) (qo X) cX8_type RX8 4 (some .int) 2 43 (some (.int v)) h' X) (hf : fX8_type N h x1 x2 = some (v, h')) : Wx X 4 0 [(0, rf (qo X) 1), (1, .int x1), (2, .int x2)] [] h := by
  have C := B.1
  unfold fX8_type at hf
  refine x_aload_n (i := 0) 0 C dX8_type_0 rfl rfl ?_
  refine x_iload_n (i := 1) 1 C dX8_type_1 rfl rfl ?_
  obtain ⟨z1, e1, hf⟩ := bnd hf
  refine x_callV (r := 1) (As := [.int x1]) (rest := []) C dX8_type_2 kmX8_87 miX8_textAt (ctX8_textAt (lo X) (qo X) N h x1 z1.1 z1.2 e1) rfl rfl ⟨Nat.le_trans (by decide) B.2.2.2.1, Nat.le_trans (by decide) B.2.2.2.2.1⟩ (by simp [cat_i, cat_l, rf_cat]) rfl ?_
  refine x_astore_n (i := 3) (lv' := [(3, rf (qo X) z1.1), (0, rf (qo X) 1), (1, .int x1), (2, .int x2)]) C dX8_type_5 rfl (by decide) rfl ?_
  refine x_aload_n (i := 3) 0 C dX8_type_6 rfl rfl ?_
  refine x_ifnull (tgt := 21) C dX8_type_7 (by decide) (fun c => ?_) (fun c => ?_)
  · rw [if_pos c] at hf
    refine x_lv [] rfl ?_
    exact tX8_type_b21 N z1.2 B hf
  · rw [if_neg c] at hf
    refine x_iload_n (i := 2) 3 C dX8_type_10 rfl rfl ?_
    refine x_iconst (v := 0) C dX8_type_11 (by decide) ?_
    refine x_sipush (v := 255) C dX8_type_12 (by decide) ?_
    obtain ⟨z2, e2, hf⟩ := bnd hf
    refine x_callS (As := [.int x2, .int 0, .int 255]) (rest := []) C dX8_type_15 kmX8_91 miX8_within (ctX8_within (lo X) (qo X) N z1.2 x2 0 255 z2.1 z2.2 e2) rfl rfl ⟨Nat.le_trans (by decide) B.2.2.2.1, Nat.le_trans (by decide) B.2.2.2.2.1⟩ (by simp [cat_i, cat_l, rf_cat]) ?_
    refine x_if_ne (tgt := 24) C dX8_type_18 (by decide) (fun c => ?_) (fun c => ?_)
    · rw [if_neg c] at hf
      refine x_aload_n (i := 3) 0 C dX8_type_24 rfl rfl ?_
      obtain ⟨g1, hf⟩ := ife hf
      obtain ⟨z3, e3, hf⟩ := bnd hf
      refine x_callV (r := z1.1) (As := []) (rest := []) C dX8_type_25 kmX8_95 miX7_isFull (ctX7_isFull (lo X) (qo X) N z2.2 z1.1 z3.1 z3.2 e3) rfl rfl ⟨Nat.le_trans (by decide) B.2.2.2.1, Nat.le_trans (by decide) B.2.2.2.2.1⟩ (by simp [cat_i, cat_l, rf_cat]) g1 ?_
      refine x_if_eq (tgt := 34) C dX8_type_28 (by decide) (fun c => ?_) (fun c => ?_)
      · rw [if_pos c] at hf
        refine x_aload_n (i := 3) 0 C dX8_type_34 rfl rfl ?_
        refine x_iload_n (i := 2) 3 C dX8_type_35 rfl rfl ?_
        obtain ⟨g2, hf⟩ := ife hf
        obtain ⟨z4, e4, hf⟩ := bnd hf
        refine x_callV (r := z1.1) (As := [.int x2]) (rest := []) C dX8_type_36 kmX8_99 miX7_append (ctX7_append (lo X) (qo X) N z3.2 z1.1 x2 z4.1 z4.2 e4) rfl rfl ⟨Nat.le_trans (by decide) B.2.2.2.1, Nat.le_trans (by decide) B.2.2.2.2.1⟩ (by simp [cat_i, cat_l, rf_cat]) g2 ?_
        refine x_aload_n (i := 0) 1 C dX8_type_39 rfl rfl ?_
        refine x_iconst (v := 1) C dX8_type_40 (by decide) ?_
        refine x_putI (r := 1) C dX8_type_41 kfX8_76 rfl rfl rfl ?_
        refine x_aload_n (i := 3) 0 C dX8_type_44 rfl rfl ?_
        obtain ⟨g3, hf⟩ := ife hf
        refine x_getI (r := z1.1) C dX8_type_45 kfX8_102 g3 ?_
        cases hf
        exact B.2.2.2.2.2.1 _ _ rfl rfl rfl _ _ dX8_type_48
      · rw [if_neg c] at hf
        refine x_bipush (v := (-4)) C dX8_type_31 (by decide) ?_
        cases hf
        exact B.2.2.2.2.2.1 _ _ rfl rfl rfl _ _ dX8_type_33
    · rw [if_pos c] at hf
      refine x_lv [] rfl ?_
      exact tX8_type_b21 N z2.2 B hf
theorem ctX8_type (l : Launch) (q : Nat → Nat) (N : Nat) (h : pH) (x1 : Int32) (x2 : Int32) (v : Int32) (h' : pH) (hf : fX8_type N h x1 x2 = some (v, h')) : Ctr l q yX8_type cX8_type 4 (some .int) 2 43 [rf q 1, .int x1, .int x2] h h' (some (.int v)) := by
  refine ct_of (own := RX8) (lv := [(0, rf q 1), (1, .int x1), (2, .int x2)]) (by decide +kernel) rfl (by simp [lg_sl, rf_cat, cat_i, cat_l]) (by first | rfl | simp [lv_args, rf_cat, cat_i, cat_l]) ?_
  intro X B
  obtain rfl := B.2.1
  obtain rfl := B.2.2.1
  exact tX8_type N h x1 x2 B hf
def fX8_crosser (N : Nat) (h : pH) (x1 : Int32) (x2 : Int32) : Option (Int32 × pH) :=
  (fX8_freshen N h).bind fun z1 => ((fX2_at N z1.2 x1).bind fun z2 => (if z2.1 = 0 then (some ((-2), z2.2)) else (if x2 = 0 then (if fI 1 0 z2.1 = true then (some (z2.2.1 z2.1 0, z2.2)) else none) else (if x2 = 1 then (if fI 1 1 z2.1 = true then (some (z2.2.1 z2.1 1, z2.2)) else none) else (if x2 = 2 then (if fI 1 3 z2.1 = true then (some (z2.2.1 z2.1 3, z2.2)) else none) else (if x2 = 3 then (if fI 1 4 z2.1 = true then (some (z2.2.1 z2.1 4, z2.2)) else none) else (some ((-2), z2.2))))))))
set_option maxRecDepth 100000 in
set_option maxHeartbeats 4000000 in
theorem tX8_crosser {X : Xt} {v : Int32} {h' : pH} (N : Nat) (h : pH) (x1 : Int32) (x2 : Int32) (B : Bd (lo X) (qo X) cX8_crosser RX8 4 (some .int) 4 96 (some (.int v)) h' X) (hf : fX8_crosser N h x1 x2 = some (v, h')) : Wx X 4 0 [(0, rf (qo X) 1), (1, .int x1), (2, .int x2)] [] h := by
  have C := B.1
  unfold fX8_crosser at hf
  refine x_aload_n (i := 0) 0 C dX8_crosser_0 rfl rfl ?_
  obtain ⟨z1, e1, hf⟩ := bnd hf
  refine x_callV (r := 1) (As := []) (rest := []) C dX8_crosser_1 kmX8_110 miX8_freshen (ctX8_freshen (lo X) (qo X) N h z1.1 z1.2 e1) rfl rfl ⟨Nat.le_trans (by decide) B.2.2.2.1, Nat.le_trans (by decide) B.2.2.2.2.1⟩ (by simp [cat_i, cat_l, rf_cat]) rfl ?_
  refine x_aload_n (i := 0) 0 C dX8_crosser_4 rfl rfl ?_
  refine x_getR (r := 1) (r2 := 14) C dX8_crosser_5 kfX8_25 rfl rfl (by decide) ?_
  refine x_iload_n (i := 1) 1 C dX8_crosser_8 rfl rfl ?_
  obtain ⟨z2, e2, hf⟩ := bnd hf
  refine x_callV (r := 14) (As := [.int x1]) (rest := []) C dX8_crosser_9 kmX8_120 miX2_at (ctX2_at (lo X) (qo X) N z1.2 x1 z2.1 z2.2 e2) rfl rfl ⟨Nat.le_trans (by decide) B.2.2.2.1, Nat.le_trans (by decide) B.2.2.2.2.1⟩ (by simp [cat_i, cat_l, rf_cat]) rfl ?_
  refine x_astore_n (i := 3) (lv' := [(3, rf (qo X) z2.1), (0, rf (qo X) 1), (1, .int x1), (2, .int x2)]) C dX8_crosser_12 rfl (by decide) rfl ?_
  refine x_aload_n (i := 3) 0 C dX8_crosser_13 rfl rfl ?_
  refine x_ifnonnull (tgt := 20) C dX8_crosser_14 (by decide) (fun c => ?_) (fun c => ?_)
  · rw [if_neg c] at hf
    refine x_iload_n (i := 2) 3 C dX8_crosser_20 rfl rfl ?_
    by_cases c0 : x2 = 0
    · rw [if_pos c0] at hf
      refine x_tabIn (w := 0) (tgt := 52) C dX8_crosser_21 c0 (by decide) (by decide) (by decide) (by decide) ?_
      refine x_aload_n (i := 3) 0 C dX8_crosser_52 rfl rfl ?_
      obtain ⟨g1, hf⟩ := ife hf
      refine x_getI (r := z2.1) C dX8_crosser_53 kfX8_124 g1 ?_
      cases hf
      exact B.2.2.2.2.2.1 _ _ rfl rfl rfl _ _ dX8_crosser_56
    rw [if_neg c0] at hf
    by_cases c1 : x2 = 1
    · rw [if_pos c1] at hf
      refine x_tabIn (w := 1) (tgt := 57) C dX8_crosser_21 c1 (by decide) (by decide) (by decide) (by decide) ?_
      refine x_aload_n (i := 3) 0 C dX8_crosser_57 rfl rfl ?_
      obtain ⟨g2, hf⟩ := ife hf
      refine x_getI (r := z2.1) C dX8_crosser_58 kfX8_129 g2 ?_
      cases hf
      exact B.2.2.2.2.2.1 _ _ rfl rfl rfl _ _ dX8_crosser_61
    rw [if_neg c1] at hf
    by_cases c2 : x2 = 2
    · rw [if_pos c2] at hf
      refine x_tabIn (w := 2) (tgt := 62) C dX8_crosser_21 c2 (by decide) (by decide) (by decide) (by decide) ?_
      refine x_aload_n (i := 3) 0 C dX8_crosser_62 rfl rfl ?_
      obtain ⟨g3, hf⟩ := ife hf
      refine x_getI (r := z2.1) C dX8_crosser_63 kfX8_132 g3 ?_
      cases hf
      exact B.2.2.2.2.2.1 _ _ rfl rfl rfl _ _ dX8_crosser_66
    rw [if_neg c2] at hf
    by_cases c3 : x2 = 3
    · rw [if_pos c3] at hf
      refine x_tabIn (w := 3) (tgt := 67) C dX8_crosser_21 c3 (by decide) (by decide) (by decide) (by decide) ?_
      refine x_aload_n (i := 3) 0 C dX8_crosser_67 rfl rfl ?_
      obtain ⟨g4, hf⟩ := ife hf
      refine x_getI (r := z2.1) C dX8_crosser_68 kfX8_135 g4 ?_
      cases hf
      exact B.2.2.2.2.2.1 _ _ rfl rfl rfl _ _ dX8_crosser_71
    rw [if_neg c3] at hf
    refine x_tabOut (n := 4) (tgt := 72) C dX8_crosser_21 (fun i hi => match i, hi with | 0, _ => c0 | 1, _ => c1 | 2, _ => c2 | 3, _ => c3 | i + 4, hi => absurd hi (by omega)) (by decide) ?_
    refine x_bipush (v := (-2)) C dX8_crosser_72 (by decide) ?_
    cases hf
    exact B.2.2.2.2.2.1 _ _ rfl rfl rfl _ _ dX8_crosser_74
  · rw [if_pos c] at hf
    refine x_bipush (v := (-2)) C dX8_crosser_17 (by decide) ?_
    cases hf
    exact B.2.2.2.2.2.1 _ _ rfl rfl rfl _ _ dX8_crosser_19
theorem ctX8_crosser (l : Launch) (q : Nat → Nat) (N : Nat) (h : pH) (x1 : Int32) (x2 : Int32) (v : Int32) (h' : pH) (hf : fX8_crosser N h x1 x2 = some (v, h')) : Ctr l q yX8_crosser cX8_crosser 4 (some .int) 4 96 [rf q 1, .int x1, .int x2] h h' (some (.int v)) := by
  refine ct_of (own := RX8) (lv := [(0, rf q 1), (1, .int x1), (2, .int x2)]) (by decide +kernel) rfl (by simp [lg_sl, rf_cat, cat_i, cat_l]) (by first | rfl | simp [lv_args, rf_cat, cat_i, cat_l]) ?_
  intro X B
  obtain rfl := B.2.1
  obtain rfl := B.2.2.1
  exact tX8_crosser N h x1 x2 B hf
def fX9_in_b18 (N : Nat) (h : pH) (xs0 : Int32) : Option (Int32 × pH) :=
  if xs0 = 0 ∨ xs0 = 1 then (some (xs0, h)) else none
set_option maxRecDepth 100000 in
set_option maxHeartbeats 4000000 in
theorem tX9_in_b18 {X : Xt} {v : Int32} {h' : pH} (N : Nat) (h : pH) (xs0 : Int32) (B : Bd (lo X) (qo X) cX9_in RX9 6 (some .boolean) 0 0 (some (.int v)) h' X) (hf : fX9_in_b18 N h xs0 = some (v, h')) : Wx X 6 18 [] [.int xs0] h := by
  have C := B.1
  unfold fX9_in_b18 at hf
  obtain ⟨g1, hf⟩ := ife hf
  cases hf
  exact B.2.2.2.2.2.1 _ _ rfl rfl (nrB g1) _ _ dX9_in_18
def fX9_in_b17 (N : Nat) (h : pH)  : Option (Int32 × pH) :=
  fX9_in_b18 N h 0
set_option maxRecDepth 100000 in
set_option maxHeartbeats 4000000 in
theorem tX9_in_b17 {X : Xt} {v : Int32} {h' : pH} (N : Nat) (h : pH)  (B : Bd (lo X) (qo X) cX9_in RX9 6 (some .boolean) 0 0 (some (.int v)) h' X) (hf : fX9_in_b17 N h  = some (v, h')) : Wx X 6 17 [] [] h := by
  have C := B.1
  unfold fX9_in_b17 at hf
  refine x_iconst (v := 0) C dX9_in_17 (by decide) ?_
  exact tX9_in_b18 N h 0 B hf
def fX9_in (N : Nat) (h : pH) (l0 : Int64) (l2 : Int64) (l4 : Int64) : Option (Int32 × pH) :=
  if (lg_cmp l0 l2) < 0 then (fX9_in_b17 N h) else (if 0 < (lg_cmp l0 l4) then (fX9_in_b17 N h) else (fX9_in_b18 N h 1))
set_option maxRecDepth 100000 in
set_option maxHeartbeats 4000000 in
theorem tX9_in {X : Xt} {v : Int32} {h' : pH} (N : Nat) (h : pH) (l0 : Int64) (l2 : Int64) (l4 : Int64) (B : Bd (lo X) (qo X) cX9_in RX9 6 (some .boolean) 0 0 (some (.int v)) h' X) (hf : fX9_in N h l0 l2 l4 = some (v, h')) : Wx X 6 0 [(0, .long l0), (2, .long l2), (4, .long l4)] [] h := by
  have C := B.1
  unfold fX9_in at hf
  refine x_lload_n (i := 0) 0 C dX9_in_0 rfl rfl ?_
  refine x_lload_n (i := 2) 1 C dX9_in_1 rfl rfl ?_
  refine x_lcmp C dX9_in_2 ?_
  refine x_if_lt (tgt := 17) C dX9_in_3 (by decide) (fun c => ?_) (fun c => ?_)
  · rw [if_pos c] at hf
    refine x_lv [] rfl ?_
    exact tX9_in_b17 N h B hf
  · rw [if_neg c] at hf
    refine x_lload_n (i := 0) 0 C dX9_in_6 rfl rfl ?_
    refine x_lload 2 C dX9_in_7 rfl ?_
    refine x_lcmp C dX9_in_9 ?_
    refine x_if_gt (tgt := 17) C dX9_in_10 (by decide) (fun c => ?_) (fun c => ?_)
    · rw [if_pos c] at hf
      refine x_lv [] rfl ?_
      exact tX9_in_b17 N h B hf
    · rw [if_neg c] at hf
      refine x_iconst (v := 1) C dX9_in_13 (by decide) ?_
      refine x_goto (tgt := 18) C dX9_in_14 (by decide) ?_
      refine x_lv [] rfl ?_
      exact tX9_in_b18 N h 1 B hf
theorem ctX9_in (l : Launch) (q : Nat → Nat) (N : Nat) (h : pH) (l0 : Int64) (l2 : Int64) (l4 : Int64) (v : Int32) (h' : pH) (hf : fX9_in N h l0 l2 l4 = some (v, h')) : Ctr l q yX9_in cX9_in 6 (some .boolean) 0 0 [.long l0, .long l2, .long l4] h h' (some (.int v)) := by
  refine ct_of (own := RX9) (lv := [(0, .long l0), (2, .long l2), (4, .long l4)]) (by decide +kernel) rfl (by simp [lg_sl, rf_cat, cat_i, cat_l]) (by first | rfl | simp [lv_args, rf_cat, cat_i, cat_l]) ?_
  intro X B
  obtain rfl := B.2.1
  obtain rfl := B.2.2.1
  exact tX9_in N h l0 l2 l4 B hf
def fX9_isTwo (N : Nat) (h : pH) (x0 : Int32) : Option (Int32 × pH) :=
  (fX9_in N h x0.toInt64 0 1).bind fun z1 => (if z1.1 = 0 ∨ z1.1 = 1 then (some (z1.1, z1.2)) else none)
set_option maxRecDepth 100000 in
set_option maxHeartbeats 4000000 in
theorem tX9_isTwo {X : Xt} {v : Int32} {h' : pH} (N : Nat) (h : pH) (x0 : Int32) (B : Bd (lo X) (qo X) cX9_isTwo RX9 1 (some .boolean) 1 25 (some (.int v)) h' X) (hf : fX9_isTwo N h x0 = some (v, h')) : Wx X 1 0 [(0, .int x0)] [] h := by
  have C := B.1
  unfold fX9_isTwo at hf
  refine x_iload_n (i := 0) 0 C dX9_isTwo_0 rfl rfl ?_
  refine x_i2l C dX9_isTwo_1 ?_
  refine x_lconst (v := 0) C dX9_isTwo_2 (by decide) ?_
  refine x_lconst (v := 1) C dX9_isTwo_3 (by decide) ?_
  obtain ⟨z1, e1, hf⟩ := bnd hf
  refine x_callS (As := [.long x0.toInt64, .long 0, .long 1]) (rest := []) C dX9_isTwo_4 kmX9_69 miX9_in (ctX9_in (lo X) (qo X) N h x0.toInt64 0 1 z1.1 z1.2 e1) rfl rfl ⟨Nat.le_trans (by decide) B.2.2.2.1, Nat.le_trans (by decide) B.2.2.2.2.1⟩ (by simp [cat_i, cat_l, rf_cat]) ?_
  obtain ⟨g1, hf⟩ := ife hf
  cases hf
  exact B.2.2.2.2.2.1 _ _ rfl rfl (nrB g1) _ _ dX9_isTwo_7
theorem ctX9_isTwo (l : Launch) (q : Nat → Nat) (N : Nat) (h : pH) (x0 : Int32) (v : Int32) (h' : pH) (hf : fX9_isTwo N h x0 = some (v, h')) : Ctr l q yX9_isTwo cX9_isTwo 1 (some .boolean) 1 25 [.int x0] h h' (some (.int v)) := by
  refine ct_of (own := RX9) (lv := [(0, .int x0)]) (by decide +kernel) rfl (by simp [lg_sl, rf_cat, cat_i, cat_l]) (by first | rfl | simp [lv_args, rf_cat, cat_i, cat_l]) ?_
  intro X B
  obtain rfl := B.2.1
  obtain rfl := B.2.2.1
  exact tX9_isTwo N h x0 B hf
def fX9_greater_b10 (N : Nat) (h : pH) (xs0 : Int32) : Option (Int32 × pH) :=
  some (xs0, h)
set_option maxRecDepth 100000 in
set_option maxHeartbeats 4000000 in
theorem tX9_greater_b10 {X : Xt} {v : Int32} {h' : pH} (N : Nat) (h : pH) (xs0 : Int32) (B : Bd (lo X) (qo X) cX9_greater RX9 2 (some .int) 0 0 (some (.int v)) h' X) (hf : fX9_greater_b10 N h xs0 = some (v, h')) : Wx X 2 10 [] [.int xs0] h := by
  have C := B.1
  unfold fX9_greater_b10 at hf
  cases hf
  exact B.2.2.2.2.2.1 _ _ rfl rfl rfl _ _ dX9_greater_10
def fX9_greater (N : Nat) (h : pH) (x0 : Int32) (x1 : Int32) : Option (Int32 × pH) :=
  if x0 ≤ x1 then (fX9_greater_b10 N h x1) else (fX9_greater_b10 N h x0)
set_option maxRecDepth 100000 in
set_option maxHeartbeats 4000000 in
theorem tX9_greater {X : Xt} {v : Int32} {h' : pH} (N : Nat) (h : pH) (x0 : Int32) (x1 : Int32) (B : Bd (lo X) (qo X) cX9_greater RX9 2 (some .int) 0 0 (some (.int v)) h' X) (hf : fX9_greater N h x0 x1 = some (v, h')) : Wx X 2 0 [(0, .int x0), (1, .int x1)] [] h := by
  have C := B.1
  unfold fX9_greater at hf
  refine x_iload_n (i := 0) 0 C dX9_greater_0 rfl rfl ?_
  refine x_iload_n (i := 1) 1 C dX9_greater_1 rfl rfl ?_
  refine x_icmp_le (tgt := 9) C dX9_greater_2 (by decide) (fun c => ?_) (fun c => ?_)
  · rw [if_pos c] at hf
    refine x_iload_n (i := 1) 1 C dX9_greater_9 rfl rfl ?_
    refine x_lv [] rfl ?_
    exact tX9_greater_b10 N h x1 B hf
  · rw [if_neg c] at hf
    refine x_iload_n (i := 0) 0 C dX9_greater_5 rfl rfl ?_
    refine x_goto (tgt := 10) C dX9_greater_6 (by decide) ?_
    refine x_lv [] rfl ?_
    exact tX9_greater_b10 N h x0 B hf
theorem ctX9_greater (l : Launch) (q : Nat → Nat) (N : Nat) (h : pH) (x0 : Int32) (x1 : Int32) (v : Int32) (h' : pH) (hf : fX9_greater N h x0 x1 = some (v, h')) : Ctr l q yX9_greater cX9_greater 2 (some .int) 0 0 [.int x0, .int x1] h h' (some (.int v)) := by
  refine ct_of (own := RX9) (lv := [(0, .int x0), (1, .int x1)]) (by decide +kernel) rfl (by simp [lg_sl, rf_cat, cat_i, cat_l]) (by first | rfl | simp [lv_args, rf_cat, cat_i, cat_l]) ?_
  intro X B
  obtain rfl := B.2.1
  obtain rfl := B.2.2.1
  exact tX9_greater N h x0 x1 B hf
def fX9_part_b41 (N : Nat) (h : pH) (l5 : Int64) (ls0 : Int64) : Option (Int64 × pH) :=
  if ¬ l5 = 0 then (some (ls0 / l5, h)) else none
set_option maxRecDepth 100000 in
set_option maxHeartbeats 4000000 in
theorem tX9_part_b41 {X : Xt} {v : Int64} {h' : pH} (N : Nat) (h : pH) (l5 : Int64) (ls0 : Int64) (B : Bd (lo X) (qo X) cX9_part RX9 11 (some .long) 0 0 (some (.long v)) h' X) (hf : fX9_part_b41 N h l5 ls0 = some (v, h')) : Wx X 11 41 [(5, .long l5)] [.long ls0] h := by
  have C := B.1
  unfold fX9_part_b41 at hf
  refine x_lload 0 C dX9_part_41 rfl ?_
  obtain ⟨g1, hf⟩ := ife hf
  refine x_ldiv C dX9_part_43 g1 ?_
  cases hf
  exact B.2.2.2.2.2.2.1 _ rfl rfl _ _ dX9_part_44
def fX9_part_B6 (N : Nat) (k6 : pH → Int64 → Int64 → Int32 → Int64 → Int64 → Option (Int64 × pH)) (h : pH) (l0 : Int64) (l2 : Int64) (x4 : Int32) (l5 : Int64) (l7 : Int64) : Option (Int64 × pH) :=
  if (lg_cmp l7 0) = 0 then (if x4 = 0 then (fX9_part_b41 N h l5 l0) else (fX9_part_b41 N h l5 l2)) else (if ¬ l7 = 0 then (k6 h l0 l2 x4 l7 (l5 - l5 / l7 * l7)) else none)
set_option maxRecDepth 100000 in
set_option maxHeartbeats 4000000 in
theorem tX9_part_B6 {X : Xt} {v : Int64} {h' : pH} (N : Nat) (k6 : pH → Int64 → Int64 → Int32 → Int64 → Int64 → Option (Int64 × pH)) (HK6 : ∀ (h : pH) (l0 : Int64) (l2 : Int64) (x4 : Int32) (l5 : Int64) (l7 : Int64), k6 h l0 l2 x4 l5 l7 = some (v, h') → Wx X 11 6 [(0, .long l0), (2, .long l2), (4, .int x4), (5, .long l5), (7, .long l7)] [] h) (h : pH) (l0 : Int64) (l2 : Int64) (x4 : Int32) (l5 : Int64) (l7 : Int64) (B : Bd (lo X) (qo X) cX9_part RX9 11 (some .long) 0 0 (some (.long v)) h' X) (hf : fX9_part_B6 N k6 h l0 l2 x4 l5 l7 = some (v, h')) : Wx X 11 6 [(0, .long l0), (2, .long l2), (4, .int x4), (5, .long l5), (7, .long l7)] [] h := by
  have C := B.1
  unfold fX9_part_B6 at hf
  refine x_lload 4 C dX9_part_6 rfl ?_
  refine x_lconst (v := 0) C dX9_part_8 (by decide) ?_
  refine x_lcmp C dX9_part_9 ?_
  refine x_if_eq (tgt := 31) C dX9_part_10 (by decide) (fun c => ?_) (fun c => ?_)
  · rw [if_pos c] at hf
    refine x_iload 2 C dX9_part_31 rfl ?_
    refine x_if_ne (tgt := 40) C dX9_part_33 (by decide) (fun c => ?_) (fun c => ?_)
    · rw [if_neg c] at hf
      refine x_lload_n (i := 2) 1 C dX9_part_40 rfl rfl ?_
      refine x_lv [3] rfl ?_
      exact tX9_part_b41 N h l5 l2 B hf
    · rw [if_pos c] at hf
      refine x_lload_n (i := 0) 0 C dX9_part_36 rfl rfl ?_
      refine x_goto (tgt := 41) C dX9_part_37 (by decide) ?_
      refine x_lv [3] rfl ?_
      exact tX9_part_b41 N h l5 l0 B hf
  · rw [if_neg c] at hf
    refine x_lload 3 C dX9_part_13 rfl ?_
    refine x_lload 4 C dX9_part_15 rfl ?_
    obtain ⟨g1, hf⟩ := ife hf
    refine x_lrem C dX9_part_17 g1 ?_
    refine x_lstore (lv' := [(9, .long (l5 - l5 / l7 * l7)), (0, .long l0), (2, .long l2), (4, .int x4), (5, .long l5), (7, .long l7)]) C dX9_part_18 (by decide) rfl ?_
    refine x_lload 5 C dX9_part_20 rfl ?_
    refine x_lstore (lv' := [(5, .long l7), (9, .long (l5 - l5 / l7 * l7)), (0, .long l0), (2, .long l2), (4, .int x4), (7, .long l7)]) C dX9_part_22 (by decide) rfl ?_
    refine x_lload 1 C dX9_part_24 rfl ?_
    refine x_lstore (lv' := [(7, .long (l5 - l5 / l7 * l7)), (5, .long l7), (9, .long (l5 - l5 / l7 * l7)), (0, .long l0), (2, .long l2), (4, .int x4)]) C dX9_part_26 (by decide) rfl ?_
    refine x_goto (tgt := 6) C dX9_part_28 (by decide) ?_
    refine x_lv [3, 4, 5, 1, 0] rfl ?_
    exact HK6 h l0 l2 x4 l7 (l5 - l5 / l7 * l7) hf
def fX9_part_L6 (N : Nat) : Nat → pH → Int64 → Int64 → Int32 → Int64 → Int64 → Option (Int64 × pH)
  | 0 => fun _ _ _ _ _ _ => none
  | n + 1 => fX9_part_B6 N (fX9_part_L6 N n)
theorem tX9_part_L6 {X : Xt} {v : Int64} {h' : pH} (N : Nat) (B : Bd (lo X) (qo X) cX9_part RX9 11 (some .long) 0 0 (some (.long v)) h' X) : ∀ (n : Nat) (h : pH) (l0 : Int64) (l2 : Int64) (x4 : Int32) (l5 : Int64) (l7 : Int64), fX9_part_L6 N n h l0 l2 x4 l5 l7 = some (v, h') → Wx X 11 6 [(0, .long l0), (2, .long l2), (4, .int x4), (5, .long l5), (7, .long l7)] [] h := by
  intro n
  induction n with
  | zero => intro h l0 l2 x4 l5 l7 hf; exact absurd (show (none : Option (Int64 × pH)) = some (v, h') from hf) (fun z => by cases z)
  | succ n ih => intro h l0 l2 x4 l5 l7 hf; exact tX9_part_B6 N (fX9_part_L6 N n) ih h l0 l2 x4 l5 l7 B hf
def fX9_part (N : Nat) (h : pH) (l0 : Int64) (l2 : Int64) (x4 : Int32) : Option (Int64 × pH) :=
  fX9_part_L6 N N h l0 l2 x4 l0 l2
set_option maxRecDepth 100000 in
set_option maxHeartbeats 4000000 in
theorem tX9_part {X : Xt} {v : Int64} {h' : pH} (N : Nat) (h : pH) (l0 : Int64) (l2 : Int64) (x4 : Int32) (B : Bd (lo X) (qo X) cX9_part RX9 11 (some .long) 0 0 (some (.long v)) h' X) (hf : fX9_part N h l0 l2 x4 = some (v, h')) : Wx X 11 0 [(0, .long l0), (2, .long l2), (4, .int x4)] [] h := by
  have C := B.1
  unfold fX9_part at hf
  refine x_lload_n (i := 0) 0 C dX9_part_0 rfl rfl ?_
  refine x_lstore (lv' := [(5, .long l0), (0, .long l0), (2, .long l2), (4, .int x4)]) C dX9_part_1 (by decide) rfl ?_
  refine x_lload_n (i := 2) 2 C dX9_part_3 rfl rfl ?_
  refine x_lstore (lv' := [(7, .long l2), (5, .long l0), (0, .long l0), (2, .long l2), (4, .int x4)]) C dX9_part_4 (by decide) rfl ?_
  refine x_lv [2, 3, 4, 1, 0] rfl ?_
  exact tX9_part_L6 N  B N h l0 l2 x4 l0 l2 hf
theorem ctX9_part (l : Launch) (q : Nat → Nat) (N : Nat) (h : pH) (l0 : Int64) (l2 : Int64) (x4 : Int32) (v : Int64) (h' : pH) (hf : fX9_part N h l0 l2 x4 = some (v, h')) : Ctr l q yX9_part cX9_part 11 (some .long) 0 0 [.long l0, .long l2, .int x4] h h' (some (.long v)) := by
  refine ct_of (own := RX9) (lv := [(0, .long l0), (2, .long l2), (4, .int x4)]) (by decide +kernel) rfl (by simp [lg_sl, rf_cat, cat_i, cat_l]) (by first | rfl | simp [lv_args, rf_cat, cat_i, cat_l]) ?_
  intro X B
  obtain rfl := B.2.1
  obtain rfl := B.2.2.1
  exact tX9_part N h l0 l2 x4 B hf
def fX9_readsPlanks_b59 (N : Nat) (k7 : pH → Int32 → Option (Int32 × pH)) (h : pH) (x1 : Int32) (xs0 : Int32) (xs1 : Int32) : Option (Int32 × pH) :=
  if ix xs1 19 = true then (k7 (pw (pw h 56 xs1.toNatClampNeg xs0) 49 7 (((pw h 56 xs1.toNatClampNeg xs0).1 49 7) + 1)) (x1 + 1)) else none
set_option maxRecDepth 100000 in
set_option maxHeartbeats 4000000 in
theorem tX9_readsPlanks_b59 {X : Xt} {v : Int32} {h' : pH} (N : Nat) (k7 : pH → Int32 → Option (Int32 × pH)) (HK7 : ∀ (h : pH) (x1 : Int32), k7 h x1 = some (v, h') → Wx X 3 7 [(0, rf (qo X) 49), (1, .int x1)] [] h) (h : pH) (x1 : Int32) (xs0 : Int32) (xs1 : Int32) (B : Bd (lo X) (qo X) cX9_readsPlanks RX9 3 (some .int) 0 0 (some (.int v)) h' X) (hf : fX9_readsPlanks_b59 N k7 h x1 xs0 xs1 = some (v, h')) : Wx X 3 59 [(0, rf (qo X) 49), (1, .int x1)] [.int xs0, .int xs1, rf (qo X) 56] h := by
  have C := B.1
  unfold fX9_readsPlanks_b59 at hf
  obtain ⟨g1, hf⟩ := ife hf
  refine x_iast (r := 56) C dX9_readsPlanks_59 rfl g1 ?_
  refine x_aload_n (i := 0) 0 C dX9_readsPlanks_60 rfl rfl ?_
  refine x_dupA C dX9_readsPlanks_61 ?_
  refine x_getI (r := 49) C dX9_readsPlanks_62 kfX9_103 rfl ?_
  refine x_iconst (v := 1) C dX9_readsPlanks_65 (by decide) ?_
  refine x_iadd C dX9_readsPlanks_66 ?_
  refine x_putI (r := 49) C dX9_readsPlanks_67 kfX9_103 rfl rfl rfl ?_
  refine x_iinc (v := x1 + 1) (lv' := [(1, .int (x1 + 1)), (0, rf (qo X) 49)]) 1 C dX9_readsPlanks_70 rfl rfl (by decide) rfl ?_
  refine x_goto (tgt := 7) C dX9_readsPlanks_73 (by decide) ?_
  refine x_lv [1, 0] rfl ?_
  exact HK7 (pw (pw h 56 xs1.toNatClampNeg xs0) 49 7 (((pw h 56 xs1.toNatClampNeg xs0).1 49 7) + 1)) (x1 + 1) hf
def fX9_readsPlanks_b43 (N : Nat) (k7 : pH → Int32 → Option (Int32 × pH)) (h : pH) (x1 : Int32) (x2 : Int32) : Option (Int32 × pH) :=
  if x2 = 114 then (fX9_readsPlanks_b59 N k7 h x1 1 x1) else (fX9_readsPlanks_b59 N k7 h x1 0 x1)
set_option maxRecDepth 100000 in
set_option maxHeartbeats 4000000 in
theorem tX9_readsPlanks_b43 {X : Xt} {v : Int32} {h' : pH} (N : Nat) (k7 : pH → Int32 → Option (Int32 × pH)) (HK7 : ∀ (h : pH) (x1 : Int32), k7 h x1 = some (v, h') → Wx X 3 7 [(0, rf (qo X) 49), (1, .int x1)] [] h) (h : pH) (x1 : Int32) (x2 : Int32) (B : Bd (lo X) (qo X) cX9_readsPlanks RX9 3 (some .int) 0 0 (some (.int v)) h' X) (hf : fX9_readsPlanks_b43 N k7 h x1 x2 = some (v, h')) : Wx X 3 43 [(0, rf (qo X) 49), (1, .int x1), (2, .int x2)] [] h := by
  have C := B.1
  unfold fX9_readsPlanks_b43 at hf
  refine x_aload_n (i := 0) 0 C dX9_readsPlanks_43 rfl rfl ?_
  refine x_getR (r := 49) (r2 := 56) C dX9_readsPlanks_44 kfX9_28 rfl rfl (by decide) ?_
  refine x_iload_n (i := 1) 1 C dX9_readsPlanks_47 rfl rfl ?_
  refine x_iload_n (i := 2) 2 C dX9_readsPlanks_48 rfl rfl ?_
  refine x_bipush (v := 114) C dX9_readsPlanks_49 (by decide) ?_
  refine x_icmp_ne (tgt := 58) C dX9_readsPlanks_51 (by decide) (fun c => ?_) (fun c => ?_)
  · rw [if_neg c] at hf
    refine x_iconst (v := 0) C dX9_readsPlanks_58 (by decide) ?_
    refine x_lv [0, 1] rfl ?_
    exact tX9_readsPlanks_b59 N k7 HK7 h x1 0 x1 B hf
  · rw [if_pos c] at hf
    refine x_iconst (v := 1) C dX9_readsPlanks_54 (by decide) ?_
    refine x_goto (tgt := 59) C dX9_readsPlanks_55 (by decide) ?_
    refine x_lv [0, 1] rfl ?_
    exact tX9_readsPlanks_b59 N k7 HK7 h x1 1 x1 B hf
def fX9_readsPlanks_B7 (N : Nat) (k7 : pH → Int32 → Option (Int32 × pH)) (h : pH) (x1 : Int32) : Option (Int32 × pH) :=
  if ix (0 : Int32) 3 = true then (if (h.1 55 (0 : Int32).toNatClampNeg) ≤ x1 then (some ((-1), h)) else (if ix x1 120 = true then (if (h.1 54 x1.toNatClampNeg) = 46 then (fX9_readsPlanks_b43 N k7 h x1 (h.1 54 x1.toNatClampNeg)) else (if (h.1 54 x1.toNatClampNeg) = 114 then (fX9_readsPlanks_b43 N k7 h x1 (h.1 54 x1.toNatClampNeg)) else (some (x1, (pw h 49 7 0))))) else none)) else none
set_option maxRecDepth 100000 in
set_option maxHeartbeats 4000000 in
theorem tX9_readsPlanks_B7 {X : Xt} {v : Int32} {h' : pH} (N : Nat) (k7 : pH → Int32 → Option (Int32 × pH)) (HK7 : ∀ (h : pH) (x1 : Int32), k7 h x1 = some (v, h') → Wx X 3 7 [(0, rf (qo X) 49), (1, .int x1)] [] h) (h : pH) (x1 : Int32) (B : Bd (lo X) (qo X) cX9_readsPlanks RX9 3 (some .int) 0 0 (some (.int v)) h' X) (hf : fX9_readsPlanks_B7 N k7 h x1 = some (v, h')) : Wx X 3 7 [(0, rf (qo X) 49), (1, .int x1)] [] h := by
  have C := B.1
  unfold fX9_readsPlanks_B7 at hf
  refine x_iload_n (i := 1) 1 C dX9_readsPlanks_7 rfl rfl ?_
  refine x_aload_n (i := 0) 0 C dX9_readsPlanks_8 rfl rfl ?_
  refine x_getR (r := 49) (r2 := 55) C dX9_readsPlanks_9 kfX9_25 rfl rfl (by decide) ?_
  refine x_iconst (v := 0) C dX9_readsPlanks_12 (by decide) ?_
  obtain ⟨g1, hf⟩ := ife hf
  refine x_iald (r := 55) C dX9_readsPlanks_13 rfl g1 ?_
  refine x_icmp_ge (tgt := 76) C dX9_readsPlanks_14 (by decide) (fun c => ?_) (fun c => ?_)
  · rw [if_pos c] at hf
    refine x_iconst (v := (-1)) C dX9_readsPlanks_76 (by decide) ?_
    cases hf
    exact B.2.2.2.2.2.1 _ _ rfl rfl rfl _ _ dX9_readsPlanks_77
  · rw [if_neg c] at hf
    refine x_aload_n (i := 0) 0 C dX9_readsPlanks_17 rfl rfl ?_
    refine x_getR (r := 49) (r2 := 54) C dX9_readsPlanks_18 kfX9_22 rfl rfl (by decide) ?_
    refine x_iload_n (i := 1) 1 C dX9_readsPlanks_21 rfl rfl ?_
    obtain ⟨g2, hf⟩ := ife hf
    refine x_iald (r := 54) C dX9_readsPlanks_22 rfl g2 ?_
    refine x_istore_n (i := 2) (lv' := [(2, .int (h.1 54 x1.toNatClampNeg)), (0, rf (qo X) 49), (1, .int x1)]) C dX9_readsPlanks_23 rfl (by decide) rfl ?_
    refine x_iload_n (i := 2) 0 C dX9_readsPlanks_24 rfl rfl ?_
    refine x_bipush (v := 46) C dX9_readsPlanks_25 (by decide) ?_
    refine x_icmp_eq (tgt := 43) C dX9_readsPlanks_27 (by decide) (fun c => ?_) (fun c => ?_)
    · rw [if_pos c] at hf
      refine x_lv [1, 2, 0] rfl ?_
      exact tX9_readsPlanks_b43 N k7 HK7 h x1 (h.1 54 x1.toNatClampNeg) B hf
    · rw [if_neg c] at hf
      refine x_iload_n (i := 2) 0 C dX9_readsPlanks_30 rfl rfl ?_
      refine x_bipush (v := 114) C dX9_readsPlanks_31 (by decide) ?_
      refine x_icmp_eq (tgt := 43) C dX9_readsPlanks_33 (by decide) (fun c => ?_) (fun c => ?_)
      · rw [if_pos c] at hf
        refine x_lv [1, 2, 0] rfl ?_
        exact tX9_readsPlanks_b43 N k7 HK7 h x1 (h.1 54 x1.toNatClampNeg) B hf
      · rw [if_neg c] at hf
        refine x_aload_n (i := 0) 1 C dX9_readsPlanks_36 rfl rfl ?_
        refine x_iconst (v := 0) C dX9_readsPlanks_37 (by decide) ?_
        refine x_putI (r := 49) C dX9_readsPlanks_38 kfX9_103 rfl rfl rfl ?_
        refine x_iload_n (i := 1) 2 C dX9_readsPlanks_41 rfl rfl ?_
        cases hf
        exact B.2.2.2.2.2.1 _ _ rfl rfl rfl _ _ dX9_readsPlanks_42
def fX9_readsPlanks_L7 (N : Nat) : Nat → pH → Int32 → Option (Int32 × pH)
  | 0 => fun _ _ => none
  | n + 1 => fX9_readsPlanks_B7 N (fX9_readsPlanks_L7 N n)
theorem tX9_readsPlanks_L7 {X : Xt} {v : Int32} {h' : pH} (N : Nat) (B : Bd (lo X) (qo X) cX9_readsPlanks RX9 3 (some .int) 0 0 (some (.int v)) h' X) : ∀ (n : Nat) (h : pH) (x1 : Int32), fX9_readsPlanks_L7 N n h x1 = some (v, h') → Wx X 3 7 [(0, rf (qo X) 49), (1, .int x1)] [] h := by
  intro n
  induction n with
  | zero => intro h x1 hf; exact absurd (show (none : Option (Int32 × pH)) = some (v, h') from hf) (fun z => by cases z)
  | succ n ih => intro h x1 hf; exact tX9_readsPlanks_B7 N (fX9_readsPlanks_L7 N n) ih h x1 B hf
def fX9_readsPlanks (N : Nat) (h : pH)  : Option (Int32 × pH) :=
  fX9_readsPlanks_L7 N N (pw h 49 7 0) 0
set_option maxRecDepth 100000 in
set_option maxHeartbeats 4000000 in
theorem tX9_readsPlanks {X : Xt} {v : Int32} {h' : pH} (N : Nat) (h : pH)  (B : Bd (lo X) (qo X) cX9_readsPlanks RX9 3 (some .int) 0 0 (some (.int v)) h' X) (hf : fX9_readsPlanks N h  = some (v, h')) : Wx X 3 0 [(0, rf (qo X) 49)] [] h := by
  have C := B.1
  unfold fX9_readsPlanks at hf
  refine x_aload_n (i := 0) 0 C dX9_readsPlanks_0 rfl rfl ?_
  refine x_iconst (v := 0) C dX9_readsPlanks_1 (by decide) ?_
  refine x_putI (r := 49) C dX9_readsPlanks_2 kfX9_103 rfl rfl rfl ?_
  refine x_iconst (v := 0) C dX9_readsPlanks_5 (by decide) ?_
  refine x_istore_n (i := 1) (lv' := [(1, .int 0), (0, rf (qo X) 49)]) C dX9_readsPlanks_6 rfl (by decide) rfl ?_
  refine x_lv [1, 0] rfl ?_
  exact tX9_readsPlanks_L7 N  B N (pw h 49 7 0) 0 hf
theorem ctX9_readsPlanks (l : Launch) (q : Nat → Nat) (N : Nat) (h : pH)  (v : Int32) (h' : pH) (hf : fX9_readsPlanks N h  = some (v, h')) : Ctr l q yX9_readsPlanks cX9_readsPlanks 3 (some .int) 0 0 [rf q 49] h h' (some (.int v)) := by
  refine ct_of (own := RX9) (lv := [(0, rf q 49)]) (by decide +kernel) rfl (by simp [lg_sl, rf_cat, cat_i, cat_l]) (by first | rfl | simp [lv_args, rf_cat, cat_i, cat_l]) ?_
  intro X B
  obtain rfl := B.2.1
  obtain rfl := B.2.2.1
  exact tX9_readsPlanks N h  B hf
def fX9_isHole_b73 (N : Nat) (h : pH) (xs0 : Int32) : Option (Int32 × pH) :=
  if xs0 = 0 ∨ xs0 = 1 then (some (xs0, h)) else none
set_option maxRecDepth 100000 in
set_option maxHeartbeats 4000000 in
theorem tX9_isHole_b73 {X : Xt} {v : Int32} {h' : pH} (N : Nat) (h : pH) (xs0 : Int32) (B : Bd (lo X) (qo X) cX9_isHole RX9 4 (some .boolean) 0 0 (some (.int v)) h' X) (hf : fX9_isHole_b73 N h xs0 = some (v, h')) : Wx X 4 73 [] [.int xs0] h := by
  have C := B.1
  unfold fX9_isHole_b73 at hf
  obtain ⟨g1, hf⟩ := ife hf
  cases hf
  exact B.2.2.2.2.2.1 _ _ rfl rfl (nrB g1) _ _ dX9_isHole_73
def fX9_isHole_b68 (N : Nat) (h : pH)  : Option (Int32 × pH) :=
  fX9_isHole_b73 N h 1
set_option maxRecDepth 100000 in
set_option maxHeartbeats 4000000 in
theorem tX9_isHole_b68 {X : Xt} {v : Int32} {h' : pH} (N : Nat) (h : pH)  (B : Bd (lo X) (qo X) cX9_isHole RX9 4 (some .boolean) 0 0 (some (.int v)) h' X) (hf : fX9_isHole_b68 N h  = some (v, h')) : Wx X 4 68 [] [] h := by
  have C := B.1
  unfold fX9_isHole_b68 at hf
  refine x_iconst (v := 1) C dX9_isHole_68 (by decide) ?_
  refine x_goto (tgt := 73) C dX9_isHole_69 (by decide) ?_
  exact tX9_isHole_b73 N h 1 B hf
def fX9_isHole_b72 (N : Nat) (h : pH)  : Option (Int32 × pH) :=
  fX9_isHole_b73 N h 0
set_option maxRecDepth 100000 in
set_option maxHeartbeats 4000000 in
theorem tX9_isHole_b72 {X : Xt} {v : Int32} {h' : pH} (N : Nat) (h : pH)  (B : Bd (lo X) (qo X) cX9_isHole RX9 4 (some .boolean) 0 0 (some (.int v)) h' X) (hf : fX9_isHole_b72 N h  = some (v, h')) : Wx X 4 72 [] [] h := by
  have C := B.1
  unfold fX9_isHole_b72 at hf
  refine x_iconst (v := 0) C dX9_isHole_72 (by decide) ?_
  exact tX9_isHole_b73 N h 0 B hf
def fX9_isHole_b31 (N : Nat) (h : pH) (x1 : Int32) (x2 : Int32) (xs0 : Int32) : Option (Int32 × pH) :=
  if x2 = (h.1 49 19) then (fX9_isHole_b68 N h) else (if xs0 = 0 then (if ix x2 19 = true then (if (h.1 56 x2.toNatClampNeg) = 1 then (if ix ((4 * x1) + 1) 32 = true then (if (h.1 57 ((4 * x1) + 1).toNatClampNeg) ≤ 5 then (fX9_isHole_b72 N h) else (fX9_isHole_b68 N h)) else none) else (fX9_isHole_b72 N h)) else none) else (fX9_isHole_b68 N h))
set_option maxRecDepth 100000 in
set_option maxHeartbeats 4000000 in
theorem tX9_isHole_b31 {X : Xt} {v : Int32} {h' : pH} (N : Nat) (h : pH) (x1 : Int32) (x2 : Int32) (xs0 : Int32) (B : Bd (lo X) (qo X) cX9_isHole RX9 4 (some .boolean) 0 0 (some (.int v)) h' X) (hf : fX9_isHole_b31 N h x1 x2 xs0 = some (v, h')) : Wx X 4 31 [(0, rf (qo X) 49), (1, .int x1), (2, .int x2)] [.int xs0] h := by
  have C := B.1
  unfold fX9_isHole_b31 at hf
  refine x_istore_n (i := 3) (lv' := [(3, .int xs0), (0, rf (qo X) 49), (1, .int x1), (2, .int x2)]) C dX9_isHole_31 rfl (by decide) rfl ?_
  refine x_iload_n (i := 2) 3 C dX9_isHole_32 rfl rfl ?_
  refine x_aload_n (i := 0) 1 C dX9_isHole_33 rfl rfl ?_
  refine x_getI (r := 49) C dX9_isHole_34 kfX9_155 rfl ?_
  refine x_icmp_eq (tgt := 68) C dX9_isHole_37 (by decide) (fun c => ?_) (fun c => ?_)
  · rw [if_pos c] at hf
    refine x_lv [] rfl ?_
    exact tX9_isHole_b68 N h B hf
  · rw [if_neg c] at hf
    refine x_iload_n (i := 3) 0 C dX9_isHole_40 rfl rfl ?_
    refine x_if_ne (tgt := 68) C dX9_isHole_41 (by decide) (fun c => ?_) (fun c => ?_)
    · rw [if_neg c] at hf
      refine x_lv [] rfl ?_
      exact tX9_isHole_b68 N h B hf
    · rw [if_pos c] at hf
      refine x_aload_n (i := 0) 1 C dX9_isHole_44 rfl rfl ?_
      refine x_getR (r := 49) (r2 := 56) C dX9_isHole_45 kfX9_28 rfl rfl (by decide) ?_
      refine x_iload_n (i := 2) 3 C dX9_isHole_48 rfl rfl ?_
      obtain ⟨g1, hf⟩ := ife hf
      refine x_iald (r := 56) C dX9_isHole_49 rfl g1 ?_
      refine x_iconst (v := 1) C dX9_isHole_50 (by decide) ?_
      refine x_icmp_ne (tgt := 72) C dX9_isHole_51 (by decide) (fun c => ?_) (fun c => ?_)
      · rw [if_neg c] at hf
        refine x_lv [] rfl ?_
        exact tX9_isHole_b72 N h B hf
      · rw [if_pos c] at hf
        refine x_aload_n (i := 0) 1 C dX9_isHole_54 rfl rfl ?_
        refine x_getR (r := 49) (r2 := 57) C dX9_isHole_55 kfX9_31 rfl rfl (by decide) ?_
        refine x_iconst (v := 4) C dX9_isHole_58 (by decide) ?_
        refine x_iload_n (i := 1) 2 C dX9_isHole_59 rfl rfl ?_
        refine x_imul C dX9_isHole_60 ?_
        refine x_iconst (v := 1) C dX9_isHole_61 (by decide) ?_
        refine x_iadd C dX9_isHole_62 ?_
        obtain ⟨g2, hf⟩ := ife hf
        refine x_iald (r := 57) C dX9_isHole_63 rfl g2 ?_
        refine x_iconst (v := 5) C dX9_isHole_64 (by decide) ?_
        refine x_icmp_le (tgt := 72) C dX9_isHole_65 (by decide) (fun c => ?_) (fun c => ?_)
        · rw [if_pos c] at hf
          refine x_lv [] rfl ?_
          exact tX9_isHole_b72 N h B hf
        · rw [if_neg c] at hf
          refine x_lv [] rfl ?_
          exact tX9_isHole_b68 N h B hf
def fX9_isHole_b30 (N : Nat) (h : pH) (x1 : Int32) (x2 : Int32) : Option (Int32 × pH) :=
  fX9_isHole_b31 N h x1 x2 0
set_option maxRecDepth 100000 in
set_option maxHeartbeats 4000000 in
theorem tX9_isHole_b30 {X : Xt} {v : Int32} {h' : pH} (N : Nat) (h : pH) (x1 : Int32) (x2 : Int32) (B : Bd (lo X) (qo X) cX9_isHole RX9 4 (some .boolean) 0 0 (some (.int v)) h' X) (hf : fX9_isHole_b30 N h x1 x2 = some (v, h')) : Wx X 4 30 [(0, rf (qo X) 49), (1, .int x1), (2, .int x2)] [] h := by
  have C := B.1
  unfold fX9_isHole_b30 at hf
  refine x_iconst (v := 0) C dX9_isHole_30 (by decide) ?_
  exact tX9_isHole_b31 N h x1 x2 0 B hf
def fX9_isHole (N : Nat) (h : pH) (x1 : Int32) (x2 : Int32) : Option (Int32 × pH) :=
  if ix (0 : Int32) 2 = true then (if (h.1 59 (0 : Int32).toNatClampNeg) ≤ 6 then (fX9_isHole_b30 N h x1 x2) else (if ¬ (h.1 49 7) = 0 then (if x2 = (((h.1 49 19) + 1) - ((h.1 49 19) + 1) / (h.1 49 7) * (h.1 49 7)) then (fX9_isHole_b31 N h x1 x2 1) else (fX9_isHole_b30 N h x1 x2)) else none)) else none
set_option maxRecDepth 100000 in
set_option maxHeartbeats 4000000 in
theorem tX9_isHole {X : Xt} {v : Int32} {h' : pH} (N : Nat) (h : pH) (x1 : Int32) (x2 : Int32) (B : Bd (lo X) (qo X) cX9_isHole RX9 4 (some .boolean) 0 0 (some (.int v)) h' X) (hf : fX9_isHole N h x1 x2 = some (v, h')) : Wx X 4 0 [(0, rf (qo X) 49), (1, .int x1), (2, .int x2)] [] h := by
  have C := B.1
  unfold fX9_isHole at hf
  refine x_aload_n (i := 0) 0 C dX9_isHole_0 rfl rfl ?_
  refine x_getR (r := 49) (r2 := 59) C dX9_isHole_1 kfX9_37 rfl rfl (by decide) ?_
  refine x_iconst (v := 0) C dX9_isHole_4 (by decide) ?_
  obtain ⟨g1, hf⟩ := ife hf
  refine x_iald (r := 59) C dX9_isHole_5 rfl g1 ?_
  refine x_bipush (v := 6) C dX9_isHole_6 (by decide) ?_
  refine x_icmp_le (tgt := 30) C dX9_isHole_8 (by decide) (fun c => ?_) (fun c => ?_)
  · rw [if_pos c] at hf
    exact tX9_isHole_b30 N h x1 x2 B hf
  · rw [if_neg c] at hf
    refine x_iload_n (i := 2) 2 C dX9_isHole_11 rfl rfl ?_
    refine x_aload_n (i := 0) 0 C dX9_isHole_12 rfl rfl ?_
    refine x_getI (r := 49) C dX9_isHole_13 kfX9_155 rfl ?_
    refine x_iconst (v := 1) C dX9_isHole_16 (by decide) ?_
    refine x_iadd C dX9_isHole_17 ?_
    refine x_aload_n (i := 0) 0 C dX9_isHole_18 rfl rfl ?_
    refine x_getI (r := 49) C dX9_isHole_19 kfX9_103 rfl ?_
    obtain ⟨g2, hf⟩ := ife hf
    refine x_irem C dX9_isHole_22 g2 ?_
    refine x_icmp_ne (tgt := 30) C dX9_isHole_23 (by decide) (fun c => ?_) (fun c => ?_)
    · rw [if_neg c] at hf
      exact tX9_isHole_b30 N h x1 x2 B hf
    · rw [if_pos c] at hf
      refine x_iconst (v := 1) C dX9_isHole_26 (by decide) ?_
      refine x_goto (tgt := 31) C dX9_isHole_27 (by decide) ?_
      exact tX9_isHole_b31 N h x1 x2 1 B hf
theorem ctX9_isHole (l : Launch) (q : Nat → Nat) (N : Nat) (h : pH) (x1 : Int32) (x2 : Int32) (v : Int32) (h' : pH) (hf : fX9_isHole N h x1 x2 = some (v, h')) : Ctr l q yX9_isHole cX9_isHole 4 (some .boolean) 0 0 [rf q 49, .int x1, .int x2] h h' (some (.int v)) := by
  refine ct_of (own := RX9) (lv := [(0, rf q 49), (1, .int x1), (2, .int x2)]) (by decide +kernel) rfl (by simp [lg_sl, rf_cat, cat_i, cat_l]) (by first | rfl | simp [lv_args, rf_cat, cat_i, cat_l]) ?_
  intro X B
  obtain rfl := B.2.1
  obtain rfl := B.2.2.1
  exact tX9_isHole N h x1 x2 B hf
def fX9_looks_b65 (N : Nat) (k14 : pH → Int32 → Int32 → Int32 → Option (Unit × pH)) (h : pH) (x1 : Int32) (x3 : Int32) (xs0 : Int32) : Option (Unit × pH) :=
  (fX9_greater N h xs0 (h.1 49 22)).bind fun z1 => (k14 (pw z1.2 49 22 z1.1) x1 xs0 (x3 + 1))
set_option maxRecDepth 100000 in
set_option maxHeartbeats 4000000 in
theorem tX9_looks_b65 {X : Xt} {v : Unit} {h' : pH} (N : Nat) (k14 : pH → Int32 → Int32 → Int32 → Option (Unit × pH)) (HK14 : ∀ (h : pH) (x1 : Int32) (x2 : Int32) (x3 : Int32), k14 h x1 x2 x3 = some (v, h') → Wx X 5 14 [(0, rf (qo X) 49), (1, .int x1), (2, .int x2), (3, .int x3)] [] h) (h : pH) (x1 : Int32) (x3 : Int32) (xs0 : Int32) (B : Bd (lo X) (qo X) cX9_looks RX9 5 none 1 23 none h' X) (hf : fX9_looks_b65 N k14 h x1 x3 xs0 = some (v, h')) : Wx X 5 65 [(0, rf (qo X) 49), (1, .int x1), (3, .int x3)] [.int xs0] h := by
  have C := B.1
  unfold fX9_looks_b65 at hf
  refine x_istore_n (i := 2) (lv' := [(2, .int xs0), (0, rf (qo X) 49), (1, .int x1), (3, .int x3)]) C dX9_looks_65 rfl (by decide) rfl ?_
  refine x_aload_n (i := 0) 1 C dX9_looks_66 rfl rfl ?_
  refine x_iload_n (i := 2) 0 C dX9_looks_67 rfl rfl ?_
  refine x_aload_n (i := 0) 1 C dX9_looks_68 rfl rfl ?_
  refine x_getI (r := 49) C dX9_looks_69 kfX9_161 rfl ?_
  obtain ⟨z1, e1, hf⟩ := bnd hf
  refine x_callS (As := [.int xs0, .int (h.1 49 22)]) (rest := [rf (qo X) 49]) C dX9_looks_72 kmX9_168 miX9_greater (ctX9_greater (lo X) (qo X) N h xs0 (h.1 49 22) z1.1 z1.2 e1) rfl rfl ⟨Nat.le_trans (by decide) B.2.2.2.1, Nat.le_trans (by decide) B.2.2.2.2.1⟩ (by simp [cat_i, cat_l, rf_cat]) ?_
  refine x_putI (r := 49) C dX9_looks_75 kfX9_161 rfl rfl rfl ?_
  refine x_iinc (v := x3 + 1) (lv' := [(3, .int (x3 + 1)), (2, .int xs0), (0, rf (qo X) 49), (1, .int x1)]) 3 C dX9_looks_78 rfl rfl (by decide) rfl ?_
  refine x_goto (tgt := 14) C dX9_looks_81 (by decide) ?_
  refine x_lv [2, 3, 1, 0] rfl ?_
  exact HK14 (pw z1.2 49 22 z1.1) x1 xs0 (x3 + 1) hf
def fX9_looks_b49 (N : Nat) (k14 : pH → Int32 → Int32 → Int32 → Option (Unit × pH)) (h : pH) (x1 : Int32) (x2 : Int32) (x3 : Int32) (x4 : Int32) (xs0 : Int32) (xs1 : Int32) : Option (Unit × pH) :=
  if x4 = 0 then (fX9_looks_b65 N k14 (pw h 49 21 (xs1 + xs0)) x1 x3 0) else (fX9_looks_b65 N k14 (pw h 49 21 (xs1 + xs0)) x1 x3 (x2 + 1))
set_option maxRecDepth 100000 in
set_option maxHeartbeats 4000000 in
theorem tX9_looks_b49 {X : Xt} {v : Unit} {h' : pH} (N : Nat) (k14 : pH → Int32 → Int32 → Int32 → Option (Unit × pH)) (HK14 : ∀ (h : pH) (x1 : Int32) (x2 : Int32) (x3 : Int32), k14 h x1 x2 x3 = some (v, h') → Wx X 5 14 [(0, rf (qo X) 49), (1, .int x1), (2, .int x2), (3, .int x3)] [] h) (h : pH) (x1 : Int32) (x2 : Int32) (x3 : Int32) (x4 : Int32) (xs0 : Int32) (xs1 : Int32) (B : Bd (lo X) (qo X) cX9_looks RX9 5 none 1 23 none h' X) (hf : fX9_looks_b49 N k14 h x1 x2 x3 x4 xs0 xs1 = some (v, h')) : Wx X 5 49 [(0, rf (qo X) 49), (1, .int x1), (2, .int x2), (3, .int x3), (4, .int x4)] [.int xs0, .int xs1, rf (qo X) 49] h := by
  have C := B.1
  unfold fX9_looks_b49 at hf
  refine x_iadd C dX9_looks_49 ?_
  refine x_putI (r := 49) C dX9_looks_50 kfX9_158 rfl rfl rfl ?_
  refine x_iload 4 C dX9_looks_53 rfl ?_
  refine x_if_eq (tgt := 64) C dX9_looks_55 (by decide) (fun c => ?_) (fun c => ?_)
  · rw [if_pos c] at hf
    refine x_iconst (v := 0) C dX9_looks_64 (by decide) ?_
    refine x_lv [0, 1, 3] rfl ?_
    exact tX9_looks_b65 N k14 HK14 (pw h 49 21 (xs1 + xs0)) x1 x3 0 B hf
  · rw [if_neg c] at hf
    refine x_iload_n (i := 2) 2 C dX9_looks_58 rfl rfl ?_
    refine x_iconst (v := 1) C dX9_looks_59 (by decide) ?_
    refine x_iadd C dX9_looks_60 ?_
    refine x_goto (tgt := 65) C dX9_looks_61 (by decide) ?_
    refine x_lv [0, 1, 3] rfl ?_
    exact tX9_looks_b65 N k14 HK14 (pw h 49 21 (xs1 + xs0)) x1 x3 (x2 + 1) B hf
def fX9_looks_b48 (N : Nat) (k14 : pH → Int32 → Int32 → Int32 → Option (Unit × pH)) (h : pH) (x1 : Int32) (x2 : Int32) (x3 : Int32) (x4 : Int32) (xs0 : Int32) : Option (Unit × pH) :=
  fX9_looks_b49 N k14 h x1 x2 x3 x4 0 xs0
set_option maxRecDepth 100000 in
set_option maxHeartbeats 4000000 in
theorem tX9_looks_b48 {X : Xt} {v : Unit} {h' : pH} (N : Nat) (k14 : pH → Int32 → Int32 → Int32 → Option (Unit × pH)) (HK14 : ∀ (h : pH) (x1 : Int32) (x2 : Int32) (x3 : Int32), k14 h x1 x2 x3 = some (v, h') → Wx X 5 14 [(0, rf (qo X) 49), (1, .int x1), (2, .int x2), (3, .int x3)] [] h) (h : pH) (x1 : Int32) (x2 : Int32) (x3 : Int32) (x4 : Int32) (xs0 : Int32) (B : Bd (lo X) (qo X) cX9_looks RX9 5 none 1 23 none h' X) (hf : fX9_looks_b48 N k14 h x1 x2 x3 x4 xs0 = some (v, h')) : Wx X 5 48 [(0, rf (qo X) 49), (1, .int x1), (2, .int x2), (3, .int x3), (4, .int x4)] [.int xs0, rf (qo X) 49] h := by
  have C := B.1
  unfold fX9_looks_b48 at hf
  refine x_iconst (v := 0) C dX9_looks_48 (by decide) ?_
  exact tX9_looks_b49 N k14 HK14 h x1 x2 x3 x4 0 xs0 B hf
def fX9_looks_B14 (N : Nat) (k14 : pH → Int32 → Int32 → Int32 → Option (Unit × pH)) (h : pH) (x1 : Int32) (x2 : Int32) (x3 : Int32) : Option (Unit × pH) :=
  if (h.1 49 7) ≤ x3 then (some ((), h)) else ((fX9_isHole N h x1 x3).bind fun z1 => (if z1.1 = 0 then (fX9_looks_b48 N k14 z1.2 x1 x2 x3 z1.1 (z1.2.1 49 21)) else (if x2 = 0 then (fX9_looks_b49 N k14 z1.2 x1 x2 x3 z1.1 1 (z1.2.1 49 21)) else (fX9_looks_b48 N k14 z1.2 x1 x2 x3 z1.1 (z1.2.1 49 21)))))
set_option maxRecDepth 100000 in
set_option maxHeartbeats 4000000 in
theorem tX9_looks_B14 {X : Xt} {v : Unit} {h' : pH} (N : Nat) (k14 : pH → Int32 → Int32 → Int32 → Option (Unit × pH)) (HK14 : ∀ (h : pH) (x1 : Int32) (x2 : Int32) (x3 : Int32), k14 h x1 x2 x3 = some (v, h') → Wx X 5 14 [(0, rf (qo X) 49), (1, .int x1), (2, .int x2), (3, .int x3)] [] h) (h : pH) (x1 : Int32) (x2 : Int32) (x3 : Int32) (B : Bd (lo X) (qo X) cX9_looks RX9 5 none 1 23 none h' X) (hf : fX9_looks_B14 N k14 h x1 x2 x3 = some (v, h')) : Wx X 5 14 [(0, rf (qo X) 49), (1, .int x1), (2, .int x2), (3, .int x3)] [] h := by
  have C := B.1
  unfold fX9_looks_B14 at hf
  refine x_iload_n (i := 3) 3 C dX9_looks_14 rfl rfl ?_
  refine x_aload_n (i := 0) 0 C dX9_looks_15 rfl rfl ?_
  refine x_getI (r := 49) C dX9_looks_16 kfX9_103 rfl ?_
  refine x_icmp_ge (tgt := 84) C dX9_looks_19 (by decide) (fun c => ?_) (fun c => ?_)
  · rw [if_pos c] at hf
    cases hf
    exact B.2.2.2.2.2.2.2.2.2 rfl rfl _ _ dX9_looks_84
  · rw [if_neg c] at hf
    refine x_aload_n (i := 0) 0 C dX9_looks_22 rfl rfl ?_
    refine x_iload_n (i := 1) 1 C dX9_looks_23 rfl rfl ?_
    refine x_iload_n (i := 3) 3 C dX9_looks_24 rfl rfl ?_
    obtain ⟨z1, e1, hf⟩ := bnd hf
    refine x_callV (r := 49) (As := [.int x1, .int x3]) (rest := []) C dX9_looks_25 kmX9_164 miX9_isHole (ctX9_isHole (lo X) (qo X) N h x1 x3 z1.1 z1.2 e1) rfl rfl ⟨Nat.le_trans (by decide) B.2.2.2.1, Nat.le_trans (by decide) B.2.2.2.2.1⟩ (by simp [cat_i, cat_l, rf_cat]) rfl ?_
    refine x_istore (lv' := [(4, .int z1.1), (0, rf (qo X) 49), (1, .int x1), (2, .int x2), (3, .int x3)]) C dX9_looks_28 (by decide) rfl ?_
    refine x_aload_n (i := 0) 1 C dX9_looks_30 rfl rfl ?_
    refine x_dupA C dX9_looks_31 ?_
    refine x_getI (r := 49) C dX9_looks_32 kfX9_158 rfl ?_
    refine x_iload 0 C dX9_looks_35 rfl ?_
    refine x_if_eq (tgt := 48) C dX9_looks_37 (by decide) (fun c => ?_) (fun c => ?_)
    · rw [if_pos c] at hf
      refine x_lv [1, 2, 3, 4, 0] rfl ?_
      exact tX9_looks_b48 N k14 HK14 z1.2 x1 x2 x3 z1.1 (z1.2.1 49 21) B hf
    · rw [if_neg c] at hf
      refine x_iload_n (i := 2) 3 C dX9_looks_40 rfl rfl ?_
      refine x_if_ne (tgt := 48) C dX9_looks_41 (by decide) (fun c => ?_) (fun c => ?_)
      · rw [if_neg c] at hf
        refine x_lv [1, 2, 3, 4, 0] rfl ?_
        exact tX9_looks_b48 N k14 HK14 z1.2 x1 x2 x3 z1.1 (z1.2.1 49 21) B hf
      · rw [if_pos c] at hf
        refine x_iconst (v := 1) C dX9_looks_44 (by decide) ?_
        refine x_goto (tgt := 49) C dX9_looks_45 (by decide) ?_
        refine x_lv [1, 2, 3, 4, 0] rfl ?_
        exact tX9_looks_b49 N k14 HK14 z1.2 x1 x2 x3 z1.1 1 (z1.2.1 49 21) B hf
def fX9_looks_L14 (N : Nat) : Nat → pH → Int32 → Int32 → Int32 → Option (Unit × pH)
  | 0 => fun _ _ _ _ => none
  | n + 1 => fX9_looks_B14 N (fX9_looks_L14 N n)
theorem tX9_looks_L14 {X : Xt} {v : Unit} {h' : pH} (N : Nat) (B : Bd (lo X) (qo X) cX9_looks RX9 5 none 1 23 none h' X) : ∀ (n : Nat) (h : pH) (x1 : Int32) (x2 : Int32) (x3 : Int32), fX9_looks_L14 N n h x1 x2 x3 = some (v, h') → Wx X 5 14 [(0, rf (qo X) 49), (1, .int x1), (2, .int x2), (3, .int x3)] [] h := by
  intro n
  induction n with
  | zero => intro h x1 x2 x3 hf; exact absurd (show (none : Option (Unit × pH)) = some (v, h') from hf) (fun z => by cases z)
  | succ n ih => intro h x1 x2 x3 hf; exact tX9_looks_B14 N (fX9_looks_L14 N n) ih h x1 x2 x3 B hf
def fX9_looks (N : Nat) (h : pH) (x1 : Int32) : Option (Unit × pH) :=
  fX9_looks_L14 N N (pw (pw h 49 21 0) 49 22 0) x1 0 0
set_option maxRecDepth 100000 in
set_option maxHeartbeats 4000000 in
theorem tX9_looks {X : Xt} {v : Unit} {h' : pH} (N : Nat) (h : pH) (x1 : Int32) (B : Bd (lo X) (qo X) cX9_looks RX9 5 none 1 23 none h' X) (hf : fX9_looks N h x1 = some (v, h')) : Wx X 5 0 [(0, rf (qo X) 49), (1, .int x1)] [] h := by
  have C := B.1
  unfold fX9_looks at hf
  refine x_aload_n (i := 0) 0 C dX9_looks_0 rfl rfl ?_
  refine x_iconst (v := 0) C dX9_looks_1 (by decide) ?_
  refine x_putI (r := 49) C dX9_looks_2 kfX9_158 rfl rfl rfl ?_
  refine x_aload_n (i := 0) 0 C dX9_looks_5 rfl rfl ?_
  refine x_iconst (v := 0) C dX9_looks_6 (by decide) ?_
  refine x_putI (r := 49) C dX9_looks_7 kfX9_161 rfl rfl rfl ?_
  refine x_iconst (v := 0) C dX9_looks_10 (by decide) ?_
  refine x_istore_n (i := 2) (lv' := [(2, .int 0), (0, rf (qo X) 49), (1, .int x1)]) C dX9_looks_11 rfl (by decide) rfl ?_
  refine x_iconst (v := 0) C dX9_looks_12 (by decide) ?_
  refine x_istore_n (i := 3) (lv' := [(3, .int 0), (2, .int 0), (0, rf (qo X) 49), (1, .int x1)]) C dX9_looks_13 rfl (by decide) rfl ?_
  refine x_lv [2, 3, 1, 0] rfl ?_
  exact tX9_looks_L14 N  B N (pw (pw h 49 21 0) 49 22 0) x1 0 0 hf
theorem ctX9_looks (l : Launch) (q : Nat → Nat) (N : Nat) (h : pH) (x1 : Int32) (v : Unit) (h' : pH) (hf : fX9_looks N h x1 = some (v, h')) : Ctr l q yX9_looks cX9_looks 5 none 1 23 [rf q 49, .int x1] h h' none := by
  refine ct_of (own := RX9) (lv := [(0, rf q 49), (1, .int x1)]) (by decide +kernel) rfl (by simp [lg_sl, rf_cat, cat_i, cat_l]) (by first | rfl | simp [lv_args, rf_cat, cat_i, cat_l]) ?_
  intro X B
  obtain rfl := B.2.1
  obtain rfl := B.2.2.1
  exact tX9_looks N h x1 B hf
def fX9_seen_b24 (N : Nat) (h : pH)  : Option (Int32 × pH) :=
  some ((-2), h)
set_option maxRecDepth 100000 in
set_option maxHeartbeats 4000000 in
theorem tX9_seen_b24 {X : Xt} {v : Int32} {h' : pH} (N : Nat) (h : pH)  (B : Bd (lo X) (qo X) cX9_seen RX9 3 (some .int) 1 25 (some (.int v)) h' X) (hf : fX9_seen_b24 N h  = some (v, h')) : Wx X 3 24 [] [] h := by
  have C := B.1
  unfold fX9_seen_b24 at hf
  refine x_bipush (v := (-2)) C dX9_seen_24 (by decide) ?_
  cases hf
  exact B.2.2.2.2.2.1 _ _ rfl rfl rfl _ _ dX9_seen_26
def fX9_seen (N : Nat) (h : pH) (x1 : Int32) (x2 : Int32) : Option (Int32 × pH) :=
  (fX9_in N h x1.toInt64 0 24).bind fun z1 => (if z1.1 = 0 then (fX9_seen_b24 N z1.2) else ((fX9_in N z1.2 x2.toInt64 0 18).bind fun z2 => (if z2.1 = 0 then (fX9_seen_b24 N z2.2) else (if (z2.2.1 49 27) = 8 then (some ((-4), z2.2)) else (if ix (2 * (z2.2.1 49 27)) 16 = true then (if ix ((2 * ((pw z2.2 67 (2 * (z2.2.1 49 27)).toNatClampNeg x1).1 49 27)) + 1) 16 = true then (some ((pw (pw (pw z2.2 67 (2 * (z2.2.1 49 27)).toNatClampNeg x1) 67 ((2 * ((pw z2.2 67 (2 * (z2.2.1 49 27)).toNatClampNeg x1).1 49 27)) + 1).toNatClampNeg x2) 49 27 (((pw (pw z2.2 67 (2 * (z2.2.1 49 27)).toNatClampNeg x1) 67 ((2 * ((pw z2.2 67 (2 * (z2.2.1 49 27)).toNatClampNeg x1).1 49 27)) + 1).toNatClampNeg x2).1 49 27) + 1)).1 49 27, (pw (pw (pw z2.2 67 (2 * (z2.2.1 49 27)).toNatClampNeg x1) 67 ((2 * ((pw z2.2 67 (2 * (z2.2.1 49 27)).toNatClampNeg x1).1 49 27)) + 1).toNatClampNeg x2) 49 27 (((pw (pw z2.2 67 (2 * (z2.2.1 49 27)).toNatClampNeg x1) 67 ((2 * ((pw z2.2 67 (2 * (z2.2.1 49 27)).toNatClampNeg x1).1 49 27)) + 1).toNatClampNeg x2).1 49 27) + 1)))) else none) else none)))))
set_option maxRecDepth 100000 in
set_option maxHeartbeats 4000000 in
theorem tX9_seen {X : Xt} {v : Int32} {h' : pH} (N : Nat) (h : pH) (x1 : Int32) (x2 : Int32) (B : Bd (lo X) (qo X) cX9_seen RX9 3 (some .int) 1 25 (some (.int v)) h' X) (hf : fX9_seen N h x1 x2 = some (v, h')) : Wx X 3 0 [(0, rf (qo X) 49), (1, .int x1), (2, .int x2)] [] h := by
  have C := B.1
  unfold fX9_seen at hf
  refine x_iload_n (i := 1) 1 C dX9_seen_0 rfl rfl ?_
  refine x_i2l C dX9_seen_1 ?_
  refine x_lconst (v := 0) C dX9_seen_2 (by decide) ?_
  refine x_ldc2 (v := 24) C dX9_seen_3 kkX9_239 ?_
  obtain ⟨z1, e1, hf⟩ := bnd hf
  refine x_callS (As := [.long x1.toInt64, .long 0, .long 24]) (rest := []) C dX9_seen_6 kmX9_69 miX9_in (ctX9_in (lo X) (qo X) N h x1.toInt64 0 24 z1.1 z1.2 e1) rfl rfl ⟨Nat.le_trans (by decide) B.2.2.2.1, Nat.le_trans (by decide) B.2.2.2.2.1⟩ (by simp [cat_i, cat_l, rf_cat]) ?_
  refine x_if_eq (tgt := 24) C dX9_seen_9 (by decide) (fun c => ?_) (fun c => ?_)
  · rw [if_pos c] at hf
    refine x_lv [] rfl ?_
    exact tX9_seen_b24 N z1.2 B hf
  · rw [if_neg c] at hf
    refine x_iload_n (i := 2) 2 C dX9_seen_12 rfl rfl ?_
    refine x_i2l C dX9_seen_13 ?_
    refine x_lconst (v := 0) C dX9_seen_14 (by decide) ?_
    refine x_ldc2 (v := 18) C dX9_seen_15 kkX9_141 ?_
    obtain ⟨z2, e2, hf⟩ := bnd hf
    refine x_callS (As := [.long x2.toInt64, .long 0, .long 18]) (rest := []) C dX9_seen_18 kmX9_69 miX9_in (ctX9_in (lo X) (qo X) N z1.2 x2.toInt64 0 18 z2.1 z2.2 e2) rfl rfl ⟨Nat.le_trans (by decide) B.2.2.2.1, Nat.le_trans (by decide) B.2.2.2.2.1⟩ (by simp [cat_i, cat_l, rf_cat]) ?_
    refine x_if_ne (tgt := 27) C dX9_seen_21 (by decide) (fun c => ?_) (fun c => ?_)
    · rw [if_neg c] at hf
      refine x_aload_n (i := 0) 0 C dX9_seen_27 rfl rfl ?_
      refine x_getI (r := 49) C dX9_seen_28 kfX9_241 rfl ?_
      refine x_bipush (v := 8) C dX9_seen_31 (by decide) ?_
      refine x_icmp_ne (tgt := 39) C dX9_seen_33 (by decide) (fun c => ?_) (fun c => ?_)
      · rw [if_neg c] at hf
        refine x_aload_n (i := 0) 0 C dX9_seen_39 rfl rfl ?_
        refine x_getR (r := 49) (r2 := 67) C dX9_seen_40 kfX9_61 rfl rfl (by decide) ?_
        refine x_iconst (v := 2) C dX9_seen_43 (by decide) ?_
        refine x_aload_n (i := 0) 0 C dX9_seen_44 rfl rfl ?_
        refine x_getI (r := 49) C dX9_seen_45 kfX9_241 rfl ?_
        refine x_imul C dX9_seen_48 ?_
        refine x_iload_n (i := 1) 1 C dX9_seen_49 rfl rfl ?_
        obtain ⟨g1, hf⟩ := ife hf
        refine x_iast (r := 67) C dX9_seen_50 rfl g1 ?_
        refine x_aload_n (i := 0) 0 C dX9_seen_51 rfl rfl ?_
        refine x_getR (r := 49) (r2 := 67) C dX9_seen_52 kfX9_61 rfl rfl (by decide) ?_
        refine x_iconst (v := 2) C dX9_seen_55 (by decide) ?_
        refine x_aload_n (i := 0) 0 C dX9_seen_56 rfl rfl ?_
        refine x_getI (r := 49) C dX9_seen_57 kfX9_241 rfl ?_
        refine x_imul C dX9_seen_60 ?_
        refine x_iconst (v := 1) C dX9_seen_61 (by decide) ?_
        refine x_iadd C dX9_seen_62 ?_
        refine x_iload_n (i := 2) 2 C dX9_seen_63 rfl rfl ?_
        obtain ⟨g2, hf⟩ := ife hf
        refine x_iast (r := 67) C dX9_seen_64 rfl g2 ?_
        refine x_aload_n (i := 0) 0 C dX9_seen_65 rfl rfl ?_
        refine x_dupA C dX9_seen_66 ?_
        refine x_getI (r := 49) C dX9_seen_67 kfX9_241 rfl ?_
        refine x_iconst (v := 1) C dX9_seen_70 (by decide) ?_
        refine x_iadd C dX9_seen_71 ?_
        refine x_putI (r := 49) C dX9_seen_72 kfX9_241 rfl rfl rfl ?_
        refine x_aload_n (i := 0) 0 C dX9_seen_75 rfl rfl ?_
        refine x_getI (r := 49) C dX9_seen_76 kfX9_241 rfl ?_
        cases hf
        exact B.2.2.2.2.2.1 _ _ rfl rfl rfl _ _ dX9_seen_79
      · rw [if_pos c] at hf
        refine x_bipush (v := (-4)) C dX9_seen_36 (by decide) ?_
        cases hf
        exact B.2.2.2.2.2.1 _ _ rfl rfl rfl _ _ dX9_seen_38
    · rw [if_pos c] at hf
      refine x_lv [] rfl ?_
      exact tX9_seen_b24 N z2.2 B hf
theorem ctX9_seen (l : Launch) (q : Nat → Nat) (N : Nat) (h : pH) (x1 : Int32) (x2 : Int32) (v : Int32) (h' : pH) (hf : fX9_seen N h x1 x2 = some (v, h')) : Ctr l q yX9_seen cX9_seen 3 (some .int) 1 25 [rf q 49, .int x1, .int x2] h h' (some (.int v)) := by
  refine ct_of (own := RX9) (lv := [(0, rf q 49), (1, .int x1), (2, .int x2)]) (by decide +kernel) rfl (by simp [lg_sl, rf_cat, cat_i, cat_l]) (by first | rfl | simp [lv_args, rf_cat, cat_i, cat_l]) ?_
  intro X B
  obtain rfl := B.2.1
  obtain rfl := B.2.2.1
  exact tX9_seen N h x1 x2 B hf
