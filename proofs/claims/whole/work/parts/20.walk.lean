def fJ9_min_7cf53_b10 (N : Nat) (h : pH) (xs0 : Int32) : Option (Int32 × pH) :=
  some (xs0, h)
set_option maxRecDepth 100000 in
set_option maxHeartbeats 4000000 in
theorem tJ9_min_7cf53_b10 {X : Xt} {v : Int32} {h' : pH} (N : Nat) (h : pH) (xs0 : Int32) (B : Bd (lo X) (qo X) cJ9_min_7cf53 RJ9 2 (some .int) 0 0 (some (.int v)) h' X) (hf : fJ9_min_7cf53_b10 N h xs0 = some (v, h')) : Wx X 2 10 [] [.int xs0] h := by
  have C := B.1
  unfold fJ9_min_7cf53_b10 at hf
  obtain ⟨rfl, rfl⟩ := rtn hf
  exact B.2.2.2.2.2.1 _ _ rfl rfl rfl _ _ dJ9_min_7cf53_10
def fJ9_min_7cf53 (N : Nat) (h : pH) (x0 : Int32) (x1 : Int32) : Option (Int32 × pH) :=
  if x1 < x0 then (fJ9_min_7cf53_b10 N h x1) else (fJ9_min_7cf53_b10 N h x0)
set_option maxRecDepth 100000 in
set_option maxHeartbeats 4000000 in
theorem tJ9_min_7cf53 {X : Xt} {v : Int32} {h' : pH} (N : Nat) (h : pH) (x0 : Int32) (x1 : Int32) (B : Bd (lo X) (qo X) cJ9_min_7cf53 RJ9 2 (some .int) 0 0 (some (.int v)) h' X) (hf : fJ9_min_7cf53 N h x0 x1 = some (v, h')) : Wx X 2 0 [(0, .int x0), (1, .int x1)] [] h := by
  have C := B.1
  unfold fJ9_min_7cf53 at hf
  refine x_iload_n (i := 0) 0 C dJ9_min_7cf53_0 rfl rfl ?_
  refine x_iload_n (i := 1) 1 C dJ9_min_7cf53_1 rfl rfl ?_
  refine x_icmp_gt (tgt := 9) C dJ9_min_7cf53_2 (by decide) (fun c => ?_) (fun c => ?_)
  · rw [if_pos c] at hf
    refine x_iload_n (i := 1) 1 C dJ9_min_7cf53_9 rfl rfl ?_
    refine x_lv [] rfl ?_
    exact tJ9_min_7cf53_b10 N h x1 B hf
  · rw [if_neg c] at hf
    refine x_iload_n (i := 0) 0 C dJ9_min_7cf53_5 rfl rfl ?_
    refine x_goto (tgt := 10) C dJ9_min_7cf53_6 (by decide) ?_
    refine x_lv [] rfl ?_
    exact tJ9_min_7cf53_b10 N h x0 B hf
theorem ctJ9_min_7cf53 (l : Launch) (q : Nat → Nat) (N : Nat) (h : pH) (x0 : Int32) (x1 : Int32) (v : Int32) (h' : pH) (hf : fJ9_min_7cf53 N h x0 x1 = some (v, h')) : Ctr l q yJ9_min_7cf53 cJ9_min_7cf53 2 (some .int) 0 0 [.int x0, .int x1] h h' (some (.int v)) := by
  refine ct_of (own := RJ9) (lv := [(0, .int x0), (1, .int x1)]) (by decide +kernel) rfl (by simp [lg_sl, rf_cat, cat_i, cat_l]) (by first | rfl | simp [lv_args, rf_cat, cat_i, cat_l]) ?_
  intro X B
  obtain rfl := B.2.1
  obtain rfl := B.2.2.1
  exact tJ9_min_7cf53 N h x0 x1 B hf
def fX7_at_b22 (N : Nat) (h : pH) (xs0 : Int32) : Option (Int32 × pH) :=
  some (xs0, h)
set_option maxRecDepth 100000 in
set_option maxHeartbeats 4000000 in
theorem tX7_at_b22 {X : Xt} {v : Int32} {h' : pH} (N : Nat) (h : pH) (xs0 : Int32) (B : Bd (lo X) (qo X) cX7_at RX7 2 (some .int) 0 0 (some (.int v)) h' X) (hf : fX7_at_b22 N h xs0 = some (v, h')) : Wx X 2 22 [] [.int xs0] h := by
  have C := B.1
  unfold fX7_at_b22 at hf
  obtain ⟨rfl, rfl⟩ := rtn hf
  exact B.2.2.2.2.2.1 _ _ rfl rfl rfl _ _ dX7_at_22
def fX7_at_b21 (N : Nat) (h : pH)  : Option (Int32 × pH) :=
  fX7_at_b22 N h (-1)
set_option maxRecDepth 100000 in
set_option maxHeartbeats 4000000 in
theorem tX7_at_b21 {X : Xt} {v : Int32} {h' : pH} (N : Nat) (h : pH)  (B : Bd (lo X) (qo X) cX7_at RX7 2 (some .int) 0 0 (some (.int v)) h' X) (hf : fX7_at_b21 N h  = some (v, h')) : Wx X 2 21 [] [] h := by
  have C := B.1
  unfold fX7_at_b21 at hf
  refine x_iconst (v := (-1)) C dX7_at_21 (by decide) ?_
  exact tX7_at_b22 N h (-1) B hf
def fX7_at (N : Nat) (h : pH) (r0 : Nat) (x1 : Int32) : Option (Int32 × pH) :=
  if x1 < 0 then (fX7_at_b21 N h) else (if fI 7 1 r0 = true then (if (h.1 r0 1) ≤ x1 then (fX7_at_b21 N h) else (if isO 7 r0 = true ∧ ¬ fR r0 0 = 0 then (if aK (fR r0 0) = 0 ∧ ix x1 (aN (fR r0 0)) = true then (fX7_at_b22 N h (h.1 (fR r0 0) x1.toNatClampNeg)) else none) else none)) else none)
set_option maxRecDepth 100000 in
set_option maxHeartbeats 4000000 in
theorem tX7_at {X : Xt} {v : Int32} {h' : pH} (N : Nat) (h : pH) (r0 : Nat) (x1 : Int32) (B : Bd (lo X) (qo X) cX7_at RX7 2 (some .int) 0 0 (some (.int v)) h' X) (hf : fX7_at N h r0 x1 = some (v, h')) : Wx X 2 0 [(0, rf (qo X) r0), (1, .int x1)] [] h := by
  have C := B.1
  unfold fX7_at at hf
  refine x_iload_n (i := 1) 1 C dX7_at_0 rfl rfl ?_
  refine x_if_lt (tgt := 21) C dX7_at_1 (by decide) (fun c => ?_) (fun c => ?_)
  · rw [if_pos c] at hf
    refine x_lv [] rfl ?_
    exact tX7_at_b21 N h B hf
  · rw [if_neg c] at hf
    refine x_iload_n (i := 1) 1 C dX7_at_4 rfl rfl ?_
    refine x_aload_n (i := 0) 0 C dX7_at_5 rfl rfl ?_
    obtain ⟨g1, hf⟩ := ife hf
    refine x_getI (r := r0) C dX7_at_6 kfX7_21 g1 ?_
    refine x_icmp_ge (tgt := 21) C dX7_at_9 (by decide) (fun c => ?_) (fun c => ?_)
    · rw [if_pos c] at hf
      refine x_lv [] rfl ?_
      exact tX7_at_b21 N h B hf
    · rw [if_neg c] at hf
      refine x_aload_n (i := 0) 0 C dX7_at_12 rfl rfl ?_
      obtain ⟨g2, hf⟩ := ife hf
      refine x_getR (r := r0) C dX7_at_13 kfX7_15 g2.1 rfl g2.2 ?_
      refine x_iload_n (i := 1) 1 C dX7_at_16 rfl rfl ?_
      obtain ⟨g3, hf⟩ := ife hf
      refine x_iald (r := (fR r0 0)) C dX7_at_17 g3.1 g3.2 ?_
      refine x_goto (tgt := 22) C dX7_at_18 (by decide) ?_
      refine x_lv [] rfl ?_
      exact tX7_at_b22 N h (h.1 (fR r0 0) x1.toNatClampNeg) B hf
theorem ctX7_at (l : Launch) (q : Nat → Nat) (N : Nat) (h : pH) (r0 : Nat) (x1 : Int32) (v : Int32) (h' : pH) (hf : fX7_at N h r0 x1 = some (v, h')) : Ctr l q yX7_at cX7_at 2 (some .int) 0 0 [rf q r0, .int x1] h h' (some (.int v)) := by
  refine ct_of (own := RX7) (lv := [(0, rf q r0), (1, .int x1)]) (by decide +kernel) rfl (by simp [lg_sl, rf_cat, cat_i, cat_l]) (by first | rfl | simp [lv_args, rf_cat, cat_i, cat_l]) ?_
  intro X B
  obtain rfl := B.2.1
  obtain rfl := B.2.2.1
  exact tX7_at N h r0 x1 B hf
def fX0_isHole_b19 (N : Nat) (h : pH)  : Option (Int32 × pH) :=
  some (1, h)
set_option maxRecDepth 100000 in
set_option maxHeartbeats 4000000 in
theorem tX0_isHole_b19 {X : Xt} {v : Int32} {h' : pH} (N : Nat) (h : pH)  (B : Bd (lo X) (qo X) cX0_isHole RX0 5 (some .boolean) 0 0 (some (.int v)) h' X) (hf : fX0_isHole_b19 N h  = some (v, h')) : Wx X 5 19 [] [] h := by
  have C := B.1
  unfold fX0_isHole_b19 at hf
  refine x_iconst (v := 1) C dX0_isHole_19 (by decide) ?_
  obtain ⟨rfl, rfl⟩ := rtn hf
  exact B.2.2.2.2.2.1 _ _ rfl rfl (nrB (Or.inr rfl)) _ _ dX0_isHole_20
def fX0_isHole_b60 (N : Nat) (h : pH) (xs0 : Int32) : Option (Int32 × pH) :=
  if xs0 = 0 ∨ xs0 = 1 then (some (xs0, h)) else none
set_option maxRecDepth 100000 in
set_option maxHeartbeats 4000000 in
theorem tX0_isHole_b60 {X : Xt} {v : Int32} {h' : pH} (N : Nat) (h : pH) (xs0 : Int32) (B : Bd (lo X) (qo X) cX0_isHole RX0 5 (some .boolean) 0 0 (some (.int v)) h' X) (hf : fX0_isHole_b60 N h xs0 = some (v, h')) : Wx X 5 60 [] [.int xs0] h := by
  have C := B.1
  unfold fX0_isHole_b60 at hf
  obtain ⟨g1, hf⟩ := ife hf
  obtain ⟨rfl, rfl⟩ := rtn hf
  exact B.2.2.2.2.2.1 _ _ rfl rfl (nrB g1) _ _ dX0_isHole_60
def fX0_isHole_b59 (N : Nat) (h : pH)  : Option (Int32 × pH) :=
  fX0_isHole_b60 N h 0
set_option maxRecDepth 100000 in
set_option maxHeartbeats 4000000 in
theorem tX0_isHole_b59 {X : Xt} {v : Int32} {h' : pH} (N : Nat) (h : pH)  (B : Bd (lo X) (qo X) cX0_isHole RX0 5 (some .boolean) 0 0 (some (.int v)) h' X) (hf : fX0_isHole_b59 N h  = some (v, h')) : Wx X 5 59 [] [] h := by
  have C := B.1
  unfold fX0_isHole_b59 at hf
  refine x_iconst (v := 0) C dX0_isHole_59 (by decide) ?_
  exact tX0_isHole_b60 N h 0 B hf
def fX0_isHole_b38 (N : Nat) (h : pH) (x1 : Int32) (xs0 : Int32) : Option (Int32 × pH) :=
  if (h.1 9 0) < 7 then (fX0_isHole_b59 N h) else (if x1 = xs0 then (fX0_isHole_b60 N h 1) else (fX0_isHole_b59 N h))
set_option maxRecDepth 100000 in
set_option maxHeartbeats 4000000 in
theorem tX0_isHole_b38 {X : Xt} {v : Int32} {h' : pH} (N : Nat) (h : pH) (x1 : Int32) (xs0 : Int32) (B : Bd (lo X) (qo X) cX0_isHole RX0 5 (some .boolean) 0 0 (some (.int v)) h' X) (hf : fX0_isHole_b38 N h x1 xs0 = some (v, h')) : Wx X 5 38 [(0, rf (qo X) 9), (1, .int x1)] [.int xs0] h := by
  have C := B.1
  unfold fX0_isHole_b38 at hf
  refine x_istore (lv' := [(4, .int xs0), (0, rf (qo X) 9), (1, .int x1)]) C dX0_isHole_38 (by decide) rfl ?_
  refine x_aload_n (i := 0) 1 C dX0_isHole_40 rfl rfl ?_
  refine x_getI (r := 9) C dX0_isHole_41 kfX0_9 rfl ?_
  refine x_bipush (v := 7) C dX0_isHole_44 (by decide) ?_
  refine x_icmp_lt (tgt := 59) C dX0_isHole_46 (by decide) (fun c => ?_) (fun c => ?_)
  · rw [if_pos c] at hf
    refine x_lv [] rfl ?_
    exact tX0_isHole_b59 N h B hf
  · rw [if_neg c] at hf
    refine x_iload_n (i := 1) 2 C dX0_isHole_49 rfl rfl ?_
    refine x_iload 0 C dX0_isHole_50 rfl ?_
    refine x_icmp_ne (tgt := 59) C dX0_isHole_52 (by decide) (fun c => ?_) (fun c => ?_)
    · rw [if_neg c] at hf
      refine x_lv [] rfl ?_
      exact tX0_isHole_b59 N h B hf
    · rw [if_pos c] at hf
      refine x_iconst (v := 1) C dX0_isHole_55 (by decide) ?_
      refine x_goto (tgt := 60) C dX0_isHole_56 (by decide) ?_
      refine x_lv [] rfl ?_
      exact tX0_isHole_b60 N h 1 B hf
def fX0_isHole_b21 (N : Nat) (h : pH) (x1 : Int32) (x3 : Int32) : Option (Int32 × pH) :=
  if (h.1 9 3) ≤ (x3 + 1) then (fX0_isHole_b38 N h x1 0) else (fX0_isHole_b38 N h x1 (x3 + 1))
set_option maxRecDepth 100000 in
set_option maxHeartbeats 4000000 in
theorem tX0_isHole_b21 {X : Xt} {v : Int32} {h' : pH} (N : Nat) (h : pH) (x1 : Int32) (x3 : Int32) (B : Bd (lo X) (qo X) cX0_isHole RX0 5 (some .boolean) 0 0 (some (.int v)) h' X) (hf : fX0_isHole_b21 N h x1 x3 = some (v, h')) : Wx X 5 21 [(0, rf (qo X) 9), (1, .int x1), (3, .int x3)] [] h := by
  have C := B.1
  unfold fX0_isHole_b21 at hf
  refine x_iload_n (i := 3) 2 C dX0_isHole_21 rfl rfl ?_
  refine x_iconst (v := 1) C dX0_isHole_22 (by decide) ?_
  refine x_iadd C dX0_isHole_23 ?_
  refine x_aload_n (i := 0) 0 C dX0_isHole_24 rfl rfl ?_
  refine x_getI (r := 9) C dX0_isHole_25 kfX0_38 rfl ?_
  refine x_icmp_ge (tgt := 37) C dX0_isHole_28 (by decide) (fun c => ?_) (fun c => ?_)
  · rw [if_pos c] at hf
    refine x_iconst (v := 0) C dX0_isHole_37 (by decide) ?_
    refine x_lv [0, 1] rfl ?_
    exact tX0_isHole_b38 N h x1 0 B hf
  · rw [if_neg c] at hf
    refine x_iload_n (i := 3) 2 C dX0_isHole_31 rfl rfl ?_
    refine x_iconst (v := 1) C dX0_isHole_32 (by decide) ?_
    refine x_iadd C dX0_isHole_33 ?_
    refine x_goto (tgt := 38) C dX0_isHole_34 (by decide) ?_
    refine x_lv [0, 1] rfl ?_
    exact tX0_isHole_b38 N h x1 (x3 + 1) B hf
def fX0_isHole (N : Nat) (h : pH) (x1 : Int32) (x2 : Int32) (x3 : Int32) : Option (Int32 × pH) :=
  if x1 = x3 then (fX0_isHole_b19 N h) else (if x2 = 1 then (if ix x1 19 = true then (if (h.1 11 x1.toNatClampNeg) = 0 then (fX0_isHole_b21 N h x1 x3) else (fX0_isHole_b19 N h)) else none) else (fX0_isHole_b21 N h x1 x3))
set_option maxRecDepth 100000 in
set_option maxHeartbeats 4000000 in
theorem tX0_isHole {X : Xt} {v : Int32} {h' : pH} (N : Nat) (h : pH) (x1 : Int32) (x2 : Int32) (x3 : Int32) (B : Bd (lo X) (qo X) cX0_isHole RX0 5 (some .boolean) 0 0 (some (.int v)) h' X) (hf : fX0_isHole N h x1 x2 x3 = some (v, h')) : Wx X 5 0 [(0, rf (qo X) 9), (1, .int x1), (2, .int x2), (3, .int x3)] [] h := by
  have C := B.1
  unfold fX0_isHole at hf
  refine x_iload_n (i := 1) 1 C dX0_isHole_0 rfl rfl ?_
  refine x_iload_n (i := 3) 3 C dX0_isHole_1 rfl rfl ?_
  refine x_icmp_eq (tgt := 19) C dX0_isHole_2 (by decide) (fun c => ?_) (fun c => ?_)
  · rw [if_pos c] at hf
    refine x_lv [] rfl ?_
    exact tX0_isHole_b19 N h B hf
  · rw [if_neg c] at hf
    refine x_iload_n (i := 2) 2 C dX0_isHole_5 rfl rfl ?_
    refine x_iconst (v := 1) C dX0_isHole_6 (by decide) ?_
    refine x_icmp_ne (tgt := 21) C dX0_isHole_7 (by decide) (fun c => ?_) (fun c => ?_)
    · rw [if_neg c] at hf
      refine x_lv [0, 1, 3] rfl ?_
      exact tX0_isHole_b21 N h x1 x3 B hf
    · rw [if_pos c] at hf
      refine x_aload_n (i := 0) 0 C dX0_isHole_10 rfl rfl ?_
      refine x_getR (r := 9) (r2 := 11) C dX0_isHole_11 kfX0_22 rfl rfl (by decide) ?_
      refine x_iload_n (i := 1) 1 C dX0_isHole_14 rfl rfl ?_
      obtain ⟨g1, hf⟩ := ife hf
      refine x_zald (r := 11) C dX0_isHole_15 rfl g1 ?_
      refine x_if_eq (tgt := 21) C dX0_isHole_16 (by decide) (fun c => ?_) (fun c => ?_)
      · rw [if_pos c] at hf
        refine x_lv [0, 1, 3] rfl ?_
        exact tX0_isHole_b21 N h x1 x3 B hf
      · rw [if_neg c] at hf
        refine x_lv [] rfl ?_
        exact tX0_isHole_b19 N h B hf
theorem ctX0_isHole (l : Launch) (q : Nat → Nat) (N : Nat) (h : pH) (x1 : Int32) (x2 : Int32) (x3 : Int32) (v : Int32) (h' : pH) (hf : fX0_isHole N h x1 x2 x3 = some (v, h')) : Ctr l q yX0_isHole cX0_isHole 5 (some .boolean) 0 0 [rf q 9, .int x1, .int x2, .int x3] h h' (some (.int v)) := by
  refine ct_of (own := RX0) (lv := [(0, rf q 9), (1, .int x1), (2, .int x2), (3, .int x3)]) (by decide +kernel) rfl (by simp [lg_sl, rf_cat, cat_i, cat_l]) (by first | rfl | simp [lv_args, rf_cat, cat_i, cat_l]) ?_
  intro X B
  obtain rfl := B.2.1
  obtain rfl := B.2.2.1
  exact tX0_isHole N h x1 x2 x3 B hf
def fJ9_max_7cf53_b10 (N : Nat) (h : pH) (xs0 : Int32) : Option (Int32 × pH) :=
  some (xs0, h)
set_option maxRecDepth 100000 in
set_option maxHeartbeats 4000000 in
theorem tJ9_max_7cf53_b10 {X : Xt} {v : Int32} {h' : pH} (N : Nat) (h : pH) (xs0 : Int32) (B : Bd (lo X) (qo X) cJ9_max_7cf53 RJ9 2 (some .int) 0 0 (some (.int v)) h' X) (hf : fJ9_max_7cf53_b10 N h xs0 = some (v, h')) : Wx X 2 10 [] [.int xs0] h := by
  have C := B.1
  unfold fJ9_max_7cf53_b10 at hf
  obtain ⟨rfl, rfl⟩ := rtn hf
  exact B.2.2.2.2.2.1 _ _ rfl rfl rfl _ _ dJ9_max_7cf53_10
def fJ9_max_7cf53 (N : Nat) (h : pH) (x0 : Int32) (x1 : Int32) : Option (Int32 × pH) :=
  if x0 < x1 then (fJ9_max_7cf53_b10 N h x1) else (fJ9_max_7cf53_b10 N h x0)
set_option maxRecDepth 100000 in
set_option maxHeartbeats 4000000 in
theorem tJ9_max_7cf53 {X : Xt} {v : Int32} {h' : pH} (N : Nat) (h : pH) (x0 : Int32) (x1 : Int32) (B : Bd (lo X) (qo X) cJ9_max_7cf53 RJ9 2 (some .int) 0 0 (some (.int v)) h' X) (hf : fJ9_max_7cf53 N h x0 x1 = some (v, h')) : Wx X 2 0 [(0, .int x0), (1, .int x1)] [] h := by
  have C := B.1
  unfold fJ9_max_7cf53 at hf
  refine x_iload_n (i := 0) 0 C dJ9_max_7cf53_0 rfl rfl ?_
  refine x_iload_n (i := 1) 1 C dJ9_max_7cf53_1 rfl rfl ?_
  refine x_icmp_lt (tgt := 9) C dJ9_max_7cf53_2 (by decide) (fun c => ?_) (fun c => ?_)
  · rw [if_pos c] at hf
    refine x_iload_n (i := 1) 1 C dJ9_max_7cf53_9 rfl rfl ?_
    refine x_lv [] rfl ?_
    exact tJ9_max_7cf53_b10 N h x1 B hf
  · rw [if_neg c] at hf
    refine x_iload_n (i := 0) 0 C dJ9_max_7cf53_5 rfl rfl ?_
    refine x_goto (tgt := 10) C dJ9_max_7cf53_6 (by decide) ?_
    refine x_lv [] rfl ?_
    exact tJ9_max_7cf53_b10 N h x0 B hf
theorem ctJ9_max_7cf53 (l : Launch) (q : Nat → Nat) (N : Nat) (h : pH) (x0 : Int32) (x1 : Int32) (v : Int32) (h' : pH) (hf : fJ9_max_7cf53 N h x0 x1 = some (v, h')) : Ctr l q yJ9_max_7cf53 cJ9_max_7cf53 2 (some .int) 0 0 [.int x0, .int x1] h h' (some (.int v)) := by
  refine ct_of (own := RJ9) (lv := [(0, .int x0), (1, .int x1)]) (by decide +kernel) rfl (by simp [lg_sl, rf_cat, cat_i, cat_l]) (by first | rfl | simp [lv_args, rf_cat, cat_i, cat_l]) ?_
  intro X B
  obtain rfl := B.2.1
  obtain rfl := B.2.2.1
  exact tJ9_max_7cf53 N h x0 x1 B hf
def fX0_measure_b59 (N : Nat) (k11 : pH → Int32 → Int32 → Int32 → Int32 → Int32 → Int32 → Option (Unit × pH)) (h : pH) (x1 : Int32) (x2 : Int32) (x3 : Int32) (x4 : Int32) (x5 : Int32) (x6 : Int32) : Option (Unit × pH) :=
  k11 h x1 x2 x3 x4 x5 (x6 + 1)
set_option maxRecDepth 100000 in
set_option maxHeartbeats 4000000 in
theorem tX0_measure_b59 {X : Xt} {v : Unit} {h' : pH} (N : Nat) (k11 : pH → Int32 → Int32 → Int32 → Int32 → Int32 → Int32 → Option (Unit × pH)) (HK11 : ∀ (h : pH) (x1 : Int32) (x2 : Int32) (x3 : Int32) (x4 : Int32) (x5 : Int32) (x6 : Int32), k11 h x1 x2 x3 x4 x5 x6 = some (v, h') → Wx X 7 11 [(0, rf (qo X) 9), (1, .int x1), (2, .int x2), (3, .int x3), (4, .int x4), (5, .int x5), (6, .int x6)] [] h) (h : pH) (x1 : Int32) (x2 : Int32) (x3 : Int32) (x4 : Int32) (x5 : Int32) (x6 : Int32) (B : Bd (lo X) (qo X) cX0_measure RX0 7 none 1 24 none h' X) (hf : fX0_measure_b59 N k11 h x1 x2 x3 x4 x5 x6 = some (v, h')) : Wx X 7 59 [(0, rf (qo X) 9), (1, .int x1), (2, .int x2), (3, .int x3), (4, .int x4), (5, .int x5), (6, .int x6)] [] h := by
  have C := B.1
  unfold fX0_measure_b59 at hf
  refine x_iinc (v := x6 + 1) (lv' := [(6, .int (x6 + 1)), (0, rf (qo X) 9), (1, .int x1), (2, .int x2), (3, .int x3), (4, .int x4), (5, .int x5)]) 6 C dX0_measure_59 rfl rfl (by decide) rfl ?_
  refine x_goto (tgt := 11) C dX0_measure_62 (by decide) ?_
  refine x_lv [1, 2, 3, 4, 5, 6, 0] rfl ?_
  exact HK11 h x1 x2 x3 x4 x5 (x6 + 1) hf
def fX0_measure_b39 (N : Nat) (k11 : pH → Int32 → Int32 → Int32 → Int32 → Int32 → Int32 → Option (Unit × pH)) (h : pH) (x1 : Int32) (x2 : Int32) (x3 : Int32) (x4 : Int32) (x6 : Int32) (xs0 : Int32) : Option (Unit × pH) :=
  (fJ9_max_7cf53 N h x4 xs0).bind fun z1 => (if xs0 = 1 then (fX0_measure_b59 N k11 z1.2 x1 x2 (x3 + 1) z1.1 xs0 x6) else (fX0_measure_b59 N k11 z1.2 x1 x2 x3 z1.1 xs0 x6))
set_option maxRecDepth 100000 in
set_option maxHeartbeats 4000000 in
theorem tX0_measure_b39 {X : Xt} {v : Unit} {h' : pH} (N : Nat) (k11 : pH → Int32 → Int32 → Int32 → Int32 → Int32 → Int32 → Option (Unit × pH)) (HK11 : ∀ (h : pH) (x1 : Int32) (x2 : Int32) (x3 : Int32) (x4 : Int32) (x5 : Int32) (x6 : Int32), k11 h x1 x2 x3 x4 x5 x6 = some (v, h') → Wx X 7 11 [(0, rf (qo X) 9), (1, .int x1), (2, .int x2), (3, .int x3), (4, .int x4), (5, .int x5), (6, .int x6)] [] h) (h : pH) (x1 : Int32) (x2 : Int32) (x3 : Int32) (x4 : Int32) (x6 : Int32) (xs0 : Int32) (B : Bd (lo X) (qo X) cX0_measure RX0 7 none 1 24 none h' X) (hf : fX0_measure_b39 N k11 h x1 x2 x3 x4 x6 xs0 = some (v, h')) : Wx X 7 39 [(0, rf (qo X) 9), (1, .int x1), (2, .int x2), (3, .int x3), (4, .int x4), (6, .int x6)] [.int xs0] h := by
  have C := B.1
  unfold fX0_measure_b39 at hf
  refine x_istore (lv' := [(5, .int xs0), (0, rf (qo X) 9), (1, .int x1), (2, .int x2), (3, .int x3), (4, .int x4), (6, .int x6)]) C dX0_measure_39 (by decide) rfl ?_
  refine x_iload 5 C dX0_measure_41 rfl ?_
  refine x_iload 0 C dX0_measure_43 rfl ?_
  obtain ⟨z1, e1, hf⟩ := bnd hf
  refine x_callS (As := [.int x4, .int xs0]) (rest := []) C dX0_measure_45 kmX0_55 miJ9_max_7cf53 (ctJ9_max_7cf53 (lo X) (qo X) N h x4 xs0 z1.1 z1.2 e1) rfl rfl ⟨Nat.le_trans (by decide) B.2.2.2.1, Nat.le_trans (by decide) B.2.2.2.2.1⟩ (by simp [cat_i, cat_l, rf_cat]) ?_
  refine x_istore (lv' := [(4, .int z1.1), (5, .int xs0), (0, rf (qo X) 9), (1, .int x1), (2, .int x2), (3, .int x3), (6, .int x6)]) C dX0_measure_48 (by decide) rfl ?_
  refine x_iload 1 C dX0_measure_50 rfl ?_
  refine x_iconst (v := 1) C dX0_measure_52 (by decide) ?_
  refine x_icmp_ne (tgt := 59) C dX0_measure_53 (by decide) (fun c => ?_) (fun c => ?_)
  · rw [if_neg c] at hf
    refine x_lv [2, 3, 4, 5, 0, 1, 6] rfl ?_
    exact tX0_measure_b59 N k11 HK11 z1.2 x1 x2 x3 z1.1 xs0 x6 B hf
  · rw [if_pos c] at hf
    refine x_iinc (v := x3 + 1) (lv' := [(3, .int (x3 + 1)), (4, .int z1.1), (5, .int xs0), (0, rf (qo X) 9), (1, .int x1), (2, .int x2), (6, .int x6)]) 5 C dX0_measure_56 rfl rfl (by decide) rfl ?_
    refine x_lv [3, 4, 5, 0, 1, 2, 6] rfl ?_
    exact tX0_measure_b59 N k11 HK11 z1.2 x1 x2 (x3 + 1) z1.1 xs0 x6 B hf
def fX0_measure_B11 (N : Nat) (k11 : pH → Int32 → Int32 → Int32 → Int32 → Int32 → Int32 → Option (Unit × pH)) (h : pH) (x1 : Int32) (x2 : Int32) (x3 : Int32) (x4 : Int32) (x5 : Int32) (x6 : Int32) : Option (Unit × pH) :=
  if (h.1 9 3) ≤ x6 then (if ix ((x1 * 19) + x2) 38 = true then (if ix ((x1 * 19) + x2) 38 = true then (some ((), (pw (pw h 12 ((x1 * 19) + x2).toNatClampNeg x3) 13 ((x1 * 19) + x2).toNatClampNeg x4))) else none) else none) else ((fX0_isHole N h x6 x1 x2).bind fun z1 => (if z1.1 = 0 then (fX0_measure_b39 N k11 z1.2 x1 x2 x3 x4 x6 0) else (fX0_measure_b39 N k11 z1.2 x1 x2 x3 x4 x6 (x5 + 1))))
set_option maxRecDepth 100000 in
set_option maxHeartbeats 4000000 in
theorem tX0_measure_B11 {X : Xt} {v : Unit} {h' : pH} (N : Nat) (k11 : pH → Int32 → Int32 → Int32 → Int32 → Int32 → Int32 → Option (Unit × pH)) (HK11 : ∀ (h : pH) (x1 : Int32) (x2 : Int32) (x3 : Int32) (x4 : Int32) (x5 : Int32) (x6 : Int32), k11 h x1 x2 x3 x4 x5 x6 = some (v, h') → Wx X 7 11 [(0, rf (qo X) 9), (1, .int x1), (2, .int x2), (3, .int x3), (4, .int x4), (5, .int x5), (6, .int x6)] [] h) (h : pH) (x1 : Int32) (x2 : Int32) (x3 : Int32) (x4 : Int32) (x5 : Int32) (x6 : Int32) (B : Bd (lo X) (qo X) cX0_measure RX0 7 none 1 24 none h' X) (hf : fX0_measure_B11 N k11 h x1 x2 x3 x4 x5 x6 = some (v, h')) : Wx X 7 11 [(0, rf (qo X) 9), (1, .int x1), (2, .int x2), (3, .int x3), (4, .int x4), (5, .int x5), (6, .int x6)] [] h := by
  have C := B.1
  unfold fX0_measure_B11 at hf
  refine x_iload 6 C dX0_measure_11 rfl ?_
  refine x_aload_n (i := 0) 0 C dX0_measure_13 rfl rfl ?_
  refine x_getI (r := 9) C dX0_measure_14 kfX0_38 rfl ?_
  refine x_icmp_ge (tgt := 65) C dX0_measure_17 (by decide) (fun c => ?_) (fun c => ?_)
  · rw [if_pos c] at hf
    refine x_aload_n (i := 0) 0 C dX0_measure_65 rfl rfl ?_
    refine x_getR (r := 9) (r2 := 12) C dX0_measure_66 kfX0_26 rfl rfl (by decide) ?_
    refine x_iload_n (i := 1) 1 C dX0_measure_69 rfl rfl ?_
    refine x_bipush (v := 19) C dX0_measure_70 (by decide) ?_
    refine x_imul C dX0_measure_72 ?_
    refine x_iload_n (i := 2) 2 C dX0_measure_73 rfl rfl ?_
    refine x_iadd C dX0_measure_74 ?_
    refine x_iload_n (i := 3) 3 C dX0_measure_75 rfl rfl ?_
    obtain ⟨g1, hf⟩ := ife hf
    refine x_iast (r := 12) C dX0_measure_76 rfl g1 ?_
    refine x_aload_n (i := 0) 0 C dX0_measure_77 rfl rfl ?_
    refine x_getR (r := 9) (r2 := 13) C dX0_measure_78 kfX0_29 rfl rfl (by decide) ?_
    refine x_iload_n (i := 1) 1 C dX0_measure_81 rfl rfl ?_
    refine x_bipush (v := 19) C dX0_measure_82 (by decide) ?_
    refine x_imul C dX0_measure_84 ?_
    refine x_iload_n (i := 2) 2 C dX0_measure_85 rfl rfl ?_
    refine x_iadd C dX0_measure_86 ?_
    refine x_iload 4 C dX0_measure_87 rfl ?_
    obtain ⟨g2, hf⟩ := ife hf
    refine x_iast (r := 13) C dX0_measure_89 rfl g2 ?_
    obtain ⟨rfl, rfl⟩ := rtn hf
    exact B.2.2.2.2.2.2.2.2.2 rfl rfl _ _ dX0_measure_90
  · rw [if_neg c] at hf
    refine x_aload_n (i := 0) 0 C dX0_measure_20 rfl rfl ?_
    refine x_iload 6 C dX0_measure_21 rfl ?_
    refine x_iload_n (i := 1) 1 C dX0_measure_23 rfl rfl ?_
    refine x_iload_n (i := 2) 2 C dX0_measure_24 rfl rfl ?_
    obtain ⟨z1, e1, hf⟩ := bnd hf
    refine x_callV (r := 9) (As := [.int x6, .int x1, .int x2]) (rest := []) C dX0_measure_25 kmX0_51 miX0_isHole (ctX0_isHole (lo X) (qo X) N h x6 x1 x2 z1.1 z1.2 e1) rfl rfl ⟨Nat.le_trans (by decide) B.2.2.2.1, Nat.le_trans (by decide) B.2.2.2.2.1⟩ (by simp [cat_i, cat_l, rf_cat]) rfl ?_
    refine x_if_eq (tgt := 38) C dX0_measure_28 (by decide) (fun c => ?_) (fun c => ?_)
    · rw [if_pos c] at hf
      refine x_iconst (v := 0) C dX0_measure_38 (by decide) ?_
      refine x_lv [0, 1, 2, 3, 4, 6] rfl ?_
      exact tX0_measure_b39 N k11 HK11 z1.2 x1 x2 x3 x4 x6 0 B hf
    · rw [if_neg c] at hf
      refine x_iload 5 C dX0_measure_31 rfl ?_
      refine x_iconst (v := 1) C dX0_measure_33 (by decide) ?_
      refine x_iadd C dX0_measure_34 ?_
      refine x_goto (tgt := 39) C dX0_measure_35 (by decide) ?_
      refine x_lv [0, 1, 2, 3, 4, 6] rfl ?_
      exact tX0_measure_b39 N k11 HK11 z1.2 x1 x2 x3 x4 x6 (x5 + 1) B hf
def fX0_measure_L11 (N : Nat) : Nat → pH → Int32 → Int32 → Int32 → Int32 → Int32 → Int32 → Option (Unit × pH)
  | 0 => fun _ _ _ _ _ _ _ => none
  | n + 1 => fX0_measure_B11 N (fX0_measure_L11 N n)
theorem tX0_measure_L11 {X : Xt} {v : Unit} {h' : pH} (N : Nat) (B : Bd (lo X) (qo X) cX0_measure RX0 7 none 1 24 none h' X) : ∀ (n : Nat) (h : pH) (x1 : Int32) (x2 : Int32) (x3 : Int32) (x4 : Int32) (x5 : Int32) (x6 : Int32), fX0_measure_L11 N n h x1 x2 x3 x4 x5 x6 = some (v, h') → Wx X 7 11 [(0, rf (qo X) 9), (1, .int x1), (2, .int x2), (3, .int x3), (4, .int x4), (5, .int x5), (6, .int x6)] [] h := by
  intro n
  induction n with
  | zero => intro h x1 x2 x3 x4 x5 x6 hf; exact absurd (show (none : Option (Unit × pH)) = some (v, h') from hf) (fun z => by cases z)
  | succ n ih => intro h x1 x2 x3 x4 x5 x6 hf; exact tX0_measure_B11 N (fX0_measure_L11 N n) ih h x1 x2 x3 x4 x5 x6 B hf
def fX0_measure (N : Nat) (h : pH) (x1 : Int32) (x2 : Int32) : Option (Unit × pH) :=
  fX0_measure_L11 N N h x1 x2 0 0 0 0
set_option maxRecDepth 100000 in
set_option maxHeartbeats 4000000 in
theorem tX0_measure {X : Xt} {v : Unit} {h' : pH} (N : Nat) (h : pH) (x1 : Int32) (x2 : Int32) (B : Bd (lo X) (qo X) cX0_measure RX0 7 none 1 24 none h' X) (hf : fX0_measure N h x1 x2 = some (v, h')) : Wx X 7 0 [(0, rf (qo X) 9), (1, .int x1), (2, .int x2)] [] h := by
  have C := B.1
  unfold fX0_measure at hf
  refine x_iconst (v := 0) C dX0_measure_0 (by decide) ?_
  refine x_istore_n (i := 3) (lv' := [(3, .int 0), (0, rf (qo X) 9), (1, .int x1), (2, .int x2)]) C dX0_measure_1 rfl (by decide) rfl ?_
  refine x_iconst (v := 0) C dX0_measure_2 (by decide) ?_
  refine x_istore (lv' := [(4, .int 0), (3, .int 0), (0, rf (qo X) 9), (1, .int x1), (2, .int x2)]) C dX0_measure_3 (by decide) rfl ?_
  refine x_iconst (v := 0) C dX0_measure_5 (by decide) ?_
  refine x_istore (lv' := [(5, .int 0), (4, .int 0), (3, .int 0), (0, rf (qo X) 9), (1, .int x1), (2, .int x2)]) C dX0_measure_6 (by decide) rfl ?_
  refine x_iconst (v := 0) C dX0_measure_8 (by decide) ?_
  refine x_istore (lv' := [(6, .int 0), (5, .int 0), (4, .int 0), (3, .int 0), (0, rf (qo X) 9), (1, .int x1), (2, .int x2)]) C dX0_measure_9 (by decide) rfl ?_
  refine x_lv [4, 5, 6, 3, 2, 1, 0] rfl ?_
  exact tX0_measure_L11 N  B N h x1 x2 0 0 0 0 hf
theorem ctX0_measure (l : Launch) (q : Nat → Nat) (N : Nat) (h : pH) (x1 : Int32) (x2 : Int32) (v : Unit) (h' : pH) (hf : fX0_measure N h x1 x2 = some (v, h')) : Ctr l q yX0_measure cX0_measure 7 none 1 24 [rf q 9, .int x1, .int x2] h h' none := by
  refine ct_of (own := RX0) (lv := [(0, rf q 9), (1, .int x1), (2, .int x2)]) (by decide +kernel) rfl (by simp [lg_sl, rf_cat, cat_i, cat_l]) (by first | rfl | simp [lv_args, rf_cat, cat_i, cat_l]) ?_
  intro X B
  obtain rfl := B.2.1
  obtain rfl := B.2.2.1
  exact tX0_measure N h x1 x2 B hf
def fX0_take_B49 (N : Nat) (k49 : pH → Int32 → Option (Unit × pH)) (h : pH) (x3 : Int32) : Option (Unit × pH) :=
  if (h.1 9 3) ≤ x3 then (some ((), h)) else ((fX0_measure N h 0 x3).bind fun z1 => ((fX0_measure N z1.2 1 x3).bind fun z2 => (k49 z2.2 (x3 + 1))))
set_option maxRecDepth 100000 in
set_option maxHeartbeats 4000000 in
theorem tX0_take_B49 {X : Xt} {v : Unit} {h' : pH} (N : Nat) (k49 : pH → Int32 → Option (Unit × pH)) (HK49 : ∀ (h : pH) (x3 : Int32), k49 h x3 = some (v, h') → Wx X 4 49 [(0, rf (qo X) 9), (3, .int x3)] [] h) (h : pH) (x3 : Int32) (B : Bd (lo X) (qo X) cX0_take RX0 4 none 2 50 none h' X) (hf : fX0_take_B49 N k49 h x3 = some (v, h')) : Wx X 4 49 [(0, rf (qo X) 9), (3, .int x3)] [] h := by
  have C := B.1
  unfold fX0_take_B49 at hf
  refine x_iload_n (i := 3) 1 C dX0_take_49 rfl rfl ?_
  refine x_aload_n (i := 0) 0 C dX0_take_50 rfl rfl ?_
  refine x_getI (r := 9) C dX0_take_51 kfX0_38 rfl ?_
  refine x_icmp_ge (tgt := 75) C dX0_take_54 (by decide) (fun c => ?_) (fun c => ?_)
  · rw [if_pos c] at hf
    obtain ⟨rfl, rfl⟩ := rtn hf
    exact B.2.2.2.2.2.2.2.2.2 rfl rfl _ _ dX0_take_75
  · rw [if_neg c] at hf
    refine x_aload_n (i := 0) 0 C dX0_take_57 rfl rfl ?_
    refine x_iconst (v := 0) C dX0_take_58 (by decide) ?_
    refine x_iload_n (i := 3) 1 C dX0_take_59 rfl rfl ?_
    obtain ⟨z1, e1, hf⟩ := bnd hf
    refine x_callV (r := 9) (As := [.int 0, .int x3]) (rest := []) C dX0_take_60 kmX0_47 miX0_measure (ctX0_measure (lo X) (qo X) N h 0 x3 z1.1 z1.2 e1) rfl rfl ⟨Nat.le_trans (by decide) B.2.2.2.1, Nat.le_trans (by decide) B.2.2.2.2.1⟩ (by simp [cat_i, cat_l, rf_cat]) rfl ?_
    refine x_aload_n (i := 0) 0 C dX0_take_63 rfl rfl ?_
    refine x_iconst (v := 1) C dX0_take_64 (by decide) ?_
    refine x_iload_n (i := 3) 1 C dX0_take_65 rfl rfl ?_
    obtain ⟨z2, e2, hf⟩ := bnd hf
    refine x_callV (r := 9) (As := [.int 1, .int x3]) (rest := []) C dX0_take_66 kmX0_47 miX0_measure (ctX0_measure (lo X) (qo X) N z1.2 1 x3 z2.1 z2.2 e2) rfl rfl ⟨Nat.le_trans (by decide) B.2.2.2.1, Nat.le_trans (by decide) B.2.2.2.2.1⟩ (by simp [cat_i, cat_l, rf_cat]) rfl ?_
    refine x_iinc (v := x3 + 1) (lv' := [(3, .int (x3 + 1)), (0, rf (qo X) 9)]) 1 C dX0_take_69 rfl rfl (by decide) rfl ?_
    refine x_goto (tgt := 49) C dX0_take_72 (by decide) ?_
    refine x_lv [1, 0] rfl ?_
    exact HK49 z2.2 (x3 + 1) hf
def fX0_take_L49 (N : Nat) : Nat → pH → Int32 → Option (Unit × pH)
  | 0 => fun _ _ => none
  | n + 1 => fX0_take_B49 N (fX0_take_L49 N n)
theorem tX0_take_L49 {X : Xt} {v : Unit} {h' : pH} (N : Nat) (B : Bd (lo X) (qo X) cX0_take RX0 4 none 2 50 none h' X) : ∀ (n : Nat) (h : pH) (x3 : Int32), fX0_take_L49 N n h x3 = some (v, h') → Wx X 4 49 [(0, rf (qo X) 9), (3, .int x3)] [] h := by
  intro n
  induction n with
  | zero => intro h x3 hf; exact absurd (show (none : Option (Unit × pH)) = some (v, h') from hf) (fun z => by cases z)
  | succ n ih => intro h x3 hf; exact tX0_take_B49 N (fX0_take_L49 N n) ih h x3 B hf
def fX0_take_b40 (N : Nat) (k12 : pH → Nat → Int32 → Option (Unit × pH)) (h : pH) (r1 : Nat) (x3 : Int32) (xs0 : Int32) (xs1 : Int32) : Option (Unit × pH) :=
  if ix xs1 19 = true then (k12 (pw h 11 xs1.toNatClampNeg (vp_nar .boolean xs0)) r1 (x3 + 1)) else none
set_option maxRecDepth 100000 in
set_option maxHeartbeats 4000000 in
theorem tX0_take_b40 {X : Xt} {v : Unit} {h' : pH} (N : Nat) (k12 : pH → Nat → Int32 → Option (Unit × pH)) (HK12 : ∀ (h : pH) (r1 : Nat) (x3 : Int32), k12 h r1 x3 = some (v, h') → Wx X 4 12 [(0, rf (qo X) 9), (1, rf (qo X) r1), (3, .int x3)] [] h) (h : pH) (r1 : Nat) (x3 : Int32) (xs0 : Int32) (xs1 : Int32) (B : Bd (lo X) (qo X) cX0_take RX0 4 none 2 50 none h' X) (hf : fX0_take_b40 N k12 h r1 x3 xs0 xs1 = some (v, h')) : Wx X 4 40 [(0, rf (qo X) 9), (1, rf (qo X) r1), (3, .int x3)] [.int xs0, .int xs1, rf (qo X) 11] h := by
  have C := B.1
  unfold fX0_take_b40 at hf
  obtain ⟨g1, hf⟩ := ife hf
  refine x_zast (r := 11) C dX0_take_40 rfl g1 ?_
  refine x_iinc (v := x3 + 1) (lv' := [(3, .int (x3 + 1)), (0, rf (qo X) 9), (1, rf (qo X) r1)]) 2 C dX0_take_41 rfl rfl (by decide) rfl ?_
  refine x_goto (tgt := 12) C dX0_take_44 (by decide) ?_
  refine x_lv [1, 2, 0] rfl ?_
  exact HK12 (pw h 11 xs1.toNatClampNeg (vp_nar .boolean xs0)) r1 (x3 + 1) hf
def fX0_take_B12 (N : Nat) (k12 : pH → Nat → Int32 → Option (Unit × pH)) (h : pH) (r1 : Nat) (x3 : Int32) : Option (Unit × pH) :=
  if (h.1 9 3) ≤ x3 then (fX0_take_L49 N N h 0) else (if isO 7 r1 = true then ((fX7_at N h r1 x3).bind fun z1 => (if z1.1 = 114 then (fX0_take_b40 N k12 z1.2 r1 x3 1 x3) else (fX0_take_b40 N k12 z1.2 r1 x3 0 x3))) else none)
set_option maxRecDepth 100000 in
set_option maxHeartbeats 4000000 in
theorem tX0_take_B12 {X : Xt} {v : Unit} {h' : pH} (N : Nat) (k12 : pH → Nat → Int32 → Option (Unit × pH)) (HK12 : ∀ (h : pH) (r1 : Nat) (x3 : Int32), k12 h r1 x3 = some (v, h') → Wx X 4 12 [(0, rf (qo X) 9), (1, rf (qo X) r1), (3, .int x3)] [] h) (h : pH) (r1 : Nat) (x3 : Int32) (B : Bd (lo X) (qo X) cX0_take RX0 4 none 2 50 none h' X) (hf : fX0_take_B12 N k12 h r1 x3 = some (v, h')) : Wx X 4 12 [(0, rf (qo X) 9), (1, rf (qo X) r1), (3, .int x3)] [] h := by
  have C := B.1
  unfold fX0_take_B12 at hf
  refine x_iload_n (i := 3) 2 C dX0_take_12 rfl rfl ?_
  refine x_aload_n (i := 0) 0 C dX0_take_13 rfl rfl ?_
  refine x_getI (r := 9) C dX0_take_14 kfX0_38 rfl ?_
  refine x_icmp_ge (tgt := 47) C dX0_take_17 (by decide) (fun c => ?_) (fun c => ?_)
  · rw [if_pos c] at hf
    refine x_iconst (v := 0) C dX0_take_47 (by decide) ?_
    refine x_istore_n (i := 3) (lv' := [(3, .int 0), (0, rf (qo X) 9), (1, rf (qo X) r1)]) C dX0_take_48 rfl (by decide) rfl ?_
    refine x_lv [1, 0] rfl ?_
    exact tX0_take_L49 N  B N h 0 hf
  · rw [if_neg c] at hf
    refine x_aload_n (i := 0) 0 C dX0_take_20 rfl rfl ?_
    refine x_getR (r := 9) (r2 := 11) C dX0_take_21 kfX0_22 rfl rfl (by decide) ?_
    refine x_iload_n (i := 3) 2 C dX0_take_24 rfl rfl ?_
    refine x_aload_n (i := 1) 1 C dX0_take_25 rfl rfl ?_
    refine x_iload_n (i := 3) 2 C dX0_take_26 rfl rfl ?_
    obtain ⟨g1, hf⟩ := ife hf
    obtain ⟨z1, e1, hf⟩ := bnd hf
    refine x_callV (r := r1) (As := [.int x3]) (rest := [.int x3, rf (qo X) 11]) C dX0_take_27 kmX0_41 miX7_at (ctX7_at (lo X) (qo X) N h r1 x3 z1.1 z1.2 e1) rfl rfl ⟨Nat.le_trans (by decide) B.2.2.2.1, Nat.le_trans (by decide) B.2.2.2.2.1⟩ (by simp [cat_i, cat_l, rf_cat]) g1 ?_
    refine x_bipush (v := 114) C dX0_take_30 (by decide) ?_
    refine x_icmp_ne (tgt := 39) C dX0_take_32 (by decide) (fun c => ?_) (fun c => ?_)
    · rw [if_neg c] at hf
      refine x_iconst (v := 0) C dX0_take_39 (by decide) ?_
      exact tX0_take_b40 N k12 HK12 z1.2 r1 x3 0 x3 B hf
    · rw [if_pos c] at hf
      refine x_iconst (v := 1) C dX0_take_35 (by decide) ?_
      refine x_goto (tgt := 40) C dX0_take_36 (by decide) ?_
      exact tX0_take_b40 N k12 HK12 z1.2 r1 x3 1 x3 B hf
def fX0_take_L12 (N : Nat) : Nat → pH → Nat → Int32 → Option (Unit × pH)
  | 0 => fun _ _ _ => none
  | n + 1 => fX0_take_B12 N (fX0_take_L12 N n)
theorem tX0_take_L12 {X : Xt} {v : Unit} {h' : pH} (N : Nat) (B : Bd (lo X) (qo X) cX0_take RX0 4 none 2 50 none h' X) : ∀ (n : Nat) (h : pH) (r1 : Nat) (x3 : Int32), fX0_take_L12 N n h r1 x3 = some (v, h') → Wx X 4 12 [(0, rf (qo X) 9), (1, rf (qo X) r1), (3, .int x3)] [] h := by
  intro n
  induction n with
  | zero => intro h r1 x3 hf; exact absurd (show (none : Option (Unit × pH)) = some (v, h') from hf) (fun z => by cases z)
  | succ n ih => intro h r1 x3 hf; exact tX0_take_B12 N (fX0_take_L12 N n) ih h r1 x3 B hf
def fX0_take (N : Nat) (h : pH) (r1 : Nat) (x2 : Int32) : Option (Unit × pH) :=
  (fJ9_min_7cf53 N h x2 19).bind fun z1 => (fX0_take_L12 N N (pw z1.2 9 3 z1.1) r1 0)
set_option maxRecDepth 100000 in
set_option maxHeartbeats 4000000 in
theorem tX0_take {X : Xt} {v : Unit} {h' : pH} (N : Nat) (h : pH) (r1 : Nat) (x2 : Int32) (B : Bd (lo X) (qo X) cX0_take RX0 4 none 2 50 none h' X) (hf : fX0_take N h r1 x2 = some (v, h')) : Wx X 4 0 [(0, rf (qo X) 9), (1, rf (qo X) r1), (2, .int x2)] [] h := by
  have C := B.1
  unfold fX0_take at hf
  refine x_aload_n (i := 0) 0 C dX0_take_0 rfl rfl ?_
  refine x_iload_n (i := 2) 2 C dX0_take_1 rfl rfl ?_
  refine x_bipush (v := 19) C dX0_take_2 (by decide) ?_
  obtain ⟨z1, e1, hf⟩ := bnd hf
  refine x_callS (As := [.int x2, .int 19]) (rest := [rf (qo X) 9]) C dX0_take_4 kmX0_32 miJ9_min_7cf53 (ctJ9_min_7cf53 (lo X) (qo X) N h x2 19 z1.1 z1.2 e1) rfl rfl ⟨Nat.le_trans (by decide) B.2.2.2.1, Nat.le_trans (by decide) B.2.2.2.2.1⟩ (by simp [cat_i, cat_l, rf_cat]) ?_
  refine x_putI (r := 9) C dX0_take_7 kfX0_38 rfl rfl rfl ?_
  refine x_iconst (v := 0) C dX0_take_10 (by decide) ?_
  refine x_istore_n (i := 3) (lv' := [(3, .int 0), (0, rf (qo X) 9), (1, rf (qo X) r1), (2, .int x2)]) C dX0_take_11 rfl (by decide) rfl ?_
  refine x_lv [1, 2, 0] rfl ?_
  exact tX0_take_L12 N  B N (pw z1.2 9 3 z1.1) r1 0 hf
theorem ctX0_take (l : Launch) (q : Nat → Nat) (N : Nat) (h : pH) (r1 : Nat) (x2 : Int32) (v : Unit) (h' : pH) (hf : fX0_take N h r1 x2 = some (v, h')) : Ctr l q yX0_take cX0_take 4 none 2 50 [rf q 9, rf q r1, .int x2] h h' none := by
  refine ct_of (own := RX0) (lv := [(0, rf q 9), (1, rf q r1), (2, .int x2)]) (by decide +kernel) rfl (by simp [lg_sl, rf_cat, cat_i, cat_l]) (by first | rfl | simp [lv_args, rf_cat, cat_i, cat_l]) ?_
  intro X B
  obtain rfl := B.2.1
  obtain rfl := B.2.2.1
  exact tX0_take N h r1 x2 B hf
def fX8_within_b15 (N : Nat) (h : pH) (xs0 : Int32) : Option (Int32 × pH) :=
  if xs0 = 0 ∨ xs0 = 1 then (some (xs0, h)) else none
set_option maxRecDepth 100000 in
set_option maxHeartbeats 4000000 in
theorem tX8_within_b15 {X : Xt} {v : Int32} {h' : pH} (N : Nat) (h : pH) (xs0 : Int32) (B : Bd (lo X) (qo X) cX8_within RX8 3 (some .boolean) 0 0 (some (.int v)) h' X) (hf : fX8_within_b15 N h xs0 = some (v, h')) : Wx X 3 15 [] [.int xs0] h := by
  have C := B.1
  unfold fX8_within_b15 at hf
  obtain ⟨g1, hf⟩ := ife hf
  obtain ⟨rfl, rfl⟩ := rtn hf
  exact B.2.2.2.2.2.1 _ _ rfl rfl (nrB g1) _ _ dX8_within_15
def fX8_within_b14 (N : Nat) (h : pH)  : Option (Int32 × pH) :=
  fX8_within_b15 N h 0
set_option maxRecDepth 100000 in
set_option maxHeartbeats 4000000 in
theorem tX8_within_b14 {X : Xt} {v : Int32} {h' : pH} (N : Nat) (h : pH)  (B : Bd (lo X) (qo X) cX8_within RX8 3 (some .boolean) 0 0 (some (.int v)) h' X) (hf : fX8_within_b14 N h  = some (v, h')) : Wx X 3 14 [] [] h := by
  have C := B.1
  unfold fX8_within_b14 at hf
  refine x_iconst (v := 0) C dX8_within_14 (by decide) ?_
  exact tX8_within_b15 N h 0 B hf
def fX8_within (N : Nat) (h : pH) (x0 : Int32) (x1 : Int32) (x2 : Int32) : Option (Int32 × pH) :=
  if x0 < x1 then (fX8_within_b14 N h) else (if x2 < x0 then (fX8_within_b14 N h) else (fX8_within_b15 N h 1))
set_option maxRecDepth 100000 in
set_option maxHeartbeats 4000000 in
theorem tX8_within {X : Xt} {v : Int32} {h' : pH} (N : Nat) (h : pH) (x0 : Int32) (x1 : Int32) (x2 : Int32) (B : Bd (lo X) (qo X) cX8_within RX8 3 (some .boolean) 0 0 (some (.int v)) h' X) (hf : fX8_within N h x0 x1 x2 = some (v, h')) : Wx X 3 0 [(0, .int x0), (1, .int x1), (2, .int x2)] [] h := by
  have C := B.1
  unfold fX8_within at hf
  refine x_iload_n (i := 0) 0 C dX8_within_0 rfl rfl ?_
  refine x_iload_n (i := 1) 1 C dX8_within_1 rfl rfl ?_
  refine x_icmp_lt (tgt := 14) C dX8_within_2 (by decide) (fun c => ?_) (fun c => ?_)
  · rw [if_pos c] at hf
    refine x_lv [] rfl ?_
    exact tX8_within_b14 N h B hf
  · rw [if_neg c] at hf
    refine x_iload_n (i := 0) 0 C dX8_within_5 rfl rfl ?_
    refine x_iload_n (i := 2) 2 C dX8_within_6 rfl rfl ?_
    refine x_icmp_gt (tgt := 14) C dX8_within_7 (by decide) (fun c => ?_) (fun c => ?_)
    · rw [if_pos c] at hf
      refine x_lv [] rfl ?_
      exact tX8_within_b14 N h B hf
    · rw [if_neg c] at hf
      refine x_iconst (v := 1) C dX8_within_10 (by decide) ?_
      refine x_goto (tgt := 15) C dX8_within_11 (by decide) ?_
      refine x_lv [] rfl ?_
      exact tX8_within_b15 N h 1 B hf
theorem ctX8_within (l : Launch) (q : Nat → Nat) (N : Nat) (h : pH) (x0 : Int32) (x1 : Int32) (x2 : Int32) (v : Int32) (h' : pH) (hf : fX8_within N h x0 x1 x2 = some (v, h')) : Ctr l q yX8_within cX8_within 3 (some .boolean) 0 0 [.int x0, .int x1, .int x2] h h' (some (.int v)) := by
  refine ct_of (own := RX8) (lv := [(0, .int x0), (1, .int x1), (2, .int x2)]) (by decide +kernel) rfl (by simp [lg_sl, rf_cat, cat_i, cat_l]) (by first | rfl | simp [lv_args, rf_cat, cat_i, cat_l]) ?_
  intro X B
  obtain rfl := B.2.1
  obtain rfl := B.2.2.1
  exact tX8_within N h x0 x1 x2 B hf
def fX0_hasPlank (N : Nat) (h : pH) (x1 : Int32) : Option (Int32 × pH) :=
  (fX8_within N h x1 0 ((h.1 9 3) - 1)).bind fun z1 => (if z1.1 = 0 ∨ z1.1 = 1 then (some (z1.1, z1.2)) else none)
set_option maxRecDepth 100000 in
set_option maxHeartbeats 4000000 in
theorem tX0_hasPlank {X : Xt} {v : Int32} {h' : pH} (N : Nat) (h : pH) (x1 : Int32) (B : Bd (lo X) (qo X) cX0_hasPlank RX0 2 (some .boolean) 1 22 (some (.int v)) h' X) (hf : fX0_hasPlank N h x1 = some (v, h')) : Wx X 2 0 [(0, rf (qo X) 9), (1, .int x1)] [] h := by
  have C := B.1
  unfold fX0_hasPlank at hf
  refine x_iload_n (i := 1) 1 C dX0_hasPlank_0 rfl rfl ?_
  refine x_iconst (v := 0) C dX0_hasPlank_1 (by decide) ?_
  refine x_aload_n (i := 0) 0 C dX0_hasPlank_2 rfl rfl ?_
  refine x_getI (r := 9) C dX0_hasPlank_3 kfX0_38 rfl ?_
  refine x_iconst (v := 1) C dX0_hasPlank_6 (by decide) ?_
  refine x_isub C dX0_hasPlank_7 ?_
  obtain ⟨z1, e1, hf⟩ := bnd hf
  refine x_callS (As := [.int x1, .int 0, .int ((h.1 9 3) - 1)]) (rest := []) C dX0_hasPlank_8 kmX0_58 miX8_within (ctX8_within (lo X) (qo X) N h x1 0 ((h.1 9 3) - 1) z1.1 z1.2 e1) rfl rfl ⟨Nat.le_trans (by decide) B.2.2.2.1, Nat.le_trans (by decide) B.2.2.2.2.1⟩ (by simp [cat_i, cat_l, rf_cat]) ?_
  obtain ⟨g1, hf⟩ := ife hf
  obtain ⟨rfl, rfl⟩ := rtn hf
  exact B.2.2.2.2.2.1 _ _ rfl rfl (nrB g1) _ _ dX0_hasPlank_11
theorem ctX0_hasPlank (l : Launch) (q : Nat → Nat) (N : Nat) (h : pH) (x1 : Int32) (v : Int32) (h' : pH) (hf : fX0_hasPlank N h x1 = some (v, h')) : Ctr l q yX0_hasPlank cX0_hasPlank 2 (some .boolean) 1 22 [rf q 9, .int x1] h h' (some (.int v)) := by
  refine ct_of (own := RX0) (lv := [(0, rf q 9), (1, .int x1)]) (by decide +kernel) rfl (by simp [lg_sl, rf_cat, cat_i, cat_l]) (by first | rfl | simp [lv_args, rf_cat, cat_i, cat_l]) ?_
  intro X B
  obtain rfl := B.2.1
  obtain rfl := B.2.2.1
  exact tX0_hasPlank N h x1 B hf
def fX0_isRotten_b22 (N : Nat) (h : pH) (xs0 : Int32) : Option (Int32 × pH) :=
  if xs0 = 0 ∨ xs0 = 1 then (some (xs0, h)) else none
set_option maxRecDepth 100000 in
set_option maxHeartbeats 4000000 in
theorem tX0_isRotten_b22 {X : Xt} {v : Int32} {h' : pH} (N : Nat) (h : pH) (xs0 : Int32) (B : Bd (lo X) (qo X) cX0_isRotten RX0 2 (some .boolean) 2 43 (some (.int v)) h' X) (hf : fX0_isRotten_b22 N h xs0 = some (v, h')) : Wx X 2 22 [] [.int xs0] h := by
  have C := B.1
  unfold fX0_isRotten_b22 at hf
  obtain ⟨g1, hf⟩ := ife hf
  obtain ⟨rfl, rfl⟩ := rtn hf
  exact B.2.2.2.2.2.1 _ _ rfl rfl (nrB g1) _ _ dX0_isRotten_22
def fX0_isRotten_b21 (N : Nat) (h : pH)  : Option (Int32 × pH) :=
  fX0_isRotten_b22 N h 0
set_option maxRecDepth 100000 in
set_option maxHeartbeats 4000000 in
theorem tX0_isRotten_b21 {X : Xt} {v : Int32} {h' : pH} (N : Nat) (h : pH)  (B : Bd (lo X) (qo X) cX0_isRotten RX0 2 (some .boolean) 2 43 (some (.int v)) h' X) (hf : fX0_isRotten_b21 N h  = some (v, h')) : Wx X 2 21 [] [] h := by
  have C := B.1
  unfold fX0_isRotten_b21 at hf
  refine x_iconst (v := 0) C dX0_isRotten_21 (by decide) ?_
  exact tX0_isRotten_b22 N h 0 B hf
def fX0_isRotten (N : Nat) (h : pH) (x1 : Int32) : Option (Int32 × pH) :=
  (fX0_hasPlank N h x1).bind fun z1 => (if z1.1 = 0 then (fX0_isRotten_b21 N z1.2) else (if ix x1 19 = true then (if (z1.2.1 11 x1.toNatClampNeg) = 0 then (fX0_isRotten_b21 N z1.2) else (fX0_isRotten_b22 N z1.2 1)) else none))
set_option maxRecDepth 100000 in
set_option maxHeartbeats 4000000 in
theorem tX0_isRotten {X : Xt} {v : Int32} {h' : pH} (N : Nat) (h : pH) (x1 : Int32) (B : Bd (lo X) (qo X) cX0_isRotten RX0 2 (some .boolean) 2 43 (some (.int v)) h' X) (hf : fX0_isRotten N h x1 = some (v, h')) : Wx X 2 0 [(0, rf (qo X) 9), (1, .int x1)] [] h := by
  have C := B.1
  unfold fX0_isRotten at hf
  refine x_aload_n (i := 0) 0 C dX0_isRotten_0 rfl rfl ?_
  refine x_iload_n (i := 1) 1 C dX0_isRotten_1 rfl rfl ?_
  obtain ⟨z1, e1, hf⟩ := bnd hf
  refine x_callV (r := 9) (As := [.int x1]) (rest := []) C dX0_isRotten_2 kmX0_61 miX0_hasPlank (ctX0_hasPlank (lo X) (qo X) N h x1 z1.1 z1.2 e1) rfl rfl ⟨Nat.le_trans (by decide) B.2.2.2.1, Nat.le_trans (by decide) B.2.2.2.2.1⟩ (by simp [cat_i, cat_l, rf_cat]) rfl ?_
  refine x_if_eq (tgt := 21) C dX0_isRotten_5 (by decide) (fun c => ?_) (fun c => ?_)
  · rw [if_pos c] at hf
    refine x_lv [] rfl ?_
    exact tX0_isRotten_b21 N z1.2 B hf
  · rw [if_neg c] at hf
    refine x_aload_n (i := 0) 0 C dX0_isRotten_8 rfl rfl ?_
    refine x_getR (r := 9) (r2 := 11) C dX0_isRotten_9 kfX0_22 rfl rfl (by decide) ?_
    refine x_iload_n (i := 1) 1 C dX0_isRotten_12 rfl rfl ?_
    obtain ⟨g1, hf⟩ := ife hf
    refine x_zald (r := 11) C dX0_isRotten_13 rfl g1 ?_
    refine x_if_eq (tgt := 21) C dX0_isRotten_14 (by decide) (fun c => ?_) (fun c => ?_)
    · rw [if_pos c] at hf
      refine x_lv [] rfl ?_
      exact tX0_isRotten_b21 N z1.2 B hf
    · rw [if_neg c] at hf
      refine x_iconst (v := 1) C dX0_isRotten_17 (by decide) ?_
      refine x_goto (tgt := 22) C dX0_isRotten_18 (by decide) ?_
      refine x_lv [] rfl ?_
      exact tX0_isRotten_b22 N z1.2 1 B hf
theorem ctX0_isRotten (l : Launch) (q : Nat → Nat) (N : Nat) (h : pH) (x1 : Int32) (v : Int32) (h' : pH) (hf : fX0_isRotten N h x1 = some (v, h')) : Ctr l q yX0_isRotten cX0_isRotten 2 (some .boolean) 2 43 [rf q 9, .int x1] h h' (some (.int v)) := by
  refine ct_of (own := RX0) (lv := [(0, rf q 9), (1, .int x1)]) (by decide +kernel) rfl (by simp [lg_sl, rf_cat, cat_i, cat_l]) (by first | rfl | simp [lv_args, rf_cat, cat_i, cat_l]) ?_
  intro X B
  obtain rfl := B.2.1
  obtain rfl := B.2.2.1
  exact tX0_isRotten N h x1 B hf
def fX0_firstGap_b20 (N : Nat) (h : pH) (xs0 : Int32) : Option (Int32 × pH) :=
  some (xs0, h)
set_option maxRecDepth 100000 in
set_option maxHeartbeats 4000000 in
theorem tX0_firstGap_b20 {X : Xt} {v : Int32} {h' : pH} (N : Nat) (h : pH) (xs0 : Int32) (B : Bd (lo X) (qo X) cX0_firstGap RX0 1 (some .int) 0 0 (some (.int v)) h' X) (hf : fX0_firstGap_b20 N h xs0 = some (v, h')) : Wx X 1 20 [] [.int xs0] h := by
  have C := B.1
  unfold fX0_firstGap_b20 at hf
  obtain ⟨rfl, rfl⟩ := rtn hf
  exact B.2.2.2.2.2.1 _ _ rfl rfl rfl _ _ dX0_firstGap_20
def fX0_firstGap (N : Nat) (h : pH)  : Option (Int32 × pH) :=
  if (h.1 9 3) = 0 then (fX0_firstGap_b20 N h (-1)) else (if ¬ (h.1 9 3) = 0 then (fX0_firstGap_b20 N h ((h.1 9 1) - (h.1 9 1) / (h.1 9 3) * (h.1 9 3))) else none)
set_option maxRecDepth 100000 in
set_option maxHeartbeats 4000000 in
theorem tX0_firstGap {X : Xt} {v : Int32} {h' : pH} (N : Nat) (h : pH)  (B : Bd (lo X) (qo X) cX0_firstGap RX0 1 (some .int) 0 0 (some (.int v)) h' X) (hf : fX0_firstGap N h  = some (v, h')) : Wx X 1 0 [(0, rf (qo X) 9)] [] h := by
  have C := B.1
  unfold fX0_firstGap at hf
  refine x_aload_n (i := 0) 0 C dX0_firstGap_0 rfl rfl ?_
  refine x_getI (r := 9) C dX0_firstGap_1 kfX0_38 rfl ?_
  refine x_if_ne (tgt := 11) C dX0_firstGap_4 (by decide) (fun c => ?_) (fun c => ?_)
  · rw [if_neg c] at hf
    refine x_aload_n (i := 0) 0 C dX0_firstGap_11 rfl rfl ?_
    refine x_getI (r := 9) C dX0_firstGap_12 kfX0_15 rfl ?_
    refine x_aload_n (i := 0) 0 C dX0_firstGap_15 rfl rfl ?_
    refine x_getI (r := 9) C dX0_firstGap_16 kfX0_38 rfl ?_
    obtain ⟨g1, hf⟩ := ife hf
    refine x_irem C dX0_firstGap_19 g1 ?_
    refine x_lv [] rfl ?_
    exact tX0_firstGap_b20 N h ((h.1 9 1) - (h.1 9 1) / (h.1 9 3) * (h.1 9 3)) B hf
  · rw [if_pos c] at hf
    refine x_iconst (v := (-1)) C dX0_firstGap_7 (by decide) ?_
    refine x_goto (tgt := 20) C dX0_firstGap_8 (by decide) ?_
    refine x_lv [] rfl ?_
    exact tX0_firstGap_b20 N h (-1) B hf
theorem ctX0_firstGap (l : Launch) (q : Nat → Nat) (N : Nat) (h : pH)  (v : Int32) (h' : pH) (hf : fX0_firstGap N h  = some (v, h')) : Ctr l q yX0_firstGap cX0_firstGap 1 (some .int) 0 0 [rf q 9] h h' (some (.int v)) := by
  refine ct_of (own := RX0) (lv := [(0, rf q 9)]) (by decide +kernel) rfl (by simp [lg_sl, rf_cat, cat_i, cat_l]) (by first | rfl | simp [lv_args, rf_cat, cat_i, cat_l]) ?_
  intro X B
  obtain rfl := B.2.1
  obtain rfl := B.2.2.1
  exact tX0_firstGap N h  B hf
def fX0_outcome_b24 (N : Nat) (h : pH)  : Option (Int32 × pH) :=
  some (0, h)
set_option maxRecDepth 100000 in
set_option maxHeartbeats 4000000 in
theorem tX0_outcome_b24 {X : Xt} {v : Int32} {h' : pH} (N : Nat) (h : pH)  (B : Bd (lo X) (qo X) cX0_outcome RX0 3 (some .int) 0 0 (some (.int v)) h' X) (hf : fX0_outcome_b24 N h  = some (v, h')) : Wx X 3 24 [] [] h := by
  have C := B.1
  unfold fX0_outcome_b24 at hf
  refine x_iconst (v := 0) C dX0_outcome_24 (by decide) ?_
  obtain ⟨rfl, rfl⟩ := rtn hf
  exact B.2.2.2.2.2.1 _ _ rfl rfl rfl _ _ dX0_outcome_25
def fX0_outcome_b52 (N : Nat) (h : pH) (xs0 : Int32) : Option (Int32 × pH) :=
  some (xs0, h)
set_option maxRecDepth 100000 in
set_option maxHeartbeats 4000000 in
theorem tX0_outcome_b52 {X : Xt} {v : Int32} {h' : pH} (N : Nat) (h : pH) (xs0 : Int32) (B : Bd (lo X) (qo X) cX0_outcome RX0 3 (some .int) 0 0 (some (.int v)) h' X) (hf : fX0_outcome_b52 N h xs0 = some (v, h')) : Wx X 3 52 [] [.int xs0] h := by
  have C := B.1
  unfold fX0_outcome_b52 at hf
  obtain ⟨rfl, rfl⟩ := rtn hf
  exact B.2.2.2.2.2.1 _ _ rfl rfl rfl _ _ dX0_outcome_52
def fX0_outcome (N : Nat) (h : pH) (r1 : Nat) (x2 : Int32) : Option (Int32 × pH) :=
  if r1 = 0 then (fX0_outcome_b24 N h) else (if (h.1 9 0) ≤ 1 then (fX0_outcome_b24 N h) else (if x2 < 0 then (fX0_outcome_b24 N h) else (if x2 < (h.1 9 3) then (if fI 1 2 r1 = true then (if ix (((h.1 r1 2) * 19) + x2) 38 = true then (if fI 1 4 r1 = true then (if (h.1 13 (((h.1 r1 2) * 19) + x2).toNatClampNeg) ≤ (h.1 r1 4) then (fX0_outcome_b52 N h 1) else (fX0_outcome_b52 N h 2)) else none) else none) else none) else (fX0_outcome_b24 N h))))
set_option maxRecDepth 100000 in
set_option maxHeartbeats 4000000 in
theorem tX0_outcome {X : Xt} {v : Int32} {h' : pH} (N : Nat) (h : pH) (r1 : Nat) (x2 : Int32) (B : Bd (lo X) (qo X) cX0_outcome RX0 3 (some .int) 0 0 (some (.int v)) h' X) (hf : fX0_outcome N h r1 x2 = some (v, h')) : Wx X 3 0 [(0, rf (qo X) 9), (1, rf (qo X) r1), (2, .int x2)] [] h := by
  have C := B.1
  unfold fX0_outcome at hf
  refine x_aload_n (i := 1) 1 C dX0_outcome_0 rfl rfl ?_
  refine x_ifnull (tgt := 24) C dX0_outcome_1 (by decide) (fun c => ?_) (fun c => ?_)
  · rw [if_pos c] at hf
    refine x_lv [] rfl ?_
    exact tX0_outcome_b24 N h B hf
  · rw [if_neg c] at hf
    refine x_aload_n (i := 0) 0 C dX0_outcome_4 rfl rfl ?_
    refine x_getI (r := 9) C dX0_outcome_5 kfX0_9 rfl ?_
    refine x_iconst (v := 1) C dX0_outcome_8 (by decide) ?_
    refine x_icmp_le (tgt := 24) C dX0_outcome_9 (by decide) (fun c => ?_) (fun c => ?_)
    · rw [if_pos c] at hf
      refine x_lv [] rfl ?_
      exact tX0_outcome_b24 N h B hf
    · rw [if_neg c] at hf
      refine x_iload_n (i := 2) 2 C dX0_outcome_12 rfl rfl ?_
      refine x_if_lt (tgt := 24) C dX0_outcome_13 (by decide) (fun c => ?_) (fun c => ?_)
      · rw [if_pos c] at hf
        refine x_lv [] rfl ?_
        exact tX0_outcome_b24 N h B hf
      · rw [if_neg c] at hf
        refine x_iload_n (i := 2) 2 C dX0_outcome_16 rfl rfl ?_
        refine x_aload_n (i := 0) 0 C dX0_outcome_17 rfl rfl ?_
        refine x_getI (r := 9) C dX0_outcome_18 kfX0_38 rfl ?_
        refine x_icmp_lt (tgt := 26) C dX0_outcome_21 (by decide) (fun c => ?_) (fun c => ?_)
        · rw [if_pos c] at hf
          refine x_aload_n (i := 0) 0 C dX0_outcome_26 rfl rfl ?_
          refine x_getR (r := 9) (r2 := 13) C dX0_outcome_27 kfX0_29 rfl rfl (by decide) ?_
          refine x_aload_n (i := 1) 1 C dX0_outcome_30 rfl rfl ?_
          obtain ⟨g1, hf⟩ := ife hf
          refine x_getI (r := r1) C dX0_outcome_31 kfX0_65 g1 ?_
          refine x_bipush (v := 19) C dX0_outcome_34 (by decide) ?_
          refine x_imul C dX0_outcome_36 ?_
          refine x_iload_n (i := 2) 2 C dX0_outcome_37 rfl rfl ?_
          refine x_iadd C dX0_outcome_38 ?_
          obtain ⟨g2, hf⟩ := ife hf
          refine x_iald (r := 13) C dX0_outcome_39 rfl g2 ?_
          refine x_aload_n (i := 1) 1 C dX0_outcome_40 rfl rfl ?_
          obtain ⟨g3, hf⟩ := ife hf
          refine x_getI (r := r1) C dX0_outcome_41 kfX0_70 g3 ?_
          refine x_icmp_le (tgt := 51) C dX0_outcome_44 (by decide) (fun c => ?_) (fun c => ?_)
          · rw [if_pos c] at hf
            refine x_iconst (v := 1) C dX0_outcome_51 (by decide) ?_
            refine x_lv [] rfl ?_
            exact tX0_outcome_b52 N h 1 B hf
          · rw [if_neg c] at hf
            refine x_iconst (v := 2) C dX0_outcome_47 (by decide) ?_
            refine x_goto (tgt := 52) C dX0_outcome_48 (by decide) ?_
            refine x_lv [] rfl ?_
            exact tX0_outcome_b52 N h 2 B hf
        · rw [if_neg c] at hf
          refine x_lv [] rfl ?_
          exact tX0_outcome_b24 N h B hf
theorem ctX0_outcome (l : Launch) (q : Nat → Nat) (N : Nat) (h : pH) (r1 : Nat) (x2 : Int32) (v : Int32) (h' : pH) (hf : fX0_outcome N h r1 x2 = some (v, h')) : Ctr l q yX0_outcome cX0_outcome 3 (some .int) 0 0 [rf q 9, rf q r1, .int x2] h h' (some (.int v)) := by
  refine ct_of (own := RX0) (lv := [(0, rf q 9), (1, rf q r1), (2, .int x2)]) (by decide +kernel) rfl (by simp [lg_sl, rf_cat, cat_i, cat_l]) (by first | rfl | simp [lv_args, rf_cat, cat_i, cat_l]) ?_
  intro X B
  obtain rfl := B.2.1
  obtain rfl := B.2.2.1
  exact tX0_outcome N h r1 x2 B hf
def fX0_toll_b18 (N : Nat) (h : pH)  : Option (Int32 × pH) :=
  some (0, h)
set_option maxRecDepth 100000 in
set_option maxHeartbeats 4000000 in
theorem tX0_toll_b18 {X : Xt} {v : Int32} {h' : pH} (N : Nat) (h : pH)  (B : Bd (lo X) (qo X) cX0_toll RX0 3 (some .int) 1 22 (some (.int v)) h' X) (hf : fX0_toll_b18 N h  = some (v, h')) : Wx X 3 18 [] [] h := by
  have C := B.1
  unfold fX0_toll_b18 at hf
  refine x_iconst (v := 0) C dX0_toll_18 (by decide) ?_
  obtain ⟨rfl, rfl⟩ := rtn hf
  exact B.2.2.2.2.2.1 _ _ rfl rfl rfl _ _ dX0_toll_19
def fX0_toll (N : Nat) (h : pH) (r1 : Nat) (x2 : Int32) : Option (Int32 × pH) :=
  (fX0_outcome N h r1 x2).bind fun z1 => (if z1.1 = 1 then (if fI 1 0 r1 = true then (if (z1.2.1 r1 0) = 4 then (fX0_toll_b18 N z1.2) else (if fI 1 2 r1 = true then (if ix (((z1.2.1 r1 2) * 19) + x2) 38 = true then (some (z1.2.1 12 (((z1.2.1 r1 2) * 19) + x2).toNatClampNeg, z1.2)) else none) else none)) else none) else (fX0_toll_b18 N z1.2))
set_option maxRecDepth 100000 in
set_option maxHeartbeats 4000000 in
theorem tX0_toll {X : Xt} {v : Int32} {h' : pH} (N : Nat) (h : pH) (r1 : Nat) (x2 : Int32) (B : Bd (lo X) (qo X) cX0_toll RX0 3 (some .int) 1 22 (some (.int v)) h' X) (hf : fX0_toll N h r1 x2 = some (v, h')) : Wx X 3 0 [(0, rf (qo X) 9), (1, rf (qo X) r1), (2, .int x2)] [] h := by
  have C := B.1
  unfold fX0_toll at hf
  refine x_aload_n (i := 0) 0 C dX0_toll_0 rfl rfl ?_
  refine x_aload_n (i := 1) 1 C dX0_toll_1 rfl rfl ?_
  refine x_iload_n (i := 2) 2 C dX0_toll_2 rfl rfl ?_
  obtain ⟨z1, e1, hf⟩ := bnd hf
  refine x_callV (r := 9) (As := [rf (qo X) r1, .int x2]) (rest := []) C dX0_toll_3 kmX0_73 miX0_outcome (ctX0_outcome (lo X) (qo X) N h r1 x2 z1.1 z1.2 e1) rfl rfl ⟨Nat.le_trans (by decide) B.2.2.2.1, Nat.le_trans (by decide) B.2.2.2.2.1⟩ (by simp [cat_i, cat_l, rf_cat]) rfl ?_
  refine x_iconst (v := 1) C dX0_toll_6 (by decide) ?_
  refine x_icmp_ne (tgt := 18) C dX0_toll_7 (by decide) (fun c => ?_) (fun c => ?_)
  · rw [if_neg c] at hf
    refine x_lv [] rfl ?_
    exact tX0_toll_b18 N z1.2 B hf
  · rw [if_pos c] at hf
    refine x_aload_n (i := 1) 1 C dX0_toll_10 rfl rfl ?_
    obtain ⟨g1, hf⟩ := ife hf
    refine x_getI (r := r1) C dX0_toll_11 kfX0_77 g1 ?_
    refine x_iconst (v := 4) C dX0_toll_14 (by decide) ?_
    refine x_icmp_ne (tgt := 20) C dX0_toll_15 (by decide) (fun c => ?_) (fun c => ?_)
    · rw [if_neg c] at hf
      refine x_aload_n (i := 0) 0 C dX0_toll_20 rfl rfl ?_
      refine x_getR (r := 9) (r2 := 12) C dX0_toll_21 kfX0_26 rfl rfl (by decide) ?_
      refine x_aload_n (i := 1) 1 C dX0_toll_24 rfl rfl ?_
      obtain ⟨g2, hf⟩ := ife hf
      refine x_getI (r := r1) C dX0_toll_25 kfX0_65 g2 ?_
      refine x_bipush (v := 19) C dX0_toll_28 (by decide) ?_
      refine x_imul C dX0_toll_30 ?_
      refine x_iload_n (i := 2) 2 C dX0_toll_31 rfl rfl ?_
      refine x_iadd C dX0_toll_32 ?_
      obtain ⟨g3, hf⟩ := ife hf
      refine x_iald (r := 12) C dX0_toll_33 rfl g3 ?_
      obtain ⟨rfl, rfl⟩ := rtn hf
      exact B.2.2.2.2.2.1 _ _ rfl rfl rfl _ _ dX0_toll_34
    · rw [if_pos c] at hf
      refine x_lv [] rfl ?_
      exact tX0_toll_b18 N z1.2 B hf
theorem ctX0_toll (l : Launch) (q : Nat → Nat) (N : Nat) (h : pH) (r1 : Nat) (x2 : Int32) (v : Int32) (h' : pH) (hf : fX0_toll N h r1 x2 = some (v, h')) : Ctr l q yX0_toll cX0_toll 3 (some .int) 1 22 [rf q 9, rf q r1, .int x2] h h' (some (.int v)) := by
  refine ct_of (own := RX0) (lv := [(0, rf q 9), (1, rf q r1), (2, .int x2)]) (by decide +kernel) rfl (by simp [lg_sl, rf_cat, cat_i, cat_l]) (by first | rfl | simp [lv_args, rf_cat, cat_i, cat_l]) ?_
  intro X B
  obtain rfl := B.2.1
  obtain rfl := B.2.2.1
  exact tX0_toll N h r1 x2 B hf
def fX0_longestRow_b27 (N : Nat) (h : pH) (xs0 : Int32) : Option (Int32 × pH) :=
  some (xs0, h)
set_option maxRecDepth 100000 in
set_option maxHeartbeats 4000000 in
theorem tX0_longestRow_b27 {X : Xt} {v : Int32} {h' : pH} (N : Nat) (h : pH) (xs0 : Int32) (B : Bd (lo X) (qo X) cX0_longestRow RX0 3 (some .int) 1 22 (some (.int v)) h' X) (hf : fX0_longestRow_b27 N h xs0 = some (v, h')) : Wx X 3 27 [] [.int xs0] h := by
  have C := B.1
  unfold fX0_longestRow_b27 at hf
  obtain ⟨rfl, rfl⟩ := rtn hf
  exact B.2.2.2.2.2.1 _ _ rfl rfl rfl _ _ dX0_longestRow_27
def fX0_longestRow (N : Nat) (h : pH) (r1 : Nat) (x2 : Int32) : Option (Int32 × pH) :=
  (fX0_outcome N h r1 x2).bind fun z1 => (if z1.1 = 0 then (fX0_longestRow_b27 N z1.2 0) else (if fI 1 2 r1 = true then (if ix (((z1.2.1 r1 2) * 19) + x2) 38 = true then (fX0_longestRow_b27 N z1.2 (z1.2.1 13 (((z1.2.1 r1 2) * 19) + x2).toNatClampNeg)) else none) else none))
set_option maxRecDepth 100000 in
set_option maxHeartbeats 4000000 in
theorem tX0_longestRow {X : Xt} {v : Int32} {h' : pH} (N : Nat) (h : pH) (r1 : Nat) (x2 : Int32) (B : Bd (lo X) (qo X) cX0_longestRow RX0 3 (some .int) 1 22 (some (.int v)) h' X) (hf : fX0_longestRow N h r1 x2 = some (v, h')) : Wx X 3 0 [(0, rf (qo X) 9), (1, rf (qo X) r1), (2, .int x2)] [] h := by
  have C := B.1
  unfold fX0_longestRow at hf
  refine x_aload_n (i := 0) 0 C dX0_longestRow_0 rfl rfl ?_
  refine x_aload_n (i := 1) 1 C dX0_longestRow_1 rfl rfl ?_
  refine x_iload_n (i := 2) 2 C dX0_longestRow_2 rfl rfl ?_
  obtain ⟨z1, e1, hf⟩ := bnd hf
  refine x_callV (r := 9) (As := [rf (qo X) r1, .int x2]) (rest := []) C dX0_longestRow_3 kmX0_73 miX0_outcome (ctX0_outcome (lo X) (qo X) N h r1 x2 z1.1 z1.2 e1) rfl rfl ⟨Nat.le_trans (by decide) B.2.2.2.1, Nat.le_trans (by decide) B.2.2.2.2.1⟩ (by simp [cat_i, cat_l, rf_cat]) rfl ?_
  refine x_if_ne (tgt := 13) C dX0_longestRow_6 (by decide) (fun c => ?_) (fun c => ?_)
  · rw [if_neg c] at hf
    refine x_aload_n (i := 0) 0 C dX0_longestRow_13 rfl rfl ?_
    refine x_getR (r := 9) (r2 := 13) C dX0_longestRow_14 kfX0_29 rfl rfl (by decide) ?_
    refine x_aload_n (i := 1) 1 C dX0_longestRow_17 rfl rfl ?_
    obtain ⟨g1, hf⟩ := ife hf
    refine x_getI (r := r1) C dX0_longestRow_18 kfX0_65 g1 ?_
    refine x_bipush (v := 19) C dX0_longestRow_21 (by decide) ?_
    refine x_imul C dX0_longestRow_23 ?_
    refine x_iload_n (i := 2) 2 C dX0_longestRow_24 rfl rfl ?_
    refine x_iadd C dX0_longestRow_25 ?_
    obtain ⟨g2, hf⟩ := ife hf
    refine x_iald (r := 13) C dX0_longestRow_26 rfl g2 ?_
    refine x_lv [] rfl ?_
    exact tX0_longestRow_b27 N z1.2 (z1.2.1 13 (((z1.2.1 r1 2) * 19) + x2).toNatClampNeg) B hf
  · rw [if_pos c] at hf
    refine x_iconst (v := 0) C dX0_longestRow_9 (by decide) ?_
    refine x_goto (tgt := 27) C dX0_longestRow_10 (by decide) ?_
    refine x_lv [] rfl ?_
    exact tX0_longestRow_b27 N z1.2 0 B hf
theorem ctX0_longestRow (l : Launch) (q : Nat → Nat) (N : Nat) (h : pH) (r1 : Nat) (x2 : Int32) (v : Int32) (h' : pH) (hf : fX0_longestRow N h r1 x2 = some (v, h')) : Ctr l q yX0_longestRow cX0_longestRow 3 (some .int) 1 22 [rf q 9, rf q r1, .int x2] h h' (some (.int v)) := by
  refine ct_of (own := RX0) (lv := [(0, rf q 9), (1, rf q r1), (2, .int x2)]) (by decide +kernel) rfl (by simp [lg_sl, rf_cat, cat_i, cat_l]) (by first | rfl | simp [lv_args, rf_cat, cat_i, cat_l]) ?_
  intro X B
  obtain rfl := B.2.1
  obtain rfl := B.2.2.1
  exact tX0_longestRow N h r1 x2 B hf
def fX1_shiftBy_b26 (N : Nat) (h : pH) (xs0 : Int32) : Option (Int32 × pH) :=
  some (xs0, h)
set_option maxRecDepth 100000 in
set_option maxHeartbeats 4000000 in
theorem tX1_shiftBy_b26 {X : Xt} {v : Int32} {h' : pH} (N : Nat) (h : pH) (xs0 : Int32) (B : Bd (lo X) (qo X) cX1_shiftBy RX1 2 (some .int) 0 0 (some (.int v)) h' X) (hf : fX1_shiftBy_b26 N h xs0 = some (v, h')) : Wx X 2 26 [] [.int xs0] h := by
  have C := B.1
  unfold fX1_shiftBy_b26 at hf
  obtain ⟨rfl, rfl⟩ := rtn hf
  exact B.2.2.2.2.2.1 _ _ rfl rfl rfl _ _ dX1_shiftBy_26
def fX1_shiftBy_b25 (N : Nat) (h : pH)  : Option (Int32 × pH) :=
  fX1_shiftBy_b26 N h 0
set_option maxRecDepth 100000 in
set_option maxHeartbeats 4000000 in
theorem tX1_shiftBy_b25 {X : Xt} {v : Int32} {h' : pH} (N : Nat) (h : pH)  (B : Bd (lo X) (qo X) cX1_shiftBy RX1 2 (some .int) 0 0 (some (.int v)) h' X) (hf : fX1_shiftBy_b25 N h  = some (v, h')) : Wx X 2 25 [] [] h := by
  have C := B.1
  unfold fX1_shiftBy_b25 at hf
  refine x_iconst (v := 0) C dX1_shiftBy_25 (by decide) ?_
  exact tX1_shiftBy_b26 N h 0 B hf
def fX1_shiftBy (N : Nat) (h : pH) (r0 : Nat) (r1 : Nat) : Option (Int32 × pH) :=
  if fI 1 0 r0 = true then (if (h.1 r0 0) < 0 then (fX1_shiftBy_b25 N h) else (if fI 1 0 r0 = true then (if aK r1 = 0 then (if (Int32.ofNat (aN r1)) ≤ (h.1 r0 0) then (fX1_shiftBy_b25 N h) else (if fI 1 0 r0 = true then (if aK r1 = 0 ∧ ix (h.1 r0 0) (aN r1) = true then (fX1_shiftBy_b26 N h (h.1 r1 (h.1 r0 0).toNatClampNeg)) else none) else none)) else none) else none)) else none
set_option maxRecDepth 100000 in
set_option maxHeartbeats 4000000 in
theorem tX1_shiftBy {X : Xt} {v : Int32} {h' : pH} (N : Nat) (h : pH) (r0 : Nat) (r1 : Nat) (B : Bd (lo X) (qo X) cX1_shiftBy RX1 2 (some .int) 0 0 (some (.int v)) h' X) (hf : fX1_shiftBy N h r0 r1 = some (v, h')) : Wx X 2 0 [(0, rf (qo X) r0), (1, rf (qo X) r1)] [] h := by
  have C := B.1
  unfold fX1_shiftBy at hf
  refine x_aload_n (i := 0) 0 C dX1_shiftBy_0 rfl rfl ?_
  obtain ⟨g1, hf⟩ := ife hf
  refine x_getI (r := r0) C dX1_shiftBy_1 kfX1_23 g1 ?_
  refine x_if_lt (tgt := 25) C dX1_shiftBy_4 (by decide) (fun c => ?_) (fun c => ?_)
  · rw [if_pos c] at hf
    refine x_lv [] rfl ?_
    exact tX1_shiftBy_b25 N h B hf
  · rw [if_neg c] at hf
    refine x_aload_n (i := 0) 0 C dX1_shiftBy_7 rfl rfl ?_
    obtain ⟨g2, hf⟩ := ife hf
    refine x_getI (r := r0) C dX1_shiftBy_8 kfX1_23 g2 ?_
    refine x_aload_n (i := 1) 1 C dX1_shiftBy_11 rfl rfl ?_
    obtain ⟨g3, hf⟩ := ife hf
    refine x_alen0 (r := r1) C dX1_shiftBy_12 g3 rfl ?_
    refine x_icmp_ge (tgt := 25) C dX1_shiftBy_13 (by decide) (fun c => ?_) (fun c => ?_)
    · rw [if_pos c] at hf
      refine x_lv [] rfl ?_
      exact tX1_shiftBy_b25 N h B hf
    · rw [if_neg c] at hf
      refine x_aload_n (i := 1) 1 C dX1_shiftBy_16 rfl rfl ?_
      refine x_aload_n (i := 0) 0 C dX1_shiftBy_17 rfl rfl ?_
      obtain ⟨g4, hf⟩ := ife hf
      refine x_getI (r := r0) C dX1_shiftBy_18 kfX1_23 g4 ?_
      obtain ⟨g5, hf⟩ := ife hf
      refine x_iald (r := r1) C dX1_shiftBy_21 g5.1 g5.2 ?_
      refine x_goto (tgt := 26) C dX1_shiftBy_22 (by decide) ?_
      refine x_lv [] rfl ?_
      exact tX1_shiftBy_b26 N h (h.1 r1 (h.1 r0 0).toNatClampNeg) B hf
theorem ctX1_shiftBy (l : Launch) (q : Nat → Nat) (N : Nat) (h : pH) (r0 : Nat) (r1 : Nat) (v : Int32) (h' : pH) (hf : fX1_shiftBy N h r0 r1 = some (v, h')) : Ctr l q yX1_shiftBy cX1_shiftBy 2 (some .int) 0 0 [rf q r0, rf q r1] h h' (some (.int v)) := by
  refine ct_of (own := RX1) (lv := [(0, rf q r0), (1, rf q r1)]) (by decide +kernel) rfl (by simp [lg_sl, rf_cat, cat_i, cat_l]) (by first | rfl | simp [lv_args, rf_cat, cat_i, cat_l]) ?_
  intro X B
  obtain rfl := B.2.1
  obtain rfl := B.2.2.1
  exact tX1_shiftBy N h r0 r1 B hf
def fJ9_floorMod_7cf53_b18 (N : Nat) (h : pH) (x2 : Int32) : Option (Int32 × pH) :=
  some (x2, h)
set_option maxRecDepth 100000 in
set_option maxHeartbeats 4000000 in
theorem tJ9_floorMod_7cf53_b18 {X : Xt} {v : Int32} {h' : pH} (N : Nat) (h : pH) (x2 : Int32) (B : Bd (lo X) (qo X) cJ9_floorMod_7cf53 RJ9 3 (some .int) 0 0 (some (.int v)) h' X) (hf : fJ9_floorMod_7cf53_b18 N h x2 = some (v, h')) : Wx X 3 18 [(2, .int x2)] [] h := by
  have C := B.1
  unfold fJ9_floorMod_7cf53_b18 at hf
  refine x_iload_n (i := 2) 0 C dJ9_floorMod_7cf53_18 rfl rfl ?_
  obtain ⟨rfl, rfl⟩ := rtn hf
  exact B.2.2.2.2.2.1 _ _ rfl rfl rfl _ _ dJ9_floorMod_7cf53_19
def fJ9_floorMod_7cf53 (N : Nat) (h : pH) (x0 : Int32) (x1 : Int32) : Option (Int32 × pH) :=
  if ¬ x1 = 0 then (if 0 ≤ (x0 ^^^ x1) then (fJ9_floorMod_7cf53_b18 N h (x0 - x0 / x1 * x1)) else (if (x0 - x0 / x1 * x1) = 0 then (fJ9_floorMod_7cf53_b18 N h (x0 - x0 / x1 * x1)) else (some ((x0 - x0 / x1 * x1) + x1, h)))) else none
set_option maxRecDepth 100000 in
set_option maxHeartbeats 4000000 in
theorem tJ9_floorMod_7cf53 {X : Xt} {v : Int32} {h' : pH} (N : Nat) (h : pH) (x0 : Int32) (x1 : Int32) (B : Bd (lo X) (qo X) cJ9_floorMod_7cf53 RJ9 3 (some .int) 0 0 (some (.int v)) h' X) (hf : fJ9_floorMod_7cf53 N h x0 x1 = some (v, h')) : Wx X 3 0 [(0, .int x0), (1, .int x1)] [] h := by
  have C := B.1
  unfold fJ9_floorMod_7cf53 at hf
  refine x_iload_n (i := 0) 0 C dJ9_floorMod_7cf53_0 rfl rfl ?_
  refine x_iload_n (i := 1) 1 C dJ9_floorMod_7cf53_1 rfl rfl ?_
  obtain ⟨g1, hf⟩ := ife hf
  refine x_irem C dJ9_floorMod_7cf53_2 g1 ?_
  refine x_istore_n (i := 2) (lv' := [(2, .int (x0 - x0 / x1 * x1)), (0, .int x0), (1, .int x1)]) C dJ9_floorMod_7cf53_3 rfl (by decide) rfl ?_
  refine x_iload_n (i := 0) 1 C dJ9_floorMod_7cf53_4 rfl rfl ?_
  refine x_iload_n (i := 1) 2 C dJ9_floorMod_7cf53_5 rfl rfl ?_
  refine x_ixor C dJ9_floorMod_7cf53_6 ?_
  refine x_if_ge (tgt := 18) C dJ9_floorMod_7cf53_7 (by decide) (fun c => ?_) (fun c => ?_)
  · rw [if_pos c] at hf
    refine x_lv [0] rfl ?_
    exact tJ9_floorMod_7cf53_b18 N h (x0 - x0 / x1 * x1) B hf
  · rw [if_neg c] at hf
    refine x_iload_n (i := 2) 0 C dJ9_floorMod_7cf53_10 rfl rfl ?_
    refine x_if_eq (tgt := 18) C dJ9_floorMod_7cf53_11 (by decide) (fun c => ?_) (fun c => ?_)
    · rw [if_pos c] at hf
      refine x_lv [0] rfl ?_
      exact tJ9_floorMod_7cf53_b18 N h (x0 - x0 / x1 * x1) B hf
    · rw [if_neg c] at hf
      refine x_iload_n (i := 2) 0 C dJ9_floorMod_7cf53_14 rfl rfl ?_
      refine x_iload_n (i := 1) 2 C dJ9_floorMod_7cf53_15 rfl rfl ?_
      refine x_iadd C dJ9_floorMod_7cf53_16 ?_
      obtain ⟨rfl, rfl⟩ := rtn hf
      exact B.2.2.2.2.2.1 _ _ rfl rfl rfl _ _ dJ9_floorMod_7cf53_17
theorem ctJ9_floorMod_7cf53 (l : Launch) (q : Nat → Nat) (N : Nat) (h : pH) (x0 : Int32) (x1 : Int32) (v : Int32) (h' : pH) (hf : fJ9_floorMod_7cf53 N h x0 x1 = some (v, h')) : Ctr l q yJ9_floorMod_7cf53 cJ9_floorMod_7cf53 3 (some .int) 0 0 [.int x0, .int x1] h h' (some (.int v)) := by
  refine ct_of (own := RJ9) (lv := [(0, .int x0), (1, .int x1)]) (by decide +kernel) rfl (by simp [lg_sl, rf_cat, cat_i, cat_l]) (by first | rfl | simp [lv_args, rf_cat, cat_i, cat_l]) ?_
  intro X B
  obtain rfl := B.2.1
  obtain rfl := B.2.2.1
  exact tJ9_floorMod_7cf53 N h x0 x1 B hf
def fX0_gapBehind_b54 (N : Nat) (h : pH) (xs0 : Int32) : Option (Int32 × pH) :=
  (fJ9_floorMod_7cf53 N h xs0 (h.1 9 3)).bind fun z1 => (some (z1.1, z1.2))
set_option maxRecDepth 100000 in
set_option maxHeartbeats 4000000 in
theorem tX0_gapBehind_b54 {X : Xt} {v : Int32} {h' : pH} (N : Nat) (h : pH) (xs0 : Int32) (B : Bd (lo X) (qo X) cX0_gapBehind RX0 5 (some .int) 1 22 (some (.int v)) h' X) (hf : fX0_gapBehind_b54 N h xs0 = some (v, h')) : Wx X 5 54 [(0, rf (qo X) 9)] [.int xs0] h := by
  have C := B.1
  unfold fX0_gapBehind_b54 at hf
  refine x_aload_n (i := 0) 0 C dX0_gapBehind_54 rfl rfl ?_
  refine x_getI (r := 9) C dX0_gapBehind_55 kfX0_38 rfl ?_
  obtain ⟨z1, e1, hf⟩ := bnd hf
  refine x_callS (As := [.int xs0, .int (h.1 9 3)]) (rest := []) C dX0_gapBehind_58 kmX0_87 miJ9_floorMod_7cf53 (ctJ9_floorMod_7cf53 (lo X) (qo X) N h xs0 (h.1 9 3) z1.1 z1.2 e1) rfl rfl ⟨Nat.le_trans (by decide) B.2.2.2.1, Nat.le_trans (by decide) B.2.2.2.2.1⟩ (by simp [cat_i, cat_l, rf_cat]) ?_
  obtain ⟨rfl, rfl⟩ := rtn hf
  exact B.2.2.2.2.2.1 _ _ rfl rfl rfl _ _ dX0_gapBehind_61
def fX0_gapBehind (N : Nat) (h : pH) (r1 : Nat) (x2 : Int32) (r3 : Nat) : Option (Int32 × pH) :=
  (fX0_outcome N h r1 x2).bind fun z1 => (if z1.1 = 1 then (if fI 1 0 r1 = true then (if (z1.2.1 r1 0) = 4 then (some (((z1.2.1 9 3) - 1) - x2, z1.2)) else (if isO 1 r1 = true then ((fX1_shiftBy N z1.2 r1 r3).bind fun z2 => (if fI 1 3 r1 = true then (if (z2.2.1 r1 3) = 0 then (fX0_gapBehind_b54 N z2.2 (x2 + z2.1)) else (fX0_gapBehind_b54 N z2.2 (x2 - z2.1))) else none)) else none)) else none) else (some (x2, z1.2)))
set_option maxRecDepth 100000 in
set_option maxHeartbeats 4000000 in
theorem tX0_gapBehind {X : Xt} {v : Int32} {h' : pH} (N : Nat) (h : pH) (r1 : Nat) (x2 : Int32) (r3 : Nat) (B : Bd (lo X) (qo X) cX0_gapBehind RX0 5 (some .int) 1 22 (some (.int v)) h' X) (hf : fX0_gapBehind N h r1 x2 r3 = some (v, h')) : Wx X 5 0 [(0, rf (qo X) 9), (1, rf (qo X) r1), (2, .int x2), (3, rf (qo X) r3)] [] h := by
  have C := B.1
  unfold fX0_gapBehind at hf
  refine x_aload_n (i := 0) 0 C dX0_gapBehind_0 rfl rfl ?_
  refine x_aload_n (i := 1) 1 C dX0_gapBehind_1 rfl rfl ?_
  refine x_iload_n (i := 2) 2 C dX0_gapBehind_2 rfl rfl ?_
  obtain ⟨z1, e1, hf⟩ := bnd hf
  refine x_callV (r := 9) (As := [rf (qo X) r1, .int x2]) (rest := []) C dX0_gapBehind_3 kmX0_73 miX0_outcome (ctX0_outcome (lo X) (qo X) N h r1 x2 z1.1 z1.2 e1) rfl rfl ⟨Nat.le_trans (by decide) B.2.2.2.1, Nat.le_trans (by decide) B.2.2.2.2.1⟩ (by simp [cat_i, cat_l, rf_cat]) rfl ?_
  refine x_iconst (v := 1) C dX0_gapBehind_6 (by decide) ?_
  refine x_icmp_eq (tgt := 12) C dX0_gapBehind_7 (by decide) (fun c => ?_) (fun c => ?_)
  · rw [if_pos c] at hf
    refine x_aload_n (i := 1) 1 C dX0_gapBehind_12 rfl rfl ?_
    obtain ⟨g1, hf⟩ := ife hf
    refine x_getI (r := r1) C dX0_gapBehind_13 kfX0_77 g1 ?_
    refine x_iconst (v := 4) C dX0_gapBehind_16 (by decide) ?_
    refine x_icmp_ne (tgt := 29) C dX0_gapBehind_17 (by decide) (fun c => ?_) (fun c => ?_)
    · rw [if_neg c] at hf
      refine x_aload_n (i := 1) 1 C dX0_gapBehind_29 rfl rfl ?_
      refine x_aload_n (i := 3) 3 C dX0_gapBehind_30 rfl rfl ?_
      obtain ⟨g2, hf⟩ := ife hf
      obtain ⟨z2, e2, hf⟩ := bnd hf
      refine x_callV (r := r1) (As := [rf (qo X) r3]) (rest := []) C dX0_gapBehind_31 kmX0_80 miX1_shiftBy (ctX1_shiftBy (lo X) (qo X) N z1.2 r1 r3 z2.1 z2.2 e2) rfl rfl ⟨Nat.le_trans (by decide) B.2.2.2.1, Nat.le_trans (by decide) B.2.2.2.2.1⟩ (by simp [cat_i, cat_l, rf_cat]) g2 ?_
      refine x_istore (lv' := [(4, .int z2.1), (0, rf (qo X) 9), (1, rf (qo X) r1), (2, .int x2), (3, rf (qo X) r3)]) C dX0_gapBehind_34 (by decide) (by simp [List.filter, rf_cat]) ?_
      refine x_aload_n (i := 1) 2 C dX0_gapBehind_36 rfl rfl ?_
      obtain ⟨g3, hf⟩ := ife hf
      refine x_getI (r := r1) C dX0_gapBehind_37 kfX0_84 g3 ?_
      refine x_if_ne (tgt := 50) C dX0_gapBehind_40 (by decide) (fun c => ?_) (fun c => ?_)
      · rw [if_neg c] at hf
        refine x_iload_n (i := 2) 3 C dX0_gapBehind_50 rfl rfl ?_
        refine x_iload 0 C dX0_gapBehind_51 rfl ?_
        refine x_isub C dX0_gapBehind_53 ?_
        refine x_lv [1] rfl ?_
        exact tX0_gapBehind_b54 N z2.2 (x2 - z2.1) B hf
      · rw [if_pos c] at hf
        refine x_iload_n (i := 2) 3 C dX0_gapBehind_43 rfl rfl ?_
        refine x_iload 0 C dX0_gapBehind_44 rfl ?_
        refine x_iadd C dX0_gapBehind_46 ?_
        refine x_goto (tgt := 54) C dX0_gapBehind_47 (by decide) ?_
        refine x_lv [1] rfl ?_
        exact tX0_gapBehind_b54 N z2.2 (x2 + z2.1) B hf
    · rw [if_pos c] at hf
      refine x_aload_n (i := 0) 0 C dX0_gapBehind_20 rfl rfl ?_
      refine x_getI (r := 9) C dX0_gapBehind_21 kfX0_38 rfl ?_
      refine x_iconst (v := 1) C dX0_gapBehind_24 (by decide) ?_
      refine x_isub C dX0_gapBehind_25 ?_
      refine x_iload_n (i := 2) 2 C dX0_gapBehind_26 rfl rfl ?_
      refine x_isub C dX0_gapBehind_27 ?_
      obtain ⟨rfl, rfl⟩ := rtn hf
      exact B.2.2.2.2.2.1 _ _ rfl rfl rfl _ _ dX0_gapBehind_28
  · rw [if_neg c] at hf
    refine x_iload_n (i := 2) 2 C dX0_gapBehind_10 rfl rfl ?_
    obtain ⟨rfl, rfl⟩ := rtn hf
    exact B.2.2.2.2.2.1 _ _ rfl rfl rfl _ _ dX0_gapBehind_11
theorem ctX0_gapBehind (l : Launch) (q : Nat → Nat) (N : Nat) (h : pH) (r1 : Nat) (x2 : Int32) (r3 : Nat) (v : Int32) (h' : pH) (hf : fX0_gapBehind N h r1 x2 r3 = some (v, h')) : Ctr l q yX0_gapBehind cX0_gapBehind 5 (some .int) 1 22 [rf q 9, rf q r1, .int x2, rf q r3] h h' (some (.int v)) := by
  refine ct_of (own := RX0) (lv := [(0, rf q 9), (1, rf q r1), (2, .int x2), (3, rf q r3)]) (by decide +kernel) rfl (by simp [lg_sl, rf_cat, cat_i, cat_l]) (by first | rfl | simp [lv_args, rf_cat, cat_i, cat_l]) ?_
  intro X B
  obtain rfl := B.2.1
  obtain rfl := B.2.2.1
  exact tX0_gapBehind N h r1 x2 r3 B hf
def fX8_placeOf_B2 (N : Nat) (k2 : pH → Int32 → Nat → Int32 → Option (Int32 × pH)) (h : pH) (x0 : Int32) (t1 : Nat) (x2 : Int32) : Option (Int32 × pH) :=
  if t1 < 7 then (if (Int32.ofNat (stL t1).length) ≤ x2 then (some ((-1), h)) else (if t1 < 7 ∧ ix x2 (stL t1).length = true then (if (stc t1 x2.toNatClampNeg) = x0 then (some (x2, h)) else (k2 h x0 t1 (x2 + 1))) else none)) else none
set_option maxRecDepth 100000 in
set_option maxHeartbeats 4000000 in
theorem tX8_placeOf_B2 {X : Xt} {v : Int32} {h' : pH} (N : Nat) (k2 : pH → Int32 → Nat → Int32 → Option (Int32 × pH)) (HK2 : ∀ (h : pH) (x0 : Int32) (t1 : Nat) (x2 : Int32), k2 h x0 t1 x2 = some (v, h') → Wx X 3 2 [(0, .int x0), (1, rf (qo X) (69 + t1)), (2, .int x2)] [] h) (h : pH) (x0 : Int32) (t1 : Nat) (x2 : Int32) (B : Bd (lo X) (qo X) cX8_placeOf RX8 3 (some .int) 0 0 (some (.int v)) h' X) (hf : fX8_placeOf_B2 N k2 h x0 t1 x2 = some (v, h')) : Wx X 3 2 [(0, .int x0), (1, rf (qo X) (69 + t1)), (2, .int x2)] [] h := by
  have C := B.1
  unfold fX8_placeOf_B2 at hf
  refine x_iload_n (i := 2) 2 C dX8_placeOf_2 rfl rfl ?_
  refine x_aload_n (i := 1) 1 C dX8_placeOf_3 rfl rfl ?_
  obtain ⟨g1, hf⟩ := ife hf
  refine x_alenC (t := t1) C dX8_placeOf_4 g1 rfl ?_
  refine x_icmp_ge (tgt := 23) C dX8_placeOf_5 (by decide) (fun c => ?_) (fun c => ?_)
  · rw [if_pos c] at hf
    refine x_iconst (v := (-1)) C dX8_placeOf_23 (by decide) ?_
    obtain ⟨rfl, rfl⟩ := rtn hf
    exact B.2.2.2.2.2.1 _ _ rfl rfl rfl _ _ dX8_placeOf_24
  · rw [if_neg c] at hf
    refine x_aload_n (i := 1) 1 C dX8_placeOf_8 rfl rfl ?_
    refine x_iload_n (i := 2) 2 C dX8_placeOf_9 rfl rfl ?_
    obtain ⟨g2, hf⟩ := ife hf
    refine x_cald (t := t1) C dX8_placeOf_10 g2.1 g2.2 ?_
    refine x_iload_n (i := 0) 0 C dX8_placeOf_11 rfl rfl ?_
    refine x_icmp_ne (tgt := 17) C dX8_placeOf_12 (by decide) (fun c => ?_) (fun c => ?_)
    · rw [if_neg c] at hf
      refine x_iinc (v := x2 + 1) (lv' := [(2, .int (x2 + 1)), (0, .int x0), (1, rf (qo X) (69 + t1))]) 2 C dX8_placeOf_17 rfl rfl (by decide) (by simp [List.filter, rf_cat]) ?_
      refine x_goto (tgt := 2) C dX8_placeOf_20 (by decide) ?_
      refine x_lv [1, 2, 0] rfl ?_
      exact HK2 h x0 t1 (x2 + 1) hf
    · rw [if_pos c] at hf
      refine x_iload_n (i := 2) 2 C dX8_placeOf_15 rfl rfl ?_
      obtain ⟨rfl, rfl⟩ := rtn hf
      exact B.2.2.2.2.2.1 _ _ rfl rfl rfl _ _ dX8_placeOf_16
def fX8_placeOf_L2 (N : Nat) : Nat → pH → Int32 → Nat → Int32 → Option (Int32 × pH)
  | 0 => fun _ _ _ _ => none
  | n + 1 => fX8_placeOf_B2 N (fX8_placeOf_L2 N n)
theorem tX8_placeOf_L2 {X : Xt} {v : Int32} {h' : pH} (N : Nat) (B : Bd (lo X) (qo X) cX8_placeOf RX8 3 (some .int) 0 0 (some (.int v)) h' X) : ∀ (n : Nat) (h : pH) (x0 : Int32) (t1 : Nat) (x2 : Int32), fX8_placeOf_L2 N n h x0 t1 x2 = some (v, h') → Wx X 3 2 [(0, .int x0), (1, rf (qo X) (69 + t1)), (2, .int x2)] [] h := by
  intro n
  induction n with
  | zero => intro h x0 t1 x2 hf; exact absurd (show (none : Option (Int32 × pH)) = some (v, h') from hf) (fun z => by cases z)
  | succ n ih => intro h x0 t1 x2 hf; exact tX8_placeOf_B2 N (fX8_placeOf_L2 N n) ih h x0 t1 x2 B hf
def fX8_placeOf (N : Nat) (h : pH) (x0 : Int32) (t1 : Nat) : Option (Int32 × pH) :=
  fX8_placeOf_L2 N N h x0 t1 0
set_option maxRecDepth 100000 in
set_option maxHeartbeats 4000000 in
theorem tX8_placeOf {X : Xt} {v : Int32} {h' : pH} (N : Nat) (h : pH) (x0 : Int32) (t1 : Nat) (B : Bd (lo X) (qo X) cX8_placeOf RX8 3 (some .int) 0 0 (some (.int v)) h' X) (hf : fX8_placeOf N h x0 t1 = some (v, h')) : Wx X 3 0 [(0, .int x0), (1, rf (qo X) (69 + t1))] [] h := by
  have C := B.1
  unfold fX8_placeOf at hf
  refine x_iconst (v := 0) C dX8_placeOf_0 (by decide) ?_
  refine x_istore_n (i := 2) (lv' := [(2, .int 0), (0, .int x0), (1, rf (qo X) (69 + t1))]) C dX8_placeOf_1 rfl (by decide) (by simp [List.filter, rf_cat]) ?_
  refine x_lv [1, 2, 0] rfl ?_
  exact tX8_placeOf_L2 N  B N h x0 t1 0 hf
theorem ctX8_placeOf (l : Launch) (q : Nat → Nat) (N : Nat) (h : pH) (x0 : Int32) (t1 : Nat) (v : Int32) (h' : pH) (hf : fX8_placeOf N h x0 t1 = some (v, h')) : Ctr l q yX8_placeOf cX8_placeOf 3 (some .int) 0 0 [.int x0, rf q (69 + t1)] h h' (some (.int v)) := by
  refine ct_of (own := RX8) (lv := [(0, .int x0), (1, rf q (69 + t1))]) (by decide +kernel) rfl (by simp [lg_sl, rf_cat, cat_i, cat_l]) (by first | rfl | simp [lv_args, rf_cat, cat_i, cat_l]) ?_
  intro X B
  obtain rfl := B.2.1
  obtain rfl := B.2.2.1
  exact tX8_placeOf N h x0 t1 B hf
def fX1_take_b49 (N : Nat) (h : pH) (r0 : Nat) (r1 : Nat) (x2 : Int32) (xs0 : Int32) (rs1 : Nat) : Option (Unit × pH) :=
  if fI 1 2 rs1 = true then (if isO 7 r1 = true then ((fX7_at N (pw h rs1 2 xs0) r1 (x2 + 2)).bind fun z1 => ((fX8_placeOf N z1.2 z1.1 3).bind fun z2 => (if fI 1 3 r0 = true then (if isO 7 r1 = true then ((fX7_at N (pw z2.2 r0 3 z2.1) r1 (x2 + 3)).bind fun z3 => ((fX8_placeOf N z3.2 z3.1 4).bind fun z4 => (if fI 1 4 r0 = true then (some ((), (pw z4.2 r0 4 z4.1))) else none))) else none) else none))) else none) else none
set_option maxRecDepth 100000 in
set_option maxHeartbeats 4000000 in
theorem tX1_take_b49 {X : Xt} {v : Unit} {h' : pH} (N : Nat) (h : pH) (r0 : Nat) (r1 : Nat) (x2 : Int32) (xs0 : Int32) (rs1 : Nat) (B : Bd (lo X) (qo X) cX1_take RX1 3 none 1 22 none h' X) (hf : fX1_take_b49 N h r0 r1 x2 xs0 rs1 = some (v, h')) : Wx X 3 49 [(0, rf (qo X) r0), (1, rf (qo X) r1), (2, .int x2)] [.int xs0, rf (qo X) rs1] h := by
  have C := B.1
  unfold fX1_take_b49 at hf
  obtain ⟨g1, hf⟩ := ife hf
  refine x_putI (r := rs1) C dX1_take_49 kfX1_35 g1 rfl rfl ?_
  refine x_aload_n (i := 0) 0 C dX1_take_52 rfl rfl ?_
  refine x_aload_n (i := 1) 1 C dX1_take_53 rfl rfl ?_
  refine x_iload_n (i := 2) 2 C dX1_take_54 rfl rfl ?_
  refine x_iconst (v := 2) C dX1_take_55 (by decide) ?_
  refine x_iadd C dX1_take_56 ?_
  obtain ⟨g2, hf⟩ := ife hf
  obtain ⟨z1, e1, hf⟩ := bnd hf
  refine x_callV (r := r1) (As := [.int (x2 + 2)]) (rest := [rf (qo X) r0]) C dX1_take_57 kmX1_9 miX7_at (ctX7_at (lo X) (qo X) N (pw h rs1 2 xs0) r1 (x2 + 2) z1.1 z1.2 e1) rfl rfl ⟨Nat.le_trans (by decide) B.2.2.2.1, Nat.le_trans (by decide) B.2.2.2.2.1⟩ (by simp [cat_i, cat_l, rf_cat]) g2 ?_
  refine x_gets (t := 3) C dX1_take_60 kgX1_38 (by decide) ?_
  obtain ⟨z2, e2, hf⟩ := bnd hf
  refine x_callS (As := [.int z1.1, rf (qo X) (69 + 3)]) (rest := [rf (qo X) r0]) C dX1_take_63 kmX1_19 miX8_placeOf (ctX8_placeOf (lo X) (qo X) N z1.2 z1.1 3 z2.1 z2.2 e2) rfl rfl ⟨Nat.le_trans (by decide) B.2.2.2.1, Nat.le_trans (by decide) B.2.2.2.2.1⟩ (by simp [cat_i, cat_l, rf_cat]) ?_
  obtain ⟨g3, hf⟩ := ife hf
  refine x_putI (r := r0) C dX1_take_66 kfX1_41 g3 rfl rfl ?_
  refine x_aload_n (i := 0) 0 C dX1_take_69 rfl rfl ?_
  refine x_aload_n (i := 1) 1 C dX1_take_70 rfl rfl ?_
  refine x_iload_n (i := 2) 2 C dX1_take_71 rfl rfl ?_
  refine x_iconst (v := 3) C dX1_take_72 (by decide) ?_
  refine x_iadd C dX1_take_73 ?_
  obtain ⟨g4, hf⟩ := ife hf
  obtain ⟨z3, e3, hf⟩ := bnd hf
  refine x_callV (r := r1) (As := [.int (x2 + 3)]) (rest := [rf (qo X) r0]) C dX1_take_74 kmX1_9 miX7_at (ctX7_at (lo X) (qo X) N (pw z2.2 r0 3 z2.1) r1 (x2 + 3) z3.1 z3.2 e3) rfl rfl ⟨Nat.le_trans (by decide) B.2.2.2.1, Nat.le_trans (by decide) B.2.2.2.2.1⟩ (by simp [cat_i, cat_l, rf_cat]) g4 ?_
  refine x_gets (t := 4) C dX1_take_77 kgX1_44 (by decide) ?_
  obtain ⟨z4, e4, hf⟩ := bnd hf
  refine x_callS (As := [.int z3.1, rf (qo X) (69 + 4)]) (rest := [rf (qo X) r0]) C dX1_take_80 kmX1_19 miX8_placeOf (ctX8_placeOf (lo X) (qo X) N z3.2 z3.1 4 z4.1 z4.2 e4) rfl rfl ⟨Nat.le_trans (by decide) B.2.2.2.1, Nat.le_trans (by decide) B.2.2.2.2.1⟩ (by simp [cat_i, cat_l, rf_cat]) ?_
  obtain ⟨g5, hf⟩ := ife hf
  refine x_putI (r := r0) C dX1_take_83 kfX1_47 g5 rfl rfl ?_
  obtain ⟨rfl, rfl⟩ := rtn hf
  exact B.2.2.2.2.2.2.2.2.2 rfl rfl _ _ dX1_take_86
def fX1_take (N : Nat) (h : pH) (r0 : Nat) (r1 : Nat) (x2 : Int32) : Option (Unit × pH) :=
  if isO 7 r1 = true then ((fX7_at N h r1 x2).bind fun z1 => ((fX8_placeOf N z1.2 z1.1 1).bind fun z2 => (if fI 1 0 r0 = true then (if isO 7 r1 = true then ((fX7_at N (pw z2.2 r0 0 z2.1) r1 (x2 + 1)).bind fun z3 => ((fX8_placeOf N z3.2 z3.1 2).bind fun z4 => (if fI 1 1 r0 = true then (if fI 1 1 r0 = true then (if ((pw z4.2 r0 1 (1 + z4.1)).1 r0 1) < 6 then (fX1_take_b49 N (pw z4.2 r0 1 (1 + z4.1)) r0 r1 x2 0 r0) else (fX1_take_b49 N (pw z4.2 r0 1 (1 + z4.1)) r0 r1 x2 1 r0)) else none) else none))) else none) else none))) else none
set_option maxRecDepth 100000 in
set_option maxHeartbeats 4000000 in
theorem tX1_take {X : Xt} {v : Unit} {h' : pH} (N : Nat) (h : pH) (r0 : Nat) (r1 : Nat) (x2 : Int32) (B : Bd (lo X) (qo X) cX1_take RX1 3 none 1 22 none h' X) (hf : fX1_take N h r0 r1 x2 = some (v, h')) : Wx X 3 0 [(0, rf (qo X) r0), (1, rf (qo X) r1), (2, .int x2)] [] h := by
  have C := B.1
  unfold fX1_take at hf
  refine x_aload_n (i := 0) 0 C dX1_take_0 rfl rfl ?_
  refine x_aload_n (i := 1) 1 C dX1_take_1 rfl rfl ?_
  refine x_iload_n (i := 2) 2 C dX1_take_2 rfl rfl ?_
  obtain ⟨g1, hf⟩ := ife hf
  obtain ⟨z1, e1, hf⟩ := bnd hf
  refine x_callV (r := r1) (As := [.int x2]) (rest := [rf (qo X) r0]) C dX1_take_3 kmX1_9 miX7_at (ctX7_at (lo X) (qo X) N h r1 x2 z1.1 z1.2 e1) rfl rfl ⟨Nat.le_trans (by decide) B.2.2.2.1, Nat.le_trans (by decide) B.2.2.2.2.1⟩ (by simp [cat_i, cat_l, rf_cat]) g1 ?_
  refine x_gets (t := 1) C dX1_take_6 kgX1_15 (by decide) ?_
  obtain ⟨z2, e2, hf⟩ := bnd hf
  refine x_callS (As := [.int z1.1, rf (qo X) (69 + 1)]) (rest := [rf (qo X) r0]) C dX1_take_9 kmX1_19 miX8_placeOf (ctX8_placeOf (lo X) (qo X) N z1.2 z1.1 1 z2.1 z2.2 e2) rfl rfl ⟨Nat.le_trans (by decide) B.2.2.2.1, Nat.le_trans (by decide) B.2.2.2.2.1⟩ (by simp [cat_i, cat_l, rf_cat]) ?_
  obtain ⟨g2, hf⟩ := ife hf
  refine x_putI (r := r0) C dX1_take_12 kfX1_23 g2 rfl rfl ?_
  refine x_aload_n (i := 0) 0 C dX1_take_15 rfl rfl ?_
  refine x_iconst (v := 1) C dX1_take_16 (by decide) ?_
  refine x_aload_n (i := 1) 1 C dX1_take_17 rfl rfl ?_
  refine x_iload_n (i := 2) 2 C dX1_take_18 rfl rfl ?_
  refine x_iconst (v := 1) C dX1_take_19 (by decide) ?_
  refine x_iadd C dX1_take_20 ?_
  obtain ⟨g3, hf⟩ := ife hf
  obtain ⟨z3, e3, hf⟩ := bnd hf
  refine x_callV (r := r1) (As := [.int (x2 + 1)]) (rest := [.int 1, rf (qo X) r0]) C dX1_take_21 kmX1_9 miX7_at (ctX7_at (lo X) (qo X) N (pw z2.2 r0 0 z2.1) r1 (x2 + 1) z3.1 z3.2 e3) rfl rfl ⟨Nat.le_trans (by decide) B.2.2.2.1, Nat.le_trans (by decide) B.2.2.2.2.1⟩ (by simp [cat_i, cat_l, rf_cat]) g3 ?_
  refine x_gets (t := 2) C dX1_take_24 kgX1_29 (by decide) ?_
  obtain ⟨z4, e4, hf⟩ := bnd hf
  refine x_callS (As := [.int z3.1, rf (qo X) (69 + 2)]) (rest := [.int 1, rf (qo X) r0]) C dX1_take_27 kmX1_19 miX8_placeOf (ctX8_placeOf (lo X) (qo X) N z3.2 z3.1 2 z4.1 z4.2 e4) rfl rfl ⟨Nat.le_trans (by decide) B.2.2.2.1, Nat.le_trans (by decide) B.2.2.2.2.1⟩ (by simp [cat_i, cat_l, rf_cat]) ?_
  refine x_iadd C dX1_take_30 ?_
  obtain ⟨g4, hf⟩ := ife hf
  refine x_putI (r := r0) C dX1_take_31 kfX1_32 g4 rfl rfl ?_
  refine x_aload_n (i := 0) 0 C dX1_take_34 rfl rfl ?_
  refine x_aload_n (i := 0) 0 C dX1_take_35 rfl rfl ?_
  obtain ⟨g5, hf⟩ := ife hf
  refine x_getI (r := r0) C dX1_take_36 kfX1_32 g5 ?_
  refine x_bipush (v := 6) C dX1_take_39 (by decide) ?_
  refine x_icmp_lt (tgt := 48) C dX1_take_41 (by decide) (fun c => ?_) (fun c => ?_)
  · rw [if_pos c] at hf
    refine x_iconst (v := 0) C dX1_take_48 (by decide) ?_
    exact tX1_take_b49 N (pw z4.2 r0 1 (1 + z4.1)) r0 r1 x2 0 r0 B hf
  · rw [if_neg c] at hf
    refine x_iconst (v := 1) C dX1_take_44 (by decide) ?_
    refine x_goto (tgt := 49) C dX1_take_45 (by decide) ?_
    exact tX1_take_b49 N (pw z4.2 r0 1 (1 + z4.1)) r0 r1 x2 1 r0 B hf
theorem ctX1_take (l : Launch) (q : Nat → Nat) (N : Nat) (h : pH) (r0 : Nat) (r1 : Nat) (x2 : Int32) (v : Unit) (h' : pH) (hf : fX1_take N h r0 r1 x2 = some (v, h')) : Ctr l q yX1_take cX1_take 3 none 1 22 [rf q r0, rf q r1, .int x2] h h' none := by
  refine ct_of (own := RX1) (lv := [(0, rf q r0), (1, rf q r1), (2, .int x2)]) (by decide +kernel) rfl (by simp [lg_sl, rf_cat, cat_i, cat_l]) (by first | rfl | simp [lv_args, rf_cat, cat_i, cat_l]) ?_
  intro X B
  obtain rfl := B.2.1
  obtain rfl := B.2.2.1
  exact tX1_take N h r0 r1 x2 B hf
def fX2_take_B16 (N : Nat) (k16 : pH → Nat → Int32 → Option (Unit × pH)) (h : pH) (r1 : Nat) (x3 : Int32) : Option (Unit × pH) :=
  if (h.1 14 1) ≤ x3 then (some ((), h)) else (if ix x3 8 = true then (if isO 1 (aE 15 x3.toNatClampNeg) = true then ((fX1_take N h (aE 15 x3.toNatClampNeg) r1 (x3 * 5)).bind fun z1 => (k16 z1.2 r1 (x3 + 1))) else none) else none)
set_option maxRecDepth 100000 in
set_option maxHeartbeats 4000000 in
theorem tX2_take_B16 {X : Xt} {v : Unit} {h' : pH} (N : Nat) (k16 : pH → Nat → Int32 → Option (Unit × pH)) (HK16 : ∀ (h : pH) (r1 : Nat) (x3 : Int32), k16 h r1 x3 = some (v, h') → Wx X 4 16 [(0, rf (qo X) 14), (1, rf (qo X) r1), (3, .int x3)] [] h) (h : pH) (r1 : Nat) (x3 : Int32) (B : Bd (lo X) (qo X) cX2_take RX2 4 none 2 44 none h' X) (hf : fX2_take_B16 N k16 h r1 x3 = some (v, h')) : Wx X 4 16 [(0, rf (qo X) 14), (1, rf (qo X) r1), (3, .int x3)] [] h := by
  have C := B.1
  unfold fX2_take_B16 at hf
  refine x_iload_n (i := 3) 2 C dX2_take_16 rfl rfl ?_
  refine x_aload_n (i := 0) 0 C dX2_take_17 rfl rfl ?_
  refine x_getI (r := 14) C dX2_take_18 kfX2_24 rfl ?_
  refine x_icmp_ge (tgt := 43) C dX2_take_21 (by decide) (fun c => ?_) (fun c => ?_)
  · rw [if_pos c] at hf
    obtain ⟨rfl, rfl⟩ := rtn hf
    exact B.2.2.2.2.2.2.2.2.2 rfl rfl _ _ dX2_take_43
  · rw [if_neg c] at hf
    refine x_aload_n (i := 0) 0 C dX2_take_24 rfl rfl ?_
    refine x_getR (r := 14) (r2 := 15) C dX2_take_25 kfX2_11 rfl rfl (by decide) ?_
    refine x_iload_n (i := 3) 2 C dX2_take_28 rfl rfl ?_
    obtain ⟨g1, hf⟩ := ife hf
    refine x_aald5 (r := 15) C dX2_take_29 rfl g1 ?_
    refine x_aload_n (i := 1) 1 C dX2_take_30 rfl rfl ?_
    refine x_iload_n (i := 3) 2 C dX2_take_31 rfl rfl ?_
    refine x_iconst (v := 5) C dX2_take_32 (by decide) ?_
    refine x_imul C dX2_take_33 ?_
    obtain ⟨g2, hf⟩ := ife hf
    obtain ⟨z1, e1, hf⟩ := bnd hf
    refine x_callV (r := (aE 15 x3.toNatClampNeg)) (As := [rf (qo X) r1, .int (x3 * 5)]) (rest := []) C dX2_take_34 kmX2_28 miX1_take (ctX1_take (lo X) (qo X) N h (aE 15 x3.toNatClampNeg) r1 (x3 * 5) z1.1 z1.2 e1) rfl rfl ⟨Nat.le_trans (by decide) B.2.2.2.1, Nat.le_trans (by decide) B.2.2.2.2.1⟩ (by simp [cat_i, cat_l, rf_cat]) g2 ?_
    refine x_iinc (v := x3 + 1) (lv' := [(3, .int (x3 + 1)), (0, rf (qo X) 14), (1, rf (qo X) r1)]) 2 C dX2_take_37 rfl rfl (by decide) rfl ?_
    refine x_goto (tgt := 16) C dX2_take_40 (by decide) ?_
    refine x_lv [1, 2, 0] rfl ?_
    exact HK16 z1.2 r1 (x3 + 1) hf
def fX2_take_L16 (N : Nat) : Nat → pH → Nat → Int32 → Option (Unit × pH)
  | 0 => fun _ _ _ => none
  | n + 1 => fX2_take_B16 N (fX2_take_L16 N n)
theorem tX2_take_L16 {X : Xt} {v : Unit} {h' : pH} (N : Nat) (B : Bd (lo X) (qo X) cX2_take RX2 4 none 2 44 none h' X) : ∀ (n : Nat) (h : pH) (r1 : Nat) (x3 : Int32), fX2_take_L16 N n h r1 x3 = some (v, h') → Wx X 4 16 [(0, rf (qo X) 14), (1, rf (qo X) r1), (3, .int x3)] [] h := by
  intro n
  induction n with
  | zero => intro h r1 x3 hf; exact absurd (show (none : Option (Unit × pH)) = some (v, h') from hf) (fun z => by cases z)
  | succ n ih => intro h r1 x3 hf; exact tX2_take_B16 N (fX2_take_L16 N n) ih h r1 x3 B hf
def fX2_take (N : Nat) (h : pH) (r1 : Nat) (x2 : Int32) : Option (Unit × pH) :=
  (fJ9_min_7cf53 N h ((x2 + 1) / 5) 8).bind fun z1 => (fX2_take_L16 N N (pw z1.2 14 1 z1.1) r1 0)
set_option maxRecDepth 100000 in
set_option maxHeartbeats 4000000 in
theorem tX2_take {X : Xt} {v : Unit} {h' : pH} (N : Nat) (h : pH) (r1 : Nat) (x2 : Int32) (B : Bd (lo X) (qo X) cX2_take RX2 4 none 2 44 none h' X) (hf : fX2_take N h r1 x2 = some (v, h')) : Wx X 4 0 [(0, rf (qo X) 14), (1, rf (qo X) r1), (2, .int x2)] [] h := by
  have C := B.1
  unfold fX2_take at hf
  refine x_aload_n (i := 0) 0 C dX2_take_0 rfl rfl ?_
  refine x_iload_n (i := 2) 2 C dX2_take_1 rfl rfl ?_
  refine x_iconst (v := 1) C dX2_take_2 (by decide) ?_
  refine x_iadd C dX2_take_3 ?_
  refine x_iconst (v := 5) C dX2_take_4 (by decide) ?_
  refine x_idiv C dX2_take_5 (by decide) ?_
  refine x_bipush (v := 8) C dX2_take_6 (by decide) ?_
  obtain ⟨z1, e1, hf⟩ := bnd hf
  refine x_callS (As := [.int ((x2 + 1) / 5), .int 8]) (rest := [rf (qo X) 14]) C dX2_take_8 kmX2_18 miJ9_min_7cf53 (ctJ9_min_7cf53 (lo X) (qo X) N h ((x2 + 1) / 5) 8 z1.1 z1.2 e1) rfl rfl ⟨Nat.le_trans (by decide) B.2.2.2.1, Nat.le_trans (by decide) B.2.2.2.2.1⟩ (by simp [cat_i, cat_l, rf_cat]) ?_
  refine x_putI (r := 14) C dX2_take_11 kfX2_24 rfl rfl rfl ?_
  refine x_iconst (v := 0) C dX2_take_14 (by decide) ?_
  refine x_istore_n (i := 3) (lv' := [(3, .int 0), (0, rf (qo X) 14), (1, rf (qo X) r1), (2, .int x2)]) C dX2_take_15 rfl (by decide) rfl ?_
  refine x_lv [1, 2, 0] rfl ?_
  exact tX2_take_L16 N  B N (pw z1.2 14 1 z1.1) r1 0 hf
theorem ctX2_take (l : Launch) (q : Nat → Nat) (N : Nat) (h : pH) (r1 : Nat) (x2 : Int32) (v : Unit) (h' : pH) (hf : fX2_take N h r1 x2 = some (v, h')) : Ctr l q yX2_take cX2_take 4 none 2 44 [rf q 14, rf q r1, .int x2] h h' none := by
  refine ct_of (own := RX2) (lv := [(0, rf q 14), (1, rf q r1), (2, .int x2)]) (by decide +kernel) rfl (by simp [lg_sl, rf_cat, cat_i, cat_l]) (by first | rfl | simp [lv_args, rf_cat, cat_i, cat_l]) ?_
  intro X B
  obtain rfl := B.2.1
  obtain rfl := B.2.2.1
  exact tX2_take N h r1 x2 B hf
def fX2_at_b24 (N : Nat) (h : pH) (rs0 : Nat) : Option (Nat × pH) :=
  some (rs0, h)
set_option maxRecDepth 100000 in
set_option maxHeartbeats 4000000 in
theorem tX2_at_b24 {X : Xt} {v : Nat} {h' : pH} (N : Nat) (h : pH) (rs0 : Nat) (B : Bd (lo X) (qo X) cX2_at RX2 2 (some (.object "MiddlePlank$Crosser")) 1 22 (some (rf (qo X) v)) h' X) (hf : fX2_at_b24 N h rs0 = some (v, h')) : Wx X 2 24 [] [rf (qo X) rs0] h := by
  have C := B.1
  unfold fX2_at_b24 at hf
  obtain ⟨rfl, rfl⟩ := rtn hf
  exact B.2.2.2.2.2.2.2.1 _ _ rfl rfl _ _ dX2_at_24
def fX2_at (N : Nat) (h : pH) (x1 : Int32) : Option (Nat × pH) :=
  (fX8_within N h x1 0 ((h.1 14 1) - 1)).bind fun z1 => (if z1.1 = 0 then (fX2_at_b24 N z1.2 0) else (if ix x1 8 = true then (fX2_at_b24 N z1.2 (aE 15 x1.toNatClampNeg)) else none))
set_option maxRecDepth 100000 in
set_option maxHeartbeats 4000000 in
theorem tX2_at {X : Xt} {v : Nat} {h' : pH} (N : Nat) (h : pH) (x1 : Int32) (B : Bd (lo X) (qo X) cX2_at RX2 2 (some (.object "MiddlePlank$Crosser")) 1 22 (some (rf (qo X) v)) h' X) (hf : fX2_at N h x1 = some (v, h')) : Wx X 2 0 [(0, rf (qo X) 14), (1, .int x1)] [] h := by
  have C := B.1
  unfold fX2_at at hf
  refine x_iload_n (i := 1) 1 C dX2_at_0 rfl rfl ?_
  refine x_iconst (v := 0) C dX2_at_1 (by decide) ?_
  refine x_aload_n (i := 0) 0 C dX2_at_2 rfl rfl ?_
  refine x_getI (r := 14) C dX2_at_3 kfX2_24 rfl ?_
  refine x_iconst (v := 1) C dX2_at_6 (by decide) ?_
  refine x_isub C dX2_at_7 ?_
  obtain ⟨z1, e1, hf⟩ := bnd hf
  refine x_callS (As := [.int x1, .int 0, .int ((h.1 14 1) - 1)]) (rest := []) C dX2_at_8 kmX2_32 miX8_within (ctX8_within (lo X) (qo X) N h x1 0 ((h.1 14 1) - 1) z1.1 z1.2 e1) rfl rfl ⟨Nat.le_trans (by decide) B.2.2.2.1, Nat.le_trans (by decide) B.2.2.2.2.1⟩ (by simp [cat_i, cat_l, rf_cat]) ?_
  refine x_if_eq (tgt := 23) C dX2_at_11 (by decide) (fun c => ?_) (fun c => ?_)
  · rw [if_pos c] at hf
    refine x_null C dX2_at_23 ?_
    refine x_lv [] rfl ?_
    exact tX2_at_b24 N z1.2 0 B hf
  · rw [if_neg c] at hf
    refine x_aload_n (i := 0) 0 C dX2_at_14 rfl rfl ?_
    refine x_getR (r := 14) (r2 := 15) C dX2_at_15 kfX2_11 rfl rfl (by decide) ?_
    refine x_iload_n (i := 1) 1 C dX2_at_18 rfl rfl ?_
    obtain ⟨g1, hf⟩ := ife hf
    refine x_aald5 (r := 15) C dX2_at_19 rfl g1 ?_
    refine x_goto (tgt := 24) C dX2_at_20 (by decide) ?_
    refine x_lv [] rfl ?_
    exact tX2_at_b24 N z1.2 (aE 15 x1.toNatClampNeg) B hf
theorem ctX2_at (l : Launch) (q : Nat → Nat) (N : Nat) (h : pH) (x1 : Int32) (v : Nat) (h' : pH) (hf : fX2_at N h x1 = some (v, h')) : Ctr l q yX2_at cX2_at 2 (some (.object "MiddlePlank$Crosser")) 1 22 [rf q 14, .int x1] h h' (some (rf q v)) := by
  refine ct_of (own := RX2) (lv := [(0, rf q 14), (1, .int x1)]) (by decide +kernel) rfl (by simp [lg_sl, rf_cat, cat_i, cat_l]) (by first | rfl | simp [lv_args, rf_cat, cat_i, cat_l]) ?_
  intro X B
  obtain rfl := B.2.1
  obtain rfl := B.2.2.1
  exact tX2_at N h x1 B hf
def fX3_take_B12 (N : Nat) (k12 : pH → Nat → Int32 → Option (Unit × pH)) (h : pH) (r1 : Nat) (x3 : Int32) : Option (Unit × pH) :=
  if (h.1 24 1) ≤ x3 then (some ((), h)) else (if isO 7 r1 = true then ((fX7_at N h r1 x3).bind fun z1 => ((fX8_placeOf N z1.2 z1.1 6).bind fun z2 => (if ix x3 24 = true then (k12 (pw z2.2 25 x3.toNatClampNeg z2.1) r1 (x3 + 1)) else none))) else none)
set_option maxRecDepth 100000 in
set_option maxHeartbeats 4000000 in
theorem tX3_take_B12 {X : Xt} {v : Unit} {h' : pH} (N : Nat) (k12 : pH → Nat → Int32 → Option (Unit × pH)) (HK12 : ∀ (h : pH) (r1 : Nat) (x3 : Int32), k12 h r1 x3 = some (v, h') → Wx X 4 12 [(0, rf (qo X) 24), (1, rf (qo X) r1), (3, .int x3)] [] h) (h : pH) (r1 : Nat) (x3 : Int32) (B : Bd (lo X) (qo X) cX3_take RX3 4 none 1 22 none h' X) (hf : fX3_take_B12 N k12 h r1 x3 = some (v, h')) : Wx X 4 12 [(0, rf (qo X) 24), (1, rf (qo X) r1), (3, .int x3)] [] h := by
  have C := B.1
  unfold fX3_take_B12 at hf
  refine x_iload_n (i := 3) 2 C dX3_take_12 rfl rfl ?_
  refine x_aload_n (i := 0) 0 C dX3_take_13 rfl rfl ?_
  refine x_getI (r := 24) C dX3_take_14 kfX3_21 rfl ?_
  refine x_icmp_ge (tgt := 43) C dX3_take_17 (by decide) (fun c => ?_) (fun c => ?_)
  · rw [if_pos c] at hf
    obtain ⟨rfl, rfl⟩ := rtn hf
    exact B.2.2.2.2.2.2.2.2.2 rfl rfl _ _ dX3_take_43
  · rw [if_neg c] at hf
    refine x_aload_n (i := 0) 0 C dX3_take_20 rfl rfl ?_
    refine x_getR (r := 24) (r2 := 25) C dX3_take_21 kfX3_9 rfl rfl (by decide) ?_
    refine x_iload_n (i := 3) 2 C dX3_take_24 rfl rfl ?_
    refine x_aload_n (i := 1) 1 C dX3_take_25 rfl rfl ?_
    refine x_iload_n (i := 3) 2 C dX3_take_26 rfl rfl ?_
    obtain ⟨g1, hf⟩ := ife hf
    obtain ⟨z1, e1, hf⟩ := bnd hf
    refine x_callV (r := r1) (As := [.int x3]) (rest := [.int x3, rf (qo X) 25]) C dX3_take_27 kmX3_25 miX7_at (ctX7_at (lo X) (qo X) N h r1 x3 z1.1 z1.2 e1) rfl rfl ⟨Nat.le_trans (by decide) B.2.2.2.1, Nat.le_trans (by decide) B.2.2.2.2.1⟩ (by simp [cat_i, cat_l, rf_cat]) g1 ?_
    refine x_gets (t := 6) C dX3_take_30 kgX3_31 (by decide) ?_
    obtain ⟨z2, e2, hf⟩ := bnd hf
    refine x_callS (As := [.int z1.1, rf (qo X) (69 + 6)]) (rest := [.int x3, rf (qo X) 25]) C dX3_take_33 kmX3_35 miX8_placeOf (ctX8_placeOf (lo X) (qo X) N z1.2 z1.1 6 z2.1 z2.2 e2) rfl rfl ⟨Nat.le_trans (by decide) B.2.2.2.1, Nat.le_trans (by decide) B.2.2.2.2.1⟩ (by simp [cat_i, cat_l, rf_cat]) ?_
    obtain ⟨g2, hf⟩ := ife hf
    refine x_iast (r := 25) C dX3_take_36 rfl g2 ?_
    refine x_iinc (v := x3 + 1) (lv' := [(3, .int (x3 + 1)), (0, rf (qo X) 24), (1, rf (qo X) r1)]) 2 C dX3_take_37 rfl rfl (by decide) rfl ?_
    refine x_goto (tgt := 12) C dX3_take_40 (by decide) ?_
    refine x_lv [1, 2, 0] rfl ?_
    exact HK12 (pw z2.2 25 x3.toNatClampNeg z2.1) r1 (x3 + 1) hf
def fX3_take_L12 (N : Nat) : Nat → pH → Nat → Int32 → Option (Unit × pH)
  | 0 => fun _ _ _ => none
  | n + 1 => fX3_take_B12 N (fX3_take_L12 N n)
theorem tX3_take_L12 {X : Xt} {v : Unit} {h' : pH} (N : Nat) (B : Bd (lo X) (qo X) cX3_take RX3 4 none 1 22 none h' X) : ∀ (n : Nat) (h : pH) (r1 : Nat) (x3 : Int32), fX3_take_L12 N n h r1 x3 = some (v, h') → Wx X 4 12 [(0, rf (qo X) 24), (1, rf (qo X) r1), (3, .int x3)] [] h := by
  intro n
  induction n with
  | zero => intro h r1 x3 hf; exact absurd (show (none : Option (Unit × pH)) = some (v, h') from hf) (fun z => by cases z)
  | succ n ih => intro h r1 x3 hf; exact tX3_take_B12 N (fX3_take_L12 N n) ih h r1 x3 B hf
def fX3_take (N : Nat) (h : pH) (r1 : Nat) (x2 : Int32) : Option (Unit × pH) :=
  (fJ9_min_7cf53 N h x2 24).bind fun z1 => (fX3_take_L12 N N (pw z1.2 24 1 z1.1) r1 0)
set_option maxRecDepth 100000 in
set_option maxHeartbeats 4000000 in
theorem tX3_take {X : Xt} {v : Unit} {h' : pH} (N : Nat) (h : pH) (r1 : Nat) (x2 : Int32) (B : Bd (lo X) (qo X) cX3_take RX3 4 none 1 22 none h' X) (hf : fX3_take N h r1 x2 = some (v, h')) : Wx X 4 0 [(0, rf (qo X) 24), (1, rf (qo X) r1), (2, .int x2)] [] h := by
  have C := B.1
  unfold fX3_take at hf
  refine x_aload_n (i := 0) 0 C dX3_take_0 rfl rfl ?_
  refine x_iload_n (i := 2) 2 C dX3_take_1 rfl rfl ?_
  refine x_bipush (v := 24) C dX3_take_2 (by decide) ?_
  obtain ⟨z1, e1, hf⟩ := bnd hf
  refine x_callS (As := [.int x2, .int 24]) (rest := [rf (qo X) 24]) C dX3_take_4 kmX3_15 miJ9_min_7cf53 (ctJ9_min_7cf53 (lo X) (qo X) N h x2 24 z1.1 z1.2 e1) rfl rfl ⟨Nat.le_trans (by decide) B.2.2.2.1, Nat.le_trans (by decide) B.2.2.2.2.1⟩ (by simp [cat_i, cat_l, rf_cat]) ?_
  refine x_putI (r := 24) C dX3_take_7 kfX3_21 rfl rfl rfl ?_
  refine x_iconst (v := 0) C dX3_take_10 (by decide) ?_
  refine x_istore_n (i := 3) (lv' := [(3, .int 0), (0, rf (qo X) 24), (1, rf (qo X) r1), (2, .int x2)]) C dX3_take_11 rfl (by decide) rfl ?_
  refine x_lv [1, 2, 0] rfl ?_
  exact tX3_take_L12 N  B N (pw z1.2 24 1 z1.1) r1 0 hf
theorem ctX3_take (l : Launch) (q : Nat → Nat) (N : Nat) (h : pH) (r1 : Nat) (x2 : Int32) (v : Unit) (h' : pH) (hf : fX3_take N h r1 x2 = some (v, h')) : Ctr l q yX3_take cX3_take 4 none 1 22 [rf q 24, rf q r1, .int x2] h h' none := by
  refine ct_of (own := RX3) (lv := [(0, rf q 24), (1, rf q r1), (2, .int x2)]) (by decide +kernel) rfl (by simp [lg_sl, rf_cat, cat_i, cat_l]) (by first | rfl | simp [lv_args, rf_cat, cat_i, cat_l]) ?_
  intro X B
  obtain rfl := B.2.1
  obtain rfl := B.2.2.1
  exact tX3_take N h r1 x2 B hf
def fX3_whoAt_b24 (N : Nat) (h : pH) (xs0 : Int32) : Option (Int32 × pH) :=
  some (xs0, h)
set_option maxRecDepth 100000 in
set_option maxHeartbeats 4000000 in
theorem tX3_whoAt_b24 {X : Xt} {v : Int32} {h' : pH} (N : Nat) (h : pH) (xs0 : Int32) (B : Bd (lo X) (qo X) cX3_whoAt RX3 2 (some .int) 1 22 (some (.int v)) h' X) (hf : fX3_whoAt_b24 N h xs0 = some (v, h')) : Wx X 2 24 [] [.int xs0] h := by
  have C := B.1
  unfold fX3_whoAt_b24 at hf
  obtain ⟨rfl, rfl⟩ := rtn hf
  exact B.2.2.2.2.2.1 _ _ rfl rfl rfl _ _ dX3_whoAt_24
def fX3_whoAt (N : Nat) (h : pH) (x1 : Int32) : Option (Int32 × pH) :=
  (fX8_within N h x1 0 ((h.1 24 1) - 1)).bind fun z1 => (if z1.1 = 0 then (fX3_whoAt_b24 N z1.2 (-1)) else (if ix x1 24 = true then (fX3_whoAt_b24 N z1.2 (z1.2.1 25 x1.toNatClampNeg)) else none))
set_option maxRecDepth 100000 in
set_option maxHeartbeats 4000000 in
theorem tX3_whoAt {X : Xt} {v : Int32} {h' : pH} (N : Nat) (h : pH) (x1 : Int32) (B : Bd (lo X) (qo X) cX3_whoAt RX3 2 (some .int) 1 22 (some (.int v)) h' X) (hf : fX3_whoAt N h x1 = some (v, h')) : Wx X 2 0 [(0, rf (qo X) 24), (1, .int x1)] [] h := by
  have C := B.1
  unfold fX3_whoAt at hf
  refine x_iload_n (i := 1) 1 C dX3_whoAt_0 rfl rfl ?_
  refine x_iconst (v := 0) C dX3_whoAt_1 (by decide) ?_
  refine x_aload_n (i := 0) 0 C dX3_whoAt_2 rfl rfl ?_
  refine x_getI (r := 24) C dX3_whoAt_3 kfX3_21 rfl ?_
  refine x_iconst (v := 1) C dX3_whoAt_6 (by decide) ?_
  refine x_isub C dX3_whoAt_7 ?_
  obtain ⟨z1, e1, hf⟩ := bnd hf
  refine x_callS (As := [.int x1, .int 0, .int ((h.1 24 1) - 1)]) (rest := []) C dX3_whoAt_8 kmX3_39 miX8_within (ctX8_within (lo X) (qo X) N h x1 0 ((h.1 24 1) - 1) z1.1 z1.2 e1) rfl rfl ⟨Nat.le_trans (by decide) B.2.2.2.1, Nat.le_trans (by decide) B.2.2.2.2.1⟩ (by simp [cat_i, cat_l, rf_cat]) ?_
  refine x_if_eq (tgt := 23) C dX3_whoAt_11 (by decide) (fun c => ?_) (fun c => ?_)
  · rw [if_pos c] at hf
    refine x_iconst (v := (-1)) C dX3_whoAt_23 (by decide) ?_
    refine x_lv [] rfl ?_
    exact tX3_whoAt_b24 N z1.2 (-1) B hf
  · rw [if_neg c] at hf
    refine x_aload_n (i := 0) 0 C dX3_whoAt_14 rfl rfl ?_
    refine x_getR (r := 24) (r2 := 25) C dX3_whoAt_15 kfX3_9 rfl rfl (by decide) ?_
    refine x_iload_n (i := 1) 1 C dX3_whoAt_18 rfl rfl ?_
    obtain ⟨g1, hf⟩ := ife hf
    refine x_iald (r := 25) C dX3_whoAt_19 rfl g1 ?_
    refine x_goto (tgt := 24) C dX3_whoAt_20 (by decide) ?_
    refine x_lv [] rfl ?_
    exact tX3_whoAt_b24 N z1.2 (z1.2.1 25 x1.toNatClampNeg) B hf
theorem ctX3_whoAt (l : Launch) (q : Nat → Nat) (N : Nat) (h : pH) (x1 : Int32) (v : Int32) (h' : pH) (hf : fX3_whoAt N h x1 = some (v, h')) : Ctr l q yX3_whoAt cX3_whoAt 2 (some .int) 1 22 [rf q 24, .int x1] h h' (some (.int v)) := by
  refine ct_of (own := RX3) (lv := [(0, rf q 24), (1, .int x1)]) (by decide +kernel) rfl (by simp [lg_sl, rf_cat, cat_i, cat_l]) (by first | rfl | simp [lv_args, rf_cat, cat_i, cat_l]) ?_
  intro X B
  obtain rfl := B.2.1
  obtain rfl := B.2.2.1
  exact tX3_whoAt N h x1 B hf
def fX3_follow_b56 (N : Nat) (h : pH)  : Option (Unit × pH) :=
  some ((), h)
set_option maxRecDepth 100000 in
set_option maxHeartbeats 4000000 in
theorem tX3_follow_b56 {X : Xt} {v : Unit} {h' : pH} (N : Nat) (h : pH)  (B : Bd (lo X) (qo X) cX3_follow RX3 8 none 2 46 none h' X) (hf : fX3_follow_b56 N h  = some (v, h')) : Wx X 8 56 [] [] h := by
  have C := B.1
  unfold fX3_follow_b56 at hf
  obtain ⟨rfl, rfl⟩ := rtn hf
  exact B.2.2.2.2.2.2.2.2.2 rfl rfl _ _ dX3_follow_56
def fX3_follow_B6 (N : Nat) (k6 : pH → Nat → Nat → Int32 → Int32 → Option (Unit × pH)) (h : pH) (r4 : Nat) (r5 : Nat) (x6 : Int32) (x7 : Int32) : Option (Unit × pH) :=
  if (h.1 24 1) < x7 then (fX3_follow_b56 N h) else (if aK r5 = 0 then (if (Int32.ofNat (aN r5)) ≤ x7 then (fX3_follow_b56 N h) else (if aK r5 = 0 ∧ ix x7 (aN r5) = true then ((fX3_whoAt N (pw h r5 x7.toNatClampNeg x6) x7).bind fun z1 => ((fX2_at N z1.2 z1.1).bind fun z2 => ((fX0_gapBehind N z2.2 z2.1 x6 r4).bind fun z3 => (k6 z3.2 r4 r5 z3.1 (x7 + 1))))) else none)) else none)
set_option maxRecDepth 100000 in
set_option maxHeartbeats 4000000 in
theorem tX3_follow_B6 {X : Xt} {v : Unit} {h' : pH} (N : Nat) (k6 : pH → Nat → Nat → Int32 → Int32 → Option (Unit × pH)) (HK6 : ∀ (h : pH) (r4 : Nat) (r5 : Nat) (x6 : Int32) (x7 : Int32), k6 h r4 r5 x6 x7 = some (v, h') → Wx X 8 6 [(0, rf (qo X) 24), (1, rf (qo X) 9), (2, rf (qo X) 14), (4, rf (qo X) r4), (5, rf (qo X) r5), (6, .int x6), (7, .int x7)] [] h) (h : pH) (r4 : Nat) (r5 : Nat) (x6 : Int32) (x7 : Int32) (B : Bd (lo X) (qo X) cX3_follow RX3 8 none 2 46 none h' X) (hf : fX3_follow_B6 N k6 h r4 r5 x6 x7 = some (v, h')) : Wx X 8 6 [(0, rf (qo X) 24), (1, rf (qo X) 9), (2, rf (qo X) 14), (4, rf (qo X) r4), (5, rf (qo X) r5), (6, .int x6), (7, .int x7)] [] h := by
  have C := B.1
  unfold fX3_follow_B6 at hf
  refine x_iload 6 C dX3_follow_6 rfl ?_
  refine x_aload_n (i := 0) 0 C dX3_follow_8 rfl rfl ?_
  refine x_getI (r := 24) C dX3_follow_9 kfX3_21 rfl ?_
  refine x_icmp_gt (tgt := 56) C dX3_follow_12 (by decide) (fun c => ?_) (fun c => ?_)
  · rw [if_pos c] at hf
    refine x_lv [] rfl ?_
    exact tX3_follow_b56 N h B hf
  · rw [if_neg c] at hf
    refine x_iload 6 C dX3_follow_15 rfl ?_
    refine x_aload 4 C dX3_follow_17 rfl ?_
    obtain ⟨g1, hf⟩ := ife hf
    refine x_alen0 (r := r5) C dX3_follow_19 g1 rfl ?_
    refine x_icmp_ge (tgt := 56) C dX3_follow_20 (by decide) (fun c => ?_) (fun c => ?_)
    · rw [if_pos c] at hf
      refine x_lv [] rfl ?_
      exact tX3_follow_b56 N h B hf
    · rw [if_neg c] at hf
      refine x_aload 4 C dX3_follow_23 rfl ?_
      refine x_iload 6 C dX3_follow_25 rfl ?_
      refine x_iload 5 C dX3_follow_27 rfl ?_
      obtain ⟨g2, hf⟩ := ife hf
      refine x_iast (r := r5) C dX3_follow_29 g2.1 g2.2 ?_
      refine x_aload_n (i := 1) 1 C dX3_follow_30 rfl rfl ?_
      refine x_aload_n (i := 2) 2 C dX3_follow_31 rfl rfl ?_
      refine x_aload_n (i := 0) 0 C dX3_follow_32 rfl rfl ?_
      refine x_iload 6 C dX3_follow_33 rfl ?_
      obtain ⟨z1, e1, hf⟩ := bnd hf
      refine x_callV (r := 24) (As := [.int x7]) (rest := [rf (qo X) 14, rf (qo X) 9]) C dX3_follow_35 kmX3_43 miX3_whoAt (ctX3_whoAt (lo X) (qo X) N (pw h r5 x7.toNatClampNeg x6) x7 z1.1 z1.2 e1) rfl rfl ⟨Nat.le_trans (by decide) B.2.2.2.1, Nat.le_trans (by decide) B.2.2.2.2.1⟩ (by simp [cat_i, cat_l, rf_cat]) rfl ?_
      obtain ⟨z2, e2, hf⟩ := bnd hf
      refine x_callV (r := 14) (As := [.int z1.1]) (rest := [rf (qo X) 9]) C dX3_follow_38 kmX3_46 miX2_at (ctX2_at (lo X) (qo X) N z1.2 z1.1 z2.1 z2.2 e2) rfl rfl ⟨Nat.le_trans (by decide) B.2.2.2.1, Nat.le_trans (by decide) B.2.2.2.2.1⟩ (by simp [cat_i, cat_l, rf_cat]) rfl ?_
      refine x_iload 5 C dX3_follow_41 rfl ?_
      refine x_aload 3 C dX3_follow_43 rfl ?_
      obtain ⟨z3, e3, hf⟩ := bnd hf
      refine x_callV (r := 9) (As := [rf (qo X) z2.1, .int x6, rf (qo X) r4]) (rest := []) C dX3_follow_45 kmX3_51 miX0_gapBehind (ctX0_gapBehind (lo X) (qo X) N z2.2 z2.1 x6 r4 z3.1 z3.2 e3) rfl rfl ⟨Nat.le_trans (by decide) B.2.2.2.1, Nat.le_trans (by decide) B.2.2.2.2.1⟩ (by simp [cat_i, cat_l, rf_cat]) rfl ?_
      refine x_istore (lv' := [(6, .int z3.1), (0, rf (qo X) 24), (1, rf (qo X) 9), (2, rf (qo X) 14), (4, rf (qo X) r4), (5, rf (qo X) r5), (7, .int x7)]) C dX3_follow_48 (by decide) (by simp [List.filter, rf_cat]) ?_
      refine x_iinc (v := x7 + 1) (lv' := [(7, .int (x7 + 1)), (6, .int z3.1), (0, rf (qo X) 24), (1, rf (qo X) 9), (2, rf (qo X) 14), (4, rf (qo X) r4), (5, rf (qo X) r5)]) 6 C dX3_follow_50 rfl rfl (by decide) rfl ?_
      refine x_goto (tgt := 6) C dX3_follow_53 (by decide) ?_
      refine x_lv [2, 3, 4, 5, 6, 1, 0] rfl ?_
      exact HK6 z3.2 r4 r5 z3.1 (x7 + 1) hf
def fX3_follow_L6 (N : Nat) : Nat → pH → Nat → Nat → Int32 → Int32 → Option (Unit × pH)
  | 0 => fun _ _ _ _ _ => none
  | n + 1 => fX3_follow_B6 N (fX3_follow_L6 N n)
theorem tX3_follow_L6 {X : Xt} {v : Unit} {h' : pH} (N : Nat) (B : Bd (lo X) (qo X) cX3_follow RX3 8 none 2 46 none h' X) : ∀ (n : Nat) (h : pH) (r4 : Nat) (r5 : Nat) (x6 : Int32) (x7 : Int32), fX3_follow_L6 N n h r4 r5 x6 x7 = some (v, h') → Wx X 8 6 [(0, rf (qo X) 24), (1, rf (qo X) 9), (2, rf (qo X) 14), (4, rf (qo X) r4), (5, rf (qo X) r5), (6, .int x6), (7, .int x7)] [] h := by
  intro n
  induction n with
  | zero => intro h r4 r5 x6 x7 hf; exact absurd (show (none : Option (Unit × pH)) = some (v, h') from hf) (fun z => by cases z)
  | succ n ih => intro h r4 r5 x6 x7 hf; exact tX3_follow_B6 N (fX3_follow_L6 N n) ih h r4 r5 x6 x7 B hf
def fX3_follow (N : Nat) (h : pH) (x3 : Int32) (r4 : Nat) (r5 : Nat) : Option (Unit × pH) :=
  fX3_follow_L6 N N h r4 r5 x3 0
set_option maxRecDepth 100000 in
set_option maxHeartbeats 4000000 in
theorem tX3_follow {X : Xt} {v : Unit} {h' : pH} (N : Nat) (h : pH) (x3 : Int32) (r4 : Nat) (r5 : Nat) (B : Bd (lo X) (qo X) cX3_follow RX3 8 none 2 46 none h' X) (hf : fX3_follow N h x3 r4 r5 = some (v, h')) : Wx X 8 0 [(0, rf (qo X) 24), (1, rf (qo X) 9), (2, rf (qo X) 14), (3, .int x3), (4, rf (qo X) r4), (5, rf (qo X) r5)] [] h := by
  have C := B.1
  unfold fX3_follow at hf
  refine x_iload_n (i := 3) 3 C dX3_follow_0 rfl rfl ?_
  refine x_istore (lv' := [(6, .int x3), (0, rf (qo X) 24), (1, rf (qo X) 9), (2, rf (qo X) 14), (3, .int x3), (4, rf (qo X) r4), (5, rf (qo X) r5)]) C dX3_follow_1 (by decide) (by simp [List.filter, rf_cat]) ?_
  refine x_iconst (v := 0) C dX3_follow_3 (by decide) ?_
  refine x_istore (lv' := [(7, .int 0), (6, .int x3), (0, rf (qo X) 24), (1, rf (qo X) 9), (2, rf (qo X) 14), (3, .int x3), (4, rf (qo X) r4), (5, rf (qo X) r5)]) C dX3_follow_4 (by decide) rfl ?_
  refine x_lv [2, 3, 4, 6, 7, 1, 0] rfl ?_
  exact tX3_follow_L6 N  B N h r4 r5 x3 0 hf
theorem ctX3_follow (l : Launch) (q : Nat → Nat) (N : Nat) (h : pH) (x3 : Int32) (r4 : Nat) (r5 : Nat) (v : Unit) (h' : pH) (hf : fX3_follow N h x3 r4 r5 = some (v, h')) : Ctr l q yX3_follow cX3_follow 8 none 2 46 [rf q 24, rf q 9, rf q 14, .int x3, rf q r4, rf q r5] h h' none := by
  refine ct_of (own := RX3) (lv := [(0, rf q 24), (1, rf q 9), (2, rf q 14), (3, .int x3), (4, rf q r4), (5, rf q r5)]) (by decide +kernel) rfl (by simp [lg_sl, rf_cat, cat_i, cat_l]) (by first | rfl | simp [lv_args, rf_cat, cat_i, cat_l]) ?_
  intro X B
  obtain rfl := B.2.1
  obtain rfl := B.2.2.1
  exact tX3_follow N h x3 r4 r5 B hf
def fX4_weigh_b65 (N : Nat) (k3 : pH → Nat → Int32 → Int32 → Option (Unit × pH)) (h : pH) (r2 : Nat) (x3 : Int32) (x4 : Int32) (x6 : Int32) (xs0 : Int32) (xs1 : Int32) : Option (Unit × pH) :=
  if ix xs1 152 = true then ((fX0_gapBehind N (pw h 32 xs1.toNatClampNeg xs0) r2 x4 10).bind fun z1 => (if ix x6 152 = true then (k3 (pw z1.2 33 x6.toNatClampNeg z1.1) r2 x3 (x4 + 1)) else none)) else none
set_option maxRecDepth 100000 in
set_option maxHeartbeats 4000000 in
theorem tX4_weigh_b65 {X : Xt} {v : Unit} {h' : pH} (N : Nat) (k3 : pH → Nat → Int32 → Int32 → Option (Unit × pH)) (HK3 : ∀ (h : pH) (r2 : Nat) (x3 : Int32) (x4 : Int32), k3 h r2 x3 x4 = some (v, h') → Wx X 7 3 [(0, rf (qo X) 30), (1, rf (qo X) 9), (2, rf (qo X) r2), (3, .int x3), (4, .int x4)] [] h) (h : pH) (r2 : Nat) (x3 : Int32) (x4 : Int32) (x6 : Int32) (xs0 : Int32) (xs1 : Int32) (B : Bd (lo X) (qo X) cX4_weigh RX4 7 none 2 46 none h' X) (hf : fX4_weigh_b65 N k3 h r2 x3 x4 x6 xs0 xs1 = some (v, h')) : Wx X 7 65 [(0, rf (qo X) 30), (1, rf (qo X) 9), (2, rf (qo X) r2), (3, .int x3), (4, .int x4), (6, .int x6)] [.int xs0, .int xs1, rf (qo X) 32] h := by
  have C := B.1
  unfold fX4_weigh_b65 at hf
  obtain ⟨g1, hf⟩ := ife hf
  refine x_iast (r := 32) C dX4_weigh_65 rfl g1 ?_
  refine x_aload_n (i := 0) 0 C dX4_weigh_66 rfl rfl ?_
  refine x_getR (r := 30) (r2 := 33) C dX4_weigh_67 kfX4_18 rfl rfl (by decide) ?_
  refine x_iload 5 C dX4_weigh_70 rfl ?_
  refine x_aload_n (i := 1) 1 C dX4_weigh_72 rfl rfl ?_
  refine x_aload_n (i := 2) 2 C dX4_weigh_73 rfl rfl ?_
  refine x_iload 4 C dX4_weigh_74 rfl ?_
  refine x_aload_n (i := 1) 1 C dX4_weigh_76 rfl rfl ?_
  refine x_getR (r := 9) (r2 := 10) C dX4_weigh_77 kfX4_75 rfl rfl (by decide) ?_
  obtain ⟨z1, e1, hf⟩ := bnd hf
  refine x_callV (r := 9) (As := [rf (qo X) r2, .int x4, rf (qo X) 10]) (rest := [.int x6, rf (qo X) 33]) C dX4_weigh_80 kmX4_78 miX0_gapBehind (ctX0_gapBehind (lo X) (qo X) N (pw h 32 xs1.toNatClampNeg xs0) r2 x4 10 z1.1 z1.2 e1) rfl rfl ⟨Nat.le_trans (by decide) B.2.2.2.1, Nat.le_trans (by decide) B.2.2.2.2.1⟩ (by simp [cat_i, cat_l, rf_cat]) rfl ?_
  obtain ⟨g2, hf⟩ := ife hf
  refine x_iast (r := 33) C dX4_weigh_83 rfl g2 ?_
  refine x_iinc (v := x4 + 1) (lv' := [(4, .int (x4 + 1)), (0, rf (qo X) 30), (1, rf (qo X) 9), (2, rf (qo X) r2), (3, .int x3), (6, .int x6)]) 4 C dX4_weigh_84 rfl rfl (by decide) rfl ?_
  refine x_goto (tgt := 3) C dX4_weigh_87 (by decide) ?_
  refine x_lv [1, 2, 3, 4, 0] rfl ?_
  exact HK3 (pw z1.2 33 x6.toNatClampNeg z1.1) r2 x3 (x4 + 1) hf
def fX4_weigh_b28 (N : Nat) (k3 : pH → Nat → Int32 → Int32 → Option (Unit × pH)) (h : pH) (r2 : Nat) (x3 : Int32) (x4 : Int32) (xs0 : Int32) : Option (Unit × pH) :=
  if xs0 = 0 then (fX4_weigh_b65 N k3 h r2 x3 x4 ((x3 * 19) + x4) 0 ((x3 * 19) + x4)) else ((fX0_toll N h r2 x4).bind fun z1 => (fX4_weigh_b65 N k3 z1.2 r2 x3 x4 ((x3 * 19) + x4) (1000 - z1.1) ((x3 * 19) + x4)))
set_option maxRecDepth 100000 in
set_option maxHeartbeats 4000000 in
theorem tX4_weigh_b28 {X : Xt} {v : Unit} {h' : pH} (N : Nat) (k3 : pH → Nat → Int32 → Int32 → Option (Unit × pH)) (HK3 : ∀ (h : pH) (r2 : Nat) (x3 : Int32) (x4 : Int32), k3 h r2 x3 x4 = some (v, h') → Wx X 7 3 [(0, rf (qo X) 30), (1, rf (qo X) 9), (2, rf (qo X) r2), (3, .int x3), (4, .int x4)] [] h) (h : pH) (r2 : Nat) (x3 : Int32) (x4 : Int32) (xs0 : Int32) (B : Bd (lo X) (qo X) cX4_weigh RX4 7 none 2 46 none h' X) (hf : fX4_weigh_b28 N k3 h r2 x3 x4 xs0 = some (v, h')) : Wx X 7 28 [(0, rf (qo X) 30), (1, rf (qo X) 9), (2, rf (qo X) r2), (3, .int x3), (4, .int x4)] [.int xs0] h := by
  have C := B.1
  unfold fX4_weigh_b28 at hf
  refine x_istore (lv' := [(5, .int xs0), (0, rf (qo X) 30), (1, rf (qo X) 9), (2, rf (qo X) r2), (3, .int x3), (4, .int x4)]) C dX4_weigh_28 (by decide) rfl ?_
  refine x_iload_n (i := 3) 4 C dX4_weigh_30 rfl rfl ?_
  refine x_bipush (v := 19) C dX4_weigh_31 (by decide) ?_
  refine x_imul C dX4_weigh_33 ?_
  refine x_iload 5 C dX4_weigh_34 rfl ?_
  refine x_iadd C dX4_weigh_36 ?_
  refine x_istore (lv' := [(6, .int ((x3 * 19) + x4)), (5, .int xs0), (0, rf (qo X) 30), (1, rf (qo X) 9), (2, rf (qo X) r2), (3, .int x3), (4, .int x4)]) C dX4_weigh_37 (by decide) rfl ?_
  refine x_aload_n (i := 0) 2 C dX4_weigh_39 rfl rfl ?_
  refine x_getR (r := 30) (r2 := 32) C dX4_weigh_40 kfX4_15 rfl rfl (by decide) ?_
  refine x_iload 0 C dX4_weigh_43 rfl ?_
  refine x_iload 1 C dX4_weigh_45 rfl ?_
  refine x_if_eq (tgt := 64) C dX4_weigh_47 (by decide) (fun c => ?_) (fun c => ?_)
  · rw [if_pos c] at hf
    refine x_iconst (v := 0) C dX4_weigh_64 (by decide) ?_
    refine x_lv [2, 3, 4, 5, 6, 0] rfl ?_
    exact tX4_weigh_b65 N k3 HK3 h r2 x3 x4 ((x3 * 19) + x4) 0 ((x3 * 19) + x4) B hf
  · rw [if_neg c] at hf
    refine x_sipush (v := 1000) C dX4_weigh_50 (by decide) ?_
    refine x_aload_n (i := 1) 3 C dX4_weigh_53 rfl rfl ?_
    refine x_aload_n (i := 2) 4 C dX4_weigh_54 rfl rfl ?_
    refine x_iload 6 C dX4_weigh_55 rfl ?_
    obtain ⟨z1, e1, hf⟩ := bnd hf
    refine x_callV (r := 9) (As := [rf (qo X) r2, .int x4]) (rest := [.int 1000, .int ((x3 * 19) + x4), rf (qo X) 32]) C dX4_weigh_57 kmX4_72 miX0_toll (ctX0_toll (lo X) (qo X) N h r2 x4 z1.1 z1.2 e1) rfl rfl ⟨Nat.le_trans (by decide) B.2.2.2.1, Nat.le_trans (by decide) B.2.2.2.2.1⟩ (by simp [cat_i, cat_l, rf_cat]) rfl ?_
    refine x_isub C dX4_weigh_60 ?_
    refine x_goto (tgt := 65) C dX4_weigh_61 (by decide) ?_
    refine x_lv [2, 3, 4, 5, 6, 0] rfl ?_
    exact tX4_weigh_b65 N k3 HK3 z1.2 r2 x3 x4 ((x3 * 19) + x4) (1000 - z1.1) ((x3 * 19) + x4) B hf
def fX4_weigh_B3 (N : Nat) (k3 : pH → Nat → Int32 → Int32 → Option (Unit × pH)) (h : pH) (r2 : Nat) (x3 : Int32) (x4 : Int32) : Option (Unit × pH) :=
  if (h.1 30 4) ≤ x4 then (some ((), h)) else ((fX0_outcome N h r2 x4).bind fun z1 => (if z1.1 = 1 then (fX4_weigh_b28 N k3 z1.2 r2 x3 x4 1) else (fX4_weigh_b28 N k3 z1.2 r2 x3 x4 0)))
set_option maxRecDepth 100000 in
set_option maxHeartbeats 4000000 in
theorem tX4_weigh_B3 {X : Xt} {v : Unit} {h' : pH} (N : Nat) (k3 : pH → Nat → Int32 → Int32 → Option (Unit × pH)) (HK3 : ∀ (h : pH) (r2 : Nat) (x3 : Int32) (x4 : Int32), k3 h r2 x3 x4 = some (v, h') → Wx X 7 3 [(0, rf (qo X) 30), (1, rf (qo X) 9), (2, rf (qo X) r2), (3, .int x3), (4, .int x4)] [] h) (h : pH) (r2 : Nat) (x3 : Int32) (x4 : Int32) (B : Bd (lo X) (qo X) cX4_weigh RX4 7 none 2 46 none h' X) (hf : fX4_weigh_B3 N k3 h r2 x3 x4 = some (v, h')) : Wx X 7 3 [(0, rf (qo X) 30), (1, rf (qo X) 9), (2, rf (qo X) r2), (3, .int x3), (4, .int x4)] [] h := by
  have C := B.1
  unfold fX4_weigh_B3 at hf
  refine x_iload 4 C dX4_weigh_3 rfl ?_
  refine x_aload_n (i := 0) 0 C dX4_weigh_5 rfl rfl ?_
  refine x_getI (r := 30) C dX4_weigh_6 kfX4_36 rfl ?_
  refine x_icmp_ge (tgt := 90) C dX4_weigh_9 (by decide) (fun c => ?_) (fun c => ?_)
  · rw [if_pos c] at hf
    obtain ⟨rfl, rfl⟩ := rtn hf
    exact B.2.2.2.2.2.2.2.2.2 rfl rfl _ _ dX4_weigh_90
  · rw [if_neg c] at hf
    refine x_aload_n (i := 1) 1 C dX4_weigh_12 rfl rfl ?_
    refine x_aload_n (i := 2) 2 C dX4_weigh_13 rfl rfl ?_
    refine x_iload 4 C dX4_weigh_14 rfl ?_
    obtain ⟨z1, e1, hf⟩ := bnd hf
    refine x_callV (r := 9) (As := [rf (qo X) r2, .int x4]) (rest := []) C dX4_weigh_16 kmX4_68 miX0_outcome (ctX0_outcome (lo X) (qo X) N h r2 x4 z1.1 z1.2 e1) rfl rfl ⟨Nat.le_trans (by decide) B.2.2.2.1, Nat.le_trans (by decide) B.2.2.2.2.1⟩ (by simp [cat_i, cat_l, rf_cat]) rfl ?_
    refine x_iconst (v := 1) C dX4_weigh_19 (by decide) ?_
    refine x_icmp_ne (tgt := 27) C dX4_weigh_20 (by decide) (fun c => ?_) (fun c => ?_)
    · rw [if_neg c] at hf
      refine x_iconst (v := 0) C dX4_weigh_27 (by decide) ?_
      exact tX4_weigh_b28 N k3 HK3 z1.2 r2 x3 x4 0 B hf
    · rw [if_pos c] at hf
      refine x_iconst (v := 1) C dX4_weigh_23 (by decide) ?_
      refine x_goto (tgt := 28) C dX4_weigh_24 (by decide) ?_
      exact tX4_weigh_b28 N k3 HK3 z1.2 r2 x3 x4 1 B hf
def fX4_weigh_L3 (N : Nat) : Nat → pH → Nat → Int32 → Int32 → Option (Unit × pH)
  | 0 => fun _ _ _ _ => none
  | n + 1 => fX4_weigh_B3 N (fX4_weigh_L3 N n)
theorem tX4_weigh_L3 {X : Xt} {v : Unit} {h' : pH} (N : Nat) (B : Bd (lo X) (qo X) cX4_weigh RX4 7 none 2 46 none h' X) : ∀ (n : Nat) (h : pH) (r2 : Nat) (x3 : Int32) (x4 : Int32), fX4_weigh_L3 N n h r2 x3 x4 = some (v, h') → Wx X 7 3 [(0, rf (qo X) 30), (1, rf (qo X) 9), (2, rf (qo X) r2), (3, .int x3), (4, .int x4)] [] h := by
  intro n
  induction n with
  | zero => intro h r2 x3 x4 hf; exact absurd (show (none : Option (Unit × pH)) = some (v, h') from hf) (fun z => by cases z)
  | succ n ih => intro h r2 x3 x4 hf; exact tX4_weigh_B3 N (fX4_weigh_L3 N n) ih h r2 x3 x4 B hf
def fX4_weigh (N : Nat) (h : pH) (r2 : Nat) (x3 : Int32) : Option (Unit × pH) :=
  fX4_weigh_L3 N N h r2 x3 0
set_option maxRecDepth 100000 in
set_option maxHeartbeats 4000000 in
theorem tX4_weigh {X : Xt} {v : Unit} {h' : pH} (N : Nat) (h : pH) (r2 : Nat) (x3 : Int32) (B : Bd (lo X) (qo X) cX4_weigh RX4 7 none 2 46 none h' X) (hf : fX4_weigh N h r2 x3 = some (v, h')) : Wx X 7 0 [(0, rf (qo X) 30), (1, rf (qo X) 9), (2, rf (qo X) r2), (3, .int x3)] [] h := by
  have C := B.1
  unfold fX4_weigh at hf
  refine x_iconst (v := 0) C dX4_weigh_0 (by decide) ?_
  refine x_istore (lv' := [(4, .int 0), (0, rf (qo X) 30), (1, rf (qo X) 9), (2, rf (qo X) r2), (3, .int x3)]) C dX4_weigh_1 (by decide) rfl ?_
  refine x_lv [1, 2, 3, 4, 0] rfl ?_
  exact tX4_weigh_L3 N  B N h r2 x3 0 hf
theorem ctX4_weigh (l : Launch) (q : Nat → Nat) (N : Nat) (h : pH) (r2 : Nat) (x3 : Int32) (v : Unit) (h' : pH) (hf : fX4_weigh N h r2 x3 = some (v, h')) : Ctr l q yX4_weigh cX4_weigh 7 none 2 46 [rf q 30, rf q 9, rf q r2, .int x3] h h' none := by
  refine ct_of (own := RX4) (lv := [(0, rf q 30), (1, rf q 9), (2, rf q r2), (3, .int x3)]) (by decide +kernel) rfl (by simp [lg_sl, rf_cat, cat_i, cat_l]) (by first | rfl | simp [lv_args, rf_cat, cat_i, cat_l]) ?_
  intro X B
  obtain rfl := B.2.1
  obtain rfl := B.2.2.1
  exact tX4_weigh N h r2 x3 B hf
def fX4_worthOf (N : Nat) (h : pH) (x1 : Int32) (x2 : Int32) (x3 : Int32) : Option (Int32 × pH) :=
  if ix ((x3 * 19) + x2) 152 = true then (if ix ((x3 * 19) + x2) 152 = true then (if ix (((x1 ||| (1 <<< (x3 &&& 31))) * 19) + (h.1 33 ((x3 * 19) + x2).toNatClampNeg)) 4864 = true then (some ((h.1 32 ((x3 * 19) + x2).toNatClampNeg) + (h.1 31 (((x1 ||| (1 <<< (x3 &&& 31))) * 19) + (h.1 33 ((x3 * 19) + x2).toNatClampNeg)).toNatClampNeg), h)) else none) else none) else none
set_option maxRecDepth 100000 in
set_option maxHeartbeats 4000000 in
theorem tX4_worthOf {X : Xt} {v : Int32} {h' : pH} (N : Nat) (h : pH) (x1 : Int32) (x2 : Int32) (x3 : Int32) (B : Bd (lo X) (qo X) cX4_worthOf RX4 5 (some .int) 0 0 (some (.int v)) h' X) (hf : fX4_worthOf N h x1 x2 x3 = some (v, h')) : Wx X 5 0 [(0, rf (qo X) 30), (1, .int x1), (2, .int x2), (3, .int x3)] [] h := by
  have C := B.1
  unfold fX4_worthOf at hf
  refine x_iload_n (i := 3) 3 C dX4_worthOf_0 rfl rfl ?_
  refine x_bipush (v := 19) C dX4_worthOf_1 (by decide) ?_
  refine x_imul C dX4_worthOf_3 ?_
  refine x_iload_n (i := 2) 2 C dX4_worthOf_4 rfl rfl ?_
  refine x_iadd C dX4_worthOf_5 ?_
  refine x_istore (lv' := [(4, .int ((x3 * 19) + x2)), (0, rf (qo X) 30), (1, .int x1), (2, .int x2), (3, .int x3)]) C dX4_worthOf_6 (by decide) rfl ?_
  refine x_aload_n (i := 0) 1 C dX4_worthOf_8 rfl rfl ?_
  refine x_getR (r := 30) (r2 := 32) C dX4_worthOf_9 kfX4_15 rfl rfl (by decide) ?_
  refine x_iload 0 C dX4_worthOf_12 rfl ?_
  obtain ⟨g1, hf⟩ := ife hf
  refine x_iald (r := 32) C dX4_worthOf_14 rfl g1 ?_
  refine x_aload_n (i := 0) 1 C dX4_worthOf_15 rfl rfl ?_
  refine x_getR (r := 30) (r2 := 31) C dX4_worthOf_16 kfX4_9 rfl rfl (by decide) ?_
  refine x_iload_n (i := 1) 2 C dX4_worthOf_19 rfl rfl ?_
  refine x_iconst (v := 1) C dX4_worthOf_20 (by decide) ?_
  refine x_iload_n (i := 3) 4 C dX4_worthOf_21 rfl rfl ?_
  refine x_ishl C dX4_worthOf_22 ?_
  refine x_ior C dX4_worthOf_23 ?_
  refine x_bipush (v := 19) C dX4_worthOf_24 (by decide) ?_
  refine x_imul C dX4_worthOf_26 ?_
  refine x_aload_n (i := 0) 1 C dX4_worthOf_27 rfl rfl ?_
  refine x_getR (r := 30) (r2 := 33) C dX4_worthOf_28 kfX4_18 rfl rfl (by decide) ?_
  refine x_iload 0 C dX4_worthOf_31 rfl ?_
  obtain ⟨g2, hf⟩ := ife hf
  refine x_iald (r := 33) C dX4_worthOf_33 rfl g2 ?_
  refine x_iadd C dX4_worthOf_34 ?_
  obtain ⟨g3, hf⟩ := ife hf
  refine x_iald (r := 31) C dX4_worthOf_35 rfl g3 ?_
  refine x_iadd C dX4_worthOf_36 ?_
  obtain ⟨rfl, rfl⟩ := rtn hf
  exact B.2.2.2.2.2.1 _ _ rfl rfl rfl _ _ dX4_worthOf_37
theorem ctX4_worthOf (l : Launch) (q : Nat → Nat) (N : Nat) (h : pH) (x1 : Int32) (x2 : Int32) (x3 : Int32) (v : Int32) (h' : pH) (hf : fX4_worthOf N h x1 x2 x3 = some (v, h')) : Ctr l q yX4_worthOf cX4_worthOf 5 (some .int) 0 0 [rf q 30, .int x1, .int x2, .int x3] h h' (some (.int v)) := by
  refine ct_of (own := RX4) (lv := [(0, rf q 30), (1, .int x1), (2, .int x2), (3, .int x3)]) (by decide +kernel) rfl (by simp [lg_sl, rf_cat, cat_i, cat_l]) (by first | rfl | simp [lv_args, rf_cat, cat_i, cat_l]) ?_
  intro X B
  obtain rfl := B.2.1
  obtain rfl := B.2.2.1
  exact tX4_worthOf N h x1 x2 x3 B hf
def fX4_bestOf_b36 (N : Nat) (k5 : pH → Int32 → Int32 → Int32 → Int32 → Option (Int32 × pH)) (h : pH) (x1 : Int32) (x2 : Int32) (x3 : Int32) (x4 : Int32) : Option (Int32 × pH) :=
  k5 h x1 x2 x3 (x4 + 1)
set_option maxRecDepth 100000 in
set_option maxHeartbeats 4000000 in
theorem tX4_bestOf_b36 {X : Xt} {v : Int32} {h' : pH} (N : Nat) (k5 : pH → Int32 → Int32 → Int32 → Int32 → Option (Int32 × pH)) (HK5 : ∀ (h : pH) (x1 : Int32) (x2 : Int32) (x3 : Int32) (x4 : Int32), k5 h x1 x2 x3 x4 = some (v, h') → Wx X 5 5 [(0, rf (qo X) 30), (1, .int x1), (2, .int x2), (3, .int x3), (4, .int x4)] [] h) (h : pH) (x1 : Int32) (x2 : Int32) (x3 : Int32) (x4 : Int32) (B : Bd (lo X) (qo X) cX4_bestOf RX4 5 (some .int) 1 24 (some (.int v)) h' X) (hf : fX4_bestOf_b36 N k5 h x1 x2 x3 x4 = some (v, h')) : Wx X 5 36 [(0, rf (qo X) 30), (1, .int x1), (2, .int x2), (3, .int x3), (4, .int x4)] [] h := by
  have C := B.1
  unfold fX4_bestOf_b36 at hf
  refine x_iinc (v := x4 + 1) (lv' := [(4, .int (x4 + 1)), (0, rf (qo X) 30), (1, .int x1), (2, .int x2), (3, .int x3)]) 4 C dX4_bestOf_36 rfl rfl (by decide) rfl ?_
  refine x_goto (tgt := 5) C dX4_bestOf_39 (by decide) ?_
  refine x_lv [1, 2, 3, 4, 0] rfl ?_
  exact HK5 h x1 x2 x3 (x4 + 1) hf
def fX4_bestOf_B5 (N : Nat) (k5 : pH → Int32 → Int32 → Int32 → Int32 → Option (Int32 × pH)) (h : pH) (x1 : Int32) (x2 : Int32) (x3 : Int32) (x4 : Int32) : Option (Int32 × pH) :=
  if (h.1 30 5) ≤ x4 then (some (x3, h)) else (if (x1 &&& (1 <<< (x4 &&& 31))) = 0 then ((fX4_worthOf N h x1 x2 x4).bind fun z1 => ((fJ9_max_7cf53 N z1.2 x3 z1.1).bind fun z2 => (fX4_bestOf_b36 N k5 z2.2 x1 x2 z2.1 x4))) else (fX4_bestOf_b36 N k5 h x1 x2 x3 x4))
set_option maxRecDepth 100000 in
set_option maxHeartbeats 4000000 in
theorem tX4_bestOf_B5 {X : Xt} {v : Int32} {h' : pH} (N : Nat) (k5 : pH → Int32 → Int32 → Int32 → Int32 → Option (Int32 × pH)) (HK5 : ∀ (h : pH) (x1 : Int32) (x2 : Int32) (x3 : Int32) (x4 : Int32), k5 h x1 x2 x3 x4 = some (v, h') → Wx X 5 5 [(0, rf (qo X) 30), (1, .int x1), (2, .int x2), (3, .int x3), (4, .int x4)] [] h) (h : pH) (x1 : Int32) (x2 : Int32) (x3 : Int32) (x4 : Int32) (B : Bd (lo X) (qo X) cX4_bestOf RX4 5 (some .int) 1 24 (some (.int v)) h' X) (hf : fX4_bestOf_B5 N k5 h x1 x2 x3 x4 = some (v, h')) : Wx X 5 5 [(0, rf (qo X) 30), (1, .int x1), (2, .int x2), (3, .int x3), (4, .int x4)] [] h := by
  have C := B.1
  unfold fX4_bestOf_B5 at hf
  refine x_iload 4 C dX4_bestOf_5 rfl ?_
  refine x_aload_n (i := 0) 0 C dX4_bestOf_7 rfl rfl ?_
  refine x_getI (r := 30) C dX4_bestOf_8 kfX4_44 rfl ?_
  refine x_icmp_ge (tgt := 42) C dX4_bestOf_11 (by decide) (fun c => ?_) (fun c => ?_)
  · rw [if_pos c] at hf
    refine x_iload_n (i := 3) 3 C dX4_bestOf_42 rfl rfl ?_
    obtain ⟨rfl, rfl⟩ := rtn hf
    exact B.2.2.2.2.2.1 _ _ rfl rfl rfl _ _ dX4_bestOf_43
  · rw [if_neg c] at hf
    refine x_iload_n (i := 1) 1 C dX4_bestOf_14 rfl rfl ?_
    refine x_iconst (v := 1) C dX4_bestOf_15 (by decide) ?_
    refine x_iload 4 C dX4_bestOf_16 rfl ?_
    refine x_ishl C dX4_bestOf_18 ?_
    refine x_iand C dX4_bestOf_19 ?_
    refine x_if_ne (tgt := 36) C dX4_bestOf_20 (by decide) (fun c => ?_) (fun c => ?_)
    · rw [if_neg c] at hf
      exact tX4_bestOf_b36 N k5 HK5 h x1 x2 x3 x4 B hf
    · rw [if_pos c] at hf
      refine x_iload_n (i := 3) 3 C dX4_bestOf_23 rfl rfl ?_
      refine x_aload_n (i := 0) 0 C dX4_bestOf_24 rfl rfl ?_
      refine x_iload_n (i := 1) 1 C dX4_bestOf_25 rfl rfl ?_
      refine x_iload_n (i := 2) 2 C dX4_bestOf_26 rfl rfl ?_
      refine x_iload 4 C dX4_bestOf_27 rfl ?_
      obtain ⟨z1, e1, hf⟩ := bnd hf
      refine x_callV (r := 30) (As := [.int x1, .int x2, .int x4]) (rest := [.int x3]) C dX4_bestOf_29 kmX4_85 miX4_worthOf (ctX4_worthOf (lo X) (qo X) N h x1 x2 x4 z1.1 z1.2 e1) rfl rfl ⟨Nat.le_trans (by decide) B.2.2.2.1, Nat.le_trans (by decide) B.2.2.2.2.1⟩ (by simp [cat_i, cat_l, rf_cat]) rfl ?_
      obtain ⟨z2, e2, hf⟩ := bnd hf
      refine x_callS (As := [.int x3, .int z1.1]) (rest := []) C dX4_bestOf_32 kmX4_30 miJ9_max_7cf53 (ctJ9_max_7cf53 (lo X) (qo X) N z1.2 x3 z1.1 z2.1 z2.2 e2) rfl rfl ⟨Nat.le_trans (by decide) B.2.2.2.1, Nat.le_trans (by decide) B.2.2.2.2.1⟩ (by simp [cat_i, cat_l, rf_cat]) ?_
      refine x_istore_n (i := 3) (lv' := [(3, .int z2.1), (0, rf (qo X) 30), (1, .int x1), (2, .int x2), (4, .int x4)]) C dX4_bestOf_35 rfl (by decide) rfl ?_
      refine x_lv [1, 2, 3, 0, 4] rfl ?_
      exact tX4_bestOf_b36 N k5 HK5 z2.2 x1 x2 z2.1 x4 B hf
def fX4_bestOf_L5 (N : Nat) : Nat → pH → Int32 → Int32 → Int32 → Int32 → Option (Int32 × pH)
  | 0 => fun _ _ _ _ _ => none
  | n + 1 => fX4_bestOf_B5 N (fX4_bestOf_L5 N n)
theorem tX4_bestOf_L5 {X : Xt} {v : Int32} {h' : pH} (N : Nat) (B : Bd (lo X) (qo X) cX4_bestOf RX4 5 (some .int) 1 24 (some (.int v)) h' X) : ∀ (n : Nat) (h : pH) (x1 : Int32) (x2 : Int32) (x3 : Int32) (x4 : Int32), fX4_bestOf_L5 N n h x1 x2 x3 x4 = some (v, h') → Wx X 5 5 [(0, rf (qo X) 30), (1, .int x1), (2, .int x2), (3, .int x3), (4, .int x4)] [] h := by
  intro n
  induction n with
  | zero => intro h x1 x2 x3 x4 hf; exact absurd (show (none : Option (Int32 × pH)) = some (v, h') from hf) (fun z => by cases z)
  | succ n ih => intro h x1 x2 x3 x4 hf; exact tX4_bestOf_B5 N (fX4_bestOf_L5 N n) ih h x1 x2 x3 x4 B hf
def fX4_bestOf (N : Nat) (h : pH) (x1 : Int32) (x2 : Int32) : Option (Int32 × pH) :=
  fX4_bestOf_L5 N N h x1 x2 0 0
set_option maxRecDepth 100000 in
set_option maxHeartbeats 4000000 in
theorem tX4_bestOf {X : Xt} {v : Int32} {h' : pH} (N : Nat) (h : pH) (x1 : Int32) (x2 : Int32) (B : Bd (lo X) (qo X) cX4_bestOf RX4 5 (some .int) 1 24 (some (.int v)) h' X) (hf : fX4_bestOf N h x1 x2 = some (v, h')) : Wx X 5 0 [(0, rf (qo X) 30), (1, .int x1), (2, .int x2)] [] h := by
  have C := B.1
  unfold fX4_bestOf at hf
  refine x_iconst (v := 0) C dX4_bestOf_0 (by decide) ?_
  refine x_istore_n (i := 3) (lv' := [(3, .int 0), (0, rf (qo X) 30), (1, .int x1), (2, .int x2)]) C dX4_bestOf_1 rfl (by decide) rfl ?_
  refine x_iconst (v := 0) C dX4_bestOf_2 (by decide) ?_
  refine x_istore (lv' := [(4, .int 0), (3, .int 0), (0, rf (qo X) 30), (1, .int x1), (2, .int x2)]) C dX4_bestOf_3 (by decide) rfl ?_
  refine x_lv [2, 3, 4, 1, 0] rfl ?_
  exact tX4_bestOf_L5 N  B N h x1 x2 0 0 hf
theorem ctX4_bestOf (l : Launch) (q : Nat → Nat) (N : Nat) (h : pH) (x1 : Int32) (x2 : Int32) (v : Int32) (h' : pH) (hf : fX4_bestOf N h x1 x2 = some (v, h')) : Ctr l q yX4_bestOf cX4_bestOf 5 (some .int) 1 24 [rf q 30, .int x1, .int x2] h h' (some (.int v)) := by
  refine ct_of (own := RX4) (lv := [(0, rf q 30), (1, .int x1), (2, .int x2)]) (by decide +kernel) rfl (by simp [lg_sl, rf_cat, cat_i, cat_l]) (by first | rfl | simp [lv_args, rf_cat, cat_i, cat_l]) ?_
  intro X B
  obtain rfl := B.2.1
  obtain rfl := B.2.2.1
  exact tX4_bestOf N h x1 x2 B hf
def fX4_findBest_B47 (N : Nat) (k41 : pH → Int32 → Option (Unit × pH)) (k47 : pH → Int32 → Int32 → Option (Unit × pH)) (h : pH) (x2 : Int32) (x3 : Int32) : Option (Unit × pH) :=
  if (h.1 30 4) ≤ x3 then (k41 h (x2 + (-1))) else ((fX4_bestOf N h x2 x3).bind fun z1 => (if ix ((x2 * 19) + x3) 4864 = true then (k47 (pw z1.2 31 ((x2 * 19) + x3).toNatClampNeg z1.1) x2 (x3 + 1)) else none))
set_option maxRecDepth 100000 in
set_option maxHeartbeats 4000000 in
theorem tX4_findBest_B47 {X : Xt} {v : Unit} {h' : pH} (N : Nat) (k41 : pH → Int32 → Option (Unit × pH)) (k47 : pH → Int32 → Int32 → Option (Unit × pH)) (HK41 : ∀ (h : pH) (x2 : Int32), k41 h x2 = some (v, h') → Wx X 4 41 [(0, rf (qo X) 30), (2, .int x2)] [] h) (HK47 : ∀ (h : pH) (x2 : Int32) (x3 : Int32), k47 h x2 x3 = some (v, h') → Wx X 4 47 [(0, rf (qo X) 30), (2, .int x2), (3, .int x3)] [] h) (h : pH) (x2 : Int32) (x3 : Int32) (B : Bd (lo X) (qo X) cX4_findBest RX4 4 none 2 48 none h' X) (hf : fX4_findBest_B47 N k41 k47 h x2 x3 = some (v, h')) : Wx X 4 47 [(0, rf (qo X) 30), (2, .int x2), (3, .int x3)] [] h := by
  have C := B.1
  unfold fX4_findBest_B47 at hf
  refine x_iload_n (i := 3) 2 C dX4_findBest_47 rfl rfl ?_
  refine x_aload_n (i := 0) 0 C dX4_findBest_48 rfl rfl ?_
  refine x_getI (r := 30) C dX4_findBest_49 kfX4_36 rfl ?_
  refine x_icmp_ge (tgt := 78) C dX4_findBest_52 (by decide) (fun c => ?_) (fun c => ?_)
  · rw [if_pos c] at hf
    refine x_iinc (v := x2 + (-1)) (lv' := [(2, .int (x2 + (-1))), (0, rf (qo X) 30), (3, .int x3)]) 1 C dX4_findBest_78 rfl rfl (by decide) rfl ?_
    refine x_goto (tgt := 41) C dX4_findBest_81 (by decide) ?_
    refine x_lv [1, 0] rfl ?_
    exact HK41 h (x2 + (-1)) hf
  · rw [if_neg c] at hf
    refine x_aload_n (i := 0) 0 C dX4_findBest_55 rfl rfl ?_
    refine x_getR (r := 30) (r2 := 31) C dX4_findBest_56 kfX4_9 rfl rfl (by decide) ?_
    refine x_iload_n (i := 2) 1 C dX4_findBest_59 rfl rfl ?_
    refine x_bipush (v := 19) C dX4_findBest_60 (by decide) ?_
    refine x_imul C dX4_findBest_62 ?_
    refine x_iload_n (i := 3) 2 C dX4_findBest_63 rfl rfl ?_
    refine x_iadd C dX4_findBest_64 ?_
    refine x_aload_n (i := 0) 0 C dX4_findBest_65 rfl rfl ?_
    refine x_iload_n (i := 2) 1 C dX4_findBest_66 rfl rfl ?_
    refine x_iload_n (i := 3) 2 C dX4_findBest_67 rfl rfl ?_
    obtain ⟨z1, e1, hf⟩ := bnd hf
    refine x_callV (r := 30) (As := [.int x2, .int x3]) (rest := [.int ((x2 * 19) + x3), rf (qo X) 31]) C dX4_findBest_68 kmX4_82 miX4_bestOf (ctX4_bestOf (lo X) (qo X) N h x2 x3 z1.1 z1.2 e1) rfl rfl ⟨Nat.le_trans (by decide) B.2.2.2.1, Nat.le_trans (by decide) B.2.2.2.2.1⟩ (by simp [cat_i, cat_l, rf_cat]) rfl ?_
    obtain ⟨g1, hf⟩ := ife hf
    refine x_iast (r := 31) C dX4_findBest_71 rfl g1 ?_
    refine x_iinc (v := x3 + 1) (lv' := [(3, .int (x3 + 1)), (0, rf (qo X) 30), (2, .int x2)]) 2 C dX4_findBest_72 rfl rfl (by decide) rfl ?_
    refine x_goto (tgt := 47) C dX4_findBest_75 (by decide) ?_
    refine x_lv [1, 2, 0] rfl ?_
    exact HK47 (pw z1.2 31 ((x2 * 19) + x3).toNatClampNeg z1.1) x2 (x3 + 1) hf
def fX4_findBest_L47 (N : Nat) (k41 : pH → Int32 → Option (Unit × pH)) : Nat → pH → Int32 → Int32 → Option (Unit × pH)
  | 0 => fun _ _ _ => none
  | n + 1 => fX4_findBest_B47 N k41 (fX4_findBest_L47 N k41 n)
theorem tX4_findBest_L47 {X : Xt} {v : Unit} {h' : pH} (N : Nat) (k41 : pH → Int32 → Option (Unit × pH)) (HK41 : ∀ (h : pH) (x2 : Int32), k41 h x2 = some (v, h') → Wx X 4 41 [(0, rf (qo X) 30), (2, .int x2)] [] h) (B : Bd (lo X) (qo X) cX4_findBest RX4 4 none 2 48 none h' X) : ∀ (n : Nat) (h : pH) (x2 : Int32) (x3 : Int32), fX4_findBest_L47 N k41 n h x2 x3 = some (v, h') → Wx X 4 47 [(0, rf (qo X) 30), (2, .int x2), (3, .int x3)] [] h := by
  intro n
  induction n with
  | zero => intro h x2 x3 hf; exact absurd (show (none : Option (Unit × pH)) = some (v, h') from hf) (fun z => by cases z)
  | succ n ih => intro h x2 x3 hf; exact tX4_findBest_B47 N k41 (fX4_findBest_L47 N k41 n) HK41 ih h x2 x3 B hf
def fX4_findBest_B41 (N : Nat) (k41 : pH → Int32 → Option (Unit × pH)) (h : pH) (x2 : Int32) : Option (Unit × pH) :=
  if x2 < 0 then (some ((), h)) else (fX4_findBest_L47 N k41 N h x2 0)
set_option maxRecDepth 100000 in
set_option maxHeartbeats 4000000 in
theorem tX4_findBest_B41 {X : Xt} {v : Unit} {h' : pH} (N : Nat) (k41 : pH → Int32 → Option (Unit × pH)) (HK41 : ∀ (h : pH) (x2 : Int32), k41 h x2 = some (v, h') → Wx X 4 41 [(0, rf (qo X) 30), (2, .int x2)] [] h) (h : pH) (x2 : Int32) (B : Bd (lo X) (qo X) cX4_findBest RX4 4 none 2 48 none h' X) (hf : fX4_findBest_B41 N k41 h x2 = some (v, h')) : Wx X 4 41 [(0, rf (qo X) 30), (2, .int x2)] [] h := by
  have C := B.1
  unfold fX4_findBest_B41 at hf
  refine x_iload_n (i := 2) 1 C dX4_findBest_41 rfl rfl ?_
  refine x_if_lt (tgt := 84) C dX4_findBest_42 (by decide) (fun c => ?_) (fun c => ?_)
  · rw [if_pos c] at hf
    obtain ⟨rfl, rfl⟩ := rtn hf
    exact B.2.2.2.2.2.2.2.2.2 rfl rfl _ _ dX4_findBest_84
  · rw [if_neg c] at hf
    refine x_iconst (v := 0) C dX4_findBest_45 (by decide) ?_
    refine x_istore_n (i := 3) (lv' := [(3, .int 0), (0, rf (qo X) 30), (2, .int x2)]) C dX4_findBest_46 rfl (by decide) rfl ?_
    refine x_lv [1, 2, 0] rfl ?_
    exact tX4_findBest_L47 N k41 HK41  B N h x2 0 hf
def fX4_findBest_L41 (N : Nat) : Nat → pH → Int32 → Option (Unit × pH)
  | 0 => fun _ _ => none
  | n + 1 => fX4_findBest_B41 N (fX4_findBest_L41 N n)
theorem tX4_findBest_L41 {X : Xt} {v : Unit} {h' : pH} (N : Nat) (B : Bd (lo X) (qo X) cX4_findBest RX4 4 none 2 48 none h' X) : ∀ (n : Nat) (h : pH) (x2 : Int32), fX4_findBest_L41 N n h x2 = some (v, h') → Wx X 4 41 [(0, rf (qo X) 30), (2, .int x2)] [] h := by
  intro n
  induction n with
  | zero => intro h x2 hf; exact absurd (show (none : Option (Unit × pH)) = some (v, h') from hf) (fun z => by cases z)
  | succ n ih => intro h x2 hf; exact tX4_findBest_B41 N (fX4_findBest_L41 N n) ih h x2 B hf
def fX4_findBest_B11 (N : Nat) (k11 : pH → Int32 → Int32 → Option (Unit × pH)) (h : pH) (x1 : Int32) (x2 : Int32) : Option (Unit × pH) :=
  if (h.1 30 4) ≤ x2 then (fX4_findBest_L41 N N h (x1 - 1)) else (if ix ((x1 * 19) + x2) 4864 = true then (k11 (pw h 31 ((x1 * 19) + x2).toNatClampNeg 0) x1 (x2 + 1)) else none)
set_option maxRecDepth 100000 in
set_option maxHeartbeats 4000000 in
theorem tX4_findBest_B11 {X : Xt} {v : Unit} {h' : pH} (N : Nat) (k11 : pH → Int32 → Int32 → Option (Unit × pH)) (HK11 : ∀ (h : pH) (x1 : Int32) (x2 : Int32), k11 h x1 x2 = some (v, h') → Wx X 4 11 [(0, rf (qo X) 30), (1, .int x1), (2, .int x2)] [] h) (h : pH) (x1 : Int32) (x2 : Int32) (B : Bd (lo X) (qo X) cX4_findBest RX4 4 none 2 48 none h' X) (hf : fX4_findBest_B11 N k11 h x1 x2 = some (v, h')) : Wx X 4 11 [(0, rf (qo X) 30), (1, .int x1), (2, .int x2)] [] h := by
  have C := B.1
  unfold fX4_findBest_B11 at hf
  refine x_iload_n (i := 2) 2 C dX4_findBest_11 rfl rfl ?_
  refine x_aload_n (i := 0) 0 C dX4_findBest_12 rfl rfl ?_
  refine x_getI (r := 30) C dX4_findBest_13 kfX4_36 rfl ?_
  refine x_icmp_ge (tgt := 37) C dX4_findBest_16 (by decide) (fun c => ?_) (fun c => ?_)
  · rw [if_pos c] at hf
    refine x_iload_n (i := 1) 1 C dX4_findBest_37 rfl rfl ?_
    refine x_iconst (v := 1) C dX4_findBest_38 (by decide) ?_
    refine x_isub C dX4_findBest_39 ?_
    refine x_istore_n (i := 2) (lv' := [(2, .int (x1 - 1)), (0, rf (qo X) 30), (1, .int x1)]) C dX4_findBest_40 rfl (by decide) rfl ?_
    refine x_lv [1, 0] rfl ?_
    exact tX4_findBest_L41 N  B N h (x1 - 1) hf
  · rw [if_neg c] at hf
    refine x_aload_n (i := 0) 0 C dX4_findBest_19 rfl rfl ?_
    refine x_getR (r := 30) (r2 := 31) C dX4_findBest_20 kfX4_9 rfl rfl (by decide) ?_
    refine x_iload_n (i := 1) 1 C dX4_findBest_23 rfl rfl ?_
    refine x_bipush (v := 19) C dX4_findBest_24 (by decide) ?_
    refine x_imul C dX4_findBest_26 ?_
    refine x_iload_n (i := 2) 2 C dX4_findBest_27 rfl rfl ?_
    refine x_iadd C dX4_findBest_28 ?_
    refine x_iconst (v := 0) C dX4_findBest_29 (by decide) ?_
    obtain ⟨g1, hf⟩ := ife hf
    refine x_iast (r := 31) C dX4_findBest_30 rfl g1 ?_
    refine x_iinc (v := x2 + 1) (lv' := [(2, .int (x2 + 1)), (0, rf (qo X) 30), (1, .int x1)]) 2 C dX4_findBest_31 rfl rfl (by decide) rfl ?_
    refine x_goto (tgt := 11) C dX4_findBest_34 (by decide) ?_
    refine x_lv [1, 2, 0] rfl ?_
    exact HK11 (pw h 31 ((x1 * 19) + x2).toNatClampNeg 0) x1 (x2 + 1) hf
def fX4_findBest_L11 (N : Nat) : Nat → pH → Int32 → Int32 → Option (Unit × pH)
  | 0 => fun _ _ _ => none
  | n + 1 => fX4_findBest_B11 N (fX4_findBest_L11 N n)
theorem tX4_findBest_L11 {X : Xt} {v : Unit} {h' : pH} (N : Nat) (B : Bd (lo X) (qo X) cX4_findBest RX4 4 none 2 48 none h' X) : ∀ (n : Nat) (h : pH) (x1 : Int32) (x2 : Int32), fX4_findBest_L11 N n h x1 x2 = some (v, h') → Wx X 4 11 [(0, rf (qo X) 30), (1, .int x1), (2, .int x2)] [] h := by
  intro n
  induction n with
  | zero => intro h x1 x2 hf; exact absurd (show (none : Option (Unit × pH)) = some (v, h') from hf) (fun z => by cases z)
  | succ n ih => intro h x1 x2 hf; exact tX4_findBest_B11 N (fX4_findBest_L11 N n) ih h x1 x2 B hf
def fX4_findBest (N : Nat) (h : pH)  : Option (Unit × pH) :=
  fX4_findBest_L11 N N h ((1 <<< ((h.1 30 5) &&& 31)) - 1) 0
set_option maxRecDepth 100000 in
set_option maxHeartbeats 4000000 in
theorem tX4_findBest {X : Xt} {v : Unit} {h' : pH} (N : Nat) (h : pH)  (B : Bd (lo X) (qo X) cX4_findBest RX4 4 none 2 48 none h' X) (hf : fX4_findBest N h  = some (v, h')) : Wx X 4 0 [(0, rf (qo X) 30)] [] h := by
  have C := B.1
  unfold fX4_findBest at hf
  refine x_iconst (v := 1) C dX4_findBest_0 (by decide) ?_
  refine x_aload_n (i := 0) 0 C dX4_findBest_1 rfl rfl ?_
  refine x_getI (r := 30) C dX4_findBest_2 kfX4_44 rfl ?_
  refine x_ishl C dX4_findBest_5 ?_
  refine x_iconst (v := 1) C dX4_findBest_6 (by decide) ?_
  refine x_isub C dX4_findBest_7 ?_
  refine x_istore_n (i := 1) (lv' := [(1, .int ((1 <<< ((h.1 30 5) &&& 31)) - 1)), (0, rf (qo X) 30)]) C dX4_findBest_8 rfl (by decide) rfl ?_
  refine x_iconst (v := 0) C dX4_findBest_9 (by decide) ?_
  refine x_istore_n (i := 2) (lv' := [(2, .int 0), (1, .int ((1 <<< ((h.1 30 5) &&& 31)) - 1)), (0, rf (qo X) 30)]) C dX4_findBest_10 rfl (by decide) rfl ?_
  refine x_lv [2, 1, 0] rfl ?_
  exact tX4_findBest_L11 N  B N h ((1 <<< ((h.1 30 5) &&& 31)) - 1) 0 hf
theorem ctX4_findBest (l : Launch) (q : Nat → Nat) (N : Nat) (h : pH)  (v : Unit) (h' : pH) (hf : fX4_findBest N h  = some (v, h')) : Ctr l q yX4_findBest cX4_findBest 4 none 2 48 [rf q 30] h h' none := by
  refine ct_of (own := RX4) (lv := [(0, rf q 30)]) (by decide +kernel) rfl (by simp [lg_sl, rf_cat, cat_i, cat_l]) (by first | rfl | simp [lv_args, rf_cat, cat_i, cat_l]) ?_
  intro X B
  obtain rfl := B.2.1
  obtain rfl := B.2.2.1
  exact tX4_findBest N h  B hf
def fX4_leastOfBest_b41 (N : Nat) (k2 : pH → Int32 → Int32 → Int32 → Option (Int32 × pH)) (h : pH) (x1 : Int32) (x2 : Int32) (x3 : Int32) : Option (Int32 × pH) :=
  k2 h x1 x2 (x3 + 1)
set_option maxRecDepth 100000 in
set_option maxHeartbeats 4000000 in
theorem tX4_leastOfBest_b41 {X : Xt} {v : Int32} {h' : pH} (N : Nat) (k2 : pH → Int32 → Int32 → Int32 → Option (Int32 × pH)) (HK2 : ∀ (h : pH) (x1 : Int32) (x2 : Int32) (x3 : Int32), k2 h x1 x2 x3 = some (v, h') → Wx X 4 2 [(0, rf (qo X) 30), (1, .int x1), (2, .int x2), (3, .int x3)] [] h) (h : pH) (x1 : Int32) (x2 : Int32) (x3 : Int32) (B : Bd (lo X) (qo X) cX4_leastOfBest RX4 4 (some .int) 1 24 (some (.int v)) h' X) (hf : fX4_leastOfBest_b41 N k2 h x1 x2 x3 = some (v, h')) : Wx X 4 41 [(0, rf (qo X) 30), (1, .int x1), (2, .int x2), (3, .int x3)] [] h := by
  have C := B.1
  unfold fX4_leastOfBest_b41 at hf
  refine x_iinc (v := x3 + 1) (lv' := [(3, .int (x3 + 1)), (0, rf (qo X) 30), (1, .int x1), (2, .int x2)]) 3 C dX4_leastOfBest_41 rfl rfl (by decide) rfl ?_
  refine x_goto (tgt := 2) C dX4_leastOfBest_44 (by decide) ?_
  refine x_lv [1, 2, 3, 0] rfl ?_
  exact HK2 h x1 x2 (x3 + 1) hf
def fX4_leastOfBest_B2 (N : Nat) (k2 : pH → Int32 → Int32 → Int32 → Option (Int32 × pH)) (h : pH) (x1 : Int32) (x2 : Int32) (x3 : Int32) : Option (Int32 × pH) :=
  if (h.1 30 5) ≤ x3 then (some (0, h)) else (if (x1 &&& (1 <<< (x3 &&& 31))) = 0 then ((fX4_worthOf N h x1 x2 x3).bind fun z1 => (if ix ((x1 * 19) + x2) 4864 = true then (if z1.1 = (z1.2.1 31 ((x1 * 19) + x2).toNatClampNeg) then (some (x3, z1.2)) else (fX4_leastOfBest_b41 N k2 z1.2 x1 x2 x3)) else none)) else (fX4_leastOfBest_b41 N k2 h x1 x2 x3))
set_option maxRecDepth 100000 in
set_option maxHeartbeats 4000000 in
theorem tX4_leastOfBest_B2 {X : Xt} {v : Int32} {h' : pH} (N : Nat) (k2 : pH → Int32 → Int32 → Int32 → Option (Int32 × pH)) (HK2 : ∀ (h : pH) (x1 : Int32) (x2 : Int32) (x3 : Int32), k2 h x1 x2 x3 = some (v, h') → Wx X 4 2 [(0, rf (qo X) 30), (1, .int x1), (2, .int x2), (3, .int x3)] [] h) (h : pH) (x1 : Int32) (x2 : Int32) (x3 : Int32) (B : Bd (lo X) (qo X) cX4_leastOfBest RX4 4 (some .int) 1 24 (some (.int v)) h' X) (hf : fX4_leastOfBest_B2 N k2 h x1 x2 x3 = some (v, h')) : Wx X 4 2 [(0, rf (qo X) 30), (1, .int x1), (2, .int x2), (3, .int x3)] [] h := by
  have C := B.1
  unfold fX4_leastOfBest_B2 at hf
  refine x_iload_n (i := 3) 3 C dX4_leastOfBest_2 rfl rfl ?_
  refine x_aload_n (i := 0) 0 C dX4_leastOfBest_3 rfl rfl ?_
  refine x_getI (r := 30) C dX4_leastOfBest_4 kfX4_44 rfl ?_
  refine x_icmp_ge (tgt := 47) C dX4_leastOfBest_7 (by decide) (fun c => ?_) (fun c => ?_)
  · rw [if_pos c] at hf
    refine x_iconst (v := 0) C dX4_leastOfBest_47 (by decide) ?_
    obtain ⟨rfl, rfl⟩ := rtn hf
    exact B.2.2.2.2.2.1 _ _ rfl rfl rfl _ _ dX4_leastOfBest_48
  · rw [if_neg c] at hf
    refine x_iload_n (i := 1) 1 C dX4_leastOfBest_10 rfl rfl ?_
    refine x_iconst (v := 1) C dX4_leastOfBest_11 (by decide) ?_
    refine x_iload_n (i := 3) 3 C dX4_leastOfBest_12 rfl rfl ?_
    refine x_ishl C dX4_leastOfBest_13 ?_
    refine x_iand C dX4_leastOfBest_14 ?_
    refine x_if_ne (tgt := 41) C dX4_leastOfBest_15 (by decide) (fun c => ?_) (fun c => ?_)
    · rw [if_neg c] at hf
      exact tX4_leastOfBest_b41 N k2 HK2 h x1 x2 x3 B hf
    · rw [if_pos c] at hf
      refine x_aload_n (i := 0) 0 C dX4_leastOfBest_18 rfl rfl ?_
      refine x_iload_n (i := 1) 1 C dX4_leastOfBest_19 rfl rfl ?_
      refine x_iload_n (i := 2) 2 C dX4_leastOfBest_20 rfl rfl ?_
      refine x_iload_n (i := 3) 3 C dX4_leastOfBest_21 rfl rfl ?_
      obtain ⟨z1, e1, hf⟩ := bnd hf
      refine x_callV (r := 30) (As := [.int x1, .int x2, .int x3]) (rest := []) C dX4_leastOfBest_22 kmX4_85 miX4_worthOf (ctX4_worthOf (lo X) (qo X) N h x1 x2 x3 z1.1 z1.2 e1) rfl rfl ⟨Nat.le_trans (by decide) B.2.2.2.1, Nat.le_trans (by decide) B.2.2.2.2.1⟩ (by simp [cat_i, cat_l, rf_cat]) rfl ?_
      refine x_aload_n (i := 0) 0 C dX4_leastOfBest_25 rfl rfl ?_
      refine x_getR (r := 30) (r2 := 31) C dX4_leastOfBest_26 kfX4_9 rfl rfl (by decide) ?_
      refine x_iload_n (i := 1) 1 C dX4_leastOfBest_29 rfl rfl ?_
      refine x_bipush (v := 19) C dX4_leastOfBest_30 (by decide) ?_
      refine x_imul C dX4_leastOfBest_32 ?_
      refine x_iload_n (i := 2) 2 C dX4_leastOfBest_33 rfl rfl ?_
      refine x_iadd C dX4_leastOfBest_34 ?_
      obtain ⟨g1, hf⟩ := ife hf
      refine x_iald (r := 31) C dX4_leastOfBest_35 rfl g1 ?_
      refine x_icmp_ne (tgt := 41) C dX4_leastOfBest_36 (by decide) (fun c => ?_) (fun c => ?_)
      · rw [if_neg c] at hf
        exact tX4_leastOfBest_b41 N k2 HK2 z1.2 x1 x2 x3 B hf
      · rw [if_pos c] at hf
        refine x_iload_n (i := 3) 3 C dX4_leastOfBest_39 rfl rfl ?_
        obtain ⟨rfl, rfl⟩ := rtn hf
        exact B.2.2.2.2.2.1 _ _ rfl rfl rfl _ _ dX4_leastOfBest_40
def fX4_leastOfBest_L2 (N : Nat) : Nat → pH → Int32 → Int32 → Int32 → Option (Int32 × pH)
  | 0 => fun _ _ _ _ => none
  | n + 1 => fX4_leastOfBest_B2 N (fX4_leastOfBest_L2 N n)
theorem tX4_leastOfBest_L2 {X : Xt} {v : Int32} {h' : pH} (N : Nat) (B : Bd (lo X) (qo X) cX4_leastOfBest RX4 4 (some .int) 1 24 (some (.int v)) h' X) : ∀ (n : Nat) (h : pH) (x1 : Int32) (x2 : Int32) (x3 : Int32), fX4_leastOfBest_L2 N n h x1 x2 x3 = some (v, h') → Wx X 4 2 [(0, rf (qo X) 30), (1, .int x1), (2, .int x2), (3, .int x3)] [] h := by
  intro n
  induction n with
  | zero => intro h x1 x2 x3 hf; exact absurd (show (none : Option (Int32 × pH)) = some (v, h') from hf) (fun z => by cases z)
  | succ n ih => intro h x1 x2 x3 hf; exact tX4_leastOfBest_B2 N (fX4_leastOfBest_L2 N n) ih h x1 x2 x3 B hf
def fX4_leastOfBest (N : Nat) (h : pH) (x1 : Int32) (x2 : Int32) : Option (Int32 × pH) :=
  fX4_leastOfBest_L2 N N h x1 x2 0
set_option maxRecDepth 100000 in
set_option maxHeartbeats 4000000 in
theorem tX4_leastOfBest {X : Xt} {v : Int32} {h' : pH} (N : Nat) (h : pH) (x1 : Int32) (x2 : Int32) (B : Bd (lo X) (qo X) cX4_leastOfBest RX4 4 (some .int) 1 24 (some (.int v)) h' X) (hf : fX4_leastOfBest N h x1 x2 = some (v, h')) : Wx X 4 0 [(0, rf (qo X) 30), (1, .int x1), (2, .int x2)] [] h := by
  have C := B.1
  unfold fX4_leastOfBest at hf
  refine x_iconst (v := 0) C dX4_leastOfBest_0 (by decide) ?_
  refine x_istore_n (i := 3) (lv' := [(3, .int 0), (0, rf (qo X) 30), (1, .int x1), (2, .int x2)]) C dX4_leastOfBest_1 rfl (by decide) rfl ?_
  refine x_lv [1, 2, 3, 0] rfl ?_
  exact tX4_leastOfBest_L2 N  B N h x1 x2 0 hf
theorem ctX4_leastOfBest (l : Launch) (q : Nat → Nat) (N : Nat) (h : pH) (x1 : Int32) (x2 : Int32) (v : Int32) (h' : pH) (hf : fX4_leastOfBest N h x1 x2 = some (v, h')) : Ctr l q yX4_leastOfBest cX4_leastOfBest 4 (some .int) 1 24 [rf q 30, .int x1, .int x2] h h' (some (.int v)) := by
  refine ct_of (own := RX4) (lv := [(0, rf q 30), (1, .int x1), (2, .int x2)]) (by decide +kernel) rfl (by simp [lg_sl, rf_cat, cat_i, cat_l]) (by first | rfl | simp [lv_args, rf_cat, cat_i, cat_l]) ?_
  intro X B
  obtain rfl := B.2.1
  obtain rfl := B.2.2.1
  exact tX4_leastOfBest N h x1 x2 B hf
def fX4_followBest_b73 (N : Nat) (k19 : pH → Int32 → Int32 → Int32 → Option (Unit × pH)) (h : pH) (x4 : Int32) (x5 : Int32) (x6 : Int32) (x7 : Int32) (xs0 : Int32) (xs1 : Int32) : Option (Unit × pH) :=
  (fX2_at N (pw h 30 6 (xs1 + xs0)) x7).bind fun z1 => ((fX0_toll N z1.2 z1.1 x5).bind fun z2 => (if ix ((x7 * 19) + x5) 152 = true then (k19 (pw z2.2 30 7 (((pw h 30 6 (xs1 + xs0)).1 30 7) + z2.1)) (x4 ||| (1 <<< (x7 &&& 31))) ((pw z2.2 30 7 (((pw h 30 6 (xs1 + xs0)).1 30 7) + z2.1)).1 33 ((x7 * 19) + x5).toNatClampNeg) (x6 + 1)) else none))
set_option maxRecDepth 100000 in
set_option maxHeartbeats 4000000 in
theorem tX4_followBest_b73 {X : Xt} {v : Unit} {h' : pH} (N : Nat) (k19 : pH → Int32 → Int32 → Int32 → Option (Unit × pH)) (HK19 : ∀ (h : pH) (x4 : Int32) (x5 : Int32) (x6 : Int32), k19 h x4 x5 x6 = some (v, h') → Wx X 8 19 [(0, rf (qo X) 30), (1, rf (qo X) 9), (2, rf (qo X) 14), (4, .int x4), (5, .int x5), (6, .int x6)] [] h) (h : pH) (x4 : Int32) (x5 : Int32) (x6 : Int32) (x7 : Int32) (xs0 : Int32) (xs1 : Int32) (B : Bd (lo X) (qo X) cX4_followBest RX4 8 none 2 47 none h' X) (hf : fX4_followBest_b73 N k19 h x4 x5 x6 x7 xs0 xs1 = some (v, h')) : Wx X 8 73 [(0, rf (qo X) 30), (1, rf (qo X) 9), (2, rf (qo X) 14), (4, .int x4), (5, .int x5), (6, .int x6), (7, .int x7)] [.int xs0, .int xs1, rf (qo X) 30] h := by
  have C := B.1
  unfold fX4_followBest_b73 at hf
  refine x_iadd C dX4_followBest_73 ?_
  refine x_putI (r := 30) C dX4_followBest_74 kfX4_89 rfl rfl rfl ?_
  refine x_aload_n (i := 0) 0 C dX4_followBest_77 rfl rfl ?_
  refine x_dupA C dX4_followBest_78 ?_
  refine x_getI (r := 30) C dX4_followBest_79 kfX4_92 rfl ?_
  refine x_aload_n (i := 1) 1 C dX4_followBest_82 rfl rfl ?_
  refine x_aload_n (i := 2) 2 C dX4_followBest_83 rfl rfl ?_
  refine x_iload 6 C dX4_followBest_84 rfl ?_
  obtain ⟨z1, e1, hf⟩ := bnd hf
  refine x_callV (r := 14) (As := [.int x7]) (rest := [rf (qo X) 9, .int ((pw h 30 6 (xs1 + xs0)).1 30 7), rf (qo X) 30]) C dX4_followBest_86 kmX4_45 miX2_at (ctX2_at (lo X) (qo X) N (pw h 30 6 (xs1 + xs0)) x7 z1.1 z1.2 e1) rfl rfl ⟨Nat.le_trans (by decide) B.2.2.2.1, Nat.le_trans (by decide) B.2.2.2.2.1⟩ (by simp [cat_i, cat_l, rf_cat]) rfl ?_
  refine x_iload 4 C dX4_followBest_89 rfl ?_
  obtain ⟨z2, e2, hf⟩ := bnd hf
  refine x_callV (r := 9) (As := [rf (qo X) z1.1, .int x5]) (rest := [.int ((pw h 30 6 (xs1 + xs0)).1 30 7), rf (qo X) 30]) C dX4_followBest_91 kmX4_72 miX0_toll (ctX0_toll (lo X) (qo X) N z1.2 z1.1 x5 z2.1 z2.2 e2) rfl rfl ⟨Nat.le_trans (by decide) B.2.2.2.1, Nat.le_trans (by decide) B.2.2.2.2.1⟩ (by simp [cat_i, cat_l, rf_cat]) rfl ?_
  refine x_iadd C dX4_followBest_94 ?_
  refine x_putI (r := 30) C dX4_followBest_95 kfX4_92 rfl rfl rfl ?_
  refine x_iload 3 C dX4_followBest_98 rfl ?_
  refine x_iconst (v := 1) C dX4_followBest_100 (by decide) ?_
  refine x_iload 6 C dX4_followBest_101 rfl ?_
  refine x_ishl C dX4_followBest_103 ?_
  refine x_ior C dX4_followBest_104 ?_
  refine x_istore (lv' := [(4, .int (x4 ||| (1 <<< (x7 &&& 31)))), (0, rf (qo X) 30), (1, rf (qo X) 9), (2, rf (qo X) 14), (5, .int x5), (6, .int x6), (7, .int x7)]) C dX4_followBest_105 (by decide) rfl ?_
  refine x_aload_n (i := 0) 1 C dX4_followBest_107 rfl rfl ?_
  refine x_getR (r := 30) (r2 := 33) C dX4_followBest_108 kfX4_18 rfl rfl (by decide) ?_
  refine x_iload 6 C dX4_followBest_111 rfl ?_
  refine x_bipush (v := 19) C dX4_followBest_113 (by decide) ?_
  refine x_imul C dX4_followBest_115 ?_
  refine x_iload 4 C dX4_followBest_116 rfl ?_
  refine x_iadd C dX4_followBest_118 ?_
  obtain ⟨g1, hf⟩ := ife hf
  refine x_iald (r := 33) C dX4_followBest_119 rfl g1 ?_
  refine x_istore (lv' := [(5, .int ((pw z2.2 30 7 (((pw h 30 6 (xs1 + xs0)).1 30 7) + z2.1)).1 33 ((x7 * 19) + x5).toNatClampNeg)), (4, .int (x4 ||| (1 <<< (x7 &&& 31)))), (0, rf (qo X) 30), (1, rf (qo X) 9), (2, rf (qo X) 14), (6, .int x6), (7, .int x7)]) C dX4_followBest_120 (by decide) rfl ?_
  refine x_iinc (v := x6 + 1) (lv' := [(6, .int (x6 + 1)), (5, .int ((pw z2.2 30 7 (((pw h 30 6 (xs1 + xs0)).1 30 7) + z2.1)).1 33 ((x7 * 19) + x5).toNatClampNeg)), (4, .int (x4 ||| (1 <<< (x7 &&& 31)))), (0, rf (qo X) 30), (1, rf (qo X) 9), (2, rf (qo X) 14), (7, .int x7)]) 5 C dX4_followBest_122 rfl rfl (by decide) rfl ?_
  refine x_goto (tgt := 19) C dX4_followBest_125 (by decide) ?_
  refine x_lv [3, 4, 5, 2, 1, 0] rfl ?_
  exact HK19 (pw z2.2 30 7 (((pw h 30 6 (xs1 + xs0)).1 30 7) + z2.1)) (x4 ||| (1 <<< (x7 &&& 31))) ((pw z2.2 30 7 (((pw h 30 6 (xs1 + xs0)).1 30 7) + z2.1)).1 33 ((x7 * 19) + x5).toNatClampNeg) (x6 + 1) hf
def fX4_followBest_B19 (N : Nat) (k19 : pH → Int32 → Int32 → Int32 → Option (Unit × pH)) (h : pH) (x4 : Int32) (x5 : Int32) (x6 : Int32) : Option (Unit × pH) :=
  if (h.1 30 5) ≤ x6 then (some ((), h)) else ((fX4_leastOfBest N h x4 x5).bind fun z1 => (if ix x6 8 = true then ((fX2_at N (pw z1.2 34 x6.toNatClampNeg z1.1) z1.1).bind fun z2 => ((fX0_outcome N z2.2 z2.1 x5).bind fun z3 => (if z3.1 = 1 then (fX4_followBest_b73 N k19 z3.2 x4 x5 x6 z1.1 1 ((pw z1.2 34 x6.toNatClampNeg z1.1).1 30 6)) else (fX4_followBest_b73 N k19 z3.2 x4 x5 x6 z1.1 0 ((pw z1.2 34 x6.toNatClampNeg z1.1).1 30 6))))) else none))
set_option maxRecDepth 100000 in
set_option maxHeartbeats 4000000 in
theorem tX4_followBest_B19 {X : Xt} {v : Unit} {h' : pH} (N : Nat) (k19 : pH → Int32 → Int32 → Int32 → Option (Unit × pH)) (HK19 : ∀ (h : pH) (x4 : Int32) (x5 : Int32) (x6 : Int32), k19 h x4 x5 x6 = some (v, h') → Wx X 8 19 [(0, rf (qo X) 30), (1, rf (qo X) 9), (2, rf (qo X) 14), (4, .int x4), (5, .int x5), (6, .int x6)] [] h) (h : pH) (x4 : Int32) (x5 : Int32) (x6 : Int32) (B : Bd (lo X) (qo X) cX4_followBest RX4 8 none 2 47 none h' X) (hf : fX4_followBest_B19 N k19 h x4 x5 x6 = some (v, h')) : Wx X 8 19 [(0, rf (qo X) 30), (1, rf (qo X) 9), (2, rf (qo X) 14), (4, .int x4), (5, .int x5), (6, .int x6)] [] h := by
  have C := B.1
  unfold fX4_followBest_B19 at hf
  refine x_iload 5 C dX4_followBest_19 rfl ?_
  refine x_aload_n (i := 0) 0 C dX4_followBest_21 rfl rfl ?_
  refine x_getI (r := 30) C dX4_followBest_22 kfX4_44 rfl ?_
  refine x_icmp_ge (tgt := 128) C dX4_followBest_25 (by decide) (fun c => ?_) (fun c => ?_)
  · rw [if_pos c] at hf
    obtain ⟨rfl, rfl⟩ := rtn hf
    exact B.2.2.2.2.2.2.2.2.2 rfl rfl _ _ dX4_followBest_128
  · rw [if_neg c] at hf
    refine x_aload_n (i := 0) 0 C dX4_followBest_28 rfl rfl ?_
    refine x_iload 3 C dX4_followBest_29 rfl ?_
    refine x_iload 4 C dX4_followBest_31 rfl ?_
    obtain ⟨z1, e1, hf⟩ := bnd hf
    refine x_callV (r := 30) (As := [.int x4, .int x5]) (rest := []) C dX4_followBest_33 kmX4_95 miX4_leastOfBest (ctX4_leastOfBest (lo X) (qo X) N h x4 x5 z1.1 z1.2 e1) rfl rfl ⟨Nat.le_trans (by decide) B.2.2.2.1, Nat.le_trans (by decide) B.2.2.2.2.1⟩ (by simp [cat_i, cat_l, rf_cat]) rfl ?_
    refine x_istore (lv' := [(7, .int z1.1), (0, rf (qo X) 30), (1, rf (qo X) 9), (2, rf (qo X) 14), (4, .int x4), (5, .int x5), (6, .int x6)]) C dX4_followBest_36 (by decide) rfl ?_
    refine x_aload_n (i := 0) 1 C dX4_followBest_38 rfl rfl ?_
    refine x_getR (r := 30) (r2 := 34) C dX4_followBest_39 kfX4_21 rfl rfl (by decide) ?_
    refine x_iload 6 C dX4_followBest_42 rfl ?_
    refine x_iload 0 C dX4_followBest_44 rfl ?_
    obtain ⟨g1, hf⟩ := ife hf
    refine x_iast (r := 34) C dX4_followBest_46 rfl g1 ?_
    refine x_aload_n (i := 0) 1 C dX4_followBest_47 rfl rfl ?_
    refine x_dupA C dX4_followBest_48 ?_
    refine x_getI (r := 30) C dX4_followBest_49 kfX4_89 rfl ?_
    refine x_aload_n (i := 1) 2 C dX4_followBest_52 rfl rfl ?_
    refine x_aload_n (i := 2) 3 C dX4_followBest_53 rfl rfl ?_
    refine x_iload 0 C dX4_followBest_54 rfl ?_
    obtain ⟨z2, e2, hf⟩ := bnd hf
    refine x_callV (r := 14) (As := [.int z1.1]) (rest := [rf (qo X) 9, .int ((pw z1.2 34 x6.toNatClampNeg z1.1).1 30 6), rf (qo X) 30]) C dX4_followBest_56 kmX4_45 miX2_at (ctX2_at (lo X) (qo X) N (pw z1.2 34 x6.toNatClampNeg z1.1) z1.1 z2.1 z2.2 e2) rfl rfl ⟨Nat.le_trans (by decide) B.2.2.2.1, Nat.le_trans (by decide) B.2.2.2.2.1⟩ (by simp [cat_i, cat_l, rf_cat]) rfl ?_
    refine x_iload 5 C dX4_followBest_59 rfl ?_
    obtain ⟨z3, e3, hf⟩ := bnd hf
    refine x_callV (r := 9) (As := [rf (qo X) z2.1, .int x5]) (rest := [.int ((pw z1.2 34 x6.toNatClampNeg z1.1).1 30 6), rf (qo X) 30]) C dX4_followBest_61 kmX4_68 miX0_outcome (ctX0_outcome (lo X) (qo X) N z2.2 z2.1 x5 z3.1 z3.2 e3) rfl rfl ⟨Nat.le_trans (by decide) B.2.2.2.1, Nat.le_trans (by decide) B.2.2.2.2.1⟩ (by simp [cat_i, cat_l, rf_cat]) rfl ?_
    refine x_iconst (v := 1) C dX4_followBest_64 (by decide) ?_
    refine x_icmp_ne (tgt := 72) C dX4_followBest_65 (by decide) (fun c => ?_) (fun c => ?_)
    · rw [if_neg c] at hf
      refine x_iconst (v := 0) C dX4_followBest_72 (by decide) ?_
      refine x_lv [1, 2, 3, 4, 5, 6, 0] rfl ?_
      exact tX4_followBest_b73 N k19 HK19 z3.2 x4 x5 x6 z1.1 0 ((pw z1.2 34 x6.toNatClampNeg z1.1).1 30 6) B hf
    · rw [if_pos c] at hf
      refine x_iconst (v := 1) C dX4_followBest_68 (by decide) ?_
      refine x_goto (tgt := 73) C dX4_followBest_69 (by decide) ?_
      refine x_lv [1, 2, 3, 4, 5, 6, 0] rfl ?_
      exact tX4_followBest_b73 N k19 HK19 z3.2 x4 x5 x6 z1.1 1 ((pw z1.2 34 x6.toNatClampNeg z1.1).1 30 6) B hf
def fX4_followBest_L19 (N : Nat) : Nat → pH → Int32 → Int32 → Int32 → Option (Unit × pH)
  | 0 => fun _ _ _ _ => none
  | n + 1 => fX4_followBest_B19 N (fX4_followBest_L19 N n)
theorem tX4_followBest_L19 {X : Xt} {v : Unit} {h' : pH} (N : Nat) (B : Bd (lo X) (qo X) cX4_followBest RX4 8 none 2 47 none h' X) : ∀ (n : Nat) (h : pH) (x4 : Int32) (x5 : Int32) (x6 : Int32), fX4_followBest_L19 N n h x4 x5 x6 = some (v, h') → Wx X 8 19 [(0, rf (qo X) 30), (1, rf (qo X) 9), (2, rf (qo X) 14), (4, .int x4), (5, .int x5), (6, .int x6)] [] h := by
  intro n
  induction n with
  | zero => intro h x4 x5 x6 hf; exact absurd (show (none : Option (Unit × pH)) = some (v, h') from hf) (fun z => by cases z)
  | succ n ih => intro h x4 x5 x6 hf; exact tX4_followBest_B19 N (fX4_followBest_L19 N n) ih h x4 x5 x6 B hf
def fX4_followBest (N : Nat) (h : pH) (x3 : Int32) : Option (Unit × pH) :=
  fX4_followBest_L19 N N (pw (pw h 30 6 0) 30 7 0) 0 x3 0
set_option maxRecDepth 100000 in
set_option maxHeartbeats 4000000 in
theorem tX4_followBest {X : Xt} {v : Unit} {h' : pH} (N : Nat) (h : pH) (x3 : Int32) (B : Bd (lo X) (qo X) cX4_followBest RX4 8 none 2 47 none h' X) (hf : fX4_followBest N h x3 = some (v, h')) : Wx X 8 0 [(0, rf (qo X) 30), (1, rf (qo X) 9), (2, rf (qo X) 14), (3, .int x3)] [] h := by
  have C := B.1
  unfold fX4_followBest at hf
  refine x_aload_n (i := 0) 0 C dX4_followBest_0 rfl rfl ?_
  refine x_iconst (v := 0) C dX4_followBest_1 (by decide) ?_
  refine x_putI (r := 30) C dX4_followBest_2 kfX4_89 rfl rfl rfl ?_
  refine x_aload_n (i := 0) 0 C dX4_followBest_5 rfl rfl ?_
  refine x_iconst (v := 0) C dX4_followBest_6 (by decide) ?_
  refine x_putI (r := 30) C dX4_followBest_7 kfX4_92 rfl rfl rfl ?_
  refine x_iconst (v := 0) C dX4_followBest_10 (by decide) ?_
  refine x_istore (lv' := [(4, .int 0), (0, rf (qo X) 30), (1, rf (qo X) 9), (2, rf (qo X) 14), (3, .int x3)]) C dX4_followBest_11 (by decide) rfl ?_
  refine x_iload_n (i := 3) 4 C dX4_followBest_13 rfl rfl ?_
  refine x_istore (lv' := [(5, .int x3), (4, .int 0), (0, rf (qo X) 30), (1, rf (qo X) 9), (2, rf (qo X) 14), (3, .int x3)]) C dX4_followBest_14 (by decide) rfl ?_
  refine x_iconst (v := 0) C dX4_followBest_16 (by decide) ?_
  refine x_istore (lv' := [(6, .int 0), (5, .int x3), (4, .int 0), (0, rf (qo X) 30), (1, rf (qo X) 9), (2, rf (qo X) 14), (3, .int x3)]) C dX4_followBest_17 (by decide) rfl ?_
  refine x_lv [3, 4, 5, 2, 1, 0] rfl ?_
  exact tX4_followBest_L19 N  B N (pw (pw h 30 6 0) 30 7 0) 0 x3 0 hf
theorem ctX4_followBest (l : Launch) (q : Nat → Nat) (N : Nat) (h : pH) (x3 : Int32) (v : Unit) (h' : pH) (hf : fX4_followBest N h x3 = some (v, h')) : Ctr l q yX4_followBest cX4_followBest 8 none 2 47 [rf q 30, rf q 9, rf q 14, .int x3] h h' none := by
  refine ct_of (own := RX4) (lv := [(0, rf q 30), (1, rf q 9), (2, rf q 14), (3, .int x3)]) (by decide +kernel) rfl (by simp [lg_sl, rf_cat, cat_i, cat_l]) (by first | rfl | simp [lv_args, rf_cat, cat_i, cat_l]) ?_
  intro X B
  obtain rfl := B.2.1
  obtain rfl := B.2.2.1
  exact tX4_followBest N h x3 B hf
def fX4_make_B22 (N : Nat) (k22 : pH → Int32 → Option (Unit × pH)) (h : pH) (x3 : Int32) : Option (Unit × pH) :=
  if (h.1 30 5) ≤ x3 then ((fX4_findBest N h).bind fun z1 => ((fX0_firstGap N z1.2).bind fun z2 => ((fJ9_max_7cf53 N z2.2 z2.1 0).bind fun z3 => ((fX4_followBest N z3.2 z3.1).bind fun z4 => (some ((), z4.2)))))) else ((fX2_at N h x3).bind fun z5 => ((fX4_weigh N z5.2 z5.1 x3).bind fun z6 => (k22 z6.2 (x3 + 1))))
set_option maxRecDepth 100000 in
set_option maxHeartbeats 4000000 in
theorem tX4_make_B22 {X : Xt} {v : Unit} {h' : pH} (N : Nat) (k22 : pH → Int32 → Option (Unit × pH)) (HK22 : ∀ (h : pH) (x3 : Int32), k22 h x3 = some (v, h') → Wx X 4 22 [(0, rf (qo X) 30), (1, rf (qo X) 9), (2, rf (qo X) 14), (3, .int x3)] [] h) (h : pH) (x3 : Int32) (B : Bd (lo X) (qo X) cX4_make RX4 4 none 3 74 none h' X) (hf : fX4_make_B22 N k22 h x3 = some (v, h')) : Wx X 4 22 [(0, rf (qo X) 30), (1, rf (qo X) 9), (2, rf (qo X) 14), (3, .int x3)] [] h := by
  have C := B.1
  unfold fX4_make_B22 at hf
  refine x_iload_n (i := 3) 3 C dX4_make_22 rfl rfl ?_
  refine x_aload_n (i := 0) 0 C dX4_make_23 rfl rfl ?_
  refine x_getI (r := 30) C dX4_make_24 kfX4_44 rfl ?_
  refine x_icmp_ge (tgt := 47) C dX4_make_27 (by decide) (fun c => ?_) (fun c => ?_)
  · rw [if_pos c] at hf
    refine x_aload_n (i := 0) 0 C dX4_make_47 rfl rfl ?_
    obtain ⟨z1, e1, hf⟩ := bnd hf
    refine x_callV (r := 30) (As := []) (rest := []) C dX4_make_48 kmX4_53 miX4_findBest (ctX4_findBest (lo X) (qo X) N h z1.1 z1.2 e1) rfl rfl ⟨Nat.le_trans (by decide) B.2.2.2.1, Nat.le_trans (by decide) B.2.2.2.2.1⟩ (by simp [cat_i, cat_l, rf_cat]) rfl ?_
    refine x_aload_n (i := 0) 0 C dX4_make_51 rfl rfl ?_
    refine x_aload_n (i := 1) 1 C dX4_make_52 rfl rfl ?_
    refine x_aload_n (i := 2) 2 C dX4_make_53 rfl rfl ?_
    refine x_aload_n (i := 1) 1 C dX4_make_54 rfl rfl ?_
    obtain ⟨z2, e2, hf⟩ := bnd hf
    refine x_callV (r := 9) (As := []) (rest := [rf (qo X) 14, rf (qo X) 9, rf (qo X) 30]) C dX4_make_55 kmX4_56 miX0_firstGap (ctX0_firstGap (lo X) (qo X) N z1.2 z2.1 z2.2 e2) rfl rfl ⟨Nat.le_trans (by decide) B.2.2.2.1, Nat.le_trans (by decide) B.2.2.2.2.1⟩ (by simp [cat_i, cat_l, rf_cat]) rfl ?_
    refine x_iconst (v := 0) C dX4_make_58 (by decide) ?_
    obtain ⟨z3, e3, hf⟩ := bnd hf
    refine x_callS (As := [.int z2.1, .int 0]) (rest := [rf (qo X) 14, rf (qo X) 9, rf (qo X) 30]) C dX4_make_59 kmX4_30 miJ9_max_7cf53 (ctJ9_max_7cf53 (lo X) (qo X) N z2.2 z2.1 0 z3.1 z3.2 e3) rfl rfl ⟨Nat.le_trans (by decide) B.2.2.2.1, Nat.le_trans (by decide) B.2.2.2.2.1⟩ (by simp [cat_i, cat_l, rf_cat]) ?_
    obtain ⟨z4, e4, hf⟩ := bnd hf
    refine x_callV (r := 30) (As := [rf (qo X) 9, rf (qo X) 14, .int z3.1]) (rest := []) C dX4_make_62 kmX4_60 miX4_followBest (ctX4_followBest (lo X) (qo X) N z3.2 z3.1 z4.1 z4.2 e4) rfl rfl ⟨Nat.le_trans (by decide) B.2.2.2.1, Nat.le_trans (by decide) B.2.2.2.2.1⟩ (by simp [cat_i, cat_l, rf_cat]) rfl ?_
    obtain ⟨rfl, rfl⟩ := rtn hf
    exact B.2.2.2.2.2.2.2.2.2 rfl rfl _ _ dX4_make_65
  · rw [if_neg c] at hf
    refine x_aload_n (i := 0) 0 C dX4_make_30 rfl rfl ?_
    refine x_aload_n (i := 1) 1 C dX4_make_31 rfl rfl ?_
    refine x_aload_n (i := 2) 2 C dX4_make_32 rfl rfl ?_
    refine x_iload_n (i := 3) 3 C dX4_make_33 rfl rfl ?_
    obtain ⟨z5, e5, hf⟩ := bnd hf
    refine x_callV (r := 14) (As := [.int x3]) (rest := [rf (qo X) 9, rf (qo X) 30]) C dX4_make_34 kmX4_45 miX2_at (ctX2_at (lo X) (qo X) N h x3 z5.1 z5.2 e5) rfl rfl ⟨Nat.le_trans (by decide) B.2.2.2.1, Nat.le_trans (by decide) B.2.2.2.2.1⟩ (by simp [cat_i, cat_l, rf_cat]) rfl ?_
    refine x_iload_n (i := 3) 3 C dX4_make_37 rfl rfl ?_
    obtain ⟨z6, e6, hf⟩ := bnd hf
    refine x_callV (r := 30) (As := [rf (qo X) 9, rf (qo X) z5.1, .int x3]) (rest := []) C dX4_make_38 kmX4_49 miX4_weigh (ctX4_weigh (lo X) (qo X) N z5.2 z5.1 x3 z6.1 z6.2 e6) rfl rfl ⟨Nat.le_trans (by decide) B.2.2.2.1, Nat.le_trans (by decide) B.2.2.2.2.1⟩ (by simp [cat_i, cat_l, rf_cat]) rfl ?_
    refine x_iinc (v := x3 + 1) (lv' := [(3, .int (x3 + 1)), (0, rf (qo X) 30), (1, rf (qo X) 9), (2, rf (qo X) 14)]) 3 C dX4_make_41 rfl rfl (by decide) rfl ?_
    refine x_goto (tgt := 22) C dX4_make_44 (by decide) ?_
    refine x_lv [1, 2, 3, 0] rfl ?_
    exact HK22 z6.2 (x3 + 1) hf
def fX4_make_L22 (N : Nat) : Nat → pH → Int32 → Option (Unit × pH)
  | 0 => fun _ _ => none
  | n + 1 => fX4_make_B22 N (fX4_make_L22 N n)
theorem tX4_make_L22 {X : Xt} {v : Unit} {h' : pH} (N : Nat) (B : Bd (lo X) (qo X) cX4_make RX4 4 none 3 74 none h' X) : ∀ (n : Nat) (h : pH) (x3 : Int32), fX4_make_L22 N n h x3 = some (v, h') → Wx X 4 22 [(0, rf (qo X) 30), (1, rf (qo X) 9), (2, rf (qo X) 14), (3, .int x3)] [] h := by
  intro n
  induction n with
  | zero => intro h x3 hf; exact absurd (show (none : Option (Unit × pH)) = some (v, h') from hf) (fun z => by cases z)
  | succ n ih => intro h x3 hf; exact tX4_make_B22 N (fX4_make_L22 N n) ih h x3 B hf
def fX4_make (N : Nat) (h : pH)  : Option (Unit × pH) :=
  (fJ9_max_7cf53 N h (h.1 9 3) 1).bind fun z1 => (fX4_make_L22 N N (pw (pw z1.2 30 4 z1.1) 30 5 ((pw z1.2 30 4 z1.1).1 14 1)) 0)
set_option maxRecDepth 100000 in
set_option maxHeartbeats 4000000 in
theorem tX4_make {X : Xt} {v : Unit} {h' : pH} (N : Nat) (h : pH)  (B : Bd (lo X) (qo X) cX4_make RX4 4 none 3 74 none h' X) (hf : fX4_make N h  = some (v, h')) : Wx X 4 0 [(0, rf (qo X) 30), (1, rf (qo X) 9), (2, rf (qo X) 14)] [] h := by
  have C := B.1
  unfold fX4_make at hf
  refine x_aload_n (i := 0) 0 C dX4_make_0 rfl rfl ?_
  refine x_aload_n (i := 1) 1 C dX4_make_1 rfl rfl ?_
  refine x_getI (r := 9) C dX4_make_2 kfX4_24 rfl ?_
  refine x_iconst (v := 1) C dX4_make_5 (by decide) ?_
  obtain ⟨z1, e1, hf⟩ := bnd hf
  refine x_callS (As := [.int (h.1 9 3), .int 1]) (rest := [rf (qo X) 30]) C dX4_make_6 kmX4_30 miJ9_max_7cf53 (ctJ9_max_7cf53 (lo X) (qo X) N h (h.1 9 3) 1 z1.1 z1.2 e1) rfl rfl ⟨Nat.le_trans (by decide) B.2.2.2.1, Nat.le_trans (by decide) B.2.2.2.2.1⟩ (by simp [cat_i, cat_l, rf_cat]) ?_
  refine x_putI (r := 30) C dX4_make_9 kfX4_36 rfl rfl rfl ?_
  refine x_aload_n (i := 0) 0 C dX4_make_12 rfl rfl ?_
  refine x_aload_n (i := 2) 2 C dX4_make_13 rfl rfl ?_
  refine x_getI (r := 14) C dX4_make_14 kfX4_39 rfl ?_
  refine x_putI (r := 30) C dX4_make_17 kfX4_44 rfl rfl rfl ?_
  refine x_iconst (v := 0) C dX4_make_20 (by decide) ?_
  refine x_istore_n (i := 3) (lv' := [(3, .int 0), (0, rf (qo X) 30), (1, rf (qo X) 9), (2, rf (qo X) 14)]) C dX4_make_21 rfl (by decide) rfl ?_
  refine x_lv [1, 2, 3, 0] rfl ?_
  exact tX4_make_L22 N  B N (pw (pw z1.2 30 4 z1.1) 30 5 ((pw z1.2 30 4 z1.1).1 14 1)) 0 hf
theorem ctX4_make (l : Launch) (q : Nat → Nat) (N : Nat) (h : pH)  (v : Unit) (h' : pH) (hf : fX4_make N h  = some (v, h')) : Ctr l q yX4_make cX4_make 4 none 3 74 [rf q 30, rf q 9, rf q 14] h h' none := by
  refine ct_of (own := RX4) (lv := [(0, rf q 30), (1, rf q 9), (2, rf q 14)]) (by decide +kernel) rfl (by simp [lg_sl, rf_cat, cat_i, cat_l]) (by first | rfl | simp [lv_args, rf_cat, cat_i, cat_l]) ?_
  intro X B
  obtain rfl := B.2.1
  obtain rfl := B.2.2.1
  exact tX4_make N h  B hf
def fX4_whoAt_b24 (N : Nat) (h : pH) (xs0 : Int32) : Option (Int32 × pH) :=
  some (xs0, h)
set_option maxRecDepth 100000 in
set_option maxHeartbeats 4000000 in
theorem tX4_whoAt_b24 {X : Xt} {v : Int32} {h' : pH} (N : Nat) (h : pH) (xs0 : Int32) (B : Bd (lo X) (qo X) cX4_whoAt RX4 2 (some .int) 1 22 (some (.int v)) h' X) (hf : fX4_whoAt_b24 N h xs0 = some (v, h')) : Wx X 2 24 [] [.int xs0] h := by
  have C := B.1
  unfold fX4_whoAt_b24 at hf
  obtain ⟨rfl, rfl⟩ := rtn hf
  exact B.2.2.2.2.2.1 _ _ rfl rfl rfl _ _ dX4_whoAt_24
def fX4_whoAt (N : Nat) (h : pH) (x1 : Int32) : Option (Int32 × pH) :=
  (fX8_within N h x1 0 ((h.1 30 5) - 1)).bind fun z1 => (if z1.1 = 0 then (fX4_whoAt_b24 N z1.2 (-1)) else (if ix x1 8 = true then (fX4_whoAt_b24 N z1.2 (z1.2.1 34 x1.toNatClampNeg)) else none))
set_option maxRecDepth 100000 in
set_option maxHeartbeats 4000000 in
theorem tX4_whoAt {X : Xt} {v : Int32} {h' : pH} (N : Nat) (h : pH) (x1 : Int32) (B : Bd (lo X) (qo X) cX4_whoAt RX4 2 (some .int) 1 22 (some (.int v)) h' X) (hf : fX4_whoAt N h x1 = some (v, h')) : Wx X 2 0 [(0, rf (qo X) 30), (1, .int x1)] [] h := by
  have C := B.1
  unfold fX4_whoAt at hf
  refine x_iload_n (i := 1) 1 C dX4_whoAt_0 rfl rfl ?_
  refine x_iconst (v := 0) C dX4_whoAt_1 (by decide) ?_
  refine x_aload_n (i := 0) 0 C dX4_whoAt_2 rfl rfl ?_
  refine x_getI (r := 30) C dX4_whoAt_3 kfX4_44 rfl ?_
  refine x_iconst (v := 1) C dX4_whoAt_6 (by decide) ?_
  refine x_isub C dX4_whoAt_7 ?_
  obtain ⟨z1, e1, hf⟩ := bnd hf
  refine x_callS (As := [.int x1, .int 0, .int ((h.1 30 5) - 1)]) (rest := []) C dX4_whoAt_8 kmX4_64 miX8_within (ctX8_within (lo X) (qo X) N h x1 0 ((h.1 30 5) - 1) z1.1 z1.2 e1) rfl rfl ⟨Nat.le_trans (by decide) B.2.2.2.1, Nat.le_trans (by decide) B.2.2.2.2.1⟩ (by simp [cat_i, cat_l, rf_cat]) ?_
  refine x_if_eq (tgt := 23) C dX4_whoAt_11 (by decide) (fun c => ?_) (fun c => ?_)
  · rw [if_pos c] at hf
    refine x_iconst (v := (-1)) C dX4_whoAt_23 (by decide) ?_
    refine x_lv [] rfl ?_
    exact tX4_whoAt_b24 N z1.2 (-1) B hf
  · rw [if_neg c] at hf
    refine x_aload_n (i := 0) 0 C dX4_whoAt_14 rfl rfl ?_
    refine x_getR (r := 30) (r2 := 34) C dX4_whoAt_15 kfX4_21 rfl rfl (by decide) ?_
    refine x_iload_n (i := 1) 1 C dX4_whoAt_18 rfl rfl ?_
    obtain ⟨g1, hf⟩ := ife hf
    refine x_iald (r := 34) C dX4_whoAt_19 rfl g1 ?_
    refine x_goto (tgt := 24) C dX4_whoAt_20 (by decide) ?_
    refine x_lv [] rfl ?_
    exact tX4_whoAt_b24 N z1.2 (z1.2.1 34 x1.toNatClampNeg) B hf
theorem ctX4_whoAt (l : Launch) (q : Nat → Nat) (N : Nat) (h : pH) (x1 : Int32) (v : Int32) (h' : pH) (hf : fX4_whoAt N h x1 = some (v, h')) : Ctr l q yX4_whoAt cX4_whoAt 2 (some .int) 1 22 [rf q 30, .int x1] h h' (some (.int v)) := by
  refine ct_of (own := RX4) (lv := [(0, rf q 30), (1, .int x1)]) (by decide +kernel) rfl (by simp [lg_sl, rf_cat, cat_i, cat_l]) (by first | rfl | simp [lv_args, rf_cat, cat_i, cat_l]) ?_
  intro X B
  obtain rfl := B.2.1
  obtain rfl := B.2.2.1
  exact tX4_whoAt N h x1 B hf
def fX5_renew_B22 (N : Nat) (k22 : pH → Nat → Int32 → Option (Unit × pH)) (h : pH) (r0 : Nat) (x3 : Int32) : Option (Unit × pH) :=
  if fI 5 3 r0 = true then (if (h.1 r0 3) ≤ x3 then (some ((), h)) else (if isO 5 r0 = true ∧ ¬ fR r0 0 = 0 then (if aK (fR r0 0) = 0 ∧ ix x3 (aN (fR r0 0)) = true then (k22 (pw h (fR r0 0) x3.toNatClampNeg 0) r0 (x3 + 1)) else none) else none)) else none
set_option maxRecDepth 100000 in
set_option maxHeartbeats 4000000 in
theorem tX5_renew_B22 {X : Xt} {v : Unit} {h' : pH} (N : Nat) (k22 : pH → Nat → Int32 → Option (Unit × pH)) (HK22 : ∀ (h : pH) (r0 : Nat) (x3 : Int32), k22 h r0 x3 = some (v, h') → Wx X 4 22 [(0, rf (qo X) r0), (3, .int x3)] [] h) (h : pH) (r0 : Nat) (x3 : Int32) (B : Bd (lo X) (qo X) cX5_renew RX5 4 none 1 21 none h' X) (hf : fX5_renew_B22 N k22 h r0 x3 = some (v, h')) : Wx X 4 22 [(0, rf (qo X) r0), (3, .int x3)] [] h := by
  have C := B.1
  unfold fX5_renew_B22 at hf
  refine x_iload_n (i := 3) 1 C dX5_renew_22 rfl rfl ?_
  refine x_aload_n (i := 0) 0 C dX5_renew_23 rfl rfl ?_
  obtain ⟨g1, hf⟩ := ife hf
  refine x_getI (r := r0) C dX5_renew_24 kfX5_29 g1 ?_
  refine x_icmp_ge (tgt := 43) C dX5_renew_27 (by decide) (fun c => ?_) (fun c => ?_)
  · rw [if_pos c] at hf
    obtain ⟨rfl, rfl⟩ := rtn hf
    exact B.2.2.2.2.2.2.2.2.2 rfl rfl _ _ dX5_renew_43
  · rw [if_neg c] at hf
    refine x_aload_n (i := 0) 0 C dX5_renew_30 rfl rfl ?_
    obtain ⟨g2, hf⟩ := ife hf
    refine x_getR (r := r0) C dX5_renew_31 kfX5_9 g2.1 rfl g2.2 ?_
    refine x_iload_n (i := 3) 1 C dX5_renew_34 rfl rfl ?_
    refine x_iconst (v := 0) C dX5_renew_35 (by decide) ?_
    obtain ⟨g3, hf⟩ := ife hf
    refine x_iast (r := (fR r0 0)) C dX5_renew_36 g3.1 g3.2 ?_
    refine x_iinc (v := x3 + 1) (lv' := [(3, .int (x3 + 1)), (0, rf (qo X) r0)]) 1 C dX5_renew_37 rfl rfl (by decide) rfl ?_
    refine x_goto (tgt := 22) C dX5_renew_40 (by decide) ?_
    refine x_lv [1, 0] rfl ?_
    exact HK22 (pw h (fR r0 0) x3.toNatClampNeg 0) r0 (x3 + 1) hf
def fX5_renew_L22 (N : Nat) : Nat → pH → Nat → Int32 → Option (Unit × pH)
  | 0 => fun _ _ _ => none
  | n + 1 => fX5_renew_B22 N (fX5_renew_L22 N n)
theorem tX5_renew_L22 {X : Xt} {v : Unit} {h' : pH} (N : Nat) (B : Bd (lo X) (qo X) cX5_renew RX5 4 none 1 21 none h' X) : ∀ (n : Nat) (h : pH) (r0 : Nat) (x3 : Int32), fX5_renew_L22 N n h r0 x3 = some (v, h') → Wx X 4 22 [(0, rf (qo X) r0), (3, .int x3)] [] h := by
  intro n
  induction n with
  | zero => intro h r0 x3 hf; exact absurd (show (none : Option (Unit × pH)) = some (v, h') from hf) (fun z => by cases z)
  | succ n ih => intro h r0 x3 hf; exact tX5_renew_B22 N (fX5_renew_L22 N n) ih h r0 x3 B hf
def fX5_renew (N : Nat) (h : pH) (r0 : Nat) (x1 : Int32) (x2 : Int32) : Option (Unit × pH) :=
  if fI 5 1 r0 = true then (if fI 5 2 r0 = true then ((fJ9_min_7cf53 N (pw (pw h r0 1 0) r0 2 x1) x2 60).bind fun z1 => (if fI 5 3 r0 = true then (fX5_renew_L22 N N (pw z1.2 r0 3 z1.1) r0 0) else none)) else none) else none
set_option maxRecDepth 100000 in
set_option maxHeartbeats 4000000 in
theorem tX5_renew {X : Xt} {v : Unit} {h' : pH} (N : Nat) (h : pH) (r0 : Nat) (x1 : Int32) (x2 : Int32) (B : Bd (lo X) (qo X) cX5_renew RX5 4 none 1 21 none h' X) (hf : fX5_renew N h r0 x1 x2 = some (v, h')) : Wx X 4 0 [(0, rf (qo X) r0), (1, .int x1), (2, .int x2)] [] h := by
  have C := B.1
  unfold fX5_renew at hf
  refine x_aload_n (i := 0) 0 C dX5_renew_0 rfl rfl ?_
  refine x_iconst (v := 0) C dX5_renew_1 (by decide) ?_
  obtain ⟨g1, hf⟩ := ife hf
  refine x_putI (r := r0) C dX5_renew_2 kfX5_15 g1 rfl rfl ?_
  refine x_aload_n (i := 0) 0 C dX5_renew_5 rfl rfl ?_
  refine x_iload_n (i := 1) 1 C dX5_renew_6 rfl rfl ?_
  obtain ⟨g2, hf⟩ := ife hf
  refine x_putI (r := r0) C dX5_renew_7 kfX5_19 g2 rfl rfl ?_
  refine x_aload_n (i := 0) 0 C dX5_renew_10 rfl rfl ?_
  refine x_iload_n (i := 2) 2 C dX5_renew_11 rfl rfl ?_
  refine x_bipush (v := 60) C dX5_renew_12 (by decide) ?_
  obtain ⟨z1, e1, hf⟩ := bnd hf
  refine x_callS (As := [.int x2, .int 60]) (rest := [rf (qo X) r0]) C dX5_renew_14 kmX5_23 miJ9_min_7cf53 (ctJ9_min_7cf53 (lo X) (qo X) N (pw (pw h r0 1 0) r0 2 x1) x2 60 z1.1 z1.2 e1) rfl rfl ⟨Nat.le_trans (by decide) B.2.2.2.1, Nat.le_trans (by decide) B.2.2.2.2.1⟩ (by simp [cat_i, cat_l, rf_cat]) ?_
  obtain ⟨g3, hf⟩ := ife hf
  refine x_putI (r := r0) C dX5_renew_17 kfX5_29 g3 rfl rfl ?_
  refine x_iconst (v := 0) C dX5_renew_20 (by decide) ?_
  refine x_istore_n (i := 3) (lv' := [(3, .int 0), (0, rf (qo X) r0), (1, .int x1), (2, .int x2)]) C dX5_renew_21 rfl (by decide) rfl ?_
  refine x_lv [1, 0] rfl ?_
  exact tX5_renew_L22 N  B N (pw z1.2 r0 3 z1.1) r0 0 hf
theorem ctX5_renew (l : Launch) (q : Nat → Nat) (N : Nat) (h : pH) (r0 : Nat) (x1 : Int32) (x2 : Int32) (v : Unit) (h' : pH) (hf : fX5_renew N h r0 x1 x2 = some (v, h')) : Ctr l q yX5_renew cX5_renew 4 none 1 21 [rf q r0, .int x1, .int x2] h h' none := by
  refine ct_of (own := RX5) (lv := [(0, rf q r0), (1, .int x1), (2, .int x2)]) (by decide +kernel) rfl (by simp [lg_sl, rf_cat, cat_i, cat_l]) (by first | rfl | simp [lv_args, rf_cat, cat_i, cat_l]) ?_
  intro X B
  obtain rfl := B.2.1
  obtain rfl := B.2.2.1
  exact tX5_renew N h r0 x1 x2 B hf
def fX5_hasItems_b23 (N : Nat) (h : pH) (xs0 : Int32) : Option (Int32 × pH) :=
  if xs0 = 0 ∨ xs0 = 1 then (some (xs0, h)) else none
set_option maxRecDepth 100000 in
set_option maxHeartbeats 4000000 in
theorem tX5_hasItems_b23 {X : Xt} {v : Int32} {h' : pH} (N : Nat) (h : pH) (xs0 : Int32) (B : Bd (lo X) (qo X) cX5_hasItems RX5 3 (some .boolean) 0 0 (some (.int v)) h' X) (hf : fX5_hasItems_b23 N h xs0 = some (v, h')) : Wx X 3 23 [] [.int xs0] h := by
  have C := B.1
  unfold fX5_hasItems_b23 at hf
  obtain ⟨g1, hf⟩ := ife hf
  obtain ⟨rfl, rfl⟩ := rtn hf
  exact B.2.2.2.2.2.1 _ _ rfl rfl (nrB g1) _ _ dX5_hasItems_23
def fX5_hasItems_b22 (N : Nat) (h : pH)  : Option (Int32 × pH) :=
  fX5_hasItems_b23 N h 0
set_option maxRecDepth 100000 in
set_option maxHeartbeats 4000000 in
theorem tX5_hasItems_b22 {X : Xt} {v : Int32} {h' : pH} (N : Nat) (h : pH)  (B : Bd (lo X) (qo X) cX5_hasItems RX5 3 (some .boolean) 0 0 (some (.int v)) h' X) (hf : fX5_hasItems_b22 N h  = some (v, h')) : Wx X 3 22 [] [] h := by
  have C := B.1
  unfold fX5_hasItems_b22 at hf
  refine x_iconst (v := 0) C dX5_hasItems_22 (by decide) ?_
  exact tX5_hasItems_b23 N h 0 B hf
def fX5_hasItems (N : Nat) (h : pH) (r0 : Nat) (x1 : Int32) (x2 : Int32) : Option (Int32 × pH) :=
  if x1 < 0 then (fX5_hasItems_b22 N h) else (if x2 < 0 then (fX5_hasItems_b22 N h) else (if fI 5 3 r0 = true then (if ((h.1 r0 3) - x2) < x1 then (fX5_hasItems_b22 N h) else (fX5_hasItems_b23 N h 1)) else none))
set_option maxRecDepth 100000 in
set_option maxHeartbeats 4000000 in
theorem tX5_hasItems {X : Xt} {v : Int32} {h' : pH} (N : Nat) (h : pH) (r0 : Nat) (x1 : Int32) (x2 : Int32) (B : Bd (lo X) (qo X) cX5_hasItems RX5 3 (some .boolean) 0 0 (some (.int v)) h' X) (hf : fX5_hasItems N h r0 x1 x2 = some (v, h')) : Wx X 3 0 [(0, rf (qo X) r0), (1, .int x1), (2, .int x2)] [] h := by
  have C := B.1
  unfold fX5_hasItems at hf
  refine x_iload_n (i := 1) 1 C dX5_hasItems_0 rfl rfl ?_
  refine x_if_lt (tgt := 22) C dX5_hasItems_1 (by decide) (fun c => ?_) (fun c => ?_)
  · rw [if_pos c] at hf
    refine x_lv [] rfl ?_
    exact tX5_hasItems_b22 N h B hf
  · rw [if_neg c] at hf
    refine x_iload_n (i := 2) 2 C dX5_hasItems_4 rfl rfl ?_
    refine x_if_lt (tgt := 22) C dX5_hasItems_5 (by decide) (fun c => ?_) (fun c => ?_)
    · rw [if_pos c] at hf
      refine x_lv [] rfl ?_
      exact tX5_hasItems_b22 N h B hf
    · rw [if_neg c] at hf
      refine x_iload_n (i := 1) 1 C dX5_hasItems_8 rfl rfl ?_
      refine x_aload_n (i := 0) 0 C dX5_hasItems_9 rfl rfl ?_
      obtain ⟨g1, hf⟩ := ife hf
      refine x_getI (r := r0) C dX5_hasItems_10 kfX5_29 g1 ?_
      refine x_iload_n (i := 2) 2 C dX5_hasItems_13 rfl rfl ?_
      refine x_isub C dX5_hasItems_14 ?_
      refine x_icmp_gt (tgt := 22) C dX5_hasItems_15 (by decide) (fun c => ?_) (fun c => ?_)
      · rw [if_pos c] at hf
        refine x_lv [] rfl ?_
        exact tX5_hasItems_b22 N h B hf
      · rw [if_neg c] at hf
        refine x_iconst (v := 1) C dX5_hasItems_18 (by decide) ?_
        refine x_goto (tgt := 23) C dX5_hasItems_19 (by decide) ?_
        refine x_lv [] rfl ?_
        exact tX5_hasItems_b23 N h 1 B hf
theorem ctX5_hasItems (l : Launch) (q : Nat → Nat) (N : Nat) (h : pH) (r0 : Nat) (x1 : Int32) (x2 : Int32) (v : Int32) (h' : pH) (hf : fX5_hasItems N h r0 x1 x2 = some (v, h')) : Ctr l q yX5_hasItems cX5_hasItems 3 (some .boolean) 0 0 [rf q r0, .int x1, .int x2] h h' (some (.int v)) := by
  refine ct_of (own := RX5) (lv := [(0, rf q r0), (1, .int x1), (2, .int x2)]) (by decide +kernel) rfl (by simp [lg_sl, rf_cat, cat_i, cat_l]) (by first | rfl | simp [lv_args, rf_cat, cat_i, cat_l]) ?_
  intro X B
  obtain rfl := B.2.1
  obtain rfl := B.2.2.1
  exact tX5_hasItems N h r0 x1 x2 B hf
def fX5_findingAt_b33 (N : Nat) (h : pH) (xs0 : Int32) : Option (Int32 × pH) :=
  some (xs0, h)
set_option maxRecDepth 100000 in
set_option maxHeartbeats 4000000 in
theorem tX5_findingAt_b33 {X : Xt} {v : Int32} {h' : pH} (N : Nat) (h : pH) (xs0 : Int32) (B : Bd (lo X) (qo X) cX5_findingAt RX5 3 (some .int) 1 22 (some (.int v)) h' X) (hf : fX5_findingAt_b33 N h xs0 = some (v, h')) : Wx X 3 33 [] [.int xs0] h := by
  have C := B.1
  unfold fX5_findingAt_b33 at hf
  obtain ⟨rfl, rfl⟩ := rtn hf
  exact B.2.2.2.2.2.1 _ _ rfl rfl rfl _ _ dX5_findingAt_33
def fX5_findingAt (N : Nat) (h : pH) (r0 : Nat) (x1 : Int32) (x2 : Int32) : Option (Int32 × pH) :=
  if fI 5 1 r0 = true then (if (h.1 r0 1) = 0 then (if fI 5 2 r0 = true then (if x1 = (h.1 r0 2) then (if isO 5 r0 = true then ((fX5_hasItems N h r0 x2 1).bind fun z1 => (if z1.1 = 0 then (fX5_findingAt_b33 N z1.2 2) else (fX5_findingAt_b33 N z1.2 0))) else none) else (some (3, h))) else none) else (some (1, h))) else none
set_option maxRecDepth 100000 in
set_option maxHeartbeats 4000000 in
theorem tX5_findingAt {X : Xt} {v : Int32} {h' : pH} (N : Nat) (h : pH) (r0 : Nat) (x1 : Int32) (x2 : Int32) (B : Bd (lo X) (qo X) cX5_findingAt RX5 3 (some .int) 1 22 (some (.int v)) h' X) (hf : fX5_findingAt N h r0 x1 x2 = some (v, h')) : Wx X 3 0 [(0, rf (qo X) r0), (1, .int x1), (2, .int x2)] [] h := by
  have C := B.1
  unfold fX5_findingAt at hf
  refine x_aload_n (i := 0) 0 C dX5_findingAt_0 rfl rfl ?_
  obtain ⟨g1, hf⟩ := ife hf
  refine x_getI (r := r0) C dX5_findingAt_1 kfX5_15 g1 ?_
  refine x_if_eq (tgt := 9) C dX5_findingAt_4 (by decide) (fun c => ?_) (fun c => ?_)
  · rw [if_pos c] at hf
    refine x_iload_n (i := 1) 1 C dX5_findingAt_9 rfl rfl ?_
    refine x_aload_n (i := 0) 0 C dX5_findingAt_10 rfl rfl ?_
    obtain ⟨g2, hf⟩ := ife hf
    refine x_getI (r := r0) C dX5_findingAt_11 kfX5_19 g2 ?_
    refine x_icmp_eq (tgt := 19) C dX5_findingAt_14 (by decide) (fun c => ?_) (fun c => ?_)
    · rw [if_pos c] at hf
      refine x_aload_n (i := 0) 0 C dX5_findingAt_19 rfl rfl ?_
      refine x_iload_n (i := 2) 2 C dX5_findingAt_20 rfl rfl ?_
      refine x_iconst (v := 1) C dX5_findingAt_21 (by decide) ?_
      obtain ⟨g3, hf⟩ := ife hf
      obtain ⟨z1, e1, hf⟩ := bnd hf
      refine x_callV (r := r0) (As := [.int x2, .int 1]) (rest := []) C dX5_findingAt_22 kmX5_32 miX5_hasItems (ctX5_hasItems (lo X) (qo X) N h r0 x2 1 z1.1 z1.2 e1) rfl rfl ⟨Nat.le_trans (by decide) B.2.2.2.1, Nat.le_trans (by decide) B.2.2.2.2.1⟩ (by simp [cat_i, cat_l, rf_cat]) g3 ?_
      refine x_if_eq (tgt := 32) C dX5_findingAt_25 (by decide) (fun c => ?_) (fun c => ?_)
      · rw [if_pos c] at hf
        refine x_iconst (v := 2) C dX5_findingAt_32 (by decide) ?_
        refine x_lv [] rfl ?_
        exact tX5_findingAt_b33 N z1.2 2 B hf
      · rw [if_neg c] at hf
        refine x_iconst (v := 0) C dX5_findingAt_28 (by decide) ?_
        refine x_goto (tgt := 33) C dX5_findingAt_29 (by decide) ?_
        refine x_lv [] rfl ?_
        exact tX5_findingAt_b33 N z1.2 0 B hf
    · rw [if_neg c] at hf
      refine x_iconst (v := 3) C dX5_findingAt_17 (by decide) ?_
      obtain ⟨rfl, rfl⟩ := rtn hf
      exact B.2.2.2.2.2.1 _ _ rfl rfl rfl _ _ dX5_findingAt_18
  · rw [if_neg c] at hf
    refine x_iconst (v := 1) C dX5_findingAt_7 (by decide) ?_
    obtain ⟨rfl, rfl⟩ := rtn hf
    exact B.2.2.2.2.2.1 _ _ rfl rfl rfl _ _ dX5_findingAt_8
theorem ctX5_findingAt (l : Launch) (q : Nat → Nat) (N : Nat) (h : pH) (r0 : Nat) (x1 : Int32) (x2 : Int32) (v : Int32) (h' : pH) (hf : fX5_findingAt N h r0 x1 x2 = some (v, h')) : Ctr l q yX5_findingAt cX5_findingAt 3 (some .int) 1 22 [rf q r0, .int x1, .int x2] h h' (some (.int v)) := by
  refine ct_of (own := RX5) (lv := [(0, rf q r0), (1, .int x1), (2, .int x2)]) (by decide +kernel) rfl (by simp [lg_sl, rf_cat, cat_i, cat_l]) (by first | rfl | simp [lv_args, rf_cat, cat_i, cat_l]) ?_
  intro X B
  obtain rfl := B.2.1
  obtain rfl := B.2.2.1
  exact tX5_findingAt N h r0 x1 x2 B hf
def fX5_itemAt_b19 (N : Nat) (h : pH) (xs0 : Int32) : Option (Int32 × pH) :=
  some (xs0, h)
set_option maxRecDepth 100000 in
set_option maxHeartbeats 4000000 in
theorem tX5_itemAt_b19 {X : Xt} {v : Int32} {h' : pH} (N : Nat) (h : pH) (xs0 : Int32) (B : Bd (lo X) (qo X) cX5_itemAt RX5 2 (some .int) 1 22 (some (.int v)) h' X) (hf : fX5_itemAt_b19 N h xs0 = some (v, h')) : Wx X 2 19 [] [.int xs0] h := by
  have C := B.1
  unfold fX5_itemAt_b19 at hf
  obtain ⟨rfl, rfl⟩ := rtn hf
  exact B.2.2.2.2.2.1 _ _ rfl rfl rfl _ _ dX5_itemAt_19
def fX5_itemAt (N : Nat) (h : pH) (r0 : Nat) (x1 : Int32) : Option (Int32 × pH) :=
  if isO 5 r0 = true then ((fX5_hasItems N h r0 x1 1).bind fun z1 => (if z1.1 = 0 then (fX5_itemAt_b19 N z1.2 0) else (if isO 5 r0 = true ∧ ¬ fR r0 0 = 0 then (if aK (fR r0 0) = 0 ∧ ix x1 (aN (fR r0 0)) = true then (fX5_itemAt_b19 N z1.2 (z1.2.1 (fR r0 0) x1.toNatClampNeg)) else none) else none))) else none
set_option maxRecDepth 100000 in
set_option maxHeartbeats 4000000 in
theorem tX5_itemAt {X : Xt} {v : Int32} {h' : pH} (N : Nat) (h : pH) (r0 : Nat) (x1 : Int32) (B : Bd (lo X) (qo X) cX5_itemAt RX5 2 (some .int) 1 22 (some (.int v)) h' X) (hf : fX5_itemAt N h r0 x1 = some (v, h')) : Wx X 2 0 [(0, rf (qo X) r0), (1, .int x1)] [] h := by
  have C := B.1
  unfold fX5_itemAt at hf
  refine x_aload_n (i := 0) 0 C dX5_itemAt_0 rfl rfl ?_
  refine x_iload_n (i := 1) 1 C dX5_itemAt_1 rfl rfl ?_
  refine x_iconst (v := 1) C dX5_itemAt_2 (by decide) ?_
  obtain ⟨g1, hf⟩ := ife hf
  obtain ⟨z1, e1, hf⟩ := bnd hf
  refine x_callV (r := r0) (As := [.int x1, .int 1]) (rest := []) C dX5_itemAt_3 kmX5_32 miX5_hasItems (ctX5_hasItems (lo X) (qo X) N h r0 x1 1 z1.1 z1.2 e1) rfl rfl ⟨Nat.le_trans (by decide) B.2.2.2.1, Nat.le_trans (by decide) B.2.2.2.2.1⟩ (by simp [cat_i, cat_l, rf_cat]) g1 ?_
  refine x_if_eq (tgt := 18) C dX5_itemAt_6 (by decide) (fun c => ?_) (fun c => ?_)
  · rw [if_pos c] at hf
    refine x_iconst (v := 0) C dX5_itemAt_18 (by decide) ?_
    refine x_lv [] rfl ?_
    exact tX5_itemAt_b19 N z1.2 0 B hf
  · rw [if_neg c] at hf
    refine x_aload_n (i := 0) 0 C dX5_itemAt_9 rfl rfl ?_
    obtain ⟨g2, hf⟩ := ife hf
    refine x_getR (r := r0) C dX5_itemAt_10 kfX5_9 g2.1 rfl g2.2 ?_
    refine x_iload_n (i := 1) 1 C dX5_itemAt_13 rfl rfl ?_
    obtain ⟨g3, hf⟩ := ife hf
    refine x_iald (r := (fR r0 0)) C dX5_itemAt_14 g3.1 g3.2 ?_
    refine x_goto (tgt := 19) C dX5_itemAt_15 (by decide) ?_
    refine x_lv [] rfl ?_
    exact tX5_itemAt_b19 N z1.2 (z1.2.1 (fR r0 0) x1.toNatClampNeg) B hf
theorem ctX5_itemAt (l : Launch) (q : Nat → Nat) (N : Nat) (h : pH) (r0 : Nat) (x1 : Int32) (v : Int32) (h' : pH) (hf : fX5_itemAt N h r0 x1 = some (v, h')) : Ctr l q yX5_itemAt cX5_itemAt 2 (some .int) 1 22 [rf q r0, .int x1] h h' (some (.int v)) := by
  refine ct_of (own := RX5) (lv := [(0, rf q r0), (1, .int x1)]) (by decide +kernel) rfl (by simp [lg_sl, rf_cat, cat_i, cat_l]) (by first | rfl | simp [lv_args, rf_cat, cat_i, cat_l]) ?_
  intro X B
  obtain rfl := B.2.1
  obtain rfl := B.2.2.1
  exact tX5_itemAt N h r0 x1 B hf
def fX5_lowestBits_b24 (N : Nat) (h : pH) (xs0 : Int32) : Option (Int32 × pH) :=
  some (xs0, h)
set_option maxRecDepth 100000 in
set_option maxHeartbeats 4000000 in
theorem tX5_lowestBits_b24 {X : Xt} {v : Int32} {h' : pH} (N : Nat) (h : pH) (xs0 : Int32) (B : Bd (lo X) (qo X) cX5_lowestBits RX5 2 (some .int) 0 0 (some (.int v)) h' X) (hf : fX5_lowestBits_b24 N h xs0 = some (v, h')) : Wx X 2 24 [] [.int xs0] h := by
  have C := B.1
  unfold fX5_lowestBits_b24 at hf
  obtain ⟨rfl, rfl⟩ := rtn hf
  exact B.2.2.2.2.2.1 _ _ rfl rfl rfl _ _ dX5_lowestBits_24
def fX5_lowestBits (N : Nat) (h : pH) (r0 : Nat) (x1 : Int32) : Option (Int32 × pH) :=
  if fI 5 2 r0 = true then (if (h.1 r0 2) = 0 then (some (x1.toInt8.toInt32, h)) else (if fI 5 2 r0 = true then (if (h.1 r0 2) = 1 then (fX5_lowestBits_b24 N h x1.toInt16.toInt32) else (fX5_lowestBits_b24 N h x1)) else none)) else none
set_option maxRecDepth 100000 in
set_option maxHeartbeats 4000000 in
theorem tX5_lowestBits {X : Xt} {v : Int32} {h' : pH} (N : Nat) (h : pH) (r0 : Nat) (x1 : Int32) (B : Bd (lo X) (qo X) cX5_lowestBits RX5 2 (some .int) 0 0 (some (.int v)) h' X) (hf : fX5_lowestBits N h r0 x1 = some (v, h')) : Wx X 2 0 [(0, rf (qo X) r0), (1, .int x1)] [] h := by
  have C := B.1
  unfold fX5_lowestBits at hf
  refine x_aload_n (i := 0) 0 C dX5_lowestBits_0 rfl rfl ?_
  obtain ⟨g1, hf⟩ := ife hf
  refine x_getI (r := r0) C dX5_lowestBits_1 kfX5_19 g1 ?_
  refine x_if_ne (tgt := 10) C dX5_lowestBits_4 (by decide) (fun c => ?_) (fun c => ?_)
  · rw [if_neg c] at hf
    refine x_aload_n (i := 0) 0 C dX5_lowestBits_10 rfl rfl ?_
    obtain ⟨g2, hf⟩ := ife hf
    refine x_getI (r := r0) C dX5_lowestBits_11 kfX5_19 g2 ?_
    refine x_iconst (v := 1) C dX5_lowestBits_14 (by decide) ?_
    refine x_icmp_ne (tgt := 23) C dX5_lowestBits_15 (by decide) (fun c => ?_) (fun c => ?_)
    · rw [if_neg c] at hf
      refine x_iload_n (i := 1) 1 C dX5_lowestBits_23 rfl rfl ?_
      refine x_lv [] rfl ?_
      exact tX5_lowestBits_b24 N h x1 B hf
    · rw [if_pos c] at hf
      refine x_iload_n (i := 1) 1 C dX5_lowestBits_18 rfl rfl ?_
      refine x_i2s C dX5_lowestBits_19 ?_
      refine x_goto (tgt := 24) C dX5_lowestBits_20 (by decide) ?_
      refine x_lv [] rfl ?_
      exact tX5_lowestBits_b24 N h x1.toInt16.toInt32 B hf
  · rw [if_pos c] at hf
    refine x_iload_n (i := 1) 1 C dX5_lowestBits_7 rfl rfl ?_
    refine x_i2b C dX5_lowestBits_8 ?_
    obtain ⟨rfl, rfl⟩ := rtn hf
    exact B.2.2.2.2.2.1 _ _ rfl rfl rfl _ _ dX5_lowestBits_9
theorem ctX5_lowestBits (l : Launch) (q : Nat → Nat) (N : Nat) (h : pH) (r0 : Nat) (x1 : Int32) (v : Int32) (h' : pH) (hf : fX5_lowestBits N h r0 x1 = some (v, h')) : Ctr l q yX5_lowestBits cX5_lowestBits 2 (some .int) 0 0 [rf q r0, .int x1] h h' (some (.int v)) := by
  refine ct_of (own := RX5) (lv := [(0, rf q r0), (1, .int x1)]) (by decide +kernel) rfl (by simp [lg_sl, rf_cat, cat_i, cat_l]) (by first | rfl | simp [lv_args, rf_cat, cat_i, cat_l]) ?_
  intro X B
  obtain rfl := B.2.1
  obtain rfl := B.2.2.1
  exact tX5_lowestBits N h r0 x1 B hf
