def fX9_in_b18 (N : Nat) (h : pH) (xs0 : Int32) : Option (Int32 × pH) :=
  if xs0 = 0 ∨ xs0 = 1 then (some (xs0, h)) else none
set_option maxRecDepth 100000 in
set_option maxHeartbeats 4000000 in
theorem tX9_in_b18 {X : Xt} {v : Int32} {h' : pH} (N : Nat) (h : pH) (xs0 : Int32) (B : Bd (lo X) (qo X) cX9_in RX9 6 (some .boolean) 0 0 (some (.int v)) h' X) (hf : fX9_in_b18 N h xs0 = some (v, h')) : Wx X 6 18 [] [.int xs0] h := by
  have C := B.1
  unfold fX9_in_b18 at hf
  obtain ⟨g1, hf⟩ := ife hf
  obtain ⟨rfl, rfl⟩ := rtn hf
  exact B.2.2.2.2.2.1 _ _ rfl rfl (nrB g1) _ _ dX9_in_18
def fX9_in_b17 (N : Nat) (h : pH)  : Option (Int32 × pH) :=
  fX9_in_b18 N h 0
set_option maxRecDepth 100000 in
set_option maxHeartbeats 4000000 in
theorem tX9_in_b17 {X : Xt} {v : Int32} {h' : pH} (N : Nat) (h : pH)  (B : Bd (lo X) (qo X) cX9_in RX9 6 (some .boolean) 0 0 (some (.int v)) h' X) (hf : fX9_in_b17 N h  = some (v, h')) : Wx X 6 17 [] [] h := by
  have C := B.1
  unfold fX9_in_b17 at hf
  refine x_iconst (v := 0) C dX9_in_17 (by decide) ?_
  exact tX9_in_b18 N h 0 B hf
def fX9_in (N : Nat) (h : pH) (l0 : Int64) (l2 : Int64) (l4 : Int64) : Option (Int32 × pH) :=
  if (lg_cmp l0 l2) < 0 then (fX9_in_b17 N h) else (if 0 < (lg_cmp l0 l4) then (fX9_in_b17 N h) else (fX9_in_b18 N h 1))
set_option maxRecDepth 100000 in
set_option maxHeartbeats 4000000 in
theorem tX9_in {X : Xt} {v : Int32} {h' : pH} (N : Nat) (h : pH) (l0 : Int64) (l2 : Int64) (l4 : Int64) (B : Bd (lo X) (qo X) cX9_in RX9 6 (some .boolean) 0 0 (some (.int v)) h' X) (hf : fX9_in N h l0 l2 l4 = some (v, h')) : Wx X 6 0 [(0, .long l0), (2, .long l2), (4, .long l4)] [] h := by
  have C := B.1
  unfold fX9_in at hf
  refine x_lload_n (i := 0) 0 C dX9_in_0 rfl rfl ?_
  refine x_lload_n (i := 2) 1 C dX9_in_1 rfl rfl ?_
  refine x_lcmp C dX9_in_2 ?_
  refine x_if_lt (tgt := 17) C dX9_in_3 (by decide) (fun c => ?_) (fun c => ?_)
  · rw [if_pos c] at hf
    refine x_lv [] rfl ?_
    exact tX9_in_b17 N h B hf
  · rw [if_neg c] at hf
    refine x_lload_n (i := 0) 0 C dX9_in_6 rfl rfl ?_
    refine x_lload 2 C dX9_in_7 rfl ?_
    refine x_lcmp C dX9_in_9 ?_
    refine x_if_gt (tgt := 17) C dX9_in_10 (by decide) (fun c => ?_) (fun c => ?_)
    · rw [if_pos c] at hf
      refine x_lv [] rfl ?_
      exact tX9_in_b17 N h B hf
    · rw [if_neg c] at hf
      refine x_iconst (v := 1) C dX9_in_13 (by decide) ?_
      refine x_goto (tgt := 18) C dX9_in_14 (by decide) ?_
      refine x_lv [] rfl ?_
      exact tX9_in_b18 N h 1 B hf
theorem ctX9_in (l : Launch) (q : Nat → Nat) (N : Nat) (h : pH) (l0 : Int64) (l2 : Int64) (l4 : Int64) (v : Int32) (h' : pH) (hf : fX9_in N h l0 l2 l4 = some (v, h')) : Ctr l q yX9_in cX9_in 6 (some .boolean) 0 0 [.long l0, .long l2, .long l4] h h' (some (.int v)) := by
  refine ct_of (own := RX9) (lv := [(0, .long l0), (2, .long l2), (4, .long l4)]) (by decide +kernel) rfl (by simp [lg_sl, rf_cat, cat_i, cat_l]) (by first | rfl | simp [lv_args, rf_cat, cat_i, cat_l]) ?_
  intro X B
  obtain rfl := B.2.1
  obtain rfl := B.2.2.1
  exact tX9_in N h l0 l2 l4 B hf
def fX9_no (N : Nat) (h : pH) (x0 : Int32) : Option (Int64 × pH) :=
  some ((-9223372036854775808) - x0.toInt64, h)
set_option maxRecDepth 100000 in
set_option maxHeartbeats 4000000 in
theorem tX9_no {X : Xt} {v : Int64} {h' : pH} (N : Nat) (h : pH) (x0 : Int32) (B : Bd (lo X) (qo X) cX9_no RX9 1 (some .long) 0 0 (some (.long v)) h' X) (hf : fX9_no N h x0 = some (v, h')) : Wx X 1 0 [(0, .int x0)] [] h := by
  have C := B.1
  unfold fX9_no at hf
  refine x_ldc2 (v := (-9223372036854775808)) C dX9_no_0 kkX9_67 ?_
  refine x_iload_n (i := 0) 0 C dX9_no_3 rfl rfl ?_
  refine x_i2l C dX9_no_4 ?_
  refine x_lsub C dX9_no_5 ?_
  obtain ⟨rfl, rfl⟩ := rtn hf
  exact B.2.2.2.2.2.2.1 _ rfl rfl _ _ dX9_no_6
theorem ctX9_no (l : Launch) (q : Nat → Nat) (N : Nat) (h : pH) (x0 : Int32) (v : Int64) (h' : pH) (hf : fX9_no N h x0 = some (v, h')) : Ctr l q yX9_no cX9_no 1 (some .long) 0 0 [.int x0] h h' (some (.long v)) := by
  refine ct_of (own := RX9) (lv := [(0, .int x0)]) (by decide +kernel) rfl (by simp [lg_sl, rf_cat, cat_i, cat_l]) (by first | rfl | simp [lv_args, rf_cat, cat_i, cat_l]) ?_
  intro X B
  obtain rfl := B.2.1
  obtain rfl := B.2.2.1
  exact tX9_no N h x0 B hf
def fX9_isTwo (N : Nat) (h : pH) (x0 : Int32) : Option (Int32 × pH) :=
  (fX9_in N h x0.toInt64 0 1).bind fun z1 => (if z1.1 = 0 ∨ z1.1 = 1 then (some (z1.1, z1.2)) else none)
set_option maxRecDepth 100000 in
set_option maxHeartbeats 4000000 in
theorem tX9_isTwo {X : Xt} {v : Int32} {h' : pH} (N : Nat) (h : pH) (x0 : Int32) (B : Bd (lo X) (qo X) cX9_isTwo RX9 1 (some .boolean) 1 25 (some (.int v)) h' X) (hf : fX9_isTwo N h x0 = some (v, h')) : Wx X 1 0 [(0, .int x0)] [] h := by
  have C := B.1
  unfold fX9_isTwo at hf
  refine x_iload_n (i := 0) 0 C dX9_isTwo_0 rfl rfl ?_
  refine x_i2l C dX9_isTwo_1 ?_
  refine x_lconst (v := 0) C dX9_isTwo_2 (by decide) ?_
  refine x_lconst (v := 1) C dX9_isTwo_3 (by decide) ?_
  obtain ⟨z1, e1, hf⟩ := bnd hf
  refine x_callS (As := [.long x0.toInt64, .long 0, .long 1]) (rest := []) C dX9_isTwo_4 kmX9_69 miX9_in (ctX9_in (lo X) (qo X) N h x0.toInt64 0 1 z1.1 z1.2 e1) rfl rfl ⟨Nat.le_trans (by decide) B.2.2.2.1, Nat.le_trans (by decide) B.2.2.2.2.1⟩ (by simp [cat_i, cat_l, rf_cat]) ?_
  obtain ⟨g1, hf⟩ := ife hf
  obtain ⟨rfl, rfl⟩ := rtn hf
  exact B.2.2.2.2.2.1 _ _ rfl rfl (nrB g1) _ _ dX9_isTwo_7
theorem ctX9_isTwo (l : Launch) (q : Nat → Nat) (N : Nat) (h : pH) (x0 : Int32) (v : Int32) (h' : pH) (hf : fX9_isTwo N h x0 = some (v, h')) : Ctr l q yX9_isTwo cX9_isTwo 1 (some .boolean) 1 25 [.int x0] h h' (some (.int v)) := by
  refine ct_of (own := RX9) (lv := [(0, .int x0)]) (by decide +kernel) rfl (by simp [lg_sl, rf_cat, cat_i, cat_l]) (by first | rfl | simp [lv_args, rf_cat, cat_i, cat_l]) ?_
  intro X B
  obtain rfl := B.2.1
  obtain rfl := B.2.2.1
  exact tX9_isTwo N h x0 B hf
def fX9_isIn_b14 (N : Nat) (h : pH) (xs0 : Int32) : Option (Int32 × pH) :=
  if xs0 = 0 ∨ xs0 = 1 then (some (xs0, h)) else none
set_option maxRecDepth 100000 in
set_option maxHeartbeats 4000000 in
theorem tX9_isIn_b14 {X : Xt} {v : Int32} {h' : pH} (N : Nat) (h : pH) (xs0 : Int32) (B : Bd (lo X) (qo X) cX9_isIn RX9 2 (some .boolean) 0 0 (some (.int v)) h' X) (hf : fX9_isIn_b14 N h xs0 = some (v, h')) : Wx X 2 14 [] [.int xs0] h := by
  have C := B.1
  unfold fX9_isIn_b14 at hf
  obtain ⟨g1, hf⟩ := ife hf
  obtain ⟨rfl, rfl⟩ := rtn hf
  exact B.2.2.2.2.2.1 _ _ rfl rfl (nrB g1) _ _ dX9_isIn_14
def fX9_isIn (N : Nat) (h : pH) (x0 : Int32) (x1 : Int32) : Option (Int32 × pH) :=
  if ((x0 >>> (x1 &&& 31)) &&& 1) = 1 then (fX9_isIn_b14 N h 1) else (fX9_isIn_b14 N h 0)
set_option maxRecDepth 100000 in
set_option maxHeartbeats 4000000 in
theorem tX9_isIn {X : Xt} {v : Int32} {h' : pH} (N : Nat) (h : pH) (x0 : Int32) (x1 : Int32) (B : Bd (lo X) (qo X) cX9_isIn RX9 2 (some .boolean) 0 0 (some (.int v)) h' X) (hf : fX9_isIn N h x0 x1 = some (v, h')) : Wx X 2 0 [(0, .int x0), (1, .int x1)] [] h := by
  have C := B.1
  unfold fX9_isIn at hf
  refine x_iload_n (i := 0) 0 C dX9_isIn_0 rfl rfl ?_
  refine x_iload_n (i := 1) 1 C dX9_isIn_1 rfl rfl ?_
  refine x_ishr C dX9_isIn_2 ?_
  refine x_iconst (v := 1) C dX9_isIn_3 (by decide) ?_
  refine x_iand C dX9_isIn_4 ?_
  refine x_iconst (v := 1) C dX9_isIn_5 (by decide) ?_
  refine x_icmp_ne (tgt := 13) C dX9_isIn_6 (by decide) (fun c => ?_) (fun c => ?_)
  · rw [if_neg c] at hf
    refine x_iconst (v := 0) C dX9_isIn_13 (by decide) ?_
    refine x_lv [] rfl ?_
    exact tX9_isIn_b14 N h 0 B hf
  · rw [if_pos c] at hf
    refine x_iconst (v := 1) C dX9_isIn_9 (by decide) ?_
    refine x_goto (tgt := 14) C dX9_isIn_10 (by decide) ?_
    refine x_lv [] rfl ?_
    exact tX9_isIn_b14 N h 1 B hf
theorem ctX9_isIn (l : Launch) (q : Nat → Nat) (N : Nat) (h : pH) (x0 : Int32) (x1 : Int32) (v : Int32) (h' : pH) (hf : fX9_isIn N h x0 x1 = some (v, h')) : Ctr l q yX9_isIn cX9_isIn 2 (some .boolean) 0 0 [.int x0, .int x1] h h' (some (.int v)) := by
  refine ct_of (own := RX9) (lv := [(0, .int x0), (1, .int x1)]) (by decide +kernel) rfl (by simp [lg_sl, rf_cat, cat_i, cat_l]) (by first | rfl | simp [lv_args, rf_cat, cat_i, cat_l]) ?_
  intro X B
  obtain rfl := B.2.1
  obtain rfl := B.2.2.1
  exact tX9_isIn N h x0 x1 B hf
def fX9_lesser_b10 (N : Nat) (h : pH) (xs0 : Int32) : Option (Int32 × pH) :=
  some (xs0, h)
set_option maxRecDepth 100000 in
set_option maxHeartbeats 4000000 in
theorem tX9_lesser_b10 {X : Xt} {v : Int32} {h' : pH} (N : Nat) (h : pH) (xs0 : Int32) (B : Bd (lo X) (qo X) cX9_lesser RX9 2 (some .int) 0 0 (some (.int v)) h' X) (hf : fX9_lesser_b10 N h xs0 = some (v, h')) : Wx X 2 10 [] [.int xs0] h := by
  have C := B.1
  unfold fX9_lesser_b10 at hf
  obtain ⟨rfl, rfl⟩ := rtn hf
  exact B.2.2.2.2.2.1 _ _ rfl rfl rfl _ _ dX9_lesser_10
def fX9_lesser (N : Nat) (h : pH) (x0 : Int32) (x1 : Int32) : Option (Int32 × pH) :=
  if x1 ≤ x0 then (fX9_lesser_b10 N h x1) else (fX9_lesser_b10 N h x0)
set_option maxRecDepth 100000 in
set_option maxHeartbeats 4000000 in
theorem tX9_lesser {X : Xt} {v : Int32} {h' : pH} (N : Nat) (h : pH) (x0 : Int32) (x1 : Int32) (B : Bd (lo X) (qo X) cX9_lesser RX9 2 (some .int) 0 0 (some (.int v)) h' X) (hf : fX9_lesser N h x0 x1 = some (v, h')) : Wx X 2 0 [(0, .int x0), (1, .int x1)] [] h := by
  have C := B.1
  unfold fX9_lesser at hf
  refine x_iload_n (i := 0) 0 C dX9_lesser_0 rfl rfl ?_
  refine x_iload_n (i := 1) 1 C dX9_lesser_1 rfl rfl ?_
  refine x_icmp_ge (tgt := 9) C dX9_lesser_2 (by decide) (fun c => ?_) (fun c => ?_)
  · rw [if_pos c] at hf
    refine x_iload_n (i := 1) 1 C dX9_lesser_9 rfl rfl ?_
    refine x_lv [] rfl ?_
    exact tX9_lesser_b10 N h x1 B hf
  · rw [if_neg c] at hf
    refine x_iload_n (i := 0) 0 C dX9_lesser_5 rfl rfl ?_
    refine x_goto (tgt := 10) C dX9_lesser_6 (by decide) ?_
    refine x_lv [] rfl ?_
    exact tX9_lesser_b10 N h x0 B hf
theorem ctX9_lesser (l : Launch) (q : Nat → Nat) (N : Nat) (h : pH) (x0 : Int32) (x1 : Int32) (v : Int32) (h' : pH) (hf : fX9_lesser N h x0 x1 = some (v, h')) : Ctr l q yX9_lesser cX9_lesser 2 (some .int) 0 0 [.int x0, .int x1] h h' (some (.int v)) := by
  refine ct_of (own := RX9) (lv := [(0, .int x0), (1, .int x1)]) (by decide +kernel) rfl (by simp [lg_sl, rf_cat, cat_i, cat_l]) (by first | rfl | simp [lv_args, rf_cat, cat_i, cat_l]) ?_
  intro X B
  obtain rfl := B.2.1
  obtain rfl := B.2.2.1
  exact tX9_lesser N h x0 x1 B hf
def fX9_greater_b10 (N : Nat) (h : pH) (xs0 : Int32) : Option (Int32 × pH) :=
  some (xs0, h)
set_option maxRecDepth 100000 in
set_option maxHeartbeats 4000000 in
theorem tX9_greater_b10 {X : Xt} {v : Int32} {h' : pH} (N : Nat) (h : pH) (xs0 : Int32) (B : Bd (lo X) (qo X) cX9_greater RX9 2 (some .int) 0 0 (some (.int v)) h' X) (hf : fX9_greater_b10 N h xs0 = some (v, h')) : Wx X 2 10 [] [.int xs0] h := by
  have C := B.1
  unfold fX9_greater_b10 at hf
  obtain ⟨rfl, rfl⟩ := rtn hf
  exact B.2.2.2.2.2.1 _ _ rfl rfl rfl _ _ dX9_greater_10
def fX9_greater (N : Nat) (h : pH) (x0 : Int32) (x1 : Int32) : Option (Int32 × pH) :=
  if x0 ≤ x1 then (fX9_greater_b10 N h x1) else (fX9_greater_b10 N h x0)
set_option maxRecDepth 100000 in
set_option maxHeartbeats 4000000 in
theorem tX9_greater {X : Xt} {v : Int32} {h' : pH} (N : Nat) (h : pH) (x0 : Int32) (x1 : Int32) (B : Bd (lo X) (qo X) cX9_greater RX9 2 (some .int) 0 0 (some (.int v)) h' X) (hf : fX9_greater N h x0 x1 = some (v, h')) : Wx X 2 0 [(0, .int x0), (1, .int x1)] [] h := by
  have C := B.1
  unfold fX9_greater at hf
  refine x_iload_n (i := 0) 0 C dX9_greater_0 rfl rfl ?_
  refine x_iload_n (i := 1) 1 C dX9_greater_1 rfl rfl ?_
  refine x_icmp_le (tgt := 9) C dX9_greater_2 (by decide) (fun c => ?_) (fun c => ?_)
  · rw [if_pos c] at hf
    refine x_iload_n (i := 1) 1 C dX9_greater_9 rfl rfl ?_
    refine x_lv [] rfl ?_
    exact tX9_greater_b10 N h x1 B hf
  · rw [if_neg c] at hf
    refine x_iload_n (i := 0) 0 C dX9_greater_5 rfl rfl ?_
    refine x_goto (tgt := 10) C dX9_greater_6 (by decide) ?_
    refine x_lv [] rfl ?_
    exact tX9_greater_b10 N h x0 B hf
theorem ctX9_greater (l : Launch) (q : Nat → Nat) (N : Nat) (h : pH) (x0 : Int32) (x1 : Int32) (v : Int32) (h' : pH) (hf : fX9_greater N h x0 x1 = some (v, h')) : Ctr l q yX9_greater cX9_greater 2 (some .int) 0 0 [.int x0, .int x1] h h' (some (.int v)) := by
  refine ct_of (own := RX9) (lv := [(0, .int x0), (1, .int x1)]) (by decide +kernel) rfl (by simp [lg_sl, rf_cat, cat_i, cat_l]) (by first | rfl | simp [lv_args, rf_cat, cat_i, cat_l]) ?_
  intro X B
  obtain rfl := B.2.1
  obtain rfl := B.2.2.1
  exact tX9_greater N h x0 x1 B hf
def fX9_part_b41 (N : Nat) (h : pH) (l5 : Int64) (ls0 : Int64) : Option (Int64 × pH) :=
  if ¬ l5 = 0 then (some (ls0 / l5, h)) else none
set_option maxRecDepth 100000 in
set_option maxHeartbeats 4000000 in
theorem tX9_part_b41 {X : Xt} {v : Int64} {h' : pH} (N : Nat) (h : pH) (l5 : Int64) (ls0 : Int64) (B : Bd (lo X) (qo X) cX9_part RX9 11 (some .long) 0 0 (some (.long v)) h' X) (hf : fX9_part_b41 N h l5 ls0 = some (v, h')) : Wx X 11 41 [(5, .long l5)] [.long ls0] h := by
  have C := B.1
  unfold fX9_part_b41 at hf
  refine x_lload 0 C dX9_part_41 rfl ?_
  obtain ⟨g1, hf⟩ := ife hf
  refine x_ldiv C dX9_part_43 g1 ?_
  obtain ⟨rfl, rfl⟩ := rtn hf
  exact B.2.2.2.2.2.2.1 _ rfl rfl _ _ dX9_part_44
def fX9_part_B6 (N : Nat) (k6 : pH → Int64 → Int64 → Int32 → Int64 → Int64 → Option (Int64 × pH)) (h : pH) (l0 : Int64) (l2 : Int64) (x4 : Int32) (l5 : Int64) (l7 : Int64) : Option (Int64 × pH) :=
  if (lg_cmp l7 0) = 0 then (if x4 = 0 then (fX9_part_b41 N h l5 l0) else (fX9_part_b41 N h l5 l2)) else (if ¬ l7 = 0 then (k6 h l0 l2 x4 l7 (l5 - l5 / l7 * l7)) else none)
set_option maxRecDepth 100000 in
set_option maxHeartbeats 4000000 in
theorem tX9_part_B6 {X : Xt} {v : Int64} {h' : pH} (N : Nat) (k6 : pH → Int64 → Int64 → Int32 → Int64 → Int64 → Option (Int64 × pH)) (HK6 : ∀ (h : pH) (l0 : Int64) (l2 : Int64) (x4 : Int32) (l5 : Int64) (l7 : Int64), k6 h l0 l2 x4 l5 l7 = some (v, h') → Wx X 11 6 [(0, .long l0), (2, .long l2), (4, .int x4), (5, .long l5), (7, .long l7)] [] h) (h : pH) (l0 : Int64) (l2 : Int64) (x4 : Int32) (l5 : Int64) (l7 : Int64) (B : Bd (lo X) (qo X) cX9_part RX9 11 (some .long) 0 0 (some (.long v)) h' X) (hf : fX9_part_B6 N k6 h l0 l2 x4 l5 l7 = some (v, h')) : Wx X 11 6 [(0, .long l0), (2, .long l2), (4, .int x4), (5, .long l5), (7, .long l7)] [] h := by
  have C := B.1
  unfold fX9_part_B6 at hf
  refine x_lload 4 C dX9_part_6 rfl ?_
  refine x_lconst (v := 0) C dX9_part_8 (by decide) ?_
  refine x_lcmp C dX9_part_9 ?_
  refine x_if_eq (tgt := 31) C dX9_part_10 (by decide) (fun c => ?_) (fun c => ?_)
  · rw [if_pos c] at hf
    refine x_iload 2 C dX9_part_31 rfl ?_
    refine x_if_ne (tgt := 40) C dX9_part_33 (by decide) (fun c => ?_) (fun c => ?_)
    · rw [if_neg c] at hf
      refine x_lload_n (i := 2) 1 C dX9_part_40 rfl rfl ?_
      refine x_lv [3] rfl ?_
      exact tX9_part_b41 N h l5 l2 B hf
    · rw [if_pos c] at hf
      refine x_lload_n (i := 0) 0 C dX9_part_36 rfl rfl ?_
      refine x_goto (tgt := 41) C dX9_part_37 (by decide) ?_
      refine x_lv [3] rfl ?_
      exact tX9_part_b41 N h l5 l0 B hf
  · rw [if_neg c] at hf
    refine x_lload 3 C dX9_part_13 rfl ?_
    refine x_lload 4 C dX9_part_15 rfl ?_
    obtain ⟨g1, hf⟩ := ife hf
    refine x_lrem C dX9_part_17 g1 ?_
    refine x_lstore (lv' := [(9, .long (l5 - l5 / l7 * l7)), (0, .long l0), (2, .long l2), (4, .int x4), (5, .long l5), (7, .long l7)]) C dX9_part_18 (by decide) rfl ?_
    refine x_lload 5 C dX9_part_20 rfl ?_
    refine x_lstore (lv' := [(5, .long l7), (9, .long (l5 - l5 / l7 * l7)), (0, .long l0), (2, .long l2), (4, .int x4), (7, .long l7)]) C dX9_part_22 (by decide) rfl ?_
    refine x_lload 1 C dX9_part_24 rfl ?_
    refine x_lstore (lv' := [(7, .long (l5 - l5 / l7 * l7)), (5, .long l7), (9, .long (l5 - l5 / l7 * l7)), (0, .long l0), (2, .long l2), (4, .int x4)]) C dX9_part_26 (by decide) rfl ?_
    refine x_goto (tgt := 6) C dX9_part_28 (by decide) ?_
    refine x_lv [3, 4, 5, 1, 0] rfl ?_
    exact HK6 h l0 l2 x4 l7 (l5 - l5 / l7 * l7) hf
def fX9_part_L6 (N : Nat) : Nat → pH → Int64 → Int64 → Int32 → Int64 → Int64 → Option (Int64 × pH)
  | 0 => fun _ _ _ _ _ _ => none
  | n + 1 => fX9_part_B6 N (fX9_part_L6 N n)
theorem tX9_part_L6 {X : Xt} {v : Int64} {h' : pH} (N : Nat) (B : Bd (lo X) (qo X) cX9_part RX9 11 (some .long) 0 0 (some (.long v)) h' X) : ∀ (n : Nat) (h : pH) (l0 : Int64) (l2 : Int64) (x4 : Int32) (l5 : Int64) (l7 : Int64), fX9_part_L6 N n h l0 l2 x4 l5 l7 = some (v, h') → Wx X 11 6 [(0, .long l0), (2, .long l2), (4, .int x4), (5, .long l5), (7, .long l7)] [] h := by
  intro n
  induction n with
  | zero => intro h l0 l2 x4 l5 l7 hf; exact absurd (show (none : Option (Int64 × pH)) = some (v, h') from hf) (fun z => by cases z)
  | succ n ih => intro h l0 l2 x4 l5 l7 hf; exact tX9_part_B6 N (fX9_part_L6 N n) ih h l0 l2 x4 l5 l7 B hf
def fX9_part (N : Nat) (h : pH) (l0 : Int64) (l2 : Int64) (x4 : Int32) : Option (Int64 × pH) :=
  fX9_part_L6 N N h l0 l2 x4 l0 l2
set_option maxRecDepth 100000 in
set_option maxHeartbeats 4000000 in
theorem tX9_part {X : Xt} {v : Int64} {h' : pH} (N : Nat) (h : pH) (l0 : Int64) (l2 : Int64) (x4 : Int32) (B : Bd (lo X) (qo X) cX9_part RX9 11 (some .long) 0 0 (some (.long v)) h' X) (hf : fX9_part N h l0 l2 x4 = some (v, h')) : Wx X 11 0 [(0, .long l0), (2, .long l2), (4, .int x4)] [] h := by
  have C := B.1
  unfold fX9_part at hf
  refine x_lload_n (i := 0) 0 C dX9_part_0 rfl rfl ?_
  refine x_lstore (lv' := [(5, .long l0), (0, .long l0), (2, .long l2), (4, .int x4)]) C dX9_part_1 (by decide) rfl ?_
  refine x_lload_n (i := 2) 2 C dX9_part_3 rfl rfl ?_
  refine x_lstore (lv' := [(7, .long l2), (5, .long l0), (0, .long l0), (2, .long l2), (4, .int x4)]) C dX9_part_4 (by decide) rfl ?_
  refine x_lv [2, 3, 4, 1, 0] rfl ?_
  exact tX9_part_L6 N  B N h l0 l2 x4 l0 l2 hf
theorem ctX9_part (l : Launch) (q : Nat → Nat) (N : Nat) (h : pH) (l0 : Int64) (l2 : Int64) (x4 : Int32) (v : Int64) (h' : pH) (hf : fX9_part N h l0 l2 x4 = some (v, h')) : Ctr l q yX9_part cX9_part 11 (some .long) 0 0 [.long l0, .long l2, .int x4] h h' (some (.long v)) := by
  refine ct_of (own := RX9) (lv := [(0, .long l0), (2, .long l2), (4, .int x4)]) (by decide +kernel) rfl (by simp [lg_sl, rf_cat, cat_i, cat_l]) (by first | rfl | simp [lv_args, rf_cat, cat_i, cat_l]) ?_
  intro X B
  obtain rfl := B.2.1
  obtain rfl := B.2.2.1
  exact tX9_part N h l0 l2 x4 B hf
def fX9_finds (N : Nat) (h : pH) (x1 : Int32) : Option (Int32 × pH) :=
  some ((-10) - x1, (pw h 49 4 x1))
set_option maxRecDepth 100000 in
set_option maxHeartbeats 4000000 in
theorem tX9_finds {X : Xt} {v : Int32} {h' : pH} (N : Nat) (h : pH) (x1 : Int32) (B : Bd (lo X) (qo X) cX9_finds RX9 2 (some .int) 0 0 (some (.int v)) h' X) (hf : fX9_finds N h x1 = some (v, h')) : Wx X 2 0 [(0, rf (qo X) 49), (1, .int x1)] [] h := by
  have C := B.1
  unfold fX9_finds at hf
  refine x_aload_n (i := 0) 0 C dX9_finds_0 rfl rfl ?_
  refine x_iload_n (i := 1) 1 C dX9_finds_1 rfl rfl ?_
  refine x_putI (r := 49) C dX9_finds_2 kfX9_73 rfl rfl rfl ?_
  refine x_bipush (v := (-10)) C dX9_finds_5 (by decide) ?_
  refine x_iload_n (i := 1) 1 C dX9_finds_7 rfl rfl ?_
  refine x_isub C dX9_finds_8 ?_
  obtain ⟨rfl, rfl⟩ := rtn hf
  exact B.2.2.2.2.2.1 _ _ rfl rfl rfl _ _ dX9_finds_9
theorem ctX9_finds (l : Launch) (q : Nat → Nat) (N : Nat) (h : pH) (x1 : Int32) (v : Int32) (h' : pH) (hf : fX9_finds N h x1 = some (v, h')) : Ctr l q yX9_finds cX9_finds 2 (some .int) 0 0 [rf q 49, .int x1] h h' (some (.int v)) := by
  refine ct_of (own := RX9) (lv := [(0, rf q 49), (1, .int x1)]) (by decide +kernel) rfl (by simp [lg_sl, rf_cat, cat_i, cat_l]) (by first | rfl | simp [lv_args, rf_cat, cat_i, cat_l]) ?_
  intro X B
  obtain rfl := B.2.1
  obtain rfl := B.2.2.1
  exact tX9_finds N h x1 B hf
def fX9_isSheet (N : Nat) (h : pH) (x0 : Int32) : Option (Int32 × pH) :=
  (fX9_in N h x0.toInt64 0 3).bind fun z1 => (if z1.1 = 0 ∨ z1.1 = 1 then (some (z1.1, z1.2)) else none)
set_option maxRecDepth 100000 in
set_option maxHeartbeats 4000000 in
theorem tX9_isSheet {X : Xt} {v : Int32} {h' : pH} (N : Nat) (h : pH) (x0 : Int32) (B : Bd (lo X) (qo X) cX9_isSheet RX9 1 (some .boolean) 1 25 (some (.int v)) h' X) (hf : fX9_isSheet N h x0 = some (v, h')) : Wx X 1 0 [(0, .int x0)] [] h := by
  have C := B.1
  unfold fX9_isSheet at hf
  refine x_iload_n (i := 0) 0 C dX9_isSheet_0 rfl rfl ?_
  refine x_i2l C dX9_isSheet_1 ?_
  refine x_lconst (v := 0) C dX9_isSheet_2 (by decide) ?_
  refine x_ldc2 (v := 3) C dX9_isSheet_3 kkX9_77 ?_
  obtain ⟨z1, e1, hf⟩ := bnd hf
  refine x_callS (As := [.long x0.toInt64, .long 0, .long 3]) (rest := []) C dX9_isSheet_6 kmX9_69 miX9_in (ctX9_in (lo X) (qo X) N h x0.toInt64 0 3 z1.1 z1.2 e1) rfl rfl ⟨Nat.le_trans (by decide) B.2.2.2.1, Nat.le_trans (by decide) B.2.2.2.2.1⟩ (by simp [cat_i, cat_l, rf_cat]) ?_
  obtain ⟨g1, hf⟩ := ife hf
  obtain ⟨rfl, rfl⟩ := rtn hf
  exact B.2.2.2.2.2.1 _ _ rfl rfl (nrB g1) _ _ dX9_isSheet_9
theorem ctX9_isSheet (l : Launch) (q : Nat → Nat) (N : Nat) (h : pH) (x0 : Int32) (v : Int32) (h' : pH) (hf : fX9_isSheet N h x0 = some (v, h')) : Ctr l q yX9_isSheet cX9_isSheet 1 (some .boolean) 1 25 [.int x0] h h' (some (.int v)) := by
  refine ct_of (own := RX9) (lv := [(0, .int x0)]) (by decide +kernel) rfl (by simp [lg_sl, rf_cat, cat_i, cat_l]) (by first | rfl | simp [lv_args, rf_cat, cat_i, cat_l]) ?_
  intro X B
  obtain rfl := B.2.1
  obtain rfl := B.2.2.1
  exact tX9_isSheet N h x0 B hf
def fX9_sheet_b25 (N : Nat) (h : pH)  : Option (Int32 × pH) :=
  some ((-2), h)
set_option maxRecDepth 100000 in
set_option maxHeartbeats 4000000 in
theorem tX9_sheet_b25 {X : Xt} {v : Int32} {h' : pH} (N : Nat) (h : pH)  (B : Bd (lo X) (qo X) cX9_sheet RX9 5 (some .int) 2 45 (some (.int v)) h' X) (hf : fX9_sheet_b25 N h  = some (v, h')) : Wx X 5 25 [] [] h := by
  have C := B.1
  unfold fX9_sheet_b25 at hf
  refine x_bipush (v := (-2)) C dX9_sheet_25 (by decide) ?_
  obtain ⟨rfl, rfl⟩ := rtn hf
  exact B.2.2.2.2.2.1 _ _ rfl rfl rfl _ _ dX9_sheet_27
def fX9_sheet_B55 (N : Nat) (k55 : pH → Int32 → Int32 → Int32 → Option (Int32 × pH)) (h : pH) (x1 : Int32) (x3 : Int32) (x4 : Int32) : Option (Int32 × pH) :=
  if x3 ≤ x4 then (some (x3, h)) else (if ix ((60 * x1) + x4) 240 = true then (k55 (pw h 52 ((60 * x1) + x4).toNatClampNeg 0) x1 x3 (x4 + 1)) else none)
set_option maxRecDepth 100000 in
set_option maxHeartbeats 4000000 in
theorem tX9_sheet_B55 {X : Xt} {v : Int32} {h' : pH} (N : Nat) (k55 : pH → Int32 → Int32 → Int32 → Option (Int32 × pH)) (HK55 : ∀ (h : pH) (x1 : Int32) (x3 : Int32) (x4 : Int32), k55 h x1 x3 x4 = some (v, h') → Wx X 5 55 [(0, rf (qo X) 49), (1, .int x1), (3, .int x3), (4, .int x4)] [] h) (h : pH) (x1 : Int32) (x3 : Int32) (x4 : Int32) (B : Bd (lo X) (qo X) cX9_sheet RX9 5 (some .int) 2 45 (some (.int v)) h' X) (hf : fX9_sheet_B55 N k55 h x1 x3 x4 = some (v, h')) : Wx X 5 55 [(0, rf (qo X) 49), (1, .int x1), (3, .int x3), (4, .int x4)] [] h := by
  have C := B.1
  unfold fX9_sheet_B55 at hf
  refine x_iload 3 C dX9_sheet_55 rfl ?_
  refine x_iload_n (i := 3) 2 C dX9_sheet_57 rfl rfl ?_
  refine x_icmp_ge (tgt := 80) C dX9_sheet_58 (by decide) (fun c => ?_) (fun c => ?_)
  · rw [if_pos c] at hf
    refine x_iload_n (i := 3) 2 C dX9_sheet_80 rfl rfl ?_
    obtain ⟨rfl, rfl⟩ := rtn hf
    exact B.2.2.2.2.2.1 _ _ rfl rfl rfl _ _ dX9_sheet_81
  · rw [if_neg c] at hf
    refine x_aload_n (i := 0) 0 C dX9_sheet_61 rfl rfl ?_
    refine x_getR (r := 49) (r2 := 52) C dX9_sheet_62 kfX9_16 rfl rfl (by decide) ?_
    refine x_bipush (v := 60) C dX9_sheet_65 (by decide) ?_
    refine x_iload_n (i := 1) 1 C dX9_sheet_67 rfl rfl ?_
    refine x_imul C dX9_sheet_68 ?_
    refine x_iload 3 C dX9_sheet_69 rfl ?_
    refine x_iadd C dX9_sheet_71 ?_
    refine x_iconst (v := 0) C dX9_sheet_72 (by decide) ?_
    obtain ⟨g1, hf⟩ := ife hf
    refine x_iast (r := 52) C dX9_sheet_73 rfl g1 ?_
    refine x_iinc (v := x4 + 1) (lv' := [(4, .int (x4 + 1)), (0, rf (qo X) 49), (1, .int x1), (3, .int x3)]) 3 C dX9_sheet_74 rfl rfl (by decide) rfl ?_
    refine x_goto (tgt := 55) C dX9_sheet_77 (by decide) ?_
    refine x_lv [1, 2, 3, 0] rfl ?_
    exact HK55 (pw h 52 ((60 * x1) + x4).toNatClampNeg 0) x1 x3 (x4 + 1) hf
def fX9_sheet_L55 (N : Nat) : Nat → pH → Int32 → Int32 → Int32 → Option (Int32 × pH)
  | 0 => fun _ _ _ _ => none
  | n + 1 => fX9_sheet_B55 N (fX9_sheet_L55 N n)
theorem tX9_sheet_L55 {X : Xt} {v : Int32} {h' : pH} (N : Nat) (B : Bd (lo X) (qo X) cX9_sheet RX9 5 (some .int) 2 45 (some (.int v)) h' X) : ∀ (n : Nat) (h : pH) (x1 : Int32) (x3 : Int32) (x4 : Int32), fX9_sheet_L55 N n h x1 x3 x4 = some (v, h') → Wx X 5 55 [(0, rf (qo X) 49), (1, .int x1), (3, .int x3), (4, .int x4)] [] h := by
  intro n
  induction n with
  | zero => intro h x1 x3 x4 hf; exact absurd (show (none : Option (Int32 × pH)) = some (v, h') from hf) (fun z => by cases z)
  | succ n ih => intro h x1 x3 x4 hf; exact tX9_sheet_B55 N (fX9_sheet_L55 N n) ih h x1 x3 x4 B hf
def fX9_sheet (N : Nat) (h : pH) (x1 : Int32) (x2 : Int32) (x3 : Int32) : Option (Int32 × pH) :=
  (fX9_isSheet N h x1).bind fun z1 => (if z1.1 = 0 then (fX9_sheet_b25 N z1.2) else ((fX9_in N z1.2 x2.toInt64 0 2).bind fun z2 => (if z2.1 = 0 then (fX9_sheet_b25 N z2.2) else (if x3 ≤ 60 then (if 0 ≤ x3 then (if ix x1 4 = true then (if ix x1 4 = true then (fX9_sheet_L55 N N (pw (pw z2.2 50 x1.toNatClampNeg x2) 51 x1.toNatClampNeg x3) x1 x3 0) else none) else none) else ((fX9_finds N z2.2 5).bind fun z3 => (some (z3.1, z3.2)))) else (fX9_sheet_b25 N z2.2)))))
set_option maxRecDepth 100000 in
set_option maxHeartbeats 4000000 in
theorem tX9_sheet {X : Xt} {v : Int32} {h' : pH} (N : Nat) (h : pH) (x1 : Int32) (x2 : Int32) (x3 : Int32) (B : Bd (lo X) (qo X) cX9_sheet RX9 5 (some .int) 2 45 (some (.int v)) h' X) (hf : fX9_sheet N h x1 x2 x3 = some (v, h')) : Wx X 5 0 [(0, rf (qo X) 49), (1, .int x1), (2, .int x2), (3, .int x3)] [] h := by
  have C := B.1
  unfold fX9_sheet at hf
  refine x_iload_n (i := 1) 1 C dX9_sheet_0 rfl rfl ?_
  obtain ⟨z1, e1, hf⟩ := bnd hf
  refine x_callS (As := [.int x1]) (rest := []) C dX9_sheet_1 kmX9_79 miX9_isSheet (ctX9_isSheet (lo X) (qo X) N h x1 z1.1 z1.2 e1) rfl rfl ⟨Nat.le_trans (by decide) B.2.2.2.1, Nat.le_trans (by decide) B.2.2.2.2.1⟩ (by simp [cat_i, cat_l, rf_cat]) ?_
  refine x_if_eq (tgt := 25) C dX9_sheet_4 (by decide) (fun c => ?_) (fun c => ?_)
  · rw [if_pos c] at hf
    refine x_lv [] rfl ?_
    exact tX9_sheet_b25 N z1.2 B hf
  · rw [if_neg c] at hf
    refine x_iload_n (i := 2) 2 C dX9_sheet_7 rfl rfl ?_
    refine x_i2l C dX9_sheet_8 ?_
    refine x_lconst (v := 0) C dX9_sheet_9 (by decide) ?_
    refine x_ldc2 (v := 2) C dX9_sheet_10 kkX9_83 ?_
    obtain ⟨z2, e2, hf⟩ := bnd hf
    refine x_callS (As := [.long x2.toInt64, .long 0, .long 2]) (rest := []) C dX9_sheet_13 kmX9_69 miX9_in (ctX9_in (lo X) (qo X) N z1.2 x2.toInt64 0 2 z2.1 z2.2 e2) rfl rfl ⟨Nat.le_trans (by decide) B.2.2.2.1, Nat.le_trans (by decide) B.2.2.2.2.1⟩ (by simp [cat_i, cat_l, rf_cat]) ?_
    refine x_if_eq (tgt := 25) C dX9_sheet_16 (by decide) (fun c => ?_) (fun c => ?_)
    · rw [if_pos c] at hf
      refine x_lv [] rfl ?_
      exact tX9_sheet_b25 N z2.2 B hf
    · rw [if_neg c] at hf
      refine x_iload_n (i := 3) 3 C dX9_sheet_19 rfl rfl ?_
      refine x_bipush (v := 60) C dX9_sheet_20 (by decide) ?_
      refine x_icmp_le (tgt := 28) C dX9_sheet_22 (by decide) (fun c => ?_) (fun c => ?_)
      · rw [if_pos c] at hf
        refine x_iload_n (i := 3) 3 C dX9_sheet_28 rfl rfl ?_
        refine x_if_ge (tgt := 38) C dX9_sheet_29 (by decide) (fun c => ?_) (fun c => ?_)
        · rw [if_pos c] at hf
          refine x_aload_n (i := 0) 0 C dX9_sheet_38 rfl rfl ?_
          refine x_getR (r := 49) (r2 := 50) C dX9_sheet_39 kfX9_7 rfl rfl (by decide) ?_
          refine x_iload_n (i := 1) 1 C dX9_sheet_42 rfl rfl ?_
          refine x_iload_n (i := 2) 2 C dX9_sheet_43 rfl rfl ?_
          obtain ⟨g1, hf⟩ := ife hf
          refine x_iast (r := 50) C dX9_sheet_44 rfl g1 ?_
          refine x_aload_n (i := 0) 0 C dX9_sheet_45 rfl rfl ?_
          refine x_getR (r := 49) (r2 := 51) C dX9_sheet_46 kfX9_13 rfl rfl (by decide) ?_
          refine x_iload_n (i := 1) 1 C dX9_sheet_49 rfl rfl ?_
          refine x_iload_n (i := 3) 3 C dX9_sheet_50 rfl rfl ?_
          obtain ⟨g2, hf⟩ := ife hf
          refine x_iast (r := 51) C dX9_sheet_51 rfl g2 ?_
          refine x_iconst (v := 0) C dX9_sheet_52 (by decide) ?_
          refine x_istore (lv' := [(4, .int 0), (0, rf (qo X) 49), (1, .int x1), (2, .int x2), (3, .int x3)]) C dX9_sheet_53 (by decide) rfl ?_
          refine x_lv [1, 2, 4, 0] rfl ?_
          exact tX9_sheet_L55 N  B N (pw (pw z2.2 50 x1.toNatClampNeg x2) 51 x1.toNatClampNeg x3) x1 x3 0 hf
        · rw [if_neg c] at hf
          refine x_aload_n (i := 0) 0 C dX9_sheet_32 rfl rfl ?_
          refine x_iconst (v := 5) C dX9_sheet_33 (by decide) ?_
          obtain ⟨z3, e3, hf⟩ := bnd hf
          refine x_callV (r := 49) (As := [.int 5]) (rest := []) C dX9_sheet_34 kmX9_85 miX9_finds (ctX9_finds (lo X) (qo X) N z2.2 5 z3.1 z3.2 e3) rfl rfl ⟨Nat.le_trans (by decide) B.2.2.2.1, Nat.le_trans (by decide) B.2.2.2.2.1⟩ (by simp [cat_i, cat_l, rf_cat]) rfl ?_
          obtain ⟨rfl, rfl⟩ := rtn hf
          exact B.2.2.2.2.2.1 _ _ rfl rfl rfl _ _ dX9_sheet_37
      · rw [if_neg c] at hf
        refine x_lv [] rfl ?_
        exact tX9_sheet_b25 N z2.2 B hf
theorem ctX9_sheet (l : Launch) (q : Nat → Nat) (N : Nat) (h : pH) (x1 : Int32) (x2 : Int32) (x3 : Int32) (v : Int32) (h' : pH) (hf : fX9_sheet N h x1 x2 x3 = some (v, h')) : Ctr l q yX9_sheet cX9_sheet 5 (some .int) 2 45 [rf q 49, .int x1, .int x2, .int x3] h h' (some (.int v)) := by
  refine ct_of (own := RX9) (lv := [(0, rf q 49), (1, .int x1), (2, .int x2), (3, .int x3)]) (by decide +kernel) rfl (by simp [lg_sl, rf_cat, cat_i, cat_l]) (by first | rfl | simp [lv_args, rf_cat, cat_i, cat_l]) ?_
  intro X B
  obtain rfl := B.2.1
  obtain rfl := B.2.2.1
  exact tX9_sheet N h x1 x2 x3 B hf
def fX9_lose (N : Nat) (h : pH) (x1 : Int32) : Option (Int32 × pH) :=
  (fX9_isSheet N h x1).bind fun z1 => (if z1.1 = 0 then (some ((-2), z1.2)) else (if ix x1 4 = true then (if 0 ≤ (z1.2.1 50 x1.toNatClampNeg) then (if ix x1 4 = true then (if ix x1 4 = true then (some ((pw z1.2 50 x1.toNatClampNeg (-1)).1 51 x1.toNatClampNeg, (pw z1.2 50 x1.toNatClampNeg (-1)))) else none) else none) else ((fX9_finds N z1.2 1).bind fun z2 => (some (z2.1, z2.2)))) else none))
set_option maxRecDepth 100000 in
set_option maxHeartbeats 4000000 in
theorem tX9_lose {X : Xt} {v : Int32} {h' : pH} (N : Nat) (h : pH) (x1 : Int32) (B : Bd (lo X) (qo X) cX9_lose RX9 2 (some .int) 2 45 (some (.int v)) h' X) (hf : fX9_lose N h x1 = some (v, h')) : Wx X 2 0 [(0, rf (qo X) 49), (1, .int x1)] [] h := by
  have C := B.1
  unfold fX9_lose at hf
  refine x_iload_n (i := 1) 1 C dX9_lose_0 rfl rfl ?_
  obtain ⟨z1, e1, hf⟩ := bnd hf
  refine x_callS (As := [.int x1]) (rest := []) C dX9_lose_1 kmX9_79 miX9_isSheet (ctX9_isSheet (lo X) (qo X) N h x1 z1.1 z1.2 e1) rfl rfl ⟨Nat.le_trans (by decide) B.2.2.2.1, Nat.le_trans (by decide) B.2.2.2.2.1⟩ (by simp [cat_i, cat_l, rf_cat]) ?_
  refine x_if_ne (tgt := 10) C dX9_lose_4 (by decide) (fun c => ?_) (fun c => ?_)
  · rw [if_neg c] at hf
    refine x_aload_n (i := 0) 0 C dX9_lose_10 rfl rfl ?_
    refine x_getR (r := 49) (r2 := 50) C dX9_lose_11 kfX9_7 rfl rfl (by decide) ?_
    refine x_iload_n (i := 1) 1 C dX9_lose_14 rfl rfl ?_
    obtain ⟨g1, hf⟩ := ife hf
    refine x_iald (r := 50) C dX9_lose_15 rfl g1 ?_
    refine x_if_ge (tgt := 25) C dX9_lose_16 (by decide) (fun c => ?_) (fun c => ?_)
    · rw [if_pos c] at hf
      refine x_aload_n (i := 0) 0 C dX9_lose_25 rfl rfl ?_
      refine x_getR (r := 49) (r2 := 50) C dX9_lose_26 kfX9_7 rfl rfl (by decide) ?_
      refine x_iload_n (i := 1) 1 C dX9_lose_29 rfl rfl ?_
      refine x_iconst (v := (-1)) C dX9_lose_30 (by decide) ?_
      obtain ⟨g2, hf⟩ := ife hf
      refine x_iast (r := 50) C dX9_lose_31 rfl g2 ?_
      refine x_aload_n (i := 0) 0 C dX9_lose_32 rfl rfl ?_
      refine x_getR (r := 49) (r2 := 51) C dX9_lose_33 kfX9_13 rfl rfl (by decide) ?_
      refine x_iload_n (i := 1) 1 C dX9_lose_36 rfl rfl ?_
      obtain ⟨g3, hf⟩ := ife hf
      refine x_iald (r := 51) C dX9_lose_37 rfl g3 ?_
      obtain ⟨rfl, rfl⟩ := rtn hf
      exact B.2.2.2.2.2.1 _ _ rfl rfl rfl _ _ dX9_lose_38
    · rw [if_neg c] at hf
      refine x_aload_n (i := 0) 0 C dX9_lose_19 rfl rfl ?_
      refine x_iconst (v := 1) C dX9_lose_20 (by decide) ?_
      obtain ⟨z2, e2, hf⟩ := bnd hf
      refine x_callV (r := 49) (As := [.int 1]) (rest := []) C dX9_lose_21 kmX9_85 miX9_finds (ctX9_finds (lo X) (qo X) N z1.2 1 z2.1 z2.2 e2) rfl rfl ⟨Nat.le_trans (by decide) B.2.2.2.1, Nat.le_trans (by decide) B.2.2.2.2.1⟩ (by simp [cat_i, cat_l, rf_cat]) rfl ?_
      obtain ⟨rfl, rfl⟩ := rtn hf
      exact B.2.2.2.2.2.1 _ _ rfl rfl rfl _ _ dX9_lose_24
  · rw [if_pos c] at hf
    refine x_bipush (v := (-2)) C dX9_lose_7 (by decide) ?_
    obtain ⟨rfl, rfl⟩ := rtn hf
    exact B.2.2.2.2.2.1 _ _ rfl rfl rfl _ _ dX9_lose_9
theorem ctX9_lose (l : Launch) (q : Nat → Nat) (N : Nat) (h : pH) (x1 : Int32) (v : Int32) (h' : pH) (hf : fX9_lose N h x1 = some (v, h')) : Ctr l q yX9_lose cX9_lose 2 (some .int) 2 45 [rf q 49, .int x1] h h' (some (.int v)) := by
  refine ct_of (own := RX9) (lv := [(0, rf q 49), (1, .int x1)]) (by decide +kernel) rfl (by simp [lg_sl, rf_cat, cat_i, cat_l]) (by first | rfl | simp [lv_args, rf_cat, cat_i, cat_l]) ?_
  intro X B
  obtain rfl := B.2.1
  obtain rfl := B.2.2.1
  exact tX9_lose N h x1 B hf
def fX9_lacks_b58 (N : Nat) (h : pH) (xs0 : Int32) : Option (Int32 × pH) :=
  some (xs0, h)
set_option maxRecDepth 100000 in
set_option maxHeartbeats 4000000 in
theorem tX9_lacks_b58 {X : Xt} {v : Int32} {h' : pH} (N : Nat) (h : pH) (xs0 : Int32) (B : Bd (lo X) (qo X) cX9_lacks RX9 4 (some .int) 1 25 (some (.int v)) h' X) (hf : fX9_lacks_b58 N h xs0 = some (v, h')) : Wx X 4 58 [] [.int xs0] h := by
  have C := B.1
  unfold fX9_lacks_b58 at hf
  obtain ⟨rfl, rfl⟩ := rtn hf
  exact B.2.2.2.2.2.1 _ _ rfl rfl rfl _ _ dX9_lacks_58
def fX9_lacks (N : Nat) (h : pH) (x1 : Int32) (x2 : Int32) (x3 : Int32) : Option (Int32 × pH) :=
  if ix x1 4 = true then (if 0 ≤ (h.1 50 x1.toNatClampNeg) then (if ix x1 4 = true then (if (h.1 50 x1.toNatClampNeg) = x2 then (if ix x1 4 = true then ((fX9_in N h x3.toInt64 0 (((h.1 51 x1.toNatClampNeg) - 1).toInt64)).bind fun z1 => (if z1.1 = 0 then ((fX9_finds N z1.2 2).bind fun z2 => (fX9_lacks_b58 N z2.2 z2.1)) else (fX9_lacks_b58 N z1.2 0))) else none) else ((fX9_finds N h 3).bind fun z3 => (some (z3.1, z3.2)))) else none) else ((fX9_finds N h 1).bind fun z4 => (some (z4.1, z4.2)))) else none
set_option maxRecDepth 100000 in
set_option maxHeartbeats 4000000 in
theorem tX9_lacks {X : Xt} {v : Int32} {h' : pH} (N : Nat) (h : pH) (x1 : Int32) (x2 : Int32) (x3 : Int32) (B : Bd (lo X) (qo X) cX9_lacks RX9 4 (some .int) 1 25 (some (.int v)) h' X) (hf : fX9_lacks N h x1 x2 x3 = some (v, h')) : Wx X 4 0 [(0, rf (qo X) 49), (1, .int x1), (2, .int x2), (3, .int x3)] [] h := by
  have C := B.1
  unfold fX9_lacks at hf
  refine x_aload_n (i := 0) 0 C dX9_lacks_0 rfl rfl ?_
  refine x_getR (r := 49) (r2 := 50) C dX9_lacks_1 kfX9_7 rfl rfl (by decide) ?_
  refine x_iload_n (i := 1) 1 C dX9_lacks_4 rfl rfl ?_
  obtain ⟨g1, hf⟩ := ife hf
  refine x_iald (r := 50) C dX9_lacks_5 rfl g1 ?_
  refine x_if_ge (tgt := 15) C dX9_lacks_6 (by decide) (fun c => ?_) (fun c => ?_)
  · rw [if_pos c] at hf
    refine x_aload_n (i := 0) 0 C dX9_lacks_15 rfl rfl ?_
    refine x_getR (r := 49) (r2 := 50) C dX9_lacks_16 kfX9_7 rfl rfl (by decide) ?_
    refine x_iload_n (i := 1) 1 C dX9_lacks_19 rfl rfl ?_
    obtain ⟨g2, hf⟩ := ife hf
    refine x_iald (r := 50) C dX9_lacks_20 rfl g2 ?_
    refine x_iload_n (i := 2) 2 C dX9_lacks_21 rfl rfl ?_
    refine x_icmp_eq (tgt := 31) C dX9_lacks_22 (by decide) (fun c => ?_) (fun c => ?_)
    · rw [if_pos c] at hf
      refine x_iload_n (i := 3) 3 C dX9_lacks_31 rfl rfl ?_
      refine x_i2l C dX9_lacks_32 ?_
      refine x_lconst (v := 0) C dX9_lacks_33 (by decide) ?_
      refine x_aload_n (i := 0) 0 C dX9_lacks_34 rfl rfl ?_
      refine x_getR (r := 49) (r2 := 51) C dX9_lacks_35 kfX9_13 rfl rfl (by decide) ?_
      refine x_iload_n (i := 1) 1 C dX9_lacks_38 rfl rfl ?_
      obtain ⟨g3, hf⟩ := ife hf
      refine x_iald (r := 51) C dX9_lacks_39 rfl g3 ?_
      refine x_iconst (v := 1) C dX9_lacks_40 (by decide) ?_
      refine x_isub C dX9_lacks_41 ?_
      refine x_i2l C dX9_lacks_42 ?_
      obtain ⟨z1, e1, hf⟩ := bnd hf
      refine x_callS (As := [.long x3.toInt64, .long 0, .long (((h.1 51 x1.toNatClampNeg) - 1).toInt64)]) (rest := []) C dX9_lacks_43 kmX9_69 miX9_in (ctX9_in (lo X) (qo X) N h x3.toInt64 0 (((h.1 51 x1.toNatClampNeg) - 1).toInt64) z1.1 z1.2 e1) rfl rfl ⟨Nat.le_trans (by decide) B.2.2.2.1, Nat.le_trans (by decide) B.2.2.2.2.1⟩ (by simp [cat_i, cat_l, rf_cat]) ?_
      refine x_if_eq (tgt := 53) C dX9_lacks_46 (by decide) (fun c => ?_) (fun c => ?_)
      · rw [if_pos c] at hf
        refine x_aload_n (i := 0) 0 C dX9_lacks_53 rfl rfl ?_
        refine x_iconst (v := 2) C dX9_lacks_54 (by decide) ?_
        obtain ⟨z2, e2, hf⟩ := bnd hf
        refine x_callV (r := 49) (As := [.int 2]) (rest := []) C dX9_lacks_55 kmX9_85 miX9_finds (ctX9_finds (lo X) (qo X) N z1.2 2 z2.1 z2.2 e2) rfl rfl ⟨Nat.le_trans (by decide) B.2.2.2.1, Nat.le_trans (by decide) B.2.2.2.2.1⟩ (by simp [cat_i, cat_l, rf_cat]) rfl ?_
        refine x_lv [] rfl ?_
        exact tX9_lacks_b58 N z2.2 z2.1 B hf
      · rw [if_neg c] at hf
        refine x_iconst (v := 0) C dX9_lacks_49 (by decide) ?_
        refine x_goto (tgt := 58) C dX9_lacks_50 (by decide) ?_
        refine x_lv [] rfl ?_
        exact tX9_lacks_b58 N z1.2 0 B hf
    · rw [if_neg c] at hf
      refine x_aload_n (i := 0) 0 C dX9_lacks_25 rfl rfl ?_
      refine x_iconst (v := 3) C dX9_lacks_26 (by decide) ?_
      obtain ⟨z3, e3, hf⟩ := bnd hf
      refine x_callV (r := 49) (As := [.int 3]) (rest := []) C dX9_lacks_27 kmX9_85 miX9_finds (ctX9_finds (lo X) (qo X) N h 3 z3.1 z3.2 e3) rfl rfl ⟨Nat.le_trans (by decide) B.2.2.2.1, Nat.le_trans (by decide) B.2.2.2.2.1⟩ (by simp [cat_i, cat_l, rf_cat]) rfl ?_
      obtain ⟨rfl, rfl⟩ := rtn hf
      exact B.2.2.2.2.2.1 _ _ rfl rfl rfl _ _ dX9_lacks_30
  · rw [if_neg c] at hf
    refine x_aload_n (i := 0) 0 C dX9_lacks_9 rfl rfl ?_
    refine x_iconst (v := 1) C dX9_lacks_10 (by decide) ?_
    obtain ⟨z4, e4, hf⟩ := bnd hf
    refine x_callV (r := 49) (As := [.int 1]) (rest := []) C dX9_lacks_11 kmX9_85 miX9_finds (ctX9_finds (lo X) (qo X) N h 1 z4.1 z4.2 e4) rfl rfl ⟨Nat.le_trans (by decide) B.2.2.2.1, Nat.le_trans (by decide) B.2.2.2.2.1⟩ (by simp [cat_i, cat_l, rf_cat]) rfl ?_
    obtain ⟨rfl, rfl⟩ := rtn hf
    exact B.2.2.2.2.2.1 _ _ rfl rfl rfl _ _ dX9_lacks_14
theorem ctX9_lacks (l : Launch) (q : Nat → Nat) (N : Nat) (h : pH) (x1 : Int32) (x2 : Int32) (x3 : Int32) (v : Int32) (h' : pH) (hf : fX9_lacks N h x1 x2 x3 = some (v, h')) : Ctr l q yX9_lacks cX9_lacks 4 (some .int) 1 25 [rf q 49, .int x1, .int x2, .int x3] h h' (some (.int v)) := by
  refine ct_of (own := RX9) (lv := [(0, rf q 49), (1, .int x1), (2, .int x2), (3, .int x3)]) (by decide +kernel) rfl (by simp [lg_sl, rf_cat, cat_i, cat_l]) (by first | rfl | simp [lv_args, rf_cat, cat_i, cat_l]) ?_
  intro X B
  obtain rfl := B.2.1
  obtain rfl := B.2.2.1
  exact tX9_lacks N h x1 x2 x3 B hf
def fX9_cut_b20 (N : Nat) (h : pH) (xs0 : Int32) : Option (Int32 × pH) :=
  some (xs0, h)
set_option maxRecDepth 100000 in
set_option maxHeartbeats 4000000 in
theorem tX9_cut_b20 {X : Xt} {v : Int32} {h' : pH} (N : Nat) (h : pH) (xs0 : Int32) (B : Bd (lo X) (qo X) cX9_cut RX9 2 (some .int) 0 0 (some (.int v)) h' X) (hf : fX9_cut_b20 N h xs0 = some (v, h')) : Wx X 2 20 [] [.int xs0] h := by
  have C := B.1
  unfold fX9_cut_b20 at hf
  obtain ⟨rfl, rfl⟩ := rtn hf
  exact B.2.2.2.2.2.1 _ _ rfl rfl rfl _ _ dX9_cut_20
def fX9_cut (N : Nat) (h : pH) (x0 : Int32) (x1 : Int32) : Option (Int32 × pH) :=
  if x0 = 0 then (fX9_cut_b20 N h x1.toInt8.toInt32) else (if x0 = 1 then (fX9_cut_b20 N h x1.toInt16.toInt32) else (fX9_cut_b20 N h x1))
set_option maxRecDepth 100000 in
set_option maxHeartbeats 4000000 in
theorem tX9_cut {X : Xt} {v : Int32} {h' : pH} (N : Nat) (h : pH) (x0 : Int32) (x1 : Int32) (B : Bd (lo X) (qo X) cX9_cut RX9 2 (some .int) 0 0 (some (.int v)) h' X) (hf : fX9_cut N h x0 x1 = some (v, h')) : Wx X 2 0 [(0, .int x0), (1, .int x1)] [] h := by
  have C := B.1
  unfold fX9_cut at hf
  refine x_iload_n (i := 0) 0 C dX9_cut_0 rfl rfl ?_
  refine x_if_ne (tgt := 9) C dX9_cut_1 (by decide) (fun c => ?_) (fun c => ?_)
  · rw [if_neg c] at hf
    refine x_iload_n (i := 0) 0 C dX9_cut_9 rfl rfl ?_
    refine x_iconst (v := 1) C dX9_cut_10 (by decide) ?_
    refine x_icmp_ne (tgt := 19) C dX9_cut_11 (by decide) (fun c => ?_) (fun c => ?_)
    · rw [if_neg c] at hf
      refine x_iload_n (i := 1) 1 C dX9_cut_19 rfl rfl ?_
      refine x_lv [] rfl ?_
      exact tX9_cut_b20 N h x1 B hf
    · rw [if_pos c] at hf
      refine x_iload_n (i := 1) 1 C dX9_cut_14 rfl rfl ?_
      refine x_i2s C dX9_cut_15 ?_
      refine x_goto (tgt := 20) C dX9_cut_16 (by decide) ?_
      refine x_lv [] rfl ?_
      exact tX9_cut_b20 N h x1.toInt16.toInt32 B hf
  · rw [if_pos c] at hf
    refine x_iload_n (i := 1) 1 C dX9_cut_4 rfl rfl ?_
    refine x_i2b C dX9_cut_5 ?_
    refine x_goto (tgt := 20) C dX9_cut_6 (by decide) ?_
    refine x_lv [] rfl ?_
    exact tX9_cut_b20 N h x1.toInt8.toInt32 B hf
theorem ctX9_cut (l : Launch) (q : Nat → Nat) (N : Nat) (h : pH) (x0 : Int32) (x1 : Int32) (v : Int32) (h' : pH) (hf : fX9_cut N h x0 x1 = some (v, h')) : Ctr l q yX9_cut cX9_cut 2 (some .int) 0 0 [.int x0, .int x1] h h' (some (.int v)) := by
  refine ct_of (own := RX9) (lv := [(0, .int x0), (1, .int x1)]) (by decide +kernel) rfl (by simp [lg_sl, rf_cat, cat_i, cat_l]) (by first | rfl | simp [lv_args, rf_cat, cat_i, cat_l]) ?_
  intro X B
  obtain rfl := B.2.1
  obtain rfl := B.2.2.1
  exact tX9_cut N h x0 x1 B hf
def fX9_lay_b19 (N : Nat) (h : pH)  : Option (Int32 × pH) :=
  some ((-2), h)
set_option maxRecDepth 100000 in
set_option maxHeartbeats 4000000 in
theorem tX9_lay_b19 {X : Xt} {v : Int32} {h' : pH} (N : Nat) (h : pH)  (B : Bd (lo X) (qo X) cX9_lay RX9 6 (some .int) 2 48 (some (.int v)) h' X) (hf : fX9_lay_b19 N h  = some (v, h')) : Wx X 6 19 [] [] h := by
  have C := B.1
  unfold fX9_lay_b19 at hf
  refine x_bipush (v := (-2)) C dX9_lay_19 (by decide) ?_
  obtain ⟨rfl, rfl⟩ := rtn hf
  exact B.2.2.2.2.2.1 _ _ rfl rfl rfl _ _ dX9_lay_21
def fX9_lay (N : Nat) (h : pH) (x1 : Int32) (x2 : Int32) (x3 : Int32) (x4 : Int32) : Option (Int32 × pH) :=
  (fX9_isSheet N h x1).bind fun z1 => (if z1.1 = 0 then (fX9_lay_b19 N z1.2) else ((fX9_in N z1.2 x2.toInt64 0 2).bind fun z2 => (if z2.1 = 0 then (fX9_lay_b19 N z2.2) else ((fX9_lacks N z2.2 x1 x2 x3).bind fun z3 => (if z3.1 = 0 then ((fX9_cut N z3.2 x2 x4).bind fun z4 => (if ix ((60 * x1) + x3) 240 = true then (some (1, (pw z4.2 52 ((60 * x1) + x3).toNatClampNeg z4.1))) else none)) else (some (z3.1, z3.2)))))))
set_option maxRecDepth 100000 in
set_option maxHeartbeats 4000000 in
theorem tX9_lay {X : Xt} {v : Int32} {h' : pH} (N : Nat) (h : pH) (x1 : Int32) (x2 : Int32) (x3 : Int32) (x4 : Int32) (B : Bd (lo X) (qo X) cX9_lay RX9 6 (some .int) 2 48 (some (.int v)) h' X) (hf : fX9_lay N h x1 x2 x3 x4 = some (v, h')) : Wx X 6 0 [(0, rf (qo X) 49), (1, .int x1), (2, .int x2), (3, .int x3), (4, .int x4)] [] h := by
  have C := B.1
  unfold fX9_lay at hf
  refine x_iload_n (i := 1) 1 C dX9_lay_0 rfl rfl ?_
  obtain ⟨z1, e1, hf⟩ := bnd hf
  refine x_callS (As := [.int x1]) (rest := []) C dX9_lay_1 kmX9_79 miX9_isSheet (ctX9_isSheet (lo X) (qo X) N h x1 z1.1 z1.2 e1) rfl rfl ⟨Nat.le_trans (by decide) B.2.2.2.1, Nat.le_trans (by decide) B.2.2.2.2.1⟩ (by simp [cat_i, cat_l, rf_cat]) ?_
  refine x_if_eq (tgt := 19) C dX9_lay_4 (by decide) (fun c => ?_) (fun c => ?_)
  · rw [if_pos c] at hf
    refine x_lv [] rfl ?_
    exact tX9_lay_b19 N z1.2 B hf
  · rw [if_neg c] at hf
    refine x_iload_n (i := 2) 2 C dX9_lay_7 rfl rfl ?_
    refine x_i2l C dX9_lay_8 ?_
    refine x_lconst (v := 0) C dX9_lay_9 (by decide) ?_
    refine x_ldc2 (v := 2) C dX9_lay_10 kkX9_83 ?_
    obtain ⟨z2, e2, hf⟩ := bnd hf
    refine x_callS (As := [.long x2.toInt64, .long 0, .long 2]) (rest := []) C dX9_lay_13 kmX9_69 miX9_in (ctX9_in (lo X) (qo X) N z1.2 x2.toInt64 0 2 z2.1 z2.2 e2) rfl rfl ⟨Nat.le_trans (by decide) B.2.2.2.1, Nat.le_trans (by decide) B.2.2.2.2.1⟩ (by simp [cat_i, cat_l, rf_cat]) ?_
    refine x_if_ne (tgt := 22) C dX9_lay_16 (by decide) (fun c => ?_) (fun c => ?_)
    · rw [if_neg c] at hf
      refine x_aload_n (i := 0) 0 C dX9_lay_22 rfl rfl ?_
      refine x_iload_n (i := 1) 1 C dX9_lay_23 rfl rfl ?_
      refine x_iload_n (i := 2) 2 C dX9_lay_24 rfl rfl ?_
      refine x_iload_n (i := 3) 3 C dX9_lay_25 rfl rfl ?_
      obtain ⟨z3, e3, hf⟩ := bnd hf
      refine x_callV (r := 49) (As := [.int x1, .int x2, .int x3]) (rest := []) C dX9_lay_26 kmX9_89 miX9_lacks (ctX9_lacks (lo X) (qo X) N z2.2 x1 x2 x3 z3.1 z3.2 e3) rfl rfl ⟨Nat.le_trans (by decide) B.2.2.2.1, Nat.le_trans (by decide) B.2.2.2.2.1⟩ (by simp [cat_i, cat_l, rf_cat]) rfl ?_
      refine x_istore (lv' := [(5, .int z3.1), (0, rf (qo X) 49), (1, .int x1), (2, .int x2), (3, .int x3), (4, .int x4)]) C dX9_lay_29 (by decide) rfl ?_
      refine x_iload 0 C dX9_lay_31 rfl ?_
      refine x_if_eq (tgt := 39) C dX9_lay_33 (by decide) (fun c => ?_) (fun c => ?_)
      · rw [if_pos c] at hf
        refine x_aload_n (i := 0) 1 C dX9_lay_39 rfl rfl ?_
        refine x_getR (r := 49) (r2 := 52) C dX9_lay_40 kfX9_16 rfl rfl (by decide) ?_
        refine x_bipush (v := 60) C dX9_lay_43 (by decide) ?_
        refine x_iload_n (i := 1) 2 C dX9_lay_45 rfl rfl ?_
        refine x_imul C dX9_lay_46 ?_
        refine x_iload_n (i := 3) 4 C dX9_lay_47 rfl rfl ?_
        refine x_iadd C dX9_lay_48 ?_
        refine x_iload_n (i := 2) 3 C dX9_lay_49 rfl rfl ?_
        refine x_iload 5 C dX9_lay_50 rfl ?_
        obtain ⟨z4, e4, hf⟩ := bnd hf
        refine x_callS (As := [.int x2, .int x4]) (rest := [.int ((60 * x1) + x3), rf (qo X) 52]) C dX9_lay_52 kmX9_93 miX9_cut (ctX9_cut (lo X) (qo X) N z3.2 x2 x4 z4.1 z4.2 e4) rfl rfl ⟨Nat.le_trans (by decide) B.2.2.2.1, Nat.le_trans (by decide) B.2.2.2.2.1⟩ (by simp [cat_i, cat_l, rf_cat]) ?_
        obtain ⟨g1, hf⟩ := ife hf
        refine x_iast (r := 52) C dX9_lay_55 rfl g1 ?_
        refine x_iconst (v := 1) C dX9_lay_56 (by decide) ?_
        obtain ⟨rfl, rfl⟩ := rtn hf
        exact B.2.2.2.2.2.1 _ _ rfl rfl rfl _ _ dX9_lay_57
      · rw [if_neg c] at hf
        refine x_iload 0 C dX9_lay_36 rfl ?_
        obtain ⟨rfl, rfl⟩ := rtn hf
        exact B.2.2.2.2.2.1 _ _ rfl rfl rfl _ _ dX9_lay_38
    · rw [if_pos c] at hf
      refine x_lv [] rfl ?_
      exact tX9_lay_b19 N z2.2 B hf
theorem ctX9_lay (l : Launch) (q : Nat → Nat) (N : Nat) (h : pH) (x1 : Int32) (x2 : Int32) (x3 : Int32) (x4 : Int32) (v : Int32) (h' : pH) (hf : fX9_lay N h x1 x2 x3 x4 = some (v, h')) : Ctr l q yX9_lay cX9_lay 6 (some .int) 2 48 [rf q 49, .int x1, .int x2, .int x3, .int x4] h h' (some (.int v)) := by
  refine ct_of (own := RX9) (lv := [(0, rf q 49), (1, .int x1), (2, .int x2), (3, .int x3), (4, .int x4)]) (by decide +kernel) rfl (by simp [lg_sl, rf_cat, cat_i, cat_l]) (by first | rfl | simp [lv_args, rf_cat, cat_i, cat_l]) ?_
  intro X B
  obtain rfl := B.2.1
  obtain rfl := B.2.2.1
  exact tX9_lay N h x1 x2 x3 x4 B hf
def fX9_get_b29 (N : Nat) (h : pH)  : Option (Int32 × pH) :=
  some ((-2147483648), h)
set_option maxRecDepth 100000 in
set_option maxHeartbeats 4000000 in
theorem tX9_get_b29 {X : Xt} {v : Int32} {h' : pH} (N : Nat) (h : pH)  (B : Bd (lo X) (qo X) cX9_get RX9 4 (some .int) 2 48 (some (.int v)) h' X) (hf : fX9_get_b29 N h  = some (v, h')) : Wx X 4 29 [] [] h := by
  have C := B.1
  unfold fX9_get_b29 at hf
  refine x_ldc (v := (-2147483648)) C dX9_get_29 kkX9_97 ?_
  obtain ⟨rfl, rfl⟩ := rtn hf
  exact B.2.2.2.2.2.1 _ _ rfl rfl rfl _ _ dX9_get_31
def fX9_get (N : Nat) (h : pH) (x1 : Int32) (x2 : Int32) (x3 : Int32) : Option (Int32 × pH) :=
  (fX9_isSheet N h x1).bind fun z1 => (if z1.1 = 0 then (fX9_get_b29 N z1.2) else ((fX9_in N z1.2 x2.toInt64 0 2).bind fun z2 => (if z2.1 = 0 then (fX9_get_b29 N z2.2) else ((fX9_lacks N z2.2 x1 x2 x3).bind fun z3 => (if z3.1 = 0 then (if ix ((60 * x1) + x3) 240 = true then (some (z3.2.1 52 ((60 * x1) + x3).toNatClampNeg, z3.2)) else none) else (fX9_get_b29 N z3.2))))))
set_option maxRecDepth 100000 in
set_option maxHeartbeats 4000000 in
theorem tX9_get {X : Xt} {v : Int32} {h' : pH} (N : Nat) (h : pH) (x1 : Int32) (x2 : Int32) (x3 : Int32) (B : Bd (lo X) (qo X) cX9_get RX9 4 (some .int) 2 48 (some (.int v)) h' X) (hf : fX9_get N h x1 x2 x3 = some (v, h')) : Wx X 4 0 [(0, rf (qo X) 49), (1, .int x1), (2, .int x2), (3, .int x3)] [] h := by
  have C := B.1
  unfold fX9_get at hf
  refine x_iload_n (i := 1) 1 C dX9_get_0 rfl rfl ?_
  obtain ⟨z1, e1, hf⟩ := bnd hf
  refine x_callS (As := [.int x1]) (rest := []) C dX9_get_1 kmX9_79 miX9_isSheet (ctX9_isSheet (lo X) (qo X) N h x1 z1.1 z1.2 e1) rfl rfl ⟨Nat.le_trans (by decide) B.2.2.2.1, Nat.le_trans (by decide) B.2.2.2.2.1⟩ (by simp [cat_i, cat_l, rf_cat]) ?_
  refine x_if_eq (tgt := 29) C dX9_get_4 (by decide) (fun c => ?_) (fun c => ?_)
  · rw [if_pos c] at hf
    refine x_lv [] rfl ?_
    exact tX9_get_b29 N z1.2 B hf
  · rw [if_neg c] at hf
    refine x_iload_n (i := 2) 2 C dX9_get_7 rfl rfl ?_
    refine x_i2l C dX9_get_8 ?_
    refine x_lconst (v := 0) C dX9_get_9 (by decide) ?_
    refine x_ldc2 (v := 2) C dX9_get_10 kkX9_83 ?_
    obtain ⟨z2, e2, hf⟩ := bnd hf
    refine x_callS (As := [.long x2.toInt64, .long 0, .long 2]) (rest := []) C dX9_get_13 kmX9_69 miX9_in (ctX9_in (lo X) (qo X) N z1.2 x2.toInt64 0 2 z2.1 z2.2 e2) rfl rfl ⟨Nat.le_trans (by decide) B.2.2.2.1, Nat.le_trans (by decide) B.2.2.2.2.1⟩ (by simp [cat_i, cat_l, rf_cat]) ?_
    refine x_if_eq (tgt := 29) C dX9_get_16 (by decide) (fun c => ?_) (fun c => ?_)
    · rw [if_pos c] at hf
      refine x_lv [] rfl ?_
      exact tX9_get_b29 N z2.2 B hf
    · rw [if_neg c] at hf
      refine x_aload_n (i := 0) 0 C dX9_get_19 rfl rfl ?_
      refine x_iload_n (i := 1) 1 C dX9_get_20 rfl rfl ?_
      refine x_iload_n (i := 2) 2 C dX9_get_21 rfl rfl ?_
      refine x_iload_n (i := 3) 3 C dX9_get_22 rfl rfl ?_
      obtain ⟨z3, e3, hf⟩ := bnd hf
      refine x_callV (r := 49) (As := [.int x1, .int x2, .int x3]) (rest := []) C dX9_get_23 kmX9_89 miX9_lacks (ctX9_lacks (lo X) (qo X) N z2.2 x1 x2 x3 z3.1 z3.2 e3) rfl rfl ⟨Nat.le_trans (by decide) B.2.2.2.1, Nat.le_trans (by decide) B.2.2.2.2.1⟩ (by simp [cat_i, cat_l, rf_cat]) rfl ?_
      refine x_if_eq (tgt := 32) C dX9_get_26 (by decide) (fun c => ?_) (fun c => ?_)
      · rw [if_pos c] at hf
        refine x_aload_n (i := 0) 0 C dX9_get_32 rfl rfl ?_
        refine x_getR (r := 49) (r2 := 52) C dX9_get_33 kfX9_16 rfl rfl (by decide) ?_
        refine x_bipush (v := 60) C dX9_get_36 (by decide) ?_
        refine x_iload_n (i := 1) 1 C dX9_get_38 rfl rfl ?_
        refine x_imul C dX9_get_39 ?_
        refine x_iload_n (i := 3) 3 C dX9_get_40 rfl rfl ?_
        refine x_iadd C dX9_get_41 ?_
        obtain ⟨g1, hf⟩ := ife hf
        refine x_iald (r := 52) C dX9_get_42 rfl g1 ?_
        obtain ⟨rfl, rfl⟩ := rtn hf
        exact B.2.2.2.2.2.1 _ _ rfl rfl rfl _ _ dX9_get_43
      · rw [if_neg c] at hf
        refine x_lv [] rfl ?_
        exact tX9_get_b29 N z3.2 B hf
theorem ctX9_get (l : Launch) (q : Nat → Nat) (N : Nat) (h : pH) (x1 : Int32) (x2 : Int32) (x3 : Int32) (v : Int32) (h' : pH) (hf : fX9_get N h x1 x2 x3 = some (v, h')) : Ctr l q yX9_get cX9_get 4 (some .int) 2 48 [rf q 49, .int x1, .int x2, .int x3] h h' (some (.int v)) := by
  refine ct_of (own := RX9) (lv := [(0, rf q 49), (1, .int x1), (2, .int x2), (3, .int x3)]) (by decide +kernel) rfl (by simp [lg_sl, rf_cat, cat_i, cat_l]) (by first | rfl | simp [lv_args, rf_cat, cat_i, cat_l]) ?_
  intro X B
  obtain rfl := B.2.1
  obtain rfl := B.2.2.1
  exact tX9_get N h x1 x2 x3 B hf
def fX9_copy_b14 (N : Nat) (h : pH)  : Option (Int32 × pH) :=
  some ((-2), h)
set_option maxRecDepth 100000 in
set_option maxHeartbeats 4000000 in
theorem tX9_copy_b14 {X : Xt} {v : Int32} {h' : pH} (N : Nat) (h : pH)  (B : Bd (lo X) (qo X) cX9_copy RX9 7 (some .int) 2 45 (some (.int v)) h' X) (hf : fX9_copy_b14 N h  = some (v, h')) : Wx X 7 14 [] [] h := by
  have C := B.1
  unfold fX9_copy_b14 at hf
  refine x_bipush (v := (-2)) C dX9_copy_14 (by decide) ?_
  obtain ⟨rfl, rfl⟩ := rtn hf
  exact B.2.2.2.2.2.1 _ _ rfl rfl rfl _ _ dX9_copy_16
def fX9_copy_b35 (N : Nat) (h : pH)  : Option (Int32 × pH) :=
  (fX9_finds N h 1).bind fun z1 => (some (z1.1, z1.2))
set_option maxRecDepth 100000 in
set_option maxHeartbeats 4000000 in
theorem tX9_copy_b35 {X : Xt} {v : Int32} {h' : pH} (N : Nat) (h : pH)  (B : Bd (lo X) (qo X) cX9_copy RX9 7 (some .int) 2 45 (some (.int v)) h' X) (hf : fX9_copy_b35 N h  = some (v, h')) : Wx X 7 35 [(0, rf (qo X) 49)] [] h := by
  have C := B.1
  unfold fX9_copy_b35 at hf
  refine x_aload_n (i := 0) 0 C dX9_copy_35 rfl rfl ?_
  refine x_iconst (v := 1) C dX9_copy_36 (by decide) ?_
  obtain ⟨z1, e1, hf⟩ := bnd hf
  refine x_callV (r := 49) (As := [.int 1]) (rest := []) C dX9_copy_37 kmX9_85 miX9_finds (ctX9_finds (lo X) (qo X) N h 1 z1.1 z1.2 e1) rfl rfl ⟨Nat.le_trans (by decide) B.2.2.2.1, Nat.le_trans (by decide) B.2.2.2.2.1⟩ (by simp [cat_i, cat_l, rf_cat]) rfl ?_
  obtain ⟨rfl, rfl⟩ := rtn hf
  exact B.2.2.2.2.2.1 _ _ rfl rfl rfl _ _ dX9_copy_40
def fX9_copy_b111 (N : Nat) (h : pH)  : Option (Int32 × pH) :=
  (fX9_finds N h 2).bind fun z1 => (some (z1.1, z1.2))
set_option maxRecDepth 100000 in
set_option maxHeartbeats 4000000 in
theorem tX9_copy_b111 {X : Xt} {v : Int32} {h' : pH} (N : Nat) (h : pH)  (B : Bd (lo X) (qo X) cX9_copy RX9 7 (some .int) 2 45 (some (.int v)) h' X) (hf : fX9_copy_b111 N h  = some (v, h')) : Wx X 7 111 [(0, rf (qo X) 49)] [] h := by
  have C := B.1
  unfold fX9_copy_b111 at hf
  refine x_aload_n (i := 0) 0 C dX9_copy_111 rfl rfl ?_
  refine x_iconst (v := 2) C dX9_copy_112 (by decide) ?_
  obtain ⟨z1, e1, hf⟩ := bnd hf
  refine x_callV (r := 49) (As := [.int 2]) (rest := []) C dX9_copy_113 kmX9_85 miX9_finds (ctX9_finds (lo X) (qo X) N h 2 z1.1 z1.2 e1) rfl rfl ⟨Nat.le_trans (by decide) B.2.2.2.1, Nat.le_trans (by decide) B.2.2.2.2.1⟩ (by simp [cat_i, cat_l, rf_cat]) rfl ?_
  obtain ⟨rfl, rfl⟩ := rtn hf
  exact B.2.2.2.2.2.1 _ _ rfl rfl rfl _ _ dX9_copy_116
def fX9_copy_B157 (N : Nat) (k157 : pH → Int32 → Int32 → Int32 → Int32 → Option (Int32 × pH)) (h : pH) (x3 : Int32) (x4 : Int32) (x5 : Int32) (x6 : Int32) : Option (Int32 × pH) :=
  if x5 ≤ x6 then (some (1, h)) else (if ix x6 60 = true then (if ix (((60 * x3) + x4) + x6) 240 = true then (k157 (pw h 52 (((60 * x3) + x4) + x6).toNatClampNeg (h.1 53 x6.toNatClampNeg)) x3 x4 x5 (x6 + 1)) else none) else none)
set_option maxRecDepth 100000 in
set_option maxHeartbeats 4000000 in
theorem tX9_copy_B157 {X : Xt} {v : Int32} {h' : pH} (N : Nat) (k157 : pH → Int32 → Int32 → Int32 → Int32 → Option (Int32 × pH)) (HK157 : ∀ (h : pH) (x3 : Int32) (x4 : Int32) (x5 : Int32) (x6 : Int32), k157 h x3 x4 x5 x6 = some (v, h') → Wx X 7 157 [(0, rf (qo X) 49), (3, .int x3), (4, .int x4), (5, .int x5), (6, .int x6)] [] h) (h : pH) (x3 : Int32) (x4 : Int32) (x5 : Int32) (x6 : Int32) (B : Bd (lo X) (qo X) cX9_copy RX9 7 (some .int) 2 45 (some (.int v)) h' X) (hf : fX9_copy_B157 N k157 h x3 x4 x5 x6 = some (v, h')) : Wx X 7 157 [(0, rf (qo X) 49), (3, .int x3), (4, .int x4), (5, .int x5), (6, .int x6)] [] h := by
  have C := B.1
  unfold fX9_copy_B157 at hf
  refine x_iload 4 C dX9_copy_157 rfl ?_
  refine x_iload 3 C dX9_copy_159 rfl ?_
  refine x_icmp_ge (tgt := 192) C dX9_copy_161 (by decide) (fun c => ?_) (fun c => ?_)
  · rw [if_pos c] at hf
    refine x_iconst (v := 1) C dX9_copy_192 (by decide) ?_
    obtain ⟨rfl, rfl⟩ := rtn hf
    exact B.2.2.2.2.2.1 _ _ rfl rfl rfl _ _ dX9_copy_193
  · rw [if_neg c] at hf
    refine x_aload_n (i := 0) 0 C dX9_copy_164 rfl rfl ?_
    refine x_getR (r := 49) (r2 := 52) C dX9_copy_165 kfX9_16 rfl rfl (by decide) ?_
    refine x_bipush (v := 60) C dX9_copy_168 (by decide) ?_
    refine x_iload_n (i := 3) 1 C dX9_copy_170 rfl rfl ?_
    refine x_imul C dX9_copy_171 ?_
    refine x_iload 2 C dX9_copy_172 rfl ?_
    refine x_iadd C dX9_copy_174 ?_
    refine x_iload 4 C dX9_copy_175 rfl ?_
    refine x_iadd C dX9_copy_177 ?_
    refine x_aload_n (i := 0) 0 C dX9_copy_178 rfl rfl ?_
    refine x_getR (r := 49) (r2 := 53) C dX9_copy_179 kfX9_19 rfl rfl (by decide) ?_
    refine x_iload 4 C dX9_copy_182 rfl ?_
    obtain ⟨g1, hf⟩ := ife hf
    refine x_iald (r := 53) C dX9_copy_184 rfl g1 ?_
    obtain ⟨g2, hf⟩ := ife hf
    refine x_iast (r := 52) C dX9_copy_185 rfl g2 ?_
    refine x_iinc (v := x6 + 1) (lv' := [(6, .int (x6 + 1)), (0, rf (qo X) 49), (3, .int x3), (4, .int x4), (5, .int x5)]) 4 C dX9_copy_186 rfl rfl (by decide) rfl ?_
    refine x_goto (tgt := 157) C dX9_copy_189 (by decide) ?_
    refine x_lv [1, 2, 3, 4, 0] rfl ?_
    exact HK157 (pw h 52 (((60 * x3) + x4) + x6).toNatClampNeg (h.1 53 x6.toNatClampNeg)) x3 x4 x5 (x6 + 1) hf
def fX9_copy_L157 (N : Nat) : Nat → pH → Int32 → Int32 → Int32 → Int32 → Option (Int32 × pH)
  | 0 => fun _ _ _ _ _ => none
  | n + 1 => fX9_copy_B157 N (fX9_copy_L157 N n)
theorem tX9_copy_L157 {X : Xt} {v : Int32} {h' : pH} (N : Nat) (B : Bd (lo X) (qo X) cX9_copy RX9 7 (some .int) 2 45 (some (.int v)) h' X) : ∀ (n : Nat) (h : pH) (x3 : Int32) (x4 : Int32) (x5 : Int32) (x6 : Int32), fX9_copy_L157 N n h x3 x4 x5 x6 = some (v, h') → Wx X 7 157 [(0, rf (qo X) 49), (3, .int x3), (4, .int x4), (5, .int x5), (6, .int x6)] [] h := by
  intro n
  induction n with
  | zero => intro h x3 x4 x5 x6 hf; exact absurd (show (none : Option (Int32 × pH)) = some (v, h') from hf) (fun z => by cases z)
  | succ n ih => intro h x3 x4 x5 x6 hf; exact tX9_copy_B157 N (fX9_copy_L157 N n) ih h x3 x4 x5 x6 B hf
def fX9_copy_B120 (N : Nat) (k120 : pH → Int32 → Int32 → Int32 → Int32 → Int32 → Int32 → Option (Int32 × pH)) (h : pH) (x1 : Int32) (x2 : Int32) (x3 : Int32) (x4 : Int32) (x5 : Int32) (x6 : Int32) : Option (Int32 × pH) :=
  if x5 ≤ x6 then (fX9_copy_L157 N N h x3 x4 x5 0) else (if ix (((60 * x1) + x2) + x6) 240 = true then (if ix x6 60 = true then (k120 (pw h 53 x6.toNatClampNeg (h.1 52 (((60 * x1) + x2) + x6).toNatClampNeg)) x1 x2 x3 x4 x5 (x6 + 1)) else none) else none)
set_option maxRecDepth 100000 in
set_option maxHeartbeats 4000000 in
theorem tX9_copy_B120 {X : Xt} {v : Int32} {h' : pH} (N : Nat) (k120 : pH → Int32 → Int32 → Int32 → Int32 → Int32 → Int32 → Option (Int32 × pH)) (HK120 : ∀ (h : pH) (x1 : Int32) (x2 : Int32) (x3 : Int32) (x4 : Int32) (x5 : Int32) (x6 : Int32), k120 h x1 x2 x3 x4 x5 x6 = some (v, h') → Wx X 7 120 [(0, rf (qo X) 49), (1, .int x1), (2, .int x2), (3, .int x3), (4, .int x4), (5, .int x5), (6, .int x6)] [] h) (h : pH) (x1 : Int32) (x2 : Int32) (x3 : Int32) (x4 : Int32) (x5 : Int32) (x6 : Int32) (B : Bd (lo X) (qo X) cX9_copy RX9 7 (some .int) 2 45 (some (.int v)) h' X) (hf : fX9_copy_B120 N k120 h x1 x2 x3 x4 x5 x6 = some (v, h')) : Wx X 7 120 [(0, rf (qo X) 49), (1, .int x1), (2, .int x2), (3, .int x3), (4, .int x4), (5, .int x5), (6, .int x6)] [] h := by
  have C := B.1
  unfold fX9_copy_B120 at hf
  refine x_iload 6 C dX9_copy_120 rfl ?_
  refine x_iload 5 C dX9_copy_122 rfl ?_
  refine x_icmp_ge (tgt := 154) C dX9_copy_124 (by decide) (fun c => ?_) (fun c => ?_)
  · rw [if_pos c] at hf
    refine x_iconst (v := 0) C dX9_copy_154 (by decide) ?_
    refine x_istore (lv' := [(6, .int 0), (0, rf (qo X) 49), (1, .int x1), (2, .int x2), (3, .int x3), (4, .int x4), (5, .int x5)]) C dX9_copy_155 (by decide) rfl ?_
    refine x_lv [1, 4, 5, 6, 0] rfl ?_
    exact tX9_copy_L157 N  B N h x3 x4 x5 0 hf
  · rw [if_neg c] at hf
    refine x_aload_n (i := 0) 0 C dX9_copy_127 rfl rfl ?_
    refine x_getR (r := 49) (r2 := 53) C dX9_copy_128 kfX9_19 rfl rfl (by decide) ?_
    refine x_iload 6 C dX9_copy_131 rfl ?_
    refine x_aload_n (i := 0) 0 C dX9_copy_133 rfl rfl ?_
    refine x_getR (r := 49) (r2 := 52) C dX9_copy_134 kfX9_16 rfl rfl (by decide) ?_
    refine x_bipush (v := 60) C dX9_copy_137 (by decide) ?_
    refine x_iload_n (i := 1) 1 C dX9_copy_139 rfl rfl ?_
    refine x_imul C dX9_copy_140 ?_
    refine x_iload_n (i := 2) 2 C dX9_copy_141 rfl rfl ?_
    refine x_iadd C dX9_copy_142 ?_
    refine x_iload 6 C dX9_copy_143 rfl ?_
    refine x_iadd C dX9_copy_145 ?_
    obtain ⟨g1, hf⟩ := ife hf
    refine x_iald (r := 52) C dX9_copy_146 rfl g1 ?_
    obtain ⟨g2, hf⟩ := ife hf
    refine x_iast (r := 53) C dX9_copy_147 rfl g2 ?_
    refine x_iinc (v := x6 + 1) (lv' := [(6, .int (x6 + 1)), (0, rf (qo X) 49), (1, .int x1), (2, .int x2), (3, .int x3), (4, .int x4), (5, .int x5)]) 6 C dX9_copy_148 rfl rfl (by decide) rfl ?_
    refine x_goto (tgt := 120) C dX9_copy_151 (by decide) ?_
    refine x_lv [1, 2, 3, 4, 5, 6, 0] rfl ?_
    exact HK120 (pw h 53 x6.toNatClampNeg (h.1 52 (((60 * x1) + x2) + x6).toNatClampNeg)) x1 x2 x3 x4 x5 (x6 + 1) hf
def fX9_copy_L120 (N : Nat) : Nat → pH → Int32 → Int32 → Int32 → Int32 → Int32 → Int32 → Option (Int32 × pH)
  | 0 => fun _ _ _ _ _ _ _ => none
  | n + 1 => fX9_copy_B120 N (fX9_copy_L120 N n)
theorem tX9_copy_L120 {X : Xt} {v : Int32} {h' : pH} (N : Nat) (B : Bd (lo X) (qo X) cX9_copy RX9 7 (some .int) 2 45 (some (.int v)) h' X) : ∀ (n : Nat) (h : pH) (x1 : Int32) (x2 : Int32) (x3 : Int32) (x4 : Int32) (x5 : Int32) (x6 : Int32), fX9_copy_L120 N n h x1 x2 x3 x4 x5 x6 = some (v, h') → Wx X 7 120 [(0, rf (qo X) 49), (1, .int x1), (2, .int x2), (3, .int x3), (4, .int x4), (5, .int x5), (6, .int x6)] [] h := by
  intro n
  induction n with
  | zero => intro h x1 x2 x3 x4 x5 x6 hf; exact absurd (show (none : Option (Int32 × pH)) = some (v, h') from hf) (fun z => by cases z)
  | succ n ih => intro h x1 x2 x3 x4 x5 x6 hf; exact tX9_copy_B120 N (fX9_copy_L120 N n) ih h x1 x2 x3 x4 x5 x6 B hf
def fX9_copy (N : Nat) (h : pH) (x1 : Int32) (x2 : Int32) (x3 : Int32) (x4 : Int32) (x5 : Int32) : Option (Int32 × pH) :=
  (fX9_isSheet N h x1).bind fun z1 => (if z1.1 = 0 then (fX9_copy_b14 N z1.2) else ((fX9_isSheet N z1.2 x3).bind fun z2 => (if z2.1 = 0 then (fX9_copy_b14 N z2.2) else (if ix x1 4 = true then (if (z2.2.1 50 x1.toNatClampNeg) < 0 then (fX9_copy_b35 N z2.2) else (if ix x3 4 = true then (if 0 ≤ (z2.2.1 50 x3.toNatClampNeg) then (if ix x1 4 = true then (if ix x3 4 = true then (if (z2.2.1 50 x1.toNatClampNeg) = (z2.2.1 50 x3.toNatClampNeg) then (if x2 < 0 then (fX9_copy_b111 N z2.2) else (if x4 < 0 then (fX9_copy_b111 N z2.2) else (if x5 < 0 then (fX9_copy_b111 N z2.2) else (if ix x1 4 = true then (if 0 < (lg_cmp (x2.toInt64 + x5.toInt64) ((z2.2.1 51 x1.toNatClampNeg).toInt64)) then (fX9_copy_b111 N z2.2) else (if ix x3 4 = true then (if (lg_cmp (x4.toInt64 + x5.toInt64) ((z2.2.1 51 x3.toNatClampNeg).toInt64)) ≤ 0 then (fX9_copy_L120 N N z2.2 x1 x2 x3 x4 x5 0) else (fX9_copy_b111 N z2.2)) else none)) else none)))) else ((fX9_finds N z2.2 4).bind fun z3 => (some (z3.1, z3.2)))) else none) else none) else (fX9_copy_b35 N z2.2)) else none)) else none))))
set_option maxRecDepth 100000 in
set_option maxHeartbeats 4000000 in
theorem tX9_copy {X : Xt} {v : Int32} {h' : pH} (N : Nat) (h : pH) (x1 : Int32) (x2 : Int32) (x3 : Int32) (x4 : Int32) (x5 : Int32) (B : Bd (lo X) (qo X) cX9_copy RX9 7 (some .int) 2 45 (some (.int v)) h' X) (hf : fX9_copy N h x1 x2 x3 x4 x5 = some (v, h')) : Wx X 7 0 [(0, rf (qo X) 49), (1, .int x1), (2, .int x2), (3, .int x3), (4, .int x4), (5, .int x5)] [] h := by
  have C := B.1
  unfold fX9_copy at hf
  refine x_iload_n (i := 1) 1 C dX9_copy_0 rfl rfl ?_
  obtain ⟨z1, e1, hf⟩ := bnd hf
  refine x_callS (As := [.int x1]) (rest := []) C dX9_copy_1 kmX9_79 miX9_isSheet (ctX9_isSheet (lo X) (qo X) N h x1 z1.1 z1.2 e1) rfl rfl ⟨Nat.le_trans (by decide) B.2.2.2.1, Nat.le_trans (by decide) B.2.2.2.2.1⟩ (by simp [cat_i, cat_l, rf_cat]) ?_
  refine x_if_eq (tgt := 14) C dX9_copy_4 (by decide) (fun c => ?_) (fun c => ?_)
  · rw [if_pos c] at hf
    refine x_lv [] rfl ?_
    exact tX9_copy_b14 N z1.2 B hf
  · rw [if_neg c] at hf
    refine x_iload_n (i := 3) 3 C dX9_copy_7 rfl rfl ?_
    obtain ⟨z2, e2, hf⟩ := bnd hf
    refine x_callS (As := [.int x3]) (rest := []) C dX9_copy_8 kmX9_79 miX9_isSheet (ctX9_isSheet (lo X) (qo X) N z1.2 x3 z2.1 z2.2 e2) rfl rfl ⟨Nat.le_trans (by decide) B.2.2.2.1, Nat.le_trans (by decide) B.2.2.2.2.1⟩ (by simp [cat_i, cat_l, rf_cat]) ?_
    refine x_if_ne (tgt := 17) C dX9_copy_11 (by decide) (fun c => ?_) (fun c => ?_)
    · rw [if_neg c] at hf
      refine x_aload_n (i := 0) 0 C dX9_copy_17 rfl rfl ?_
      refine x_getR (r := 49) (r2 := 50) C dX9_copy_18 kfX9_7 rfl rfl (by decide) ?_
      refine x_iload_n (i := 1) 1 C dX9_copy_21 rfl rfl ?_
      obtain ⟨g1, hf⟩ := ife hf
      refine x_iald (r := 50) C dX9_copy_22 rfl g1 ?_
      refine x_if_lt (tgt := 35) C dX9_copy_23 (by decide) (fun c => ?_) (fun c => ?_)
      · rw [if_pos c] at hf
        refine x_lv [0] rfl ?_
        exact tX9_copy_b35 N z2.2 B hf
      · rw [if_neg c] at hf
        refine x_aload_n (i := 0) 0 C dX9_copy_26 rfl rfl ?_
        refine x_getR (r := 49) (r2 := 50) C dX9_copy_27 kfX9_7 rfl rfl (by decide) ?_
        refine x_iload_n (i := 3) 3 C dX9_copy_30 rfl rfl ?_
        obtain ⟨g2, hf⟩ := ife hf
        refine x_iald (r := 50) C dX9_copy_31 rfl g2 ?_
        refine x_if_ge (tgt := 41) C dX9_copy_32 (by decide) (fun c => ?_) (fun c => ?_)
        · rw [if_pos c] at hf
          refine x_aload_n (i := 0) 0 C dX9_copy_41 rfl rfl ?_
          refine x_getR (r := 49) (r2 := 50) C dX9_copy_42 kfX9_7 rfl rfl (by decide) ?_
          refine x_iload_n (i := 1) 1 C dX9_copy_45 rfl rfl ?_
          obtain ⟨g3, hf⟩ := ife hf
          refine x_iald (r := 50) C dX9_copy_46 rfl g3 ?_
          refine x_aload_n (i := 0) 0 C dX9_copy_47 rfl rfl ?_
          refine x_getR (r := 49) (r2 := 50) C dX9_copy_48 kfX9_7 rfl rfl (by decide) ?_
          refine x_iload_n (i := 3) 3 C dX9_copy_51 rfl rfl ?_
          obtain ⟨g4, hf⟩ := ife hf
          refine x_iald (r := 50) C dX9_copy_52 rfl g4 ?_
          refine x_icmp_eq (tgt := 62) C dX9_copy_53 (by decide) (fun c => ?_) (fun c => ?_)
          · rw [if_pos c] at hf
            refine x_iload_n (i := 2) 2 C dX9_copy_62 rfl rfl ?_
            refine x_if_lt (tgt := 111) C dX9_copy_63 (by decide) (fun c => ?_) (fun c => ?_)
            · rw [if_pos c] at hf
              refine x_lv [0] rfl ?_
              exact tX9_copy_b111 N z2.2 B hf
            · rw [if_neg c] at hf
              refine x_iload 4 C dX9_copy_66 rfl ?_
              refine x_if_lt (tgt := 111) C dX9_copy_68 (by decide) (fun c => ?_) (fun c => ?_)
              · rw [if_pos c] at hf
                refine x_lv [0] rfl ?_
                exact tX9_copy_b111 N z2.2 B hf
              · rw [if_neg c] at hf
                refine x_iload 5 C dX9_copy_71 rfl ?_
                refine x_if_lt (tgt := 111) C dX9_copy_73 (by decide) (fun c => ?_) (fun c => ?_)
                · rw [if_pos c] at hf
                  refine x_lv [0] rfl ?_
                  exact tX9_copy_b111 N z2.2 B hf
                · rw [if_neg c] at hf
                  refine x_iload_n (i := 2) 2 C dX9_copy_76 rfl rfl ?_
                  refine x_i2l C dX9_copy_77 ?_
                  refine x_iload 5 C dX9_copy_78 rfl ?_
                  refine x_i2l C dX9_copy_80 ?_
                  refine x_ladd C dX9_copy_81 ?_
                  refine x_aload_n (i := 0) 0 C dX9_copy_82 rfl rfl ?_
                  refine x_getR (r := 49) (r2 := 51) C dX9_copy_83 kfX9_13 rfl rfl (by decide) ?_
                  refine x_iload_n (i := 1) 1 C dX9_copy_86 rfl rfl ?_
                  obtain ⟨g5, hf⟩ := ife hf
                  refine x_iald (r := 51) C dX9_copy_87 rfl g5 ?_
                  refine x_i2l C dX9_copy_88 ?_
                  refine x_lcmp C dX9_copy_89 ?_
                  refine x_if_gt (tgt := 111) C dX9_copy_90 (by decide) (fun c => ?_) (fun c => ?_)
                  · rw [if_pos c] at hf
                    refine x_lv [0] rfl ?_
                    exact tX9_copy_b111 N z2.2 B hf
                  · rw [if_neg c] at hf
                    refine x_iload 4 C dX9_copy_93 rfl ?_
                    refine x_i2l C dX9_copy_95 ?_
                    refine x_iload 5 C dX9_copy_96 rfl ?_
                    refine x_i2l C dX9_copy_98 ?_
                    refine x_ladd C dX9_copy_99 ?_
                    refine x_aload_n (i := 0) 0 C dX9_copy_100 rfl rfl ?_
                    refine x_getR (r := 49) (r2 := 51) C dX9_copy_101 kfX9_13 rfl rfl (by decide) ?_
                    refine x_iload_n (i := 3) 3 C dX9_copy_104 rfl rfl ?_
                    obtain ⟨g6, hf⟩ := ife hf
                    refine x_iald (r := 51) C dX9_copy_105 rfl g6 ?_
                    refine x_i2l C dX9_copy_106 ?_
                    refine x_lcmp C dX9_copy_107 ?_
                    refine x_if_le (tgt := 117) C dX9_copy_108 (by decide) (fun c => ?_) (fun c => ?_)
                    · rw [if_pos c] at hf
                      refine x_iconst (v := 0) C dX9_copy_117 (by decide) ?_
                      refine x_istore (lv' := [(6, .int 0), (0, rf (qo X) 49), (1, .int x1), (2, .int x2), (3, .int x3), (4, .int x4), (5, .int x5)]) C dX9_copy_118 (by decide) rfl ?_
                      refine x_lv [1, 2, 3, 4, 5, 6, 0] rfl ?_
                      exact tX9_copy_L120 N  B N z2.2 x1 x2 x3 x4 x5 0 hf
                    · rw [if_neg c] at hf
                      refine x_lv [0] rfl ?_
                      exact tX9_copy_b111 N z2.2 B hf
          · rw [if_neg c] at hf
            refine x_aload_n (i := 0) 0 C dX9_copy_56 rfl rfl ?_
            refine x_iconst (v := 4) C dX9_copy_57 (by decide) ?_
            obtain ⟨z3, e3, hf⟩ := bnd hf
            refine x_callV (r := 49) (As := [.int 4]) (rest := []) C dX9_copy_58 kmX9_85 miX9_finds (ctX9_finds (lo X) (qo X) N z2.2 4 z3.1 z3.2 e3) rfl rfl ⟨Nat.le_trans (by decide) B.2.2.2.1, Nat.le_trans (by decide) B.2.2.2.2.1⟩ (by simp [cat_i, cat_l, rf_cat]) rfl ?_
            obtain ⟨rfl, rfl⟩ := rtn hf
            exact B.2.2.2.2.2.1 _ _ rfl rfl rfl _ _ dX9_copy_61
        · rw [if_neg c] at hf
          refine x_lv [0] rfl ?_
          exact tX9_copy_b35 N z2.2 B hf
    · rw [if_pos c] at hf
      refine x_lv [] rfl ?_
      exact tX9_copy_b14 N z2.2 B hf
theorem ctX9_copy (l : Launch) (q : Nat → Nat) (N : Nat) (h : pH) (x1 : Int32) (x2 : Int32) (x3 : Int32) (x4 : Int32) (x5 : Int32) (v : Int32) (h' : pH) (hf : fX9_copy N h x1 x2 x3 x4 x5 = some (v, h')) : Ctr l q yX9_copy cX9_copy 7 (some .int) 2 45 [rf q 49, .int x1, .int x2, .int x3, .int x4, .int x5] h h' (some (.int v)) := by
  refine ct_of (own := RX9) (lv := [(0, rf q 49), (1, .int x1), (2, .int x2), (3, .int x3), (4, .int x4), (5, .int x5)]) (by decide +kernel) rfl (by simp [lg_sl, rf_cat, cat_i, cat_l]) (by first | rfl | simp [lv_args, rf_cat, cat_i, cat_l]) ?_
  intro X B
  obtain rfl := B.2.1
  obtain rfl := B.2.2.1
  exact tX9_copy N h x1 x2 x3 x4 x5 B hf
def fX9_isText (N : Nat) (h : pH) (x0 : Int32) : Option (Int32 × pH) :=
  (fX9_in N h x0.toInt64 0 2).bind fun z1 => (if z1.1 = 0 ∨ z1.1 = 1 then (some (z1.1, z1.2)) else none)
set_option maxRecDepth 100000 in
set_option maxHeartbeats 4000000 in
theorem tX9_isText {X : Xt} {v : Int32} {h' : pH} (N : Nat) (h : pH) (x0 : Int32) (B : Bd (lo X) (qo X) cX9_isText RX9 1 (some .boolean) 1 25 (some (.int v)) h' X) (hf : fX9_isText N h x0 = some (v, h')) : Wx X 1 0 [(0, .int x0)] [] h := by
  have C := B.1
  unfold fX9_isText at hf
  refine x_iload_n (i := 0) 0 C dX9_isText_0 rfl rfl ?_
  refine x_i2l C dX9_isText_1 ?_
  refine x_lconst (v := 0) C dX9_isText_2 (by decide) ?_
  refine x_ldc2 (v := 2) C dX9_isText_3 kkX9_83 ?_
  obtain ⟨z1, e1, hf⟩ := bnd hf
  refine x_callS (As := [.long x0.toInt64, .long 0, .long 2]) (rest := []) C dX9_isText_6 kmX9_69 miX9_in (ctX9_in (lo X) (qo X) N h x0.toInt64 0 2 z1.1 z1.2 e1) rfl rfl ⟨Nat.le_trans (by decide) B.2.2.2.1, Nat.le_trans (by decide) B.2.2.2.2.1⟩ (by simp [cat_i, cat_l, rf_cat]) ?_
  obtain ⟨g1, hf⟩ := ife hf
  obtain ⟨rfl, rfl⟩ := rtn hf
  exact B.2.2.2.2.2.1 _ _ rfl rfl (nrB g1) _ _ dX9_isText_9
theorem ctX9_isText (l : Launch) (q : Nat → Nat) (N : Nat) (h : pH) (x0 : Int32) (v : Int32) (h' : pH) (hf : fX9_isText N h x0 = some (v, h')) : Ctr l q yX9_isText cX9_isText 1 (some .boolean) 1 25 [.int x0] h h' (some (.int v)) := by
  refine ct_of (own := RX9) (lv := [(0, .int x0)]) (by decide +kernel) rfl (by simp [lg_sl, rf_cat, cat_i, cat_l]) (by first | rfl | simp [lv_args, rf_cat, cat_i, cat_l]) ?_
  intro X B
  obtain rfl := B.2.1
  obtain rfl := B.2.2.1
  exact tX9_isText N h x0 B hf
def fX9_type_b19 (N : Nat) (h : pH)  : Option (Int32 × pH) :=
  some ((-2), h)
set_option maxRecDepth 100000 in
set_option maxHeartbeats 4000000 in
theorem tX9_type_b19 {X : Xt} {v : Int32} {h' : pH} (N : Nat) (h : pH)  (B : Bd (lo X) (qo X) cX9_type RX9 3 (some .int) 2 45 (some (.int v)) h' X) (hf : fX9_type_b19 N h  = some (v, h')) : Wx X 3 19 [] [] h := by
  have C := B.1
  unfold fX9_type_b19 at hf
  refine x_bipush (v := (-2)) C dX9_type_19 (by decide) ?_
  obtain ⟨rfl, rfl⟩ := rtn hf
  exact B.2.2.2.2.2.1 _ _ rfl rfl rfl _ _ dX9_type_21
def fX9_type_b49 (N : Nat) (h : pH) (x1 : Int32) (x2 : Int32) (xs0 : Int32) (xs1 : Int32) : Option (Int32 × pH) :=
  if xs1 = xs0 then (some ((-4), h)) else (if ix x1 3 = true then (if ix ((40 * x1) + (h.1 55 x1.toNatClampNeg)) 120 = true then (if ix x1 3 = true then (if ix x1 3 = true then (if ix x1 3 = true then (some ((pw (pw h 54 ((40 * x1) + (h.1 55 x1.toNatClampNeg)).toNatClampNeg x2) 55 x1.toNatClampNeg (((pw h 54 ((40 * x1) + (h.1 55 x1.toNatClampNeg)).toNatClampNeg x2).1 55 x1.toNatClampNeg) + 1)).1 55 x1.toNatClampNeg, (pw (pw h 54 ((40 * x1) + (h.1 55 x1.toNatClampNeg)).toNatClampNeg x2) 55 x1.toNatClampNeg (((pw h 54 ((40 * x1) + (h.1 55 x1.toNatClampNeg)).toNatClampNeg x2).1 55 x1.toNatClampNeg) + 1)))) else none) else none) else none) else none) else none)
set_option maxRecDepth 100000 in
set_option maxHeartbeats 4000000 in
theorem tX9_type_b49 {X : Xt} {v : Int32} {h' : pH} (N : Nat) (h : pH) (x1 : Int32) (x2 : Int32) (xs0 : Int32) (xs1 : Int32) (B : Bd (lo X) (qo X) cX9_type RX9 3 (some .int) 2 45 (some (.int v)) h' X) (hf : fX9_type_b49 N h x1 x2 xs0 xs1 = some (v, h')) : Wx X 3 49 [(0, rf (qo X) 49), (1, .int x1), (2, .int x2)] [.int xs0, .int xs1] h := by
  have C := B.1
  unfold fX9_type_b49 at hf
  refine x_icmp_ne (tgt := 55) C dX9_type_49 (by decide) (fun c => ?_) (fun c => ?_)
  · rw [if_neg c] at hf
    refine x_aload_n (i := 0) 0 C dX9_type_55 rfl rfl ?_
    refine x_getR (r := 49) (r2 := 54) C dX9_type_56 kfX9_22 rfl rfl (by decide) ?_
    refine x_bipush (v := 40) C dX9_type_59 (by decide) ?_
    refine x_iload_n (i := 1) 1 C dX9_type_61 rfl rfl ?_
    refine x_imul C dX9_type_62 ?_
    refine x_aload_n (i := 0) 0 C dX9_type_63 rfl rfl ?_
    refine x_getR (r := 49) (r2 := 55) C dX9_type_64 kfX9_25 rfl rfl (by decide) ?_
    refine x_iload_n (i := 1) 1 C dX9_type_67 rfl rfl ?_
    obtain ⟨g1, hf⟩ := ife hf
    refine x_iald (r := 55) C dX9_type_68 rfl g1 ?_
    refine x_iadd C dX9_type_69 ?_
    refine x_iload_n (i := 2) 2 C dX9_type_70 rfl rfl ?_
    obtain ⟨g2, hf⟩ := ife hf
    refine x_iast (r := 54) C dX9_type_71 rfl g2 ?_
    refine x_aload_n (i := 0) 0 C dX9_type_72 rfl rfl ?_
    refine x_getR (r := 49) (r2 := 55) C dX9_type_73 kfX9_25 rfl rfl (by decide) ?_
    refine x_iload_n (i := 1) 1 C dX9_type_76 rfl rfl ?_
    refine x_dup2IA C dX9_type_77 ?_
    obtain ⟨g3, hf⟩ := ife hf
    refine x_iald (r := 55) C dX9_type_78 rfl g3 ?_
    refine x_iconst (v := 1) C dX9_type_79 (by decide) ?_
    refine x_iadd C dX9_type_80 ?_
    obtain ⟨g4, hf⟩ := ife hf
    refine x_iast (r := 55) C dX9_type_81 rfl g4 ?_
    refine x_aload_n (i := 0) 0 C dX9_type_82 rfl rfl ?_
    refine x_getR (r := 49) (r2 := 55) C dX9_type_83 kfX9_25 rfl rfl (by decide) ?_
    refine x_iload_n (i := 1) 1 C dX9_type_86 rfl rfl ?_
    obtain ⟨g5, hf⟩ := ife hf
    refine x_iald (r := 55) C dX9_type_87 rfl g5 ?_
    obtain ⟨rfl, rfl⟩ := rtn hf
    exact B.2.2.2.2.2.1 _ _ rfl rfl rfl _ _ dX9_type_88
  · rw [if_pos c] at hf
    refine x_bipush (v := (-4)) C dX9_type_52 (by decide) ?_
    obtain ⟨rfl, rfl⟩ := rtn hf
    exact B.2.2.2.2.2.1 _ _ rfl rfl rfl _ _ dX9_type_54
def fX9_type (N : Nat) (h : pH) (x1 : Int32) (x2 : Int32) : Option (Int32 × pH) :=
  (fX9_isText N h x1).bind fun z1 => (if z1.1 = 0 then (fX9_type_b19 N z1.2) else ((fX9_in N z1.2 x2.toInt64 0 255).bind fun z2 => (if z2.1 = 0 then (fX9_type_b19 N z2.2) else (if ix x1 3 = true then (if x1 = 0 then (fX9_type_b49 N z2.2 x1 x2 19 (z2.2.1 55 x1.toNatClampNeg)) else (if x1 = 1 then (fX9_type_b49 N z2.2 x1 x2 39 (z2.2.1 55 x1.toNatClampNeg)) else (fX9_type_b49 N z2.2 x1 x2 24 (z2.2.1 55 x1.toNatClampNeg)))) else none))))
set_option maxRecDepth 100000 in
set_option maxHeartbeats 4000000 in
theorem tX9_type {X : Xt} {v : Int32} {h' : pH} (N : Nat) (h : pH) (x1 : Int32) (x2 : Int32) (B : Bd (lo X) (qo X) cX9_type RX9 3 (some .int) 2 45 (some (.int v)) h' X) (hf : fX9_type N h x1 x2 = some (v, h')) : Wx X 3 0 [(0, rf (qo X) 49), (1, .int x1), (2, .int x2)] [] h := by
  have C := B.1
  unfold fX9_type at hf
  refine x_iload_n (i := 1) 1 C dX9_type_0 rfl rfl ?_
  obtain ⟨z1, e1, hf⟩ := bnd hf
  refine x_callS (As := [.int x1]) (rest := []) C dX9_type_1 kmX9_98 miX9_isText (ctX9_isText (lo X) (qo X) N h x1 z1.1 z1.2 e1) rfl rfl ⟨Nat.le_trans (by decide) B.2.2.2.1, Nat.le_trans (by decide) B.2.2.2.2.1⟩ (by simp [cat_i, cat_l, rf_cat]) ?_
  refine x_if_eq (tgt := 19) C dX9_type_4 (by decide) (fun c => ?_) (fun c => ?_)
  · rw [if_pos c] at hf
    refine x_lv [] rfl ?_
    exact tX9_type_b19 N z1.2 B hf
  · rw [if_neg c] at hf
    refine x_iload_n (i := 2) 2 C dX9_type_7 rfl rfl ?_
    refine x_i2l C dX9_type_8 ?_
    refine x_lconst (v := 0) C dX9_type_9 (by decide) ?_
    refine x_ldc2 (v := 255) C dX9_type_10 kkX9_101 ?_
    obtain ⟨z2, e2, hf⟩ := bnd hf
    refine x_callS (As := [.long x2.toInt64, .long 0, .long 255]) (rest := []) C dX9_type_13 kmX9_69 miX9_in (ctX9_in (lo X) (qo X) N z1.2 x2.toInt64 0 255 z2.1 z2.2 e2) rfl rfl ⟨Nat.le_trans (by decide) B.2.2.2.1, Nat.le_trans (by decide) B.2.2.2.2.1⟩ (by simp [cat_i, cat_l, rf_cat]) ?_
    refine x_if_ne (tgt := 22) C dX9_type_16 (by decide) (fun c => ?_) (fun c => ?_)
    · rw [if_neg c] at hf
      refine x_aload_n (i := 0) 0 C dX9_type_22 rfl rfl ?_
      refine x_getR (r := 49) (r2 := 55) C dX9_type_23 kfX9_25 rfl rfl (by decide) ?_
      refine x_iload_n (i := 1) 1 C dX9_type_26 rfl rfl ?_
      obtain ⟨g1, hf⟩ := ife hf
      refine x_iald (r := 55) C dX9_type_27 rfl g1 ?_
      refine x_iload_n (i := 1) 1 C dX9_type_28 rfl rfl ?_
      refine x_if_ne (tgt := 37) C dX9_type_29 (by decide) (fun c => ?_) (fun c => ?_)
      · rw [if_neg c] at hf
        refine x_iload_n (i := 1) 1 C dX9_type_37 rfl rfl ?_
        refine x_iconst (v := 1) C dX9_type_38 (by decide) ?_
        refine x_icmp_ne (tgt := 47) C dX9_type_39 (by decide) (fun c => ?_) (fun c => ?_)
        · rw [if_neg c] at hf
          refine x_bipush (v := 24) C dX9_type_47 (by decide) ?_
          exact tX9_type_b49 N z2.2 x1 x2 24 (z2.2.1 55 x1.toNatClampNeg) B hf
        · rw [if_pos c] at hf
          refine x_bipush (v := 39) C dX9_type_42 (by decide) ?_
          refine x_goto (tgt := 49) C dX9_type_44 (by decide) ?_
          exact tX9_type_b49 N z2.2 x1 x2 39 (z2.2.1 55 x1.toNatClampNeg) B hf
      · rw [if_pos c] at hf
        refine x_bipush (v := 19) C dX9_type_32 (by decide) ?_
        refine x_goto (tgt := 49) C dX9_type_34 (by decide) ?_
        exact tX9_type_b49 N z2.2 x1 x2 19 (z2.2.1 55 x1.toNatClampNeg) B hf
    · rw [if_pos c] at hf
      refine x_lv [] rfl ?_
      exact tX9_type_b19 N z2.2 B hf
theorem ctX9_type (l : Launch) (q : Nat → Nat) (N : Nat) (h : pH) (x1 : Int32) (x2 : Int32) (v : Int32) (h' : pH) (hf : fX9_type N h x1 x2 = some (v, h')) : Ctr l q yX9_type cX9_type 3 (some .int) 2 45 [rf q 49, .int x1, .int x2] h h' (some (.int v)) := by
  refine ct_of (own := RX9) (lv := [(0, rf q 49), (1, .int x1), (2, .int x2)]) (by decide +kernel) rfl (by simp [lg_sl, rf_cat, cat_i, cat_l]) (by first | rfl | simp [lv_args, rf_cat, cat_i, cat_l]) ?_
  intro X B
  obtain rfl := B.2.1
  obtain rfl := B.2.2.1
  exact tX9_type N h x1 x2 B hf
def fX9_wipe (N : Nat) (h : pH) (x1 : Int32) : Option (Int32 × pH) :=
  (fX9_isText N h x1).bind fun z1 => (if z1.1 = 0 then (some ((-2), z1.2)) else (if ix x1 3 = true then (if ix x1 3 = true then (some (z1.2.1 55 x1.toNatClampNeg, (pw z1.2 55 x1.toNatClampNeg 0))) else none) else none))
set_option maxRecDepth 100000 in
set_option maxHeartbeats 4000000 in
theorem tX9_wipe {X : Xt} {v : Int32} {h' : pH} (N : Nat) (h : pH) (x1 : Int32) (B : Bd (lo X) (qo X) cX9_wipe RX9 3 (some .int) 2 45 (some (.int v)) h' X) (hf : fX9_wipe N h x1 = some (v, h')) : Wx X 3 0 [(0, rf (qo X) 49), (1, .int x1)] [] h := by
  have C := B.1
  unfold fX9_wipe at hf
  refine x_iload_n (i := 1) 1 C dX9_wipe_0 rfl rfl ?_
  obtain ⟨z1, e1, hf⟩ := bnd hf
  refine x_callS (As := [.int x1]) (rest := []) C dX9_wipe_1 kmX9_98 miX9_isText (ctX9_isText (lo X) (qo X) N h x1 z1.1 z1.2 e1) rfl rfl ⟨Nat.le_trans (by decide) B.2.2.2.1, Nat.le_trans (by decide) B.2.2.2.2.1⟩ (by simp [cat_i, cat_l, rf_cat]) ?_
  refine x_if_ne (tgt := 10) C dX9_wipe_4 (by decide) (fun c => ?_) (fun c => ?_)
  · rw [if_neg c] at hf
    refine x_aload_n (i := 0) 0 C dX9_wipe_10 rfl rfl ?_
    refine x_getR (r := 49) (r2 := 55) C dX9_wipe_11 kfX9_25 rfl rfl (by decide) ?_
    refine x_iload_n (i := 1) 1 C dX9_wipe_14 rfl rfl ?_
    obtain ⟨g1, hf⟩ := ife hf
    refine x_iald (r := 55) C dX9_wipe_15 rfl g1 ?_
    refine x_istore_n (i := 2) (lv' := [(2, .int (z1.2.1 55 x1.toNatClampNeg)), (0, rf (qo X) 49), (1, .int x1)]) C dX9_wipe_16 rfl (by decide) rfl ?_
    refine x_aload_n (i := 0) 1 C dX9_wipe_17 rfl rfl ?_
    refine x_getR (r := 49) (r2 := 55) C dX9_wipe_18 kfX9_25 rfl rfl (by decide) ?_
    refine x_iload_n (i := 1) 2 C dX9_wipe_21 rfl rfl ?_
    refine x_iconst (v := 0) C dX9_wipe_22 (by decide) ?_
    obtain ⟨g2, hf⟩ := ife hf
    refine x_iast (r := 55) C dX9_wipe_23 rfl g2 ?_
    refine x_iload_n (i := 2) 0 C dX9_wipe_24 rfl rfl ?_
    obtain ⟨rfl, rfl⟩ := rtn hf
    exact B.2.2.2.2.2.1 _ _ rfl rfl rfl _ _ dX9_wipe_25
  · rw [if_pos c] at hf
    refine x_bipush (v := (-2)) C dX9_wipe_7 (by decide) ?_
    obtain ⟨rfl, rfl⟩ := rtn hf
    exact B.2.2.2.2.2.1 _ _ rfl rfl rfl _ _ dX9_wipe_9
theorem ctX9_wipe (l : Launch) (q : Nat → Nat) (N : Nat) (h : pH) (x1 : Int32) (v : Int32) (h' : pH) (hf : fX9_wipe N h x1 = some (v, h')) : Ctr l q yX9_wipe cX9_wipe 3 (some .int) 2 45 [rf q 49, .int x1] h h' (some (.int v)) := by
  refine ct_of (own := RX9) (lv := [(0, rf q 49), (1, .int x1)]) (by decide +kernel) rfl (by simp [lg_sl, rf_cat, cat_i, cat_l]) (by first | rfl | simp [lv_args, rf_cat, cat_i, cat_l]) ?_
  intro X B
  obtain rfl := B.2.1
  obtain rfl := B.2.2.1
  exact tX9_wipe N h x1 B hf
def fX9_undo (N : Nat) (h : pH) (x1 : Int32) : Option (Int32 × pH) :=
  (fX9_isText N h x1).bind fun z1 => (if z1.1 = 0 then (some ((-2), z1.2)) else (if ix x1 3 = true then (if (z1.2.1 55 x1.toNatClampNeg) = 0 then (some ((-3), z1.2)) else (if ix x1 3 = true then (if ix x1 3 = true then (if ix x1 3 = true then (some ((pw z1.2 55 x1.toNatClampNeg ((z1.2.1 55 x1.toNatClampNeg) - 1)).1 55 x1.toNatClampNeg, (pw z1.2 55 x1.toNatClampNeg ((z1.2.1 55 x1.toNatClampNeg) - 1)))) else none) else none) else none)) else none))
set_option maxRecDepth 100000 in
set_option maxHeartbeats 4000000 in
theorem tX9_undo {X : Xt} {v : Int32} {h' : pH} (N : Nat) (h : pH) (x1 : Int32) (B : Bd (lo X) (qo X) cX9_undo RX9 2 (some .int) 2 45 (some (.int v)) h' X) (hf : fX9_undo N h x1 = some (v, h')) : Wx X 2 0 [(0, rf (qo X) 49), (1, .int x1)] [] h := by
  have C := B.1
  unfold fX9_undo at hf
  refine x_iload_n (i := 1) 1 C dX9_undo_0 rfl rfl ?_
  obtain ⟨z1, e1, hf⟩ := bnd hf
  refine x_callS (As := [.int x1]) (rest := []) C dX9_undo_1 kmX9_98 miX9_isText (ctX9_isText (lo X) (qo X) N h x1 z1.1 z1.2 e1) rfl rfl ⟨Nat.le_trans (by decide) B.2.2.2.1, Nat.le_trans (by decide) B.2.2.2.2.1⟩ (by simp [cat_i, cat_l, rf_cat]) ?_
  refine x_if_ne (tgt := 10) C dX9_undo_4 (by decide) (fun c => ?_) (fun c => ?_)
  · rw [if_neg c] at hf
    refine x_aload_n (i := 0) 0 C dX9_undo_10 rfl rfl ?_
    refine x_getR (r := 49) (r2 := 55) C dX9_undo_11 kfX9_25 rfl rfl (by decide) ?_
    refine x_iload_n (i := 1) 1 C dX9_undo_14 rfl rfl ?_
    obtain ⟨g1, hf⟩ := ife hf
    refine x_iald (r := 55) C dX9_undo_15 rfl g1 ?_
    refine x_if_ne (tgt := 22) C dX9_undo_16 (by decide) (fun c => ?_) (fun c => ?_)
    · rw [if_neg c] at hf
      refine x_aload_n (i := 0) 0 C dX9_undo_22 rfl rfl ?_
      refine x_getR (r := 49) (r2 := 55) C dX9_undo_23 kfX9_25 rfl rfl (by decide) ?_
      refine x_iload_n (i := 1) 1 C dX9_undo_26 rfl rfl ?_
      refine x_dup2IA C dX9_undo_27 ?_
      obtain ⟨g2, hf⟩ := ife hf
      refine x_iald (r := 55) C dX9_undo_28 rfl g2 ?_
      refine x_iconst (v := 1) C dX9_undo_29 (by decide) ?_
      refine x_isub C dX9_undo_30 ?_
      obtain ⟨g3, hf⟩ := ife hf
      refine x_iast (r := 55) C dX9_undo_31 rfl g3 ?_
      refine x_aload_n (i := 0) 0 C dX9_undo_32 rfl rfl ?_
      refine x_getR (r := 49) (r2 := 55) C dX9_undo_33 kfX9_25 rfl rfl (by decide) ?_
      refine x_iload_n (i := 1) 1 C dX9_undo_36 rfl rfl ?_
      obtain ⟨g4, hf⟩ := ife hf
      refine x_iald (r := 55) C dX9_undo_37 rfl g4 ?_
      obtain ⟨rfl, rfl⟩ := rtn hf
      exact B.2.2.2.2.2.1 _ _ rfl rfl rfl _ _ dX9_undo_38
    · rw [if_pos c] at hf
      refine x_bipush (v := (-3)) C dX9_undo_19 (by decide) ?_
      obtain ⟨rfl, rfl⟩ := rtn hf
      exact B.2.2.2.2.2.1 _ _ rfl rfl rfl _ _ dX9_undo_21
  · rw [if_pos c] at hf
    refine x_bipush (v := (-2)) C dX9_undo_7 (by decide) ?_
    obtain ⟨rfl, rfl⟩ := rtn hf
    exact B.2.2.2.2.2.1 _ _ rfl rfl rfl _ _ dX9_undo_9
theorem ctX9_undo (l : Launch) (q : Nat → Nat) (N : Nat) (h : pH) (x1 : Int32) (v : Int32) (h' : pH) (hf : fX9_undo N h x1 = some (v, h')) : Ctr l q yX9_undo cX9_undo 2 (some .int) 2 45 [rf q 49, .int x1] h h' (some (.int v)) := by
  refine ct_of (own := RX9) (lv := [(0, rf q 49), (1, .int x1)]) (by decide +kernel) rfl (by simp [lg_sl, rf_cat, cat_i, cat_l]) (by first | rfl | simp [lv_args, rf_cat, cat_i, cat_l]) ?_
  intro X B
  obtain rfl := B.2.1
  obtain rfl := B.2.2.1
  exact tX9_undo N h x1 B hf
def fX9_readsPlanks_b59 (N : Nat) (k7 : pH → Int32 → Option (Int32 × pH)) (h : pH) (x1 : Int32) (xs0 : Int32) (xs1 : Int32) : Option (Int32 × pH) :=
  if ix xs1 19 = true then (k7 (pw (pw h 56 xs1.toNatClampNeg xs0) 49 7 (((pw h 56 xs1.toNatClampNeg xs0).1 49 7) + 1)) (x1 + 1)) else none
set_option maxRecDepth 100000 in
set_option maxHeartbeats 4000000 in
theorem tX9_readsPlanks_b59 {X : Xt} {v : Int32} {h' : pH} (N : Nat) (k7 : pH → Int32 → Option (Int32 × pH)) (HK7 : ∀ (h : pH) (x1 : Int32), k7 h x1 = some (v, h') → Wx X 3 7 [(0, rf (qo X) 49), (1, .int x1)] [] h) (h : pH) (x1 : Int32) (xs0 : Int32) (xs1 : Int32) (B : Bd (lo X) (qo X) cX9_readsPlanks RX9 3 (some .int) 0 0 (some (.int v)) h' X) (hf : fX9_readsPlanks_b59 N k7 h x1 xs0 xs1 = some (v, h')) : Wx X 3 59 [(0, rf (qo X) 49), (1, .int x1)] [.int xs0, .int xs1, rf (qo X) 56] h := by
  have C := B.1
  unfold fX9_readsPlanks_b59 at hf
  obtain ⟨g1, hf⟩ := ife hf
  refine x_iast (r := 56) C dX9_readsPlanks_59 rfl g1 ?_
  refine x_aload_n (i := 0) 0 C dX9_readsPlanks_60 rfl rfl ?_
  refine x_dupA C dX9_readsPlanks_61 ?_
  refine x_getI (r := 49) C dX9_readsPlanks_62 kfX9_103 rfl ?_
  refine x_iconst (v := 1) C dX9_readsPlanks_65 (by decide) ?_
  refine x_iadd C dX9_readsPlanks_66 ?_
  refine x_putI (r := 49) C dX9_readsPlanks_67 kfX9_103 rfl rfl rfl ?_
  refine x_iinc (v := x1 + 1) (lv' := [(1, .int (x1 + 1)), (0, rf (qo X) 49)]) 1 C dX9_readsPlanks_70 rfl rfl (by decide) rfl ?_
  refine x_goto (tgt := 7) C dX9_readsPlanks_73 (by decide) ?_
  refine x_lv [1, 0] rfl ?_
  exact HK7 (pw (pw h 56 xs1.toNatClampNeg xs0) 49 7 (((pw h 56 xs1.toNatClampNeg xs0).1 49 7) + 1)) (x1 + 1) hf
def fX9_readsPlanks_b43 (N : Nat) (k7 : pH → Int32 → Option (Int32 × pH)) (h : pH) (x1 : Int32) (x2 : Int32) : Option (Int32 × pH) :=
  if x2 = 114 then (fX9_readsPlanks_b59 N k7 h x1 1 x1) else (fX9_readsPlanks_b59 N k7 h x1 0 x1)
set_option maxRecDepth 100000 in
set_option maxHeartbeats 4000000 in
theorem tX9_readsPlanks_b43 {X : Xt} {v : Int32} {h' : pH} (N : Nat) (k7 : pH → Int32 → Option (Int32 × pH)) (HK7 : ∀ (h : pH) (x1 : Int32), k7 h x1 = some (v, h') → Wx X 3 7 [(0, rf (qo X) 49), (1, .int x1)] [] h) (h : pH) (x1 : Int32) (x2 : Int32) (B : Bd (lo X) (qo X) cX9_readsPlanks RX9 3 (some .int) 0 0 (some (.int v)) h' X) (hf : fX9_readsPlanks_b43 N k7 h x1 x2 = some (v, h')) : Wx X 3 43 [(0, rf (qo X) 49), (1, .int x1), (2, .int x2)] [] h := by
  have C := B.1
  unfold fX9_readsPlanks_b43 at hf
  refine x_aload_n (i := 0) 0 C dX9_readsPlanks_43 rfl rfl ?_
  refine x_getR (r := 49) (r2 := 56) C dX9_readsPlanks_44 kfX9_28 rfl rfl (by decide) ?_
  refine x_iload_n (i := 1) 1 C dX9_readsPlanks_47 rfl rfl ?_
  refine x_iload_n (i := 2) 2 C dX9_readsPlanks_48 rfl rfl ?_
  refine x_bipush (v := 114) C dX9_readsPlanks_49 (by decide) ?_
  refine x_icmp_ne (tgt := 58) C dX9_readsPlanks_51 (by decide) (fun c => ?_) (fun c => ?_)
  · rw [if_neg c] at hf
    refine x_iconst (v := 0) C dX9_readsPlanks_58 (by decide) ?_
    refine x_lv [0, 1] rfl ?_
    exact tX9_readsPlanks_b59 N k7 HK7 h x1 0 x1 B hf
  · rw [if_pos c] at hf
    refine x_iconst (v := 1) C dX9_readsPlanks_54 (by decide) ?_
    refine x_goto (tgt := 59) C dX9_readsPlanks_55 (by decide) ?_
    refine x_lv [0, 1] rfl ?_
    exact tX9_readsPlanks_b59 N k7 HK7 h x1 1 x1 B hf
def fX9_readsPlanks_B7 (N : Nat) (k7 : pH → Int32 → Option (Int32 × pH)) (h : pH) (x1 : Int32) : Option (Int32 × pH) :=
  if ix (0 : Int32) 3 = true then (if (h.1 55 (0 : Int32).toNatClampNeg) ≤ x1 then (some ((-1), h)) else (if ix x1 120 = true then (if (h.1 54 x1.toNatClampNeg) = 46 then (fX9_readsPlanks_b43 N k7 h x1 (h.1 54 x1.toNatClampNeg)) else (if (h.1 54 x1.toNatClampNeg) = 114 then (fX9_readsPlanks_b43 N k7 h x1 (h.1 54 x1.toNatClampNeg)) else (some (x1, (pw h 49 7 0))))) else none)) else none
set_option maxRecDepth 100000 in
set_option maxHeartbeats 4000000 in
theorem tX9_readsPlanks_B7 {X : Xt} {v : Int32} {h' : pH} (N : Nat) (k7 : pH → Int32 → Option (Int32 × pH)) (HK7 : ∀ (h : pH) (x1 : Int32), k7 h x1 = some (v, h') → Wx X 3 7 [(0, rf (qo X) 49), (1, .int x1)] [] h) (h : pH) (x1 : Int32) (B : Bd (lo X) (qo X) cX9_readsPlanks RX9 3 (some .int) 0 0 (some (.int v)) h' X) (hf : fX9_readsPlanks_B7 N k7 h x1 = some (v, h')) : Wx X 3 7 [(0, rf (qo X) 49), (1, .int x1)] [] h := by
  have C := B.1
  unfold fX9_readsPlanks_B7 at hf
  refine x_iload_n (i := 1) 1 C dX9_readsPlanks_7 rfl rfl ?_
  refine x_aload_n (i := 0) 0 C dX9_readsPlanks_8 rfl rfl ?_
  refine x_getR (r := 49) (r2 := 55) C dX9_readsPlanks_9 kfX9_25 rfl rfl (by decide) ?_
  refine x_iconst (v := 0) C dX9_readsPlanks_12 (by decide) ?_
  obtain ⟨g1, hf⟩ := ife hf
  refine x_iald (r := 55) C dX9_readsPlanks_13 rfl g1 ?_
  refine x_icmp_ge (tgt := 76) C dX9_readsPlanks_14 (by decide) (fun c => ?_) (fun c => ?_)
  · rw [if_pos c] at hf
    refine x_iconst (v := (-1)) C dX9_readsPlanks_76 (by decide) ?_
    obtain ⟨rfl, rfl⟩ := rtn hf
    exact B.2.2.2.2.2.1 _ _ rfl rfl rfl _ _ dX9_readsPlanks_77
  · rw [if_neg c] at hf
    refine x_aload_n (i := 0) 0 C dX9_readsPlanks_17 rfl rfl ?_
    refine x_getR (r := 49) (r2 := 54) C dX9_readsPlanks_18 kfX9_22 rfl rfl (by decide) ?_
    refine x_iload_n (i := 1) 1 C dX9_readsPlanks_21 rfl rfl ?_
    obtain ⟨g2, hf⟩ := ife hf
    refine x_iald (r := 54) C dX9_readsPlanks_22 rfl g2 ?_
    refine x_istore_n (i := 2) (lv' := [(2, .int (h.1 54 x1.toNatClampNeg)), (0, rf (qo X) 49), (1, .int x1)]) C dX9_readsPlanks_23 rfl (by decide) rfl ?_
    refine x_iload_n (i := 2) 0 C dX9_readsPlanks_24 rfl rfl ?_
    refine x_bipush (v := 46) C dX9_readsPlanks_25 (by decide) ?_
    refine x_icmp_eq (tgt := 43) C dX9_readsPlanks_27 (by decide) (fun c => ?_) (fun c => ?_)
    · rw [if_pos c] at hf
      refine x_lv [1, 2, 0] rfl ?_
      exact tX9_readsPlanks_b43 N k7 HK7 h x1 (h.1 54 x1.toNatClampNeg) B hf
    · rw [if_neg c] at hf
      refine x_iload_n (i := 2) 0 C dX9_readsPlanks_30 rfl rfl ?_
      refine x_bipush (v := 114) C dX9_readsPlanks_31 (by decide) ?_
      refine x_icmp_eq (tgt := 43) C dX9_readsPlanks_33 (by decide) (fun c => ?_) (fun c => ?_)
      · rw [if_pos c] at hf
        refine x_lv [1, 2, 0] rfl ?_
        exact tX9_readsPlanks_b43 N k7 HK7 h x1 (h.1 54 x1.toNatClampNeg) B hf
      · rw [if_neg c] at hf
        refine x_aload_n (i := 0) 1 C dX9_readsPlanks_36 rfl rfl ?_
        refine x_iconst (v := 0) C dX9_readsPlanks_37 (by decide) ?_
        refine x_putI (r := 49) C dX9_readsPlanks_38 kfX9_103 rfl rfl rfl ?_
        refine x_iload_n (i := 1) 2 C dX9_readsPlanks_41 rfl rfl ?_
        obtain ⟨rfl, rfl⟩ := rtn hf
        exact B.2.2.2.2.2.1 _ _ rfl rfl rfl _ _ dX9_readsPlanks_42
def fX9_readsPlanks_L7 (N : Nat) : Nat → pH → Int32 → Option (Int32 × pH)
  | 0 => fun _ _ => none
  | n + 1 => fX9_readsPlanks_B7 N (fX9_readsPlanks_L7 N n)
theorem tX9_readsPlanks_L7 {X : Xt} {v : Int32} {h' : pH} (N : Nat) (B : Bd (lo X) (qo X) cX9_readsPlanks RX9 3 (some .int) 0 0 (some (.int v)) h' X) : ∀ (n : Nat) (h : pH) (x1 : Int32), fX9_readsPlanks_L7 N n h x1 = some (v, h') → Wx X 3 7 [(0, rf (qo X) 49), (1, .int x1)] [] h := by
  intro n
  induction n with
  | zero => intro h x1 hf; exact absurd (show (none : Option (Int32 × pH)) = some (v, h') from hf) (fun z => by cases z)
  | succ n ih => intro h x1 hf; exact tX9_readsPlanks_B7 N (fX9_readsPlanks_L7 N n) ih h x1 B hf
def fX9_readsPlanks (N : Nat) (h : pH)  : Option (Int32 × pH) :=
  fX9_readsPlanks_L7 N N (pw h 49 7 0) 0
set_option maxRecDepth 100000 in
set_option maxHeartbeats 4000000 in
theorem tX9_readsPlanks {X : Xt} {v : Int32} {h' : pH} (N : Nat) (h : pH)  (B : Bd (lo X) (qo X) cX9_readsPlanks RX9 3 (some .int) 0 0 (some (.int v)) h' X) (hf : fX9_readsPlanks N h  = some (v, h')) : Wx X 3 0 [(0, rf (qo X) 49)] [] h := by
  have C := B.1
  unfold fX9_readsPlanks at hf
  refine x_aload_n (i := 0) 0 C dX9_readsPlanks_0 rfl rfl ?_
  refine x_iconst (v := 0) C dX9_readsPlanks_1 (by decide) ?_
  refine x_putI (r := 49) C dX9_readsPlanks_2 kfX9_103 rfl rfl rfl ?_
  refine x_iconst (v := 0) C dX9_readsPlanks_5 (by decide) ?_
  refine x_istore_n (i := 1) (lv' := [(1, .int 0), (0, rf (qo X) 49)]) C dX9_readsPlanks_6 rfl (by decide) rfl ?_
  refine x_lv [1, 0] rfl ?_
  exact tX9_readsPlanks_L7 N  B N (pw h 49 7 0) 0 hf
theorem ctX9_readsPlanks (l : Launch) (q : Nat → Nat) (N : Nat) (h : pH)  (v : Int32) (h' : pH) (hf : fX9_readsPlanks N h  = some (v, h')) : Ctr l q yX9_readsPlanks cX9_readsPlanks 3 (some .int) 0 0 [rf q 49] h h' (some (.int v)) := by
  refine ct_of (own := RX9) (lv := [(0, rf q 49)]) (by decide +kernel) rfl (by simp [lg_sl, rf_cat, cat_i, cat_l]) (by first | rfl | simp [lv_args, rf_cat, cat_i, cat_l]) ?_
  intro X B
  obtain rfl := B.2.1
  obtain rfl := B.2.2.1
  exact tX9_readsPlanks N h  B hf
def fX9_kindOf_b52 (N : Nat) (h : pH) (xs0 : Int32) : Option (Int32 × pH) :=
  some (xs0, h)
set_option maxRecDepth 100000 in
set_option maxHeartbeats 4000000 in
theorem tX9_kindOf_b52 {X : Xt} {v : Int32} {h' : pH} (N : Nat) (h : pH) (xs0 : Int32) (B : Bd (lo X) (qo X) cX9_kindOf RX9 1 (some .int) 0 0 (some (.int v)) h' X) (hf : fX9_kindOf_b52 N h xs0 = some (v, h')) : Wx X 1 52 [] [.int xs0] h := by
  have C := B.1
  unfold fX9_kindOf_b52 at hf
  obtain ⟨rfl, rfl⟩ := rtn hf
  exact B.2.2.2.2.2.1 _ _ rfl rfl rfl _ _ dX9_kindOf_52
def fX9_kindOf (N : Nat) (h : pH) (x0 : Int32) : Option (Int32 × pH) :=
  if x0 = 112 then (fX9_kindOf_b52 N h 0) else (if x0 = 104 then (fX9_kindOf_b52 N h 1) else (if x0 = 99 then (fX9_kindOf_b52 N h 2) else (if x0 = 103 then (fX9_kindOf_b52 N h 3) else (if x0 = 98 then (fX9_kindOf_b52 N h 4) else (fX9_kindOf_b52 N h (-9))))))
set_option maxRecDepth 100000 in
set_option maxHeartbeats 4000000 in
theorem tX9_kindOf {X : Xt} {v : Int32} {h' : pH} (N : Nat) (h : pH) (x0 : Int32) (B : Bd (lo X) (qo X) cX9_kindOf RX9 1 (some .int) 0 0 (some (.int v)) h' X) (hf : fX9_kindOf N h x0 = some (v, h')) : Wx X 1 0 [(0, .int x0)] [] h := by
  have C := B.1
  unfold fX9_kindOf at hf
  refine x_iload_n (i := 0) 0 C dX9_kindOf_0 rfl rfl ?_
  refine x_bipush (v := 112) C dX9_kindOf_1 (by decide) ?_
  refine x_icmp_ne (tgt := 10) C dX9_kindOf_3 (by decide) (fun c => ?_) (fun c => ?_)
  · rw [if_neg c] at hf
    refine x_iload_n (i := 0) 0 C dX9_kindOf_10 rfl rfl ?_
    refine x_bipush (v := 104) C dX9_kindOf_11 (by decide) ?_
    refine x_icmp_ne (tgt := 20) C dX9_kindOf_13 (by decide) (fun c => ?_) (fun c => ?_)
    · rw [if_neg c] at hf
      refine x_iload_n (i := 0) 0 C dX9_kindOf_20 rfl rfl ?_
      refine x_bipush (v := 99) C dX9_kindOf_21 (by decide) ?_
      refine x_icmp_ne (tgt := 30) C dX9_kindOf_23 (by decide) (fun c => ?_) (fun c => ?_)
      · rw [if_neg c] at hf
        refine x_iload_n (i := 0) 0 C dX9_kindOf_30 rfl rfl ?_
        refine x_bipush (v := 103) C dX9_kindOf_31 (by decide) ?_
        refine x_icmp_ne (tgt := 40) C dX9_kindOf_33 (by decide) (fun c => ?_) (fun c => ?_)
        · rw [if_neg c] at hf
          refine x_iload_n (i := 0) 0 C dX9_kindOf_40 rfl rfl ?_
          refine x_bipush (v := 98) C dX9_kindOf_41 (by decide) ?_
          refine x_icmp_ne (tgt := 50) C dX9_kindOf_43 (by decide) (fun c => ?_) (fun c => ?_)
          · rw [if_neg c] at hf
            refine x_bipush (v := (-9)) C dX9_kindOf_50 (by decide) ?_
            refine x_lv [] rfl ?_
            exact tX9_kindOf_b52 N h (-9) B hf
          · rw [if_pos c] at hf
            refine x_iconst (v := 4) C dX9_kindOf_46 (by decide) ?_
            refine x_goto (tgt := 52) C dX9_kindOf_47 (by decide) ?_
            refine x_lv [] rfl ?_
            exact tX9_kindOf_b52 N h 4 B hf
        · rw [if_pos c] at hf
          refine x_iconst (v := 3) C dX9_kindOf_36 (by decide) ?_
          refine x_goto (tgt := 52) C dX9_kindOf_37 (by decide) ?_
          refine x_lv [] rfl ?_
          exact tX9_kindOf_b52 N h 3 B hf
      · rw [if_pos c] at hf
        refine x_iconst (v := 2) C dX9_kindOf_26 (by decide) ?_
        refine x_goto (tgt := 52) C dX9_kindOf_27 (by decide) ?_
        refine x_lv [] rfl ?_
        exact tX9_kindOf_b52 N h 2 B hf
    · rw [if_pos c] at hf
      refine x_iconst (v := 1) C dX9_kindOf_16 (by decide) ?_
      refine x_goto (tgt := 52) C dX9_kindOf_17 (by decide) ?_
      refine x_lv [] rfl ?_
      exact tX9_kindOf_b52 N h 1 B hf
  · rw [if_pos c] at hf
    refine x_iconst (v := 0) C dX9_kindOf_6 (by decide) ?_
    refine x_goto (tgt := 52) C dX9_kindOf_7 (by decide) ?_
    refine x_lv [] rfl ?_
    exact tX9_kindOf_b52 N h 0 B hf
theorem ctX9_kindOf (l : Launch) (q : Nat → Nat) (N : Nat) (h : pH) (x0 : Int32) (v : Int32) (h' : pH) (hf : fX9_kindOf N h x0 = some (v, h')) : Ctr l q yX9_kindOf cX9_kindOf 1 (some .int) 0 0 [.int x0] h h' (some (.int v)) := by
  refine ct_of (own := RX9) (lv := [(0, .int x0)]) (by decide +kernel) rfl (by simp [lg_sl, rf_cat, cat_i, cat_l]) (by first | rfl | simp [lv_args, rf_cat, cat_i, cat_l]) ?_
  intro X B
  obtain rfl := B.2.1
  obtain rfl := B.2.2.1
  exact tX9_kindOf N h x0 B hf
def fX9_crosserOf_b60 (N : Nat) (h : pH) (xs0 : Int32) : Option (Int32 × pH) :=
  some (xs0, h)
set_option maxRecDepth 100000 in
set_option maxHeartbeats 4000000 in
theorem tX9_crosserOf_b60 {X : Xt} {v : Int32} {h' : pH} (N : Nat) (h : pH) (xs0 : Int32) (B : Bd (lo X) (qo X) cX9_crosserOf RX9 2 (some .int) 1 25 (some (.int v)) h' X) (hf : fX9_crosserOf_b60 N h xs0 = some (v, h')) : Wx X 2 60 [] [.int xs0] h := by
  have C := B.1
  unfold fX9_crosserOf_b60 at hf
  obtain ⟨rfl, rfl⟩ := rtn hf
  exact B.2.2.2.2.2.1 _ _ rfl rfl rfl _ _ dX9_crosserOf_60
def fX9_crosserOf_b83 (N : Nat) (h : pH) (xs0 : Int32) : Option (Int32 × pH) :=
  some (xs0, h)
set_option maxRecDepth 100000 in
set_option maxHeartbeats 4000000 in
theorem tX9_crosserOf_b83 {X : Xt} {v : Int32} {h' : pH} (N : Nat) (h : pH) (xs0 : Int32) (B : Bd (lo X) (qo X) cX9_crosserOf RX9 2 (some .int) 1 25 (some (.int v)) h' X) (hf : fX9_crosserOf_b83 N h xs0 = some (v, h')) : Wx X 2 83 [] [.int xs0] h := by
  have C := B.1
  unfold fX9_crosserOf_b83 at hf
  obtain ⟨rfl, rfl⟩ := rtn hf
  exact B.2.2.2.2.2.1 _ _ rfl rfl rfl _ _ dX9_crosserOf_83
def fX9_crosserOf_b107 (N : Nat) (h : pH) (xs0 : Int32) : Option (Int32 × pH) :=
  some (xs0, h)
set_option maxRecDepth 100000 in
set_option maxHeartbeats 4000000 in
theorem tX9_crosserOf_b107 {X : Xt} {v : Int32} {h' : pH} (N : Nat) (h : pH) (xs0 : Int32) (B : Bd (lo X) (qo X) cX9_crosserOf RX9 2 (some .int) 1 25 (some (.int v)) h' X) (hf : fX9_crosserOf_b107 N h xs0 = some (v, h')) : Wx X 2 107 [] [.int xs0] h := by
  have C := B.1
  unfold fX9_crosserOf_b107 at hf
  obtain ⟨rfl, rfl⟩ := rtn hf
  exact B.2.2.2.2.2.1 _ _ rfl rfl rfl _ _ dX9_crosserOf_107
def fX9_crosserOf_b120 (N : Nat) (h : pH) (xs0 : Int32) : Option (Int32 × pH) :=
  some (xs0, h)
set_option maxRecDepth 100000 in
set_option maxHeartbeats 4000000 in
theorem tX9_crosserOf_b120 {X : Xt} {v : Int32} {h' : pH} (N : Nat) (h : pH) (xs0 : Int32) (B : Bd (lo X) (qo X) cX9_crosserOf RX9 2 (some .int) 1 25 (some (.int v)) h' X) (hf : fX9_crosserOf_b120 N h xs0 = some (v, h')) : Wx X 2 120 [] [.int xs0] h := by
  have C := B.1
  unfold fX9_crosserOf_b120 at hf
  obtain ⟨rfl, rfl⟩ := rtn hf
  exact B.2.2.2.2.2.1 _ _ rfl rfl rfl _ _ dX9_crosserOf_120
def fX9_crosserOf (N : Nat) (h : pH) (x0 : Int32) (x1 : Int32) : Option (Int32 × pH) :=
  if x0 = 0 then ((fX9_kindOf N h x1).bind fun z1 => (some (z1.1, z1.2))) else (if x0 = 1 then ((fX9_in N h x1.toInt64 49 57).bind fun z2 => (if z2.1 = 0 then (fX9_crosserOf_b60 N z2.2 (-9)) else (fX9_crosserOf_b60 N z2.2 (x1 - 48)))) else (if x0 = 2 then (if x1 = 119 then (fX9_crosserOf_b83 N h 0) else (if x1 = 101 then (fX9_crosserOf_b83 N h 1) else (fX9_crosserOf_b83 N h (-9)))) else (if x0 = 3 then ((fX9_in N h x1.toInt64 48 57).bind fun z3 => (if z3.1 = 0 then (fX9_crosserOf_b107 N z3.2 (-9)) else (fX9_crosserOf_b107 N z3.2 (x1 - 48)))) else (if x1 = 59 then (fX9_crosserOf_b120 N h 0) else (fX9_crosserOf_b120 N h (-9))))))
set_option maxRecDepth 100000 in
set_option maxHeartbeats 4000000 in
theorem tX9_crosserOf {X : Xt} {v : Int32} {h' : pH} (N : Nat) (h : pH) (x0 : Int32) (x1 : Int32) (B : Bd (lo X) (qo X) cX9_crosserOf RX9 2 (some .int) 1 25 (some (.int v)) h' X) (hf : fX9_crosserOf N h x0 x1 = some (v, h')) : Wx X 2 0 [(0, .int x0), (1, .int x1)] [] h := by
  have C := B.1
  unfold fX9_crosserOf at hf
  refine x_iload_n (i := 0) 0 C dX9_crosserOf_0 rfl rfl ?_
  by_cases c0 : x0 = 0
  · rw [if_pos c0] at hf
    refine x_tabIn (w := 0) (tgt := 32) (off := 31) C dX9_crosserOf_1 c0 (by decide) (by decide) (by decide) (by decide) ?_
    refine x_iload_n (i := 1) 1 C dX9_crosserOf_32 rfl rfl ?_
    obtain ⟨z1, e1, hf⟩ := bnd hf
    refine x_callS (As := [.int x1]) (rest := []) C dX9_crosserOf_33 kmX9_106 miX9_kindOf (ctX9_kindOf (lo X) (qo X) N h x1 z1.1 z1.2 e1) rfl rfl ⟨Nat.le_trans (by decide) B.2.2.2.1, Nat.le_trans (by decide) B.2.2.2.2.1⟩ (by simp [cat_i, cat_l, rf_cat]) ?_
    obtain ⟨rfl, rfl⟩ := rtn hf
    exact B.2.2.2.2.2.1 _ _ rfl rfl rfl _ _ dX9_crosserOf_36
  rw [if_neg c0] at hf
  by_cases c1 : x0 = 1
  · rw [if_pos c1] at hf
    refine x_tabIn (w := 1) (tgt := 37) (off := 36) C dX9_crosserOf_1 c1 (by decide) (by decide) (by decide) (by decide) ?_
    refine x_iload_n (i := 1) 1 C dX9_crosserOf_37 rfl rfl ?_
    refine x_i2l C dX9_crosserOf_38 ?_
    refine x_ldc2 (v := 49) C dX9_crosserOf_39 kkX9_109 ?_
    refine x_ldc2 (v := 57) C dX9_crosserOf_42 kkX9_111 ?_
    obtain ⟨z2, e2, hf⟩ := bnd hf
    refine x_callS (As := [.long x1.toInt64, .long 49, .long 57]) (rest := []) C dX9_crosserOf_45 kmX9_69 miX9_in (ctX9_in (lo X) (qo X) N h x1.toInt64 49 57 z2.1 z2.2 e2) rfl rfl ⟨Nat.le_trans (by decide) B.2.2.2.1, Nat.le_trans (by decide) B.2.2.2.2.1⟩ (by simp [cat_i, cat_l, rf_cat]) ?_
    refine x_if_eq (tgt := 58) C dX9_crosserOf_48 (by decide) (fun c => ?_) (fun c => ?_)
    · rw [if_pos c] at hf
      refine x_bipush (v := (-9)) C dX9_crosserOf_58 (by decide) ?_
      refine x_lv [] rfl ?_
      exact tX9_crosserOf_b60 N z2.2 (-9) B hf
    · rw [if_neg c] at hf
      refine x_iload_n (i := 1) 1 C dX9_crosserOf_51 rfl rfl ?_
      refine x_bipush (v := 48) C dX9_crosserOf_52 (by decide) ?_
      refine x_isub C dX9_crosserOf_54 ?_
      refine x_goto (tgt := 60) C dX9_crosserOf_55 (by decide) ?_
      refine x_lv [] rfl ?_
      exact tX9_crosserOf_b60 N z2.2 (x1 - 48) B hf
  rw [if_neg c1] at hf
  by_cases c2 : x0 = 2
  · rw [if_pos c2] at hf
    refine x_tabIn (w := 2) (tgt := 61) (off := 60) C dX9_crosserOf_1 c2 (by decide) (by decide) (by decide) (by decide) ?_
    refine x_iload_n (i := 1) 1 C dX9_crosserOf_61 rfl rfl ?_
    refine x_bipush (v := 119) C dX9_crosserOf_62 (by decide) ?_
    refine x_icmp_ne (tgt := 71) C dX9_crosserOf_64 (by decide) (fun c => ?_) (fun c => ?_)
    · rw [if_neg c] at hf
      refine x_iload_n (i := 1) 1 C dX9_crosserOf_71 rfl rfl ?_
      refine x_bipush (v := 101) C dX9_crosserOf_72 (by decide) ?_
      refine x_icmp_ne (tgt := 81) C dX9_crosserOf_74 (by decide) (fun c => ?_) (fun c => ?_)
      · rw [if_neg c] at hf
        refine x_bipush (v := (-9)) C dX9_crosserOf_81 (by decide) ?_
        refine x_lv [] rfl ?_
        exact tX9_crosserOf_b83 N h (-9) B hf
      · rw [if_pos c] at hf
        refine x_iconst (v := 1) C dX9_crosserOf_77 (by decide) ?_
        refine x_goto (tgt := 83) C dX9_crosserOf_78 (by decide) ?_
        refine x_lv [] rfl ?_
        exact tX9_crosserOf_b83 N h 1 B hf
    · rw [if_pos c] at hf
      refine x_iconst (v := 0) C dX9_crosserOf_67 (by decide) ?_
      refine x_goto (tgt := 83) C dX9_crosserOf_68 (by decide) ?_
      refine x_lv [] rfl ?_
      exact tX9_crosserOf_b83 N h 0 B hf
  rw [if_neg c2] at hf
  by_cases c3 : x0 = 3
  · rw [if_pos c3] at hf
    refine x_tabIn (w := 3) (tgt := 84) (off := 83) C dX9_crosserOf_1 c3 (by decide) (by decide) (by decide) (by decide) ?_
    refine x_iload_n (i := 1) 1 C dX9_crosserOf_84 rfl rfl ?_
    refine x_i2l C dX9_crosserOf_85 ?_
    refine x_ldc2 (v := 48) C dX9_crosserOf_86 kkX9_113 ?_
    refine x_ldc2 (v := 57) C dX9_crosserOf_89 kkX9_111 ?_
    obtain ⟨z3, e3, hf⟩ := bnd hf
    refine x_callS (As := [.long x1.toInt64, .long 48, .long 57]) (rest := []) C dX9_crosserOf_92 kmX9_69 miX9_in (ctX9_in (lo X) (qo X) N h x1.toInt64 48 57 z3.1 z3.2 e3) rfl rfl ⟨Nat.le_trans (by decide) B.2.2.2.1, Nat.le_trans (by decide) B.2.2.2.2.1⟩ (by simp [cat_i, cat_l, rf_cat]) ?_
    refine x_if_eq (tgt := 105) C dX9_crosserOf_95 (by decide) (fun c => ?_) (fun c => ?_)
    · rw [if_pos c] at hf
      refine x_bipush (v := (-9)) C dX9_crosserOf_105 (by decide) ?_
      refine x_lv [] rfl ?_
      exact tX9_crosserOf_b107 N z3.2 (-9) B hf
    · rw [if_neg c] at hf
      refine x_iload_n (i := 1) 1 C dX9_crosserOf_98 rfl rfl ?_
      refine x_bipush (v := 48) C dX9_crosserOf_99 (by decide) ?_
      refine x_isub C dX9_crosserOf_101 ?_
      refine x_goto (tgt := 107) C dX9_crosserOf_102 (by decide) ?_
      refine x_lv [] rfl ?_
      exact tX9_crosserOf_b107 N z3.2 (x1 - 48) B hf
  rw [if_neg c3] at hf
  refine x_tabOut (n := 4) (tgt := 108) C dX9_crosserOf_1 (fun i hi => match i, hi with | 0, _ => c0 | 1, _ => c1 | 2, _ => c2 | 3, _ => c3 | i + 4, hi => absurd hi (by omega)) (by decide) ?_
  refine x_iload_n (i := 1) 1 C dX9_crosserOf_108 rfl rfl ?_
  refine x_bipush (v := 59) C dX9_crosserOf_109 (by decide) ?_
  refine x_icmp_ne (tgt := 118) C dX9_crosserOf_111 (by decide) (fun c => ?_) (fun c => ?_)
  · rw [if_neg c] at hf
    refine x_bipush (v := (-9)) C dX9_crosserOf_118 (by decide) ?_
    refine x_lv [] rfl ?_
    exact tX9_crosserOf_b120 N h (-9) B hf
  · rw [if_pos c] at hf
    refine x_iconst (v := 0) C dX9_crosserOf_114 (by decide) ?_
    refine x_goto (tgt := 120) C dX9_crosserOf_115 (by decide) ?_
    refine x_lv [] rfl ?_
    exact tX9_crosserOf_b120 N h 0 B hf
theorem ctX9_crosserOf (l : Launch) (q : Nat → Nat) (N : Nat) (h : pH) (x0 : Int32) (x1 : Int32) (v : Int32) (h' : pH) (hf : fX9_crosserOf N h x0 x1 = some (v, h')) : Ctr l q yX9_crosserOf cX9_crosserOf 2 (some .int) 1 25 [.int x0, .int x1] h h' (some (.int v)) := by
  refine ct_of (own := RX9) (lv := [(0, .int x0), (1, .int x1)]) (by decide +kernel) rfl (by simp [lg_sl, rf_cat, cat_i, cat_l]) (by first | rfl | simp [lv_args, rf_cat, cat_i, cat_l]) ?_
  intro X B
  obtain rfl := B.2.1
  obtain rfl := B.2.2.1
  exact tX9_crosserOf N h x0 x1 B hf
def fX9_readsCrossers_b114 (N : Nat) (h : pH)  : Option (Int32 × pH) :=
  some ((-1), h)
set_option maxRecDepth 100000 in
set_option maxHeartbeats 4000000 in
theorem tX9_readsCrossers_b114 {X : Xt} {v : Int32} {h' : pH} (N : Nat) (h : pH)  (B : Bd (lo X) (qo X) cX9_readsCrossers RX9 5 (some .int) 2 46 (some (.int v)) h' X) (hf : fX9_readsCrossers_b114 N h  = some (v, h')) : Wx X 5 114 [] [] h := by
  have C := B.1
  unfold fX9_readsCrossers_b114 at hf
  refine x_iconst (v := (-1)) C dX9_readsCrossers_114 (by decide) ?_
  obtain ⟨rfl, rfl⟩ := rtn hf
  exact B.2.2.2.2.2.1 _ _ rfl rfl rfl _ _ dX9_readsCrossers_115
def fX9_readsCrossers_b86 (N : Nat) (k14 : pH → Int32 → Int32 → Option (Int32 × pH)) (h : pH) (x1 : Int32) (x2 : Int32) (xs0 : Int32) (xs1 : Int32) : Option (Int32 × pH) :=
  k14 (pw h 49 9 (xs1 + xs0)) x1 (x2 + 1)
set_option maxRecDepth 100000 in
set_option maxHeartbeats 4000000 in
theorem tX9_readsCrossers_b86 {X : Xt} {v : Int32} {h' : pH} (N : Nat) (k14 : pH → Int32 → Int32 → Option (Int32 × pH)) (HK14 : ∀ (h : pH) (x1 : Int32) (x2 : Int32), k14 h x1 x2 = some (v, h') → Wx X 5 14 [(0, rf (qo X) 49), (1, .int x1), (2, .int x2)] [] h) (h : pH) (x1 : Int32) (x2 : Int32) (xs0 : Int32) (xs1 : Int32) (B : Bd (lo X) (qo X) cX9_readsCrossers RX9 5 (some .int) 2 46 (some (.int v)) h' X) (hf : fX9_readsCrossers_b86 N k14 h x1 x2 xs0 xs1 = some (v, h')) : Wx X 5 86 [(0, rf (qo X) 49), (1, .int x1), (2, .int x2)] [.int xs0, .int xs1, rf (qo X) 49] h := by
  have C := B.1
  unfold fX9_readsCrossers_b86 at hf
  refine x_iadd C dX9_readsCrossers_86 ?_
  refine x_putI (r := 49) C dX9_readsCrossers_87 kfX9_115 rfl rfl rfl ?_
  refine x_iinc (v := x2 + 1) (lv' := [(2, .int (x2 + 1)), (0, rf (qo X) 49), (1, .int x1)]) 2 C dX9_readsCrossers_90 rfl rfl (by decide) rfl ?_
  refine x_goto (tgt := 14) C dX9_readsCrossers_93 (by decide) ?_
  refine x_lv [1, 2, 0] rfl ?_
  exact HK14 (pw h 49 9 (xs1 + xs0)) x1 (x2 + 1) hf
def fX9_readsCrossers_b71 (N : Nat) (k14 : pH → Int32 → Int32 → Option (Int32 × pH)) (h : pH) (x1 : Int32) (x2 : Int32) (x3 : Int32) : Option (Int32 × pH) :=
  if x3 = 3 then (fX9_readsCrossers_b86 N k14 h x1 x2 1 (h.1 49 9)) else (fX9_readsCrossers_b86 N k14 h x1 x2 0 (h.1 49 9))
set_option maxRecDepth 100000 in
set_option maxHeartbeats 4000000 in
theorem tX9_readsCrossers_b71 {X : Xt} {v : Int32} {h' : pH} (N : Nat) (k14 : pH → Int32 → Int32 → Option (Int32 × pH)) (HK14 : ∀ (h : pH) (x1 : Int32) (x2 : Int32), k14 h x1 x2 = some (v, h') → Wx X 5 14 [(0, rf (qo X) 49), (1, .int x1), (2, .int x2)] [] h) (h : pH) (x1 : Int32) (x2 : Int32) (x3 : Int32) (B : Bd (lo X) (qo X) cX9_readsCrossers RX9 5 (some .int) 2 46 (some (.int v)) h' X) (hf : fX9_readsCrossers_b71 N k14 h x1 x2 x3 = some (v, h')) : Wx X 5 71 [(0, rf (qo X) 49), (1, .int x1), (2, .int x2), (3, .int x3)] [] h := by
  have C := B.1
  unfold fX9_readsCrossers_b71 at hf
  refine x_aload_n (i := 0) 0 C dX9_readsCrossers_71 rfl rfl ?_
  refine x_dupA C dX9_readsCrossers_72 ?_
  refine x_getI (r := 49) C dX9_readsCrossers_73 kfX9_115 rfl ?_
  refine x_iload_n (i := 3) 3 C dX9_readsCrossers_76 rfl rfl ?_
  refine x_iconst (v := 3) C dX9_readsCrossers_77 (by decide) ?_
  refine x_icmp_ne (tgt := 85) C dX9_readsCrossers_78 (by decide) (fun c => ?_) (fun c => ?_)
  · rw [if_neg c] at hf
    refine x_iconst (v := 0) C dX9_readsCrossers_85 (by decide) ?_
    refine x_lv [0, 1, 2] rfl ?_
    exact tX9_readsCrossers_b86 N k14 HK14 h x1 x2 0 (h.1 49 9) B hf
  · rw [if_pos c] at hf
    refine x_iconst (v := 1) C dX9_readsCrossers_81 (by decide) ?_
    refine x_goto (tgt := 86) C dX9_readsCrossers_82 (by decide) ?_
    refine x_lv [0, 1, 2] rfl ?_
    exact tX9_readsCrossers_b86 N k14 HK14 h x1 x2 1 (h.1 49 9) B hf
def fX9_readsCrossers_B14 (N : Nat) (k14 : pH → Int32 → Int32 → Option (Int32 × pH)) (h : pH) (x1 : Int32) (x2 : Int32) : Option (Int32 × pH) :=
  if x1 ≤ x2 then (if x1 ≤ 0 then (fX9_readsCrossers_b114 N h) else (if (x1 - x1 / 5 * 5) = 4 then (fX9_readsCrossers_b114 N h) else (some (x1, (pw h 49 9 0))))) else (if ix (40 + x2) 120 = true then ((fX9_crosserOf N h (x2 - x2 / 5 * 5) (h.1 54 (40 + x2).toNatClampNeg)).bind fun z1 => (if z1.1 = (-9) then (some (x2, (pw z1.2 49 9 0))) else (if 4 ≤ (x2 - x2 / 5 * 5) then (fX9_readsCrossers_b71 N k14 z1.2 x1 x2 (x2 - x2 / 5 * 5)) else (if ix ((4 * (x2 / 5)) + (x2 - x2 / 5 * 5)) 32 = true then (fX9_readsCrossers_b71 N k14 (pw z1.2 57 ((4 * (x2 / 5)) + (x2 - x2 / 5 * 5)).toNatClampNeg z1.1) x1 x2 (x2 - x2 / 5 * 5)) else none)))) else none)
set_option maxRecDepth 100000 in
set_option maxHeartbeats 4000000 in
theorem tX9_readsCrossers_B14 {X : Xt} {v : Int32} {h' : pH} (N : Nat) (k14 : pH → Int32 → Int32 → Option (Int32 × pH)) (HK14 : ∀ (h : pH) (x1 : Int32) (x2 : Int32), k14 h x1 x2 = some (v, h') → Wx X 5 14 [(0, rf (qo X) 49), (1, .int x1), (2, .int x2)] [] h) (h : pH) (x1 : Int32) (x2 : Int32) (B : Bd (lo X) (qo X) cX9_readsCrossers RX9 5 (some .int) 2 46 (some (.int v)) h' X) (hf : fX9_readsCrossers_B14 N k14 h x1 x2 = some (v, h')) : Wx X 5 14 [(0, rf (qo X) 49), (1, .int x1), (2, .int x2)] [] h := by
  have C := B.1
  unfold fX9_readsCrossers_B14 at hf
  refine x_iload_n (i := 2) 2 C dX9_readsCrossers_14 rfl rfl ?_
  refine x_iload_n (i := 1) 1 C dX9_readsCrossers_15 rfl rfl ?_
  refine x_icmp_ge (tgt := 96) C dX9_readsCrossers_16 (by decide) (fun c => ?_) (fun c => ?_)
  · rw [if_pos c] at hf
    refine x_iload_n (i := 1) 1 C dX9_readsCrossers_96 rfl rfl ?_
    refine x_if_le (tgt := 114) C dX9_readsCrossers_97 (by decide) (fun c => ?_) (fun c => ?_)
    · rw [if_pos c] at hf
      refine x_lv [] rfl ?_
      exact tX9_readsCrossers_b114 N h B hf
    · rw [if_neg c] at hf
      refine x_iload_n (i := 1) 1 C dX9_readsCrossers_100 rfl rfl ?_
      refine x_iconst (v := 5) C dX9_readsCrossers_101 (by decide) ?_
      refine x_irem C dX9_readsCrossers_102 (by decide) ?_
      refine x_iconst (v := 4) C dX9_readsCrossers_103 (by decide) ?_
      refine x_icmp_eq (tgt := 114) C dX9_readsCrossers_104 (by decide) (fun c => ?_) (fun c => ?_)
      · rw [if_pos c] at hf
        refine x_lv [] rfl ?_
        exact tX9_readsCrossers_b114 N h B hf
      · rw [if_neg c] at hf
        refine x_aload_n (i := 0) 0 C dX9_readsCrossers_107 rfl rfl ?_
        refine x_iconst (v := 0) C dX9_readsCrossers_108 (by decide) ?_
        refine x_putI (r := 49) C dX9_readsCrossers_109 kfX9_115 rfl rfl rfl ?_
        refine x_iload_n (i := 1) 1 C dX9_readsCrossers_112 rfl rfl ?_
        obtain ⟨rfl, rfl⟩ := rtn hf
        exact B.2.2.2.2.2.1 _ _ rfl rfl rfl _ _ dX9_readsCrossers_113
  · rw [if_neg c] at hf
    refine x_iload_n (i := 2) 2 C dX9_readsCrossers_19 rfl rfl ?_
    refine x_iconst (v := 5) C dX9_readsCrossers_20 (by decide) ?_
    refine x_irem C dX9_readsCrossers_21 (by decide) ?_
    refine x_istore_n (i := 3) (lv' := [(3, .int (x2 - x2 / 5 * 5)), (0, rf (qo X) 49), (1, .int x1), (2, .int x2)]) C dX9_readsCrossers_22 rfl (by decide) rfl ?_
    refine x_iload_n (i := 3) 0 C dX9_readsCrossers_23 rfl rfl ?_
    refine x_aload_n (i := 0) 1 C dX9_readsCrossers_24 rfl rfl ?_
    refine x_getR (r := 49) (r2 := 54) C dX9_readsCrossers_25 kfX9_22 rfl rfl (by decide) ?_
    refine x_bipush (v := 40) C dX9_readsCrossers_28 (by decide) ?_
    refine x_iload_n (i := 2) 3 C dX9_readsCrossers_30 rfl rfl ?_
    refine x_iadd C dX9_readsCrossers_31 ?_
    obtain ⟨g1, hf⟩ := ife hf
    refine x_iald (r := 54) C dX9_readsCrossers_32 rfl g1 ?_
    obtain ⟨z1, e1, hf⟩ := bnd hf
    refine x_callS (As := [.int (x2 - x2 / 5 * 5), .int (h.1 54 (40 + x2).toNatClampNeg)]) (rest := []) C dX9_readsCrossers_33 kmX9_118 miX9_crosserOf (ctX9_crosserOf (lo X) (qo X) N h (x2 - x2 / 5 * 5) (h.1 54 (40 + x2).toNatClampNeg) z1.1 z1.2 e1) rfl rfl ⟨Nat.le_trans (by decide) B.2.2.2.1, Nat.le_trans (by decide) B.2.2.2.2.1⟩ (by simp [cat_i, cat_l, rf_cat]) ?_
    refine x_istore (lv' := [(4, .int z1.1), (3, .int (x2 - x2 / 5 * 5)), (0, rf (qo X) 49), (1, .int x1), (2, .int x2)]) C dX9_readsCrossers_36 (by decide) rfl ?_
    refine x_iload 0 C dX9_readsCrossers_38 rfl ?_
    refine x_bipush (v := (-9)) C dX9_readsCrossers_40 (by decide) ?_
    refine x_icmp_ne (tgt := 52) C dX9_readsCrossers_42 (by decide) (fun c => ?_) (fun c => ?_)
    · rw [if_neg c] at hf
      refine x_iload_n (i := 3) 1 C dX9_readsCrossers_52 rfl rfl ?_
      refine x_iconst (v := 4) C dX9_readsCrossers_53 (by decide) ?_
      refine x_icmp_ge (tgt := 71) C dX9_readsCrossers_54 (by decide) (fun c => ?_) (fun c => ?_)
      · rw [if_pos c] at hf
        refine x_lv [2, 3, 4, 1] rfl ?_
        exact tX9_readsCrossers_b71 N k14 HK14 z1.2 x1 x2 (x2 - x2 / 5 * 5) B hf
      · rw [if_neg c] at hf
        refine x_aload_n (i := 0) 2 C dX9_readsCrossers_57 rfl rfl ?_
        refine x_getR (r := 49) (r2 := 57) C dX9_readsCrossers_58 kfX9_31 rfl rfl (by decide) ?_
        refine x_iconst (v := 4) C dX9_readsCrossers_61 (by decide) ?_
        refine x_iload_n (i := 2) 4 C dX9_readsCrossers_62 rfl rfl ?_
        refine x_iconst (v := 5) C dX9_readsCrossers_63 (by decide) ?_
        refine x_idiv C dX9_readsCrossers_64 (by decide) ?_
        refine x_imul C dX9_readsCrossers_65 ?_
        refine x_iload_n (i := 3) 1 C dX9_readsCrossers_66 rfl rfl ?_
        refine x_iadd C dX9_readsCrossers_67 ?_
        refine x_iload 0 C dX9_readsCrossers_68 rfl ?_
        obtain ⟨g2, hf⟩ := ife hf
        refine x_iast (r := 57) C dX9_readsCrossers_70 rfl g2 ?_
        refine x_lv [2, 3, 4, 1] rfl ?_
        exact tX9_readsCrossers_b71 N k14 HK14 (pw z1.2 57 ((4 * (x2 / 5)) + (x2 - x2 / 5 * 5)).toNatClampNeg z1.1) x1 x2 (x2 - x2 / 5 * 5) B hf
    · rw [if_pos c] at hf
      refine x_aload_n (i := 0) 2 C dX9_readsCrossers_45 rfl rfl ?_
      refine x_iconst (v := 0) C dX9_readsCrossers_46 (by decide) ?_
      refine x_putI (r := 49) C dX9_readsCrossers_47 kfX9_115 rfl rfl rfl ?_
      refine x_iload_n (i := 2) 4 C dX9_readsCrossers_50 rfl rfl ?_
      obtain ⟨rfl, rfl⟩ := rtn hf
      exact B.2.2.2.2.2.1 _ _ rfl rfl rfl _ _ dX9_readsCrossers_51
def fX9_readsCrossers_L14 (N : Nat) : Nat → pH → Int32 → Int32 → Option (Int32 × pH)
  | 0 => fun _ _ _ => none
  | n + 1 => fX9_readsCrossers_B14 N (fX9_readsCrossers_L14 N n)
theorem tX9_readsCrossers_L14 {X : Xt} {v : Int32} {h' : pH} (N : Nat) (B : Bd (lo X) (qo X) cX9_readsCrossers RX9 5 (some .int) 2 46 (some (.int v)) h' X) : ∀ (n : Nat) (h : pH) (x1 : Int32) (x2 : Int32), fX9_readsCrossers_L14 N n h x1 x2 = some (v, h') → Wx X 5 14 [(0, rf (qo X) 49), (1, .int x1), (2, .int x2)] [] h := by
  intro n
  induction n with
  | zero => intro h x1 x2 hf; exact absurd (show (none : Option (Int32 × pH)) = some (v, h') from hf) (fun z => by cases z)
  | succ n ih => intro h x1 x2 hf; exact tX9_readsCrossers_B14 N (fX9_readsCrossers_L14 N n) ih h x1 x2 B hf
def fX9_readsCrossers (N : Nat) (h : pH)  : Option (Int32 × pH) :=
  if ix (1 : Int32) 3 = true then (fX9_readsCrossers_L14 N N (pw h 49 9 0) ((pw h 49 9 0).1 55 (1 : Int32).toNatClampNeg) 0) else none
set_option maxRecDepth 100000 in
set_option maxHeartbeats 4000000 in
theorem tX9_readsCrossers {X : Xt} {v : Int32} {h' : pH} (N : Nat) (h : pH)  (B : Bd (lo X) (qo X) cX9_readsCrossers RX9 5 (some .int) 2 46 (some (.int v)) h' X) (hf : fX9_readsCrossers N h  = some (v, h')) : Wx X 5 0 [(0, rf (qo X) 49)] [] h := by
  have C := B.1
  unfold fX9_readsCrossers at hf
  refine x_aload_n (i := 0) 0 C dX9_readsCrossers_0 rfl rfl ?_
  refine x_iconst (v := 0) C dX9_readsCrossers_1 (by decide) ?_
  refine x_putI (r := 49) C dX9_readsCrossers_2 kfX9_115 rfl rfl rfl ?_
  refine x_aload_n (i := 0) 0 C dX9_readsCrossers_5 rfl rfl ?_
  refine x_getR (r := 49) (r2 := 55) C dX9_readsCrossers_6 kfX9_25 rfl rfl (by decide) ?_
  refine x_iconst (v := 1) C dX9_readsCrossers_9 (by decide) ?_
  obtain ⟨g1, hf⟩ := ife hf
  refine x_iald (r := 55) C dX9_readsCrossers_10 rfl g1 ?_
  refine x_istore_n (i := 1) (lv' := [(1, .int ((pw h 49 9 0).1 55 (1 : Int32).toNatClampNeg)), (0, rf (qo X) 49)]) C dX9_readsCrossers_11 rfl (by decide) rfl ?_
  refine x_iconst (v := 0) C dX9_readsCrossers_12 (by decide) ?_
  refine x_istore_n (i := 2) (lv' := [(2, .int 0), (1, .int ((pw h 49 9 0).1 55 (1 : Int32).toNatClampNeg)), (0, rf (qo X) 49)]) C dX9_readsCrossers_13 rfl (by decide) rfl ?_
  refine x_lv [2, 1, 0] rfl ?_
  exact tX9_readsCrossers_L14 N  B N (pw h 49 9 0) ((pw h 49 9 0).1 55 (1 : Int32).toNatClampNeg) 0 hf
theorem ctX9_readsCrossers (l : Launch) (q : Nat → Nat) (N : Nat) (h : pH)  (v : Int32) (h' : pH) (hf : fX9_readsCrossers N h  = some (v, h')) : Ctr l q yX9_readsCrossers cX9_readsCrossers 5 (some .int) 2 46 [rf q 49] h h' (some (.int v)) := by
  refine ct_of (own := RX9) (lv := [(0, rf q 49)]) (by decide +kernel) rfl (by simp [lg_sl, rf_cat, cat_i, cat_l]) (by first | rfl | simp [lv_args, rf_cat, cat_i, cat_l]) ?_
  intro X B
  obtain rfl := B.2.1
  obtain rfl := B.2.2.1
  exact tX9_readsCrossers N h  B hf
def fX9_readsCrossings_B7 (N : Nat) (k7 : pH → Int32 → Option (Int32 × pH)) (h : pH) (x1 : Int32) : Option (Int32 × pH) :=
  if ix (2 : Int32) 3 = true then (if (h.1 55 (2 : Int32).toNatClampNeg) ≤ x1 then (some ((-1), h)) else (if ix (80 + x1) 120 = true then ((fX9_in N h ((h.1 54 (80 + x1).toNatClampNeg).toInt64) 97 104).bind fun z1 => (if z1.1 = 0 then (some (x1, (pw z1.2 49 11 0))) else (if ix x1 24 = true then (k7 (pw (pw z1.2 58 x1.toNatClampNeg ((h.1 54 (80 + x1).toNatClampNeg) - 97)) 49 11 (((pw z1.2 58 x1.toNatClampNeg ((h.1 54 (80 + x1).toNatClampNeg) - 97)).1 49 11) + 1)) (x1 + 1)) else none))) else none)) else none
set_option maxRecDepth 100000 in
set_option maxHeartbeats 4000000 in
theorem tX9_readsCrossings_B7 {X : Xt} {v : Int32} {h' : pH} (N : Nat) (k7 : pH → Int32 → Option (Int32 × pH)) (HK7 : ∀ (h : pH) (x1 : Int32), k7 h x1 = some (v, h') → Wx X 3 7 [(0, rf (qo X) 49), (1, .int x1)] [] h) (h : pH) (x1 : Int32) (B : Bd (lo X) (qo X) cX9_readsCrossings RX9 3 (some .int) 1 25 (some (.int v)) h' X) (hf : fX9_readsCrossings_B7 N k7 h x1 = some (v, h')) : Wx X 3 7 [(0, rf (qo X) 49), (1, .int x1)] [] h := by
  have C := B.1
  unfold fX9_readsCrossings_B7 at hf
  refine x_iload_n (i := 1) 1 C dX9_readsCrossings_7 rfl rfl ?_
  refine x_aload_n (i := 0) 0 C dX9_readsCrossings_8 rfl rfl ?_
  refine x_getR (r := 49) (r2 := 55) C dX9_readsCrossings_9 kfX9_25 rfl rfl (by decide) ?_
  refine x_iconst (v := 2) C dX9_readsCrossings_12 (by decide) ?_
  obtain ⟨g1, hf⟩ := ife hf
  refine x_iald (r := 55) C dX9_readsCrossings_13 rfl g1 ?_
  refine x_icmp_ge (tgt := 74) C dX9_readsCrossings_14 (by decide) (fun c => ?_) (fun c => ?_)
  · rw [if_pos c] at hf
    refine x_iconst (v := (-1)) C dX9_readsCrossings_74 (by decide) ?_
    obtain ⟨rfl, rfl⟩ := rtn hf
    exact B.2.2.2.2.2.1 _ _ rfl rfl rfl _ _ dX9_readsCrossings_75
  · rw [if_neg c] at hf
    refine x_aload_n (i := 0) 0 C dX9_readsCrossings_17 rfl rfl ?_
    refine x_getR (r := 49) (r2 := 54) C dX9_readsCrossings_18 kfX9_22 rfl rfl (by decide) ?_
    refine x_bipush (v := 80) C dX9_readsCrossings_21 (by decide) ?_
    refine x_iload_n (i := 1) 1 C dX9_readsCrossings_23 rfl rfl ?_
    refine x_iadd C dX9_readsCrossings_24 ?_
    obtain ⟨g2, hf⟩ := ife hf
    refine x_iald (r := 54) C dX9_readsCrossings_25 rfl g2 ?_
    refine x_istore_n (i := 2) (lv' := [(2, .int (h.1 54 (80 + x1).toNatClampNeg)), (0, rf (qo X) 49), (1, .int x1)]) C dX9_readsCrossings_26 rfl (by decide) rfl ?_
    refine x_iload_n (i := 2) 0 C dX9_readsCrossings_27 rfl rfl ?_
    refine x_i2l C dX9_readsCrossings_28 ?_
    refine x_ldc2 (v := 97) C dX9_readsCrossings_29 kkX9_124 ?_
    refine x_ldc2 (v := 104) C dX9_readsCrossings_32 kkX9_126 ?_
    obtain ⟨z1, e1, hf⟩ := bnd hf
    refine x_callS (As := [.long ((h.1 54 (80 + x1).toNatClampNeg).toInt64), .long 97, .long 104]) (rest := []) C dX9_readsCrossings_35 kmX9_69 miX9_in (ctX9_in (lo X) (qo X) N h ((h.1 54 (80 + x1).toNatClampNeg).toInt64) 97 104 z1.1 z1.2 e1) rfl rfl ⟨Nat.le_trans (by decide) B.2.2.2.1, Nat.le_trans (by decide) B.2.2.2.2.1⟩ (by simp [cat_i, cat_l, rf_cat]) ?_
    refine x_if_ne (tgt := 48) C dX9_readsCrossings_38 (by decide) (fun c => ?_) (fun c => ?_)
    · rw [if_neg c] at hf
      refine x_aload_n (i := 0) 1 C dX9_readsCrossings_48 rfl rfl ?_
      refine x_getR (r := 49) (r2 := 58) C dX9_readsCrossings_49 kfX9_34 rfl rfl (by decide) ?_
      refine x_iload_n (i := 1) 2 C dX9_readsCrossings_52 rfl rfl ?_
      refine x_iload_n (i := 2) 0 C dX9_readsCrossings_53 rfl rfl ?_
      refine x_bipush (v := 97) C dX9_readsCrossings_54 (by decide) ?_
      refine x_isub C dX9_readsCrossings_56 ?_
      obtain ⟨g3, hf⟩ := ife hf
      refine x_iast (r := 58) C dX9_readsCrossings_57 rfl g3 ?_
      refine x_aload_n (i := 0) 1 C dX9_readsCrossings_58 rfl rfl ?_
      refine x_dupA C dX9_readsCrossings_59 ?_
      refine x_getI (r := 49) C dX9_readsCrossings_60 kfX9_121 rfl ?_
      refine x_iconst (v := 1) C dX9_readsCrossings_63 (by decide) ?_
      refine x_iadd C dX9_readsCrossings_64 ?_
      refine x_putI (r := 49) C dX9_readsCrossings_65 kfX9_121 rfl rfl rfl ?_
      refine x_iinc (v := x1 + 1) (lv' := [(1, .int (x1 + 1)), (2, .int (h.1 54 (80 + x1).toNatClampNeg)), (0, rf (qo X) 49)]) 2 C dX9_readsCrossings_68 rfl rfl (by decide) rfl ?_
      refine x_goto (tgt := 7) C dX9_readsCrossings_71 (by decide) ?_
      refine x_lv [2, 0] rfl ?_
      exact HK7 (pw (pw z1.2 58 x1.toNatClampNeg ((h.1 54 (80 + x1).toNatClampNeg) - 97)) 49 11 (((pw z1.2 58 x1.toNatClampNeg ((h.1 54 (80 + x1).toNatClampNeg) - 97)).1 49 11) + 1)) (x1 + 1) hf
    · rw [if_pos c] at hf
      refine x_aload_n (i := 0) 1 C dX9_readsCrossings_41 rfl rfl ?_
      refine x_iconst (v := 0) C dX9_readsCrossings_42 (by decide) ?_
      refine x_putI (r := 49) C dX9_readsCrossings_43 kfX9_121 rfl rfl rfl ?_
      refine x_iload_n (i := 1) 2 C dX9_readsCrossings_46 rfl rfl ?_
      obtain ⟨rfl, rfl⟩ := rtn hf
      exact B.2.2.2.2.2.1 _ _ rfl rfl rfl _ _ dX9_readsCrossings_47
def fX9_readsCrossings_L7 (N : Nat) : Nat → pH → Int32 → Option (Int32 × pH)
  | 0 => fun _ _ => none
  | n + 1 => fX9_readsCrossings_B7 N (fX9_readsCrossings_L7 N n)
theorem tX9_readsCrossings_L7 {X : Xt} {v : Int32} {h' : pH} (N : Nat) (B : Bd (lo X) (qo X) cX9_readsCrossings RX9 3 (some .int) 1 25 (some (.int v)) h' X) : ∀ (n : Nat) (h : pH) (x1 : Int32), fX9_readsCrossings_L7 N n h x1 = some (v, h') → Wx X 3 7 [(0, rf (qo X) 49), (1, .int x1)] [] h := by
  intro n
  induction n with
  | zero => intro h x1 hf; exact absurd (show (none : Option (Int32 × pH)) = some (v, h') from hf) (fun z => by cases z)
  | succ n ih => intro h x1 hf; exact tX9_readsCrossings_B7 N (fX9_readsCrossings_L7 N n) ih h x1 B hf
def fX9_readsCrossings (N : Nat) (h : pH)  : Option (Int32 × pH) :=
  fX9_readsCrossings_L7 N N (pw h 49 11 0) 0
set_option maxRecDepth 100000 in
set_option maxHeartbeats 4000000 in
theorem tX9_readsCrossings {X : Xt} {v : Int32} {h' : pH} (N : Nat) (h : pH)  (B : Bd (lo X) (qo X) cX9_readsCrossings RX9 3 (some .int) 1 25 (some (.int v)) h' X) (hf : fX9_readsCrossings N h  = some (v, h')) : Wx X 3 0 [(0, rf (qo X) 49)] [] h := by
  have C := B.1
  unfold fX9_readsCrossings at hf
  refine x_aload_n (i := 0) 0 C dX9_readsCrossings_0 rfl rfl ?_
  refine x_iconst (v := 0) C dX9_readsCrossings_1 (by decide) ?_
  refine x_putI (r := 49) C dX9_readsCrossings_2 kfX9_121 rfl rfl rfl ?_
  refine x_iconst (v := 0) C dX9_readsCrossings_5 (by decide) ?_
  refine x_istore_n (i := 1) (lv' := [(1, .int 0), (0, rf (qo X) 49)]) C dX9_readsCrossings_6 rfl (by decide) rfl ?_
  refine x_lv [1, 0] rfl ?_
  exact tX9_readsCrossings_L7 N  B N (pw h 49 11 0) 0 hf
theorem ctX9_readsCrossings (l : Launch) (q : Nat → Nat) (N : Nat) (h : pH)  (v : Int32) (h' : pH) (hf : fX9_readsCrossings N h  = some (v, h')) : Ctr l q yX9_readsCrossings cX9_readsCrossings 3 (some .int) 1 25 [rf q 49] h h' (some (.int v)) := by
  refine ct_of (own := RX9) (lv := [(0, rf q 49)]) (by decide +kernel) rfl (by simp [lg_sl, rf_cat, cat_i, cat_l]) (by first | rfl | simp [lv_args, rf_cat, cat_i, cat_l]) ?_
  intro X B
  obtain rfl := B.2.1
  obtain rfl := B.2.2.1
  exact tX9_readsCrossings N h  B hf
def fX9_readsText_b27 (N : Nat) (h : pH) (xs0 : Int32) : Option (Int32 × pH) :=
  some (xs0, h)
set_option maxRecDepth 100000 in
set_option maxHeartbeats 4000000 in
theorem tX9_readsText_b27 {X : Xt} {v : Int32} {h' : pH} (N : Nat) (h : pH) (xs0 : Int32) (B : Bd (lo X) (qo X) cX9_readsText RX9 2 (some .int) 3 70 (some (.int v)) h' X) (hf : fX9_readsText_b27 N h xs0 = some (v, h')) : Wx X 2 27 [] [.int xs0] h := by
  have C := B.1
  unfold fX9_readsText_b27 at hf
  obtain ⟨rfl, rfl⟩ := rtn hf
  exact B.2.2.2.2.2.1 _ _ rfl rfl rfl _ _ dX9_readsText_27
def fX9_readsText (N : Nat) (h : pH) (x1 : Int32) : Option (Int32 × pH) :=
  if x1 = 0 then ((fX9_readsPlanks N h).bind fun z3 => (fX9_readsText_b27 N z3.2 z3.1)) else (if x1 = 1 then ((fX9_readsCrossers N h).bind fun z2 => (fX9_readsText_b27 N z2.2 z2.1)) else ((fX9_readsCrossings N h).bind fun z1 => (fX9_readsText_b27 N z1.2 z1.1)))
set_option maxRecDepth 100000 in
set_option maxHeartbeats 4000000 in
theorem tX9_readsText {X : Xt} {v : Int32} {h' : pH} (N : Nat) (h : pH) (x1 : Int32) (B : Bd (lo X) (qo X) cX9_readsText RX9 2 (some .int) 3 70 (some (.int v)) h' X) (hf : fX9_readsText N h x1 = some (v, h')) : Wx X 2 0 [(0, rf (qo X) 49), (1, .int x1)] [] h := by
  have C := B.1
  unfold fX9_readsText at hf
  refine x_iload_n (i := 1) 1 C dX9_readsText_0 rfl rfl ?_
  refine x_if_ne (tgt := 11) C dX9_readsText_1 (by decide) (fun c => ?_) (fun c => ?_)
  · rw [if_neg c] at hf
    refine x_iload_n (i := 1) 1 C dX9_readsText_11 rfl rfl ?_
    refine x_iconst (v := 1) C dX9_readsText_12 (by decide) ?_
    refine x_icmp_ne (tgt := 23) C dX9_readsText_13 (by decide) (fun c => ?_) (fun c => ?_)
    · rw [if_neg c] at hf
      refine x_aload_n (i := 0) 0 C dX9_readsText_23 rfl rfl ?_
      obtain ⟨z1, e1, hf⟩ := bnd hf
      refine x_callV (r := 49) (As := []) (rest := []) C dX9_readsText_24 kmX9_135 miX9_readsCrossings (ctX9_readsCrossings (lo X) (qo X) N h z1.1 z1.2 e1) rfl rfl ⟨Nat.le_trans (by decide) B.2.2.2.1, Nat.le_trans (by decide) B.2.2.2.2.1⟩ (by simp [cat_i, cat_l, rf_cat]) rfl ?_
      refine x_lv [] rfl ?_
      exact tX9_readsText_b27 N z1.2 z1.1 B hf
    · rw [if_pos c] at hf
      refine x_aload_n (i := 0) 0 C dX9_readsText_16 rfl rfl ?_
      obtain ⟨z2, e2, hf⟩ := bnd hf
      refine x_callV (r := 49) (As := []) (rest := []) C dX9_readsText_17 kmX9_132 miX9_readsCrossers (ctX9_readsCrossers (lo X) (qo X) N h z2.1 z2.2 e2) rfl rfl ⟨Nat.le_trans (by decide) B.2.2.2.1, Nat.le_trans (by decide) B.2.2.2.2.1⟩ (by simp [cat_i, cat_l, rf_cat]) rfl ?_
      refine x_goto (tgt := 27) C dX9_readsText_20 (by decide) ?_
      refine x_lv [] rfl ?_
      exact tX9_readsText_b27 N z2.2 z2.1 B hf
  · rw [if_pos c] at hf
    refine x_aload_n (i := 0) 0 C dX9_readsText_4 rfl rfl ?_
    obtain ⟨z3, e3, hf⟩ := bnd hf
    refine x_callV (r := 49) (As := []) (rest := []) C dX9_readsText_5 kmX9_128 miX9_readsPlanks (ctX9_readsPlanks (lo X) (qo X) N h z3.1 z3.2 e3) rfl rfl ⟨Nat.le_trans (by decide) B.2.2.2.1, Nat.le_trans (by decide) B.2.2.2.2.1⟩ (by simp [cat_i, cat_l, rf_cat]) rfl ?_
    refine x_goto (tgt := 27) C dX9_readsText_8 (by decide) ?_
    refine x_lv [] rfl ?_
    exact tX9_readsText_b27 N z3.2 z3.1 B hf
theorem ctX9_readsText (l : Launch) (q : Nat → Nat) (N : Nat) (h : pH) (x1 : Int32) (v : Int32) (h' : pH) (hf : fX9_readsText N h x1 = some (v, h')) : Ctr l q yX9_readsText cX9_readsText 2 (some .int) 3 70 [rf q 49, .int x1] h h' (some (.int v)) := by
  refine ct_of (own := RX9) (lv := [(0, rf q 49), (1, .int x1)]) (by decide +kernel) rfl (by simp [lg_sl, rf_cat, cat_i, cat_l]) (by first | rfl | simp [lv_args, rf_cat, cat_i, cat_l]) ?_
  intro X B
  obtain rfl := B.2.1
  obtain rfl := B.2.2.1
  exact tX9_readsText N h x1 B hf
def fX9_fault_b17 (N : Nat) (h : pH) (xs0 : Int32) : Option (Int32 × pH) :=
  some (xs0, h)
set_option maxRecDepth 100000 in
set_option maxHeartbeats 4000000 in
theorem tX9_fault_b17 {X : Xt} {v : Int32} {h' : pH} (N : Nat) (h : pH) (xs0 : Int32) (B : Bd (lo X) (qo X) cX9_fault RX9 2 (some .int) 4 91 (some (.int v)) h' X) (hf : fX9_fault_b17 N h xs0 = some (v, h')) : Wx X 2 17 [] [.int xs0] h := by
  have C := B.1
  unfold fX9_fault_b17 at hf
  obtain ⟨rfl, rfl⟩ := rtn hf
  exact B.2.2.2.2.2.1 _ _ rfl rfl rfl _ _ dX9_fault_17
def fX9_fault (N : Nat) (h : pH) (x1 : Int32) : Option (Int32 × pH) :=
  (fX9_isText N h x1).bind fun z1 => (if z1.1 = 0 then (fX9_fault_b17 N z1.2 (-2)) else ((fX9_readsText N z1.2 x1).bind fun z2 => (fX9_fault_b17 N z2.2 z2.1)))
set_option maxRecDepth 100000 in
set_option maxHeartbeats 4000000 in
theorem tX9_fault {X : Xt} {v : Int32} {h' : pH} (N : Nat) (h : pH) (x1 : Int32) (B : Bd (lo X) (qo X) cX9_fault RX9 2 (some .int) 4 91 (some (.int v)) h' X) (hf : fX9_fault N h x1 = some (v, h')) : Wx X 2 0 [(0, rf (qo X) 49), (1, .int x1)] [] h := by
  have C := B.1
  unfold fX9_fault at hf
  refine x_iload_n (i := 1) 1 C dX9_fault_0 rfl rfl ?_
  obtain ⟨z1, e1, hf⟩ := bnd hf
  refine x_callS (As := [.int x1]) (rest := []) C dX9_fault_1 kmX9_98 miX9_isText (ctX9_isText (lo X) (qo X) N h x1 z1.1 z1.2 e1) rfl rfl ⟨Nat.le_trans (by decide) B.2.2.2.1, Nat.le_trans (by decide) B.2.2.2.2.1⟩ (by simp [cat_i, cat_l, rf_cat]) ?_
  refine x_if_eq (tgt := 15) C dX9_fault_4 (by decide) (fun c => ?_) (fun c => ?_)
  · rw [if_pos c] at hf
    refine x_bipush (v := (-2)) C dX9_fault_15 (by decide) ?_
    refine x_lv [] rfl ?_
    exact tX9_fault_b17 N z1.2 (-2) B hf
  · rw [if_neg c] at hf
    refine x_aload_n (i := 0) 0 C dX9_fault_7 rfl rfl ?_
    refine x_iload_n (i := 1) 1 C dX9_fault_8 rfl rfl ?_
    obtain ⟨z2, e2, hf⟩ := bnd hf
    refine x_callV (r := 49) (As := [.int x1]) (rest := []) C dX9_fault_9 kmX9_138 miX9_readsText (ctX9_readsText (lo X) (qo X) N z1.2 x1 z2.1 z2.2 e2) rfl rfl ⟨Nat.le_trans (by decide) B.2.2.2.1, Nat.le_trans (by decide) B.2.2.2.2.1⟩ (by simp [cat_i, cat_l, rf_cat]) rfl ?_
    refine x_goto (tgt := 17) C dX9_fault_12 (by decide) ?_
    refine x_lv [] rfl ?_
    exact tX9_fault_b17 N z2.2 z2.1 B hf
theorem ctX9_fault (l : Launch) (q : Nat → Nat) (N : Nat) (h : pH) (x1 : Int32) (v : Int32) (h' : pH) (hf : fX9_fault N h x1 = some (v, h')) : Ctr l q yX9_fault cX9_fault 2 (some .int) 4 91 [rf q 49, .int x1] h h' (some (.int v)) := by
  refine ct_of (own := RX9) (lv := [(0, rf q 49), (1, .int x1)]) (by decide +kernel) rfl (by simp [lg_sl, rf_cat, cat_i, cat_l]) (by first | rfl | simp [lv_args, rf_cat, cat_i, cat_l]) ?_
  intro X B
  obtain rfl := B.2.1
  obtain rfl := B.2.2.1
  exact tX9_fault N h x1 B hf
def fX9_isCrosser (N : Nat) (h : pH) (x1 : Int32) : Option (Int32 × pH) :=
  (fX9_in N h x1.toInt64 0 (((h.1 49 9) - 1).toInt64)).bind fun z1 => (if z1.1 = 0 ∨ z1.1 = 1 then (some (z1.1, z1.2)) else none)
set_option maxRecDepth 100000 in
set_option maxHeartbeats 4000000 in
theorem tX9_isCrosser {X : Xt} {v : Int32} {h' : pH} (N : Nat) (h : pH) (x1 : Int32) (B : Bd (lo X) (qo X) cX9_isCrosser RX9 2 (some .boolean) 1 25 (some (.int v)) h' X) (hf : fX9_isCrosser N h x1 = some (v, h')) : Wx X 2 0 [(0, rf (qo X) 49), (1, .int x1)] [] h := by
  have C := B.1
  unfold fX9_isCrosser at hf
  refine x_iload_n (i := 1) 1 C dX9_isCrosser_0 rfl rfl ?_
  refine x_i2l C dX9_isCrosser_1 ?_
  refine x_lconst (v := 0) C dX9_isCrosser_2 (by decide) ?_
  refine x_aload_n (i := 0) 0 C dX9_isCrosser_3 rfl rfl ?_
  refine x_getI (r := 49) C dX9_isCrosser_4 kfX9_115 rfl ?_
  refine x_iconst (v := 1) C dX9_isCrosser_7 (by decide) ?_
  refine x_isub C dX9_isCrosser_8 ?_
  refine x_i2l C dX9_isCrosser_9 ?_
  obtain ⟨z1, e1, hf⟩ := bnd hf
  refine x_callS (As := [.long x1.toInt64, .long 0, .long (((h.1 49 9) - 1).toInt64)]) (rest := []) C dX9_isCrosser_10 kmX9_69 miX9_in (ctX9_in (lo X) (qo X) N h x1.toInt64 0 (((h.1 49 9) - 1).toInt64) z1.1 z1.2 e1) rfl rfl ⟨Nat.le_trans (by decide) B.2.2.2.1, Nat.le_trans (by decide) B.2.2.2.2.1⟩ (by simp [cat_i, cat_l, rf_cat]) ?_
  obtain ⟨g1, hf⟩ := ife hf
  obtain ⟨rfl, rfl⟩ := rtn hf
  exact B.2.2.2.2.2.1 _ _ rfl rfl (nrB g1) _ _ dX9_isCrosser_13
theorem ctX9_isCrosser (l : Launch) (q : Nat → Nat) (N : Nat) (h : pH) (x1 : Int32) (v : Int32) (h' : pH) (hf : fX9_isCrosser N h x1 = some (v, h')) : Ctr l q yX9_isCrosser cX9_isCrosser 2 (some .boolean) 1 25 [rf q 49, .int x1] h h' (some (.int v)) := by
  refine ct_of (own := RX9) (lv := [(0, rf q 49), (1, .int x1)]) (by decide +kernel) rfl (by simp [lg_sl, rf_cat, cat_i, cat_l]) (by first | rfl | simp [lv_args, rf_cat, cat_i, cat_l]) ?_
  intro X B
  obtain rfl := B.2.1
  obtain rfl := B.2.2.1
  exact tX9_isCrosser N h x1 B hf
def fX9_plank_b40 (N : Nat) (h : pH) (xs0 : Int32) : Option (Int32 × pH) :=
  some (xs0, h)
set_option maxRecDepth 100000 in
set_option maxHeartbeats 4000000 in
theorem tX9_plank_b40 {X : Xt} {v : Int32} {h' : pH} (N : Nat) (h : pH) (xs0 : Int32) (B : Bd (lo X) (qo X) cX9_plank RX9 2 (some .int) 1 25 (some (.int v)) h' X) (hf : fX9_plank_b40 N h xs0 = some (v, h')) : Wx X 2 40 [] [.int xs0] h := by
  have C := B.1
  unfold fX9_plank_b40 at hf
  obtain ⟨rfl, rfl⟩ := rtn hf
  exact B.2.2.2.2.2.1 _ _ rfl rfl rfl _ _ dX9_plank_40
def fX9_plank (N : Nat) (h : pH) (x1 : Int32) : Option (Int32 × pH) :=
  (fX9_readsPlanks N h).bind fun z1 => ((fX9_in N z1.2 x1.toInt64 0 18).bind fun z2 => (if z2.1 = 0 then (fX9_plank_b40 N z2.2 (-2)) else (if (z2.2.1 49 7) ≤ x1 then (fX9_plank_b40 N z2.2 (-1)) else (if ix x1 19 = true then (fX9_plank_b40 N z2.2 (z2.2.1 56 x1.toNatClampNeg)) else none))))
set_option maxRecDepth 100000 in
set_option maxHeartbeats 4000000 in
theorem tX9_plank {X : Xt} {v : Int32} {h' : pH} (N : Nat) (h : pH) (x1 : Int32) (B : Bd (lo X) (qo X) cX9_plank RX9 2 (some .int) 1 25 (some (.int v)) h' X) (hf : fX9_plank N h x1 = some (v, h')) : Wx X 2 0 [(0, rf (qo X) 49), (1, .int x1)] [] h := by
  have C := B.1
  unfold fX9_plank at hf
  refine x_aload_n (i := 0) 0 C dX9_plank_0 rfl rfl ?_
  obtain ⟨z1, e1, hf⟩ := bnd hf
  refine x_callV (r := 49) (As := []) (rest := []) C dX9_plank_1 kmX9_128 miX9_readsPlanks (ctX9_readsPlanks (lo X) (qo X) N h z1.1 z1.2 e1) rfl rfl ⟨Nat.le_trans (by decide) B.2.2.2.1, Nat.le_trans (by decide) B.2.2.2.2.1⟩ (by simp [cat_i, cat_l, rf_cat]) rfl ?_
  refine x_popI C dX9_plank_4 ?_
  refine x_iload_n (i := 1) 1 C dX9_plank_5 rfl rfl ?_
  refine x_i2l C dX9_plank_6 ?_
  refine x_lconst (v := 0) C dX9_plank_7 (by decide) ?_
  refine x_ldc2 (v := 18) C dX9_plank_8 kkX9_141 ?_
  obtain ⟨z2, e2, hf⟩ := bnd hf
  refine x_callS (As := [.long x1.toInt64, .long 0, .long 18]) (rest := []) C dX9_plank_11 kmX9_69 miX9_in (ctX9_in (lo X) (qo X) N z1.2 x1.toInt64 0 18 z2.1 z2.2 e2) rfl rfl ⟨Nat.le_trans (by decide) B.2.2.2.1, Nat.le_trans (by decide) B.2.2.2.2.1⟩ (by simp [cat_i, cat_l, rf_cat]) ?_
  refine x_if_ne (tgt := 22) C dX9_plank_14 (by decide) (fun c => ?_) (fun c => ?_)
  · rw [if_neg c] at hf
    refine x_iload_n (i := 1) 1 C dX9_plank_22 rfl rfl ?_
    refine x_aload_n (i := 0) 0 C dX9_plank_23 rfl rfl ?_
    refine x_getI (r := 49) C dX9_plank_24 kfX9_103 rfl ?_
    refine x_icmp_ge (tgt := 39) C dX9_plank_27 (by decide) (fun c => ?_) (fun c => ?_)
    · rw [if_pos c] at hf
      refine x_iconst (v := (-1)) C dX9_plank_39 (by decide) ?_
      refine x_lv [] rfl ?_
      exact tX9_plank_b40 N z2.2 (-1) B hf
    · rw [if_neg c] at hf
      refine x_aload_n (i := 0) 0 C dX9_plank_30 rfl rfl ?_
      refine x_getR (r := 49) (r2 := 56) C dX9_plank_31 kfX9_28 rfl rfl (by decide) ?_
      refine x_iload_n (i := 1) 1 C dX9_plank_34 rfl rfl ?_
      obtain ⟨g1, hf⟩ := ife hf
      refine x_iald (r := 56) C dX9_plank_35 rfl g1 ?_
      refine x_goto (tgt := 40) C dX9_plank_36 (by decide) ?_
      refine x_lv [] rfl ?_
      exact tX9_plank_b40 N z2.2 (z2.2.1 56 x1.toNatClampNeg) B hf
  · rw [if_pos c] at hf
    refine x_bipush (v := (-2)) C dX9_plank_17 (by decide) ?_
    refine x_goto (tgt := 40) C dX9_plank_19 (by decide) ?_
    refine x_lv [] rfl ?_
    exact tX9_plank_b40 N z2.2 (-2) B hf
theorem ctX9_plank (l : Launch) (q : Nat → Nat) (N : Nat) (h : pH) (x1 : Int32) (v : Int32) (h' : pH) (hf : fX9_plank N h x1 = some (v, h')) : Ctr l q yX9_plank cX9_plank 2 (some .int) 1 25 [rf q 49, .int x1] h h' (some (.int v)) := by
  refine ct_of (own := RX9) (lv := [(0, rf q 49), (1, .int x1)]) (by decide +kernel) rfl (by simp [lg_sl, rf_cat, cat_i, cat_l]) (by first | rfl | simp [lv_args, rf_cat, cat_i, cat_l]) ?_
  intro X B
  obtain rfl := B.2.1
  obtain rfl := B.2.2.1
  exact tX9_plank N h x1 B hf
def fX9_crosser_b40 (N : Nat) (h : pH) (xs0 : Int32) : Option (Int32 × pH) :=
  some (xs0, h)
set_option maxRecDepth 100000 in
set_option maxHeartbeats 4000000 in
theorem tX9_crosser_b40 {X : Xt} {v : Int32} {h' : pH} (N : Nat) (h : pH) (xs0 : Int32) (B : Bd (lo X) (qo X) cX9_crosser RX9 3 (some .int) 3 70 (some (.int v)) h' X) (hf : fX9_crosser_b40 N h xs0 = some (v, h')) : Wx X 3 40 [] [.int xs0] h := by
  have C := B.1
  unfold fX9_crosser_b40 at hf
  obtain ⟨rfl, rfl⟩ := rtn hf
  exact B.2.2.2.2.2.1 _ _ rfl rfl rfl _ _ dX9_crosser_40
def fX9_crosser_b38 (N : Nat) (h : pH)  : Option (Int32 × pH) :=
  fX9_crosser_b40 N h (-2)
set_option maxRecDepth 100000 in
set_option maxHeartbeats 4000000 in
theorem tX9_crosser_b38 {X : Xt} {v : Int32} {h' : pH} (N : Nat) (h : pH)  (B : Bd (lo X) (qo X) cX9_crosser RX9 3 (some .int) 3 70 (some (.int v)) h' X) (hf : fX9_crosser_b38 N h  = some (v, h')) : Wx X 3 38 [] [] h := by
  have C := B.1
  unfold fX9_crosser_b38 at hf
  refine x_bipush (v := (-2)) C dX9_crosser_38 (by decide) ?_
  exact tX9_crosser_b40 N h (-2) B hf
def fX9_crosser (N : Nat) (h : pH) (x1 : Int32) (x2 : Int32) : Option (Int32 × pH) :=
  (fX9_readsCrossers N h).bind fun z1 => ((fX9_isCrosser N z1.2 x1).bind fun z2 => (if z2.1 = 0 then (fX9_crosser_b38 N z2.2) else ((fX9_in N z2.2 x2.toInt64 0 3).bind fun z3 => (if z3.1 = 0 then (fX9_crosser_b38 N z3.2) else (if ix ((4 * x1) + x2) 32 = true then (fX9_crosser_b40 N z3.2 (z3.2.1 57 ((4 * x1) + x2).toNatClampNeg)) else none)))))
set_option maxRecDepth 100000 in
set_option maxHeartbeats 4000000 in
theorem tX9_crosser {X : Xt} {v : Int32} {h' : pH} (N : Nat) (h : pH) (x1 : Int32) (x2 : Int32) (B : Bd (lo X) (qo X) cX9_crosser RX9 3 (some .int) 3 70 (some (.int v)) h' X) (hf : fX9_crosser N h x1 x2 = some (v, h')) : Wx X 3 0 [(0, rf (qo X) 49), (1, .int x1), (2, .int x2)] [] h := by
  have C := B.1
  unfold fX9_crosser at hf
  refine x_aload_n (i := 0) 0 C dX9_crosser_0 rfl rfl ?_
  obtain ⟨z1, e1, hf⟩ := bnd hf
  refine x_callV (r := 49) (As := []) (rest := []) C dX9_crosser_1 kmX9_132 miX9_readsCrossers (ctX9_readsCrossers (lo X) (qo X) N h z1.1 z1.2 e1) rfl rfl ⟨Nat.le_trans (by decide) B.2.2.2.1, Nat.le_trans (by decide) B.2.2.2.2.1⟩ (by simp [cat_i, cat_l, rf_cat]) rfl ?_
  refine x_popI C dX9_crosser_4 ?_
  refine x_aload_n (i := 0) 0 C dX9_crosser_5 rfl rfl ?_
  refine x_iload_n (i := 1) 1 C dX9_crosser_6 rfl rfl ?_
  obtain ⟨z2, e2, hf⟩ := bnd hf
  refine x_callV (r := 49) (As := [.int x1]) (rest := []) C dX9_crosser_7 kmX9_143 miX9_isCrosser (ctX9_isCrosser (lo X) (qo X) N z1.2 x1 z2.1 z2.2 e2) rfl rfl ⟨Nat.le_trans (by decide) B.2.2.2.1, Nat.le_trans (by decide) B.2.2.2.2.1⟩ (by simp [cat_i, cat_l, rf_cat]) rfl ?_
  refine x_if_eq (tgt := 38) C dX9_crosser_10 (by decide) (fun c => ?_) (fun c => ?_)
  · rw [if_pos c] at hf
    refine x_lv [] rfl ?_
    exact tX9_crosser_b38 N z2.2 B hf
  · rw [if_neg c] at hf
    refine x_iload_n (i := 2) 2 C dX9_crosser_13 rfl rfl ?_
    refine x_i2l C dX9_crosser_14 ?_
    refine x_lconst (v := 0) C dX9_crosser_15 (by decide) ?_
    refine x_ldc2 (v := 3) C dX9_crosser_16 kkX9_77 ?_
    obtain ⟨z3, e3, hf⟩ := bnd hf
    refine x_callS (As := [.long x2.toInt64, .long 0, .long 3]) (rest := []) C dX9_crosser_19 kmX9_69 miX9_in (ctX9_in (lo X) (qo X) N z2.2 x2.toInt64 0 3 z3.1 z3.2 e3) rfl rfl ⟨Nat.le_trans (by decide) B.2.2.2.1, Nat.le_trans (by decide) B.2.2.2.2.1⟩ (by simp [cat_i, cat_l, rf_cat]) ?_
    refine x_if_eq (tgt := 38) C dX9_crosser_22 (by decide) (fun c => ?_) (fun c => ?_)
    · rw [if_pos c] at hf
      refine x_lv [] rfl ?_
      exact tX9_crosser_b38 N z3.2 B hf
    · rw [if_neg c] at hf
      refine x_aload_n (i := 0) 0 C dX9_crosser_25 rfl rfl ?_
      refine x_getR (r := 49) (r2 := 57) C dX9_crosser_26 kfX9_31 rfl rfl (by decide) ?_
      refine x_iconst (v := 4) C dX9_crosser_29 (by decide) ?_
      refine x_iload_n (i := 1) 1 C dX9_crosser_30 rfl rfl ?_
      refine x_imul C dX9_crosser_31 ?_
      refine x_iload_n (i := 2) 2 C dX9_crosser_32 rfl rfl ?_
      refine x_iadd C dX9_crosser_33 ?_
      obtain ⟨g1, hf⟩ := ife hf
      refine x_iald (r := 57) C dX9_crosser_34 rfl g1 ?_
      refine x_goto (tgt := 40) C dX9_crosser_35 (by decide) ?_
      refine x_lv [] rfl ?_
      exact tX9_crosser_b40 N z3.2 (z3.2.1 57 ((4 * x1) + x2).toNatClampNeg) B hf
theorem ctX9_crosser (l : Launch) (q : Nat → Nat) (N : Nat) (h : pH) (x1 : Int32) (x2 : Int32) (v : Int32) (h' : pH) (hf : fX9_crosser N h x1 x2 = some (v, h')) : Ctr l q yX9_crosser cX9_crosser 3 (some .int) 3 70 [rf q 49, .int x1, .int x2] h h' (some (.int v)) := by
  refine ct_of (own := RX9) (lv := [(0, rf q 49), (1, .int x1), (2, .int x2)]) (by decide +kernel) rfl (by simp [lg_sl, rf_cat, cat_i, cat_l]) (by first | rfl | simp [lv_args, rf_cat, cat_i, cat_l]) ?_
  intro X B
  obtain rfl := B.2.1
  obtain rfl := B.2.2.1
  exact tX9_crosser N h x1 x2 B hf
def fX9_crossing_b40 (N : Nat) (h : pH) (xs0 : Int32) : Option (Int32 × pH) :=
  some (xs0, h)
set_option maxRecDepth 100000 in
set_option maxHeartbeats 4000000 in
theorem tX9_crossing_b40 {X : Xt} {v : Int32} {h' : pH} (N : Nat) (h : pH) (xs0 : Int32) (B : Bd (lo X) (qo X) cX9_crossing RX9 2 (some .int) 2 47 (some (.int v)) h' X) (hf : fX9_crossing_b40 N h xs0 = some (v, h')) : Wx X 2 40 [] [.int xs0] h := by
  have C := B.1
  unfold fX9_crossing_b40 at hf
  obtain ⟨rfl, rfl⟩ := rtn hf
  exact B.2.2.2.2.2.1 _ _ rfl rfl rfl _ _ dX9_crossing_40
def fX9_crossing (N : Nat) (h : pH) (x1 : Int32) : Option (Int32 × pH) :=
  (fX9_readsCrossings N h).bind fun z1 => ((fX9_in N z1.2 x1.toInt64 0 23).bind fun z2 => (if z2.1 = 0 then (fX9_crossing_b40 N z2.2 (-2)) else (if (z2.2.1 49 11) ≤ x1 then (fX9_crossing_b40 N z2.2 (-1)) else (if ix x1 24 = true then (fX9_crossing_b40 N z2.2 (z2.2.1 58 x1.toNatClampNeg)) else none))))
set_option maxRecDepth 100000 in
set_option maxHeartbeats 4000000 in
theorem tX9_crossing {X : Xt} {v : Int32} {h' : pH} (N : Nat) (h : pH) (x1 : Int32) (B : Bd (lo X) (qo X) cX9_crossing RX9 2 (some .int) 2 47 (some (.int v)) h' X) (hf : fX9_crossing N h x1 = some (v, h')) : Wx X 2 0 [(0, rf (qo X) 49), (1, .int x1)] [] h := by
  have C := B.1
  unfold fX9_crossing at hf
  refine x_aload_n (i := 0) 0 C dX9_crossing_0 rfl rfl ?_
  obtain ⟨z1, e1, hf⟩ := bnd hf
  refine x_callV (r := 49) (As := []) (rest := []) C dX9_crossing_1 kmX9_135 miX9_readsCrossings (ctX9_readsCrossings (lo X) (qo X) N h z1.1 z1.2 e1) rfl rfl ⟨Nat.le_trans (by decide) B.2.2.2.1, Nat.le_trans (by decide) B.2.2.2.2.1⟩ (by simp [cat_i, cat_l, rf_cat]) rfl ?_
  refine x_popI C dX9_crossing_4 ?_
  refine x_iload_n (i := 1) 1 C dX9_crossing_5 rfl rfl ?_
  refine x_i2l C dX9_crossing_6 ?_
  refine x_lconst (v := 0) C dX9_crossing_7 (by decide) ?_
  refine x_ldc2 (v := 23) C dX9_crossing_8 kkX9_146 ?_
  obtain ⟨z2, e2, hf⟩ := bnd hf
  refine x_callS (As := [.long x1.toInt64, .long 0, .long 23]) (rest := []) C dX9_crossing_11 kmX9_69 miX9_in (ctX9_in (lo X) (qo X) N z1.2 x1.toInt64 0 23 z2.1 z2.2 e2) rfl rfl ⟨Nat.le_trans (by decide) B.2.2.2.1, Nat.le_trans (by decide) B.2.2.2.2.1⟩ (by simp [cat_i, cat_l, rf_cat]) ?_
  refine x_if_ne (tgt := 22) C dX9_crossing_14 (by decide) (fun c => ?_) (fun c => ?_)
  · rw [if_neg c] at hf
    refine x_iload_n (i := 1) 1 C dX9_crossing_22 rfl rfl ?_
    refine x_aload_n (i := 0) 0 C dX9_crossing_23 rfl rfl ?_
    refine x_getI (r := 49) C dX9_crossing_24 kfX9_121 rfl ?_
    refine x_icmp_ge (tgt := 39) C dX9_crossing_27 (by decide) (fun c => ?_) (fun c => ?_)
    · rw [if_pos c] at hf
      refine x_iconst (v := (-1)) C dX9_crossing_39 (by decide) ?_
      refine x_lv [] rfl ?_
      exact tX9_crossing_b40 N z2.2 (-1) B hf
    · rw [if_neg c] at hf
      refine x_aload_n (i := 0) 0 C dX9_crossing_30 rfl rfl ?_
      refine x_getR (r := 49) (r2 := 58) C dX9_crossing_31 kfX9_34 rfl rfl (by decide) ?_
      refine x_iload_n (i := 1) 1 C dX9_crossing_34 rfl rfl ?_
      obtain ⟨g1, hf⟩ := ife hf
      refine x_iald (r := 58) C dX9_crossing_35 rfl g1 ?_
      refine x_goto (tgt := 40) C dX9_crossing_36 (by decide) ?_
      refine x_lv [] rfl ?_
      exact tX9_crossing_b40 N z2.2 (z2.2.1 58 x1.toNatClampNeg) B hf
  · rw [if_pos c] at hf
    refine x_bipush (v := (-2)) C dX9_crossing_17 (by decide) ?_
    refine x_goto (tgt := 40) C dX9_crossing_19 (by decide) ?_
    refine x_lv [] rfl ?_
    exact tX9_crossing_b40 N z2.2 (-2) B hf
theorem ctX9_crossing (l : Launch) (q : Nat → Nat) (N : Nat) (h : pH) (x1 : Int32) (v : Int32) (h' : pH) (hf : fX9_crossing N h x1 = some (v, h')) : Ctr l q yX9_crossing cX9_crossing 2 (some .int) 2 47 [rf q 49, .int x1] h h' (some (.int v)) := by
  refine ct_of (own := RX9) (lv := [(0, rf q 49), (1, .int x1)]) (by decide +kernel) rfl (by simp [lg_sl, rf_cat, cat_i, cat_l]) (by first | rfl | simp [lv_args, rf_cat, cat_i, cat_l]) ?_
  intro X B
  obtain rfl := B.2.1
  obtain rfl := B.2.2.1
  exact tX9_crossing N h x1 B hf
def fX9_set_b29 (N : Nat) (h : pH)  : Option (Int32 × pH) :=
  some ((-2), h)
set_option maxRecDepth 100000 in
set_option maxHeartbeats 4000000 in
theorem tX9_set_b29 {X : Xt} {v : Int32} {h' : pH} (N : Nat) (h : pH)  (B : Bd (lo X) (qo X) cX9_set RX9 4 (some .int) 2 45 (some (.int v)) h' X) (hf : fX9_set_b29 N h  = some (v, h')) : Wx X 4 29 [] [] h := by
  have C := B.1
  unfold fX9_set_b29 at hf
  refine x_bipush (v := (-2)) C dX9_set_29 (by decide) ?_
  obtain ⟨rfl, rfl⟩ := rtn hf
  exact B.2.2.2.2.2.1 _ _ rfl rfl rfl _ _ dX9_set_31
def fX9_set_b23 (N : Nat) (h : pH) (x1 : Int32) (x2 : Int32) (ls0 : Int64) (ls1 : Int64) (ls2 : Int64) : Option (Int32 × pH) :=
  (fX9_in N h ls2 ls1 ls0).bind fun z1 => (if z1.1 = 0 then (fX9_set_b29 N z1.2) else (if ix x1 2 = true then (if ix x1 2 = true then (some (z1.2.1 59 x1.toNatClampNeg, (pw z1.2 59 x1.toNatClampNeg x2))) else none) else none))
set_option maxRecDepth 100000 in
set_option maxHeartbeats 4000000 in
theorem tX9_set_b23 {X : Xt} {v : Int32} {h' : pH} (N : Nat) (h : pH) (x1 : Int32) (x2 : Int32) (ls0 : Int64) (ls1 : Int64) (ls2 : Int64) (B : Bd (lo X) (qo X) cX9_set RX9 4 (some .int) 2 45 (some (.int v)) h' X) (hf : fX9_set_b23 N h x1 x2 ls0 ls1 ls2 = some (v, h')) : Wx X 4 23 [(0, rf (qo X) 49), (1, .int x1), (2, .int x2)] [.long ls0, .long ls1, .long ls2] h := by
  have C := B.1
  unfold fX9_set_b23 at hf
  obtain ⟨z1, e1, hf⟩ := bnd hf
  refine x_callS (As := [.long ls2, .long ls1, .long ls0]) (rest := []) C dX9_set_23 kmX9_69 miX9_in (ctX9_in (lo X) (qo X) N h ls2 ls1 ls0 z1.1 z1.2 e1) rfl rfl ⟨Nat.le_trans (by decide) B.2.2.2.1, Nat.le_trans (by decide) B.2.2.2.2.1⟩ (by simp [cat_i, cat_l, rf_cat]) ?_
  refine x_if_ne (tgt := 32) C dX9_set_26 (by decide) (fun c => ?_) (fun c => ?_)
  · rw [if_neg c] at hf
    refine x_aload_n (i := 0) 0 C dX9_set_32 rfl rfl ?_
    refine x_getR (r := 49) (r2 := 59) C dX9_set_33 kfX9_37 rfl rfl (by decide) ?_
    refine x_iload_n (i := 1) 1 C dX9_set_36 rfl rfl ?_
    obtain ⟨g1, hf⟩ := ife hf
    refine x_iald (r := 59) C dX9_set_37 rfl g1 ?_
    refine x_istore_n (i := 3) (lv' := [(3, .int (z1.2.1 59 x1.toNatClampNeg)), (0, rf (qo X) 49), (1, .int x1), (2, .int x2)]) C dX9_set_38 rfl (by decide) rfl ?_
    refine x_aload_n (i := 0) 1 C dX9_set_39 rfl rfl ?_
    refine x_getR (r := 49) (r2 := 59) C dX9_set_40 kfX9_37 rfl rfl (by decide) ?_
    refine x_iload_n (i := 1) 2 C dX9_set_43 rfl rfl ?_
    refine x_iload_n (i := 2) 3 C dX9_set_44 rfl rfl ?_
    obtain ⟨g2, hf⟩ := ife hf
    refine x_iast (r := 59) C dX9_set_45 rfl g2 ?_
    refine x_iload_n (i := 3) 0 C dX9_set_46 rfl rfl ?_
    obtain ⟨rfl, rfl⟩ := rtn hf
    exact B.2.2.2.2.2.1 _ _ rfl rfl rfl _ _ dX9_set_47
  · rw [if_pos c] at hf
    refine x_lv [] rfl ?_
    exact tX9_set_b29 N z1.2 B hf
def fX9_set (N : Nat) (h : pH) (x1 : Int32) (x2 : Int32) : Option (Int32 × pH) :=
  (fX9_isTwo N h x1).bind fun z1 => (if z1.1 = 0 then (fX9_set_b29 N z1.2) else (if x1 = 0 then (fX9_set_b23 N z1.2 x1 x2 9 0 x2.toInt64) else (fX9_set_b23 N z1.2 x1 x2 18 0 x2.toInt64)))
set_option maxRecDepth 100000 in
set_option maxHeartbeats 4000000 in
theorem tX9_set {X : Xt} {v : Int32} {h' : pH} (N : Nat) (h : pH) (x1 : Int32) (x2 : Int32) (B : Bd (lo X) (qo X) cX9_set RX9 4 (some .int) 2 45 (some (.int v)) h' X) (hf : fX9_set N h x1 x2 = some (v, h')) : Wx X 4 0 [(0, rf (qo X) 49), (1, .int x1), (2, .int x2)] [] h := by
  have C := B.1
  unfold fX9_set at hf
  refine x_iload_n (i := 1) 1 C dX9_set_0 rfl rfl ?_
  obtain ⟨z1, e1, hf⟩ := bnd hf
  refine x_callS (As := [.int x1]) (rest := []) C dX9_set_1 kmX9_148 miX9_isTwo (ctX9_isTwo (lo X) (qo X) N h x1 z1.1 z1.2 e1) rfl rfl ⟨Nat.le_trans (by decide) B.2.2.2.1, Nat.le_trans (by decide) B.2.2.2.2.1⟩ (by simp [cat_i, cat_l, rf_cat]) ?_
  refine x_if_eq (tgt := 29) C dX9_set_4 (by decide) (fun c => ?_) (fun c => ?_)
  · rw [if_pos c] at hf
    refine x_lv [] rfl ?_
    exact tX9_set_b29 N z1.2 B hf
  · rw [if_neg c] at hf
    refine x_iload_n (i := 2) 2 C dX9_set_7 rfl rfl ?_
    refine x_i2l C dX9_set_8 ?_
    refine x_lconst (v := 0) C dX9_set_9 (by decide) ?_
    refine x_iload_n (i := 1) 1 C dX9_set_10 rfl rfl ?_
    refine x_if_ne (tgt := 20) C dX9_set_11 (by decide) (fun c => ?_) (fun c => ?_)
    · rw [if_neg c] at hf
      refine x_ldc2 (v := 18) C dX9_set_20 kkX9_141 ?_
      exact tX9_set_b23 N z1.2 x1 x2 18 0 x2.toInt64 B hf
    · rw [if_pos c] at hf
      refine x_ldc2 (v := 9) C dX9_set_14 kkX9_151 ?_
      refine x_goto (tgt := 23) C dX9_set_17 (by decide) ?_
      exact tX9_set_b23 N z1.2 x1 x2 9 0 x2.toInt64 B hf
theorem ctX9_set (l : Launch) (q : Nat → Nat) (N : Nat) (h : pH) (x1 : Int32) (x2 : Int32) (v : Int32) (h' : pH) (hf : fX9_set N h x1 x2 = some (v, h')) : Ctr l q yX9_set cX9_set 4 (some .int) 2 45 [rf q 49, .int x1, .int x2] h h' (some (.int v)) := by
  refine ct_of (own := RX9) (lv := [(0, rf q 49), (1, .int x1), (2, .int x2)]) (by decide +kernel) rfl (by simp [lg_sl, rf_cat, cat_i, cat_l]) (by first | rfl | simp [lv_args, rf_cat, cat_i, cat_l]) ?_
  intro X B
  obtain rfl := B.2.1
  obtain rfl := B.2.2.1
  exact tX9_set N h x1 x2 B hf
def fX9_shift_b26 (N : Nat) (h : pH)  : Option (Int32 × pH) :=
  some ((-10002), h)
set_option maxRecDepth 100000 in
set_option maxHeartbeats 4000000 in
theorem tX9_shift_b26 {X : Xt} {v : Int32} {h' : pH} (N : Nat) (h : pH)  (B : Bd (lo X) (qo X) cX9_shift RX9 4 (some .int) 1 25 (some (.int v)) h' X) (hf : fX9_shift_b26 N h  = some (v, h')) : Wx X 4 26 [] [] h := by
  have C := B.1
  unfold fX9_shift_b26 at hf
  refine x_sipush (v := (-10002)) C dX9_shift_26 (by decide) ?_
  obtain ⟨rfl, rfl⟩ := rtn hf
  exact B.2.2.2.2.2.1 _ _ rfl rfl rfl _ _ dX9_shift_29
def fX9_shift (N : Nat) (h : pH) (x1 : Int32) (x2 : Int32) : Option (Int32 × pH) :=
  (fX9_in N h x1.toInt64 0 3).bind fun z1 => (if z1.1 = 0 then (fX9_shift_b26 N z1.2) else ((fX9_in N z1.2 x2.toInt64 (-9) 9).bind fun z2 => (if z2.1 = 0 then (fX9_shift_b26 N z2.2) else (if ix x1 4 = true then (if ix x1 4 = true then (some (z2.2.1 60 x1.toNatClampNeg, (pw z2.2 60 x1.toNatClampNeg x2))) else none) else none))))
set_option maxRecDepth 100000 in
set_option maxHeartbeats 4000000 in
theorem tX9_shift {X : Xt} {v : Int32} {h' : pH} (N : Nat) (h : pH) (x1 : Int32) (x2 : Int32) (B : Bd (lo X) (qo X) cX9_shift RX9 4 (some .int) 1 25 (some (.int v)) h' X) (hf : fX9_shift N h x1 x2 = some (v, h')) : Wx X 4 0 [(0, rf (qo X) 49), (1, .int x1), (2, .int x2)] [] h := by
  have C := B.1
  unfold fX9_shift at hf
  refine x_iload_n (i := 1) 1 C dX9_shift_0 rfl rfl ?_
  refine x_i2l C dX9_shift_1 ?_
  refine x_lconst (v := 0) C dX9_shift_2 (by decide) ?_
  refine x_ldc2 (v := 3) C dX9_shift_3 kkX9_77 ?_
  obtain ⟨z1, e1, hf⟩ := bnd hf
  refine x_callS (As := [.long x1.toInt64, .long 0, .long 3]) (rest := []) C dX9_shift_6 kmX9_69 miX9_in (ctX9_in (lo X) (qo X) N h x1.toInt64 0 3 z1.1 z1.2 e1) rfl rfl ⟨Nat.le_trans (by decide) B.2.2.2.1, Nat.le_trans (by decide) B.2.2.2.2.1⟩ (by simp [cat_i, cat_l, rf_cat]) ?_
  refine x_if_eq (tgt := 26) C dX9_shift_9 (by decide) (fun c => ?_) (fun c => ?_)
  · rw [if_pos c] at hf
    refine x_lv [] rfl ?_
    exact tX9_shift_b26 N z1.2 B hf
  · rw [if_neg c] at hf
    refine x_iload_n (i := 2) 2 C dX9_shift_12 rfl rfl ?_
    refine x_i2l C dX9_shift_13 ?_
    refine x_ldc2 (v := (-9)) C dX9_shift_14 kkX9_153 ?_
    refine x_ldc2 (v := 9) C dX9_shift_17 kkX9_151 ?_
    obtain ⟨z2, e2, hf⟩ := bnd hf
    refine x_callS (As := [.long x2.toInt64, .long (-9), .long 9]) (rest := []) C dX9_shift_20 kmX9_69 miX9_in (ctX9_in (lo X) (qo X) N z1.2 x2.toInt64 (-9) 9 z2.1 z2.2 e2) rfl rfl ⟨Nat.le_trans (by decide) B.2.2.2.1, Nat.le_trans (by decide) B.2.2.2.2.1⟩ (by simp [cat_i, cat_l, rf_cat]) ?_
    refine x_if_ne (tgt := 30) C dX9_shift_23 (by decide) (fun c => ?_) (fun c => ?_)
    · rw [if_neg c] at hf
      refine x_aload_n (i := 0) 0 C dX9_shift_30 rfl rfl ?_
      refine x_getR (r := 49) (r2 := 60) C dX9_shift_31 kfX9_40 rfl rfl (by decide) ?_
      refine x_iload_n (i := 1) 1 C dX9_shift_34 rfl rfl ?_
      obtain ⟨g1, hf⟩ := ife hf
      refine x_iald (r := 60) C dX9_shift_35 rfl g1 ?_
      refine x_istore_n (i := 3) (lv' := [(3, .int (z2.2.1 60 x1.toNatClampNeg)), (0, rf (qo X) 49), (1, .int x1), (2, .int x2)]) C dX9_shift_36 rfl (by decide) rfl ?_
      refine x_aload_n (i := 0) 1 C dX9_shift_37 rfl rfl ?_
      refine x_getR (r := 49) (r2 := 60) C dX9_shift_38 kfX9_40 rfl rfl (by decide) ?_
      refine x_iload_n (i := 1) 2 C dX9_shift_41 rfl rfl ?_
      refine x_iload_n (i := 2) 3 C dX9_shift_42 rfl rfl ?_
      obtain ⟨g2, hf⟩ := ife hf
      refine x_iast (r := 60) C dX9_shift_43 rfl g2 ?_
      refine x_iload_n (i := 3) 0 C dX9_shift_44 rfl rfl ?_
      obtain ⟨rfl, rfl⟩ := rtn hf
      exact B.2.2.2.2.2.1 _ _ rfl rfl rfl _ _ dX9_shift_45
    · rw [if_pos c] at hf
      refine x_lv [] rfl ?_
      exact tX9_shift_b26 N z2.2 B hf
theorem ctX9_shift (l : Launch) (q : Nat → Nat) (N : Nat) (h : pH) (x1 : Int32) (x2 : Int32) (v : Int32) (h' : pH) (hf : fX9_shift N h x1 x2 = some (v, h')) : Ctr l q yX9_shift cX9_shift 4 (some .int) 1 25 [rf q 49, .int x1, .int x2] h h' (some (.int v)) := by
  refine ct_of (own := RX9) (lv := [(0, rf q 49), (1, .int x1), (2, .int x2)]) (by decide +kernel) rfl (by simp [lg_sl, rf_cat, cat_i, cat_l]) (by first | rfl | simp [lv_args, rf_cat, cat_i, cat_l]) ?_
  intro X B
  obtain rfl := B.2.1
  obtain rfl := B.2.2.1
  exact tX9_shift N h x1 x2 B hf
def fX9_isHole_b73 (N : Nat) (h : pH) (xs0 : Int32) : Option (Int32 × pH) :=
  if xs0 = 0 ∨ xs0 = 1 then (some (xs0, h)) else none
set_option maxRecDepth 100000 in
set_option maxHeartbeats 4000000 in
theorem tX9_isHole_b73 {X : Xt} {v : Int32} {h' : pH} (N : Nat) (h : pH) (xs0 : Int32) (B : Bd (lo X) (qo X) cX9_isHole RX9 4 (some .boolean) 0 0 (some (.int v)) h' X) (hf : fX9_isHole_b73 N h xs0 = some (v, h')) : Wx X 4 73 [] [.int xs0] h := by
  have C := B.1
  unfold fX9_isHole_b73 at hf
  obtain ⟨g1, hf⟩ := ife hf
  obtain ⟨rfl, rfl⟩ := rtn hf
  exact B.2.2.2.2.2.1 _ _ rfl rfl (nrB g1) _ _ dX9_isHole_73
def fX9_isHole_b68 (N : Nat) (h : pH)  : Option (Int32 × pH) :=
  fX9_isHole_b73 N h 1
set_option maxRecDepth 100000 in
set_option maxHeartbeats 4000000 in
theorem tX9_isHole_b68 {X : Xt} {v : Int32} {h' : pH} (N : Nat) (h : pH)  (B : Bd (lo X) (qo X) cX9_isHole RX9 4 (some .boolean) 0 0 (some (.int v)) h' X) (hf : fX9_isHole_b68 N h  = some (v, h')) : Wx X 4 68 [] [] h := by
  have C := B.1
  unfold fX9_isHole_b68 at hf
  refine x_iconst (v := 1) C dX9_isHole_68 (by decide) ?_
  refine x_goto (tgt := 73) C dX9_isHole_69 (by decide) ?_
  exact tX9_isHole_b73 N h 1 B hf
def fX9_isHole_b72 (N : Nat) (h : pH)  : Option (Int32 × pH) :=
  fX9_isHole_b73 N h 0
set_option maxRecDepth 100000 in
set_option maxHeartbeats 4000000 in
theorem tX9_isHole_b72 {X : Xt} {v : Int32} {h' : pH} (N : Nat) (h : pH)  (B : Bd (lo X) (qo X) cX9_isHole RX9 4 (some .boolean) 0 0 (some (.int v)) h' X) (hf : fX9_isHole_b72 N h  = some (v, h')) : Wx X 4 72 [] [] h := by
  have C := B.1
  unfold fX9_isHole_b72 at hf
  refine x_iconst (v := 0) C dX9_isHole_72 (by decide) ?_
  exact tX9_isHole_b73 N h 0 B hf
def fX9_isHole_b31 (N : Nat) (h : pH) (x1 : Int32) (x2 : Int32) (xs0 : Int32) : Option (Int32 × pH) :=
  if x2 = (h.1 49 19) then (fX9_isHole_b68 N h) else (if xs0 = 0 then (if ix x2 19 = true then (if (h.1 56 x2.toNatClampNeg) = 1 then (if ix ((4 * x1) + 1) 32 = true then (if (h.1 57 ((4 * x1) + 1).toNatClampNeg) ≤ 5 then (fX9_isHole_b72 N h) else (fX9_isHole_b68 N h)) else none) else (fX9_isHole_b72 N h)) else none) else (fX9_isHole_b68 N h))
set_option maxRecDepth 100000 in
set_option maxHeartbeats 4000000 in
theorem tX9_isHole_b31 {X : Xt} {v : Int32} {h' : pH} (N : Nat) (h : pH) (x1 : Int32) (x2 : Int32) (xs0 : Int32) (B : Bd (lo X) (qo X) cX9_isHole RX9 4 (some .boolean) 0 0 (some (.int v)) h' X) (hf : fX9_isHole_b31 N h x1 x2 xs0 = some (v, h')) : Wx X 4 31 [(0, rf (qo X) 49), (1, .int x1), (2, .int x2)] [.int xs0] h := by
  have C := B.1
  unfold fX9_isHole_b31 at hf
  refine x_istore_n (i := 3) (lv' := [(3, .int xs0), (0, rf (qo X) 49), (1, .int x1), (2, .int x2)]) C dX9_isHole_31 rfl (by decide) rfl ?_
  refine x_iload_n (i := 2) 3 C dX9_isHole_32 rfl rfl ?_
  refine x_aload_n (i := 0) 1 C dX9_isHole_33 rfl rfl ?_
  refine x_getI (r := 49) C dX9_isHole_34 kfX9_155 rfl ?_
  refine x_icmp_eq (tgt := 68) C dX9_isHole_37 (by decide) (fun c => ?_) (fun c => ?_)
  · rw [if_pos c] at hf
    refine x_lv [] rfl ?_
    exact tX9_isHole_b68 N h B hf
  · rw [if_neg c] at hf
    refine x_iload_n (i := 3) 0 C dX9_isHole_40 rfl rfl ?_
    refine x_if_ne (tgt := 68) C dX9_isHole_41 (by decide) (fun c => ?_) (fun c => ?_)
    · rw [if_neg c] at hf
      refine x_lv [] rfl ?_
      exact tX9_isHole_b68 N h B hf
    · rw [if_pos c] at hf
      refine x_aload_n (i := 0) 1 C dX9_isHole_44 rfl rfl ?_
      refine x_getR (r := 49) (r2 := 56) C dX9_isHole_45 kfX9_28 rfl rfl (by decide) ?_
      refine x_iload_n (i := 2) 3 C dX9_isHole_48 rfl rfl ?_
      obtain ⟨g1, hf⟩ := ife hf
      refine x_iald (r := 56) C dX9_isHole_49 rfl g1 ?_
      refine x_iconst (v := 1) C dX9_isHole_50 (by decide) ?_
      refine x_icmp_ne (tgt := 72) C dX9_isHole_51 (by decide) (fun c => ?_) (fun c => ?_)
      · rw [if_neg c] at hf
        refine x_lv [] rfl ?_
        exact tX9_isHole_b72 N h B hf
      · rw [if_pos c] at hf
        refine x_aload_n (i := 0) 1 C dX9_isHole_54 rfl rfl ?_
        refine x_getR (r := 49) (r2 := 57) C dX9_isHole_55 kfX9_31 rfl rfl (by decide) ?_
        refine x_iconst (v := 4) C dX9_isHole_58 (by decide) ?_
        refine x_iload_n (i := 1) 2 C dX9_isHole_59 rfl rfl ?_
        refine x_imul C dX9_isHole_60 ?_
        refine x_iconst (v := 1) C dX9_isHole_61 (by decide) ?_
        refine x_iadd C dX9_isHole_62 ?_
        obtain ⟨g2, hf⟩ := ife hf
        refine x_iald (r := 57) C dX9_isHole_63 rfl g2 ?_
        refine x_iconst (v := 5) C dX9_isHole_64 (by decide) ?_
        refine x_icmp_le (tgt := 72) C dX9_isHole_65 (by decide) (fun c => ?_) (fun c => ?_)
        · rw [if_pos c] at hf
          refine x_lv [] rfl ?_
          exact tX9_isHole_b72 N h B hf
        · rw [if_neg c] at hf
          refine x_lv [] rfl ?_
          exact tX9_isHole_b68 N h B hf
def fX9_isHole_b30 (N : Nat) (h : pH) (x1 : Int32) (x2 : Int32) : Option (Int32 × pH) :=
  fX9_isHole_b31 N h x1 x2 0
set_option maxRecDepth 100000 in
set_option maxHeartbeats 4000000 in
theorem tX9_isHole_b30 {X : Xt} {v : Int32} {h' : pH} (N : Nat) (h : pH) (x1 : Int32) (x2 : Int32) (B : Bd (lo X) (qo X) cX9_isHole RX9 4 (some .boolean) 0 0 (some (.int v)) h' X) (hf : fX9_isHole_b30 N h x1 x2 = some (v, h')) : Wx X 4 30 [(0, rf (qo X) 49), (1, .int x1), (2, .int x2)] [] h := by
  have C := B.1
  unfold fX9_isHole_b30 at hf
  refine x_iconst (v := 0) C dX9_isHole_30 (by decide) ?_
  exact tX9_isHole_b31 N h x1 x2 0 B hf
def fX9_isHole (N : Nat) (h : pH) (x1 : Int32) (x2 : Int32) : Option (Int32 × pH) :=
  if ix (0 : Int32) 2 = true then (if (h.1 59 (0 : Int32).toNatClampNeg) ≤ 6 then (fX9_isHole_b30 N h x1 x2) else (if ¬ (h.1 49 7) = 0 then (if x2 = (((h.1 49 19) + 1) - ((h.1 49 19) + 1) / (h.1 49 7) * (h.1 49 7)) then (fX9_isHole_b31 N h x1 x2 1) else (fX9_isHole_b30 N h x1 x2)) else none)) else none
set_option maxRecDepth 100000 in
set_option maxHeartbeats 4000000 in
theorem tX9_isHole {X : Xt} {v : Int32} {h' : pH} (N : Nat) (h : pH) (x1 : Int32) (x2 : Int32) (B : Bd (lo X) (qo X) cX9_isHole RX9 4 (some .boolean) 0 0 (some (.int v)) h' X) (hf : fX9_isHole N h x1 x2 = some (v, h')) : Wx X 4 0 [(0, rf (qo X) 49), (1, .int x1), (2, .int x2)] [] h := by
  have C := B.1
  unfold fX9_isHole at hf
  refine x_aload_n (i := 0) 0 C dX9_isHole_0 rfl rfl ?_
  refine x_getR (r := 49) (r2 := 59) C dX9_isHole_1 kfX9_37 rfl rfl (by decide) ?_
  refine x_iconst (v := 0) C dX9_isHole_4 (by decide) ?_
  obtain ⟨g1, hf⟩ := ife hf
  refine x_iald (r := 59) C dX9_isHole_5 rfl g1 ?_
  refine x_bipush (v := 6) C dX9_isHole_6 (by decide) ?_
  refine x_icmp_le (tgt := 30) C dX9_isHole_8 (by decide) (fun c => ?_) (fun c => ?_)
  · rw [if_pos c] at hf
    exact tX9_isHole_b30 N h x1 x2 B hf
  · rw [if_neg c] at hf
    refine x_iload_n (i := 2) 2 C dX9_isHole_11 rfl rfl ?_
    refine x_aload_n (i := 0) 0 C dX9_isHole_12 rfl rfl ?_
    refine x_getI (r := 49) C dX9_isHole_13 kfX9_155 rfl ?_
    refine x_iconst (v := 1) C dX9_isHole_16 (by decide) ?_
    refine x_iadd C dX9_isHole_17 ?_
    refine x_aload_n (i := 0) 0 C dX9_isHole_18 rfl rfl ?_
    refine x_getI (r := 49) C dX9_isHole_19 kfX9_103 rfl ?_
    obtain ⟨g2, hf⟩ := ife hf
    refine x_irem C dX9_isHole_22 g2 ?_
    refine x_icmp_ne (tgt := 30) C dX9_isHole_23 (by decide) (fun c => ?_) (fun c => ?_)
    · rw [if_neg c] at hf
      exact tX9_isHole_b30 N h x1 x2 B hf
    · rw [if_pos c] at hf
      refine x_iconst (v := 1) C dX9_isHole_26 (by decide) ?_
      refine x_goto (tgt := 31) C dX9_isHole_27 (by decide) ?_
      exact tX9_isHole_b31 N h x1 x2 1 B hf
theorem ctX9_isHole (l : Launch) (q : Nat → Nat) (N : Nat) (h : pH) (x1 : Int32) (x2 : Int32) (v : Int32) (h' : pH) (hf : fX9_isHole N h x1 x2 = some (v, h')) : Ctr l q yX9_isHole cX9_isHole 4 (some .boolean) 0 0 [rf q 49, .int x1, .int x2] h h' (some (.int v)) := by
  refine ct_of (own := RX9) (lv := [(0, rf q 49), (1, .int x1), (2, .int x2)]) (by decide +kernel) rfl (by simp [lg_sl, rf_cat, cat_i, cat_l]) (by first | rfl | simp [lv_args, rf_cat, cat_i, cat_l]) ?_
  intro X B
  obtain rfl := B.2.1
  obtain rfl := B.2.2.1
  exact tX9_isHole N h x1 x2 B hf
