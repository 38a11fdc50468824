def fX8_seen (N : Nat) (h : pH) (x1 : Int32) (x2 : Int32) : Option (Int32 × pH) :=
  (fX6_isPossible N h x1 x2).bind fun z1 => (if z1.1 = 0 then (some ((-2), z1.2)) else ((fX6_isFull N z1.2).bind fun z2 => (if z2.1 = 0 then ((fX6_add N z2.2 x1 x2).bind fun z3 => (some (z3.2.1 35 2, z3.2))) else (some ((-4), z2.2)))))
set_option maxRecDepth 100000 in
set_option maxHeartbeats 4000000 in
theorem tX8_seen {X : Xt} {v : Int32} {h' : pH} (N : Nat) (h : pH) (x1 : Int32) (x2 : Int32) (B : Bd (lo X) (qo X) cX8_seen RX8 3 (some .int) 2 43 (some (.int v)) h' X) (hf : fX8_seen N h x1 x2 = some (v, h')) : Wx X 3 0 [(0, rf (qo X) 1), (1, .int x1), (2, .int x2)] [] h := by
  have C := B.1
  unfold fX8_seen at hf
  refine x_iload_n (i := 1) 1 C dX8_seen_0 rfl rfl ?_
  refine x_iload_n (i := 2) 2 C dX8_seen_1 rfl rfl ?_
  obtain ⟨z1, e1, hf⟩ := bnd hf
  refine x_callS (As := [.int x1, .int x2]) (rest := []) C dX8_seen_2 kmX8_198 miX6_isPossible (ctX6_isPossible (lo X) (qo X) N h x1 x2 z1.1 z1.2 e1) rfl rfl ⟨Nat.le_trans (by decide) B.2.2.2.1, Nat.le_trans (by decide) B.2.2.2.2.1⟩ (by simp [cat_i, cat_l, rf_cat]) ?_
  refine x_if_ne (tgt := 11) C dX8_seen_5 (by decide) (fun c => ?_) (fun c => ?_)
  · rw [if_neg c] at hf
    refine x_aload_n (i := 0) 0 C dX8_seen_11 rfl rfl ?_
    refine x_getR (r := 1) (r2 := 35) C dX8_seen_12 kfX8_59 rfl rfl (by decide) ?_
    obtain ⟨z2, e2, hf⟩ := bnd hf
    refine x_callV (r := 35) (As := []) (rest := []) C dX8_seen_15 kmX8_202 miX6_isFull (ctX6_isFull (lo X) (qo X) N z1.2 z2.1 z2.2 e2) rfl rfl ⟨Nat.le_trans (by decide) B.2.2.2.1, Nat.le_trans (by decide) B.2.2.2.2.1⟩ (by simp [cat_i, cat_l, rf_cat]) rfl ?_
    refine x_if_eq (tgt := 24) C dX8_seen_18 (by decide) (fun c => ?_) (fun c => ?_)
    · rw [if_pos c] at hf
      refine x_aload_n (i := 0) 0 C dX8_seen_24 rfl rfl ?_
      refine x_getR (r := 1) (r2 := 35) C dX8_seen_25 kfX8_59 rfl rfl (by decide) ?_
      refine x_iload_n (i := 1) 1 C dX8_seen_28 rfl rfl ?_
      refine x_iload_n (i := 2) 2 C dX8_seen_29 rfl rfl ?_
      obtain ⟨z3, e3, hf⟩ := bnd hf
      refine x_callV (r := 35) (As := [.int x1, .int x2]) (rest := []) C dX8_seen_30 kmX8_203 miX6_add (ctX6_add (lo X) (qo X) N z2.2 x1 x2 z3.1 z3.2 e3) rfl rfl ⟨Nat.le_trans (by decide) B.2.2.2.1, Nat.le_trans (by decide) B.2.2.2.2.1⟩ (by simp [cat_i, cat_l, rf_cat]) rfl ?_
      refine x_aload_n (i := 0) 0 C dX8_seen_33 rfl rfl ?_
      refine x_getR (r := 1) (r2 := 35) C dX8_seen_34 kfX8_59 rfl rfl (by decide) ?_
      refine x_getI (r := 35) C dX8_seen_37 kfX8_207 rfl ?_
      obtain ⟨rfl, rfl⟩ := rtn hf
      exact B.2.2.2.2.2.1 _ _ rfl rfl rfl _ _ dX8_seen_40
    · rw [if_neg c] at hf
      refine x_bipush (v := (-4)) C dX8_seen_21 (by decide) ?_
      obtain ⟨rfl, rfl⟩ := rtn hf
      exact B.2.2.2.2.2.1 _ _ rfl rfl rfl _ _ dX8_seen_23
  · rw [if_pos c] at hf
    refine x_bipush (v := (-2)) C dX8_seen_8 (by decide) ?_
    obtain ⟨rfl, rfl⟩ := rtn hf
    exact B.2.2.2.2.2.1 _ _ rfl rfl rfl _ _ dX8_seen_10
theorem ctX8_seen (l : Launch) (q : Nat → Nat) (N : Nat) (h : pH) (x1 : Int32) (x2 : Int32) (v : Int32) (h' : pH) (hf : fX8_seen N h x1 x2 = some (v, h')) : Ctr l q yX8_seen cX8_seen 3 (some .int) 2 43 [rf q 1, .int x1, .int x2] h h' (some (.int v)) := by
  refine ct_of (own := RX8) (lv := [(0, rf q 1), (1, .int x1), (2, .int x2)]) (by decide +kernel) rfl (by simp [lg_sl, rf_cat, cat_i, cat_l]) (by first | rfl | simp [lv_args, rf_cat, cat_i, cat_l]) ?_
  intro X B
  obtain rfl := B.2.1
  obtain rfl := B.2.2.1
  exact tX8_seen N h x1 x2 B hf
def fX8_forget (N : Nat) (h : pH)  : Option (Int32 × pH) :=
  some (h.1 35 2, (pw h 35 2 0))
set_option maxRecDepth 100000 in
set_option maxHeartbeats 4000000 in
theorem tX8_forget {X : Xt} {v : Int32} {h' : pH} (N : Nat) (h : pH)  (B : Bd (lo X) (qo X) cX8_forget RX8 2 (some .int) 0 0 (some (.int v)) h' X) (hf : fX8_forget N h  = some (v, h')) : Wx X 2 0 [(0, rf (qo X) 1)] [] h := by
  have C := B.1
  unfold fX8_forget at hf
  refine x_aload_n (i := 0) 0 C dX8_forget_0 rfl rfl ?_
  refine x_getR (r := 1) (r2 := 35) C dX8_forget_1 kfX8_59 rfl rfl (by decide) ?_
  refine x_getI (r := 35) C dX8_forget_4 kfX8_207 rfl ?_
  refine x_istore_n (i := 1) (lv' := [(1, .int (h.1 35 2)), (0, rf (qo X) 1)]) C dX8_forget_7 rfl (by decide) rfl ?_
  refine x_aload_n (i := 0) 1 C dX8_forget_8 rfl rfl ?_
  refine x_getR (r := 1) (r2 := 35) C dX8_forget_9 kfX8_59 rfl rfl (by decide) ?_
  refine x_iconst (v := 0) C dX8_forget_12 (by decide) ?_
  refine x_putI (r := 35) C dX8_forget_13 kfX8_207 rfl rfl rfl ?_
  refine x_iload_n (i := 1) 0 C dX8_forget_16 rfl rfl ?_
  obtain ⟨rfl, rfl⟩ := rtn hf
  exact B.2.2.2.2.2.1 _ _ rfl rfl rfl _ _ dX8_forget_17
theorem ctX8_forget (l : Launch) (q : Nat → Nat) (N : Nat) (h : pH)  (v : Int32) (h' : pH) (hf : fX8_forget N h  = some (v, h')) : Ctr l q yX8_forget cX8_forget 2 (some .int) 0 0 [rf q 1] h h' (some (.int v)) := by
  refine ct_of (own := RX8) (lv := [(0, rf q 1)]) (by decide +kernel) rfl (by simp [lg_sl, rf_cat, cat_i, cat_l]) (by first | rfl | simp [lv_args, rf_cat, cat_i, cat_l]) ?_
  intro X B
  obtain rfl := B.2.1
  obtain rfl := B.2.2.1
  exact tX8_forget N h  B hf
def fX8_sheetAt_b19 (N : Nat) (h : pH) (rs0 : Nat) : Option (Nat × pH) :=
  some (rs0, h)
set_option maxRecDepth 100000 in
set_option maxHeartbeats 4000000 in
theorem tX8_sheetAt_b19 {X : Xt} {v : Nat} {h' : pH} (N : Nat) (h : pH) (rs0 : Nat) (B : Bd (lo X) (qo X) cX8_sheetAt RX8 2 (some (.object "MiddlePlank$Sheet")) 1 22 (some (rf (qo X) v)) h' X) (hf : fX8_sheetAt_b19 N h rs0 = some (v, h')) : Wx X 2 19 [] [rf (qo X) rs0] h := by
  have C := B.1
  unfold fX8_sheetAt_b19 at hf
  obtain ⟨rfl, rfl⟩ := rtn hf
  exact B.2.2.2.2.2.2.2.1 _ _ rfl rfl _ _ dX8_sheetAt_19
def fX8_sheetAt (N : Nat) (h : pH) (x1 : Int32) : Option (Nat × pH) :=
  (fX8_within N h x1 0 3).bind fun z1 => (if z1.1 = 0 then (fX8_sheetAt_b19 N z1.2 0) else (if ix x1 4 = true then (fX8_sheetAt_b19 N z1.2 (aE 40 x1.toNatClampNeg)) else none))
set_option maxRecDepth 100000 in
set_option maxHeartbeats 4000000 in
theorem tX8_sheetAt {X : Xt} {v : Nat} {h' : pH} (N : Nat) (h : pH) (x1 : Int32) (B : Bd (lo X) (qo X) cX8_sheetAt RX8 2 (some (.object "MiddlePlank$Sheet")) 1 22 (some (rf (qo X) v)) h' X) (hf : fX8_sheetAt N h x1 = some (v, h')) : Wx X 2 0 [(0, rf (qo X) 1), (1, .int x1)] [] h := by
  have C := B.1
  unfold fX8_sheetAt at hf
  refine x_iload_n (i := 1) 1 C dX8_sheetAt_0 rfl rfl ?_
  refine x_iconst (v := 0) C dX8_sheetAt_1 (by decide) ?_
  refine x_iconst (v := 3) C dX8_sheetAt_2 (by decide) ?_
  obtain ⟨z1, e1, hf⟩ := bnd hf
  refine x_callS (As := [.int x1, .int 0, .int 3]) (rest := []) C dX8_sheetAt_3 kmX8_91 miX8_within (ctX8_within (lo X) (qo X) N h x1 0 3 z1.1 z1.2 e1) rfl rfl ⟨Nat.le_trans (by decide) B.2.2.2.1, Nat.le_trans (by decide) B.2.2.2.2.1⟩ (by simp [cat_i, cat_l, rf_cat]) ?_
  refine x_if_eq (tgt := 18) C dX8_sheetAt_6 (by decide) (fun c => ?_) (fun c => ?_)
  · rw [if_pos c] at hf
    refine x_null C dX8_sheetAt_18 ?_
    refine x_lv [] rfl ?_
    exact tX8_sheetAt_b19 N z1.2 0 B hf
  · rw [if_neg c] at hf
    refine x_aload_n (i := 0) 0 C dX8_sheetAt_9 rfl rfl ?_
    refine x_getR (r := 1) (r2 := 40) C dX8_sheetAt_10 kfX8_72 rfl rfl (by decide) ?_
    refine x_iload_n (i := 1) 1 C dX8_sheetAt_13 rfl rfl ?_
    obtain ⟨g1, hf⟩ := ife hf
    refine x_aald6 (r := 40) C dX8_sheetAt_14 rfl g1 ?_
    refine x_goto (tgt := 19) C dX8_sheetAt_15 (by decide) ?_
    refine x_lv [] rfl ?_
    exact tX8_sheetAt_b19 N z1.2 (aE 40 x1.toNatClampNeg) B hf
theorem ctX8_sheetAt (l : Launch) (q : Nat → Nat) (N : Nat) (h : pH) (x1 : Int32) (v : Nat) (h' : pH) (hf : fX8_sheetAt N h x1 = some (v, h')) : Ctr l q yX8_sheetAt cX8_sheetAt 2 (some (.object "MiddlePlank$Sheet")) 1 22 [rf q 1, .int x1] h h' (some (rf q v)) := by
  refine ct_of (own := RX8) (lv := [(0, rf q 1), (1, .int x1)]) (by decide +kernel) rfl (by simp [lg_sl, rf_cat, cat_i, cat_l]) (by first | rfl | simp [lv_args, rf_cat, cat_i, cat_l]) ?_
  intro X B
  obtain rfl := B.2.1
  obtain rfl := B.2.2.1
  exact tX8_sheetAt N h x1 B hf
def fX8_finding (N : Nat) (h : pH) (x1 : Int32) : Option (Int32 × pH) :=
  some ((-10) - x1, (pw h 1 13 x1))
set_option maxRecDepth 100000 in
set_option maxHeartbeats 4000000 in
theorem tX8_finding {X : Xt} {v : Int32} {h' : pH} (N : Nat) (h : pH) (x1 : Int32) (B : Bd (lo X) (qo X) cX8_finding RX8 2 (some .int) 0 0 (some (.int v)) h' X) (hf : fX8_finding N h x1 = some (v, h')) : Wx X 2 0 [(0, rf (qo X) 1), (1, .int x1)] [] h := by
  have C := B.1
  unfold fX8_finding at hf
  refine x_aload_n (i := 0) 0 C dX8_finding_0 rfl rfl ?_
  refine x_iload_n (i := 1) 1 C dX8_finding_1 rfl rfl ?_
  refine x_putI (r := 1) C dX8_finding_2 kfX8_266 rfl rfl rfl ?_
  refine x_bipush (v := (-10)) C dX8_finding_5 (by decide) ?_
  refine x_iload_n (i := 1) 1 C dX8_finding_7 rfl rfl ?_
  refine x_isub C dX8_finding_8 ?_
  obtain ⟨rfl, rfl⟩ := rtn hf
  exact B.2.2.2.2.2.1 _ _ rfl rfl rfl _ _ dX8_finding_9
theorem ctX8_finding (l : Launch) (q : Nat → Nat) (N : Nat) (h : pH) (x1 : Int32) (v : Int32) (h' : pH) (hf : fX8_finding N h x1 = some (v, h')) : Ctr l q yX8_finding cX8_finding 2 (some .int) 0 0 [rf q 1, .int x1] h h' (some (.int v)) := by
  refine ct_of (own := RX8) (lv := [(0, rf q 1), (1, .int x1)]) (by decide +kernel) rfl (by simp [lg_sl, rf_cat, cat_i, cat_l]) (by first | rfl | simp [lv_args, rf_cat, cat_i, cat_l]) ?_
  intro X B
  obtain rfl := B.2.1
  obtain rfl := B.2.2.1
  exact tX8_finding N h x1 B hf
def fX8_read_b101 (N : Nat) (h : pH) (x3 : Int32) : Option (Int32 × pH) :=
  some (x3, h)
set_option maxRecDepth 100000 in
set_option maxHeartbeats 4000000 in
theorem tX8_read_b101 {X : Xt} {v : Int32} {h' : pH} (N : Nat) (h : pH) (x3 : Int32) (B : Bd (lo X) (qo X) cX8_read RX8 4 (some .int) 2 43 (some (.int v)) h' X) (hf : fX8_read_b101 N h x3 = some (v, h')) : Wx X 4 101 [(3, .int x3)] [] h := by
  have C := B.1
  unfold fX8_read_b101 at hf
  refine x_iload_n (i := 3) 0 C dX8_read_101 rfl rfl ?_
  obtain ⟨rfl, rfl⟩ := rtn hf
  exact B.2.2.2.2.2.1 _ _ rfl rfl rfl _ _ dX8_read_102
def fX8_read_B28 (N : Nat) (k28 : pH → Nat → Int32 → Option (Int32 × pH)) (h : pH) (r2 : Nat) (x3 : Int32) : Option (Int32 × pH) :=
  if fI 5 3 r2 = true then (if (h.1 r2 3) ≤ ((2 * x3) + 1) then (fX8_read_b101 N h x3) else ((fX6_isFull N h).bind fun z1 => (if z1.1 = 0 then (if isO 5 r2 = true then ((fX5_itemAt N z1.2 r2 (2 * x3)).bind fun z2 => (if isO 5 r2 = true then ((fX5_itemAt N z2.2 r2 ((2 * x3) + 1)).bind fun z3 => ((fX6_isPossible N z3.2 z2.1 z3.1).bind fun z4 => (if z4.1 = 0 then (fX8_read_b101 N z4.2 x3) else (if isO 5 r2 = true then ((fX5_itemAt N z4.2 r2 (2 * x3)).bind fun z5 => (if isO 5 r2 = true then ((fX5_itemAt N z5.2 r2 ((2 * x3) + 1)).bind fun z6 => ((fX6_add N z6.2 z5.1 z6.1).bind fun z7 => (k28 z7.2 r2 (x3 + 1)))) else none)) else none)))) else none)) else none) else (fX8_read_b101 N z1.2 x3)))) else none
set_option maxRecDepth 100000 in
set_option maxHeartbeats 4000000 in
theorem tX8_read_B28 {X : Xt} {v : Int32} {h' : pH} (N : Nat) (k28 : pH → Nat → Int32 → Option (Int32 × pH)) (HK28 : ∀ (h : pH) (r2 : Nat) (x3 : Int32), k28 h r2 x3 = some (v, h') → Wx X 4 28 [(0, rf (qo X) 1), (2, rf (qo X) r2), (3, .int x3)] [] h) (h : pH) (r2 : Nat) (x3 : Int32) (B : Bd (lo X) (qo X) cX8_read RX8 4 (some .int) 2 43 (some (.int v)) h' X) (hf : fX8_read_B28 N k28 h r2 x3 = some (v, h')) : Wx X 4 28 [(0, rf (qo X) 1), (2, rf (qo X) r2), (3, .int x3)] [] h := by
  have C := B.1
  unfold fX8_read_B28 at hf
  refine x_iconst (v := 2) C dX8_read_28 (by decide) ?_
  refine x_iload_n (i := 3) 2 C dX8_read_29 rfl rfl ?_
  refine x_imul C dX8_read_30 ?_
  refine x_iconst (v := 1) C dX8_read_31 (by decide) ?_
  refine x_iadd C dX8_read_32 ?_
  refine x_aload_n (i := 2) 1 C dX8_read_33 rfl rfl ?_
  obtain ⟨g1, hf⟩ := ife hf
  refine x_getI (r := r2) C dX8_read_34 kfX8_218 g1 ?_
  refine x_icmp_ge (tgt := 101) C dX8_read_37 (by decide) (fun c => ?_) (fun c => ?_)
  · rw [if_pos c] at hf
    refine x_lv [2] rfl ?_
    exact tX8_read_b101 N h x3 B hf
  · rw [if_neg c] at hf
    refine x_aload_n (i := 0) 0 C dX8_read_40 rfl rfl ?_
    refine x_getR (r := 1) (r2 := 35) C dX8_read_41 kfX8_59 rfl rfl (by decide) ?_
    obtain ⟨z1, e1, hf⟩ := bnd hf
    refine x_callV (r := 35) (As := []) (rest := []) C dX8_read_44 kmX8_202 miX6_isFull (ctX6_isFull (lo X) (qo X) N h z1.1 z1.2 e1) rfl rfl ⟨Nat.le_trans (by decide) B.2.2.2.1, Nat.le_trans (by decide) B.2.2.2.2.1⟩ (by simp [cat_i, cat_l, rf_cat]) rfl ?_
    refine x_if_ne (tgt := 101) C dX8_read_47 (by decide) (fun c => ?_) (fun c => ?_)
    · rw [if_neg c] at hf
      refine x_lv [2] rfl ?_
      exact tX8_read_b101 N z1.2 x3 B hf
    · rw [if_pos c] at hf
      refine x_aload_n (i := 2) 1 C dX8_read_50 rfl rfl ?_
      refine x_iconst (v := 2) C dX8_read_51 (by decide) ?_
      refine x_iload_n (i := 3) 2 C dX8_read_52 rfl rfl ?_
      refine x_imul C dX8_read_53 ?_
      obtain ⟨g2, hf⟩ := ife hf
      obtain ⟨z2, e2, hf⟩ := bnd hf
      refine x_callV (r := r2) (As := [.int (2 * x3)]) (rest := []) C dX8_read_54 kmX8_219 miX5_itemAt (ctX5_itemAt (lo X) (qo X) N z1.2 r2 (2 * x3) z2.1 z2.2 e2) rfl rfl ⟨Nat.le_trans (by decide) B.2.2.2.1, Nat.le_trans (by decide) B.2.2.2.2.1⟩ (by simp [cat_i, cat_l, rf_cat]) g2 ?_
      refine x_aload_n (i := 2) 1 C dX8_read_57 rfl rfl ?_
      refine x_iconst (v := 2) C dX8_read_58 (by decide) ?_
      refine x_iload_n (i := 3) 2 C dX8_read_59 rfl rfl ?_
      refine x_imul C dX8_read_60 ?_
      refine x_iconst (v := 1) C dX8_read_61 (by decide) ?_
      refine x_iadd C dX8_read_62 ?_
      obtain ⟨g3, hf⟩ := ife hf
      obtain ⟨z3, e3, hf⟩ := bnd hf
      refine x_callV (r := r2) (As := [.int ((2 * x3) + 1)]) (rest := [.int z2.1]) C dX8_read_63 kmX8_219 miX5_itemAt (ctX5_itemAt (lo X) (qo X) N z2.2 r2 ((2 * x3) + 1) z3.1 z3.2 e3) rfl rfl ⟨Nat.le_trans (by decide) B.2.2.2.1, Nat.le_trans (by decide) B.2.2.2.2.1⟩ (by simp [cat_i, cat_l, rf_cat]) g3 ?_
      obtain ⟨z4, e4, hf⟩ := bnd hf
      refine x_callS (As := [.int z2.1, .int z3.1]) (rest := []) C dX8_read_66 kmX8_198 miX6_isPossible (ctX6_isPossible (lo X) (qo X) N z3.2 z2.1 z3.1 z4.1 z4.2 e4) rfl rfl ⟨Nat.le_trans (by decide) B.2.2.2.1, Nat.le_trans (by decide) B.2.2.2.2.1⟩ (by simp [cat_i, cat_l, rf_cat]) ?_
      refine x_if_eq (tgt := 101) C dX8_read_69 (by decide) (fun c => ?_) (fun c => ?_)
      · rw [if_pos c] at hf
        refine x_lv [2] rfl ?_
        exact tX8_read_b101 N z4.2 x3 B hf
      · rw [if_neg c] at hf
        refine x_aload_n (i := 0) 0 C dX8_read_72 rfl rfl ?_
        refine x_getR (r := 1) (r2 := 35) C dX8_read_73 kfX8_59 rfl rfl (by decide) ?_
        refine x_aload_n (i := 2) 1 C dX8_read_76 rfl rfl ?_
        refine x_iconst (v := 2) C dX8_read_77 (by decide) ?_
        refine x_iload_n (i := 3) 2 C dX8_read_78 rfl rfl ?_
        refine x_imul C dX8_read_79 ?_
        obtain ⟨g4, hf⟩ := ife hf
        obtain ⟨z5, e5, hf⟩ := bnd hf
        refine x_callV (r := r2) (As := [.int (2 * x3)]) (rest := [rf (qo X) 35]) C dX8_read_80 kmX8_219 miX5_itemAt (ctX5_itemAt (lo X) (qo X) N z4.2 r2 (2 * x3) z5.1 z5.2 e5) rfl rfl ⟨Nat.le_trans (by decide) B.2.2.2.1, Nat.le_trans (by decide) B.2.2.2.2.1⟩ (by simp [cat_i, cat_l, rf_cat]) g4 ?_
        refine x_aload_n (i := 2) 1 C dX8_read_83 rfl rfl ?_
        refine x_iconst (v := 2) C dX8_read_84 (by decide) ?_
        refine x_iload_n (i := 3) 2 C dX8_read_85 rfl rfl ?_
        refine x_imul C dX8_read_86 ?_
        refine x_iconst (v := 1) C dX8_read_87 (by decide) ?_
        refine x_iadd C dX8_read_88 ?_
        obtain ⟨g5, hf⟩ := ife hf
        obtain ⟨z6, e6, hf⟩ := bnd hf
        refine x_callV (r := r2) (As := [.int ((2 * x3) + 1)]) (rest := [.int z5.1, rf (qo X) 35]) C dX8_read_89 kmX8_219 miX5_itemAt (ctX5_itemAt (lo X) (qo X) N z5.2 r2 ((2 * x3) + 1) z6.1 z6.2 e6) rfl rfl ⟨Nat.le_trans (by decide) B.2.2.2.1, Nat.le_trans (by decide) B.2.2.2.2.1⟩ (by simp [cat_i, cat_l, rf_cat]) g5 ?_
        obtain ⟨z7, e7, hf⟩ := bnd hf
        refine x_callV (r := 35) (As := [.int z5.1, .int z6.1]) (rest := []) C dX8_read_92 kmX8_203 miX6_add (ctX6_add (lo X) (qo X) N z6.2 z5.1 z6.1 z7.1 z7.2 e7) rfl rfl ⟨Nat.le_trans (by decide) B.2.2.2.1, Nat.le_trans (by decide) B.2.2.2.2.1⟩ (by simp [cat_i, cat_l, rf_cat]) rfl ?_
        refine x_iinc (v := x3 + 1) (lv' := [(3, .int (x3 + 1)), (0, rf (qo X) 1), (2, rf (qo X) r2)]) 2 C dX8_read_95 rfl rfl (by decide) (by simp [List.filter, rf_cat]) ?_
        refine x_goto (tgt := 28) C dX8_read_98 (by decide) ?_
        refine x_lv [1, 2, 0] rfl ?_
        exact HK28 z7.2 r2 (x3 + 1) hf
def fX8_read_L28 (N : Nat) : Nat → pH → Nat → Int32 → Option (Int32 × pH)
  | 0 => fun _ _ _ => none
  | n + 1 => fX8_read_B28 N (fX8_read_L28 N n)
theorem tX8_read_L28 {X : Xt} {v : Int32} {h' : pH} (N : Nat) (B : Bd (lo X) (qo X) cX8_read RX8 4 (some .int) 2 43 (some (.int v)) h' X) : ∀ (n : Nat) (h : pH) (r2 : Nat) (x3 : Int32), fX8_read_L28 N n h r2 x3 = some (v, h') → Wx X 4 28 [(0, rf (qo X) 1), (2, rf (qo X) r2), (3, .int x3)] [] h := by
  intro n
  induction n with
  | zero => intro h r2 x3 hf; exact absurd (show (none : Option (Int32 × pH)) = some (v, h') from hf) (fun z => by cases z)
  | succ n ih => intro h r2 x3 hf; exact tX8_read_B28 N (fX8_read_L28 N n) ih h r2 x3 B hf
def fX8_read (N : Nat) (h : pH) (x1 : Int32) : Option (Int32 × pH) :=
  (fX8_sheetAt N h x1).bind fun z1 => (if z1.1 = 0 then (some ((-2), z1.2)) else (if fI 5 1 z1.1 = true then (if (z1.2.1 z1.1 1) = 0 then (fX8_read_L28 N N z1.2 z1.1 0) else ((fX8_finding N z1.2 1).bind fun z2 => (some (z2.1, z2.2)))) else none))
set_option maxRecDepth 100000 in
set_option maxHeartbeats 4000000 in
theorem tX8_read {X : Xt} {v : Int32} {h' : pH} (N : Nat) (h : pH) (x1 : Int32) (B : Bd (lo X) (qo X) cX8_read RX8 4 (some .int) 2 43 (some (.int v)) h' X) (hf : fX8_read N h x1 = some (v, h')) : Wx X 4 0 [(0, rf (qo X) 1), (1, .int x1)] [] h := by
  have C := B.1
  unfold fX8_read at hf
  refine x_aload_n (i := 0) 0 C dX8_read_0 rfl rfl ?_
  refine x_iload_n (i := 1) 1 C dX8_read_1 rfl rfl ?_
  obtain ⟨z1, e1, hf⟩ := bnd hf
  refine x_callV (r := 1) (As := [.int x1]) (rest := []) C dX8_read_2 kmX8_208 miX8_sheetAt (ctX8_sheetAt (lo X) (qo X) N h x1 z1.1 z1.2 e1) rfl rfl ⟨Nat.le_trans (by decide) B.2.2.2.1, Nat.le_trans (by decide) B.2.2.2.2.1⟩ (by simp [cat_i, cat_l, rf_cat]) rfl ?_
  refine x_astore_n (i := 2) (lv' := [(2, rf (qo X) z1.1), (0, rf (qo X) 1), (1, .int x1)]) C dX8_read_5 rfl (by decide) rfl ?_
  refine x_aload_n (i := 2) 0 C dX8_read_6 rfl rfl ?_
  refine x_ifnonnull (tgt := 13) C dX8_read_7 (by decide) (fun c => ?_) (fun c => ?_)
  · rw [if_neg c] at hf
    refine x_aload_n (i := 2) 0 C dX8_read_13 rfl rfl ?_
    obtain ⟨g1, hf⟩ := ife hf
    refine x_getI (r := z1.1) C dX8_read_14 kfX8_212 g1 ?_
    refine x_if_eq (tgt := 26) C dX8_read_17 (by decide) (fun c => ?_) (fun c => ?_)
    · rw [if_pos c] at hf
      refine x_iconst (v := 0) C dX8_read_26 (by decide) ?_
      refine x_istore_n (i := 3) (lv' := [(3, .int 0), (2, rf (qo X) z1.1), (0, rf (qo X) 1), (1, .int x1)]) C dX8_read_27 rfl (by decide) (by simp [List.filter, rf_cat]) ?_
      refine x_lv [2, 1, 0] rfl ?_
      exact tX8_read_L28 N  B N z1.2 z1.1 0 hf
    · rw [if_neg c] at hf
      refine x_aload_n (i := 0) 1 C dX8_read_20 rfl rfl ?_
      refine x_iconst (v := 1) C dX8_read_21 (by decide) ?_
      obtain ⟨z2, e2, hf⟩ := bnd hf
      refine x_callV (r := 1) (As := [.int 1]) (rest := []) C dX8_read_22 kmX8_215 miX8_finding (ctX8_finding (lo X) (qo X) N z1.2 1 z2.1 z2.2 e2) rfl rfl ⟨Nat.le_trans (by decide) B.2.2.2.1, Nat.le_trans (by decide) B.2.2.2.2.1⟩ (by simp [cat_i, cat_l, rf_cat]) rfl ?_
      obtain ⟨rfl, rfl⟩ := rtn hf
      exact B.2.2.2.2.2.1 _ _ rfl rfl rfl _ _ dX8_read_25
  · rw [if_pos c] at hf
    refine x_bipush (v := (-2)) C dX8_read_10 (by decide) ?_
    obtain ⟨rfl, rfl⟩ := rtn hf
    exact B.2.2.2.2.2.1 _ _ rfl rfl rfl _ _ dX8_read_12
theorem ctX8_read (l : Launch) (q : Nat → Nat) (N : Nat) (h : pH) (x1 : Int32) (v : Int32) (h' : pH) (hf : fX8_read N h x1 = some (v, h')) : Ctr l q yX8_read cX8_read 4 (some .int) 2 43 [rf q 1, .int x1] h h' (some (.int v)) := by
  refine ct_of (own := RX8) (lv := [(0, rf q 1), (1, .int x1)]) (by decide +kernel) rfl (by simp [lg_sl, rf_cat, cat_i, cat_l]) (by first | rfl | simp [lv_args, rf_cat, cat_i, cat_l]) ?_
  intro X B
  obtain rfl := B.2.1
  obtain rfl := B.2.2.1
  exact tX8_read N h x1 B hf
def fX8_comesOutAsSeen (N : Nat) (h : pH) (x1 : Int32) (r2 : Nat) : Option (Int32 × pH) :=
  (fX3_follow N h x1 r2 27).bind fun z1 => ((fX6_agreeWith N z1.2 27 (z1.2.1 24 1)).bind fun z2 => (if z2.1 = 0 ∨ z2.1 = 1 then (some (z2.1, z2.2)) else none))
set_option maxRecDepth 100000 in
set_option maxHeartbeats 4000000 in
theorem tX8_comesOutAsSeen {X : Xt} {v : Int32} {h' : pH} (N : Nat) (h : pH) (x1 : Int32) (r2 : Nat) (B : Bd (lo X) (qo X) cX8_comesOutAsSeen RX8 3 (some .boolean) 3 73 (some (.int v)) h' X) (hf : fX8_comesOutAsSeen N h x1 r2 = some (v, h')) : Wx X 3 0 [(0, rf (qo X) 1), (1, .int x1), (2, rf (qo X) r2)] [] h := by
  have C := B.1
  unfold fX8_comesOutAsSeen at hf
  refine x_aload_n (i := 0) 0 C dX8_comesOutAsSeen_0 rfl rfl ?_
  refine x_getR (r := 1) (r2 := 24) C dX8_comesOutAsSeen_1 kfX8_32 rfl rfl (by decide) ?_
  refine x_aload_n (i := 0) 0 C dX8_comesOutAsSeen_4 rfl rfl ?_
  refine x_getR (r := 1) (r2 := 9) C dX8_comesOutAsSeen_5 kfX8_18 rfl rfl (by decide) ?_
  refine x_aload_n (i := 0) 0 C dX8_comesOutAsSeen_8 rfl rfl ?_
  refine x_getR (r := 1) (r2 := 14) C dX8_comesOutAsSeen_9 kfX8_25 rfl rfl (by decide) ?_
  refine x_iload_n (i := 1) 1 C dX8_comesOutAsSeen_12 rfl rfl ?_
  refine x_aload_n (i := 2) 2 C dX8_comesOutAsSeen_13 rfl rfl ?_
  refine x_aload_n (i := 0) 0 C dX8_comesOutAsSeen_14 rfl rfl ?_
  refine x_getR (r := 1) (r2 := 27) C dX8_comesOutAsSeen_15 kfX8_40 rfl rfl (by decide) ?_
  obtain ⟨z1, e1, hf⟩ := bnd hf
  refine x_callV (r := 24) (As := [rf (qo X) 9, rf (qo X) 14, .int x1, rf (qo X) r2, rf (qo X) 27]) (rest := []) C dX8_comesOutAsSeen_18 kmX8_381 miX3_follow (ctX3_follow (lo X) (qo X) N h x1 r2 27 z1.1 z1.2 e1) rfl rfl ⟨Nat.le_trans (by decide) B.2.2.2.1, Nat.le_trans (by decide) B.2.2.2.2.1⟩ (by simp [cat_i, cat_l, rf_cat]) rfl ?_
  refine x_aload_n (i := 0) 0 C dX8_comesOutAsSeen_21 rfl rfl ?_
  refine x_getR (r := 1) (r2 := 35) C dX8_comesOutAsSeen_22 kfX8_59 rfl rfl (by decide) ?_
  refine x_aload_n (i := 0) 0 C dX8_comesOutAsSeen_25 rfl rfl ?_
  refine x_getR (r := 1) (r2 := 27) C dX8_comesOutAsSeen_26 kfX8_40 rfl rfl (by decide) ?_
  refine x_aload_n (i := 0) 0 C dX8_comesOutAsSeen_29 rfl rfl ?_
  refine x_getR (r := 1) (r2 := 24) C dX8_comesOutAsSeen_30 kfX8_32 rfl rfl (by decide) ?_
  refine x_getI (r := 24) C dX8_comesOutAsSeen_33 kfX8_154 rfl ?_
  obtain ⟨z2, e2, hf⟩ := bnd hf
  refine x_callV (r := 35) (As := [rf (qo X) 27, .int (z1.2.1 24 1)]) (rest := []) C dX8_comesOutAsSeen_36 kmX8_389 miX6_agreeWith (ctX6_agreeWith (lo X) (qo X) N z1.2 27 (z1.2.1 24 1) z2.1 z2.2 e2) rfl rfl ⟨Nat.le_trans (by decide) B.2.2.2.1, Nat.le_trans (by decide) B.2.2.2.2.1⟩ (by simp [cat_i, cat_l, rf_cat]) rfl ?_
  obtain ⟨g1, hf⟩ := ife hf
  obtain ⟨rfl, rfl⟩ := rtn hf
  exact B.2.2.2.2.2.1 _ _ rfl rfl (nrB g1) _ _ dX8_comesOutAsSeen_39
theorem ctX8_comesOutAsSeen (l : Launch) (q : Nat → Nat) (N : Nat) (h : pH) (x1 : Int32) (r2 : Nat) (v : Int32) (h' : pH) (hf : fX8_comesOutAsSeen N h x1 r2 = some (v, h')) : Ctr l q yX8_comesOutAsSeen cX8_comesOutAsSeen 3 (some .boolean) 3 73 [rf q 1, .int x1, rf q r2] h h' (some (.int v)) := by
  refine ct_of (own := RX8) (lv := [(0, rf q 1), (1, .int x1), (2, rf q r2)]) (by decide +kernel) rfl (by simp [lg_sl, rf_cat, cat_i, cat_l]) (by first | rfl | simp [lv_args, rf_cat, cat_i, cat_l]) ?_
  intro X B
  obtain rfl := B.2.1
  obtain rfl := B.2.2.1
  exact tX8_comesOutAsSeen N h x1 r2 B hf
def fX8_rule_b78 (N : Nat) (k38 : pH → Int32 → Int32 → Int32 → Option (Int32 × pH)) (h : pH) (x1 : Int32) (x2 : Int32) (x3 : Int32) : Option (Int32 × pH) :=
  k38 h x1 x2 (x3 + 1)
set_option maxRecDepth 100000 in
set_option maxHeartbeats 4000000 in
theorem tX8_rule_b78 {X : Xt} {v : Int32} {h' : pH} (N : Nat) (k38 : pH → Int32 → Int32 → Int32 → Option (Int32 × pH)) (HK38 : ∀ (h : pH) (x1 : Int32) (x2 : Int32) (x3 : Int32), k38 h x1 x2 x3 = some (v, h') → Wx X 4 38 [(0, rf (qo X) 1), (1, .int x1), (2, .int x2), (3, .int x3)] [] h) (h : pH) (x1 : Int32) (x2 : Int32) (x3 : Int32) (B : Bd (lo X) (qo X) cX8_rule RX8 4 (some .int) 4 96 (some (.int v)) h' X) (hf : fX8_rule_b78 N k38 h x1 x2 x3 = some (v, h')) : Wx X 4 78 [(0, rf (qo X) 1), (1, .int x1), (2, .int x2), (3, .int x3)] [] h := by
  have C := B.1
  unfold fX8_rule_b78 at hf
  refine x_iinc (v := x3 + 1) (lv' := [(3, .int (x3 + 1)), (0, rf (qo X) 1), (1, .int x1), (2, .int x2)]) 3 C dX8_rule_78 rfl rfl (by decide) rfl ?_
  refine x_goto (tgt := 38) C dX8_rule_81 (by decide) ?_
  refine x_lv [1, 2, 3, 0] rfl ?_
  exact HK38 h x1 x2 (x3 + 1) hf
def fX8_rule_B38 (N : Nat) (k38 : pH → Int32 → Int32 → Int32 → Option (Int32 × pH)) (h : pH) (x1 : Int32) (x2 : Int32) (x3 : Int32) : Option (Int32 × pH) :=
  if 9 < x3 then (some (x2, h)) else (if ix x1 4 = true then ((fX0_firstGap N (pw h 28 x1.toNatClampNeg x3)).bind fun z1 => ((fX8_comesOutAsSeen N z1.2 z1.1 28).bind fun z2 => (if z2.1 = 0 then (fX8_rule_b78 N k38 z2.2 x1 x2 x3) else (fX8_rule_b78 N k38 z2.2 x1 (x2 ||| (1 <<< ((x3 + 9) &&& 31))) x3)))) else none)
set_option maxRecDepth 100000 in
set_option maxHeartbeats 4000000 in
theorem tX8_rule_B38 {X : Xt} {v : Int32} {h' : pH} (N : Nat) (k38 : pH → Int32 → Int32 → Int32 → Option (Int32 × pH)) (HK38 : ∀ (h : pH) (x1 : Int32) (x2 : Int32) (x3 : Int32), k38 h x1 x2 x3 = some (v, h') → Wx X 4 38 [(0, rf (qo X) 1), (1, .int x1), (2, .int x2), (3, .int x3)] [] h) (h : pH) (x1 : Int32) (x2 : Int32) (x3 : Int32) (B : Bd (lo X) (qo X) cX8_rule RX8 4 (some .int) 4 96 (some (.int v)) h' X) (hf : fX8_rule_B38 N k38 h x1 x2 x3 = some (v, h')) : Wx X 4 38 [(0, rf (qo X) 1), (1, .int x1), (2, .int x2), (3, .int x3)] [] h := by
  have C := B.1
  unfold fX8_rule_B38 at hf
  refine x_iload_n (i := 3) 3 C dX8_rule_38 rfl rfl ?_
  refine x_bipush (v := 9) C dX8_rule_39 (by decide) ?_
  refine x_icmp_gt (tgt := 84) C dX8_rule_41 (by decide) (fun c => ?_) (fun c => ?_)
  · rw [if_pos c] at hf
    refine x_iload_n (i := 2) 2 C dX8_rule_84 rfl rfl ?_
    obtain ⟨rfl, rfl⟩ := rtn hf
    exact B.2.2.2.2.2.1 _ _ rfl rfl rfl _ _ dX8_rule_85
  · rw [if_neg c] at hf
    refine x_aload_n (i := 0) 0 C dX8_rule_44 rfl rfl ?_
    refine x_getR (r := 1) (r2 := 28) C dX8_rule_45 kfX8_43 rfl rfl (by decide) ?_
    refine x_iload_n (i := 1) 1 C dX8_rule_48 rfl rfl ?_
    refine x_iload_n (i := 3) 3 C dX8_rule_49 rfl rfl ?_
    obtain ⟨g1, hf⟩ := ife hf
    refine x_iast (r := 28) C dX8_rule_50 rfl g1 ?_
    refine x_aload_n (i := 0) 0 C dX8_rule_51 rfl rfl ?_
    refine x_aload_n (i := 0) 0 C dX8_rule_52 rfl rfl ?_
    refine x_getR (r := 1) (r2 := 9) C dX8_rule_53 kfX8_18 rfl rfl (by decide) ?_
    obtain ⟨z1, e1, hf⟩ := bnd hf
    refine x_callV (r := 9) (As := []) (rest := [rf (qo X) 1]) C dX8_rule_56 kmX8_228 miX0_firstGap (ctX0_firstGap (lo X) (qo X) N (pw h 28 x1.toNatClampNeg x3) z1.1 z1.2 e1) rfl rfl ⟨Nat.le_trans (by decide) B.2.2.2.1, Nat.le_trans (by decide) B.2.2.2.2.1⟩ (by simp [cat_i, cat_l, rf_cat]) rfl ?_
    refine x_aload_n (i := 0) 0 C dX8_rule_59 rfl rfl ?_
    refine x_getR (r := 1) (r2 := 28) C dX8_rule_60 kfX8_43 rfl rfl (by decide) ?_
    obtain ⟨z2, e2, hf⟩ := bnd hf
    refine x_callV (r := 1) (As := [.int z1.1, rf (qo X) 28]) (rest := []) C dX8_rule_63 kmX8_231 miX8_comesOutAsSeen (ctX8_comesOutAsSeen (lo X) (qo X) N z1.2 z1.1 28 z2.1 z2.2 e2) rfl rfl ⟨Nat.le_trans (by decide) B.2.2.2.1, Nat.le_trans (by decide) B.2.2.2.2.1⟩ (by simp [cat_i, cat_l, rf_cat]) rfl ?_
    refine x_if_eq (tgt := 78) C dX8_rule_66 (by decide) (fun c => ?_) (fun c => ?_)
    · rw [if_pos c] at hf
      exact tX8_rule_b78 N k38 HK38 z2.2 x1 x2 x3 B hf
    · rw [if_neg c] at hf
      refine x_iload_n (i := 2) 2 C dX8_rule_69 rfl rfl ?_
      refine x_iconst (v := 1) C dX8_rule_70 (by decide) ?_
      refine x_iload_n (i := 3) 3 C dX8_rule_71 rfl rfl ?_
      refine x_bipush (v := 9) C dX8_rule_72 (by decide) ?_
      refine x_iadd C dX8_rule_74 ?_
      refine x_ishl C dX8_rule_75 ?_
      refine x_ior C dX8_rule_76 ?_
      refine x_istore_n (i := 2) (lv' := [(2, .int (x2 ||| (1 <<< ((x3 + 9) &&& 31)))), (0, rf (qo X) 1), (1, .int x1), (3, .int x3)]) C dX8_rule_77 rfl (by decide) rfl ?_
      refine x_lv [1, 2, 0, 3] rfl ?_
      exact tX8_rule_b78 N k38 HK38 z2.2 x1 (x2 ||| (1 <<< ((x3 + 9) &&& 31))) x3 B hf
def fX8_rule_L38 (N : Nat) : Nat → pH → Int32 → Int32 → Int32 → Option (Int32 × pH)
  | 0 => fun _ _ _ _ => none
  | n + 1 => fX8_rule_B38 N (fX8_rule_L38 N n)
theorem tX8_rule_L38 {X : Xt} {v : Int32} {h' : pH} (N : Nat) (B : Bd (lo X) (qo X) cX8_rule RX8 4 (some .int) 4 96 (some (.int v)) h' X) : ∀ (n : Nat) (h : pH) (x1 : Int32) (x2 : Int32) (x3 : Int32), fX8_rule_L38 N n h x1 x2 x3 = some (v, h') → Wx X 4 38 [(0, rf (qo X) 1), (1, .int x1), (2, .int x2), (3, .int x3)] [] h := by
  intro n
  induction n with
  | zero => intro h x1 x2 x3 hf; exact absurd (show (none : Option (Int32 × pH)) = some (v, h') from hf) (fun z => by cases z)
  | succ n ih => intro h x1 x2 x3 hf; exact tX8_rule_B38 N (fX8_rule_L38 N n) ih h x1 x2 x3 B hf
def fX8_rule (N : Nat) (h : pH) (x1 : Int32) : Option (Int32 × pH) :=
  (fX8_within N h x1 0 3).bind fun z1 => (if z1.1 = 0 then (some ((-2), z1.2)) else ((fX8_freshen N z1.2).bind fun z2 => (if aK 10 = 0 ∧ aK 28 = 0 ∧ ¬ (0 : Int32) < 0 ∧ ¬ (0 : Int32) < 0 ∧ ¬ (4 : Int32) < 0 ∧ (0 : Int32).toNatClampNeg + (4 : Int32).toNatClampNeg ≤ 4 ∧ (0 : Int32).toNatClampNeg + (4 : Int32).toNatClampNeg ≤ 4 then (fX8_rule_L38 N N (pcI z2.2 10 28 (0 : Int32).toNatClampNeg (0 : Int32).toNatClampNeg (4 : Int32).toNatClampNeg) x1 0 (-9)) else none)))
set_option maxRecDepth 100000 in
set_option maxHeartbeats 4000000 in
theorem tX8_rule {X : Xt} {v : Int32} {h' : pH} (N : Nat) (h : pH) (x1 : Int32) (B : Bd (lo X) (qo X) cX8_rule RX8 4 (some .int) 4 96 (some (.int v)) h' X) (hf : fX8_rule N h x1 = some (v, h')) : Wx X 4 0 [(0, rf (qo X) 1), (1, .int x1)] [] h := by
  have C := B.1
  unfold fX8_rule at hf
  refine x_iload_n (i := 1) 1 C dX8_rule_0 rfl rfl ?_
  refine x_iconst (v := 0) C dX8_rule_1 (by decide) ?_
  refine x_iconst (v := 3) C dX8_rule_2 (by decide) ?_
  obtain ⟨z1, e1, hf⟩ := bnd hf
  refine x_callS (As := [.int x1, .int 0, .int 3]) (rest := []) C dX8_rule_3 kmX8_91 miX8_within (ctX8_within (lo X) (qo X) N h x1 0 3 z1.1 z1.2 e1) rfl rfl ⟨Nat.le_trans (by decide) B.2.2.2.1, Nat.le_trans (by decide) B.2.2.2.2.1⟩ (by simp [cat_i, cat_l, rf_cat]) ?_
  refine x_if_ne (tgt := 12) C dX8_rule_6 (by decide) (fun c => ?_) (fun c => ?_)
  · rw [if_neg c] at hf
    refine x_aload_n (i := 0) 0 C dX8_rule_12 rfl rfl ?_
    obtain ⟨z2, e2, hf⟩ := bnd hf
    refine x_callV (r := 1) (As := []) (rest := []) C dX8_rule_13 kmX8_110 miX8_freshen (ctX8_freshen (lo X) (qo X) N z1.2 z2.1 z2.2 e2) rfl rfl ⟨Nat.le_trans (by decide) B.2.2.2.1, Nat.le_trans (by decide) B.2.2.2.2.1⟩ (by simp [cat_i, cat_l, rf_cat]) rfl ?_
    refine x_aload_n (i := 0) 0 C dX8_rule_16 rfl rfl ?_
    refine x_getR (r := 1) (r2 := 9) C dX8_rule_17 kfX8_18 rfl rfl (by decide) ?_
    refine x_getR (r := 9) (r2 := 10) C dX8_rule_20 kfX8_148 rfl rfl (by decide) ?_
    refine x_iconst (v := 0) C dX8_rule_23 (by decide) ?_
    refine x_aload_n (i := 0) 0 C dX8_rule_24 rfl rfl ?_
    refine x_getR (r := 1) (r2 := 28) C dX8_rule_25 kfX8_43 rfl rfl (by decide) ?_
    refine x_iconst (v := 0) C dX8_rule_28 (by decide) ?_
    refine x_iconst (v := 4) C dX8_rule_29 (by decide) ?_
    obtain ⟨g1, hf⟩ := ife hf
    refine x_copyi (r1 := 10) (r2 := 28) C dX8_rule_30 kcX8_222 kna kns kni g1.1 g1.2.1 g1.2.2 ⟨Nat.le_trans (by decide) B.2.2.2.1, Nat.le_trans (by decide) B.2.2.2.2.1⟩ ?_
    refine x_iconst (v := 0) C dX8_rule_33 (by decide) ?_
    refine x_istore_n (i := 2) (lv' := [(2, .int 0), (0, rf (qo X) 1), (1, .int x1)]) C dX8_rule_34 rfl (by decide) rfl ?_
    refine x_bipush (v := (-9)) C dX8_rule_35 (by decide) ?_
    refine x_istore_n (i := 3) (lv' := [(3, .int (-9)), (2, .int 0), (0, rf (qo X) 1), (1, .int x1)]) C dX8_rule_37 rfl (by decide) rfl ?_
    refine x_lv [2, 3, 1, 0] rfl ?_
    exact tX8_rule_L38 N  B N (pcI z2.2 10 28 (0 : Int32).toNatClampNeg (0 : Int32).toNatClampNeg (4 : Int32).toNatClampNeg) x1 0 (-9) hf
  · rw [if_pos c] at hf
    refine x_bipush (v := (-2)) C dX8_rule_9 (by decide) ?_
    obtain ⟨rfl, rfl⟩ := rtn hf
    exact B.2.2.2.2.2.1 _ _ rfl rfl rfl _ _ dX8_rule_11
theorem ctX8_rule (l : Launch) (q : Nat → Nat) (N : Nat) (h : pH) (x1 : Int32) (v : Int32) (h' : pH) (hf : fX8_rule N h x1 = some (v, h')) : Ctr l q yX8_rule cX8_rule 4 (some .int) 4 96 [rf q 1, .int x1] h h' (some (.int v)) := by
  refine ct_of (own := RX8) (lv := [(0, rf q 1), (1, .int x1)]) (by decide +kernel) rfl (by simp [lg_sl, rf_cat, cat_i, cat_l]) (by first | rfl | simp [lv_args, rf_cat, cat_i, cat_l]) ?_
  intro X B
  obtain rfl := B.2.1
  obtain rfl := B.2.2.1
  exact tX8_rule N h x1 B hf
def fX8_began_b40 (N : Nat) (k8 : pH → Int32 → Int32 → Option (Int32 × pH)) (h : pH) (x1 : Int32) (x2 : Int32) : Option (Int32 × pH) :=
  k8 h x1 (x2 + 1)
set_option maxRecDepth 100000 in
set_option maxHeartbeats 4000000 in
theorem tX8_began_b40 {X : Xt} {v : Int32} {h' : pH} (N : Nat) (k8 : pH → Int32 → Int32 → Option (Int32 × pH)) (HK8 : ∀ (h : pH) (x1 : Int32) (x2 : Int32), k8 h x1 x2 = some (v, h') → Wx X 3 8 [(0, rf (qo X) 1), (1, .int x1), (2, .int x2)] [] h) (h : pH) (x1 : Int32) (x2 : Int32) (B : Bd (lo X) (qo X) cX8_began RX8 3 (some .int) 4 96 (some (.int v)) h' X) (hf : fX8_began_b40 N k8 h x1 x2 = some (v, h')) : Wx X 3 40 [(0, rf (qo X) 1), (1, .int x1), (2, .int x2)] [] h := by
  have C := B.1
  unfold fX8_began_b40 at hf
  refine x_iinc (v := x2 + 1) (lv' := [(2, .int (x2 + 1)), (0, rf (qo X) 1), (1, .int x1)]) 2 C dX8_began_40 rfl rfl (by decide) rfl ?_
  refine x_goto (tgt := 8) C dX8_began_43 (by decide) ?_
  refine x_lv [1, 2, 0] rfl ?_
  exact HK8 h x1 (x2 + 1) hf
def fX8_began_B8 (N : Nat) (k8 : pH → Int32 → Int32 → Option (Int32 × pH)) (h : pH) (x1 : Int32) (x2 : Int32) : Option (Int32 × pH) :=
  if (h.1 9 3) ≤ x2 then (some (x1, h)) else ((fX8_comesOutAsSeen N h x2 10).bind fun z1 => (if z1.1 = 0 then (fX8_began_b40 N k8 z1.2 x1 x2) else (fX8_began_b40 N k8 z1.2 (x1 ||| (1 <<< (x2 &&& 31))) x2)))
set_option maxRecDepth 100000 in
set_option maxHeartbeats 4000000 in
theorem tX8_began_B8 {X : Xt} {v : Int32} {h' : pH} (N : Nat) (k8 : pH → Int32 → Int32 → Option (Int32 × pH)) (HK8 : ∀ (h : pH) (x1 : Int32) (x2 : Int32), k8 h x1 x2 = some (v, h') → Wx X 3 8 [(0, rf (qo X) 1), (1, .int x1), (2, .int x2)] [] h) (h : pH) (x1 : Int32) (x2 : Int32) (B : Bd (lo X) (qo X) cX8_began RX8 3 (some .int) 4 96 (some (.int v)) h' X) (hf : fX8_began_B8 N k8 h x1 x2 = some (v, h')) : Wx X 3 8 [(0, rf (qo X) 1), (1, .int x1), (2, .int x2)] [] h := by
  have C := B.1
  unfold fX8_began_B8 at hf
  refine x_iload_n (i := 2) 2 C dX8_began_8 rfl rfl ?_
  refine x_aload_n (i := 0) 0 C dX8_began_9 rfl rfl ?_
  refine x_getR (r := 1) (r2 := 9) C dX8_began_10 kfX8_18 rfl rfl (by decide) ?_
  refine x_getI (r := 9) C dX8_began_13 kfX8_176 rfl ?_
  refine x_icmp_ge (tgt := 46) C dX8_began_16 (by decide) (fun c => ?_) (fun c => ?_)
  · rw [if_pos c] at hf
    refine x_iload_n (i := 1) 1 C dX8_began_46 rfl rfl ?_
    obtain ⟨rfl, rfl⟩ := rtn hf
    exact B.2.2.2.2.2.1 _ _ rfl rfl rfl _ _ dX8_began_47
  · rw [if_neg c] at hf
    refine x_aload_n (i := 0) 0 C dX8_began_19 rfl rfl ?_
    refine x_iload_n (i := 2) 2 C dX8_began_20 rfl rfl ?_
    refine x_aload_n (i := 0) 0 C dX8_began_21 rfl rfl ?_
    refine x_getR (r := 1) (r2 := 9) C dX8_began_22 kfX8_18 rfl rfl (by decide) ?_
    refine x_getR (r := 9) (r2 := 10) C dX8_began_25 kfX8_148 rfl rfl (by decide) ?_
    obtain ⟨z1, e1, hf⟩ := bnd hf
    refine x_callV (r := 1) (As := [.int x2, rf (qo X) 10]) (rest := []) C dX8_began_28 kmX8_231 miX8_comesOutAsSeen (ctX8_comesOutAsSeen (lo X) (qo X) N h x2 10 z1.1 z1.2 e1) rfl rfl ⟨Nat.le_trans (by decide) B.2.2.2.1, Nat.le_trans (by decide) B.2.2.2.2.1⟩ (by simp [cat_i, cat_l, rf_cat]) rfl ?_
    refine x_if_eq (tgt := 40) C dX8_began_31 (by decide) (fun c => ?_) (fun c => ?_)
    · rw [if_pos c] at hf
      exact tX8_began_b40 N k8 HK8 z1.2 x1 x2 B hf
    · rw [if_neg c] at hf
      refine x_iload_n (i := 1) 1 C dX8_began_34 rfl rfl ?_
      refine x_iconst (v := 1) C dX8_began_35 (by decide) ?_
      refine x_iload_n (i := 2) 2 C dX8_began_36 rfl rfl ?_
      refine x_ishl C dX8_began_37 ?_
      refine x_ior C dX8_began_38 ?_
      refine x_istore_n (i := 1) (lv' := [(1, .int (x1 ||| (1 <<< (x2 &&& 31)))), (0, rf (qo X) 1), (2, .int x2)]) C dX8_began_39 rfl (by decide) rfl ?_
      refine x_lv [1, 0, 2] rfl ?_
      exact tX8_began_b40 N k8 HK8 z1.2 (x1 ||| (1 <<< (x2 &&& 31))) x2 B hf
def fX8_began_L8 (N : Nat) : Nat → pH → Int32 → Int32 → Option (Int32 × pH)
  | 0 => fun _ _ _ => none
  | n + 1 => fX8_began_B8 N (fX8_began_L8 N n)
theorem tX8_began_L8 {X : Xt} {v : Int32} {h' : pH} (N : Nat) (B : Bd (lo X) (qo X) cX8_began RX8 3 (some .int) 4 96 (some (.int v)) h' X) : ∀ (n : Nat) (h : pH) (x1 : Int32) (x2 : Int32), fX8_began_L8 N n h x1 x2 = some (v, h') → Wx X 3 8 [(0, rf (qo X) 1), (1, .int x1), (2, .int x2)] [] h := by
  intro n
  induction n with
  | zero => intro h x1 x2 hf; exact absurd (show (none : Option (Int32 × pH)) = some (v, h') from hf) (fun z => by cases z)
  | succ n ih => intro h x1 x2 hf; exact tX8_began_B8 N (fX8_began_L8 N n) ih h x1 x2 B hf
def fX8_began (N : Nat) (h : pH)  : Option (Int32 × pH) :=
  (fX8_freshen N h).bind fun z1 => (fX8_began_L8 N N z1.2 0 0)
set_option maxRecDepth 100000 in
set_option maxHeartbeats 4000000 in
theorem tX8_began {X : Xt} {v : Int32} {h' : pH} (N : Nat) (h : pH)  (B : Bd (lo X) (qo X) cX8_began RX8 3 (some .int) 4 96 (some (.int v)) h' X) (hf : fX8_began N h  = some (v, h')) : Wx X 3 0 [(0, rf (qo X) 1)] [] h := by
  have C := B.1
  unfold fX8_began at hf
  refine x_aload_n (i := 0) 0 C dX8_began_0 rfl rfl ?_
  obtain ⟨z1, e1, hf⟩ := bnd hf
  refine x_callV (r := 1) (As := []) (rest := []) C dX8_began_1 kmX8_110 miX8_freshen (ctX8_freshen (lo X) (qo X) N h z1.1 z1.2 e1) rfl rfl ⟨Nat.le_trans (by decide) B.2.2.2.1, Nat.le_trans (by decide) B.2.2.2.2.1⟩ (by simp [cat_i, cat_l, rf_cat]) rfl ?_
  refine x_iconst (v := 0) C dX8_began_4 (by decide) ?_
  refine x_istore_n (i := 1) (lv' := [(1, .int 0), (0, rf (qo X) 1)]) C dX8_began_5 rfl (by decide) rfl ?_
  refine x_iconst (v := 0) C dX8_began_6 (by decide) ?_
  refine x_istore_n (i := 2) (lv' := [(2, .int 0), (1, .int 0), (0, rf (qo X) 1)]) C dX8_began_7 rfl (by decide) rfl ?_
  refine x_lv [2, 1, 0] rfl ?_
  exact tX8_began_L8 N  B N z1.2 0 0 hf
theorem ctX8_began (l : Launch) (q : Nat → Nat) (N : Nat) (h : pH)  (v : Int32) (h' : pH) (hf : fX8_began N h  = some (v, h')) : Ctr l q yX8_began cX8_began 3 (some .int) 4 96 [rf q 1] h h' (some (.int v)) := by
  refine ct_of (own := RX8) (lv := [(0, rf q 1)]) (by decide +kernel) rfl (by simp [lg_sl, rf_cat, cat_i, cat_l]) (by first | rfl | simp [lv_args, rf_cat, cat_i, cat_l]) ?_
  intro X B
  obtain rfl := B.2.1
  obtain rfl := B.2.2.1
  exact tX8_began N h  B hf
def fX8_ask (N : Nat) (h : pH)  : Option (Int32 × pH) :=
  some (0, h)
set_option maxRecDepth 100000 in
set_option maxHeartbeats 4000000 in
theorem tX8_ask {X : Xt} {v : Int32} {h' : pH} (N : Nat) (h : pH)  (B : Bd (lo X) (qo X) cX8_ask RX8 1 (some .int) 0 0 (some (.int v)) h' X) (hf : fX8_ask N h  = some (v, h')) : Wx X 1 0 [(0, rf (qo X) 1)] [] h := by
  have C := B.1
  unfold fX8_ask at hf
  refine x_iconst (v := 0) C dX8_ask_0 (by decide) ?_
  obtain ⟨rfl, rfl⟩ := rtn hf
  exact B.2.2.2.2.2.1 _ _ rfl rfl rfl _ _ dX8_ask_1
theorem ctX8_ask (l : Launch) (q : Nat → Nat) (N : Nat) (h : pH)  (v : Int32) (h' : pH) (hf : fX8_ask N h  = some (v, h')) : Ctr l q yX8_ask cX8_ask 1 (some .int) 0 0 [rf q 1] h h' (some (.int v)) := by
  refine ct_of (own := RX8) (lv := [(0, rf q 1)]) (by decide +kernel) rfl (by simp [lg_sl, rf_cat, cat_i, cat_l]) (by first | rfl | simp [lv_args, rf_cat, cat_i, cat_l]) ?_
  intro X B
  obtain rfl := B.2.1
  obtain rfl := B.2.2.1
  exact tX8_ask N h  B hf
def fX8_spreadOver_b99 (N : Nat) (k39 : pH → Nat → Int32 → Int32 → Option (Unit × pH)) (h : pH) (r1 : Nat) (x2 : Int32) (x3 : Int32) : Option (Unit × pH) :=
  k39 h r1 x2 (x3 + 1)
set_option maxRecDepth 100000 in
set_option maxHeartbeats 4000000 in
theorem tX8_spreadOver_b99 {X : Xt} {v : Unit} {h' : pH} (N : Nat) (k39 : pH → Nat → Int32 → Int32 → Option (Unit × pH)) (HK39 : ∀ (h : pH) (r1 : Nat) (x2 : Int32) (x3 : Int32), k39 h r1 x2 x3 = some (v, h') → Wx X 5 39 [(0, rf (qo X) 1), (1, rf (qo X) r1), (2, .int x2), (3, .int x3)] [] h) (h : pH) (r1 : Nat) (x2 : Int32) (x3 : Int32) (B : Bd (lo X) (qo X) cX8_spreadOver RX8 5 none 2 46 none h' X) (hf : fX8_spreadOver_b99 N k39 h r1 x2 x3 = some (v, h')) : Wx X 5 99 [(0, rf (qo X) 1), (1, rf (qo X) r1), (2, .int x2), (3, .int x3)] [] h := by
  have C := B.1
  unfold fX8_spreadOver_b99 at hf
  refine x_iinc (v := x3 + 1) (lv' := [(3, .int (x3 + 1)), (0, rf (qo X) 1), (1, rf (qo X) r1), (2, .int x2)]) 3 C dX8_spreadOver_99 rfl rfl (by decide) rfl ?_
  refine x_goto (tgt := 39) C dX8_spreadOver_102 (by decide) ?_
  refine x_lv [1, 2, 3, 0] rfl ?_
  exact HK39 h r1 x2 (x3 + 1) hf
def fX8_spreadOver_B39 (N : Nat) (k39 : pH → Nat → Int32 → Int32 → Option (Unit × pH)) (h : pH) (r1 : Nat) (x2 : Int32) (x3 : Int32) : Option (Unit × pH) :=
  if (h.1 9 3) ≤ x3 then (if aK 39 = 3 ∧ aK 38 = 3 ∧ ¬ (0 : Int32) < 0 ∧ ¬ (0 : Int32) < 0 ∧ ¬ (19 : Int32) < 0 ∧ (0 : Int32).toNatClampNeg + (19 : Int32).toNatClampNeg ≤ 19 ∧ (0 : Int32).toNatClampNeg + (19 : Int32).toNatClampNeg ≤ 19 then (some ((), (pcL h 39 38 (0 : Int32).toNatClampNeg (0 : Int32).toNatClampNeg (19 : Int32).toNatClampNeg))) else none) else ((fX0_gapBehind N h r1 x3 10).bind fun z1 => ((fX0_hasPlank N z1.2 z1.1).bind fun z2 => (if z2.1 = 0 then (fX8_spreadOver_b99 N k39 z2.2 r1 x2 x3) else (if ix z1.1 19 = true then (if ix x3 19 = true then (if ix z1.1 19 = true then (fX8_spreadOver_b99 N k39 (pv z2.2 39 z1.1.toNatClampNeg ((z2.2.2 39 z1.1.toNatClampNeg) + ((z2.2.2 38 x3.toNatClampNeg) * x2.toInt64))) r1 x2 x3) else none) else none) else none))))
set_option maxRecDepth 100000 in
set_option maxHeartbeats 4000000 in
theorem tX8_spreadOver_B39 {X : Xt} {v : Unit} {h' : pH} (N : Nat) (k39 : pH → Nat → Int32 → Int32 → Option (Unit × pH)) (HK39 : ∀ (h : pH) (r1 : Nat) (x2 : Int32) (x3 : Int32), k39 h r1 x2 x3 = some (v, h') → Wx X 5 39 [(0, rf (qo X) 1), (1, rf (qo X) r1), (2, .int x2), (3, .int x3)] [] h) (h : pH) (r1 : Nat) (x2 : Int32) (x3 : Int32) (B : Bd (lo X) (qo X) cX8_spreadOver RX8 5 none 2 46 none h' X) (hf : fX8_spreadOver_B39 N k39 h r1 x2 x3 = some (v, h')) : Wx X 5 39 [(0, rf (qo X) 1), (1, rf (qo X) r1), (2, .int x2), (3, .int x3)] [] h := by
  have C := B.1
  unfold fX8_spreadOver_B39 at hf
  refine x_iload_n (i := 3) 3 C dX8_spreadOver_39 rfl rfl ?_
  refine x_aload_n (i := 0) 0 C dX8_spreadOver_40 rfl rfl ?_
  refine x_getR (r := 1) (r2 := 9) C dX8_spreadOver_41 kfX8_18 rfl rfl (by decide) ?_
  refine x_getI (r := 9) C dX8_spreadOver_44 kfX8_176 rfl ?_
  refine x_icmp_ge (tgt := 105) C dX8_spreadOver_47 (by decide) (fun c => ?_) (fun c => ?_)
  · rw [if_pos c] at hf
    refine x_aload_n (i := 0) 0 C dX8_spreadOver_105 rfl rfl ?_
    refine x_getR (r := 1) (r2 := 39) C dX8_spreadOver_106 kfX8_67 rfl rfl (by decide) ?_
    refine x_iconst (v := 0) C dX8_spreadOver_109 (by decide) ?_
    refine x_aload_n (i := 0) 0 C dX8_spreadOver_110 rfl rfl ?_
    refine x_getR (r := 1) (r2 := 38) C dX8_spreadOver_111 kfX8_63 rfl rfl (by decide) ?_
    refine x_iconst (v := 0) C dX8_spreadOver_114 (by decide) ?_
    refine x_bipush (v := 19) C dX8_spreadOver_115 (by decide) ?_
    obtain ⟨g1, hf⟩ := ife hf
    refine x_copyl (r1 := 39) (r2 := 38) C dX8_spreadOver_117 kcX8_222 kna kns kni g1.1 g1.2.1 g1.2.2 ⟨Nat.le_trans (by decide) B.2.2.2.1, Nat.le_trans (by decide) B.2.2.2.2.1⟩ ?_
    obtain ⟨rfl, rfl⟩ := rtn hf
    exact B.2.2.2.2.2.2.2.2.2 rfl rfl _ _ dX8_spreadOver_120
  · rw [if_neg c] at hf
    refine x_aload_n (i := 0) 0 C dX8_spreadOver_50 rfl rfl ?_
    refine x_getR (r := 1) (r2 := 9) C dX8_spreadOver_51 kfX8_18 rfl rfl (by decide) ?_
    refine x_aload_n (i := 1) 1 C dX8_spreadOver_54 rfl rfl ?_
    refine x_iload_n (i := 3) 3 C dX8_spreadOver_55 rfl rfl ?_
    refine x_aload_n (i := 0) 0 C dX8_spreadOver_56 rfl rfl ?_
    refine x_getR (r := 1) (r2 := 9) C dX8_spreadOver_57 kfX8_18 rfl rfl (by decide) ?_
    refine x_getR (r := 9) (r2 := 10) C dX8_spreadOver_60 kfX8_148 rfl rfl (by decide) ?_
    obtain ⟨z1, e1, hf⟩ := bnd hf
    refine x_callV (r := 9) (As := [rf (qo X) r1, .int x3, rf (qo X) 10]) (rest := []) C dX8_spreadOver_63 kmX8_194 miX0_gapBehind (ctX0_gapBehind (lo X) (qo X) N h r1 x3 10 z1.1 z1.2 e1) rfl rfl ⟨Nat.le_trans (by decide) B.2.2.2.1, Nat.le_trans (by decide) B.2.2.2.2.1⟩ (by simp [cat_i, cat_l, rf_cat]) rfl ?_
    refine x_istore (lv' := [(4, .int z1.1), (0, rf (qo X) 1), (1, rf (qo X) r1), (2, .int x2), (3, .int x3)]) C dX8_spreadOver_66 (by decide) rfl ?_
    refine x_aload_n (i := 0) 1 C dX8_spreadOver_68 rfl rfl ?_
    refine x_getR (r := 1) (r2 := 9) C dX8_spreadOver_69 kfX8_18 rfl rfl (by decide) ?_
    refine x_iload 0 C dX8_spreadOver_72 rfl ?_
    obtain ⟨z2, e2, hf⟩ := bnd hf
    refine x_callV (r := 9) (As := [.int z1.1]) (rest := []) C dX8_spreadOver_74 kmX8_113 miX0_hasPlank (ctX0_hasPlank (lo X) (qo X) N z1.2 z1.1 z2.1 z2.2 e2) rfl rfl ⟨Nat.le_trans (by decide) B.2.2.2.1, Nat.le_trans (by decide) B.2.2.2.2.1⟩ (by simp [cat_i, cat_l, rf_cat]) rfl ?_
    refine x_if_eq (tgt := 99) C dX8_spreadOver_77 (by decide) (fun c => ?_) (fun c => ?_)
    · rw [if_pos c] at hf
      refine x_lv [1, 2, 3, 4] rfl ?_
      exact tX8_spreadOver_b99 N k39 HK39 z2.2 r1 x2 x3 B hf
    · rw [if_neg c] at hf
      refine x_aload_n (i := 0) 1 C dX8_spreadOver_80 rfl rfl ?_
      refine x_getR (r := 1) (r2 := 39) C dX8_spreadOver_81 kfX8_67 rfl rfl (by decide) ?_
      refine x_iload 0 C dX8_spreadOver_84 rfl ?_
      refine x_dup2IA C dX8_spreadOver_86 ?_
      obtain ⟨g2, hf⟩ := ife hf
      refine x_lald (r := 39) C dX8_spreadOver_87 rfl g2 ?_
      refine x_aload_n (i := 0) 1 C dX8_spreadOver_88 rfl rfl ?_
      refine x_getR (r := 1) (r2 := 38) C dX8_spreadOver_89 kfX8_63 rfl rfl (by decide) ?_
      refine x_iload_n (i := 3) 4 C dX8_spreadOver_92 rfl rfl ?_
      obtain ⟨g3, hf⟩ := ife hf
      refine x_lald (r := 38) C dX8_spreadOver_93 rfl g3 ?_
      refine x_iload_n (i := 2) 3 C dX8_spreadOver_94 rfl rfl ?_
      refine x_i2l C dX8_spreadOver_95 ?_
      refine x_lmul C dX8_spreadOver_96 ?_
      refine x_ladd C dX8_spreadOver_97 ?_
      obtain ⟨g4, hf⟩ := ife hf
      refine x_last (r := 39) C dX8_spreadOver_98 rfl g4 ?_
      refine x_lv [1, 2, 3, 4] rfl ?_
      exact tX8_spreadOver_b99 N k39 HK39 (pv z2.2 39 z1.1.toNatClampNeg ((z2.2.2 39 z1.1.toNatClampNeg) + ((z2.2.2 38 x3.toNatClampNeg) * x2.toInt64))) r1 x2 x3 B hf
def fX8_spreadOver_L39 (N : Nat) : Nat → pH → Nat → Int32 → Int32 → Option (Unit × pH)
  | 0 => fun _ _ _ _ => none
  | n + 1 => fX8_spreadOver_B39 N (fX8_spreadOver_L39 N n)
theorem tX8_spreadOver_L39 {X : Xt} {v : Unit} {h' : pH} (N : Nat) (B : Bd (lo X) (qo X) cX8_spreadOver RX8 5 none 2 46 none h' X) : ∀ (n : Nat) (h : pH) (r1 : Nat) (x2 : Int32) (x3 : Int32), fX8_spreadOver_L39 N n h r1 x2 x3 = some (v, h') → Wx X 5 39 [(0, rf (qo X) 1), (1, rf (qo X) r1), (2, .int x2), (3, .int x3)] [] h := by
  intro n
  induction n with
  | zero => intro h r1 x2 x3 hf; exact absurd (show (none : Option (Unit × pH)) = some (v, h') from hf) (fun z => by cases z)
  | succ n ih => intro h r1 x2 x3 hf; exact tX8_spreadOver_B39 N (fX8_spreadOver_L39 N n) ih h r1 x2 x3 B hf
def fX8_spreadOver_B2 (N : Nat) (k2 : pH → Nat → Int32 → Int32 → Option (Unit × pH)) (h : pH) (r1 : Nat) (x2 : Int32) (x3 : Int32) : Option (Unit × pH) :=
  if (h.1 9 3) ≤ x3 then (fX8_spreadOver_L39 N N h r1 x2 0) else (if ix x3 19 = true then (if ix x3 19 = true then (k2 (pv h 39 x3.toNatClampNeg ((h.2 38 x3.toNatClampNeg) * ((16 - x2).toInt64))) r1 x2 (x3 + 1)) else none) else none)
set_option maxRecDepth 100000 in
set_option maxHeartbeats 4000000 in
theorem tX8_spreadOver_B2 {X : Xt} {v : Unit} {h' : pH} (N : Nat) (k2 : pH → Nat → Int32 → Int32 → Option (Unit × pH)) (HK2 : ∀ (h : pH) (r1 : Nat) (x2 : Int32) (x3 : Int32), k2 h r1 x2 x3 = some (v, h') → Wx X 5 2 [(0, rf (qo X) 1), (1, rf (qo X) r1), (2, .int x2), (3, .int x3)] [] h) (h : pH) (r1 : Nat) (x2 : Int32) (x3 : Int32) (B : Bd (lo X) (qo X) cX8_spreadOver RX8 5 none 2 46 none h' X) (hf : fX8_spreadOver_B2 N k2 h r1 x2 x3 = some (v, h')) : Wx X 5 2 [(0, rf (qo X) 1), (1, rf (qo X) r1), (2, .int x2), (3, .int x3)] [] h := by
  have C := B.1
  unfold fX8_spreadOver_B2 at hf
  refine x_iload_n (i := 3) 3 C dX8_spreadOver_2 rfl rfl ?_
  refine x_aload_n (i := 0) 0 C dX8_spreadOver_3 rfl rfl ?_
  refine x_getR (r := 1) (r2 := 9) C dX8_spreadOver_4 kfX8_18 rfl rfl (by decide) ?_
  refine x_getI (r := 9) C dX8_spreadOver_7 kfX8_176 rfl ?_
  refine x_icmp_ge (tgt := 37) C dX8_spreadOver_10 (by decide) (fun c => ?_) (fun c => ?_)
  · rw [if_pos c] at hf
    refine x_iconst (v := 0) C dX8_spreadOver_37 (by decide) ?_
    refine x_istore_n (i := 3) (lv' := [(3, .int 0), (0, rf (qo X) 1), (1, rf (qo X) r1), (2, .int x2)]) C dX8_spreadOver_38 rfl (by decide) rfl ?_
    refine x_lv [1, 2, 3, 0] rfl ?_
    exact tX8_spreadOver_L39 N  B N h r1 x2 0 hf
  · rw [if_neg c] at hf
    refine x_aload_n (i := 0) 0 C dX8_spreadOver_13 rfl rfl ?_
    refine x_getR (r := 1) (r2 := 39) C dX8_spreadOver_14 kfX8_67 rfl rfl (by decide) ?_
    refine x_iload_n (i := 3) 3 C dX8_spreadOver_17 rfl rfl ?_
    refine x_aload_n (i := 0) 0 C dX8_spreadOver_18 rfl rfl ?_
    refine x_getR (r := 1) (r2 := 38) C dX8_spreadOver_19 kfX8_63 rfl rfl (by decide) ?_
    refine x_iload_n (i := 3) 3 C dX8_spreadOver_22 rfl rfl ?_
    obtain ⟨g1, hf⟩ := ife hf
    refine x_lald (r := 38) C dX8_spreadOver_23 rfl g1 ?_
    refine x_bipush (v := 16) C dX8_spreadOver_24 (by decide) ?_
    refine x_iload_n (i := 2) 2 C dX8_spreadOver_26 rfl rfl ?_
    refine x_isub C dX8_spreadOver_27 ?_
    refine x_i2l C dX8_spreadOver_28 ?_
    refine x_lmul C dX8_spreadOver_29 ?_
    obtain ⟨g2, hf⟩ := ife hf
    refine x_last (r := 39) C dX8_spreadOver_30 rfl g2 ?_
    refine x_iinc (v := x3 + 1) (lv' := [(3, .int (x3 + 1)), (0, rf (qo X) 1), (1, rf (qo X) r1), (2, .int x2)]) 3 C dX8_spreadOver_31 rfl rfl (by decide) rfl ?_
    refine x_goto (tgt := 2) C dX8_spreadOver_34 (by decide) ?_
    refine x_lv [1, 2, 3, 0] rfl ?_
    exact HK2 (pv h 39 x3.toNatClampNeg ((h.2 38 x3.toNatClampNeg) * ((16 - x2).toInt64))) r1 x2 (x3 + 1) hf
def fX8_spreadOver_L2 (N : Nat) : Nat → pH → Nat → Int32 → Int32 → Option (Unit × pH)
  | 0 => fun _ _ _ _ => none
  | n + 1 => fX8_spreadOver_B2 N (fX8_spreadOver_L2 N n)
theorem tX8_spreadOver_L2 {X : Xt} {v : Unit} {h' : pH} (N : Nat) (B : Bd (lo X) (qo X) cX8_spreadOver RX8 5 none 2 46 none h' X) : ∀ (n : Nat) (h : pH) (r1 : Nat) (x2 : Int32) (x3 : Int32), fX8_spreadOver_L2 N n h r1 x2 x3 = some (v, h') → Wx X 5 2 [(0, rf (qo X) 1), (1, rf (qo X) r1), (2, .int x2), (3, .int x3)] [] h := by
  intro n
  induction n with
  | zero => intro h r1 x2 x3 hf; exact absurd (show (none : Option (Unit × pH)) = some (v, h') from hf) (fun z => by cases z)
  | succ n ih => intro h r1 x2 x3 hf; exact tX8_spreadOver_B2 N (fX8_spreadOver_L2 N n) ih h r1 x2 x3 B hf
def fX8_spreadOver (N : Nat) (h : pH) (r1 : Nat) (x2 : Int32) : Option (Unit × pH) :=
  fX8_spreadOver_L2 N N h r1 x2 0
set_option maxRecDepth 100000 in
set_option maxHeartbeats 4000000 in
theorem tX8_spreadOver {X : Xt} {v : Unit} {h' : pH} (N : Nat) (h : pH) (r1 : Nat) (x2 : Int32) (B : Bd (lo X) (qo X) cX8_spreadOver RX8 5 none 2 46 none h' X) (hf : fX8_spreadOver N h r1 x2 = some (v, h')) : Wx X 5 0 [(0, rf (qo X) 1), (1, rf (qo X) r1), (2, .int x2)] [] h := by
  have C := B.1
  unfold fX8_spreadOver at hf
  refine x_iconst (v := 0) C dX8_spreadOver_0 (by decide) ?_
  refine x_istore_n (i := 3) (lv' := [(3, .int 0), (0, rf (qo X) 1), (1, rf (qo X) r1), (2, .int x2)]) C dX8_spreadOver_1 rfl (by decide) rfl ?_
  refine x_lv [1, 2, 3, 0] rfl ?_
  exact tX8_spreadOver_L2 N  B N h r1 x2 0 hf
theorem ctX8_spreadOver (l : Launch) (q : Nat → Nat) (N : Nat) (h : pH) (r1 : Nat) (x2 : Int32) (v : Unit) (h' : pH) (hf : fX8_spreadOver N h r1 x2 = some (v, h')) : Ctr l q yX8_spreadOver cX8_spreadOver 5 none 2 46 [rf q 1, rf q r1, .int x2] h h' none := by
  refine ct_of (own := RX8) (lv := [(0, rf q 1), (1, rf q r1), (2, .int x2)]) (by decide +kernel) rfl (by simp [lg_sl, rf_cat, cat_i, cat_l]) (by first | rfl | simp [lv_args, rf_cat, cat_i, cat_l]) ?_
  intro X B
  obtain rfl := B.2.1
  obtain rfl := B.2.2.1
  exact tX8_spreadOver N h r1 x2 B hf
def fX8_spreadChances_B43 (N : Nat) (k43 : pH → Int32 → Int32 → Option (Unit × pH)) (h : pH) (x1 : Int32) (x2 : Int32) : Option (Unit × pH) :=
  if (h.1 24 1) ≤ x2 then (some ((), h)) else ((fX3_whoAt N h x2).bind fun z1 => ((fX2_at N z1.2 z1.1).bind fun z2 => ((fX8_spreadOver N z2.2 z2.1 x1).bind fun z3 => (k43 z3.2 x1 (x2 + 1)))))
set_option maxRecDepth 100000 in
set_option maxHeartbeats 4000000 in
theorem tX8_spreadChances_B43 {X : Xt} {v : Unit} {h' : pH} (N : Nat) (k43 : pH → Int32 → Int32 → Option (Unit × pH)) (HK43 : ∀ (h : pH) (x1 : Int32) (x2 : Int32), k43 h x1 x2 = some (v, h') → Wx X 3 43 [(0, rf (qo X) 1), (1, .int x1), (2, .int x2)] [] h) (h : pH) (x1 : Int32) (x2 : Int32) (B : Bd (lo X) (qo X) cX8_spreadChances RX8 3 none 3 70 none h' X) (hf : fX8_spreadChances_B43 N k43 h x1 x2 = some (v, h')) : Wx X 3 43 [(0, rf (qo X) 1), (1, .int x1), (2, .int x2)] [] h := by
  have C := B.1
  unfold fX8_spreadChances_B43 at hf
  refine x_iload_n (i := 2) 2 C dX8_spreadChances_43 rfl rfl ?_
  refine x_aload_n (i := 0) 0 C dX8_spreadChances_44 rfl rfl ?_
  refine x_getR (r := 1) (r2 := 24) C dX8_spreadChances_45 kfX8_32 rfl rfl (by decide) ?_
  refine x_getI (r := 24) C dX8_spreadChances_48 kfX8_154 rfl ?_
  refine x_icmp_ge (tgt := 80) C dX8_spreadChances_51 (by decide) (fun c => ?_) (fun c => ?_)
  · rw [if_pos c] at hf
    obtain ⟨rfl, rfl⟩ := rtn hf
    exact B.2.2.2.2.2.2.2.2.2 rfl rfl _ _ dX8_spreadChances_80
  · rw [if_neg c] at hf
    refine x_aload_n (i := 0) 0 C dX8_spreadChances_54 rfl rfl ?_
    refine x_aload_n (i := 0) 0 C dX8_spreadChances_55 rfl rfl ?_
    refine x_getR (r := 1) (r2 := 14) C dX8_spreadChances_56 kfX8_25 rfl rfl (by decide) ?_
    refine x_aload_n (i := 0) 0 C dX8_spreadChances_59 rfl rfl ?_
    refine x_getR (r := 1) (r2 := 24) C dX8_spreadChances_60 kfX8_32 rfl rfl (by decide) ?_
    refine x_iload_n (i := 2) 2 C dX8_spreadChances_63 rfl rfl ?_
    obtain ⟨z1, e1, hf⟩ := bnd hf
    refine x_callV (r := 24) (As := [.int x2]) (rest := [rf (qo X) 14, rf (qo X) 1]) C dX8_spreadChances_64 kmX8_138 miX3_whoAt (ctX3_whoAt (lo X) (qo X) N h x2 z1.1 z1.2 e1) rfl rfl ⟨Nat.le_trans (by decide) B.2.2.2.1, Nat.le_trans (by decide) B.2.2.2.2.1⟩ (by simp [cat_i, cat_l, rf_cat]) rfl ?_
    obtain ⟨z2, e2, hf⟩ := bnd hf
    refine x_callV (r := 14) (As := [.int z1.1]) (rest := [rf (qo X) 1]) C dX8_spreadChances_67 kmX8_120 miX2_at (ctX2_at (lo X) (qo X) N z1.2 z1.1 z2.1 z2.2 e2) rfl rfl ⟨Nat.le_trans (by decide) B.2.2.2.1, Nat.le_trans (by decide) B.2.2.2.2.1⟩ (by simp [cat_i, cat_l, rf_cat]) rfl ?_
    refine x_iload_n (i := 1) 1 C dX8_spreadChances_70 rfl rfl ?_
    obtain ⟨z3, e3, hf⟩ := bnd hf
    refine x_callV (r := 1) (As := [rf (qo X) z2.1, .int x1]) (rest := []) C dX8_spreadChances_71 kmX8_393 miX8_spreadOver (ctX8_spreadOver (lo X) (qo X) N z2.2 z2.1 x1 z3.1 z3.2 e3) rfl rfl ⟨Nat.le_trans (by decide) B.2.2.2.1, Nat.le_trans (by decide) B.2.2.2.2.1⟩ (by simp [cat_i, cat_l, rf_cat]) rfl ?_
    refine x_iinc (v := x2 + 1) (lv' := [(2, .int (x2 + 1)), (0, rf (qo X) 1), (1, .int x1)]) 2 C dX8_spreadChances_74 rfl rfl (by decide) rfl ?_
    refine x_goto (tgt := 43) C dX8_spreadChances_77 (by decide) ?_
    refine x_lv [1, 2, 0] rfl ?_
    exact HK43 z3.2 x1 (x2 + 1) hf
def fX8_spreadChances_L43 (N : Nat) : Nat → pH → Int32 → Int32 → Option (Unit × pH)
  | 0 => fun _ _ _ => none
  | n + 1 => fX8_spreadChances_B43 N (fX8_spreadChances_L43 N n)
theorem tX8_spreadChances_L43 {X : Xt} {v : Unit} {h' : pH} (N : Nat) (B : Bd (lo X) (qo X) cX8_spreadChances RX8 3 none 3 70 none h' X) : ∀ (n : Nat) (h : pH) (x1 : Int32) (x2 : Int32), fX8_spreadChances_L43 N n h x1 x2 = some (v, h') → Wx X 3 43 [(0, rf (qo X) 1), (1, .int x1), (2, .int x2)] [] h := by
  intro n
  induction n with
  | zero => intro h x1 x2 hf; exact absurd (show (none : Option (Unit × pH)) = some (v, h') from hf) (fun z => by cases z)
  | succ n ih => intro h x1 x2 hf; exact tX8_spreadChances_B43 N (fX8_spreadChances_L43 N n) ih h x1 x2 B hf
def fX8_spreadChances_b34 (N : Nat) (k2 : pH → Int32 → Int32 → Option (Unit × pH)) (h : pH) (x1 : Int32) (x2 : Int32) (ls0 : Int64) (xs1 : Int32) : Option (Unit × pH) :=
  if ix xs1 19 = true then (k2 (pv h 38 xs1.toNatClampNeg ls0) x1 (x2 + 1)) else none
set_option maxRecDepth 100000 in
set_option maxHeartbeats 4000000 in
theorem tX8_spreadChances_b34 {X : Xt} {v : Unit} {h' : pH} (N : Nat) (k2 : pH → Int32 → Int32 → Option (Unit × pH)) (HK2 : ∀ (h : pH) (x1 : Int32) (x2 : Int32), k2 h x1 x2 = some (v, h') → Wx X 3 2 [(0, rf (qo X) 1), (1, .int x1), (2, .int x2)] [] h) (h : pH) (x1 : Int32) (x2 : Int32) (ls0 : Int64) (xs1 : Int32) (B : Bd (lo X) (qo X) cX8_spreadChances RX8 3 none 3 70 none h' X) (hf : fX8_spreadChances_b34 N k2 h x1 x2 ls0 xs1 = some (v, h')) : Wx X 3 34 [(0, rf (qo X) 1), (1, .int x1), (2, .int x2)] [.long ls0, .int xs1, rf (qo X) 38] h := by
  have C := B.1
  unfold fX8_spreadChances_b34 at hf
  obtain ⟨g1, hf⟩ := ife hf
  refine x_last (r := 38) C dX8_spreadChances_34 rfl g1 ?_
  refine x_iinc (v := x2 + 1) (lv' := [(2, .int (x2 + 1)), (0, rf (qo X) 1), (1, .int x1)]) 2 C dX8_spreadChances_35 rfl rfl (by decide) rfl ?_
  refine x_goto (tgt := 2) C dX8_spreadChances_38 (by decide) ?_
  refine x_lv [1, 2, 0] rfl ?_
  exact HK2 (pv h 38 xs1.toNatClampNeg ls0) x1 (x2 + 1) hf
def fX8_spreadChances_B2 (N : Nat) (k2 : pH → Int32 → Int32 → Option (Unit × pH)) (h : pH) (x1 : Int32) (x2 : Int32) : Option (Unit × pH) :=
  if (h.1 9 3) ≤ x2 then (fX8_spreadChances_L43 N N h x1 0) else ((fX0_firstGap N h).bind fun z1 => (if x2 = z1.1 then (fX8_spreadChances_b34 N k2 z1.2 x1 x2 1 x2) else (fX8_spreadChances_b34 N k2 z1.2 x1 x2 0 x2)))
set_option maxRecDepth 100000 in
set_option maxHeartbeats 4000000 in
theorem tX8_spreadChances_B2 {X : Xt} {v : Unit} {h' : pH} (N : Nat) (k2 : pH → Int32 → Int32 → Option (Unit × pH)) (HK2 : ∀ (h : pH) (x1 : Int32) (x2 : Int32), k2 h x1 x2 = some (v, h') → Wx X 3 2 [(0, rf (qo X) 1), (1, .int x1), (2, .int x2)] [] h) (h : pH) (x1 : Int32) (x2 : Int32) (B : Bd (lo X) (qo X) cX8_spreadChances RX8 3 none 3 70 none h' X) (hf : fX8_spreadChances_B2 N k2 h x1 x2 = some (v, h')) : Wx X 3 2 [(0, rf (qo X) 1), (1, .int x1), (2, .int x2)] [] h := by
  have C := B.1
  unfold fX8_spreadChances_B2 at hf
  refine x_iload_n (i := 2) 2 C dX8_spreadChances_2 rfl rfl ?_
  refine x_aload_n (i := 0) 0 C dX8_spreadChances_3 rfl rfl ?_
  refine x_getR (r := 1) (r2 := 9) C dX8_spreadChances_4 kfX8_18 rfl rfl (by decide) ?_
  refine x_getI (r := 9) C dX8_spreadChances_7 kfX8_176 rfl ?_
  refine x_icmp_ge (tgt := 41) C dX8_spreadChances_10 (by decide) (fun c => ?_) (fun c => ?_)
  · rw [if_pos c] at hf
    refine x_iconst (v := 0) C dX8_spreadChances_41 (by decide) ?_
    refine x_istore_n (i := 2) (lv' := [(2, .int 0), (0, rf (qo X) 1), (1, .int x1)]) C dX8_spreadChances_42 rfl (by decide) rfl ?_
    refine x_lv [1, 2, 0] rfl ?_
    exact tX8_spreadChances_L43 N  B N h x1 0 hf
  · rw [if_neg c] at hf
    refine x_aload_n (i := 0) 0 C dX8_spreadChances_13 rfl rfl ?_
    refine x_getR (r := 1) (r2 := 38) C dX8_spreadChances_14 kfX8_63 rfl rfl (by decide) ?_
    refine x_iload_n (i := 2) 2 C dX8_spreadChances_17 rfl rfl ?_
    refine x_iload_n (i := 2) 2 C dX8_spreadChances_18 rfl rfl ?_
    refine x_aload_n (i := 0) 0 C dX8_spreadChances_19 rfl rfl ?_
    refine x_getR (r := 1) (r2 := 9) C dX8_spreadChances_20 kfX8_18 rfl rfl (by decide) ?_
    obtain ⟨z1, e1, hf⟩ := bnd hf
    refine x_callV (r := 9) (As := []) (rest := [.int x2, .int x2, rf (qo X) 38]) C dX8_spreadChances_23 kmX8_228 miX0_firstGap (ctX0_firstGap (lo X) (qo X) N h z1.1 z1.2 e1) rfl rfl ⟨Nat.le_trans (by decide) B.2.2.2.1, Nat.le_trans (by decide) B.2.2.2.2.1⟩ (by simp [cat_i, cat_l, rf_cat]) rfl ?_
    refine x_icmp_ne (tgt := 33) C dX8_spreadChances_26 (by decide) (fun c => ?_) (fun c => ?_)
    · rw [if_neg c] at hf
      refine x_lconst (v := 0) C dX8_spreadChances_33 (by decide) ?_
      exact tX8_spreadChances_b34 N k2 HK2 z1.2 x1 x2 0 x2 B hf
    · rw [if_pos c] at hf
      refine x_lconst (v := 1) C dX8_spreadChances_29 (by decide) ?_
      refine x_goto (tgt := 34) C dX8_spreadChances_30 (by decide) ?_
      exact tX8_spreadChances_b34 N k2 HK2 z1.2 x1 x2 1 x2 B hf
def fX8_spreadChances_L2 (N : Nat) : Nat → pH → Int32 → Int32 → Option (Unit × pH)
  | 0 => fun _ _ _ => none
  | n + 1 => fX8_spreadChances_B2 N (fX8_spreadChances_L2 N n)
theorem tX8_spreadChances_L2 {X : Xt} {v : Unit} {h' : pH} (N : Nat) (B : Bd (lo X) (qo X) cX8_spreadChances RX8 3 none 3 70 none h' X) : ∀ (n : Nat) (h : pH) (x1 : Int32) (x2 : Int32), fX8_spreadChances_L2 N n h x1 x2 = some (v, h') → Wx X 3 2 [(0, rf (qo X) 1), (1, .int x1), (2, .int x2)] [] h := by
  intro n
  induction n with
  | zero => intro h x1 x2 hf; exact absurd (show (none : Option (Unit × pH)) = some (v, h') from hf) (fun z => by cases z)
  | succ n ih => intro h x1 x2 hf; exact tX8_spreadChances_B2 N (fX8_spreadChances_L2 N n) ih h x1 x2 B hf
def fX8_spreadChances (N : Nat) (h : pH) (x1 : Int32) : Option (Unit × pH) :=
  fX8_spreadChances_L2 N N h x1 0
set_option maxRecDepth 100000 in
set_option maxHeartbeats 4000000 in
theorem tX8_spreadChances {X : Xt} {v : Unit} {h' : pH} (N : Nat) (h : pH) (x1 : Int32) (B : Bd (lo X) (qo X) cX8_spreadChances RX8 3 none 3 70 none h' X) (hf : fX8_spreadChances N h x1 = some (v, h')) : Wx X 3 0 [(0, rf (qo X) 1), (1, .int x1)] [] h := by
  have C := B.1
  unfold fX8_spreadChances at hf
  refine x_iconst (v := 0) C dX8_spreadChances_0 (by decide) ?_
  refine x_istore_n (i := 2) (lv' := [(2, .int 0), (0, rf (qo X) 1), (1, .int x1)]) C dX8_spreadChances_1 rfl (by decide) rfl ?_
  refine x_lv [1, 2, 0] rfl ?_
  exact tX8_spreadChances_L2 N  B N h x1 0 hf
theorem ctX8_spreadChances (l : Launch) (q : Nat → Nat) (N : Nat) (h : pH) (x1 : Int32) (v : Unit) (h' : pH) (hf : fX8_spreadChances N h x1 = some (v, h')) : Ctr l q yX8_spreadChances cX8_spreadChances 3 none 3 70 [rf q 1, .int x1] h h' none := by
  refine ct_of (own := RX8) (lv := [(0, rf q 1), (1, .int x1)]) (by decide +kernel) rfl (by simp [lg_sl, rf_cat, cat_i, cat_l]) (by first | rfl | simp [lv_args, rf_cat, cat_i, cat_l]) ?_
  intro X B
  obtain rfl := B.2.1
  obtain rfl := B.2.2.1
  exact tX8_spreadChances N h x1 B hf
def fX8_maybe_b46 (N : Nat) (h : pH)  : Option (Int64 × pH) :=
  some ((-9223372036854775806), h)
set_option maxRecDepth 100000 in
set_option maxHeartbeats 4000000 in
theorem tX8_maybe_b46 {X : Xt} {v : Int64} {h' : pH} (N : Nat) (h : pH)  (B : Bd (lo X) (qo X) cX8_maybe RX8 7 (some .long) 4 96 (some (.long v)) h' X) (hf : fX8_maybe_b46 N h  = some (v, h')) : Wx X 7 46 [] [] h := by
  have C := B.1
  unfold fX8_maybe_b46 at hf
  refine x_ldc2 (v := (-9223372036854775806)) C dX8_maybe_46 kkX8_235 ?_
  obtain ⟨rfl, rfl⟩ := rtn hf
  exact B.2.2.2.2.2.2.1 _ rfl rfl _ _ dX8_maybe_49
def fX8_maybe_b113 (N : Nat) (h : pH) (ls0 : Int64) : Option (Int64 × pH) :=
  some (ls0, h)
set_option maxRecDepth 100000 in
set_option maxHeartbeats 4000000 in
theorem tX8_maybe_b113 {X : Xt} {v : Int64} {h' : pH} (N : Nat) (h : pH) (ls0 : Int64) (B : Bd (lo X) (qo X) cX8_maybe RX8 7 (some .long) 4 96 (some (.long v)) h' X) (hf : fX8_maybe_b113 N h ls0 = some (v, h')) : Wx X 7 113 [] [.long ls0] h := by
  have C := B.1
  unfold fX8_maybe_b113 at hf
  obtain ⟨rfl, rfl⟩ := rtn hf
  exact B.2.2.2.2.2.2.1 _ rfl rfl _ _ dX8_maybe_113
def fX8_maybe_b100 (N : Nat) (h : pH) (x3 : Int32) (l4 : Int64) (x6 : Int32) : Option (Int64 × pH) :=
  if x3 = 0 then (fX8_maybe_b113 N h l4) else (fX8_maybe_b113 N h (1 <<< (x6.toInt64 &&& 63)))
set_option maxRecDepth 100000 in
set_option maxHeartbeats 4000000 in
theorem tX8_maybe_b100 {X : Xt} {v : Int64} {h' : pH} (N : Nat) (h : pH) (x3 : Int32) (l4 : Int64) (x6 : Int32) (B : Bd (lo X) (qo X) cX8_maybe RX8 7 (some .long) 4 96 (some (.long v)) h' X) (hf : fX8_maybe_b100 N h x3 l4 x6 = some (v, h')) : Wx X 7 100 [(3, .int x3), (4, .long l4), (6, .int x6)] [] h := by
  have C := B.1
  unfold fX8_maybe_b100 at hf
  refine x_iload_n (i := 3) 0 C dX8_maybe_100 rfl rfl ?_
  refine x_if_ne (tgt := 109) C dX8_maybe_101 (by decide) (fun c => ?_) (fun c => ?_)
  · rw [if_neg c] at hf
    refine x_lconst (v := 1) C dX8_maybe_109 (by decide) ?_
    refine x_iload 2 C dX8_maybe_110 rfl ?_
    refine x_lshl C dX8_maybe_112 ?_
    refine x_lv [] rfl ?_
    exact tX8_maybe_b113 N h (1 <<< (x6.toInt64 &&& 63)) B hf
  · rw [if_pos c] at hf
    refine x_lload 1 C dX8_maybe_104 rfl ?_
    refine x_goto (tgt := 113) C dX8_maybe_106 (by decide) ?_
    refine x_lv [] rfl ?_
    exact tX8_maybe_b113 N h l4 B hf
def fX8_maybe_B74 (N : Nat) (k74 : pH → Int32 → Int64 → Int32 → Option (Int64 × pH)) (h : pH) (x3 : Int32) (l4 : Int64) (x6 : Int32) : Option (Int64 × pH) :=
  if x6 ≤ 0 then (fX8_maybe_b100 N h x3 l4 x6) else (if (lg_cmp (l4 &&& 1) 0) = 0 then (k74 h x3 (l4 >>> ((1 : Int32).toInt64 &&& 63)) (x6 + (-1))) else (fX8_maybe_b100 N h x3 l4 x6))
set_option maxRecDepth 100000 in
set_option maxHeartbeats 4000000 in
theorem tX8_maybe_B74 {X : Xt} {v : Int64} {h' : pH} (N : Nat) (k74 : pH → Int32 → Int64 → Int32 → Option (Int64 × pH)) (HK74 : ∀ (h : pH) (x3 : Int32) (l4 : Int64) (x6 : Int32), k74 h x3 l4 x6 = some (v, h') → Wx X 7 74 [(3, .int x3), (4, .long l4), (6, .int x6)] [] h) (h : pH) (x3 : Int32) (l4 : Int64) (x6 : Int32) (B : Bd (lo X) (qo X) cX8_maybe RX8 7 (some .long) 4 96 (some (.long v)) h' X) (hf : fX8_maybe_B74 N k74 h x3 l4 x6 = some (v, h')) : Wx X 7 74 [(3, .int x3), (4, .long l4), (6, .int x6)] [] h := by
  have C := B.1
  unfold fX8_maybe_B74 at hf
  refine x_iload 2 C dX8_maybe_74 rfl ?_
  refine x_if_le (tgt := 100) C dX8_maybe_76 (by decide) (fun c => ?_) (fun c => ?_)
  · rw [if_pos c] at hf
    exact tX8_maybe_b100 N h x3 l4 x6 B hf
  · rw [if_neg c] at hf
    refine x_lload 1 C dX8_maybe_79 rfl ?_
    refine x_lconst (v := 1) C dX8_maybe_81 (by decide) ?_
    refine x_land C dX8_maybe_82 ?_
    refine x_lconst (v := 0) C dX8_maybe_83 (by decide) ?_
    refine x_lcmp C dX8_maybe_84 ?_
    refine x_if_ne (tgt := 100) C dX8_maybe_85 (by decide) (fun c => ?_) (fun c => ?_)
    · rw [if_neg c] at hf
      exact tX8_maybe_b100 N h x3 l4 x6 B hf
    · rw [if_pos c] at hf
      refine x_lload 1 C dX8_maybe_88 rfl ?_
      refine x_iconst (v := 1) C dX8_maybe_90 (by decide) ?_
      refine x_lshr C dX8_maybe_91 ?_
      refine x_lstore (lv' := [(4, .long (l4 >>> ((1 : Int32).toInt64 &&& 63))), (3, .int x3), (6, .int x6)]) C dX8_maybe_92 (by decide) rfl ?_
      refine x_iinc (v := x6 + (-1)) (lv' := [(6, .int (x6 + (-1))), (4, .long (l4 >>> ((1 : Int32).toInt64 &&& 63))), (3, .int x3)]) 2 C dX8_maybe_94 rfl rfl (by decide) rfl ?_
      refine x_goto (tgt := 74) C dX8_maybe_97 (by decide) ?_
      refine x_lv [2, 1, 0] rfl ?_
      exact HK74 h x3 (l4 >>> ((1 : Int32).toInt64 &&& 63)) (x6 + (-1)) hf
def fX8_maybe_L74 (N : Nat) : Nat → pH → Int32 → Int64 → Int32 → Option (Int64 × pH)
  | 0 => fun _ _ _ _ => none
  | n + 1 => fX8_maybe_B74 N (fX8_maybe_L74 N n)
theorem tX8_maybe_L74 {X : Xt} {v : Int64} {h' : pH} (N : Nat) (B : Bd (lo X) (qo X) cX8_maybe RX8 7 (some .long) 4 96 (some (.long v)) h' X) : ∀ (n : Nat) (h : pH) (x3 : Int32) (l4 : Int64) (x6 : Int32), fX8_maybe_L74 N n h x3 l4 x6 = some (v, h') → Wx X 7 74 [(3, .int x3), (4, .long l4), (6, .int x6)] [] h := by
  intro n
  induction n with
  | zero => intro h x3 l4 x6 hf; exact absurd (show (none : Option (Int64 × pH)) = some (v, h') from hf) (fun z => by cases z)
  | succ n ih => intro h x3 l4 x6 hf; exact tX8_maybe_B74 N (fX8_maybe_L74 N n) ih h x3 l4 x6 B hf
def fX8_maybe (N : Nat) (h : pH) (x1 : Int32) (x2 : Int32) (x3 : Int32) : Option (Int64 × pH) :=
  (fX8_freshen N h).bind fun z1 => ((fX8_within N z1.2 x1 0 16).bind fun z2 => (if z2.1 = 0 then (fX8_maybe_b46 N z2.2) else ((fX0_hasPlank N z2.2 x2).bind fun z3 => (if z3.1 = 0 then (fX8_maybe_b46 N z3.2) else ((fX8_within N z3.2 x3 0 1).bind fun z4 => (if z4.1 = 0 then (fX8_maybe_b46 N z4.2) else (if (z4.2.1 24 1) ≤ 10 then ((fX8_spreadChances N z4.2 x1).bind fun z5 => (if ix x2 19 = true then (fX8_maybe_L74 N N z5.2 x3 (z5.2.2 38 x2.toNatClampNeg) (4 * (z5.2.1 24 1))) else none)) else (fX8_maybe_b46 N z4.2))))))))
set_option maxRecDepth 100000 in
set_option maxHeartbeats 4000000 in
theorem tX8_maybe {X : Xt} {v : Int64} {h' : pH} (N : Nat) (h : pH) (x1 : Int32) (x2 : Int32) (x3 : Int32) (B : Bd (lo X) (qo X) cX8_maybe RX8 7 (some .long) 4 96 (some (.long v)) h' X) (hf : fX8_maybe N h x1 x2 x3 = some (v, h')) : Wx X 7 0 [(0, rf (qo X) 1), (1, .int x1), (2, .int x2), (3, .int x3)] [] h := by
  have C := B.1
  unfold fX8_maybe at hf
  refine x_aload_n (i := 0) 0 C dX8_maybe_0 rfl rfl ?_
  obtain ⟨z1, e1, hf⟩ := bnd hf
  refine x_callV (r := 1) (As := []) (rest := []) C dX8_maybe_1 kmX8_110 miX8_freshen (ctX8_freshen (lo X) (qo X) N h z1.1 z1.2 e1) rfl rfl ⟨Nat.le_trans (by decide) B.2.2.2.1, Nat.le_trans (by decide) B.2.2.2.2.1⟩ (by simp [cat_i, cat_l, rf_cat]) rfl ?_
  refine x_iload_n (i := 1) 1 C dX8_maybe_4 rfl rfl ?_
  refine x_iconst (v := 0) C dX8_maybe_5 (by decide) ?_
  refine x_bipush (v := 16) C dX8_maybe_6 (by decide) ?_
  obtain ⟨z2, e2, hf⟩ := bnd hf
  refine x_callS (As := [.int x1, .int 0, .int 16]) (rest := []) C dX8_maybe_8 kmX8_91 miX8_within (ctX8_within (lo X) (qo X) N z1.2 x1 0 16 z2.1 z2.2 e2) rfl rfl ⟨Nat.le_trans (by decide) B.2.2.2.1, Nat.le_trans (by decide) B.2.2.2.2.1⟩ (by simp [cat_i, cat_l, rf_cat]) ?_
  refine x_if_eq (tgt := 46) C dX8_maybe_11 (by decide) (fun c => ?_) (fun c => ?_)
  · rw [if_pos c] at hf
    refine x_lv [] rfl ?_
    exact tX8_maybe_b46 N z2.2 B hf
  · rw [if_neg c] at hf
    refine x_aload_n (i := 0) 0 C dX8_maybe_14 rfl rfl ?_
    refine x_getR (r := 1) (r2 := 9) C dX8_maybe_15 kfX8_18 rfl rfl (by decide) ?_
    refine x_iload_n (i := 2) 2 C dX8_maybe_18 rfl rfl ?_
    obtain ⟨z3, e3, hf⟩ := bnd hf
    refine x_callV (r := 9) (As := [.int x2]) (rest := []) C dX8_maybe_19 kmX8_113 miX0_hasPlank (ctX0_hasPlank (lo X) (qo X) N z2.2 x2 z3.1 z3.2 e3) rfl rfl ⟨Nat.le_trans (by decide) B.2.2.2.1, Nat.le_trans (by decide) B.2.2.2.2.1⟩ (by simp [cat_i, cat_l, rf_cat]) rfl ?_
    refine x_if_eq (tgt := 46) C dX8_maybe_22 (by decide) (fun c => ?_) (fun c => ?_)
    · rw [if_pos c] at hf
      refine x_lv [] rfl ?_
      exact tX8_maybe_b46 N z3.2 B hf
    · rw [if_neg c] at hf
      refine x_iload_n (i := 3) 3 C dX8_maybe_25 rfl rfl ?_
      refine x_iconst (v := 0) C dX8_maybe_26 (by decide) ?_
      refine x_iconst (v := 1) C dX8_maybe_27 (by decide) ?_
      obtain ⟨z4, e4, hf⟩ := bnd hf
      refine x_callS (As := [.int x3, .int 0, .int 1]) (rest := []) C dX8_maybe_28 kmX8_91 miX8_within (ctX8_within (lo X) (qo X) N z3.2 x3 0 1 z4.1 z4.2 e4) rfl rfl ⟨Nat.le_trans (by decide) B.2.2.2.1, Nat.le_trans (by decide) B.2.2.2.2.1⟩ (by simp [cat_i, cat_l, rf_cat]) ?_
      refine x_if_eq (tgt := 46) C dX8_maybe_31 (by decide) (fun c => ?_) (fun c => ?_)
      · rw [if_pos c] at hf
        refine x_lv [] rfl ?_
        exact tX8_maybe_b46 N z4.2 B hf
      · rw [if_neg c] at hf
        refine x_aload_n (i := 0) 0 C dX8_maybe_34 rfl rfl ?_
        refine x_getR (r := 1) (r2 := 24) C dX8_maybe_35 kfX8_32 rfl rfl (by decide) ?_
        refine x_getI (r := 24) C dX8_maybe_38 kfX8_154 rfl ?_
        refine x_bipush (v := 10) C dX8_maybe_41 (by decide) ?_
        refine x_icmp_le (tgt := 50) C dX8_maybe_43 (by decide) (fun c => ?_) (fun c => ?_)
        · rw [if_pos c] at hf
          refine x_aload_n (i := 0) 0 C dX8_maybe_50 rfl rfl ?_
          refine x_iload_n (i := 1) 1 C dX8_maybe_51 rfl rfl ?_
          obtain ⟨z5, e5, hf⟩ := bnd hf
          refine x_callV (r := 1) (As := [.int x1]) (rest := []) C dX8_maybe_52 kmX8_237 miX8_spreadChances (ctX8_spreadChances (lo X) (qo X) N z4.2 x1 z5.1 z5.2 e5) rfl rfl ⟨Nat.le_trans (by decide) B.2.2.2.1, Nat.le_trans (by decide) B.2.2.2.2.1⟩ (by simp [cat_i, cat_l, rf_cat]) rfl ?_
          refine x_aload_n (i := 0) 0 C dX8_maybe_55 rfl rfl ?_
          refine x_getR (r := 1) (r2 := 38) C dX8_maybe_56 kfX8_63 rfl rfl (by decide) ?_
          refine x_iload_n (i := 2) 2 C dX8_maybe_59 rfl rfl ?_
          obtain ⟨g1, hf⟩ := ife hf
          refine x_lald (r := 38) C dX8_maybe_60 rfl g1 ?_
          refine x_lstore (lv' := [(4, .long (z5.2.2 38 x2.toNatClampNeg)), (0, rf (qo X) 1), (1, .int x1), (2, .int x2), (3, .int x3)]) C dX8_maybe_61 (by decide) rfl ?_
          refine x_iconst (v := 4) C dX8_maybe_63 (by decide) ?_
          refine x_aload_n (i := 0) 1 C dX8_maybe_64 rfl rfl ?_
          refine x_getR (r := 1) (r2 := 24) C dX8_maybe_65 kfX8_32 rfl rfl (by decide) ?_
          refine x_getI (r := 24) C dX8_maybe_68 kfX8_154 rfl ?_
          refine x_imul C dX8_maybe_71 ?_
          refine x_istore (lv' := [(6, .int (4 * (z5.2.1 24 1))), (4, .long (z5.2.2 38 x2.toNatClampNeg)), (0, rf (qo X) 1), (1, .int x1), (2, .int x2), (3, .int x3)]) C dX8_maybe_72 (by decide) rfl ?_
          refine x_lv [5, 1, 0] rfl ?_
          exact tX8_maybe_L74 N  B N z5.2 x3 (z5.2.2 38 x2.toNatClampNeg) (4 * (z5.2.1 24 1)) hf
        · rw [if_neg c] at hf
          refine x_lv [] rfl ?_
          exact tX8_maybe_b46 N z4.2 B hf
theorem ctX8_maybe (l : Launch) (q : Nat → Nat) (N : Nat) (h : pH) (x1 : Int32) (x2 : Int32) (x3 : Int32) (v : Int64) (h' : pH) (hf : fX8_maybe N h x1 x2 x3 = some (v, h')) : Ctr l q yX8_maybe cX8_maybe 7 (some .long) 4 96 [rf q 1, .int x1, .int x2, .int x3] h h' (some (.long v)) := by
  refine ct_of (own := RX8) (lv := [(0, rf q 1), (1, .int x1), (2, .int x2), (3, .int x3)]) (by decide +kernel) rfl (by simp [lg_sl, rf_cat, cat_i, cat_l]) (by first | rfl | simp [lv_args, rf_cat, cat_i, cat_l]) ?_
  intro X B
  obtain rfl := B.2.1
  obtain rfl := B.2.2.1
  exact tX8_maybe N h x1 x2 x3 B hf
def fX8_week_b19 (N : Nat) (h : pH)  : Option (Int32 × pH) :=
  some ((-2), h)
set_option maxRecDepth 100000 in
set_option maxHeartbeats 4000000 in
theorem tX8_week_b19 {X : Xt} {v : Int32} {h' : pH} (N : Nat) (h : pH)  (B : Bd (lo X) (qo X) cX8_week RX8 9 (some .int) 4 96 (some (.int v)) h' X) (hf : fX8_week_b19 N h  = some (v, h')) : Wx X 9 19 [] [] h := by
  have C := B.1
  unfold fX8_week_b19 at hf
  refine x_bipush (v := (-2)) C dX8_week_19 (by decide) ?_
  obtain ⟨rfl, rfl⟩ := rtn hf
  exact B.2.2.2.2.2.1 _ _ rfl rfl rfl _ _ dX8_week_21
def fX8_week_b145 (N : Nat) (h : pH) (xs0 : Int32) : Option (Int32 × pH) :=
  some (xs0, h)
set_option maxRecDepth 100000 in
set_option maxHeartbeats 4000000 in
theorem tX8_week_b145 {X : Xt} {v : Int32} {h' : pH} (N : Nat) (h : pH) (xs0 : Int32) (B : Bd (lo X) (qo X) cX8_week RX8 9 (some .int) 4 96 (some (.int v)) h' X) (hf : fX8_week_b145 N h xs0 = some (v, h')) : Wx X 9 145 [] [.int xs0] h := by
  have C := B.1
  unfold fX8_week_b145 at hf
  obtain ⟨rfl, rfl⟩ := rtn hf
  exact B.2.2.2.2.2.1 _ _ rfl rfl rfl _ _ dX8_week_145
def fX8_week_b134 (N : Nat) (h : pH) (x3 : Int32) (x4 : Int32) (x5 : Int32) : Option (Int32 × pH) :=
  if x3 = 0 then (fX8_week_b145 N h x4) else (fX8_week_b145 N h x5)
set_option maxRecDepth 100000 in
set_option maxHeartbeats 4000000 in
theorem tX8_week_b134 {X : Xt} {v : Int32} {h' : pH} (N : Nat) (h : pH) (x3 : Int32) (x4 : Int32) (x5 : Int32) (B : Bd (lo X) (qo X) cX8_week RX8 9 (some .int) 4 96 (some (.int v)) h' X) (hf : fX8_week_b134 N h x3 x4 x5 = some (v, h')) : Wx X 9 134 [(3, .int x3), (4, .int x4), (5, .int x5)] [] h := by
  have C := B.1
  unfold fX8_week_b134 at hf
  refine x_iload_n (i := 3) 0 C dX8_week_134 rfl rfl ?_
  refine x_if_ne (tgt := 143) C dX8_week_135 (by decide) (fun c => ?_) (fun c => ?_)
  · rw [if_neg c] at hf
    refine x_iload 2 C dX8_week_143 rfl ?_
    refine x_lv [] rfl ?_
    exact tX8_week_b145 N h x5 B hf
  · rw [if_pos c] at hf
    refine x_iload 1 C dX8_week_138 rfl ?_
    refine x_goto (tgt := 145) C dX8_week_140 (by decide) ?_
    refine x_lv [] rfl ?_
    exact tX8_week_b145 N h x4 B hf
def fX8_week_b108 (N : Nat) (k41 : pH → Int32 → Int32 → Int32 → Int32 → Int32 → Int32 → Option (Int32 × pH)) (h : pH) (x2 : Int32) (x3 : Int32) (x4 : Int32) (x5 : Int32) (x6 : Int32) (x7 : Int32) (r8 : Nat) : Option (Int32 × pH) :=
  (fX0_gapBehind N h r8 x4 10).bind fun z1 => (k41 z1.2 x2 x3 z1.1 x5 x6 (x7 + 1))
set_option maxRecDepth 100000 in
set_option maxHeartbeats 4000000 in
theorem tX8_week_b108 {X : Xt} {v : Int32} {h' : pH} (N : Nat) (k41 : pH → Int32 → Int32 → Int32 → Int32 → Int32 → Int32 → Option (Int32 × pH)) (HK41 : ∀ (h : pH) (x2 : Int32) (x3 : Int32) (x4 : Int32) (x5 : Int32) (x6 : Int32) (x7 : Int32), k41 h x2 x3 x4 x5 x6 x7 = some (v, h') → Wx X 9 41 [(0, rf (qo X) 1), (2, .int x2), (3, .int x3), (4, .int x4), (5, .int x5), (6, .int x6), (7, .int x7)] [] h) (h : pH) (x2 : Int32) (x3 : Int32) (x4 : Int32) (x5 : Int32) (x6 : Int32) (x7 : Int32) (r8 : Nat) (B : Bd (lo X) (qo X) cX8_week RX8 9 (some .int) 4 96 (some (.int v)) h' X) (hf : fX8_week_b108 N k41 h x2 x3 x4 x5 x6 x7 r8 = some (v, h')) : Wx X 9 108 [(0, rf (qo X) 1), (2, .int x2), (3, .int x3), (4, .int x4), (5, .int x5), (6, .int x6), (7, .int x7), (8, rf (qo X) r8)] [] h := by
  have C := B.1
  unfold fX8_week_b108 at hf
  refine x_aload_n (i := 0) 0 C dX8_week_108 rfl rfl ?_
  refine x_getR (r := 1) (r2 := 9) C dX8_week_109 kfX8_18 rfl rfl (by decide) ?_
  refine x_aload 7 C dX8_week_112 rfl ?_
  refine x_iload 3 C dX8_week_114 rfl ?_
  refine x_aload_n (i := 0) 0 C dX8_week_116 rfl rfl ?_
  refine x_getR (r := 1) (r2 := 9) C dX8_week_117 kfX8_18 rfl rfl (by decide) ?_
  refine x_getR (r := 9) (r2 := 10) C dX8_week_120 kfX8_148 rfl rfl (by decide) ?_
  obtain ⟨z1, e1, hf⟩ := bnd hf
  refine x_callV (r := 9) (As := [rf (qo X) r8, .int x4, rf (qo X) 10]) (rest := []) C dX8_week_123 kmX8_194 miX0_gapBehind (ctX0_gapBehind (lo X) (qo X) N h r8 x4 10 z1.1 z1.2 e1) rfl rfl ⟨Nat.le_trans (by decide) B.2.2.2.1, Nat.le_trans (by decide) B.2.2.2.2.1⟩ (by simp [cat_i, cat_l, rf_cat]) rfl ?_
  refine x_istore (lv' := [(4, .int z1.1), (0, rf (qo X) 1), (2, .int x2), (3, .int x3), (5, .int x5), (6, .int x6), (7, .int x7), (8, rf (qo X) r8)]) C dX8_week_126 (by decide) rfl ?_
  refine x_iinc (v := x7 + 1) (lv' := [(7, .int (x7 + 1)), (4, .int z1.1), (0, rf (qo X) 1), (2, .int x2), (3, .int x3), (5, .int x5), (6, .int x6), (8, rf (qo X) r8)]) 6 C dX8_week_128 rfl rfl (by decide) rfl ?_
  refine x_goto (tgt := 41) C dX8_week_131 (by decide) ?_
  refine x_lv [2, 3, 4, 1, 5, 6, 0] rfl ?_
  exact HK41 z1.2 x2 x3 z1.1 x5 x6 (x7 + 1) hf
def fX8_week_B41 (N : Nat) (k41 : pH → Int32 → Int32 → Int32 → Int32 → Int32 → Int32 → Option (Int32 × pH)) (h : pH) (x2 : Int32) (x3 : Int32) (x4 : Int32) (x5 : Int32) (x6 : Int32) (x7 : Int32) : Option (Int32 × pH) :=
  if x2 ≤ x7 then (fX8_week_b134 N h x3 x4 x5) else (if (h.1 14 1) ≤ 0 then (fX8_week_b134 N h x3 x4 x5) else (if ¬ (h.1 14 1) = 0 then ((fX2_at N h (((((1103515245 * x6) + 12345).toUInt32 >>> ((16 : Int32).toUInt32 &&& Int32.toUInt32 31)).toInt32) - ((((1103515245 * x6) + 12345).toUInt32 >>> ((16 : Int32).toUInt32 &&& Int32.toUInt32 31)).toInt32) / (h.1 14 1) * (h.1 14 1))).bind fun z1 => ((fX0_outcome N z1.2 z1.1 x4).bind fun z2 => (if z2.1 = 1 then (fX8_week_b108 N k41 z2.2 x2 x3 x4 (x5 + 1) ((1103515245 * x6) + 12345) x7 z1.1) else (fX8_week_b108 N k41 z2.2 x2 x3 x4 x5 ((1103515245 * x6) + 12345) x7 z1.1)))) else none))
set_option maxRecDepth 100000 in
set_option maxHeartbeats 4000000 in
theorem tX8_week_B41 {X : Xt} {v : Int32} {h' : pH} (N : Nat) (k41 : pH → Int32 → Int32 → Int32 → Int32 → Int32 → Int32 → Option (Int32 × pH)) (HK41 : ∀ (h : pH) (x2 : Int32) (x3 : Int32) (x4 : Int32) (x5 : Int32) (x6 : Int32) (x7 : Int32), k41 h x2 x3 x4 x5 x6 x7 = some (v, h') → Wx X 9 41 [(0, rf (qo X) 1), (2, .int x2), (3, .int x3), (4, .int x4), (5, .int x5), (6, .int x6), (7, .int x7)] [] h) (h : pH) (x2 : Int32) (x3 : Int32) (x4 : Int32) (x5 : Int32) (x6 : Int32) (x7 : Int32) (B : Bd (lo X) (qo X) cX8_week RX8 9 (some .int) 4 96 (some (.int v)) h' X) (hf : fX8_week_B41 N k41 h x2 x3 x4 x5 x6 x7 = some (v, h')) : Wx X 9 41 [(0, rf (qo X) 1), (2, .int x2), (3, .int x3), (4, .int x4), (5, .int x5), (6, .int x6), (7, .int x7)] [] h := by
  have C := B.1
  unfold fX8_week_B41 at hf
  refine x_iload 6 C dX8_week_41 rfl ?_
  refine x_iload_n (i := 2) 1 C dX8_week_43 rfl rfl ?_
  refine x_icmp_ge (tgt := 134) C dX8_week_44 (by decide) (fun c => ?_) (fun c => ?_)
  · rw [if_pos c] at hf
    refine x_lv [2, 3, 4] rfl ?_
    exact tX8_week_b134 N h x3 x4 x5 B hf
  · rw [if_neg c] at hf
    refine x_aload_n (i := 0) 0 C dX8_week_47 rfl rfl ?_
    refine x_getR (r := 1) (r2 := 14) C dX8_week_48 kfX8_25 rfl rfl (by decide) ?_
    refine x_getI (r := 14) C dX8_week_51 kfX8_193 rfl ?_
    refine x_if_le (tgt := 134) C dX8_week_54 (by decide) (fun c => ?_) (fun c => ?_)
    · rw [if_pos c] at hf
      refine x_lv [2, 3, 4] rfl ?_
      exact tX8_week_b134 N h x3 x4 x5 B hf
    · rw [if_neg c] at hf
      refine x_ldc (v := 1103515245) C dX8_week_57 kkX8_240 ?_
      refine x_iload 5 C dX8_week_59 rfl ?_
      refine x_imul C dX8_week_61 ?_
      refine x_sipush (v := 12345) C dX8_week_62 (by decide) ?_
      refine x_iadd C dX8_week_65 ?_
      refine x_istore (lv' := [(6, .int ((1103515245 * x6) + 12345)), (0, rf (qo X) 1), (2, .int x2), (3, .int x3), (4, .int x4), (5, .int x5), (7, .int x7)]) C dX8_week_66 (by decide) rfl ?_
      refine x_aload_n (i := 0) 1 C dX8_week_68 rfl rfl ?_
      refine x_getR (r := 1) (r2 := 14) C dX8_week_69 kfX8_25 rfl rfl (by decide) ?_
      refine x_iload 0 C dX8_week_72 rfl ?_
      refine x_bipush (v := 16) C dX8_week_74 (by decide) ?_
      refine x_iushr C dX8_week_76 ?_
      refine x_aload_n (i := 0) 1 C dX8_week_77 rfl rfl ?_
      refine x_getR (r := 1) (r2 := 14) C dX8_week_78 kfX8_25 rfl rfl (by decide) ?_
      refine x_getI (r := 14) C dX8_week_81 kfX8_193 rfl ?_
      obtain ⟨g1, hf⟩ := ife hf
      refine x_irem C dX8_week_84 g1 ?_
      obtain ⟨z1, e1, hf⟩ := bnd hf
      refine x_callV (r := 14) (As := [.int (((((1103515245 * x6) + 12345).toUInt32 >>> ((16 : Int32).toUInt32 &&& Int32.toUInt32 31)).toInt32) - ((((1103515245 * x6) + 12345).toUInt32 >>> ((16 : Int32).toUInt32 &&& Int32.toUInt32 31)).toInt32) / (h.1 14 1) * (h.1 14 1))]) (rest := []) C dX8_week_85 kmX8_120 miX2_at (ctX2_at (lo X) (qo X) N h (((((1103515245 * x6) + 12345).toUInt32 >>> ((16 : Int32).toUInt32 &&& Int32.toUInt32 31)).toInt32) - ((((1103515245 * x6) + 12345).toUInt32 >>> ((16 : Int32).toUInt32 &&& Int32.toUInt32 31)).toInt32) / (h.1 14 1) * (h.1 14 1)) z1.1 z1.2 e1) rfl rfl ⟨Nat.le_trans (by decide) B.2.2.2.1, Nat.le_trans (by decide) B.2.2.2.2.1⟩ (by simp [cat_i, cat_l, rf_cat]) rfl ?_
      refine x_astore (lv' := [(8, rf (qo X) z1.1), (6, .int ((1103515245 * x6) + 12345)), (0, rf (qo X) 1), (2, .int x2), (3, .int x3), (4, .int x4), (5, .int x5), (7, .int x7)]) C dX8_week_88 (by decide) rfl ?_
      refine x_aload_n (i := 0) 2 C dX8_week_90 rfl rfl ?_
      refine x_getR (r := 1) (r2 := 9) C dX8_week_91 kfX8_18 rfl rfl (by decide) ?_
      refine x_aload 0 C dX8_week_94 rfl ?_
      refine x_iload 5 C dX8_week_96 rfl ?_
      obtain ⟨z2, e2, hf⟩ := bnd hf
      refine x_callV (r := 9) (As := [rf (qo X) z1.1, .int x4]) (rest := []) C dX8_week_98 kmX8_157 miX0_outcome (ctX0_outcome (lo X) (qo X) N z1.2 z1.1 x4 z2.1 z2.2 e2) rfl rfl ⟨Nat.le_trans (by decide) B.2.2.2.1, Nat.le_trans (by decide) B.2.2.2.2.1⟩ (by simp [cat_i, cat_l, rf_cat]) rfl ?_
      refine x_iconst (v := 1) C dX8_week_101 (by decide) ?_
      refine x_icmp_ne (tgt := 108) C dX8_week_102 (by decide) (fun c => ?_) (fun c => ?_)
      · rw [if_neg c] at hf
        refine x_lv [2, 3, 4, 5, 6, 1, 7, 0] rfl ?_
        exact tX8_week_b108 N k41 HK41 z2.2 x2 x3 x4 x5 ((1103515245 * x6) + 12345) x7 z1.1 B hf
      · rw [if_pos c] at hf
        refine x_iinc (v := x5 + 1) (lv' := [(5, .int (x5 + 1)), (8, rf (qo X) z1.1), (6, .int ((1103515245 * x6) + 12345)), (0, rf (qo X) 1), (2, .int x2), (3, .int x3), (4, .int x4), (7, .int x7)]) 6 C dX8_week_105 rfl rfl (by decide) rfl ?_
        refine x_lv [3, 4, 5, 6, 0, 2, 7, 1] rfl ?_
        exact tX8_week_b108 N k41 HK41 z2.2 x2 x3 x4 (x5 + 1) ((1103515245 * x6) + 12345) x7 z1.1 B hf
def fX8_week_L41 (N : Nat) : Nat → pH → Int32 → Int32 → Int32 → Int32 → Int32 → Int32 → Option (Int32 × pH)
  | 0 => fun _ _ _ _ _ _ _ => none
  | n + 1 => fX8_week_B41 N (fX8_week_L41 N n)
theorem tX8_week_L41 {X : Xt} {v : Int32} {h' : pH} (N : Nat) (B : Bd (lo X) (qo X) cX8_week RX8 9 (some .int) 4 96 (some (.int v)) h' X) : ∀ (n : Nat) (h : pH) (x2 : Int32) (x3 : Int32) (x4 : Int32) (x5 : Int32) (x6 : Int32) (x7 : Int32), fX8_week_L41 N n h x2 x3 x4 x5 x6 x7 = some (v, h') → Wx X 9 41 [(0, rf (qo X) 1), (2, .int x2), (3, .int x3), (4, .int x4), (5, .int x5), (6, .int x6), (7, .int x7)] [] h := by
  intro n
  induction n with
  | zero => intro h x2 x3 x4 x5 x6 x7 hf; exact absurd (show (none : Option (Int32 × pH)) = some (v, h') from hf) (fun z => by cases z)
  | succ n ih => intro h x2 x3 x4 x5 x6 x7 hf; exact tX8_week_B41 N (fX8_week_L41 N n) ih h x2 x3 x4 x5 x6 x7 B hf
def fX8_week (N : Nat) (h : pH) (x1 : Int32) (x2 : Int32) (x3 : Int32) : Option (Int32 × pH) :=
  (fX8_within N h x2 1 99).bind fun z1 => (if z1.1 = 0 then (fX8_week_b19 N z1.2) else ((fX8_within N z1.2 x3 0 1).bind fun z2 => (if z2.1 = 0 then (fX8_week_b19 N z2.2) else ((fX8_freshen N z2.2).bind fun z3 => ((fX8_gapBehindAll N z3.2).bind fun z4 => (fX8_week_L41 N N z4.2 x2 x3 z4.1 0 x1 0))))))
set_option maxRecDepth 100000 in
set_option maxHeartbeats 4000000 in
theorem tX8_week {X : Xt} {v : Int32} {h' : pH} (N : Nat) (h : pH) (x1 : Int32) (x2 : Int32) (x3 : Int32) (B : Bd (lo X) (qo X) cX8_week RX8 9 (some .int) 4 96 (some (.int v)) h' X) (hf : fX8_week N h x1 x2 x3 = some (v, h')) : Wx X 9 0 [(0, rf (qo X) 1), (1, .int x1), (2, .int x2), (3, .int x3)] [] h := by
  have C := B.1
  unfold fX8_week at hf
  refine x_iload_n (i := 2) 2 C dX8_week_0 rfl rfl ?_
  refine x_iconst (v := 1) C dX8_week_1 (by decide) ?_
  refine x_bipush (v := 99) C dX8_week_2 (by decide) ?_
  obtain ⟨z1, e1, hf⟩ := bnd hf
  refine x_callS (As := [.int x2, .int 1, .int 99]) (rest := []) C dX8_week_4 kmX8_91 miX8_within (ctX8_within (lo X) (qo X) N h x2 1 99 z1.1 z1.2 e1) rfl rfl ⟨Nat.le_trans (by decide) B.2.2.2.1, Nat.le_trans (by decide) B.2.2.2.2.1⟩ (by simp [cat_i, cat_l, rf_cat]) ?_
  refine x_if_eq (tgt := 19) C dX8_week_7 (by decide) (fun c => ?_) (fun c => ?_)
  · rw [if_pos c] at hf
    refine x_lv [] rfl ?_
    exact tX8_week_b19 N z1.2 B hf
  · rw [if_neg c] at hf
    refine x_iload_n (i := 3) 3 C dX8_week_10 rfl rfl ?_
    refine x_iconst (v := 0) C dX8_week_11 (by decide) ?_
    refine x_iconst (v := 1) C dX8_week_12 (by decide) ?_
    obtain ⟨z2, e2, hf⟩ := bnd hf
    refine x_callS (As := [.int x3, .int 0, .int 1]) (rest := []) C dX8_week_13 kmX8_91 miX8_within (ctX8_within (lo X) (qo X) N z1.2 x3 0 1 z2.1 z2.2 e2) rfl rfl ⟨Nat.le_trans (by decide) B.2.2.2.1, Nat.le_trans (by decide) B.2.2.2.2.1⟩ (by simp [cat_i, cat_l, rf_cat]) ?_
    refine x_if_ne (tgt := 22) C dX8_week_16 (by decide) (fun c => ?_) (fun c => ?_)
    · rw [if_neg c] at hf
      refine x_aload_n (i := 0) 0 C dX8_week_22 rfl rfl ?_
      obtain ⟨z3, e3, hf⟩ := bnd hf
      refine x_callV (r := 1) (As := []) (rest := []) C dX8_week_23 kmX8_110 miX8_freshen (ctX8_freshen (lo X) (qo X) N z2.2 z3.1 z3.2 e3) rfl rfl ⟨Nat.le_trans (by decide) B.2.2.2.1, Nat.le_trans (by decide) B.2.2.2.2.1⟩ (by simp [cat_i, cat_l, rf_cat]) rfl ?_
      refine x_aload_n (i := 0) 0 C dX8_week_26 rfl rfl ?_
      obtain ⟨z4, e4, hf⟩ := bnd hf
      refine x_callV (r := 1) (As := []) (rest := []) C dX8_week_27 kmX8_189 miX8_gapBehindAll (ctX8_gapBehindAll (lo X) (qo X) N z3.2 z4.1 z4.2 e4) rfl rfl ⟨Nat.le_trans (by decide) B.2.2.2.1, Nat.le_trans (by decide) B.2.2.2.2.1⟩ (by simp [cat_i, cat_l, rf_cat]) rfl ?_
      refine x_istore (lv' := [(4, .int z4.1), (0, rf (qo X) 1), (1, .int x1), (2, .int x2), (3, .int x3)]) C dX8_week_30 (by decide) rfl ?_
      refine x_iconst (v := 0) C dX8_week_32 (by decide) ?_
      refine x_istore (lv' := [(5, .int 0), (4, .int z4.1), (0, rf (qo X) 1), (1, .int x1), (2, .int x2), (3, .int x3)]) C dX8_week_33 (by decide) rfl ?_
      refine x_iload_n (i := 1) 3 C dX8_week_35 rfl rfl ?_
      refine x_istore (lv' := [(6, .int x1), (5, .int 0), (4, .int z4.1), (0, rf (qo X) 1), (1, .int x1), (2, .int x2), (3, .int x3)]) C dX8_week_36 (by decide) rfl ?_
      refine x_iconst (v := 0) C dX8_week_38 (by decide) ?_
      refine x_istore (lv' := [(7, .int 0), (6, .int x1), (5, .int 0), (4, .int z4.1), (0, rf (qo X) 1), (1, .int x1), (2, .int x2), (3, .int x3)]) C dX8_week_39 (by decide) rfl ?_
      refine x_lv [4, 6, 7, 3, 2, 1, 0] rfl ?_
      exact tX8_week_L41 N  B N z4.2 x2 x3 z4.1 0 x1 0 hf
    · rw [if_pos c] at hf
      refine x_lv [] rfl ?_
      exact tX8_week_b19 N z2.2 B hf
theorem ctX8_week (l : Launch) (q : Nat → Nat) (N : Nat) (h : pH) (x1 : Int32) (x2 : Int32) (x3 : Int32) (v : Int32) (h' : pH) (hf : fX8_week N h x1 x2 x3 = some (v, h')) : Ctr l q yX8_week cX8_week 9 (some .int) 4 96 [rf q 1, .int x1, .int x2, .int x3] h h' (some (.int v)) := by
  refine ct_of (own := RX8) (lv := [(0, rf q 1), (1, .int x1), (2, .int x2), (3, .int x3)]) (by decide +kernel) rfl (by simp [lg_sl, rf_cat, cat_i, cat_l]) (by first | rfl | simp [lv_args, rf_cat, cat_i, cat_l]) ?_
  intro X B
  obtain rfl := B.2.1
  obtain rfl := B.2.2.1
  exact tX8_week N h x1 x2 x3 B hf
def fX8_sheet_b27 (N : Nat) (h : pH)  : Option (Int32 × pH) :=
  some ((-2), h)
set_option maxRecDepth 100000 in
set_option maxHeartbeats 4000000 in
theorem tX8_sheet_b27 {X : Xt} {v : Int32} {h' : pH} (N : Nat) (h : pH)  (B : Bd (lo X) (qo X) cX8_sheet RX8 5 (some .int) 2 44 (some (.int v)) h' X) (hf : fX8_sheet_b27 N h  = some (v, h')) : Wx X 5 27 [] [] h := by
  have C := B.1
  unfold fX8_sheet_b27 at hf
  refine x_bipush (v := (-2)) C dX8_sheet_27 (by decide) ?_
  obtain ⟨rfl, rfl⟩ := rtn hf
  exact B.2.2.2.2.2.1 _ _ rfl rfl rfl _ _ dX8_sheet_29
def fX8_sheet (N : Nat) (h : pH) (x1 : Int32) (x2 : Int32) (x3 : Int32) : Option (Int32 × pH) :=
  (fX8_sheetAt N h x1).bind fun z1 => (if z1.1 = 0 then (fX8_sheet_b27 N z1.2) else ((fX8_within N z1.2 x2 0 2).bind fun z2 => (if z2.1 = 0 then (fX8_sheet_b27 N z2.2) else (if x3 ≤ 60 then (if 0 ≤ x3 then (if isO 5 z1.1 = true then ((fX5_renew N z2.2 z1.1 x2 x3).bind fun z3 => (some (x3, z3.2))) else none) else ((fX8_finding N z2.2 5).bind fun z4 => (some (z4.1, z4.2)))) else (fX8_sheet_b27 N z2.2)))))
set_option maxRecDepth 100000 in
set_option maxHeartbeats 4000000 in
theorem tX8_sheet {X : Xt} {v : Int32} {h' : pH} (N : Nat) (h : pH) (x1 : Int32) (x2 : Int32) (x3 : Int32) (B : Bd (lo X) (qo X) cX8_sheet RX8 5 (some .int) 2 44 (some (.int v)) h' X) (hf : fX8_sheet N h x1 x2 x3 = some (v, h')) : Wx X 5 0 [(0, rf (qo X) 1), (1, .int x1), (2, .int x2), (3, .int x3)] [] h := by
  have C := B.1
  unfold fX8_sheet at hf
  refine x_aload_n (i := 0) 0 C dX8_sheet_0 rfl rfl ?_
  refine x_iload_n (i := 1) 1 C dX8_sheet_1 rfl rfl ?_
  obtain ⟨z1, e1, hf⟩ := bnd hf
  refine x_callV (r := 1) (As := [.int x1]) (rest := []) C dX8_sheet_2 kmX8_208 miX8_sheetAt (ctX8_sheetAt (lo X) (qo X) N h x1 z1.1 z1.2 e1) rfl rfl ⟨Nat.le_trans (by decide) B.2.2.2.1, Nat.le_trans (by decide) B.2.2.2.2.1⟩ (by simp [cat_i, cat_l, rf_cat]) rfl ?_
  refine x_astore (lv' := [(4, rf (qo X) z1.1), (0, rf (qo X) 1), (1, .int x1), (2, .int x2), (3, .int x3)]) C dX8_sheet_5 (by decide) rfl ?_
  refine x_aload 0 C dX8_sheet_7 rfl ?_
  refine x_ifnull (tgt := 27) C dX8_sheet_9 (by decide) (fun c => ?_) (fun c => ?_)
  · rw [if_pos c] at hf
    refine x_lv [] rfl ?_
    exact tX8_sheet_b27 N z1.2 B hf
  · rw [if_neg c] at hf
    refine x_iload_n (i := 2) 3 C dX8_sheet_12 rfl rfl ?_
    refine x_iconst (v := 0) C dX8_sheet_13 (by decide) ?_
    refine x_iconst (v := 2) C dX8_sheet_14 (by decide) ?_
    obtain ⟨z2, e2, hf⟩ := bnd hf
    refine x_callS (As := [.int x2, .int 0, .int 2]) (rest := []) C dX8_sheet_15 kmX8_91 miX8_within (ctX8_within (lo X) (qo X) N z1.2 x2 0 2 z2.1 z2.2 e2) rfl rfl ⟨Nat.le_trans (by decide) B.2.2.2.1, Nat.le_trans (by decide) B.2.2.2.2.1⟩ (by simp [cat_i, cat_l, rf_cat]) ?_
    refine x_if_eq (tgt := 27) C dX8_sheet_18 (by decide) (fun c => ?_) (fun c => ?_)
    · rw [if_pos c] at hf
      refine x_lv [] rfl ?_
      exact tX8_sheet_b27 N z2.2 B hf
    · rw [if_neg c] at hf
      refine x_iload_n (i := 3) 4 C dX8_sheet_21 rfl rfl ?_
      refine x_bipush (v := 60) C dX8_sheet_22 (by decide) ?_
      refine x_icmp_le (tgt := 30) C dX8_sheet_24 (by decide) (fun c => ?_) (fun c => ?_)
      · rw [if_pos c] at hf
        refine x_iload_n (i := 3) 4 C dX8_sheet_30 rfl rfl ?_
        refine x_if_ge (tgt := 40) C dX8_sheet_31 (by decide) (fun c => ?_) (fun c => ?_)
        · rw [if_pos c] at hf
          refine x_aload 0 C dX8_sheet_40 rfl ?_
          refine x_iload_n (i := 2) 3 C dX8_sheet_42 rfl rfl ?_
          refine x_iload_n (i := 3) 4 C dX8_sheet_43 rfl rfl ?_
          obtain ⟨g1, hf⟩ := ife hf
          obtain ⟨z3, e3, hf⟩ := bnd hf
          refine x_callV (r := z1.1) (As := [.int x2, .int x3]) (rest := []) C dX8_sheet_44 kmX8_241 miX5_renew (ctX5_renew (lo X) (qo X) N z2.2 z1.1 x2 x3 z3.1 z3.2 e3) rfl rfl ⟨Nat.le_trans (by decide) B.2.2.2.1, Nat.le_trans (by decide) B.2.2.2.2.1⟩ (by simp [cat_i, cat_l, rf_cat]) g1 ?_
          refine x_iload_n (i := 3) 4 C dX8_sheet_47 rfl rfl ?_
          obtain ⟨rfl, rfl⟩ := rtn hf
          exact B.2.2.2.2.2.1 _ _ rfl rfl rfl _ _ dX8_sheet_48
        · rw [if_neg c] at hf
          refine x_aload_n (i := 0) 1 C dX8_sheet_34 rfl rfl ?_
          refine x_iconst (v := 5) C dX8_sheet_35 (by decide) ?_
          obtain ⟨z4, e4, hf⟩ := bnd hf
          refine x_callV (r := 1) (As := [.int 5]) (rest := []) C dX8_sheet_36 kmX8_215 miX8_finding (ctX8_finding (lo X) (qo X) N z2.2 5 z4.1 z4.2 e4) rfl rfl ⟨Nat.le_trans (by decide) B.2.2.2.1, Nat.le_trans (by decide) B.2.2.2.2.1⟩ (by simp [cat_i, cat_l, rf_cat]) rfl ?_
          obtain ⟨rfl, rfl⟩ := rtn hf
          exact B.2.2.2.2.2.1 _ _ rfl rfl rfl _ _ dX8_sheet_39
      · rw [if_neg c] at hf
        refine x_lv [] rfl ?_
        exact tX8_sheet_b27 N z2.2 B hf
theorem ctX8_sheet (l : Launch) (q : Nat → Nat) (N : Nat) (h : pH) (x1 : Int32) (x2 : Int32) (x3 : Int32) (v : Int32) (h' : pH) (hf : fX8_sheet N h x1 x2 x3 = some (v, h')) : Ctr l q yX8_sheet cX8_sheet 5 (some .int) 2 44 [rf q 1, .int x1, .int x2, .int x3] h h' (some (.int v)) := by
  refine ct_of (own := RX8) (lv := [(0, rf q 1), (1, .int x1), (2, .int x2), (3, .int x3)]) (by decide +kernel) rfl (by simp [lg_sl, rf_cat, cat_i, cat_l]) (by first | rfl | simp [lv_args, rf_cat, cat_i, cat_l]) ?_
  intro X B
  obtain rfl := B.2.1
  obtain rfl := B.2.2.1
  exact tX8_sheet N h x1 x2 x3 B hf
def fX8_lose (N : Nat) (h : pH) (x1 : Int32) : Option (Int32 × pH) :=
  (fX8_sheetAt N h x1).bind fun z1 => (if z1.1 = 0 then (some ((-2), z1.2)) else (if fI 5 1 z1.1 = true then (if (z1.2.1 z1.1 1) = 0 then (if fI 5 1 z1.1 = true then (if fI 5 3 z1.1 = true then (some ((pw z1.2 z1.1 1 1).1 z1.1 3, (pw z1.2 z1.1 1 1))) else none) else none) else ((fX8_finding N z1.2 1).bind fun z2 => (some (z2.1, z2.2)))) else none))
set_option maxRecDepth 100000 in
set_option maxHeartbeats 4000000 in
theorem tX8_lose {X : Xt} {v : Int32} {h' : pH} (N : Nat) (h : pH) (x1 : Int32) (B : Bd (lo X) (qo X) cX8_lose RX8 3 (some .int) 2 43 (some (.int v)) h' X) (hf : fX8_lose N h x1 = some (v, h')) : Wx X 3 0 [(0, rf (qo X) 1), (1, .int x1)] [] h := by
  have C := B.1
  unfold fX8_lose at hf
  refine x_aload_n (i := 0) 0 C dX8_lose_0 rfl rfl ?_
  refine x_iload_n (i := 1) 1 C dX8_lose_1 rfl rfl ?_
  obtain ⟨z1, e1, hf⟩ := bnd hf
  refine x_callV (r := 1) (As := [.int x1]) (rest := []) C dX8_lose_2 kmX8_208 miX8_sheetAt (ctX8_sheetAt (lo X) (qo X) N h x1 z1.1 z1.2 e1) rfl rfl ⟨Nat.le_trans (by decide) B.2.2.2.1, Nat.le_trans (by decide) B.2.2.2.2.1⟩ (by simp [cat_i, cat_l, rf_cat]) rfl ?_
  refine x_astore_n (i := 2) (lv' := [(2, rf (qo X) z1.1), (0, rf (qo X) 1), (1, .int x1)]) C dX8_lose_5 rfl (by decide) rfl ?_
  refine x_aload_n (i := 2) 0 C dX8_lose_6 rfl rfl ?_
  refine x_ifnonnull (tgt := 13) C dX8_lose_7 (by decide) (fun c => ?_) (fun c => ?_)
  · rw [if_neg c] at hf
    refine x_aload_n (i := 2) 0 C dX8_lose_13 rfl rfl ?_
    obtain ⟨g1, hf⟩ := ife hf
    refine x_getI (r := z1.1) C dX8_lose_14 kfX8_212 g1 ?_
    refine x_if_eq (tgt := 26) C dX8_lose_17 (by decide) (fun c => ?_) (fun c => ?_)
    · rw [if_pos c] at hf
      refine x_aload_n (i := 2) 0 C dX8_lose_26 rfl rfl ?_
      refine x_iconst (v := 1) C dX8_lose_27 (by decide) ?_
      obtain ⟨g2, hf⟩ := ife hf
      refine x_putI (r := z1.1) C dX8_lose_28 kfX8_212 g2 rfl rfl ?_
      refine x_aload_n (i := 2) 0 C dX8_lose_31 rfl rfl ?_
      obtain ⟨g3, hf⟩ := ife hf
      refine x_getI (r := z1.1) C dX8_lose_32 kfX8_218 g3 ?_
      obtain ⟨rfl, rfl⟩ := rtn hf
      exact B.2.2.2.2.2.1 _ _ rfl rfl rfl _ _ dX8_lose_35
    · rw [if_neg c] at hf
      refine x_aload_n (i := 0) 1 C dX8_lose_20 rfl rfl ?_
      refine x_iconst (v := 1) C dX8_lose_21 (by decide) ?_
      obtain ⟨z2, e2, hf⟩ := bnd hf
      refine x_callV (r := 1) (As := [.int 1]) (rest := []) C dX8_lose_22 kmX8_215 miX8_finding (ctX8_finding (lo X) (qo X) N z1.2 1 z2.1 z2.2 e2) rfl rfl ⟨Nat.le_trans (by decide) B.2.2.2.1, Nat.le_trans (by decide) B.2.2.2.2.1⟩ (by simp [cat_i, cat_l, rf_cat]) rfl ?_
      obtain ⟨rfl, rfl⟩ := rtn hf
      exact B.2.2.2.2.2.1 _ _ rfl rfl rfl _ _ dX8_lose_25
  · rw [if_pos c] at hf
    refine x_bipush (v := (-2)) C dX8_lose_10 (by decide) ?_
    obtain ⟨rfl, rfl⟩ := rtn hf
    exact B.2.2.2.2.2.1 _ _ rfl rfl rfl _ _ dX8_lose_12
theorem ctX8_lose (l : Launch) (q : Nat → Nat) (N : Nat) (h : pH) (x1 : Int32) (v : Int32) (h' : pH) (hf : fX8_lose N h x1 = some (v, h')) : Ctr l q yX8_lose cX8_lose 3 (some .int) 2 43 [rf q 1, .int x1] h h' (some (.int v)) := by
  refine ct_of (own := RX8) (lv := [(0, rf q 1), (1, .int x1)]) (by decide +kernel) rfl (by simp [lg_sl, rf_cat, cat_i, cat_l]) (by first | rfl | simp [lv_args, rf_cat, cat_i, cat_l]) ?_
  intro X B
  obtain rfl := B.2.1
  obtain rfl := B.2.2.1
  exact tX8_lose N h x1 B hf
def fX8_lay_b21 (N : Nat) (h : pH)  : Option (Int32 × pH) :=
  some ((-2), h)
set_option maxRecDepth 100000 in
set_option maxHeartbeats 4000000 in
theorem tX8_lay_b21 {X : Xt} {v : Int32} {h' : pH} (N : Nat) (h : pH)  (B : Bd (lo X) (qo X) cX8_lay RX8 7 (some .int) 2 44 (some (.int v)) h' X) (hf : fX8_lay_b21 N h  = some (v, h')) : Wx X 7 21 [] [] h := by
  have C := B.1
  unfold fX8_lay_b21 at hf
  refine x_bipush (v := (-2)) C dX8_lay_21 (by decide) ?_
  obtain ⟨rfl, rfl⟩ := rtn hf
  exact B.2.2.2.2.2.1 _ _ rfl rfl rfl _ _ dX8_lay_23
def fX8_lay (N : Nat) (h : pH) (x1 : Int32) (x2 : Int32) (x3 : Int32) (x4 : Int32) : Option (Int32 × pH) :=
  (fX8_sheetAt N h x1).bind fun z1 => (if z1.1 = 0 then (fX8_lay_b21 N z1.2) else ((fX8_within N z1.2 x2 0 2).bind fun z2 => (if z2.1 = 0 then (fX8_lay_b21 N z2.2) else (if isO 5 z1.1 = true then ((fX5_findingAt N z2.2 z1.1 x2 x3).bind fun z3 => (if z3.1 = 0 then (if isO 5 z1.1 = true then ((fX5_put N z3.2 z1.1 x3 x4).bind fun z4 => (some (1, z4.2))) else none) else ((fX8_finding N z3.2 z3.1).bind fun z5 => (some (z5.1, z5.2))))) else none))))
set_option maxRecDepth 100000 in
set_option maxHeartbeats 4000000 in
theorem tX8_lay {X : Xt} {v : Int32} {h' : pH} (N : Nat) (h : pH) (x1 : Int32) (x2 : Int32) (x3 : Int32) (x4 : Int32) (B : Bd (lo X) (qo X) cX8_lay RX8 7 (some .int) 2 44 (some (.int v)) h' X) (hf : fX8_lay N h x1 x2 x3 x4 = some (v, h')) : Wx X 7 0 [(0, rf (qo X) 1), (1, .int x1), (2, .int x2), (3, .int x3), (4, .int x4)] [] h := by
  have C := B.1
  unfold fX8_lay at hf
  refine x_aload_n (i := 0) 0 C dX8_lay_0 rfl rfl ?_
  refine x_iload_n (i := 1) 1 C dX8_lay_1 rfl rfl ?_
  obtain ⟨z1, e1, hf⟩ := bnd hf
  refine x_callV (r := 1) (As := [.int x1]) (rest := []) C dX8_lay_2 kmX8_208 miX8_sheetAt (ctX8_sheetAt (lo X) (qo X) N h x1 z1.1 z1.2 e1) rfl rfl ⟨Nat.le_trans (by decide) B.2.2.2.1, Nat.le_trans (by decide) B.2.2.2.2.1⟩ (by simp [cat_i, cat_l, rf_cat]) rfl ?_
  refine x_astore (lv' := [(5, rf (qo X) z1.1), (0, rf (qo X) 1), (1, .int x1), (2, .int x2), (3, .int x3), (4, .int x4)]) C dX8_lay_5 (by decide) rfl ?_
  refine x_aload 0 C dX8_lay_7 rfl ?_
  refine x_ifnull (tgt := 21) C dX8_lay_9 (by decide) (fun c => ?_) (fun c => ?_)
  · rw [if_pos c] at hf
    refine x_lv [] rfl ?_
    exact tX8_lay_b21 N z1.2 B hf
  · rw [if_neg c] at hf
    refine x_iload_n (i := 2) 3 C dX8_lay_12 rfl rfl ?_
    refine x_iconst (v := 0) C dX8_lay_13 (by decide) ?_
    refine x_iconst (v := 2) C dX8_lay_14 (by decide) ?_
    obtain ⟨z2, e2, hf⟩ := bnd hf
    refine x_callS (As := [.int x2, .int 0, .int 2]) (rest := []) C dX8_lay_15 kmX8_91 miX8_within (ctX8_within (lo X) (qo X) N z1.2 x2 0 2 z2.1 z2.2 e2) rfl rfl ⟨Nat.le_trans (by decide) B.2.2.2.1, Nat.le_trans (by decide) B.2.2.2.2.1⟩ (by simp [cat_i, cat_l, rf_cat]) ?_
    refine x_if_ne (tgt := 24) C dX8_lay_18 (by decide) (fun c => ?_) (fun c => ?_)
    · rw [if_neg c] at hf
      refine x_aload 0 C dX8_lay_24 rfl ?_
      refine x_iload_n (i := 2) 3 C dX8_lay_26 rfl rfl ?_
      refine x_iload_n (i := 3) 4 C dX8_lay_27 rfl rfl ?_
      obtain ⟨g1, hf⟩ := ife hf
      obtain ⟨z3, e3, hf⟩ := bnd hf
      refine x_callV (r := z1.1) (As := [.int x2, .int x3]) (rest := []) C dX8_lay_28 kmX8_244 miX5_findingAt (ctX5_findingAt (lo X) (qo X) N z2.2 z1.1 x2 x3 z3.1 z3.2 e3) rfl rfl ⟨Nat.le_trans (by decide) B.2.2.2.1, Nat.le_trans (by decide) B.2.2.2.2.1⟩ (by simp [cat_i, cat_l, rf_cat]) g1 ?_
      refine x_istore (lv' := [(6, .int z3.1), (5, rf (qo X) z1.1), (0, rf (qo X) 1), (1, .int x1), (2, .int x2), (3, .int x3), (4, .int x4)]) C dX8_lay_31 (by decide) (by simp [List.filter, rf_cat]) ?_
      refine x_iload 0 C dX8_lay_33 rfl ?_
      refine x_if_eq (tgt := 45) C dX8_lay_35 (by decide) (fun c => ?_) (fun c => ?_)
      · rw [if_pos c] at hf
        refine x_aload 1 C dX8_lay_45 rfl ?_
        refine x_iload_n (i := 3) 5 C dX8_lay_47 rfl rfl ?_
        refine x_iload 6 C dX8_lay_48 rfl ?_
        obtain ⟨g2, hf⟩ := ife hf
        obtain ⟨z4, e4, hf⟩ := bnd hf
        refine x_callV (r := z1.1) (As := [.int x3, .int x4]) (rest := []) C dX8_lay_50 kmX8_248 miX5_put (ctX5_put (lo X) (qo X) N z3.2 z1.1 x3 x4 z4.1 z4.2 e4) rfl rfl ⟨Nat.le_trans (by decide) B.2.2.2.1, Nat.le_trans (by decide) B.2.2.2.2.1⟩ (by simp [cat_i, cat_l, rf_cat]) g2 ?_
        refine x_iconst (v := 1) C dX8_lay_53 (by decide) ?_
        obtain ⟨rfl, rfl⟩ := rtn hf
        exact B.2.2.2.2.2.1 _ _ rfl rfl rfl _ _ dX8_lay_54
      · rw [if_neg c] at hf
        refine x_aload_n (i := 0) 2 C dX8_lay_38 rfl rfl ?_
        refine x_iload 0 C dX8_lay_39 rfl ?_
        obtain ⟨z5, e5, hf⟩ := bnd hf
        refine x_callV (r := 1) (As := [.int z3.1]) (rest := []) C dX8_lay_41 kmX8_215 miX8_finding (ctX8_finding (lo X) (qo X) N z3.2 z3.1 z5.1 z5.2 e5) rfl rfl ⟨Nat.le_trans (by decide) B.2.2.2.1, Nat.le_trans (by decide) B.2.2.2.2.1⟩ (by simp [cat_i, cat_l, rf_cat]) rfl ?_
        obtain ⟨rfl, rfl⟩ := rtn hf
        exact B.2.2.2.2.2.1 _ _ rfl rfl rfl _ _ dX8_lay_44
    · rw [if_pos c] at hf
      refine x_lv [] rfl ?_
      exact tX8_lay_b21 N z2.2 B hf
theorem ctX8_lay (l : Launch) (q : Nat → Nat) (N : Nat) (h : pH) (x1 : Int32) (x2 : Int32) (x3 : Int32) (x4 : Int32) (v : Int32) (h' : pH) (hf : fX8_lay N h x1 x2 x3 x4 = some (v, h')) : Ctr l q yX8_lay cX8_lay 7 (some .int) 2 44 [rf q 1, .int x1, .int x2, .int x3, .int x4] h h' (some (.int v)) := by
  refine ct_of (own := RX8) (lv := [(0, rf q 1), (1, .int x1), (2, .int x2), (3, .int x3), (4, .int x4)]) (by decide +kernel) rfl (by simp [lg_sl, rf_cat, cat_i, cat_l]) (by first | rfl | simp [lv_args, rf_cat, cat_i, cat_l]) ?_
  intro X B
  obtain rfl := B.2.1
  obtain rfl := B.2.2.1
  exact tX8_lay N h x1 x2 x3 x4 B hf
def fX8_get_b21 (N : Nat) (h : pH)  : Option (Int32 × pH) :=
  some ((-2147483648), h)
set_option maxRecDepth 100000 in
set_option maxHeartbeats 4000000 in
theorem tX8_get_b21 {X : Xt} {v : Int32} {h' : pH} (N : Nat) (h : pH)  (B : Bd (lo X) (qo X) cX8_get RX8 6 (some .int) 2 44 (some (.int v)) h' X) (hf : fX8_get_b21 N h  = some (v, h')) : Wx X 6 21 [] [] h := by
  have C := B.1
  unfold fX8_get_b21 at hf
  refine x_ldc (v := (-2147483648)) C dX8_get_21 kkX8_251 ?_
  obtain ⟨rfl, rfl⟩ := rtn hf
  exact B.2.2.2.2.2.1 _ _ rfl rfl rfl _ _ dX8_get_23
def fX8_get (N : Nat) (h : pH) (x1 : Int32) (x2 : Int32) (x3 : Int32) : Option (Int32 × pH) :=
  (fX8_sheetAt N h x1).bind fun z1 => (if z1.1 = 0 then (fX8_get_b21 N z1.2) else ((fX8_within N z1.2 x2 0 2).bind fun z2 => (if z2.1 = 0 then (fX8_get_b21 N z2.2) else (if isO 5 z1.1 = true then ((fX5_findingAt N z2.2 z1.1 x2 x3).bind fun z3 => (if z3.1 = 0 then (if isO 5 z1.1 = true then ((fX5_itemAt N z3.2 z1.1 x3).bind fun z4 => (some (z4.1, z4.2))) else none) else ((fX8_finding N z3.2 z3.1).bind fun z5 => (some ((-2147483648), z5.2))))) else none))))
set_option maxRecDepth 100000 in
set_option maxHeartbeats 4000000 in
theorem tX8_get {X : Xt} {v : Int32} {h' : pH} (N : Nat) (h : pH) (x1 : Int32) (x2 : Int32) (x3 : Int32) (B : Bd (lo X) (qo X) cX8_get RX8 6 (some .int) 2 44 (some (.int v)) h' X) (hf : fX8_get N h x1 x2 x3 = some (v, h')) : Wx X 6 0 [(0, rf (qo X) 1), (1, .int x1), (2, .int x2), (3, .int x3)] [] h := by
  have C := B.1
  unfold fX8_get at hf
  refine x_aload_n (i := 0) 0 C dX8_get_0 rfl rfl ?_
  refine x_iload_n (i := 1) 1 C dX8_get_1 rfl rfl ?_
  obtain ⟨z1, e1, hf⟩ := bnd hf
  refine x_callV (r := 1) (As := [.int x1]) (rest := []) C dX8_get_2 kmX8_208 miX8_sheetAt (ctX8_sheetAt (lo X) (qo X) N h x1 z1.1 z1.2 e1) rfl rfl ⟨Nat.le_trans (by decide) B.2.2.2.1, Nat.le_trans (by decide) B.2.2.2.2.1⟩ (by simp [cat_i, cat_l, rf_cat]) rfl ?_
  refine x_astore (lv' := [(4, rf (qo X) z1.1), (0, rf (qo X) 1), (1, .int x1), (2, .int x2), (3, .int x3)]) C dX8_get_5 (by decide) rfl ?_
  refine x_aload 0 C dX8_get_7 rfl ?_
  refine x_ifnull (tgt := 21) C dX8_get_9 (by decide) (fun c => ?_) (fun c => ?_)
  · rw [if_pos c] at hf
    refine x_lv [] rfl ?_
    exact tX8_get_b21 N z1.2 B hf
  · rw [if_neg c] at hf
    refine x_iload_n (i := 2) 3 C dX8_get_12 rfl rfl ?_
    refine x_iconst (v := 0) C dX8_get_13 (by decide) ?_
    refine x_iconst (v := 2) C dX8_get_14 (by decide) ?_
    obtain ⟨z2, e2, hf⟩ := bnd hf
    refine x_callS (As := [.int x2, .int 0, .int 2]) (rest := []) C dX8_get_15 kmX8_91 miX8_within (ctX8_within (lo X) (qo X) N z1.2 x2 0 2 z2.1 z2.2 e2) rfl rfl ⟨Nat.le_trans (by decide) B.2.2.2.1, Nat.le_trans (by decide) B.2.2.2.2.1⟩ (by simp [cat_i, cat_l, rf_cat]) ?_
    refine x_if_ne (tgt := 24) C dX8_get_18 (by decide) (fun c => ?_) (fun c => ?_)
    · rw [if_neg c] at hf
      refine x_aload 0 C dX8_get_24 rfl ?_
      refine x_iload_n (i := 2) 3 C dX8_get_26 rfl rfl ?_
      refine x_iload_n (i := 3) 4 C dX8_get_27 rfl rfl ?_
      obtain ⟨g1, hf⟩ := ife hf
      obtain ⟨z3, e3, hf⟩ := bnd hf
      refine x_callV (r := z1.1) (As := [.int x2, .int x3]) (rest := []) C dX8_get_28 kmX8_244 miX5_findingAt (ctX5_findingAt (lo X) (qo X) N z2.2 z1.1 x2 x3 z3.1 z3.2 e3) rfl rfl ⟨Nat.le_trans (by decide) B.2.2.2.1, Nat.le_trans (by decide) B.2.2.2.2.1⟩ (by simp [cat_i, cat_l, rf_cat]) g1 ?_
      refine x_istore (lv' := [(5, .int z3.1), (4, rf (qo X) z1.1), (0, rf (qo X) 1), (1, .int x1), (2, .int x2), (3, .int x3)]) C dX8_get_31 (by decide) (by simp [List.filter, rf_cat]) ?_
      refine x_iload 0 C dX8_get_33 rfl ?_
      refine x_if_eq (tgt := 48) C dX8_get_35 (by decide) (fun c => ?_) (fun c => ?_)
      · rw [if_pos c] at hf
        refine x_aload 1 C dX8_get_48 rfl ?_
        refine x_iload_n (i := 3) 5 C dX8_get_50 rfl rfl ?_
        obtain ⟨g2, hf⟩ := ife hf
        obtain ⟨z4, e4, hf⟩ := bnd hf
        refine x_callV (r := z1.1) (As := [.int x3]) (rest := []) C dX8_get_51 kmX8_219 miX5_itemAt (ctX5_itemAt (lo X) (qo X) N z3.2 z1.1 x3 z4.1 z4.2 e4) rfl rfl ⟨Nat.le_trans (by decide) B.2.2.2.1, Nat.le_trans (by decide) B.2.2.2.2.1⟩ (by simp [cat_i, cat_l, rf_cat]) g2 ?_
        obtain ⟨rfl, rfl⟩ := rtn hf
        exact B.2.2.2.2.2.1 _ _ rfl rfl rfl _ _ dX8_get_54
      · rw [if_neg c] at hf
        refine x_aload_n (i := 0) 2 C dX8_get_38 rfl rfl ?_
        refine x_iload 0 C dX8_get_39 rfl ?_
        obtain ⟨z5, e5, hf⟩ := bnd hf
        refine x_callV (r := 1) (As := [.int z3.1]) (rest := []) C dX8_get_41 kmX8_215 miX8_finding (ctX8_finding (lo X) (qo X) N z3.2 z3.1 z5.1 z5.2 e5) rfl rfl ⟨Nat.le_trans (by decide) B.2.2.2.1, Nat.le_trans (by decide) B.2.2.2.2.1⟩ (by simp [cat_i, cat_l, rf_cat]) rfl ?_
        refine x_popI C dX8_get_44 ?_
        refine x_ldc (v := (-2147483648)) C dX8_get_45 kkX8_251 ?_
        obtain ⟨rfl, rfl⟩ := rtn hf
        exact B.2.2.2.2.2.1 _ _ rfl rfl rfl _ _ dX8_get_47
    · rw [if_pos c] at hf
      refine x_lv [] rfl ?_
      exact tX8_get_b21 N z2.2 B hf
theorem ctX8_get (l : Launch) (q : Nat → Nat) (N : Nat) (h : pH) (x1 : Int32) (x2 : Int32) (x3 : Int32) (v : Int32) (h' : pH) (hf : fX8_get N h x1 x2 x3 = some (v, h')) : Ctr l q yX8_get cX8_get 6 (some .int) 2 44 [rf q 1, .int x1, .int x2, .int x3] h h' (some (.int v)) := by
  refine ct_of (own := RX8) (lv := [(0, rf q 1), (1, .int x1), (2, .int x2), (3, .int x3)]) (by decide +kernel) rfl (by simp [lg_sl, rf_cat, cat_i, cat_l]) (by first | rfl | simp [lv_args, rf_cat, cat_i, cat_l]) ?_
  intro X B
  obtain rfl := B.2.1
  obtain rfl := B.2.2.1
  exact tX8_get N h x1 x2 x3 B hf
def fX8_copy_b24 (N : Nat) (h : pH)  : Option (Int32 × pH) :=
  some ((-2), h)
set_option maxRecDepth 100000 in
set_option maxHeartbeats 4000000 in
theorem tX8_copy_b24 {X : Xt} {v : Int32} {h' : pH} (N : Nat) (h : pH)  (B : Bd (lo X) (qo X) cX8_copy RX8 8 (some .int) 2 43 (some (.int v)) h' X) (hf : fX8_copy_b24 N h  = some (v, h')) : Wx X 8 24 [] [] h := by
  have C := B.1
  unfold fX8_copy_b24 at hf
  refine x_bipush (v := (-2)) C dX8_copy_24 (by decide) ?_
  obtain ⟨rfl, rfl⟩ := rtn hf
  exact B.2.2.2.2.2.1 _ _ rfl rfl rfl _ _ dX8_copy_26
def fX8_copy_b43 (N : Nat) (h : pH)  : Option (Int32 × pH) :=
  (fX8_finding N h 1).bind fun z1 => (some (z1.1, z1.2))
set_option maxRecDepth 100000 in
set_option maxHeartbeats 4000000 in
theorem tX8_copy_b43 {X : Xt} {v : Int32} {h' : pH} (N : Nat) (h : pH)  (B : Bd (lo X) (qo X) cX8_copy RX8 8 (some .int) 2 43 (some (.int v)) h' X) (hf : fX8_copy_b43 N h  = some (v, h')) : Wx X 8 43 [(0, rf (qo X) 1)] [] h := by
  have C := B.1
  unfold fX8_copy_b43 at hf
  refine x_aload_n (i := 0) 0 C dX8_copy_43 rfl rfl ?_
  refine x_iconst (v := 1) C dX8_copy_44 (by decide) ?_
  obtain ⟨z1, e1, hf⟩ := bnd hf
  refine x_callV (r := 1) (As := [.int 1]) (rest := []) C dX8_copy_45 kmX8_215 miX8_finding (ctX8_finding (lo X) (qo X) N h 1 z1.1 z1.2 e1) rfl rfl ⟨Nat.le_trans (by decide) B.2.2.2.1, Nat.le_trans (by decide) B.2.2.2.2.1⟩ (by simp [cat_i, cat_l, rf_cat]) rfl ?_
  obtain ⟨rfl, rfl⟩ := rtn hf
  exact B.2.2.2.2.2.1 _ _ rfl rfl rfl _ _ dX8_copy_48
def fX8_copy_b91 (N : Nat) (h : pH)  : Option (Int32 × pH) :=
  (fX8_finding N h 2).bind fun z1 => (some (z1.1, z1.2))
set_option maxRecDepth 100000 in
set_option maxHeartbeats 4000000 in
theorem tX8_copy_b91 {X : Xt} {v : Int32} {h' : pH} (N : Nat) (h : pH)  (B : Bd (lo X) (qo X) cX8_copy RX8 8 (some .int) 2 43 (some (.int v)) h' X) (hf : fX8_copy_b91 N h  = some (v, h')) : Wx X 8 91 [(0, rf (qo X) 1)] [] h := by
  have C := B.1
  unfold fX8_copy_b91 at hf
  refine x_aload_n (i := 0) 0 C dX8_copy_91 rfl rfl ?_
  refine x_iconst (v := 2) C dX8_copy_92 (by decide) ?_
  obtain ⟨z1, e1, hf⟩ := bnd hf
  refine x_callV (r := 1) (As := [.int 2]) (rest := []) C dX8_copy_93 kmX8_215 miX8_finding (ctX8_finding (lo X) (qo X) N h 2 z1.1 z1.2 e1) rfl rfl ⟨Nat.le_trans (by decide) B.2.2.2.1, Nat.le_trans (by decide) B.2.2.2.2.1⟩ (by simp [cat_i, cat_l, rf_cat]) rfl ?_
  obtain ⟨rfl, rfl⟩ := rtn hf
  exact B.2.2.2.2.2.1 _ _ rfl rfl rfl _ _ dX8_copy_96
def fX8_copy (N : Nat) (h : pH) (x1 : Int32) (x2 : Int32) (x3 : Int32) (x4 : Int32) (x5 : Int32) : Option (Int32 × pH) :=
  (fX8_sheetAt N h x1).bind fun z1 => ((fX8_sheetAt N z1.2 x3).bind fun z2 => (if z1.1 = 0 then (fX8_copy_b24 N z2.2) else (if z2.1 = 0 then (fX8_copy_b24 N z2.2) else (if fI 5 1 z1.1 = true then (if (z2.2.1 z1.1 1) = 0 then (if fI 5 1 z2.1 = true then (if (z2.2.1 z2.1 1) = 0 then (if fI 5 2 z1.1 = true then (if fI 5 2 z2.1 = true then (if (z2.2.1 z1.1 2) = (z2.2.1 z2.1 2) then (if isO 5 z1.1 = true then ((fX5_hasItems N z2.2 z1.1 x2 x5).bind fun z3 => (if z3.1 = 0 then (fX8_copy_b91 N z3.2) else (if isO 5 z2.1 = true then ((fX5_hasItems N z3.2 z2.1 x4 x5).bind fun z4 => (if z4.1 = 0 then (fX8_copy_b91 N z4.2) else (if isO 5 z1.1 = true ∧ ¬ fR z1.1 0 = 0 then (if isO 5 z2.1 = true ∧ ¬ fR z2.1 0 = 0 then (if aK (fR z1.1 0) = 0 ∧ aK (fR z2.1 0) = 0 ∧ ¬ x2 < 0 ∧ ¬ x4 < 0 ∧ ¬ x5 < 0 ∧ x2.toNatClampNeg + x5.toNatClampNeg ≤ (aN (fR z1.1 0)) ∧ x4.toNatClampNeg + x5.toNatClampNeg ≤ (aN (fR z2.1 0)) then (some (1, (pcI z4.2 (fR z1.1 0) (fR z2.1 0) x2.toNatClampNeg x4.toNatClampNeg x5.toNatClampNeg))) else none) else none) else none))) else none))) else none) else ((fX8_finding N z2.2 4).bind fun z5 => (some (z5.1, z5.2)))) else none) else none) else (fX8_copy_b43 N z2.2)) else none) else (fX8_copy_b43 N z2.2)) else none))))
set_option maxRecDepth 100000 in
set_option maxHeartbeats 4000000 in
theorem tX8_copy {X : Xt} {v : Int32} {h' : pH} (N : Nat) (h : pH) (x1 : Int32) (x2 : Int32) (x3 : Int32) (x4 : Int32) (x5 : Int32) (B : Bd (lo X) (qo X) cX8_copy RX8 8 (some .int) 2 43 (some (.int v)) h' X) (hf : fX8_copy N h x1 x2 x3 x4 x5 = some (v, h')) : Wx X 8 0 [(0, rf (qo X) 1), (1, .int x1), (2, .int x2), (3, .int x3), (4, .int x4), (5, .int x5)] [] h := by
  have C := B.1
  unfold fX8_copy at hf
  refine x_aload_n (i := 0) 0 C dX8_copy_0 rfl rfl ?_
  refine x_iload_n (i := 1) 1 C dX8_copy_1 rfl rfl ?_
  obtain ⟨z1, e1, hf⟩ := bnd hf
  refine x_callV (r := 1) (As := [.int x1]) (rest := []) C dX8_copy_2 kmX8_208 miX8_sheetAt (ctX8_sheetAt (lo X) (qo X) N h x1 z1.1 z1.2 e1) rfl rfl ⟨Nat.le_trans (by decide) B.2.2.2.1, Nat.le_trans (by decide) B.2.2.2.2.1⟩ (by simp [cat_i, cat_l, rf_cat]) rfl ?_
  refine x_astore (lv' := [(6, rf (qo X) z1.1), (0, rf (qo X) 1), (1, .int x1), (2, .int x2), (3, .int x3), (4, .int x4), (5, .int x5)]) C dX8_copy_5 (by decide) rfl ?_
  refine x_aload_n (i := 0) 1 C dX8_copy_7 rfl rfl ?_
  refine x_iload_n (i := 3) 4 C dX8_copy_8 rfl rfl ?_
  obtain ⟨z2, e2, hf⟩ := bnd hf
  refine x_callV (r := 1) (As := [.int x3]) (rest := []) C dX8_copy_9 kmX8_208 miX8_sheetAt (ctX8_sheetAt (lo X) (qo X) N z1.2 x3 z2.1 z2.2 e2) rfl rfl ⟨Nat.le_trans (by decide) B.2.2.2.1, Nat.le_trans (by decide) B.2.2.2.2.1⟩ (by simp [cat_i, cat_l, rf_cat]) rfl ?_
  refine x_astore (lv' := [(7, rf (qo X) z2.1), (6, rf (qo X) z1.1), (0, rf (qo X) 1), (1, .int x1), (2, .int x2), (3, .int x3), (4, .int x4), (5, .int x5)]) C dX8_copy_12 (by decide) (by simp [List.filter, rf_cat]) ?_
  refine x_aload 1 C dX8_copy_14 rfl ?_
  refine x_ifnull (tgt := 24) C dX8_copy_16 (by decide) (fun c => ?_) (fun c => ?_)
  · rw [if_pos c] at hf
    refine x_lv [] rfl ?_
    exact tX8_copy_b24 N z2.2 B hf
  · rw [if_neg c] at hf
    refine x_aload 0 C dX8_copy_19 rfl ?_
    refine x_ifnonnull (tgt := 27) C dX8_copy_21 (by decide) (fun c => ?_) (fun c => ?_)
    · rw [if_neg c] at hf
      refine x_aload 1 C dX8_copy_27 rfl ?_
      obtain ⟨g1, hf⟩ := ife hf
      refine x_getI (r := z1.1) C dX8_copy_29 kfX8_212 g1 ?_
      refine x_if_ne (tgt := 43) C dX8_copy_32 (by decide) (fun c => ?_) (fun c => ?_)
      · rw [if_neg c] at hf
        refine x_lv [2] rfl ?_
        exact tX8_copy_b43 N z2.2 B hf
      · rw [if_pos c] at hf
        refine x_aload 0 C dX8_copy_35 rfl ?_
        obtain ⟨g2, hf⟩ := ife hf
        refine x_getI (r := z2.1) C dX8_copy_37 kfX8_212 g2 ?_
        refine x_if_eq (tgt := 49) C dX8_copy_40 (by decide) (fun c => ?_) (fun c => ?_)
        · rw [if_pos c] at hf
          refine x_aload 1 C dX8_copy_49 rfl ?_
          obtain ⟨g3, hf⟩ := ife hf
          refine x_getI (r := z1.1) C dX8_copy_51 kfX8_252 g3 ?_
          refine x_aload 0 C dX8_copy_54 rfl ?_
          obtain ⟨g4, hf⟩ := ife hf
          refine x_getI (r := z2.1) C dX8_copy_56 kfX8_252 g4 ?_
          refine x_icmp_eq (tgt := 68) C dX8_copy_59 (by decide) (fun c => ?_) (fun c => ?_)
          · rw [if_pos c] at hf
            refine x_aload 1 C dX8_copy_68 rfl ?_
            refine x_iload_n (i := 2) 4 C dX8_copy_70 rfl rfl ?_
            refine x_iload 7 C dX8_copy_71 rfl ?_
            obtain ⟨g5, hf⟩ := ife hf
            obtain ⟨z3, e3, hf⟩ := bnd hf
            refine x_callV (r := z1.1) (As := [.int x2, .int x5]) (rest := []) C dX8_copy_73 kmX8_255 miX5_hasItems (ctX5_hasItems (lo X) (qo X) N z2.2 z1.1 x2 x5 z3.1 z3.2 e3) rfl rfl ⟨Nat.le_trans (by decide) B.2.2.2.1, Nat.le_trans (by decide) B.2.2.2.2.1⟩ (by simp [cat_i, cat_l, rf_cat]) g5 ?_
            refine x_if_eq (tgt := 91) C dX8_copy_76 (by decide) (fun c => ?_) (fun c => ?_)
            · rw [if_pos c] at hf
              refine x_lv [2] rfl ?_
              exact tX8_copy_b91 N z3.2 B hf
            · rw [if_neg c] at hf
              refine x_aload 0 C dX8_copy_79 rfl ?_
              refine x_iload 6 C dX8_copy_81 rfl ?_
              refine x_iload 7 C dX8_copy_83 rfl ?_
              obtain ⟨g6, hf⟩ := ife hf
              obtain ⟨z4, e4, hf⟩ := bnd hf
              refine x_callV (r := z2.1) (As := [.int x4, .int x5]) (rest := []) C dX8_copy_85 kmX8_255 miX5_hasItems (ctX5_hasItems (lo X) (qo X) N z3.2 z2.1 x4 x5 z4.1 z4.2 e4) rfl rfl ⟨Nat.le_trans (by decide) B.2.2.2.1, Nat.le_trans (by decide) B.2.2.2.2.1⟩ (by simp [cat_i, cat_l, rf_cat]) g6 ?_
              refine x_if_ne (tgt := 97) C dX8_copy_88 (by decide) (fun c => ?_) (fun c => ?_)
              · rw [if_neg c] at hf
                refine x_aload 1 C dX8_copy_97 rfl ?_
                obtain ⟨g7, hf⟩ := ife hf
                refine x_getR (r := z1.1) C dX8_copy_99 kfX8_258 g7.1 rfl g7.2 ?_
                refine x_iload_n (i := 2) 4 C dX8_copy_102 rfl rfl ?_
                refine x_aload 0 C dX8_copy_103 rfl ?_
                obtain ⟨g8, hf⟩ := ife hf
                refine x_getR (r := z2.1) C dX8_copy_105 kfX8_258 g8.1 rfl g8.2 ?_
                refine x_iload 6 C dX8_copy_108 rfl ?_
                refine x_iload 7 C dX8_copy_110 rfl ?_
                obtain ⟨g9, hf⟩ := ife hf
                refine x_copyi (r1 := (fR z1.1 0)) (r2 := (fR z2.1 0)) C dX8_copy_112 kcX8_222 kna kns kni g9.1 g9.2.1 g9.2.2 ⟨Nat.le_trans (by decide) B.2.2.2.1, Nat.le_trans (by decide) B.2.2.2.2.1⟩ ?_
                refine x_iconst (v := 1) C dX8_copy_115 (by decide) ?_
                obtain ⟨rfl, rfl⟩ := rtn hf
                exact B.2.2.2.2.2.1 _ _ rfl rfl rfl _ _ dX8_copy_116
              · rw [if_pos c] at hf
                refine x_lv [2] rfl ?_
                exact tX8_copy_b91 N z4.2 B hf
          · rw [if_neg c] at hf
            refine x_aload_n (i := 0) 2 C dX8_copy_62 rfl rfl ?_
            refine x_iconst (v := 4) C dX8_copy_63 (by decide) ?_
            obtain ⟨z5, e5, hf⟩ := bnd hf
            refine x_callV (r := 1) (As := [.int 4]) (rest := []) C dX8_copy_64 kmX8_215 miX8_finding (ctX8_finding (lo X) (qo X) N z2.2 4 z5.1 z5.2 e5) rfl rfl ⟨Nat.le_trans (by decide) B.2.2.2.1, Nat.le_trans (by decide) B.2.2.2.2.1⟩ (by simp [cat_i, cat_l, rf_cat]) rfl ?_
            obtain ⟨rfl, rfl⟩ := rtn hf
            exact B.2.2.2.2.2.1 _ _ rfl rfl rfl _ _ dX8_copy_67
        · rw [if_neg c] at hf
          refine x_lv [2] rfl ?_
          exact tX8_copy_b43 N z2.2 B hf
    · rw [if_pos c] at hf
      refine x_lv [] rfl ?_
      exact tX8_copy_b24 N z2.2 B hf
theorem ctX8_copy (l : Launch) (q : Nat → Nat) (N : Nat) (h : pH) (x1 : Int32) (x2 : Int32) (x3 : Int32) (x4 : Int32) (x5 : Int32) (v : Int32) (h' : pH) (hf : fX8_copy N h x1 x2 x3 x4 x5 = some (v, h')) : Ctr l q yX8_copy cX8_copy 8 (some .int) 2 43 [rf q 1, .int x1, .int x2, .int x3, .int x4, .int x5] h h' (some (.int v)) := by
  refine ct_of (own := RX8) (lv := [(0, rf q 1), (1, .int x1), (2, .int x2), (3, .int x3), (4, .int x4), (5, .int x5)]) (by decide +kernel) rfl (by simp [lg_sl, rf_cat, cat_i, cat_l]) (by first | rfl | simp [lv_args, rf_cat, cat_i, cat_l]) ?_
  intro X B
  obtain rfl := B.2.1
  obtain rfl := B.2.2.1
  exact tX8_copy N h x1 x2 x3 x4 x5 B hf
def fX8_write_B50 (N : Nat) (k50 : pH → Nat → Int32 → Int32 → Option (Int32 × pH)) (h : pH) (r2 : Nat) (x3 : Int32) (x4 : Int32) : Option (Int32 × pH) :=
  if x3 ≤ x4 then (some (x3, h)) else (if ix x4 25 = true then (if isO 5 r2 = true then ((fX5_put N h r2 x4 (h.1 26 x4.toNatClampNeg)).bind fun z1 => (k50 z1.2 r2 x3 (x4 + 1))) else none) else none)
set_option maxRecDepth 100000 in
set_option maxHeartbeats 4000000 in
theorem tX8_write_B50 {X : Xt} {v : Int32} {h' : pH} (N : Nat) (k50 : pH → Nat → Int32 → Int32 → Option (Int32 × pH)) (HK50 : ∀ (h : pH) (r2 : Nat) (x3 : Int32) (x4 : Int32), k50 h r2 x3 x4 = some (v, h') → Wx X 5 50 [(0, rf (qo X) 1), (2, rf (qo X) r2), (3, .int x3), (4, .int x4)] [] h) (h : pH) (r2 : Nat) (x3 : Int32) (x4 : Int32) (B : Bd (lo X) (qo X) cX8_write RX8 5 (some .int) 4 96 (some (.int v)) h' X) (hf : fX8_write_B50 N k50 h r2 x3 x4 = some (v, h')) : Wx X 5 50 [(0, rf (qo X) 1), (2, rf (qo X) r2), (3, .int x3), (4, .int x4)] [] h := by
  have C := B.1
  unfold fX8_write_B50 at hf
  refine x_iload 3 C dX8_write_50 rfl ?_
  refine x_iload_n (i := 3) 2 C dX8_write_52 rfl rfl ?_
  refine x_icmp_ge (tgt := 75) C dX8_write_53 (by decide) (fun c => ?_) (fun c => ?_)
  · rw [if_pos c] at hf
    refine x_iload_n (i := 3) 2 C dX8_write_75 rfl rfl ?_
    obtain ⟨rfl, rfl⟩ := rtn hf
    exact B.2.2.2.2.2.1 _ _ rfl rfl rfl _ _ dX8_write_76
  · rw [if_neg c] at hf
    refine x_aload_n (i := 2) 1 C dX8_write_56 rfl rfl ?_
    refine x_iload 3 C dX8_write_57 rfl ?_
    refine x_aload_n (i := 0) 0 C dX8_write_59 rfl rfl ?_
    refine x_getR (r := 1) (r2 := 26) C dX8_write_60 kfX8_36 rfl rfl (by decide) ?_
    refine x_iload 3 C dX8_write_63 rfl ?_
    obtain ⟨g1, hf⟩ := ife hf
    refine x_iald (r := 26) C dX8_write_65 rfl g1 ?_
    obtain ⟨g2, hf⟩ := ife hf
    obtain ⟨z1, e1, hf⟩ := bnd hf
    refine x_callV (r := r2) (As := [.int x4, .int (h.1 26 x4.toNatClampNeg)]) (rest := []) C dX8_write_66 kmX8_248 miX5_put (ctX5_put (lo X) (qo X) N h r2 x4 (h.1 26 x4.toNatClampNeg) z1.1 z1.2 e1) rfl rfl ⟨Nat.le_trans (by decide) B.2.2.2.1, Nat.le_trans (by decide) B.2.2.2.2.1⟩ (by simp [cat_i, cat_l, rf_cat]) g2 ?_
    refine x_iinc (v := x4 + 1) (lv' := [(4, .int (x4 + 1)), (0, rf (qo X) 1), (2, rf (qo X) r2), (3, .int x3)]) 3 C dX8_write_69 rfl rfl (by decide) rfl ?_
    refine x_goto (tgt := 50) C dX8_write_72 (by decide) ?_
    refine x_lv [1, 2, 3, 0] rfl ?_
    exact HK50 z1.2 r2 x3 (x4 + 1) hf
def fX8_write_L50 (N : Nat) : Nat → pH → Nat → Int32 → Int32 → Option (Int32 × pH)
  | 0 => fun _ _ _ _ => none
  | n + 1 => fX8_write_B50 N (fX8_write_L50 N n)
theorem tX8_write_L50 {X : Xt} {v : Int32} {h' : pH} (N : Nat) (B : Bd (lo X) (qo X) cX8_write RX8 5 (some .int) 4 96 (some (.int v)) h' X) : ∀ (n : Nat) (h : pH) (r2 : Nat) (x3 : Int32) (x4 : Int32), fX8_write_L50 N n h r2 x3 x4 = some (v, h') → Wx X 5 50 [(0, rf (qo X) 1), (2, rf (qo X) r2), (3, .int x3), (4, .int x4)] [] h := by
  intro n
  induction n with
  | zero => intro h r2 x3 x4 hf; exact absurd (show (none : Option (Int32 × pH)) = some (v, h') from hf) (fun z => by cases z)
  | succ n ih => intro h r2 x3 x4 hf; exact tX8_write_B50 N (fX8_write_L50 N n) ih h r2 x3 x4 B hf
def fX8_write (N : Nat) (h : pH) (x1 : Int32) : Option (Int32 × pH) :=
  (fX8_sheetAt N h x1).bind fun z1 => (if z1.1 = 0 then (some ((-2), z1.2)) else (if fI 5 1 z1.1 = true then (if (z1.2.1 z1.1 1) = 0 then ((fX8_freshen N z1.2).bind fun z2 => (if fI 5 3 z1.1 = true then ((fJ9_min_7cf53 N z2.2 (z2.2.1 z1.1 3) ((z2.2.1 24 1) + 1)).bind fun z3 => (fX8_write_L50 N N z3.2 z1.1 z3.1 0)) else none)) else ((fX8_finding N z1.2 1).bind fun z4 => (some (z4.1, z4.2)))) else none))
set_option maxRecDepth 100000 in
set_option maxHeartbeats 4000000 in
theorem tX8_write {X : Xt} {v : Int32} {h' : pH} (N : Nat) (h : pH) (x1 : Int32) (B : Bd (lo X) (qo X) cX8_write RX8 5 (some .int) 4 96 (some (.int v)) h' X) (hf : fX8_write N h x1 = some (v, h')) : Wx X 5 0 [(0, rf (qo X) 1), (1, .int x1)] [] h := by
  have C := B.1
  unfold fX8_write at hf
  refine x_aload_n (i := 0) 0 C dX8_write_0 rfl rfl ?_
  refine x_iload_n (i := 1) 1 C dX8_write_1 rfl rfl ?_
  obtain ⟨z1, e1, hf⟩ := bnd hf
  refine x_callV (r := 1) (As := [.int x1]) (rest := []) C dX8_write_2 kmX8_208 miX8_sheetAt (ctX8_sheetAt (lo X) (qo X) N h x1 z1.1 z1.2 e1) rfl rfl ⟨Nat.le_trans (by decide) B.2.2.2.1, Nat.le_trans (by decide) B.2.2.2.2.1⟩ (by simp [cat_i, cat_l, rf_cat]) rfl ?_
  refine x_astore_n (i := 2) (lv' := [(2, rf (qo X) z1.1), (0, rf (qo X) 1), (1, .int x1)]) C dX8_write_5 rfl (by decide) rfl ?_
  refine x_aload_n (i := 2) 0 C dX8_write_6 rfl rfl ?_
  refine x_ifnonnull (tgt := 13) C dX8_write_7 (by decide) (fun c => ?_) (fun c => ?_)
  · rw [if_neg c] at hf
    refine x_aload_n (i := 2) 0 C dX8_write_13 rfl rfl ?_
    obtain ⟨g1, hf⟩ := ife hf
    refine x_getI (r := z1.1) C dX8_write_14 kfX8_212 g1 ?_
    refine x_if_eq (tgt := 26) C dX8_write_17 (by decide) (fun c => ?_) (fun c => ?_)
    · rw [if_pos c] at hf
      refine x_aload_n (i := 0) 1 C dX8_write_26 rfl rfl ?_
      obtain ⟨z2, e2, hf⟩ := bnd hf
      refine x_callV (r := 1) (As := []) (rest := []) C dX8_write_27 kmX8_110 miX8_freshen (ctX8_freshen (lo X) (qo X) N z1.2 z2.1 z2.2 e2) rfl rfl ⟨Nat.le_trans (by decide) B.2.2.2.1, Nat.le_trans (by decide) B.2.2.2.2.1⟩ (by simp [cat_i, cat_l, rf_cat]) rfl ?_
      refine x_aload_n (i := 2) 0 C dX8_write_30 rfl rfl ?_
      obtain ⟨g2, hf⟩ := ife hf
      refine x_getI (r := z1.1) C dX8_write_31 kfX8_218 g2 ?_
      refine x_aload_n (i := 0) 1 C dX8_write_34 rfl rfl ?_
      refine x_getR (r := 1) (r2 := 24) C dX8_write_35 kfX8_32 rfl rfl (by decide) ?_
      refine x_getI (r := 24) C dX8_write_38 kfX8_154 rfl ?_
      refine x_iconst (v := 1) C dX8_write_41 (by decide) ?_
      refine x_iadd C dX8_write_42 ?_
      obtain ⟨z3, e3, hf⟩ := bnd hf
      refine x_callS (As := [.int (z2.2.1 z1.1 3), .int ((z2.2.1 24 1) + 1)]) (rest := []) C dX8_write_43 kmX8_261 miJ9_min_7cf53 (ctJ9_min_7cf53 (lo X) (qo X) N z2.2 (z2.2.1 z1.1 3) ((z2.2.1 24 1) + 1) z3.1 z3.2 e3) rfl rfl ⟨Nat.le_trans (by decide) B.2.2.2.1, Nat.le_trans (by decide) B.2.2.2.2.1⟩ (by simp [cat_i, cat_l, rf_cat]) ?_
      refine x_istore_n (i := 3) (lv' := [(3, .int z3.1), (2, rf (qo X) z1.1), (0, rf (qo X) 1), (1, .int x1)]) C dX8_write_46 rfl (by decide) (by simp [List.filter, rf_cat]) ?_
      refine x_iconst (v := 0) C dX8_write_47 (by decide) ?_
      refine x_istore (lv' := [(4, .int 0), (3, .int z3.1), (2, rf (qo X) z1.1), (0, rf (qo X) 1), (1, .int x1)]) C dX8_write_48 (by decide) rfl ?_
      refine x_lv [3, 2, 1, 0] rfl ?_
      exact tX8_write_L50 N  B N z3.2 z1.1 z3.1 0 hf
    · rw [if_neg c] at hf
      refine x_aload_n (i := 0) 1 C dX8_write_20 rfl rfl ?_
      refine x_iconst (v := 1) C dX8_write_21 (by decide) ?_
      obtain ⟨z4, e4, hf⟩ := bnd hf
      refine x_callV (r := 1) (As := [.int 1]) (rest := []) C dX8_write_22 kmX8_215 miX8_finding (ctX8_finding (lo X) (qo X) N z1.2 1 z4.1 z4.2 e4) rfl rfl ⟨Nat.le_trans (by decide) B.2.2.2.1, Nat.le_trans (by decide) B.2.2.2.2.1⟩ (by simp [cat_i, cat_l, rf_cat]) rfl ?_
      obtain ⟨rfl, rfl⟩ := rtn hf
      exact B.2.2.2.2.2.1 _ _ rfl rfl rfl _ _ dX8_write_25
  · rw [if_pos c] at hf
    refine x_bipush (v := (-2)) C dX8_write_10 (by decide) ?_
    obtain ⟨rfl, rfl⟩ := rtn hf
    exact B.2.2.2.2.2.1 _ _ rfl rfl rfl _ _ dX8_write_12
theorem ctX8_write (l : Launch) (q : Nat → Nat) (N : Nat) (h : pH) (x1 : Int32) (v : Int32) (h' : pH) (hf : fX8_write N h x1 = some (v, h')) : Ctr l q yX8_write cX8_write 5 (some .int) 4 96 [rf q 1, .int x1] h h' (some (.int v)) := by
  refine ct_of (own := RX8) (lv := [(0, rf q 1), (1, .int x1)]) (by decide +kernel) rfl (by simp [lg_sl, rf_cat, cat_i, cat_l]) (by first | rfl | simp [lv_args, rf_cat, cat_i, cat_l]) ?_
  intro X B
  obtain rfl := B.2.1
  obtain rfl := B.2.2.1
  exact tX8_write N h x1 B hf
def fX8_count (N : Nat) (h : pH) (x1 : Int32) : Option (Int32 × pH) :=
  (fX8_freshen N h).bind fun z1 => (if x1 = 0 then (some (z1.2.1 9 3, z1.2)) else (if x1 = 1 then (some (z1.2.1 14 1, z1.2)) else (if x1 = 2 then (some (z1.2.1 24 1, z1.2)) else (if x1 = 3 then (if ix (0 : Int32) 3 = true then (if fI 7 1 (aE 2 (0 : Int32).toNatClampNeg) = true then (some (z1.2.1 (aE 2 (0 : Int32).toNatClampNeg) 1, z1.2)) else none) else none) else (if x1 = 4 then (if ix (1 : Int32) 3 = true then (if fI 7 1 (aE 2 (1 : Int32).toNatClampNeg) = true then (some (z1.2.1 (aE 2 (1 : Int32).toNatClampNeg) 1, z1.2)) else none) else none) else (if x1 = 5 then (if ix (2 : Int32) 3 = true then (if fI 7 1 (aE 2 (2 : Int32).toNatClampNeg) = true then (some (z1.2.1 (aE 2 (2 : Int32).toNatClampNeg) 1, z1.2)) else none) else none) else (if x1 = 6 then ((fX8_tollsBehind N z1.2 (z1.2.1 24 1)).bind fun z2 => (some (z2.1, z2.2))) else (if x1 = 7 then (some (z1.2.1 35 2, z1.2)) else (if x1 = 8 then (some (z1.2.1 1 13, z1.2)) else (some ((-2), z1.2)))))))))))
set_option maxRecDepth 100000 in
set_option maxHeartbeats 4000000 in
theorem tX8_count {X : Xt} {v : Int32} {h' : pH} (N : Nat) (h : pH) (x1 : Int32) (B : Bd (lo X) (qo X) cX8_count RX8 2 (some .int) 4 96 (some (.int v)) h' X) (hf : fX8_count N h x1 = some (v, h')) : Wx X 2 0 [(0, rf (qo X) 1), (1, .int x1)] [] h := by
  have C := B.1
  unfold fX8_count at hf
  refine x_aload_n (i := 0) 0 C dX8_count_0 rfl rfl ?_
  obtain ⟨z1, e1, hf⟩ := bnd hf
  refine x_callV (r := 1) (As := []) (rest := []) C dX8_count_1 kmX8_110 miX8_freshen (ctX8_freshen (lo X) (qo X) N h z1.1 z1.2 e1) rfl rfl ⟨Nat.le_trans (by decide) B.2.2.2.1, Nat.le_trans (by decide) B.2.2.2.2.1⟩ (by simp [cat_i, cat_l, rf_cat]) rfl ?_
  refine x_iload_n (i := 1) 1 C dX8_count_4 rfl rfl ?_
  by_cases c0 : x1 = 0
  · rw [if_pos c0] at hf
    refine x_tabIn (w := 0) (tgt := 56) (off := 51) C dX8_count_5 c0 (by decide) (by decide) (by decide) (by decide) ?_
    refine x_aload_n (i := 0) 0 C dX8_count_56 rfl rfl ?_
    refine x_getR (r := 1) (r2 := 9) C dX8_count_57 kfX8_18 rfl rfl (by decide) ?_
    refine x_getI (r := 9) C dX8_count_60 kfX8_176 rfl ?_
    obtain ⟨rfl, rfl⟩ := rtn hf
    exact B.2.2.2.2.2.1 _ _ rfl rfl rfl _ _ dX8_count_63
  rw [if_neg c0] at hf
  by_cases c1 : x1 = 1
  · rw [if_pos c1] at hf
    refine x_tabIn (w := 1) (tgt := 64) (off := 59) C dX8_count_5 c1 (by decide) (by decide) (by decide) (by decide) ?_
    refine x_aload_n (i := 0) 0 C dX8_count_64 rfl rfl ?_
    refine x_getR (r := 1) (r2 := 14) C dX8_count_65 kfX8_25 rfl rfl (by decide) ?_
    refine x_getI (r := 14) C dX8_count_68 kfX8_193 rfl ?_
    obtain ⟨rfl, rfl⟩ := rtn hf
    exact B.2.2.2.2.2.1 _ _ rfl rfl rfl _ _ dX8_count_71
  rw [if_neg c1] at hf
  by_cases c2 : x1 = 2
  · rw [if_pos c2] at hf
    refine x_tabIn (w := 2) (tgt := 72) (off := 67) C dX8_count_5 c2 (by decide) (by decide) (by decide) (by decide) ?_
    refine x_aload_n (i := 0) 0 C dX8_count_72 rfl rfl ?_
    refine x_getR (r := 1) (r2 := 24) C dX8_count_73 kfX8_32 rfl rfl (by decide) ?_
    refine x_getI (r := 24) C dX8_count_76 kfX8_154 rfl ?_
    obtain ⟨rfl, rfl⟩ := rtn hf
    exact B.2.2.2.2.2.1 _ _ rfl rfl rfl _ _ dX8_count_79
  rw [if_neg c2] at hf
  by_cases c3 : x1 = 3
  · rw [if_pos c3] at hf
    refine x_tabIn (w := 3) (tgt := 80) (off := 75) C dX8_count_5 c3 (by decide) (by decide) (by decide) (by decide) ?_
    refine x_aload_n (i := 0) 0 C dX8_count_80 rfl rfl ?_
    refine x_getR (r := 1) (r2 := 2) C dX8_count_81 kfX8_11 rfl rfl (by decide) ?_
    refine x_iconst (v := 0) C dX8_count_84 (by decide) ?_
    obtain ⟨g1, hf⟩ := ife hf
    refine x_aald4 (r := 2) C dX8_count_85 rfl g1 ?_
    obtain ⟨g2, hf⟩ := ife hf
    refine x_getI (r := (aE 2 (0 : Int32).toNatClampNeg)) C dX8_count_86 kfX8_102 g2 ?_
    obtain ⟨rfl, rfl⟩ := rtn hf
    exact B.2.2.2.2.2.1 _ _ rfl rfl rfl _ _ dX8_count_89
  rw [if_neg c3] at hf
  by_cases c4 : x1 = 4
  · rw [if_pos c4] at hf
    refine x_tabIn (w := 4) (tgt := 90) (off := 85) C dX8_count_5 c4 (by decide) (by decide) (by decide) (by decide) ?_
    refine x_aload_n (i := 0) 0 C dX8_count_90 rfl rfl ?_
    refine x_getR (r := 1) (r2 := 2) C dX8_count_91 kfX8_11 rfl rfl (by decide) ?_
    refine x_iconst (v := 1) C dX8_count_94 (by decide) ?_
    obtain ⟨g3, hf⟩ := ife hf
    refine x_aald4 (r := 2) C dX8_count_95 rfl g3 ?_
    obtain ⟨g4, hf⟩ := ife hf
    refine x_getI (r := (aE 2 (1 : Int32).toNatClampNeg)) C dX8_count_96 kfX8_102 g4 ?_
    obtain ⟨rfl, rfl⟩ := rtn hf
    exact B.2.2.2.2.2.1 _ _ rfl rfl rfl _ _ dX8_count_99
  rw [if_neg c4] at hf
  by_cases c5 : x1 = 5
  · rw [if_pos c5] at hf
    refine x_tabIn (w := 5) (tgt := 100) (off := 95) C dX8_count_5 c5 (by decide) (by decide) (by decide) (by decide) ?_
    refine x_aload_n (i := 0) 0 C dX8_count_100 rfl rfl ?_
    refine x_getR (r := 1) (r2 := 2) C dX8_count_101 kfX8_11 rfl rfl (by decide) ?_
    refine x_iconst (v := 2) C dX8_count_104 (by decide) ?_
    obtain ⟨g5, hf⟩ := ife hf
    refine x_aald4 (r := 2) C dX8_count_105 rfl g5 ?_
    obtain ⟨g6, hf⟩ := ife hf
    refine x_getI (r := (aE 2 (2 : Int32).toNatClampNeg)) C dX8_count_106 kfX8_102 g6 ?_
    obtain ⟨rfl, rfl⟩ := rtn hf
    exact B.2.2.2.2.2.1 _ _ rfl rfl rfl _ _ dX8_count_109
  rw [if_neg c5] at hf
  by_cases c6 : x1 = 6
  · rw [if_pos c6] at hf
    refine x_tabIn (w := 6) (tgt := 110) (off := 105) C dX8_count_5 c6 (by decide) (by decide) (by decide) (by decide) ?_
    refine x_aload_n (i := 0) 0 C dX8_count_110 rfl rfl ?_
    refine x_aload_n (i := 0) 0 C dX8_count_111 rfl rfl ?_
    refine x_getR (r := 1) (r2 := 24) C dX8_count_112 kfX8_32 rfl rfl (by decide) ?_
    refine x_getI (r := 24) C dX8_count_115 kfX8_154 rfl ?_
    obtain ⟨z2, e2, hf⟩ := bnd hf
    refine x_callV (r := 1) (As := [.int (z1.2.1 24 1)]) (rest := []) C dX8_count_118 kmX8_170 miX8_tollsBehind (ctX8_tollsBehind (lo X) (qo X) N z1.2 (z1.2.1 24 1) z2.1 z2.2 e2) rfl rfl ⟨Nat.le_trans (by decide) B.2.2.2.1, Nat.le_trans (by decide) B.2.2.2.2.1⟩ (by simp [cat_i, cat_l, rf_cat]) rfl ?_
    obtain ⟨rfl, rfl⟩ := rtn hf
    exact B.2.2.2.2.2.1 _ _ rfl rfl rfl _ _ dX8_count_121
  rw [if_neg c6] at hf
  by_cases c7 : x1 = 7
  · rw [if_pos c7] at hf
    refine x_tabIn (w := 7) (tgt := 122) (off := 117) C dX8_count_5 c7 (by decide) (by decide) (by decide) (by decide) ?_
    refine x_aload_n (i := 0) 0 C dX8_count_122 rfl rfl ?_
    refine x_getR (r := 1) (r2 := 35) C dX8_count_123 kfX8_59 rfl rfl (by decide) ?_
    refine x_getI (r := 35) C dX8_count_126 kfX8_207 rfl ?_
    obtain ⟨rfl, rfl⟩ := rtn hf
    exact B.2.2.2.2.2.1 _ _ rfl rfl rfl _ _ dX8_count_129
  rw [if_neg c7] at hf
  by_cases c8 : x1 = 8
  · rw [if_pos c8] at hf
    refine x_tabIn (w := 8) (tgt := 130) (off := 125) C dX8_count_5 c8 (by decide) (by decide) (by decide) (by decide) ?_
    refine x_aload_n (i := 0) 0 C dX8_count_130 rfl rfl ?_
    refine x_getI (r := 1) C dX8_count_131 kfX8_266 rfl ?_
    obtain ⟨rfl, rfl⟩ := rtn hf
    exact B.2.2.2.2.2.1 _ _ rfl rfl rfl _ _ dX8_count_134
  rw [if_neg c8] at hf
  refine x_tabOut (n := 9) (tgt := 135) C dX8_count_5 (fun i hi => match i, hi with | 0, _ => c0 | 1, _ => c1 | 2, _ => c2 | 3, _ => c3 | 4, _ => c4 | 5, _ => c5 | 6, _ => c6 | 7, _ => c7 | 8, _ => c8 | i + 9, hi => absurd hi (by omega)) (by decide) ?_
  refine x_bipush (v := (-2)) C dX8_count_135 (by decide) ?_
  obtain ⟨rfl, rfl⟩ := rtn hf
  exact B.2.2.2.2.2.1 _ _ rfl rfl rfl _ _ dX8_count_137
theorem ctX8_count (l : Launch) (q : Nat → Nat) (N : Nat) (h : pH) (x1 : Int32) (v : Int32) (h' : pH) (hf : fX8_count N h x1 = some (v, h')) : Ctr l q yX8_count cX8_count 2 (some .int) 4 96 [rf q 1, .int x1] h h' (some (.int v)) := by
  refine ct_of (own := RX8) (lv := [(0, rf q 1), (1, .int x1)]) (by decide +kernel) rfl (by simp [lg_sl, rf_cat, cat_i, cat_l]) (by first | rfl | simp [lv_args, rf_cat, cat_i, cat_l]) ?_
  intro X B
  obtain rfl := B.2.1
  obtain rfl := B.2.2.1
  exact tX8_count N h x1 B hf
def fX8_digestPlanks_B5 (N : Nat) (k5 : pH → Int64 → Int32 → Option (Int64 × pH)) (h : pH) (l3 : Int64) (x5 : Int32) : Option (Int64 × pH) :=
  if (h.1 9 3) ≤ x5 then (some (l3, h)) else ((fX8_plank N h x5).bind fun z1 => ((fX8_maybe N z1.2 5 x5 0).bind fun z2 => ((fX8_maybe N z2.2 5 x5 1).bind fun z3 => (k5 z3.2 ((31 * ((31 * ((31 * l3) + z1.1.toInt64)) + z2.1)) + z3.1) (x5 + 1)))))
set_option maxRecDepth 100000 in
set_option maxHeartbeats 4000000 in
theorem tX8_digestPlanks_B5 {X : Xt} {v : Int64} {h' : pH} (N : Nat) (k5 : pH → Int64 → Int32 → Option (Int64 × pH)) (HK5 : ∀ (h : pH) (l3 : Int64) (x5 : Int32), k5 h l3 x5 = some (v, h') → Wx X 6 5 [(0, rf (qo X) 1), (3, .long l3), (5, .int x5)] [] h) (h : pH) (l3 : Int64) (x5 : Int32) (B : Bd (lo X) (qo X) cX8_digestPlanks RX8 6 (some .long) 5 122 (some (.long v)) h' X) (hf : fX8_digestPlanks_B5 N k5 h l3 x5 = some (v, h')) : Wx X 6 5 [(0, rf (qo X) 1), (3, .long l3), (5, .int x5)] [] h := by
  have C := B.1
  unfold fX8_digestPlanks_B5 at hf
  refine x_iload 2 C dX8_digestPlanks_5 rfl ?_
  refine x_aload_n (i := 0) 0 C dX8_digestPlanks_7 rfl rfl ?_
  refine x_getR (r := 1) (r2 := 9) C dX8_digestPlanks_8 kfX8_18 rfl rfl (by decide) ?_
  refine x_getI (r := 9) C dX8_digestPlanks_11 kfX8_176 rfl ?_
  refine x_icmp_ge (tgt := 67) C dX8_digestPlanks_14 (by decide) (fun c => ?_) (fun c => ?_)
  · rw [if_pos c] at hf
    refine x_lload_n (i := 3) 1 C dX8_digestPlanks_67 rfl rfl ?_
    obtain ⟨rfl, rfl⟩ := rtn hf
    exact B.2.2.2.2.2.2.1 _ rfl rfl _ _ dX8_digestPlanks_68
  · rw [if_neg c] at hf
    refine x_ldc2 (v := 31) C dX8_digestPlanks_17 kkX8_271 ?_
    refine x_lload_n (i := 3) 1 C dX8_digestPlanks_20 rfl rfl ?_
    refine x_lmul C dX8_digestPlanks_21 ?_
    refine x_aload_n (i := 0) 0 C dX8_digestPlanks_22 rfl rfl ?_
    refine x_iload 2 C dX8_digestPlanks_23 rfl ?_
    obtain ⟨z1, e1, hf⟩ := bnd hf
    refine x_callV (r := 1) (As := [.int x5]) (rest := [.long (31 * l3)]) C dX8_digestPlanks_25 kmX8_310 miX8_plank (ctX8_plank (lo X) (qo X) N h x5 z1.1 z1.2 e1) rfl rfl ⟨Nat.le_trans (by decide) B.2.2.2.1, Nat.le_trans (by decide) B.2.2.2.2.1⟩ (by simp [cat_i, cat_l, rf_cat]) rfl ?_
    refine x_i2l C dX8_digestPlanks_28 ?_
    refine x_ladd C dX8_digestPlanks_29 ?_
    refine x_lstore_n (i := 3) (lv' := [(3, .long ((31 * l3) + z1.1.toInt64)), (0, rf (qo X) 1), (5, .int x5)]) C dX8_digestPlanks_30 rfl (by decide) rfl ?_
    refine x_ldc2 (v := 31) C dX8_digestPlanks_31 kkX8_271 ?_
    refine x_lload_n (i := 3) 0 C dX8_digestPlanks_34 rfl rfl ?_
    refine x_lmul C dX8_digestPlanks_35 ?_
    refine x_aload_n (i := 0) 1 C dX8_digestPlanks_36 rfl rfl ?_
    refine x_iconst (v := 5) C dX8_digestPlanks_37 (by decide) ?_
    refine x_iload 2 C dX8_digestPlanks_38 rfl ?_
    refine x_iconst (v := 0) C dX8_digestPlanks_40 (by decide) ?_
    obtain ⟨z2, e2, hf⟩ := bnd hf
    refine x_callV (r := 1) (As := [.int 5, .int x5, .int 0]) (rest := [.long (31 * ((31 * l3) + z1.1.toInt64))]) C dX8_digestPlanks_41 kmX8_313 miX8_maybe (ctX8_maybe (lo X) (qo X) N z1.2 5 x5 0 z2.1 z2.2 e2) rfl rfl ⟨Nat.le_trans (by decide) B.2.2.2.1, Nat.le_trans (by decide) B.2.2.2.2.1⟩ (by simp [cat_i, cat_l, rf_cat]) rfl ?_
    refine x_ladd C dX8_digestPlanks_44 ?_
    refine x_lstore_n (i := 3) (lv' := [(3, .long ((31 * ((31 * l3) + z1.1.toInt64)) + z2.1)), (0, rf (qo X) 1), (5, .int x5)]) C dX8_digestPlanks_45 rfl (by decide) rfl ?_
    refine x_ldc2 (v := 31) C dX8_digestPlanks_46 kkX8_271 ?_
    refine x_lload_n (i := 3) 0 C dX8_digestPlanks_49 rfl rfl ?_
    refine x_lmul C dX8_digestPlanks_50 ?_
    refine x_aload_n (i := 0) 1 C dX8_digestPlanks_51 rfl rfl ?_
    refine x_iconst (v := 5) C dX8_digestPlanks_52 (by decide) ?_
    refine x_iload 2 C dX8_digestPlanks_53 rfl ?_
    refine x_iconst (v := 1) C dX8_digestPlanks_55 (by decide) ?_
    obtain ⟨z3, e3, hf⟩ := bnd hf
    refine x_callV (r := 1) (As := [.int 5, .int x5, .int 1]) (rest := [.long (31 * ((31 * ((31 * l3) + z1.1.toInt64)) + z2.1))]) C dX8_digestPlanks_56 kmX8_313 miX8_maybe (ctX8_maybe (lo X) (qo X) N z2.2 5 x5 1 z3.1 z3.2 e3) rfl rfl ⟨Nat.le_trans (by decide) B.2.2.2.1, Nat.le_trans (by decide) B.2.2.2.2.1⟩ (by simp [cat_i, cat_l, rf_cat]) rfl ?_
    refine x_ladd C dX8_digestPlanks_59 ?_
    refine x_lstore_n (i := 3) (lv' := [(3, .long ((31 * ((31 * ((31 * l3) + z1.1.toInt64)) + z2.1)) + z3.1)), (0, rf (qo X) 1), (5, .int x5)]) C dX8_digestPlanks_60 rfl (by decide) rfl ?_
    refine x_iinc (v := x5 + 1) (lv' := [(5, .int (x5 + 1)), (3, .long ((31 * ((31 * ((31 * l3) + z1.1.toInt64)) + z2.1)) + z3.1)), (0, rf (qo X) 1)]) 2 C dX8_digestPlanks_61 rfl rfl (by decide) rfl ?_
    refine x_goto (tgt := 5) C dX8_digestPlanks_64 (by decide) ?_
    refine x_lv [2, 1, 0] rfl ?_
    exact HK5 z3.2 ((31 * ((31 * ((31 * l3) + z1.1.toInt64)) + z2.1)) + z3.1) (x5 + 1) hf
def fX8_digestPlanks_L5 (N : Nat) : Nat → pH → Int64 → Int32 → Option (Int64 × pH)
  | 0 => fun _ _ _ => none
  | n + 1 => fX8_digestPlanks_B5 N (fX8_digestPlanks_L5 N n)
theorem tX8_digestPlanks_L5 {X : Xt} {v : Int64} {h' : pH} (N : Nat) (B : Bd (lo X) (qo X) cX8_digestPlanks RX8 6 (some .long) 5 122 (some (.long v)) h' X) : ∀ (n : Nat) (h : pH) (l3 : Int64) (x5 : Int32), fX8_digestPlanks_L5 N n h l3 x5 = some (v, h') → Wx X 6 5 [(0, rf (qo X) 1), (3, .long l3), (5, .int x5)] [] h := by
  intro n
  induction n with
  | zero => intro h l3 x5 hf; exact absurd (show (none : Option (Int64 × pH)) = some (v, h') from hf) (fun z => by cases z)
  | succ n ih => intro h l3 x5 hf; exact tX8_digestPlanks_B5 N (fX8_digestPlanks_L5 N n) ih h l3 x5 B hf
def fX8_digestPlanks (N : Nat) (h : pH) (l1 : Int64) : Option (Int64 × pH) :=
  fX8_digestPlanks_L5 N N h l1 0
set_option maxRecDepth 100000 in
set_option maxHeartbeats 4000000 in
theorem tX8_digestPlanks {X : Xt} {v : Int64} {h' : pH} (N : Nat) (h : pH) (l1 : Int64) (B : Bd (lo X) (qo X) cX8_digestPlanks RX8 6 (some .long) 5 122 (some (.long v)) h' X) (hf : fX8_digestPlanks N h l1 = some (v, h')) : Wx X 6 0 [(0, rf (qo X) 1), (1, .long l1)] [] h := by
  have C := B.1
  unfold fX8_digestPlanks at hf
  refine x_lload_n (i := 1) 1 C dX8_digestPlanks_0 rfl rfl ?_
  refine x_lstore_n (i := 3) (lv' := [(3, .long l1), (0, rf (qo X) 1), (1, .long l1)]) C dX8_digestPlanks_1 rfl (by decide) rfl ?_
  refine x_iconst (v := 0) C dX8_digestPlanks_2 (by decide) ?_
  refine x_istore (lv' := [(5, .int 0), (3, .long l1), (0, rf (qo X) 1), (1, .long l1)]) C dX8_digestPlanks_3 (by decide) rfl ?_
  refine x_lv [2, 1, 0] rfl ?_
  exact tX8_digestPlanks_L5 N  B N h l1 0 hf
theorem ctX8_digestPlanks (l : Launch) (q : Nat → Nat) (N : Nat) (h : pH) (l1 : Int64) (v : Int64) (h' : pH) (hf : fX8_digestPlanks N h l1 = some (v, h')) : Ctr l q yX8_digestPlanks cX8_digestPlanks 6 (some .long) 5 122 [rf q 1, .long l1] h h' (some (.long v)) := by
  refine ct_of (own := RX8) (lv := [(0, rf q 1), (1, .long l1)]) (by decide +kernel) rfl (by simp [lg_sl, rf_cat, cat_i, cat_l]) (by first | rfl | simp [lv_args, rf_cat, cat_i, cat_l]) ?_
  intro X B
  obtain rfl := B.2.1
  obtain rfl := B.2.2.1
  exact tX8_digestPlanks N h l1 B hf
def fX8_digestCrossers_B20 (N : Nat) (k5 : pH → Int64 → Int32 → Option (Int64 × pH)) (k20 : pH → Int64 → Int32 → Int32 → Option (Int64 × pH)) (h : pH) (l3 : Int64) (x5 : Int32) (x6 : Int32) : Option (Int64 × pH) :=
  if 3 < x6 then ((fX8_times N h x5 0).bind fun z1 => ((fX8_times N z1.2 x5 1).bind fun z2 => ((fX8_ahead N z2.2 x5).bind fun z3 => ((fX8_often N z3.2 x5 0).bind fun z4 => (k5 z4.2 ((31 * ((31 * ((31 * ((31 * l3) + z1.1.toInt64)) + z2.1.toInt64)) + z3.1.toInt64)) + z4.1.toInt64) (x5 + 1)))))) else ((fX8_crosser N h x5 x6).bind fun z5 => (k20 z5.2 ((31 * l3) + z5.1.toInt64) x5 (x6 + 1)))
set_option maxRecDepth 100000 in
set_option maxHeartbeats 4000000 in
theorem tX8_digestCrossers_B20 {X : Xt} {v : Int64} {h' : pH} (N : Nat) (k5 : pH → Int64 → Int32 → Option (Int64 × pH)) (k20 : pH → Int64 → Int32 → Int32 → Option (Int64 × pH)) (HK5 : ∀ (h : pH) (l3 : Int64) (x5 : Int32), k5 h l3 x5 = some (v, h') → Wx X 7 5 [(0, rf (qo X) 1), (3, .long l3), (5, .int x5)] [] h) (HK20 : ∀ (h : pH) (l3 : Int64) (x5 : Int32) (x6 : Int32), k20 h l3 x5 x6 = some (v, h') → Wx X 7 20 [(0, rf (qo X) 1), (3, .long l3), (5, .int x5), (6, .int x6)] [] h) (h : pH) (l3 : Int64) (x5 : Int32) (x6 : Int32) (B : Bd (lo X) (qo X) cX8_digestCrossers RX8 7 (some .long) 5 122 (some (.long v)) h' X) (hf : fX8_digestCrossers_B20 N k5 k20 h l3 x5 x6 = some (v, h')) : Wx X 7 20 [(0, rf (qo X) 1), (3, .long l3), (5, .int x5), (6, .int x6)] [] h := by
  have C := B.1
  unfold fX8_digestCrossers_B20 at hf
  refine x_iload 3 C dX8_digestCrossers_20 rfl ?_
  refine x_iconst (v := 3) C dX8_digestCrossers_22 (by decide) ?_
  refine x_icmp_gt (tgt := 48) C dX8_digestCrossers_23 (by decide) (fun c => ?_) (fun c => ?_)
  · rw [if_pos c] at hf
    refine x_ldc2 (v := 31) C dX8_digestCrossers_48 kkX8_271 ?_
    refine x_lload_n (i := 3) 1 C dX8_digestCrossers_51 rfl rfl ?_
    refine x_lmul C dX8_digestCrossers_52 ?_
    refine x_aload_n (i := 0) 0 C dX8_digestCrossers_53 rfl rfl ?_
    refine x_iload 2 C dX8_digestCrossers_54 rfl ?_
    refine x_iconst (v := 0) C dX8_digestCrossers_56 (by decide) ?_
    obtain ⟨z1, e1, hf⟩ := bnd hf
    refine x_callV (r := 1) (As := [.int x5, .int 0]) (rest := [.long (31 * l3)]) C dX8_digestCrossers_57 kmX8_320 miX8_times (ctX8_times (lo X) (qo X) N h x5 0 z1.1 z1.2 e1) rfl rfl ⟨Nat.le_trans (by decide) B.2.2.2.1, Nat.le_trans (by decide) B.2.2.2.2.1⟩ (by simp [cat_i, cat_l, rf_cat]) rfl ?_
    refine x_i2l C dX8_digestCrossers_60 ?_
    refine x_ladd C dX8_digestCrossers_61 ?_
    refine x_lstore_n (i := 3) (lv' := [(3, .long ((31 * l3) + z1.1.toInt64)), (0, rf (qo X) 1), (5, .int x5), (6, .int x6)]) C dX8_digestCrossers_62 rfl (by decide) rfl ?_
    refine x_ldc2 (v := 31) C dX8_digestCrossers_63 kkX8_271 ?_
    refine x_lload_n (i := 3) 0 C dX8_digestCrossers_66 rfl rfl ?_
    refine x_lmul C dX8_digestCrossers_67 ?_
    refine x_aload_n (i := 0) 1 C dX8_digestCrossers_68 rfl rfl ?_
    refine x_iload 2 C dX8_digestCrossers_69 rfl ?_
    refine x_iconst (v := 1) C dX8_digestCrossers_71 (by decide) ?_
    obtain ⟨z2, e2, hf⟩ := bnd hf
    refine x_callV (r := 1) (As := [.int x5, .int 1]) (rest := [.long (31 * ((31 * l3) + z1.1.toInt64))]) C dX8_digestCrossers_72 kmX8_320 miX8_times (ctX8_times (lo X) (qo X) N z1.2 x5 1 z2.1 z2.2 e2) rfl rfl ⟨Nat.le_trans (by decide) B.2.2.2.1, Nat.le_trans (by decide) B.2.2.2.2.1⟩ (by simp [cat_i, cat_l, rf_cat]) rfl ?_
    refine x_i2l C dX8_digestCrossers_75 ?_
    refine x_ladd C dX8_digestCrossers_76 ?_
    refine x_lstore_n (i := 3) (lv' := [(3, .long ((31 * ((31 * l3) + z1.1.toInt64)) + z2.1.toInt64)), (0, rf (qo X) 1), (5, .int x5), (6, .int x6)]) C dX8_digestCrossers_77 rfl (by decide) rfl ?_
    refine x_ldc2 (v := 31) C dX8_digestCrossers_78 kkX8_271 ?_
    refine x_lload_n (i := 3) 0 C dX8_digestCrossers_81 rfl rfl ?_
    refine x_lmul C dX8_digestCrossers_82 ?_
    refine x_aload_n (i := 0) 1 C dX8_digestCrossers_83 rfl rfl ?_
    refine x_iload 2 C dX8_digestCrossers_84 rfl ?_
    obtain ⟨z3, e3, hf⟩ := bnd hf
    refine x_callV (r := 1) (As := [.int x5]) (rest := [.long (31 * ((31 * ((31 * l3) + z1.1.toInt64)) + z2.1.toInt64))]) C dX8_digestCrossers_86 kmX8_323 miX8_ahead (ctX8_ahead (lo X) (qo X) N z2.2 x5 z3.1 z3.2 e3) rfl rfl ⟨Nat.le_trans (by decide) B.2.2.2.1, Nat.le_trans (by decide) B.2.2.2.2.1⟩ (by simp [cat_i, cat_l, rf_cat]) rfl ?_
    refine x_i2l C dX8_digestCrossers_89 ?_
    refine x_ladd C dX8_digestCrossers_90 ?_
    refine x_lstore_n (i := 3) (lv' := [(3, .long ((31 * ((31 * ((31 * l3) + z1.1.toInt64)) + z2.1.toInt64)) + z3.1.toInt64)), (0, rf (qo X) 1), (5, .int x5), (6, .int x6)]) C dX8_digestCrossers_91 rfl (by decide) rfl ?_
    refine x_ldc2 (v := 31) C dX8_digestCrossers_92 kkX8_271 ?_
    refine x_lload_n (i := 3) 0 C dX8_digestCrossers_95 rfl rfl ?_
    refine x_lmul C dX8_digestCrossers_96 ?_
    refine x_aload_n (i := 0) 1 C dX8_digestCrossers_97 rfl rfl ?_
    refine x_iload 2 C dX8_digestCrossers_98 rfl ?_
    refine x_iconst (v := 0) C dX8_digestCrossers_100 (by decide) ?_
    obtain ⟨z4, e4, hf⟩ := bnd hf
    refine x_callV (r := 1) (As := [.int x5, .int 0]) (rest := [.long (31 * ((31 * ((31 * ((31 * l3) + z1.1.toInt64)) + z2.1.toInt64)) + z3.1.toInt64))]) C dX8_digestCrossers_101 kmX8_326 miX8_often (ctX8_often (lo X) (qo X) N z3.2 x5 0 z4.1 z4.2 e4) rfl rfl ⟨Nat.le_trans (by decide) B.2.2.2.1, Nat.le_trans (by decide) B.2.2.2.2.1⟩ (by simp [cat_i, cat_l, rf_cat]) rfl ?_
    refine x_i2l C dX8_digestCrossers_104 ?_
    refine x_ladd C dX8_digestCrossers_105 ?_
    refine x_lstore_n (i := 3) (lv' := [(3, .long ((31 * ((31 * ((31 * ((31 * l3) + z1.1.toInt64)) + z2.1.toInt64)) + z3.1.toInt64)) + z4.1.toInt64)), (0, rf (qo X) 1), (5, .int x5), (6, .int x6)]) C dX8_digestCrossers_106 rfl (by decide) rfl ?_
    refine x_iinc (v := x5 + 1) (lv' := [(5, .int (x5 + 1)), (3, .long ((31 * ((31 * ((31 * ((31 * l3) + z1.1.toInt64)) + z2.1.toInt64)) + z3.1.toInt64)) + z4.1.toInt64)), (0, rf (qo X) 1), (6, .int x6)]) 2 C dX8_digestCrossers_107 rfl rfl (by decide) rfl ?_
    refine x_goto (tgt := 5) C dX8_digestCrossers_110 (by decide) ?_
    refine x_lv [2, 1, 0] rfl ?_
    exact HK5 z4.2 ((31 * ((31 * ((31 * ((31 * l3) + z1.1.toInt64)) + z2.1.toInt64)) + z3.1.toInt64)) + z4.1.toInt64) (x5 + 1) hf
  · rw [if_neg c] at hf
    refine x_ldc2 (v := 31) C dX8_digestCrossers_26 kkX8_271 ?_
    refine x_lload_n (i := 3) 1 C dX8_digestCrossers_29 rfl rfl ?_
    refine x_lmul C dX8_digestCrossers_30 ?_
    refine x_aload_n (i := 0) 0 C dX8_digestCrossers_31 rfl rfl ?_
    refine x_iload 2 C dX8_digestCrossers_32 rfl ?_
    refine x_iload 3 C dX8_digestCrossers_34 rfl ?_
    obtain ⟨z5, e5, hf⟩ := bnd hf
    refine x_callV (r := 1) (As := [.int x5, .int x6]) (rest := [.long (31 * l3)]) C dX8_digestCrossers_36 kmX8_317 miX8_crosser (ctX8_crosser (lo X) (qo X) N h x5 x6 z5.1 z5.2 e5) rfl rfl ⟨Nat.le_trans (by decide) B.2.2.2.1, Nat.le_trans (by decide) B.2.2.2.2.1⟩ (by simp [cat_i, cat_l, rf_cat]) rfl ?_
    refine x_i2l C dX8_digestCrossers_39 ?_
    refine x_ladd C dX8_digestCrossers_40 ?_
    refine x_lstore_n (i := 3) (lv' := [(3, .long ((31 * l3) + z5.1.toInt64)), (0, rf (qo X) 1), (5, .int x5), (6, .int x6)]) C dX8_digestCrossers_41 rfl (by decide) rfl ?_
    refine x_iinc (v := x6 + 1) (lv' := [(6, .int (x6 + 1)), (3, .long ((31 * l3) + z5.1.toInt64)), (0, rf (qo X) 1), (5, .int x5)]) 3 C dX8_digestCrossers_42 rfl rfl (by decide) rfl ?_
    refine x_goto (tgt := 20) C dX8_digestCrossers_45 (by decide) ?_
    refine x_lv [2, 1, 3, 0] rfl ?_
    exact HK20 z5.2 ((31 * l3) + z5.1.toInt64) x5 (x6 + 1) hf
def fX8_digestCrossers_L20 (N : Nat) (k5 : pH → Int64 → Int32 → Option (Int64 × pH)) : Nat → pH → Int64 → Int32 → Int32 → Option (Int64 × pH)
  | 0 => fun _ _ _ _ => none
  | n + 1 => fX8_digestCrossers_B20 N k5 (fX8_digestCrossers_L20 N k5 n)
theorem tX8_digestCrossers_L20 {X : Xt} {v : Int64} {h' : pH} (N : Nat) (k5 : pH → Int64 → Int32 → Option (Int64 × pH)) (HK5 : ∀ (h : pH) (l3 : Int64) (x5 : Int32), k5 h l3 x5 = some (v, h') → Wx X 7 5 [(0, rf (qo X) 1), (3, .long l3), (5, .int x5)] [] h) (B : Bd (lo X) (qo X) cX8_digestCrossers RX8 7 (some .long) 5 122 (some (.long v)) h' X) : ∀ (n : Nat) (h : pH) (l3 : Int64) (x5 : Int32) (x6 : Int32), fX8_digestCrossers_L20 N k5 n h l3 x5 x6 = some (v, h') → Wx X 7 20 [(0, rf (qo X) 1), (3, .long l3), (5, .int x5), (6, .int x6)] [] h := by
  intro n
  induction n with
  | zero => intro h l3 x5 x6 hf; exact absurd (show (none : Option (Int64 × pH)) = some (v, h') from hf) (fun z => by cases z)
  | succ n ih => intro h l3 x5 x6 hf; exact tX8_digestCrossers_B20 N k5 (fX8_digestCrossers_L20 N k5 n) HK5 ih h l3 x5 x6 B hf
def fX8_digestCrossers_B5 (N : Nat) (k5 : pH → Int64 → Int32 → Option (Int64 × pH)) (h : pH) (l3 : Int64) (x5 : Int32) : Option (Int64 × pH) :=
  if (h.1 14 1) ≤ x5 then (some (l3, h)) else (fX8_digestCrossers_L20 N k5 N h l3 x5 0)
set_option maxRecDepth 100000 in
set_option maxHeartbeats 4000000 in
theorem tX8_digestCrossers_B5 {X : Xt} {v : Int64} {h' : pH} (N : Nat) (k5 : pH → Int64 → Int32 → Option (Int64 × pH)) (HK5 : ∀ (h : pH) (l3 : Int64) (x5 : Int32), k5 h l3 x5 = some (v, h') → Wx X 7 5 [(0, rf (qo X) 1), (3, .long l3), (5, .int x5)] [] h) (h : pH) (l3 : Int64) (x5 : Int32) (B : Bd (lo X) (qo X) cX8_digestCrossers RX8 7 (some .long) 5 122 (some (.long v)) h' X) (hf : fX8_digestCrossers_B5 N k5 h l3 x5 = some (v, h')) : Wx X 7 5 [(0, rf (qo X) 1), (3, .long l3), (5, .int x5)] [] h := by
  have C := B.1
  unfold fX8_digestCrossers_B5 at hf
  refine x_iload 2 C dX8_digestCrossers_5 rfl ?_
  refine x_aload_n (i := 0) 0 C dX8_digestCrossers_7 rfl rfl ?_
  refine x_getR (r := 1) (r2 := 14) C dX8_digestCrossers_8 kfX8_25 rfl rfl (by decide) ?_
  refine x_getI (r := 14) C dX8_digestCrossers_11 kfX8_193 rfl ?_
  refine x_icmp_ge (tgt := 113) C dX8_digestCrossers_14 (by decide) (fun c => ?_) (fun c => ?_)
  · rw [if_pos c] at hf
    refine x_lload_n (i := 3) 1 C dX8_digestCrossers_113 rfl rfl ?_
    obtain ⟨rfl, rfl⟩ := rtn hf
    exact B.2.2.2.2.2.2.1 _ rfl rfl _ _ dX8_digestCrossers_114
  · rw [if_neg c] at hf
    refine x_iconst (v := 0) C dX8_digestCrossers_17 (by decide) ?_
    refine x_istore (lv' := [(6, .int 0), (0, rf (qo X) 1), (3, .long l3), (5, .int x5)]) C dX8_digestCrossers_18 (by decide) rfl ?_
    refine x_lv [1, 2, 3, 0] rfl ?_
    exact tX8_digestCrossers_L20 N k5 HK5  B N h l3 x5 0 hf
def fX8_digestCrossers_L5 (N : Nat) : Nat → pH → Int64 → Int32 → Option (Int64 × pH)
  | 0 => fun _ _ _ => none
  | n + 1 => fX8_digestCrossers_B5 N (fX8_digestCrossers_L5 N n)
theorem tX8_digestCrossers_L5 {X : Xt} {v : Int64} {h' : pH} (N : Nat) (B : Bd (lo X) (qo X) cX8_digestCrossers RX8 7 (some .long) 5 122 (some (.long v)) h' X) : ∀ (n : Nat) (h : pH) (l3 : Int64) (x5 : Int32), fX8_digestCrossers_L5 N n h l3 x5 = some (v, h') → Wx X 7 5 [(0, rf (qo X) 1), (3, .long l3), (5, .int x5)] [] h := by
  intro n
  induction n with
  | zero => intro h l3 x5 hf; exact absurd (show (none : Option (Int64 × pH)) = some (v, h') from hf) (fun z => by cases z)
  | succ n ih => intro h l3 x5 hf; exact tX8_digestCrossers_B5 N (fX8_digestCrossers_L5 N n) ih h l3 x5 B hf
def fX8_digestCrossers (N : Nat) (h : pH) (l1 : Int64) : Option (Int64 × pH) :=
  fX8_digestCrossers_L5 N N h l1 0
set_option maxRecDepth 100000 in
set_option maxHeartbeats 4000000 in
theorem tX8_digestCrossers {X : Xt} {v : Int64} {h' : pH} (N : Nat) (h : pH) (l1 : Int64) (B : Bd (lo X) (qo X) cX8_digestCrossers RX8 7 (some .long) 5 122 (some (.long v)) h' X) (hf : fX8_digestCrossers N h l1 = some (v, h')) : Wx X 7 0 [(0, rf (qo X) 1), (1, .long l1)] [] h := by
  have C := B.1
  unfold fX8_digestCrossers at hf
  refine x_lload_n (i := 1) 1 C dX8_digestCrossers_0 rfl rfl ?_
  refine x_lstore_n (i := 3) (lv' := [(3, .long l1), (0, rf (qo X) 1), (1, .long l1)]) C dX8_digestCrossers_1 rfl (by decide) rfl ?_
  refine x_iconst (v := 0) C dX8_digestCrossers_2 (by decide) ?_
  refine x_istore (lv' := [(5, .int 0), (3, .long l1), (0, rf (qo X) 1), (1, .long l1)]) C dX8_digestCrossers_3 (by decide) rfl ?_
  refine x_lv [2, 1, 0] rfl ?_
  exact tX8_digestCrossers_L5 N  B N h l1 0 hf
theorem ctX8_digestCrossers (l : Launch) (q : Nat → Nat) (N : Nat) (h : pH) (l1 : Int64) (v : Int64) (h' : pH) (hf : fX8_digestCrossers N h l1 = some (v, h')) : Ctr l q yX8_digestCrossers cX8_digestCrossers 7 (some .long) 5 122 [rf q 1, .long l1] h h' (some (.long v)) := by
  refine ct_of (own := RX8) (lv := [(0, rf q 1), (1, .long l1)]) (by decide +kernel) rfl (by simp [lg_sl, rf_cat, cat_i, cat_l]) (by first | rfl | simp [lv_args, rf_cat, cat_i, cat_l]) ?_
  intro X B
  obtain rfl := B.2.1
  obtain rfl := B.2.2.1
  exact tX8_digestCrossers N h l1 B hf
def fX8_digestCrossings_B71 (N : Nat) (k71 : pH → Int64 → Int32 → Option (Int64 × pH)) (h : pH) (l3 : Int64) (x5 : Int32) : Option (Int64 × pH) :=
  if (h.1 24 1) < x5 then (some (l3, h)) else ((fX8_gap N h x5).bind fun z1 => ((fX8_taken N z1.2 x5).bind fun z2 => (k71 z2.2 ((31 * ((31 * l3) + z1.1.toInt64)) + z2.1.toInt64) (x5 + 1))))
set_option maxRecDepth 100000 in
set_option maxHeartbeats 4000000 in
theorem tX8_digestCrossings_B71 {X : Xt} {v : Int64} {h' : pH} (N : Nat) (k71 : pH → Int64 → Int32 → Option (Int64 × pH)) (HK71 : ∀ (h : pH) (l3 : Int64) (x5 : Int32), k71 h l3 x5 = some (v, h') → Wx X 7 71 [(0, rf (qo X) 1), (3, .long l3), (5, .int x5)] [] h) (h : pH) (l3 : Int64) (x5 : Int32) (B : Bd (lo X) (qo X) cX8_digestCrossings RX8 7 (some .long) 5 120 (some (.long v)) h' X) (hf : fX8_digestCrossings_B71 N k71 h l3 x5 = some (v, h')) : Wx X 7 71 [(0, rf (qo X) 1), (3, .long l3), (5, .int x5)] [] h := by
  have C := B.1
  unfold fX8_digestCrossings_B71 at hf
  refine x_iload 2 C dX8_digestCrossings_71 rfl ?_
  refine x_aload_n (i := 0) 0 C dX8_digestCrossings_73 rfl rfl ?_
  refine x_getR (r := 1) (r2 := 24) C dX8_digestCrossings_74 kfX8_32 rfl rfl (by decide) ?_
  refine x_getI (r := 24) C dX8_digestCrossings_77 kfX8_154 rfl ?_
  refine x_icmp_gt (tgt := 117) C dX8_digestCrossings_80 (by decide) (fun c => ?_) (fun c => ?_)
  · rw [if_pos c] at hf
    refine x_lload_n (i := 3) 1 C dX8_digestCrossings_117 rfl rfl ?_
    obtain ⟨rfl, rfl⟩ := rtn hf
    exact B.2.2.2.2.2.2.1 _ rfl rfl _ _ dX8_digestCrossings_118
  · rw [if_neg c] at hf
    refine x_ldc2 (v := 31) C dX8_digestCrossings_83 kkX8_271 ?_
    refine x_lload_n (i := 3) 1 C dX8_digestCrossings_86 rfl rfl ?_
    refine x_lmul C dX8_digestCrossings_87 ?_
    refine x_aload_n (i := 0) 0 C dX8_digestCrossings_88 rfl rfl ?_
    refine x_iload 2 C dX8_digestCrossings_89 rfl ?_
    obtain ⟨z1, e1, hf⟩ := bnd hf
    refine x_callV (r := 1) (As := [.int x5]) (rest := [.long (31 * l3)]) C dX8_digestCrossings_91 kmX8_334 miX8_gap (ctX8_gap (lo X) (qo X) N h x5 z1.1 z1.2 e1) rfl rfl ⟨Nat.le_trans (by decide) B.2.2.2.1, Nat.le_trans (by decide) B.2.2.2.2.1⟩ (by simp [cat_i, cat_l, rf_cat]) rfl ?_
    refine x_i2l C dX8_digestCrossings_94 ?_
    refine x_ladd C dX8_digestCrossings_95 ?_
    refine x_lstore_n (i := 3) (lv' := [(3, .long ((31 * l3) + z1.1.toInt64)), (0, rf (qo X) 1), (5, .int x5)]) C dX8_digestCrossings_96 rfl (by decide) rfl ?_
    refine x_ldc2 (v := 31) C dX8_digestCrossings_97 kkX8_271 ?_
    refine x_lload_n (i := 3) 0 C dX8_digestCrossings_100 rfl rfl ?_
    refine x_lmul C dX8_digestCrossings_101 ?_
    refine x_aload_n (i := 0) 1 C dX8_digestCrossings_102 rfl rfl ?_
    refine x_iload 2 C dX8_digestCrossings_103 rfl ?_
    obtain ⟨z2, e2, hf⟩ := bnd hf
    refine x_callV (r := 1) (As := [.int x5]) (rest := [.long (31 * ((31 * l3) + z1.1.toInt64))]) C dX8_digestCrossings_105 kmX8_337 miX8_taken (ctX8_taken (lo X) (qo X) N z1.2 x5 z2.1 z2.2 e2) rfl rfl ⟨Nat.le_trans (by decide) B.2.2.2.1, Nat.le_trans (by decide) B.2.2.2.2.1⟩ (by simp [cat_i, cat_l, rf_cat]) rfl ?_
    refine x_i2l C dX8_digestCrossings_108 ?_
    refine x_ladd C dX8_digestCrossings_109 ?_
    refine x_lstore_n (i := 3) (lv' := [(3, .long ((31 * ((31 * l3) + z1.1.toInt64)) + z2.1.toInt64)), (0, rf (qo X) 1), (5, .int x5)]) C dX8_digestCrossings_110 rfl (by decide) rfl ?_
    refine x_iinc (v := x5 + 1) (lv' := [(5, .int (x5 + 1)), (3, .long ((31 * ((31 * l3) + z1.1.toInt64)) + z2.1.toInt64)), (0, rf (qo X) 1)]) 2 C dX8_digestCrossings_111 rfl rfl (by decide) rfl ?_
    refine x_goto (tgt := 71) C dX8_digestCrossings_114 (by decide) ?_
    refine x_lv [2, 1, 0] rfl ?_
    exact HK71 z2.2 ((31 * ((31 * l3) + z1.1.toInt64)) + z2.1.toInt64) (x5 + 1) hf
def fX8_digestCrossings_L71 (N : Nat) : Nat → pH → Int64 → Int32 → Option (Int64 × pH)
  | 0 => fun _ _ _ => none
  | n + 1 => fX8_digestCrossings_B71 N (fX8_digestCrossings_L71 N n)
theorem tX8_digestCrossings_L71 {X : Xt} {v : Int64} {h' : pH} (N : Nat) (B : Bd (lo X) (qo X) cX8_digestCrossings RX8 7 (some .long) 5 120 (some (.long v)) h' X) : ∀ (n : Nat) (h : pH) (l3 : Int64) (x5 : Int32), fX8_digestCrossings_L71 N n h l3 x5 = some (v, h') → Wx X 7 71 [(0, rf (qo X) 1), (3, .long l3), (5, .int x5)] [] h := by
  intro n
  induction n with
  | zero => intro h l3 x5 hf; exact absurd (show (none : Option (Int64 × pH)) = some (v, h') from hf) (fun z => by cases z)
  | succ n ih => intro h l3 x5 hf; exact tX8_digestCrossings_B71 N (fX8_digestCrossings_L71 N n) ih h l3 x5 B hf
def fX8_digestCrossings_B34 (N : Nat) (k5 : pH → Int64 → Int32 → Option (Int64 × pH)) (k34 : pH → Int64 → Int32 → Int32 → Option (Int64 × pH)) (h : pH) (l3 : Int64) (x5 : Int32) (x6 : Int32) : Option (Int64 × pH) :=
  if 2 < x6 then (k5 h l3 (x5 + 1)) else ((fX8_comes N h x5 x6).bind fun z1 => (k34 z1.2 ((31 * l3) + z1.1.toInt64) x5 (x6 + 1)))
set_option maxRecDepth 100000 in
set_option maxHeartbeats 4000000 in
theorem tX8_digestCrossings_B34 {X : Xt} {v : Int64} {h' : pH} (N : Nat) (k5 : pH → Int64 → Int32 → Option (Int64 × pH)) (k34 : pH → Int64 → Int32 → Int32 → Option (Int64 × pH)) (HK5 : ∀ (h : pH) (l3 : Int64) (x5 : Int32), k5 h l3 x5 = some (v, h') → Wx X 7 5 [(0, rf (qo X) 1), (3, .long l3), (5, .int x5)] [] h) (HK34 : ∀ (h : pH) (l3 : Int64) (x5 : Int32) (x6 : Int32), k34 h l3 x5 x6 = some (v, h') → Wx X 7 34 [(0, rf (qo X) 1), (3, .long l3), (5, .int x5), (6, .int x6)] [] h) (h : pH) (l3 : Int64) (x5 : Int32) (x6 : Int32) (B : Bd (lo X) (qo X) cX8_digestCrossings RX8 7 (some .long) 5 120 (some (.long v)) h' X) (hf : fX8_digestCrossings_B34 N k5 k34 h l3 x5 x6 = some (v, h')) : Wx X 7 34 [(0, rf (qo X) 1), (3, .long l3), (5, .int x5), (6, .int x6)] [] h := by
  have C := B.1
  unfold fX8_digestCrossings_B34 at hf
  refine x_iload 3 C dX8_digestCrossings_34 rfl ?_
  refine x_iconst (v := 2) C dX8_digestCrossings_36 (by decide) ?_
  refine x_icmp_gt (tgt := 62) C dX8_digestCrossings_37 (by decide) (fun c => ?_) (fun c => ?_)
  · rw [if_pos c] at hf
    refine x_iinc (v := x5 + 1) (lv' := [(5, .int (x5 + 1)), (0, rf (qo X) 1), (3, .long l3), (6, .int x6)]) 2 C dX8_digestCrossings_62 rfl rfl (by decide) rfl ?_
    refine x_goto (tgt := 5) C dX8_digestCrossings_65 (by decide) ?_
    refine x_lv [1, 2, 0] rfl ?_
    exact HK5 h l3 (x5 + 1) hf
  · rw [if_neg c] at hf
    refine x_ldc2 (v := 31) C dX8_digestCrossings_40 kkX8_271 ?_
    refine x_lload_n (i := 3) 1 C dX8_digestCrossings_43 rfl rfl ?_
    refine x_lmul C dX8_digestCrossings_44 ?_
    refine x_aload_n (i := 0) 0 C dX8_digestCrossings_45 rfl rfl ?_
    refine x_iload 2 C dX8_digestCrossings_46 rfl ?_
    refine x_iload 3 C dX8_digestCrossings_48 rfl ?_
    obtain ⟨z1, e1, hf⟩ := bnd hf
    refine x_callV (r := 1) (As := [.int x5, .int x6]) (rest := [.long (31 * l3)]) C dX8_digestCrossings_50 kmX8_331 miX8_comes (ctX8_comes (lo X) (qo X) N h x5 x6 z1.1 z1.2 e1) rfl rfl ⟨Nat.le_trans (by decide) B.2.2.2.1, Nat.le_trans (by decide) B.2.2.2.2.1⟩ (by simp [cat_i, cat_l, rf_cat]) rfl ?_
    refine x_i2l C dX8_digestCrossings_53 ?_
    refine x_ladd C dX8_digestCrossings_54 ?_
    refine x_lstore_n (i := 3) (lv' := [(3, .long ((31 * l3) + z1.1.toInt64)), (0, rf (qo X) 1), (5, .int x5), (6, .int x6)]) C dX8_digestCrossings_55 rfl (by decide) rfl ?_
    refine x_iinc (v := x6 + 1) (lv' := [(6, .int (x6 + 1)), (3, .long ((31 * l3) + z1.1.toInt64)), (0, rf (qo X) 1), (5, .int x5)]) 3 C dX8_digestCrossings_56 rfl rfl (by decide) rfl ?_
    refine x_goto (tgt := 34) C dX8_digestCrossings_59 (by decide) ?_
    refine x_lv [2, 1, 3, 0] rfl ?_
    exact HK34 z1.2 ((31 * l3) + z1.1.toInt64) x5 (x6 + 1) hf
def fX8_digestCrossings_L34 (N : Nat) (k5 : pH → Int64 → Int32 → Option (Int64 × pH)) : Nat → pH → Int64 → Int32 → Int32 → Option (Int64 × pH)
  | 0 => fun _ _ _ _ => none
  | n + 1 => fX8_digestCrossings_B34 N k5 (fX8_digestCrossings_L34 N k5 n)
theorem tX8_digestCrossings_L34 {X : Xt} {v : Int64} {h' : pH} (N : Nat) (k5 : pH → Int64 → Int32 → Option (Int64 × pH)) (HK5 : ∀ (h : pH) (l3 : Int64) (x5 : Int32), k5 h l3 x5 = some (v, h') → Wx X 7 5 [(0, rf (qo X) 1), (3, .long l3), (5, .int x5)] [] h) (B : Bd (lo X) (qo X) cX8_digestCrossings RX8 7 (some .long) 5 120 (some (.long v)) h' X) : ∀ (n : Nat) (h : pH) (l3 : Int64) (x5 : Int32) (x6 : Int32), fX8_digestCrossings_L34 N k5 n h l3 x5 x6 = some (v, h') → Wx X 7 34 [(0, rf (qo X) 1), (3, .long l3), (5, .int x5), (6, .int x6)] [] h := by
  intro n
  induction n with
  | zero => intro h l3 x5 x6 hf; exact absurd (show (none : Option (Int64 × pH)) = some (v, h') from hf) (fun z => by cases z)
  | succ n ih => intro h l3 x5 x6 hf; exact tX8_digestCrossings_B34 N k5 (fX8_digestCrossings_L34 N k5 n) HK5 ih h l3 x5 x6 B hf
def fX8_digestCrossings_B5 (N : Nat) (k5 : pH → Int64 → Int32 → Option (Int64 × pH)) (h : pH) (l3 : Int64) (x5 : Int32) : Option (Int64 × pH) :=
  if (h.1 24 1) ≤ x5 then (fX8_digestCrossings_L71 N N h l3 0) else ((fX8_crossing N h x5).bind fun z1 => (fX8_digestCrossings_L34 N k5 N z1.2 ((31 * l3) + z1.1.toInt64) x5 0))
set_option maxRecDepth 100000 in
set_option maxHeartbeats 4000000 in
theorem tX8_digestCrossings_B5 {X : Xt} {v : Int64} {h' : pH} (N : Nat) (k5 : pH → Int64 → Int32 → Option (Int64 × pH)) (HK5 : ∀ (h : pH) (l3 : Int64) (x5 : Int32), k5 h l3 x5 = some (v, h') → Wx X 7 5 [(0, rf (qo X) 1), (3, .long l3), (5, .int x5)] [] h) (h : pH) (l3 : Int64) (x5 : Int32) (B : Bd (lo X) (qo X) cX8_digestCrossings RX8 7 (some .long) 5 120 (some (.long v)) h' X) (hf : fX8_digestCrossings_B5 N k5 h l3 x5 = some (v, h')) : Wx X 7 5 [(0, rf (qo X) 1), (3, .long l3), (5, .int x5)] [] h := by
  have C := B.1
  unfold fX8_digestCrossings_B5 at hf
  refine x_iload 2 C dX8_digestCrossings_5 rfl ?_
  refine x_aload_n (i := 0) 0 C dX8_digestCrossings_7 rfl rfl ?_
  refine x_getR (r := 1) (r2 := 24) C dX8_digestCrossings_8 kfX8_32 rfl rfl (by decide) ?_
  refine x_getI (r := 24) C dX8_digestCrossings_11 kfX8_154 rfl ?_
  refine x_icmp_ge (tgt := 68) C dX8_digestCrossings_14 (by decide) (fun c => ?_) (fun c => ?_)
  · rw [if_pos c] at hf
    refine x_iconst (v := 0) C dX8_digestCrossings_68 (by decide) ?_
    refine x_istore (lv' := [(5, .int 0), (0, rf (qo X) 1), (3, .long l3)]) C dX8_digestCrossings_69 (by decide) rfl ?_
    refine x_lv [1, 2, 0] rfl ?_
    exact tX8_digestCrossings_L71 N  B N h l3 0 hf
  · rw [if_neg c] at hf
    refine x_ldc2 (v := 31) C dX8_digestCrossings_17 kkX8_271 ?_
    refine x_lload_n (i := 3) 1 C dX8_digestCrossings_20 rfl rfl ?_
    refine x_lmul C dX8_digestCrossings_21 ?_
    refine x_aload_n (i := 0) 0 C dX8_digestCrossings_22 rfl rfl ?_
    refine x_iload 2 C dX8_digestCrossings_23 rfl ?_
    obtain ⟨z1, e1, hf⟩ := bnd hf
    refine x_callV (r := 1) (As := [.int x5]) (rest := [.long (31 * l3)]) C dX8_digestCrossings_25 kmX8_329 miX8_crossing (ctX8_crossing (lo X) (qo X) N h x5 z1.1 z1.2 e1) rfl rfl ⟨Nat.le_trans (by decide) B.2.2.2.1, Nat.le_trans (by decide) B.2.2.2.2.1⟩ (by simp [cat_i, cat_l, rf_cat]) rfl ?_
    refine x_i2l C dX8_digestCrossings_28 ?_
    refine x_ladd C dX8_digestCrossings_29 ?_
    refine x_lstore_n (i := 3) (lv' := [(3, .long ((31 * l3) + z1.1.toInt64)), (0, rf (qo X) 1), (5, .int x5)]) C dX8_digestCrossings_30 rfl (by decide) rfl ?_
    refine x_iconst (v := 0) C dX8_digestCrossings_31 (by decide) ?_
    refine x_istore (lv' := [(6, .int 0), (3, .long ((31 * l3) + z1.1.toInt64)), (0, rf (qo X) 1), (5, .int x5)]) C dX8_digestCrossings_32 (by decide) rfl ?_
    refine x_lv [2, 1, 3, 0] rfl ?_
    exact tX8_digestCrossings_L34 N k5 HK5  B N z1.2 ((31 * l3) + z1.1.toInt64) x5 0 hf
def fX8_digestCrossings_L5 (N : Nat) : Nat → pH → Int64 → Int32 → Option (Int64 × pH)
  | 0 => fun _ _ _ => none
  | n + 1 => fX8_digestCrossings_B5 N (fX8_digestCrossings_L5 N n)
theorem tX8_digestCrossings_L5 {X : Xt} {v : Int64} {h' : pH} (N : Nat) (B : Bd (lo X) (qo X) cX8_digestCrossings RX8 7 (some .long) 5 120 (some (.long v)) h' X) : ∀ (n : Nat) (h : pH) (l3 : Int64) (x5 : Int32), fX8_digestCrossings_L5 N n h l3 x5 = some (v, h') → Wx X 7 5 [(0, rf (qo X) 1), (3, .long l3), (5, .int x5)] [] h := by
  intro n
  induction n with
  | zero => intro h l3 x5 hf; exact absurd (show (none : Option (Int64 × pH)) = some (v, h') from hf) (fun z => by cases z)
  | succ n ih => intro h l3 x5 hf; exact tX8_digestCrossings_B5 N (fX8_digestCrossings_L5 N n) ih h l3 x5 B hf
def fX8_digestCrossings (N : Nat) (h : pH) (l1 : Int64) : Option (Int64 × pH) :=
  fX8_digestCrossings_L5 N N h l1 0
set_option maxRecDepth 100000 in
set_option maxHeartbeats 4000000 in
theorem tX8_digestCrossings {X : Xt} {v : Int64} {h' : pH} (N : Nat) (h : pH) (l1 : Int64) (B : Bd (lo X) (qo X) cX8_digestCrossings RX8 7 (some .long) 5 120 (some (.long v)) h' X) (hf : fX8_digestCrossings N h l1 = some (v, h')) : Wx X 7 0 [(0, rf (qo X) 1), (1, .long l1)] [] h := by
  have C := B.1
  unfold fX8_digestCrossings at hf
  refine x_lload_n (i := 1) 1 C dX8_digestCrossings_0 rfl rfl ?_
  refine x_lstore_n (i := 3) (lv' := [(3, .long l1), (0, rf (qo X) 1), (1, .long l1)]) C dX8_digestCrossings_1 rfl (by decide) rfl ?_
  refine x_iconst (v := 0) C dX8_digestCrossings_2 (by decide) ?_
  refine x_istore (lv' := [(5, .int 0), (3, .long l1), (0, rf (qo X) 1), (1, .long l1)]) C dX8_digestCrossings_3 (by decide) rfl ?_
  refine x_lv [2, 1, 0] rfl ?_
  exact tX8_digestCrossings_L5 N  B N h l1 0 hf
theorem ctX8_digestCrossings (l : Launch) (q : Nat → Nat) (N : Nat) (h : pH) (l1 : Int64) (v : Int64) (h' : pH) (hf : fX8_digestCrossings N h l1 = some (v, h')) : Ctr l q yX8_digestCrossings cX8_digestCrossings 7 (some .long) 5 120 [rf q 1, .long l1] h h' (some (.long v)) := by
  refine ct_of (own := RX8) (lv := [(0, rf q 1), (1, .long l1)]) (by decide +kernel) rfl (by simp [lg_sl, rf_cat, cat_i, cat_l]) (by first | rfl | simp [lv_args, rf_cat, cat_i, cat_l]) ?_
  intro X B
  obtain rfl := B.2.1
  obtain rfl := B.2.2.1
  exact tX8_digestCrossings N h l1 B hf
def fX8_digest_B135 (N : Nat) (k135 : pH → Int64 → Int32 → Option (Int64 × pH)) (h : pH) (l1 : Int64) (x3 : Int32) : Option (Int64 × pH) :=
  if 4 ≤ x3 then ((fX8_began N h).bind fun z1 => ((fX8_ask N z1.2).bind fun z2 => ((fX8_week N z2.2 7 30 0).bind fun z3 => ((fX8_week N z3.2 7 30 1).bind fun z4 => (some ((31 * ((31 * ((31 * ((31 * l1) + z1.1.toInt64)) + z2.1.toInt64)) + z3.1.toInt64)) + z4.1.toInt64, z4.2)))))) else ((fX8_rule N h x3).bind fun z5 => (k135 z5.2 ((31 * l1) + z5.1.toInt64) (x3 + 1)))
set_option maxRecDepth 100000 in
set_option maxHeartbeats 4000000 in
theorem tX8_digest_B135 {X : Xt} {v : Int64} {h' : pH} (N : Nat) (k135 : pH → Int64 → Int32 → Option (Int64 × pH)) (HK135 : ∀ (h : pH) (l1 : Int64) (x3 : Int32), k135 h l1 x3 = some (v, h') → Wx X 4 135 [(0, rf (qo X) 1), (1, .long l1), (3, .int x3)] [] h) (h : pH) (l1 : Int64) (x3 : Int32) (B : Bd (lo X) (qo X) cX8_digest RX8 4 (some .long) 6 148 (some (.long v)) h' X) (hf : fX8_digest_B135 N k135 h l1 x3 = some (v, h')) : Wx X 4 135 [(0, rf (qo X) 1), (1, .long l1), (3, .int x3)] [] h := by
  have C := B.1
  unfold fX8_digest_B135 at hf
  refine x_iload_n (i := 3) 2 C dX8_digest_135 rfl rfl ?_
  refine x_iconst (v := 4) C dX8_digest_136 (by decide) ?_
  refine x_icmp_ge (tgt := 159) C dX8_digest_137 (by decide) (fun c => ?_) (fun c => ?_)
  · rw [if_pos c] at hf
    refine x_ldc2 (v := 31) C dX8_digest_159 kkX8_271 ?_
    refine x_lload_n (i := 1) 1 C dX8_digest_162 rfl rfl ?_
    refine x_lmul C dX8_digest_163 ?_
    refine x_aload_n (i := 0) 0 C dX8_digest_164 rfl rfl ?_
    obtain ⟨z1, e1, hf⟩ := bnd hf
    refine x_callV (r := 1) (As := []) (rest := [.long (31 * l1)]) C dX8_digest_165 kmX8_300 miX8_began (ctX8_began (lo X) (qo X) N h z1.1 z1.2 e1) rfl rfl ⟨Nat.le_trans (by decide) B.2.2.2.1, Nat.le_trans (by decide) B.2.2.2.2.1⟩ (by simp [cat_i, cat_l, rf_cat]) rfl ?_
    refine x_i2l C dX8_digest_168 ?_
    refine x_ladd C dX8_digest_169 ?_
    refine x_lstore_n (i := 1) (lv' := [(1, .long ((31 * l1) + z1.1.toInt64)), (0, rf (qo X) 1), (3, .int x3)]) C dX8_digest_170 rfl (by decide) rfl ?_
    refine x_ldc2 (v := 31) C dX8_digest_171 kkX8_271 ?_
    refine x_lload_n (i := 1) 0 C dX8_digest_174 rfl rfl ?_
    refine x_lmul C dX8_digest_175 ?_
    refine x_aload_n (i := 0) 1 C dX8_digest_176 rfl rfl ?_
    obtain ⟨z2, e2, hf⟩ := bnd hf
    refine x_callV (r := 1) (As := []) (rest := [.long (31 * ((31 * l1) + z1.1.toInt64))]) C dX8_digest_177 kmX8_303 miX8_ask (ctX8_ask (lo X) (qo X) N z1.2 z2.1 z2.2 e2) rfl rfl ⟨Nat.le_trans (by decide) B.2.2.2.1, Nat.le_trans (by decide) B.2.2.2.2.1⟩ (by simp [cat_i, cat_l, rf_cat]) rfl ?_
    refine x_i2l C dX8_digest_180 ?_
    refine x_ladd C dX8_digest_181 ?_
    refine x_lstore_n (i := 1) (lv' := [(1, .long ((31 * ((31 * l1) + z1.1.toInt64)) + z2.1.toInt64)), (0, rf (qo X) 1), (3, .int x3)]) C dX8_digest_182 rfl (by decide) rfl ?_
    refine x_ldc2 (v := 31) C dX8_digest_183 kkX8_271 ?_
    refine x_lload_n (i := 1) 0 C dX8_digest_186 rfl rfl ?_
    refine x_lmul C dX8_digest_187 ?_
    refine x_aload_n (i := 0) 1 C dX8_digest_188 rfl rfl ?_
    refine x_bipush (v := 7) C dX8_digest_189 (by decide) ?_
    refine x_bipush (v := 30) C dX8_digest_191 (by decide) ?_
    refine x_iconst (v := 0) C dX8_digest_193 (by decide) ?_
    obtain ⟨z3, e3, hf⟩ := bnd hf
    refine x_callV (r := 1) (As := [.int 7, .int 30, .int 0]) (rest := [.long (31 * ((31 * ((31 * l1) + z1.1.toInt64)) + z2.1.toInt64))]) C dX8_digest_194 kmX8_306 miX8_week (ctX8_week (lo X) (qo X) N z2.2 7 30 0 z3.1 z3.2 e3) rfl rfl ⟨Nat.le_trans (by decide) B.2.2.2.1, Nat.le_trans (by decide) B.2.2.2.2.1⟩ (by simp [cat_i, cat_l, rf_cat]) rfl ?_
    refine x_i2l C dX8_digest_197 ?_
    refine x_ladd C dX8_digest_198 ?_
    refine x_lstore_n (i := 1) (lv' := [(1, .long ((31 * ((31 * ((31 * l1) + z1.1.toInt64)) + z2.1.toInt64)) + z3.1.toInt64)), (0, rf (qo X) 1), (3, .int x3)]) C dX8_digest_199 rfl (by decide) rfl ?_
    refine x_ldc2 (v := 31) C dX8_digest_200 kkX8_271 ?_
    refine x_lload_n (i := 1) 0 C dX8_digest_203 rfl rfl ?_
    refine x_lmul C dX8_digest_204 ?_
    refine x_aload_n (i := 0) 1 C dX8_digest_205 rfl rfl ?_
    refine x_bipush (v := 7) C dX8_digest_206 (by decide) ?_
    refine x_bipush (v := 30) C dX8_digest_208 (by decide) ?_
    refine x_iconst (v := 1) C dX8_digest_210 (by decide) ?_
    obtain ⟨z4, e4, hf⟩ := bnd hf
    refine x_callV (r := 1) (As := [.int 7, .int 30, .int 1]) (rest := [.long (31 * ((31 * ((31 * ((31 * l1) + z1.1.toInt64)) + z2.1.toInt64)) + z3.1.toInt64))]) C dX8_digest_211 kmX8_306 miX8_week (ctX8_week (lo X) (qo X) N z3.2 7 30 1 z4.1 z4.2 e4) rfl rfl ⟨Nat.le_trans (by decide) B.2.2.2.1, Nat.le_trans (by decide) B.2.2.2.2.1⟩ (by simp [cat_i, cat_l, rf_cat]) rfl ?_
    refine x_i2l C dX8_digest_214 ?_
    refine x_ladd C dX8_digest_215 ?_
    obtain ⟨rfl, rfl⟩ := rtn hf
    exact B.2.2.2.2.2.2.1 _ rfl rfl _ _ dX8_digest_216
  · rw [if_neg c] at hf
    refine x_ldc2 (v := 31) C dX8_digest_140 kkX8_271 ?_
    refine x_lload_n (i := 1) 1 C dX8_digest_143 rfl rfl ?_
    refine x_lmul C dX8_digest_144 ?_
    refine x_aload_n (i := 0) 0 C dX8_digest_145 rfl rfl ?_
    refine x_iload_n (i := 3) 2 C dX8_digest_146 rfl rfl ?_
    obtain ⟨z5, e5, hf⟩ := bnd hf
    refine x_callV (r := 1) (As := [.int x3]) (rest := [.long (31 * l1)]) C dX8_digest_147 kmX8_297 miX8_rule (ctX8_rule (lo X) (qo X) N h x3 z5.1 z5.2 e5) rfl rfl ⟨Nat.le_trans (by decide) B.2.2.2.1, Nat.le_trans (by decide) B.2.2.2.2.1⟩ (by simp [cat_i, cat_l, rf_cat]) rfl ?_
    refine x_i2l C dX8_digest_150 ?_
    refine x_ladd C dX8_digest_151 ?_
    refine x_lstore_n (i := 1) (lv' := [(1, .long ((31 * l1) + z5.1.toInt64)), (0, rf (qo X) 1), (3, .int x3)]) C dX8_digest_152 rfl (by decide) rfl ?_
    refine x_iinc (v := x3 + 1) (lv' := [(3, .int (x3 + 1)), (1, .long ((31 * l1) + z5.1.toInt64)), (0, rf (qo X) 1)]) 2 C dX8_digest_153 rfl rfl (by decide) rfl ?_
    refine x_goto (tgt := 135) C dX8_digest_156 (by decide) ?_
    refine x_lv [2, 1, 0] rfl ?_
    exact HK135 z5.2 ((31 * l1) + z5.1.toInt64) (x3 + 1) hf
def fX8_digest_L135 (N : Nat) : Nat → pH → Int64 → Int32 → Option (Int64 × pH)
  | 0 => fun _ _ _ => none
  | n + 1 => fX8_digest_B135 N (fX8_digest_L135 N n)
theorem tX8_digest_L135 {X : Xt} {v : Int64} {h' : pH} (N : Nat) (B : Bd (lo X) (qo X) cX8_digest RX8 4 (some .long) 6 148 (some (.long v)) h' X) : ∀ (n : Nat) (h : pH) (l1 : Int64) (x3 : Int32), fX8_digest_L135 N n h l1 x3 = some (v, h') → Wx X 4 135 [(0, rf (qo X) 1), (1, .long l1), (3, .int x3)] [] h := by
  intro n
  induction n with
  | zero => intro h l1 x3 hf; exact absurd (show (none : Option (Int64 × pH)) = some (v, h') from hf) (fun z => by cases z)
  | succ n ih => intro h l1 x3 hf; exact tX8_digest_B135 N (fX8_digest_L135 N n) ih h l1 x3 B hf
def fX8_digest_B109 (N : Nat) (k109 : pH → Int64 → Int32 → Option (Int64 × pH)) (h : pH) (l1 : Int64) (x3 : Int32) : Option (Int64 × pH) :=
  if 3 < x3 then (fX8_digest_L135 N N h l1 0) else ((fX8_order N h x3).bind fun z1 => (k109 z1.2 ((31 * l1) + z1.1.toInt64) (x3 + 1)))
set_option maxRecDepth 100000 in
set_option maxHeartbeats 4000000 in
theorem tX8_digest_B109 {X : Xt} {v : Int64} {h' : pH} (N : Nat) (k109 : pH → Int64 → Int32 → Option (Int64 × pH)) (HK109 : ∀ (h : pH) (l1 : Int64) (x3 : Int32), k109 h l1 x3 = some (v, h') → Wx X 4 109 [(0, rf (qo X) 1), (1, .long l1), (3, .int x3)] [] h) (h : pH) (l1 : Int64) (x3 : Int32) (B : Bd (lo X) (qo X) cX8_digest RX8 4 (some .long) 6 148 (some (.long v)) h' X) (hf : fX8_digest_B109 N k109 h l1 x3 = some (v, h')) : Wx X 4 109 [(0, rf (qo X) 1), (1, .long l1), (3, .int x3)] [] h := by
  have C := B.1
  unfold fX8_digest_B109 at hf
  refine x_iload_n (i := 3) 2 C dX8_digest_109 rfl rfl ?_
  refine x_iconst (v := 3) C dX8_digest_110 (by decide) ?_
  refine x_icmp_gt (tgt := 133) C dX8_digest_111 (by decide) (fun c => ?_) (fun c => ?_)
  · rw [if_pos c] at hf
    refine x_iconst (v := 0) C dX8_digest_133 (by decide) ?_
    refine x_istore_n (i := 3) (lv' := [(3, .int 0), (0, rf (qo X) 1), (1, .long l1)]) C dX8_digest_134 rfl (by decide) rfl ?_
    refine x_lv [1, 2, 0] rfl ?_
    exact tX8_digest_L135 N  B N h l1 0 hf
  · rw [if_neg c] at hf
    refine x_ldc2 (v := 31) C dX8_digest_114 kkX8_271 ?_
    refine x_lload_n (i := 1) 1 C dX8_digest_117 rfl rfl ?_
    refine x_lmul C dX8_digest_118 ?_
    refine x_aload_n (i := 0) 0 C dX8_digest_119 rfl rfl ?_
    refine x_iload_n (i := 3) 2 C dX8_digest_120 rfl rfl ?_
    obtain ⟨z1, e1, hf⟩ := bnd hf
    refine x_callV (r := 1) (As := [.int x3]) (rest := [.long (31 * l1)]) C dX8_digest_121 kmX8_294 miX8_order (ctX8_order (lo X) (qo X) N h x3 z1.1 z1.2 e1) rfl rfl ⟨Nat.le_trans (by decide) B.2.2.2.1, Nat.le_trans (by decide) B.2.2.2.2.1⟩ (by simp [cat_i, cat_l, rf_cat]) rfl ?_
    refine x_i2l C dX8_digest_124 ?_
    refine x_ladd C dX8_digest_125 ?_
    refine x_lstore_n (i := 1) (lv' := [(1, .long ((31 * l1) + z1.1.toInt64)), (0, rf (qo X) 1), (3, .int x3)]) C dX8_digest_126 rfl (by decide) rfl ?_
    refine x_iinc (v := x3 + 1) (lv' := [(3, .int (x3 + 1)), (1, .long ((31 * l1) + z1.1.toInt64)), (0, rf (qo X) 1)]) 2 C dX8_digest_127 rfl rfl (by decide) rfl ?_
    refine x_goto (tgt := 109) C dX8_digest_130 (by decide) ?_
    refine x_lv [2, 1, 0] rfl ?_
    exact HK109 z1.2 ((31 * l1) + z1.1.toInt64) (x3 + 1) hf
def fX8_digest_L109 (N : Nat) : Nat → pH → Int64 → Int32 → Option (Int64 × pH)
  | 0 => fun _ _ _ => none
  | n + 1 => fX8_digest_B109 N (fX8_digest_L109 N n)
theorem tX8_digest_L109 {X : Xt} {v : Int64} {h' : pH} (N : Nat) (B : Bd (lo X) (qo X) cX8_digest RX8 4 (some .long) 6 148 (some (.long v)) h' X) : ∀ (n : Nat) (h : pH) (l1 : Int64) (x3 : Int32), fX8_digest_L109 N n h l1 x3 = some (v, h') → Wx X 4 109 [(0, rf (qo X) 1), (1, .long l1), (3, .int x3)] [] h := by
  intro n
  induction n with
  | zero => intro h l1 x3 hf; exact absurd (show (none : Option (Int64 × pH)) = some (v, h') from hf) (fun z => by cases z)
  | succ n ih => intro h l1 x3 hf; exact tX8_digest_B109 N (fX8_digest_L109 N n) ih h l1 x3 B hf
def fX8_digest_B37 (N : Nat) (k37 : pH → Int64 → Int32 → Option (Int64 × pH)) (h : pH) (l1 : Int64) (x3 : Int32) : Option (Int64 × pH) :=
  if 3 ≤ x3 then ((fX8_digestPlanks N h l1).bind fun z1 => ((fX8_digestCrossers N z1.2 z1.1).bind fun z2 => ((fX8_digestCrossings N z2.2 z2.1).bind fun z3 => ((fX8_stuck N z3.2).bind fun z4 => ((fX8_worn N z4.2).bind fun z5 => (fX8_digest_L109 N N z5.2 ((31 * ((31 * z3.1) + z4.1.toInt64)) + z5.1.toInt64) 0)))))) else ((fX8_fault N h x3).bind fun z6 => (k37 z6.2 ((31 * l1) + z6.1.toInt64) (x3 + 1)))
set_option maxRecDepth 100000 in
set_option maxHeartbeats 4000000 in
theorem tX8_digest_B37 {X : Xt} {v : Int64} {h' : pH} (N : Nat) (k37 : pH → Int64 → Int32 → Option (Int64 × pH)) (HK37 : ∀ (h : pH) (l1 : Int64) (x3 : Int32), k37 h l1 x3 = some (v, h') → Wx X 4 37 [(0, rf (qo X) 1), (1, .long l1), (3, .int x3)] [] h) (h : pH) (l1 : Int64) (x3 : Int32) (B : Bd (lo X) (qo X) cX8_digest RX8 4 (some .long) 6 148 (some (.long v)) h' X) (hf : fX8_digest_B37 N k37 h l1 x3 = some (v, h')) : Wx X 4 37 [(0, rf (qo X) 1), (1, .long l1), (3, .int x3)] [] h := by
  have C := B.1
  unfold fX8_digest_B37 at hf
  refine x_iload_n (i := 3) 2 C dX8_digest_37 rfl rfl ?_
  refine x_aload_n (i := 0) 0 C dX8_digest_38 rfl rfl ?_
  refine x_getR (r := 1) (r2 := 2) C dX8_digest_39 kfX8_11 rfl rfl (by decide) ?_
  refine x_alen4 (r := 2) (v := 3) C dX8_digest_42 rfl rfl ?_
  refine x_icmp_ge (tgt := 65) C dX8_digest_43 (by decide) (fun c => ?_) (fun c => ?_)
  · rw [if_pos c] at hf
    refine x_aload_n (i := 0) 0 C dX8_digest_65 rfl rfl ?_
    refine x_lload_n (i := 1) 1 C dX8_digest_66 rfl rfl ?_
    obtain ⟨z1, e1, hf⟩ := bnd hf
    refine x_callV (r := 1) (As := [.long l1]) (rest := []) C dX8_digest_67 kmX8_278 miX8_digestPlanks (ctX8_digestPlanks (lo X) (qo X) N h l1 z1.1 z1.2 e1) rfl rfl ⟨Nat.le_trans (by decide) B.2.2.2.1, Nat.le_trans (by decide) B.2.2.2.2.1⟩ (by simp [cat_i, cat_l, rf_cat]) rfl ?_
    refine x_lstore_n (i := 1) (lv' := [(1, .long z1.1), (0, rf (qo X) 1), (3, .int x3)]) C dX8_digest_70 rfl (by decide) rfl ?_
    refine x_aload_n (i := 0) 1 C dX8_digest_71 rfl rfl ?_
    refine x_lload_n (i := 1) 0 C dX8_digest_72 rfl rfl ?_
    obtain ⟨z2, e2, hf⟩ := bnd hf
    refine x_callV (r := 1) (As := [.long z1.1]) (rest := []) C dX8_digest_73 kmX8_282 miX8_digestCrossers (ctX8_digestCrossers (lo X) (qo X) N z1.2 z1.1 z2.1 z2.2 e2) rfl rfl ⟨Nat.le_trans (by decide) B.2.2.2.1, Nat.le_trans (by decide) B.2.2.2.2.1⟩ (by simp [cat_i, cat_l, rf_cat]) rfl ?_
    refine x_lstore_n (i := 1) (lv' := [(1, .long z2.1), (0, rf (qo X) 1), (3, .int x3)]) C dX8_digest_76 rfl (by decide) rfl ?_
    refine x_aload_n (i := 0) 1 C dX8_digest_77 rfl rfl ?_
    refine x_lload_n (i := 1) 0 C dX8_digest_78 rfl rfl ?_
    obtain ⟨z3, e3, hf⟩ := bnd hf
    refine x_callV (r := 1) (As := [.long z2.1]) (rest := []) C dX8_digest_79 kmX8_285 miX8_digestCrossings (ctX8_digestCrossings (lo X) (qo X) N z2.2 z2.1 z3.1 z3.2 e3) rfl rfl ⟨Nat.le_trans (by decide) B.2.2.2.1, Nat.le_trans (by decide) B.2.2.2.2.1⟩ (by simp [cat_i, cat_l, rf_cat]) rfl ?_
    refine x_lstore_n (i := 1) (lv' := [(1, .long z3.1), (0, rf (qo X) 1), (3, .int x3)]) C dX8_digest_82 rfl (by decide) rfl ?_
    refine x_ldc2 (v := 31) C dX8_digest_83 kkX8_271 ?_
    refine x_lload_n (i := 1) 0 C dX8_digest_86 rfl rfl ?_
    refine x_lmul C dX8_digest_87 ?_
    refine x_aload_n (i := 0) 1 C dX8_digest_88 rfl rfl ?_
    obtain ⟨z4, e4, hf⟩ := bnd hf
    refine x_callV (r := 1) (As := []) (rest := [.long (31 * z3.1)]) C dX8_digest_89 kmX8_288 miX8_stuck (ctX8_stuck (lo X) (qo X) N z3.2 z4.1 z4.2 e4) rfl rfl ⟨Nat.le_trans (by decide) B.2.2.2.1, Nat.le_trans (by decide) B.2.2.2.2.1⟩ (by simp [cat_i, cat_l, rf_cat]) rfl ?_
    refine x_i2l C dX8_digest_92 ?_
    refine x_ladd C dX8_digest_93 ?_
    refine x_lstore_n (i := 1) (lv' := [(1, .long ((31 * z3.1) + z4.1.toInt64)), (0, rf (qo X) 1), (3, .int x3)]) C dX8_digest_94 rfl (by decide) rfl ?_
    refine x_ldc2 (v := 31) C dX8_digest_95 kkX8_271 ?_
    refine x_lload_n (i := 1) 0 C dX8_digest_98 rfl rfl ?_
    refine x_lmul C dX8_digest_99 ?_
    refine x_aload_n (i := 0) 1 C dX8_digest_100 rfl rfl ?_
    obtain ⟨z5, e5, hf⟩ := bnd hf
    refine x_callV (r := 1) (As := []) (rest := [.long (31 * ((31 * z3.1) + z4.1.toInt64))]) C dX8_digest_101 kmX8_291 miX8_worn (ctX8_worn (lo X) (qo X) N z4.2 z5.1 z5.2 e5) rfl rfl ⟨Nat.le_trans (by decide) B.2.2.2.1, Nat.le_trans (by decide) B.2.2.2.2.1⟩ (by simp [cat_i, cat_l, rf_cat]) rfl ?_
    refine x_i2l C dX8_digest_104 ?_
    refine x_ladd C dX8_digest_105 ?_
    refine x_lstore_n (i := 1) (lv' := [(1, .long ((31 * ((31 * z3.1) + z4.1.toInt64)) + z5.1.toInt64)), (0, rf (qo X) 1), (3, .int x3)]) C dX8_digest_106 rfl (by decide) rfl ?_
    refine x_iconst (v := 0) C dX8_digest_107 (by decide) ?_
    refine x_istore_n (i := 3) (lv' := [(3, .int 0), (1, .long ((31 * ((31 * z3.1) + z4.1.toInt64)) + z5.1.toInt64)), (0, rf (qo X) 1)]) C dX8_digest_108 rfl (by decide) rfl ?_
    refine x_lv [2, 1, 0] rfl ?_
    exact tX8_digest_L109 N  B N z5.2 ((31 * ((31 * z3.1) + z4.1.toInt64)) + z5.1.toInt64) 0 hf
  · rw [if_neg c] at hf
    refine x_ldc2 (v := 31) C dX8_digest_46 kkX8_271 ?_
    refine x_lload_n (i := 1) 1 C dX8_digest_49 rfl rfl ?_
    refine x_lmul C dX8_digest_50 ?_
    refine x_aload_n (i := 0) 0 C dX8_digest_51 rfl rfl ?_
    refine x_iload_n (i := 3) 2 C dX8_digest_52 rfl rfl ?_
    obtain ⟨z6, e6, hf⟩ := bnd hf
    refine x_callV (r := 1) (As := [.int x3]) (rest := [.long (31 * l1)]) C dX8_digest_53 kmX8_275 miX8_fault (ctX8_fault (lo X) (qo X) N h x3 z6.1 z6.2 e6) rfl rfl ⟨Nat.le_trans (by decide) B.2.2.2.1, Nat.le_trans (by decide) B.2.2.2.2.1⟩ (by simp [cat_i, cat_l, rf_cat]) rfl ?_
    refine x_i2l C dX8_digest_56 ?_
    refine x_ladd C dX8_digest_57 ?_
    refine x_lstore_n (i := 1) (lv' := [(1, .long ((31 * l1) + z6.1.toInt64)), (0, rf (qo X) 1), (3, .int x3)]) C dX8_digest_58 rfl (by decide) rfl ?_
    refine x_iinc (v := x3 + 1) (lv' := [(3, .int (x3 + 1)), (1, .long ((31 * l1) + z6.1.toInt64)), (0, rf (qo X) 1)]) 2 C dX8_digest_59 rfl rfl (by decide) rfl ?_
    refine x_goto (tgt := 37) C dX8_digest_62 (by decide) ?_
    refine x_lv [2, 1, 0] rfl ?_
    exact HK37 z6.2 ((31 * l1) + z6.1.toInt64) (x3 + 1) hf
def fX8_digest_L37 (N : Nat) : Nat → pH → Int64 → Int32 → Option (Int64 × pH)
  | 0 => fun _ _ _ => none
  | n + 1 => fX8_digest_B37 N (fX8_digest_L37 N n)
theorem tX8_digest_L37 {X : Xt} {v : Int64} {h' : pH} (N : Nat) (B : Bd (lo X) (qo X) cX8_digest RX8 4 (some .long) 6 148 (some (.long v)) h' X) : ∀ (n : Nat) (h : pH) (l1 : Int64) (x3 : Int32), fX8_digest_L37 N n h l1 x3 = some (v, h') → Wx X 4 37 [(0, rf (qo X) 1), (1, .long l1), (3, .int x3)] [] h := by
  intro n
  induction n with
  | zero => intro h l1 x3 hf; exact absurd (show (none : Option (Int64 × pH)) = some (v, h') from hf) (fun z => by cases z)
  | succ n ih => intro h l1 x3 hf; exact tX8_digest_B37 N (fX8_digest_L37 N n) ih h l1 x3 B hf
def fX8_digest_B10 (N : Nat) (k10 : pH → Int64 → Int32 → Option (Int64 × pH)) (h : pH) (l1 : Int64) (x3 : Int32) : Option (Int64 × pH) :=
  if 7 < x3 then (fX8_digest_L37 N N h l1 0) else ((fX8_count N h x3).bind fun z1 => (k10 z1.2 ((31 * l1) + z1.1.toInt64) (x3 + 1)))
set_option maxRecDepth 100000 in
set_option maxHeartbeats 4000000 in
theorem tX8_digest_B10 {X : Xt} {v : Int64} {h' : pH} (N : Nat) (k10 : pH → Int64 → Int32 → Option (Int64 × pH)) (HK10 : ∀ (h : pH) (l1 : Int64) (x3 : Int32), k10 h l1 x3 = some (v, h') → Wx X 4 10 [(0, rf (qo X) 1), (1, .long l1), (3, .int x3)] [] h) (h : pH) (l1 : Int64) (x3 : Int32) (B : Bd (lo X) (qo X) cX8_digest RX8 4 (some .long) 6 148 (some (.long v)) h' X) (hf : fX8_digest_B10 N k10 h l1 x3 = some (v, h')) : Wx X 4 10 [(0, rf (qo X) 1), (1, .long l1), (3, .int x3)] [] h := by
  have C := B.1
  unfold fX8_digest_B10 at hf
  refine x_iload_n (i := 3) 2 C dX8_digest_10 rfl rfl ?_
  refine x_bipush (v := 7) C dX8_digest_11 (by decide) ?_
  refine x_icmp_gt (tgt := 35) C dX8_digest_13 (by decide) (fun c => ?_) (fun c => ?_)
  · rw [if_pos c] at hf
    refine x_iconst (v := 0) C dX8_digest_35 (by decide) ?_
    refine x_istore_n (i := 3) (lv' := [(3, .int 0), (0, rf (qo X) 1), (1, .long l1)]) C dX8_digest_36 rfl (by decide) rfl ?_
    refine x_lv [1, 2, 0] rfl ?_
    exact tX8_digest_L37 N  B N h l1 0 hf
  · rw [if_neg c] at hf
    refine x_ldc2 (v := 31) C dX8_digest_16 kkX8_271 ?_
    refine x_lload_n (i := 1) 1 C dX8_digest_19 rfl rfl ?_
    refine x_lmul C dX8_digest_20 ?_
    refine x_aload_n (i := 0) 0 C dX8_digest_21 rfl rfl ?_
    refine x_iload_n (i := 3) 2 C dX8_digest_22 rfl rfl ?_
    obtain ⟨z1, e1, hf⟩ := bnd hf
    refine x_callV (r := 1) (As := [.int x3]) (rest := [.long (31 * l1)]) C dX8_digest_23 kmX8_273 miX8_count (ctX8_count (lo X) (qo X) N h x3 z1.1 z1.2 e1) rfl rfl ⟨Nat.le_trans (by decide) B.2.2.2.1, Nat.le_trans (by decide) B.2.2.2.2.1⟩ (by simp [cat_i, cat_l, rf_cat]) rfl ?_
    refine x_i2l C dX8_digest_26 ?_
    refine x_ladd C dX8_digest_27 ?_
    refine x_lstore_n (i := 1) (lv' := [(1, .long ((31 * l1) + z1.1.toInt64)), (0, rf (qo X) 1), (3, .int x3)]) C dX8_digest_28 rfl (by decide) rfl ?_
    refine x_iinc (v := x3 + 1) (lv' := [(3, .int (x3 + 1)), (1, .long ((31 * l1) + z1.1.toInt64)), (0, rf (qo X) 1)]) 2 C dX8_digest_29 rfl rfl (by decide) rfl ?_
    refine x_goto (tgt := 10) C dX8_digest_32 (by decide) ?_
    refine x_lv [2, 1, 0] rfl ?_
    exact HK10 z1.2 ((31 * l1) + z1.1.toInt64) (x3 + 1) hf
def fX8_digest_L10 (N : Nat) : Nat → pH → Int64 → Int32 → Option (Int64 × pH)
  | 0 => fun _ _ _ => none
  | n + 1 => fX8_digest_B10 N (fX8_digest_L10 N n)
theorem tX8_digest_L10 {X : Xt} {v : Int64} {h' : pH} (N : Nat) (B : Bd (lo X) (qo X) cX8_digest RX8 4 (some .long) 6 148 (some (.long v)) h' X) : ∀ (n : Nat) (h : pH) (l1 : Int64) (x3 : Int32), fX8_digest_L10 N n h l1 x3 = some (v, h') → Wx X 4 10 [(0, rf (qo X) 1), (1, .long l1), (3, .int x3)] [] h := by
  intro n
  induction n with
  | zero => intro h l1 x3 hf; exact absurd (show (none : Option (Int64 × pH)) = some (v, h') from hf) (fun z => by cases z)
  | succ n ih => intro h l1 x3 hf; exact tX8_digest_B10 N (fX8_digest_L10 N n) ih h l1 x3 B hf
def fX8_digest (N : Nat) (h : pH)  : Option (Int64 × pH) :=
  (fX8_freshen N h).bind fun z1 => (fX8_digest_L10 N N z1.2 17 0)
set_option maxRecDepth 100000 in
set_option maxHeartbeats 4000000 in
theorem tX8_digest {X : Xt} {v : Int64} {h' : pH} (N : Nat) (h : pH)  (B : Bd (lo X) (qo X) cX8_digest RX8 4 (some .long) 6 148 (some (.long v)) h' X) (hf : fX8_digest N h  = some (v, h')) : Wx X 4 0 [(0, rf (qo X) 1)] [] h := by
  have C := B.1
  unfold fX8_digest at hf
  refine x_aload_n (i := 0) 0 C dX8_digest_0 rfl rfl ?_
  obtain ⟨z1, e1, hf⟩ := bnd hf
  refine x_callV (r := 1) (As := []) (rest := []) C dX8_digest_1 kmX8_110 miX8_freshen (ctX8_freshen (lo X) (qo X) N h z1.1 z1.2 e1) rfl rfl ⟨Nat.le_trans (by decide) B.2.2.2.1, Nat.le_trans (by decide) B.2.2.2.2.1⟩ (by simp [cat_i, cat_l, rf_cat]) rfl ?_
  refine x_ldc2 (v := 17) C dX8_digest_4 kkX8_269 ?_
  refine x_lstore_n (i := 1) (lv' := [(1, .long 17), (0, rf (qo X) 1)]) C dX8_digest_7 rfl (by decide) rfl ?_
  refine x_iconst (v := 0) C dX8_digest_8 (by decide) ?_
  refine x_istore_n (i := 3) (lv' := [(3, .int 0), (1, .long 17), (0, rf (qo X) 1)]) C dX8_digest_9 rfl (by decide) rfl ?_
  refine x_lv [2, 1, 0] rfl ?_
  exact tX8_digest_L10 N  B N z1.2 17 0 hf
theorem ctX8_digest (l : Launch) (q : Nat → Nat) (N : Nat) (h : pH)  (v : Int64) (h' : pH) (hf : fX8_digest N h  = some (v, h')) : Ctr l q yX8_digest cX8_digest 4 (some .long) 6 148 [rf q 1] h h' (some (.long v)) := by
  refine ct_of (own := RX8) (lv := [(0, rf q 1)]) (by decide +kernel) rfl (by simp [lg_sl, rf_cat, cat_i, cat_l]) (by first | rfl | simp [lv_args, rf_cat, cat_i, cat_l]) ?_
  intro X B
  obtain rfl := B.2.1
  obtain rfl := B.2.2.1
  exact tX8_digest N h  B hf
