def fX9_isSeen_b66 (N : Nat) (k8 : pH → Int32 → Int32 → Option (Int32 × pH)) (h : pH) (x2 : Int32) (xs0 : Int32) : Option (Int32 × pH) :=
  k8 h xs0 (x2 + 1)
set_option maxRecDepth 100000 in
set_option maxHeartbeats 4000000 in
theorem tX9_isSeen_b66 {X : Xt} {v : Int32} {h' : pH} (N : Nat) (k8 : pH → Int32 → Int32 → Option (Int32 × pH)) (HK8 : ∀ (h : pH) (x1 : Int32) (x2 : Int32), k8 h x1 x2 = some (v, h') → Wx X 3 8 [(0, rf (qo X) 49), (1, .int x1), (2, .int x2)] [] h) (h : pH) (x2 : Int32) (xs0 : Int32) (B : Bd (lo X) (qo X) cX9_isSeen RX9 3 (some .boolean) 4 90 (some (.int v)) h' X) (hf : fX9_isSeen_b66 N k8 h x2 xs0 = some (v, h')) : Wx X 3 66 [(0, rf (qo X) 49), (2, .int x2)] [.int xs0] h := by
  have C := B.1
  unfold fX9_isSeen_b66 at hf
  refine x_istore_n (i := 1) (lv' := [(1, .int xs0), (0, rf (qo X) 49), (2, .int x2)]) C dX9_isSeen_66 rfl (by decide) rfl ?_
  refine x_iinc (v := x2 + 1) (lv' := [(2, .int (x2 + 1)), (1, .int xs0), (0, rf (qo X) 49)]) 2 C dX9_isSeen_67 rfl rfl (by decide) rfl ?_
  refine x_goto (tgt := 8) C dX9_isSeen_70 (by decide) ?_
  refine x_lv [2, 1, 0] rfl ?_
  exact HK8 h xs0 (x2 + 1) hf
def fX9_isSeen_b65 (N : Nat) (k8 : pH → Int32 → Int32 → Option (Int32 × pH)) (h : pH) (x2 : Int32) : Option (Int32 × pH) :=
  fX9_isSeen_b66 N k8 h x2 0
set_option maxRecDepth 100000 in
set_option maxHeartbeats 4000000 in
theorem tX9_isSeen_b65 {X : Xt} {v : Int32} {h' : pH} (N : Nat) (k8 : pH → Int32 → Int32 → Option (Int32 × pH)) (HK8 : ∀ (h : pH) (x1 : Int32) (x2 : Int32), k8 h x1 x2 = some (v, h') → Wx X 3 8 [(0, rf (qo X) 49), (1, .int x1), (2, .int x2)] [] h) (h : pH) (x2 : Int32) (B : Bd (lo X) (qo X) cX9_isSeen RX9 3 (some .boolean) 4 90 (some (.int v)) h' X) (hf : fX9_isSeen_b65 N k8 h x2 = some (v, h')) : Wx X 3 65 [(0, rf (qo X) 49), (2, .int x2)] [] h := by
  have C := B.1
  unfold fX9_isSeen_b65 at hf
  refine x_iconst (v := 0) C dX9_isSeen_65 (by decide) ?_
  exact tX9_isSeen_b66 N k8 HK8 h x2 0 B hf
def fX9_isSeen_B8 (N : Nat) (k8 : pH → Int32 → Int32 → Option (Int32 × pH)) (h : pH) (x1 : Int32) (x2 : Int32) : Option (Int32 × pH) :=
  if (h.1 49 27) ≤ x2 then (if x1 = 0 ∨ x1 = 1 then (some (x1, h)) else none) else (if x1 = 0 then (fX9_isSeen_b65 N k8 h x2) else (if ix (2 * x2) 16 = true then (if (h.1 49 11) < (h.1 67 (2 * x2).toNatClampNeg) then (fX9_isSeen_b65 N k8 h x2) else (if ix (2 * x2) 16 = true then (if ix (h.1 67 (2 * x2).toNatClampNeg) 25 = true then (if ix ((2 * x2) + 1) 16 = true then (if (h.1 61 (h.1 67 (2 * x2).toNatClampNeg).toNatClampNeg) = (h.1 67 ((2 * x2) + 1).toNatClampNeg) then (fX9_isSeen_b66 N k8 h x2 1) else (fX9_isSeen_b65 N k8 h x2)) else none) else none) else none)) else none))
set_option maxRecDepth 100000 in
set_option maxHeartbeats 4000000 in
theorem tX9_isSeen_B8 {X : Xt} {v : Int32} {h' : pH} (N : Nat) (k8 : pH → Int32 → Int32 → Option (Int32 × pH)) (HK8 : ∀ (h : pH) (x1 : Int32) (x2 : Int32), k8 h x1 x2 = some (v, h') → Wx X 3 8 [(0, rf (qo X) 49), (1, .int x1), (2, .int x2)] [] h) (h : pH) (x1 : Int32) (x2 : Int32) (B : Bd (lo X) (qo X) cX9_isSeen RX9 3 (some .boolean) 4 90 (some (.int v)) h' X) (hf : fX9_isSeen_B8 N k8 h x1 x2 = some (v, h')) : Wx X 3 8 [(0, rf (qo X) 49), (1, .int x1), (2, .int x2)] [] h := by
  have C := B.1
  unfold fX9_isSeen_B8 at hf
  refine x_iload_n (i := 2) 2 C dX9_isSeen_8 rfl rfl ?_
  refine x_aload_n (i := 0) 0 C dX9_isSeen_9 rfl rfl ?_
  refine x_getI (r := 49) C dX9_isSeen_10 kfX9_241 rfl ?_
  refine x_icmp_ge (tgt := 73) C dX9_isSeen_13 (by decide) (fun c => ?_) (fun c => ?_)
  · rw [if_pos c] at hf
    refine x_iload_n (i := 1) 1 C dX9_isSeen_73 rfl rfl ?_
    obtain ⟨g1, hf⟩ := ife hf
    obtain ⟨rfl, rfl⟩ := rtn hf
    exact B.2.2.2.2.2.1 _ _ rfl rfl (nrB g1) _ _ dX9_isSeen_74
  · rw [if_neg c] at hf
    refine x_iload_n (i := 1) 1 C dX9_isSeen_16 rfl rfl ?_
    refine x_if_eq (tgt := 65) C dX9_isSeen_17 (by decide) (fun c => ?_) (fun c => ?_)
    · rw [if_pos c] at hf
      refine x_lv [0, 2] rfl ?_
      exact tX9_isSeen_b65 N k8 HK8 h x2 B hf
    · rw [if_neg c] at hf
      refine x_aload_n (i := 0) 0 C dX9_isSeen_20 rfl rfl ?_
      refine x_getR (r := 49) (r2 := 67) C dX9_isSeen_21 kfX9_61 rfl rfl (by decide) ?_
      refine x_iconst (v := 2) C dX9_isSeen_24 (by decide) ?_
      refine x_iload_n (i := 2) 2 C dX9_isSeen_25 rfl rfl ?_
      refine x_imul C dX9_isSeen_26 ?_
      obtain ⟨g2, hf⟩ := ife hf
      refine x_iald (r := 67) C dX9_isSeen_27 rfl g2 ?_
      refine x_aload_n (i := 0) 0 C dX9_isSeen_28 rfl rfl ?_
      refine x_getI (r := 49) C dX9_isSeen_29 kfX9_121 rfl ?_
      refine x_icmp_gt (tgt := 65) C dX9_isSeen_32 (by decide) (fun c => ?_) (fun c => ?_)
      · rw [if_pos c] at hf
        refine x_lv [0, 2] rfl ?_
        exact tX9_isSeen_b65 N k8 HK8 h x2 B hf
      · rw [if_neg c] at hf
        refine x_aload_n (i := 0) 0 C dX9_isSeen_35 rfl rfl ?_
        refine x_getR (r := 49) (r2 := 61) C dX9_isSeen_36 kfX9_43 rfl rfl (by decide) ?_
        refine x_aload_n (i := 0) 0 C dX9_isSeen_39 rfl rfl ?_
        refine x_getR (r := 49) (r2 := 67) C dX9_isSeen_40 kfX9_61 rfl rfl (by decide) ?_
        refine x_iconst (v := 2) C dX9_isSeen_43 (by decide) ?_
        refine x_iload_n (i := 2) 2 C dX9_isSeen_44 rfl rfl ?_
        refine x_imul C dX9_isSeen_45 ?_
        obtain ⟨g3, hf⟩ := ife hf
        refine x_iald (r := 67) C dX9_isSeen_46 rfl g3 ?_
        obtain ⟨g4, hf⟩ := ife hf
        refine x_iald (r := 61) C dX9_isSeen_47 rfl g4 ?_
        refine x_aload_n (i := 0) 0 C dX9_isSeen_48 rfl rfl ?_
        refine x_getR (r := 49) (r2 := 67) C dX9_isSeen_49 kfX9_61 rfl rfl (by decide) ?_
        refine x_iconst (v := 2) C dX9_isSeen_52 (by decide) ?_
        refine x_iload_n (i := 2) 2 C dX9_isSeen_53 rfl rfl ?_
        refine x_imul C dX9_isSeen_54 ?_
        refine x_iconst (v := 1) C dX9_isSeen_55 (by decide) ?_
        refine x_iadd C dX9_isSeen_56 ?_
        obtain ⟨g5, hf⟩ := ife hf
        refine x_iald (r := 67) C dX9_isSeen_57 rfl g5 ?_
        refine x_icmp_ne (tgt := 65) C dX9_isSeen_58 (by decide) (fun c => ?_) (fun c => ?_)
        · rw [if_neg c] at hf
          refine x_lv [0, 2] rfl ?_
          exact tX9_isSeen_b65 N k8 HK8 h x2 B hf
        · rw [if_pos c] at hf
          refine x_iconst (v := 1) C dX9_isSeen_61 (by decide) ?_
          refine x_goto (tgt := 66) C dX9_isSeen_62 (by decide) ?_
          refine x_lv [0, 2] rfl ?_
          exact tX9_isSeen_b66 N k8 HK8 h x2 1 B hf
def fX9_isSeen_L8 (N : Nat) : Nat → pH → Int32 → Int32 → Option (Int32 × pH)
  | 0 => fun _ _ _ => none
  | n + 1 => fX9_isSeen_B8 N (fX9_isSeen_L8 N n)
theorem tX9_isSeen_L8 {X : Xt} {v : Int32} {h' : pH} (N : Nat) (B : Bd (lo X) (qo X) cX9_isSeen RX9 3 (some .boolean) 4 90 (some (.int v)) h' X) : ∀ (n : Nat) (h : pH) (x1 : Int32) (x2 : Int32), fX9_isSeen_L8 N n h x1 x2 = some (v, h') → Wx X 3 8 [(0, rf (qo X) 49), (1, .int x1), (2, .int x2)] [] h := by
  intro n
  induction n with
  | zero => intro h x1 x2 hf; exact absurd (show (none : Option (Int32 × pH)) = some (v, h') from hf) (fun z => by cases z)
  | succ n ih => intro h x1 x2 hf; exact tX9_isSeen_B8 N (fX9_isSeen_L8 N n) ih h x1 x2 B hf
def fX9_isSeen (N : Nat) (h : pH)  : Option (Int32 × pH) :=
  (fX9_lives N h).bind fun z1 => (fX9_isSeen_L8 N N z1.2 1 0)
set_option maxRecDepth 100000 in
set_option maxHeartbeats 4000000 in
theorem tX9_isSeen {X : Xt} {v : Int32} {h' : pH} (N : Nat) (h : pH)  (B : Bd (lo X) (qo X) cX9_isSeen RX9 3 (some .boolean) 4 90 (some (.int v)) h' X) (hf : fX9_isSeen N h  = some (v, h')) : Wx X 3 0 [(0, rf (qo X) 49)] [] h := by
  have C := B.1
  unfold fX9_isSeen at hf
  refine x_aload_n (i := 0) 0 C dX9_isSeen_0 rfl rfl ?_
  obtain ⟨z1, e1, hf⟩ := bnd hf
  refine x_callV (r := 49) (As := []) (rest := []) C dX9_isSeen_1 kmX9_193 miX9_lives (ctX9_lives (lo X) (qo X) N h z1.1 z1.2 e1) rfl rfl ⟨Nat.le_trans (by decide) B.2.2.2.1, Nat.le_trans (by decide) B.2.2.2.2.1⟩ (by simp [cat_i, cat_l, rf_cat]) rfl ?_
  refine x_iconst (v := 1) C dX9_isSeen_4 (by decide) ?_
  refine x_istore_n (i := 1) (lv' := [(1, .int 1), (0, rf (qo X) 49)]) C dX9_isSeen_5 rfl (by decide) rfl ?_
  refine x_iconst (v := 0) C dX9_isSeen_6 (by decide) ?_
  refine x_istore_n (i := 2) (lv' := [(2, .int 0), (1, .int 1), (0, rf (qo X) 49)]) C dX9_isSeen_7 rfl (by decide) rfl ?_
  refine x_lv [2, 1, 0] rfl ?_
  exact tX9_isSeen_L8 N  B N z1.2 1 0 hf
theorem ctX9_isSeen (l : Launch) (q : Nat → Nat) (N : Nat) (h : pH)  (v : Int32) (h' : pH) (hf : fX9_isSeen N h  = some (v, h')) : Ctr l q yX9_isSeen cX9_isSeen 3 (some .boolean) 4 90 [rf q 49] h h' (some (.int v)) := by
  refine ct_of (own := RX9) (lv := [(0, rf q 49)]) (by decide +kernel) rfl (by simp [lg_sl, rf_cat, cat_i, cat_l]) (by first | rfl | simp [lv_args, rf_cat, cat_i, cat_l]) ?_
  intro X B
  obtain rfl := B.2.1
  obtain rfl := B.2.2.1
  exact tX9_isSeen N h  B hf
def fX9_ruleOf_b46 (N : Nat) (k12 : pH → Int32 → Int32 → Int32 → Int32 → Option (Int32 × pH)) (h : pH) (x1 : Int32) (x2 : Int32) (x4 : Int32) (xs0 : Int32) (xs1 : Int32) : Option (Int32 × pH) :=
  k12 h x1 x2 (xs1 ||| xs0) (x4 + 1)
set_option maxRecDepth 100000 in
set_option maxHeartbeats 4000000 in
theorem tX9_ruleOf_b46 {X : Xt} {v : Int32} {h' : pH} (N : Nat) (k12 : pH → Int32 → Int32 → Int32 → Int32 → Option (Int32 × pH)) (HK12 : ∀ (h : pH) (x1 : Int32) (x2 : Int32) (x3 : Int32) (x4 : Int32), k12 h x1 x2 x3 x4 = some (v, h') → Wx X 5 12 [(0, rf (qo X) 49), (1, .int x1), (2, .int x2), (3, .int x3), (4, .int x4)] [] h) (h : pH) (x1 : Int32) (x2 : Int32) (x4 : Int32) (xs0 : Int32) (xs1 : Int32) (B : Bd (lo X) (qo X) cX9_ruleOf RX9 5 (some .int) 5 112 (some (.int v)) h' X) (hf : fX9_ruleOf_b46 N k12 h x1 x2 x4 xs0 xs1 = some (v, h')) : Wx X 5 46 [(0, rf (qo X) 49), (1, .int x1), (2, .int x2), (4, .int x4)] [.int xs0, .int xs1] h := by
  have C := B.1
  unfold fX9_ruleOf_b46 at hf
  refine x_ior C dX9_ruleOf_46 ?_
  refine x_istore_n (i := 3) (lv' := [(3, .int (xs1 ||| xs0)), (0, rf (qo X) 49), (1, .int x1), (2, .int x2), (4, .int x4)]) C dX9_ruleOf_47 rfl (by decide) rfl ?_
  refine x_iinc (v := x4 + 1) (lv' := [(4, .int (x4 + 1)), (3, .int (xs1 ||| xs0)), (0, rf (qo X) 49), (1, .int x1), (2, .int x2)]) 4 C dX9_ruleOf_48 rfl rfl (by decide) rfl ?_
  refine x_goto (tgt := 12) C dX9_ruleOf_51 (by decide) ?_
  refine x_lv [2, 3, 4, 1, 0] rfl ?_
  exact HK12 h x1 x2 (xs1 ||| xs0) (x4 + 1) hf
def fX9_ruleOf_B12 (N : Nat) (k12 : pH → Int32 → Int32 → Int32 → Int32 → Option (Int32 × pH)) (h : pH) (x1 : Int32) (x2 : Int32) (x3 : Int32) (x4 : Int32) : Option (Int32 × pH) :=
  if 19 ≤ x4 then (if ix x1 4 = true then (some (x3, (pw h 60 x1.toNatClampNeg x2))) else none) else (if ix x1 4 = true then ((fX9_isSeen N (pw h 60 x1.toNatClampNeg (x4 - 9))).bind fun z1 => (if z1.1 = 0 then (fX9_ruleOf_b46 N k12 z1.2 x1 x2 x4 0 x3) else (fX9_ruleOf_b46 N k12 z1.2 x1 x2 x4 (1 <<< (x4 &&& 31)) x3))) else none)
set_option maxRecDepth 100000 in
set_option maxHeartbeats 4000000 in
theorem tX9_ruleOf_B12 {X : Xt} {v : Int32} {h' : pH} (N : Nat) (k12 : pH → Int32 → Int32 → Int32 → Int32 → Option (Int32 × pH)) (HK12 : ∀ (h : pH) (x1 : Int32) (x2 : Int32) (x3 : Int32) (x4 : Int32), k12 h x1 x2 x3 x4 = some (v, h') → Wx X 5 12 [(0, rf (qo X) 49), (1, .int x1), (2, .int x2), (3, .int x3), (4, .int x4)] [] h) (h : pH) (x1 : Int32) (x2 : Int32) (x3 : Int32) (x4 : Int32) (B : Bd (lo X) (qo X) cX9_ruleOf RX9 5 (some .int) 5 112 (some (.int v)) h' X) (hf : fX9_ruleOf_B12 N k12 h x1 x2 x3 x4 = some (v, h')) : Wx X 5 12 [(0, rf (qo X) 49), (1, .int x1), (2, .int x2), (3, .int x3), (4, .int x4)] [] h := by
  have C := B.1
  unfold fX9_ruleOf_B12 at hf
  refine x_iload 4 C dX9_ruleOf_12 rfl ?_
  refine x_bipush (v := 19) C dX9_ruleOf_14 (by decide) ?_
  refine x_icmp_ge (tgt := 54) C dX9_ruleOf_16 (by decide) (fun c => ?_) (fun c => ?_)
  · rw [if_pos c] at hf
    refine x_aload_n (i := 0) 0 C dX9_ruleOf_54 rfl rfl ?_
    refine x_getR (r := 49) (r2 := 60) C dX9_ruleOf_55 kfX9_40 rfl rfl (by decide) ?_
    refine x_iload_n (i := 1) 1 C dX9_ruleOf_58 rfl rfl ?_
    refine x_iload_n (i := 2) 2 C dX9_ruleOf_59 rfl rfl ?_
    obtain ⟨g1, hf⟩ := ife hf
    refine x_iast (r := 60) C dX9_ruleOf_60 rfl g1 ?_
    refine x_iload_n (i := 3) 3 C dX9_ruleOf_61 rfl rfl ?_
    obtain ⟨rfl, rfl⟩ := rtn hf
    exact B.2.2.2.2.2.1 _ _ rfl rfl rfl _ _ dX9_ruleOf_62
  · rw [if_neg c] at hf
    refine x_aload_n (i := 0) 0 C dX9_ruleOf_19 rfl rfl ?_
    refine x_getR (r := 49) (r2 := 60) C dX9_ruleOf_20 kfX9_40 rfl rfl (by decide) ?_
    refine x_iload_n (i := 1) 1 C dX9_ruleOf_23 rfl rfl ?_
    refine x_iload 4 C dX9_ruleOf_24 rfl ?_
    refine x_bipush (v := 9) C dX9_ruleOf_26 (by decide) ?_
    refine x_isub C dX9_ruleOf_28 ?_
    obtain ⟨g2, hf⟩ := ife hf
    refine x_iast (r := 60) C dX9_ruleOf_29 rfl g2 ?_
    refine x_iload_n (i := 3) 3 C dX9_ruleOf_30 rfl rfl ?_
    refine x_aload_n (i := 0) 0 C dX9_ruleOf_31 rfl rfl ?_
    obtain ⟨z1, e1, hf⟩ := bnd hf
    refine x_callV (r := 49) (As := []) (rest := [.int x3]) C dX9_ruleOf_32 kmX9_247 miX9_isSeen (ctX9_isSeen (lo X) (qo X) N (pw h 60 x1.toNatClampNeg (x4 - 9)) z1.1 z1.2 e1) rfl rfl ⟨Nat.le_trans (by decide) B.2.2.2.1, Nat.le_trans (by decide) B.2.2.2.2.1⟩ (by simp [cat_i, cat_l, rf_cat]) rfl ?_
    refine x_if_eq (tgt := 45) C dX9_ruleOf_35 (by decide) (fun c => ?_) (fun c => ?_)
    · rw [if_pos c] at hf
      refine x_iconst (v := 0) C dX9_ruleOf_45 (by decide) ?_
      refine x_lv [0, 1, 2, 4] rfl ?_
      exact tX9_ruleOf_b46 N k12 HK12 z1.2 x1 x2 x4 0 x3 B hf
    · rw [if_neg c] at hf
      refine x_iconst (v := 1) C dX9_ruleOf_38 (by decide) ?_
      refine x_iload 4 C dX9_ruleOf_39 rfl ?_
      refine x_ishl C dX9_ruleOf_41 ?_
      refine x_goto (tgt := 46) C dX9_ruleOf_42 (by decide) ?_
      refine x_lv [0, 1, 2, 4] rfl ?_
      exact tX9_ruleOf_b46 N k12 HK12 z1.2 x1 x2 x4 (1 <<< (x4 &&& 31)) x3 B hf
def fX9_ruleOf_L12 (N : Nat) : Nat → pH → Int32 → Int32 → Int32 → Int32 → Option (Int32 × pH)
  | 0 => fun _ _ _ _ _ => none
  | n + 1 => fX9_ruleOf_B12 N (fX9_ruleOf_L12 N n)
theorem tX9_ruleOf_L12 {X : Xt} {v : Int32} {h' : pH} (N : Nat) (B : Bd (lo X) (qo X) cX9_ruleOf RX9 5 (some .int) 5 112 (some (.int v)) h' X) : ∀ (n : Nat) (h : pH) (x1 : Int32) (x2 : Int32) (x3 : Int32) (x4 : Int32), fX9_ruleOf_L12 N n h x1 x2 x3 x4 = some (v, h') → Wx X 5 12 [(0, rf (qo X) 49), (1, .int x1), (2, .int x2), (3, .int x3), (4, .int x4)] [] h := by
  intro n
  induction n with
  | zero => intro h x1 x2 x3 x4 hf; exact absurd (show (none : Option (Int32 × pH)) = some (v, h') from hf) (fun z => by cases z)
  | succ n ih => intro h x1 x2 x3 x4 hf; exact tX9_ruleOf_B12 N (fX9_ruleOf_L12 N n) ih h x1 x2 x3 x4 B hf
def fX9_ruleOf (N : Nat) (h : pH) (x1 : Int32) : Option (Int32 × pH) :=
  if ix x1 4 = true then (fX9_ruleOf_L12 N N h x1 (h.1 60 x1.toNatClampNeg) 0 0) else none
set_option maxRecDepth 100000 in
set_option maxHeartbeats 4000000 in
theorem tX9_ruleOf {X : Xt} {v : Int32} {h' : pH} (N : Nat) (h : pH) (x1 : Int32) (B : Bd (lo X) (qo X) cX9_ruleOf RX9 5 (some .int) 5 112 (some (.int v)) h' X) (hf : fX9_ruleOf N h x1 = some (v, h')) : Wx X 5 0 [(0, rf (qo X) 49), (1, .int x1)] [] h := by
  have C := B.1
  unfold fX9_ruleOf at hf
  refine x_aload_n (i := 0) 0 C dX9_ruleOf_0 rfl rfl ?_
  refine x_getR (r := 49) (r2 := 60) C dX9_ruleOf_1 kfX9_40 rfl rfl (by decide) ?_
  refine x_iload_n (i := 1) 1 C dX9_ruleOf_4 rfl rfl ?_
  obtain ⟨g1, hf⟩ := ife hf
  refine x_iald (r := 60) C dX9_ruleOf_5 rfl g1 ?_
  refine x_istore_n (i := 2) (lv' := [(2, .int (h.1 60 x1.toNatClampNeg)), (0, rf (qo X) 49), (1, .int x1)]) C dX9_ruleOf_6 rfl (by decide) rfl ?_
  refine x_iconst (v := 0) C dX9_ruleOf_7 (by decide) ?_
  refine x_istore_n (i := 3) (lv' := [(3, .int 0), (2, .int (h.1 60 x1.toNatClampNeg)), (0, rf (qo X) 49), (1, .int x1)]) C dX9_ruleOf_8 rfl (by decide) rfl ?_
  refine x_iconst (v := 0) C dX9_ruleOf_9 (by decide) ?_
  refine x_istore (lv' := [(4, .int 0), (3, .int 0), (2, .int (h.1 60 x1.toNatClampNeg)), (0, rf (qo X) 49), (1, .int x1)]) C dX9_ruleOf_10 (by decide) rfl ?_
  refine x_lv [3, 4, 2, 1, 0] rfl ?_
  exact tX9_ruleOf_L12 N  B N h x1 (h.1 60 x1.toNatClampNeg) 0 0 hf
theorem ctX9_ruleOf (l : Launch) (q : Nat → Nat) (N : Nat) (h : pH) (x1 : Int32) (v : Int32) (h' : pH) (hf : fX9_ruleOf N h x1 = some (v, h')) : Ctr l q yX9_ruleOf cX9_ruleOf 5 (some .int) 5 112 [rf q 49, .int x1] h h' (some (.int v)) := by
  refine ct_of (own := RX9) (lv := [(0, rf q 49), (1, .int x1)]) (by decide +kernel) rfl (by simp [lg_sl, rf_cat, cat_i, cat_l]) (by first | rfl | simp [lv_args, rf_cat, cat_i, cat_l]) ?_
  intro X B
  obtain rfl := B.2.1
  obtain rfl := B.2.2.1
  exact tX9_ruleOf N h x1 B hf
def fX9_rule_b26 (N : Nat) (h : pH) (xs0 : Int32) : Option (Int32 × pH) :=
  some (xs0, h)
set_option maxRecDepth 100000 in
set_option maxHeartbeats 4000000 in
theorem tX9_rule_b26 {X : Xt} {v : Int32} {h' : pH} (N : Nat) (h : pH) (xs0 : Int32) (B : Bd (lo X) (qo X) cX9_rule RX9 2 (some .int) 6 136 (some (.int v)) h' X) (hf : fX9_rule_b26 N h xs0 = some (v, h')) : Wx X 2 26 [] [.int xs0] h := by
  have C := B.1
  unfold fX9_rule_b26 at hf
  obtain ⟨rfl, rfl⟩ := rtn hf
  exact B.2.2.2.2.2.1 _ _ rfl rfl rfl _ _ dX9_rule_26
def fX9_rule (N : Nat) (h : pH) (x1 : Int32) : Option (Int32 × pH) :=
  (fX9_find N h).bind fun z1 => ((fX9_in N z1.2 x1.toInt64 0 3).bind fun z2 => (if z2.1 = 0 then (fX9_rule_b26 N z2.2 (-2)) else ((fX9_ruleOf N z2.2 x1).bind fun z3 => (fX9_rule_b26 N z3.2 z3.1))))
set_option maxRecDepth 100000 in
set_option maxHeartbeats 4000000 in
theorem tX9_rule {X : Xt} {v : Int32} {h' : pH} (N : Nat) (h : pH) (x1 : Int32) (B : Bd (lo X) (qo X) cX9_rule RX9 2 (some .int) 6 136 (some (.int v)) h' X) (hf : fX9_rule N h x1 = some (v, h')) : Wx X 2 0 [(0, rf (qo X) 49), (1, .int x1)] [] h := by
  have C := B.1
  unfold fX9_rule at hf
  refine x_aload_n (i := 0) 0 C dX9_rule_0 rfl rfl ?_
  obtain ⟨z1, e1, hf⟩ := bnd hf
  refine x_callV (r := 49) (As := []) (rest := []) C dX9_rule_1 kmX9_196 miX9_find (ctX9_find (lo X) (qo X) N h z1.1 z1.2 e1) rfl rfl ⟨Nat.le_trans (by decide) B.2.2.2.1, Nat.le_trans (by decide) B.2.2.2.2.1⟩ (by simp [cat_i, cat_l, rf_cat]) rfl ?_
  refine x_iload_n (i := 1) 1 C dX9_rule_4 rfl rfl ?_
  refine x_i2l C dX9_rule_5 ?_
  refine x_lconst (v := 0) C dX9_rule_6 (by decide) ?_
  refine x_ldc2 (v := 3) C dX9_rule_7 kkX9_77 ?_
  obtain ⟨z2, e2, hf⟩ := bnd hf
  refine x_callS (As := [.long x1.toInt64, .long 0, .long 3]) (rest := []) C dX9_rule_10 kmX9_69 miX9_in (ctX9_in (lo X) (qo X) N z1.2 x1.toInt64 0 3 z2.1 z2.2 e2) rfl rfl ⟨Nat.le_trans (by decide) B.2.2.2.1, Nat.le_trans (by decide) B.2.2.2.2.1⟩ (by simp [cat_i, cat_l, rf_cat]) ?_
  refine x_if_eq (tgt := 24) C dX9_rule_13 (by decide) (fun c => ?_) (fun c => ?_)
  · rw [if_pos c] at hf
    refine x_bipush (v := (-2)) C dX9_rule_24 (by decide) ?_
    refine x_lv [] rfl ?_
    exact tX9_rule_b26 N z2.2 (-2) B hf
  · rw [if_neg c] at hf
    refine x_aload_n (i := 0) 0 C dX9_rule_16 rfl rfl ?_
    refine x_iload_n (i := 1) 1 C dX9_rule_17 rfl rfl ?_
    obtain ⟨z3, e3, hf⟩ := bnd hf
    refine x_callV (r := 49) (As := [.int x1]) (rest := []) C dX9_rule_18 kmX9_250 miX9_ruleOf (ctX9_ruleOf (lo X) (qo X) N z2.2 x1 z3.1 z3.2 e3) rfl rfl ⟨Nat.le_trans (by decide) B.2.2.2.1, Nat.le_trans (by decide) B.2.2.2.2.1⟩ (by simp [cat_i, cat_l, rf_cat]) rfl ?_
    refine x_goto (tgt := 26) C dX9_rule_21 (by decide) ?_
    refine x_lv [] rfl ?_
    exact tX9_rule_b26 N z3.2 z3.1 B hf
theorem ctX9_rule (l : Launch) (q : Nat → Nat) (N : Nat) (h : pH) (x1 : Int32) (v : Int32) (h' : pH) (hf : fX9_rule N h x1 = some (v, h')) : Ctr l q yX9_rule cX9_rule 2 (some .int) 6 136 [rf q 49, .int x1] h h' (some (.int v)) := by
  refine ct_of (own := RX9) (lv := [(0, rf q 49), (1, .int x1)]) (by decide +kernel) rfl (by simp [lg_sl, rf_cat, cat_i, cat_l]) (by first | rfl | simp [lv_args, rf_cat, cat_i, cat_l]) ?_
  intro X B
  obtain rfl := B.2.1
  obtain rfl := B.2.2.1
  exact tX9_rule N h x1 B hf
def fX9_beganNow_b41 (N : Nat) (k11 : pH → Int32 → Int32 → Int32 → Option (Int32 × pH)) (h : pH) (x1 : Int32) (x3 : Int32) (xs0 : Int32) (xs1 : Int32) : Option (Int32 × pH) :=
  k11 h x1 (xs1 ||| xs0) (x3 + 1)
set_option maxRecDepth 100000 in
set_option maxHeartbeats 4000000 in
theorem tX9_beganNow_b41 {X : Xt} {v : Int32} {h' : pH} (N : Nat) (k11 : pH → Int32 → Int32 → Int32 → Option (Int32 × pH)) (HK11 : ∀ (h : pH) (x1 : Int32) (x2 : Int32) (x3 : Int32), k11 h x1 x2 x3 = some (v, h') → Wx X 4 11 [(0, rf (qo X) 49), (1, .int x1), (2, .int x2), (3, .int x3)] [] h) (h : pH) (x1 : Int32) (x3 : Int32) (xs0 : Int32) (xs1 : Int32) (B : Bd (lo X) (qo X) cX9_beganNow RX9 4 (some .int) 5 112 (some (.int v)) h' X) (hf : fX9_beganNow_b41 N k11 h x1 x3 xs0 xs1 = some (v, h')) : Wx X 4 41 [(0, rf (qo X) 49), (1, .int x1), (3, .int x3)] [.int xs0, .int xs1] h := by
  have C := B.1
  unfold fX9_beganNow_b41 at hf
  refine x_ior C dX9_beganNow_41 ?_
  refine x_istore_n (i := 2) (lv' := [(2, .int (xs1 ||| xs0)), (0, rf (qo X) 49), (1, .int x1), (3, .int x3)]) C dX9_beganNow_42 rfl (by decide) rfl ?_
  refine x_iinc (v := x3 + 1) (lv' := [(3, .int (x3 + 1)), (2, .int (xs1 ||| xs0)), (0, rf (qo X) 49), (1, .int x1)]) 3 C dX9_beganNow_43 rfl rfl (by decide) rfl ?_
  refine x_goto (tgt := 11) C dX9_beganNow_46 (by decide) ?_
  refine x_lv [2, 3, 1, 0] rfl ?_
  exact HK11 h x1 (xs1 ||| xs0) (x3 + 1) hf
def fX9_beganNow_B11 (N : Nat) (k11 : pH → Int32 → Int32 → Int32 → Option (Int32 × pH)) (h : pH) (x1 : Int32) (x2 : Int32) (x3 : Int32) : Option (Int32 × pH) :=
  if (h.1 49 7) ≤ x3 then (if ix (1 : Int32) 2 = true then (some (x2, (pw h 59 (1 : Int32).toNatClampNeg x1))) else none) else (if ix (1 : Int32) 2 = true then ((fX9_isSeen N (pw h 59 (1 : Int32).toNatClampNeg x3)).bind fun z1 => (if z1.1 = 0 then (fX9_beganNow_b41 N k11 z1.2 x1 x3 0 x2) else (fX9_beganNow_b41 N k11 z1.2 x1 x3 (1 <<< (x3 &&& 31)) x2))) else none)
set_option maxRecDepth 100000 in
set_option maxHeartbeats 4000000 in
theorem tX9_beganNow_B11 {X : Xt} {v : Int32} {h' : pH} (N : Nat) (k11 : pH → Int32 → Int32 → Int32 → Option (Int32 × pH)) (HK11 : ∀ (h : pH) (x1 : Int32) (x2 : Int32) (x3 : Int32), k11 h x1 x2 x3 = some (v, h') → Wx X 4 11 [(0, rf (qo X) 49), (1, .int x1), (2, .int x2), (3, .int x3)] [] h) (h : pH) (x1 : Int32) (x2 : Int32) (x3 : Int32) (B : Bd (lo X) (qo X) cX9_beganNow RX9 4 (some .int) 5 112 (some (.int v)) h' X) (hf : fX9_beganNow_B11 N k11 h x1 x2 x3 = some (v, h')) : Wx X 4 11 [(0, rf (qo X) 49), (1, .int x1), (2, .int x2), (3, .int x3)] [] h := by
  have C := B.1
  unfold fX9_beganNow_B11 at hf
  refine x_iload_n (i := 3) 3 C dX9_beganNow_11 rfl rfl ?_
  refine x_aload_n (i := 0) 0 C dX9_beganNow_12 rfl rfl ?_
  refine x_getI (r := 49) C dX9_beganNow_13 kfX9_103 rfl ?_
  refine x_icmp_ge (tgt := 49) C dX9_beganNow_16 (by decide) (fun c => ?_) (fun c => ?_)
  · rw [if_pos c] at hf
    refine x_aload_n (i := 0) 0 C dX9_beganNow_49 rfl rfl ?_
    refine x_getR (r := 49) (r2 := 59) C dX9_beganNow_50 kfX9_37 rfl rfl (by decide) ?_
    refine x_iconst (v := 1) C dX9_beganNow_53 (by decide) ?_
    refine x_iload_n (i := 1) 1 C dX9_beganNow_54 rfl rfl ?_
    obtain ⟨g1, hf⟩ := ife hf
    refine x_iast (r := 59) C dX9_beganNow_55 rfl g1 ?_
    refine x_iload_n (i := 2) 2 C dX9_beganNow_56 rfl rfl ?_
    obtain ⟨rfl, rfl⟩ := rtn hf
    exact B.2.2.2.2.2.1 _ _ rfl rfl rfl _ _ dX9_beganNow_57
  · rw [if_neg c] at hf
    refine x_aload_n (i := 0) 0 C dX9_beganNow_19 rfl rfl ?_
    refine x_getR (r := 49) (r2 := 59) C dX9_beganNow_20 kfX9_37 rfl rfl (by decide) ?_
    refine x_iconst (v := 1) C dX9_beganNow_23 (by decide) ?_
    refine x_iload_n (i := 3) 3 C dX9_beganNow_24 rfl rfl ?_
    obtain ⟨g2, hf⟩ := ife hf
    refine x_iast (r := 59) C dX9_beganNow_25 rfl g2 ?_
    refine x_iload_n (i := 2) 2 C dX9_beganNow_26 rfl rfl ?_
    refine x_aload_n (i := 0) 0 C dX9_beganNow_27 rfl rfl ?_
    obtain ⟨z1, e1, hf⟩ := bnd hf
    refine x_callV (r := 49) (As := []) (rest := [.int x2]) C dX9_beganNow_28 kmX9_247 miX9_isSeen (ctX9_isSeen (lo X) (qo X) N (pw h 59 (1 : Int32).toNatClampNeg x3) z1.1 z1.2 e1) rfl rfl ⟨Nat.le_trans (by decide) B.2.2.2.1, Nat.le_trans (by decide) B.2.2.2.2.1⟩ (by simp [cat_i, cat_l, rf_cat]) rfl ?_
    refine x_if_eq (tgt := 40) C dX9_beganNow_31 (by decide) (fun c => ?_) (fun c => ?_)
    · rw [if_pos c] at hf
      refine x_iconst (v := 0) C dX9_beganNow_40 (by decide) ?_
      refine x_lv [0, 1, 3] rfl ?_
      exact tX9_beganNow_b41 N k11 HK11 z1.2 x1 x3 0 x2 B hf
    · rw [if_neg c] at hf
      refine x_iconst (v := 1) C dX9_beganNow_34 (by decide) ?_
      refine x_iload_n (i := 3) 3 C dX9_beganNow_35 rfl rfl ?_
      refine x_ishl C dX9_beganNow_36 ?_
      refine x_goto (tgt := 41) C dX9_beganNow_37 (by decide) ?_
      refine x_lv [0, 1, 3] rfl ?_
      exact tX9_beganNow_b41 N k11 HK11 z1.2 x1 x3 (1 <<< (x3 &&& 31)) x2 B hf
def fX9_beganNow_L11 (N : Nat) : Nat → pH → Int32 → Int32 → Int32 → Option (Int32 × pH)
  | 0 => fun _ _ _ _ => none
  | n + 1 => fX9_beganNow_B11 N (fX9_beganNow_L11 N n)
theorem tX9_beganNow_L11 {X : Xt} {v : Int32} {h' : pH} (N : Nat) (B : Bd (lo X) (qo X) cX9_beganNow RX9 4 (some .int) 5 112 (some (.int v)) h' X) : ∀ (n : Nat) (h : pH) (x1 : Int32) (x2 : Int32) (x3 : Int32), fX9_beganNow_L11 N n h x1 x2 x3 = some (v, h') → Wx X 4 11 [(0, rf (qo X) 49), (1, .int x1), (2, .int x2), (3, .int x3)] [] h := by
  intro n
  induction n with
  | zero => intro h x1 x2 x3 hf; exact absurd (show (none : Option (Int32 × pH)) = some (v, h') from hf) (fun z => by cases z)
  | succ n ih => intro h x1 x2 x3 hf; exact tX9_beganNow_B11 N (fX9_beganNow_L11 N n) ih h x1 x2 x3 B hf
def fX9_beganNow (N : Nat) (h : pH)  : Option (Int32 × pH) :=
  if ix (1 : Int32) 2 = true then (fX9_beganNow_L11 N N h (h.1 59 (1 : Int32).toNatClampNeg) 0 0) else none
set_option maxRecDepth 100000 in
set_option maxHeartbeats 4000000 in
theorem tX9_beganNow {X : Xt} {v : Int32} {h' : pH} (N : Nat) (h : pH)  (B : Bd (lo X) (qo X) cX9_beganNow RX9 4 (some .int) 5 112 (some (.int v)) h' X) (hf : fX9_beganNow N h  = some (v, h')) : Wx X 4 0 [(0, rf (qo X) 49)] [] h := by
  have C := B.1
  unfold fX9_beganNow at hf
  refine x_aload_n (i := 0) 0 C dX9_beganNow_0 rfl rfl ?_
  refine x_getR (r := 49) (r2 := 59) C dX9_beganNow_1 kfX9_37 rfl rfl (by decide) ?_
  refine x_iconst (v := 1) C dX9_beganNow_4 (by decide) ?_
  obtain ⟨g1, hf⟩ := ife hf
  refine x_iald (r := 59) C dX9_beganNow_5 rfl g1 ?_
  refine x_istore_n (i := 1) (lv' := [(1, .int (h.1 59 (1 : Int32).toNatClampNeg)), (0, rf (qo X) 49)]) C dX9_beganNow_6 rfl (by decide) rfl ?_
  refine x_iconst (v := 0) C dX9_beganNow_7 (by decide) ?_
  refine x_istore_n (i := 2) (lv' := [(2, .int 0), (1, .int (h.1 59 (1 : Int32).toNatClampNeg)), (0, rf (qo X) 49)]) C dX9_beganNow_8 rfl (by decide) rfl ?_
  refine x_iconst (v := 0) C dX9_beganNow_9 (by decide) ?_
  refine x_istore_n (i := 3) (lv' := [(3, .int 0), (2, .int 0), (1, .int (h.1 59 (1 : Int32).toNatClampNeg)), (0, rf (qo X) 49)]) C dX9_beganNow_10 rfl (by decide) rfl ?_
  refine x_lv [3, 2, 1, 0] rfl ?_
  exact tX9_beganNow_L11 N  B N h (h.1 59 (1 : Int32).toNatClampNeg) 0 0 hf
theorem ctX9_beganNow (l : Launch) (q : Nat → Nat) (N : Nat) (h : pH)  (v : Int32) (h' : pH) (hf : fX9_beganNow N h  = some (v, h')) : Ctr l q yX9_beganNow cX9_beganNow 4 (some .int) 5 112 [rf q 49] h h' (some (.int v)) := by
  refine ct_of (own := RX9) (lv := [(0, rf q 49)]) (by decide +kernel) rfl (by simp [lg_sl, rf_cat, cat_i, cat_l]) (by first | rfl | simp [lv_args, rf_cat, cat_i, cat_l]) ?_
  intro X B
  obtain rfl := B.2.1
  obtain rfl := B.2.2.1
  exact tX9_beganNow N h  B hf
def fX9_began (N : Nat) (h : pH)  : Option (Int32 × pH) :=
  (fX9_find N h).bind fun z1 => ((fX9_beganNow N z1.2).bind fun z2 => (some (z2.1, z2.2)))
set_option maxRecDepth 100000 in
set_option maxHeartbeats 4000000 in
theorem tX9_began {X : Xt} {v : Int32} {h' : pH} (N : Nat) (h : pH)  (B : Bd (lo X) (qo X) cX9_began RX9 1 (some .int) 6 135 (some (.int v)) h' X) (hf : fX9_began N h  = some (v, h')) : Wx X 1 0 [(0, rf (qo X) 49)] [] h := by
  have C := B.1
  unfold fX9_began at hf
  refine x_aload_n (i := 0) 0 C dX9_began_0 rfl rfl ?_
  obtain ⟨z1, e1, hf⟩ := bnd hf
  refine x_callV (r := 49) (As := []) (rest := []) C dX9_began_1 kmX9_196 miX9_find (ctX9_find (lo X) (qo X) N h z1.1 z1.2 e1) rfl rfl ⟨Nat.le_trans (by decide) B.2.2.2.1, Nat.le_trans (by decide) B.2.2.2.2.1⟩ (by simp [cat_i, cat_l, rf_cat]) rfl ?_
  refine x_aload_n (i := 0) 0 C dX9_began_4 rfl rfl ?_
  obtain ⟨z2, e2, hf⟩ := bnd hf
  refine x_callV (r := 49) (As := []) (rest := []) C dX9_began_5 kmX9_253 miX9_beganNow (ctX9_beganNow (lo X) (qo X) N z1.2 z2.1 z2.2 e2) rfl rfl ⟨Nat.le_trans (by decide) B.2.2.2.1, Nat.le_trans (by decide) B.2.2.2.2.1⟩ (by simp [cat_i, cat_l, rf_cat]) rfl ?_
  obtain ⟨rfl, rfl⟩ := rtn hf
  exact B.2.2.2.2.2.1 _ _ rfl rfl rfl _ _ dX9_began_8
theorem ctX9_began (l : Launch) (q : Nat → Nat) (N : Nat) (h : pH)  (v : Int32) (h' : pH) (hf : fX9_began N h  = some (v, h')) : Ctr l q yX9_began cX9_began 1 (some .int) 6 135 [rf q 49] h h' (some (.int v)) := by
  refine ct_of (own := RX9) (lv := [(0, rf q 49)]) (by decide +kernel) rfl (by simp [lg_sl, rf_cat, cat_i, cat_l]) (by first | rfl | simp [lv_args, rf_cat, cat_i, cat_l]) ?_
  intro X B
  obtain rfl := B.2.1
  obtain rfl := B.2.2.1
  exact tX9_began N h  B hf
def fX9_askNow_b215 (N : Nat) (k124 : pH → Int32 → Int32 → Int32 → Option (Int32 × pH)) (h : pH) (x3 : Int32) (x5 : Int32) (xs0 : Int32) : Option (Int32 × pH) :=
  k124 h x3 xs0 (x5 + 1)
set_option maxRecDepth 100000 in
set_option maxHeartbeats 4000000 in
theorem tX9_askNow_b215 {X : Xt} {v : Int32} {h' : pH} (N : Nat) (k124 : pH → Int32 → Int32 → Int32 → Option (Int32 × pH)) (HK124 : ∀ (h : pH) (x3 : Int32) (x4 : Int32) (x5 : Int32), k124 h x3 x4 x5 = some (v, h') → Wx X 8 124 [(0, rf (qo X) 49), (3, .int x3), (4, .int x4), (5, .int x5)] [] h) (h : pH) (x3 : Int32) (x5 : Int32) (xs0 : Int32) (B : Bd (lo X) (qo X) cX9_askNow RX9 8 (some .int) 6 135 (some (.int v)) h' X) (hf : fX9_askNow_b215 N k124 h x3 x5 xs0 = some (v, h')) : Wx X 8 215 [(0, rf (qo X) 49), (3, .int x3), (5, .int x5)] [.int xs0] h := by
  have C := B.1
  unfold fX9_askNow_b215 at hf
  refine x_istore (lv' := [(4, .int xs0), (0, rf (qo X) 49), (3, .int x3), (5, .int x5)]) C dX9_askNow_215 (by decide) rfl ?_
  refine x_iinc (v := x5 + 1) (lv' := [(5, .int (x5 + 1)), (4, .int xs0), (0, rf (qo X) 49), (3, .int x3)]) 3 C dX9_askNow_217 rfl rfl (by decide) rfl ?_
  refine x_goto (tgt := 124) C dX9_askNow_220 (by decide) ?_
  refine x_lv [2, 3, 1, 0] rfl ?_
  exact HK124 h x3 xs0 (x5 + 1) hf
def fX9_askNow_b202 (N : Nat) (k124 : pH → Int32 → Int32 → Int32 → Option (Int32 × pH)) (h : pH) (x4 : Int32) (x5 : Int32) (x6 : Int32) (x7 : Int32) (xs0 : Int32) : Option (Int32 × pH) :=
  if x7 = 0 then (fX9_askNow_b215 N k124 h xs0 x5 x4) else (fX9_askNow_b215 N k124 h xs0 x5 x6)
set_option maxRecDepth 100000 in
set_option maxHeartbeats 4000000 in
theorem tX9_askNow_b202 {X : Xt} {v : Int32} {h' : pH} (N : Nat) (k124 : pH → Int32 → Int32 → Int32 → Option (Int32 × pH)) (HK124 : ∀ (h : pH) (x3 : Int32) (x4 : Int32) (x5 : Int32), k124 h x3 x4 x5 = some (v, h') → Wx X 8 124 [(0, rf (qo X) 49), (3, .int x3), (4, .int x4), (5, .int x5)] [] h) (h : pH) (x4 : Int32) (x5 : Int32) (x6 : Int32) (x7 : Int32) (xs0 : Int32) (B : Bd (lo X) (qo X) cX9_askNow RX9 8 (some .int) 6 135 (some (.int v)) h' X) (hf : fX9_askNow_b202 N k124 h x4 x5 x6 x7 xs0 = some (v, h')) : Wx X 8 202 [(0, rf (qo X) 49), (4, .int x4), (5, .int x5), (6, .int x6), (7, .int x7)] [.int xs0] h := by
  have C := B.1
  unfold fX9_askNow_b202 at hf
  refine x_istore_n (i := 3) (lv' := [(3, .int xs0), (0, rf (qo X) 49), (4, .int x4), (5, .int x5), (6, .int x6), (7, .int x7)]) C dX9_askNow_202 rfl (by decide) rfl ?_
  refine x_iload 5 C dX9_askNow_203 rfl ?_
  refine x_if_eq (tgt := 213) C dX9_askNow_205 (by decide) (fun c => ?_) (fun c => ?_)
  · rw [if_pos c] at hf
    refine x_iload 2 C dX9_askNow_213 rfl ?_
    refine x_lv [1, 0, 3] rfl ?_
    exact tX9_askNow_b215 N k124 HK124 h xs0 x5 x4 B hf
  · rw [if_neg c] at hf
    refine x_iload 4 C dX9_askNow_208 rfl ?_
    refine x_goto (tgt := 215) C dX9_askNow_210 (by decide) ?_
    refine x_lv [1, 0, 3] rfl ?_
    exact tX9_askNow_b215 N k124 HK124 h xs0 x5 x6 B hf
def fX9_askNow_b189 (N : Nat) (k124 : pH → Int32 → Int32 → Int32 → Option (Int32 × pH)) (h : pH) (x3 : Int32) (x4 : Int32) (x5 : Int32) (x6 : Int32) (xs0 : Int32) : Option (Int32 × pH) :=
  if xs0 = 0 then (fX9_askNow_b202 N k124 h x4 x5 x6 xs0 x3) else (fX9_askNow_b202 N k124 h x4 x5 x6 xs0 x5)
set_option maxRecDepth 100000 in
set_option maxHeartbeats 4000000 in
theorem tX9_askNow_b189 {X : Xt} {v : Int32} {h' : pH} (N : Nat) (k124 : pH → Int32 → Int32 → Int32 → Option (Int32 × pH)) (HK124 : ∀ (h : pH) (x3 : Int32) (x4 : Int32) (x5 : Int32), k124 h x3 x4 x5 = some (v, h') → Wx X 8 124 [(0, rf (qo X) 49), (3, .int x3), (4, .int x4), (5, .int x5)] [] h) (h : pH) (x3 : Int32) (x4 : Int32) (x5 : Int32) (x6 : Int32) (xs0 : Int32) (B : Bd (lo X) (qo X) cX9_askNow RX9 8 (some .int) 6 135 (some (.int v)) h' X) (hf : fX9_askNow_b189 N k124 h x3 x4 x5 x6 xs0 = some (v, h')) : Wx X 8 189 [(0, rf (qo X) 49), (3, .int x3), (4, .int x4), (5, .int x5), (6, .int x6)] [.int xs0] h := by
  have C := B.1
  unfold fX9_askNow_b189 at hf
  refine x_istore (lv' := [(7, .int xs0), (0, rf (qo X) 49), (3, .int x3), (4, .int x4), (5, .int x5), (6, .int x6)]) C dX9_askNow_189 (by decide) rfl ?_
  refine x_iload 0 C dX9_askNow_191 rfl ?_
  refine x_if_eq (tgt := 201) C dX9_askNow_193 (by decide) (fun c => ?_) (fun c => ?_)
  · rw [if_pos c] at hf
    refine x_iload_n (i := 3) 2 C dX9_askNow_201 rfl rfl ?_
    refine x_lv [1, 3, 4, 5, 0] rfl ?_
    exact tX9_askNow_b202 N k124 HK124 h x4 x5 x6 xs0 x3 B hf
  · rw [if_neg c] at hf
    refine x_iload 4 C dX9_askNow_196 rfl ?_
    refine x_goto (tgt := 202) C dX9_askNow_198 (by decide) ?_
    refine x_lv [1, 3, 4, 5, 0] rfl ?_
    exact tX9_askNow_b202 N k124 HK124 h x4 x5 x6 xs0 x5 B hf
def fX9_askNow_b184 (N : Nat) (k124 : pH → Int32 → Int32 → Int32 → Option (Int32 × pH)) (h : pH) (x3 : Int32) (x4 : Int32) (x5 : Int32) (x6 : Int32) : Option (Int32 × pH) :=
  fX9_askNow_b189 N k124 h x3 x4 x5 x6 1
set_option maxRecDepth 100000 in
set_option maxHeartbeats 4000000 in
theorem tX9_askNow_b184 {X : Xt} {v : Int32} {h' : pH} (N : Nat) (k124 : pH → Int32 → Int32 → Int32 → Option (Int32 × pH)) (HK124 : ∀ (h : pH) (x3 : Int32) (x4 : Int32) (x5 : Int32), k124 h x3 x4 x5 = some (v, h') → Wx X 8 124 [(0, rf (qo X) 49), (3, .int x3), (4, .int x4), (5, .int x5)] [] h) (h : pH) (x3 : Int32) (x4 : Int32) (x5 : Int32) (x6 : Int32) (B : Bd (lo X) (qo X) cX9_askNow RX9 8 (some .int) 6 135 (some (.int v)) h' X) (hf : fX9_askNow_b184 N k124 h x3 x4 x5 x6 = some (v, h')) : Wx X 8 184 [(0, rf (qo X) 49), (3, .int x3), (4, .int x4), (5, .int x5), (6, .int x6)] [] h := by
  have C := B.1
  unfold fX9_askNow_b184 at hf
  refine x_iconst (v := 1) C dX9_askNow_184 (by decide) ?_
  refine x_goto (tgt := 189) C dX9_askNow_185 (by decide) ?_
  exact tX9_askNow_b189 N k124 HK124 h x3 x4 x5 x6 1 B hf
def fX9_askNow_B139 (N : Nat) (k124 : pH → Int32 → Int32 → Int32 → Option (Int32 × pH)) (k139 : pH → Int32 → Int32 → Int32 → Int32 → Int32 → Option (Int32 × pH)) (h : pH) (x3 : Int32) (x4 : Int32) (x5 : Int32) (x6 : Int32) (x7 : Int32) : Option (Int32 × pH) :=
  if 19 ≤ x7 then (if x3 = (-1) then (fX9_askNow_b184 N k124 h x3 x4 x5 x6) else (if x4 ≤ x6 then (fX9_askNow_b189 N k124 h x3 x4 x5 x6 0) else (fX9_askNow_b184 N k124 h x3 x4 x5 x6))) else (if ix ((19 * x5) + x7) 475 = true then ((fX9_greater N h (h.1 68 ((19 * x5) + x7).toNatClampNeg) x6).bind fun z1 => (k139 z1.2 x3 x4 x5 z1.1 (x7 + 1))) else none)
set_option maxRecDepth 100000 in
set_option maxHeartbeats 4000000 in
theorem tX9_askNow_B139 {X : Xt} {v : Int32} {h' : pH} (N : Nat) (k124 : pH → Int32 → Int32 → Int32 → Option (Int32 × pH)) (k139 : pH → Int32 → Int32 → Int32 → Int32 → Int32 → Option (Int32 × pH)) (HK124 : ∀ (h : pH) (x3 : Int32) (x4 : Int32) (x5 : Int32), k124 h x3 x4 x5 = some (v, h') → Wx X 8 124 [(0, rf (qo X) 49), (3, .int x3), (4, .int x4), (5, .int x5)] [] h) (HK139 : ∀ (h : pH) (x3 : Int32) (x4 : Int32) (x5 : Int32) (x6 : Int32) (x7 : Int32), k139 h x3 x4 x5 x6 x7 = some (v, h') → Wx X 8 139 [(0, rf (qo X) 49), (3, .int x3), (4, .int x4), (5, .int x5), (6, .int x6), (7, .int x7)] [] h) (h : pH) (x3 : Int32) (x4 : Int32) (x5 : Int32) (x6 : Int32) (x7 : Int32) (B : Bd (lo X) (qo X) cX9_askNow RX9 8 (some .int) 6 135 (some (.int v)) h' X) (hf : fX9_askNow_B139 N k124 k139 h x3 x4 x5 x6 x7 = some (v, h')) : Wx X 8 139 [(0, rf (qo X) 49), (3, .int x3), (4, .int x4), (5, .int x5), (6, .int x6), (7, .int x7)] [] h := by
  have C := B.1
  unfold fX9_askNow_B139 at hf
  refine x_iload 5 C dX9_askNow_139 rfl ?_
  refine x_bipush (v := 19) C dX9_askNow_141 (by decide) ?_
  refine x_icmp_ge (tgt := 172) C dX9_askNow_143 (by decide) (fun c => ?_) (fun c => ?_)
  · rw [if_pos c] at hf
    refine x_iload_n (i := 3) 1 C dX9_askNow_172 rfl rfl ?_
    refine x_iconst (v := (-1)) C dX9_askNow_173 (by decide) ?_
    refine x_icmp_eq (tgt := 184) C dX9_askNow_174 (by decide) (fun c => ?_) (fun c => ?_)
    · rw [if_pos c] at hf
      refine x_lv [0, 1, 2, 3, 4] rfl ?_
      exact tX9_askNow_b184 N k124 HK124 h x3 x4 x5 x6 B hf
    · rw [if_neg c] at hf
      refine x_iload 4 C dX9_askNow_177 rfl ?_
      refine x_iload 2 C dX9_askNow_179 rfl ?_
      refine x_icmp_ge (tgt := 188) C dX9_askNow_181 (by decide) (fun c => ?_) (fun c => ?_)
      · rw [if_pos c] at hf
        refine x_iconst (v := 0) C dX9_askNow_188 (by decide) ?_
        refine x_lv [0, 1, 2, 3, 4] rfl ?_
        exact tX9_askNow_b189 N k124 HK124 h x3 x4 x5 x6 0 B hf
      · rw [if_neg c] at hf
        refine x_lv [0, 1, 2, 3, 4] rfl ?_
        exact tX9_askNow_b184 N k124 HK124 h x3 x4 x5 x6 B hf
  · rw [if_neg c] at hf
    refine x_aload_n (i := 0) 0 C dX9_askNow_146 rfl rfl ?_
    refine x_getR (r := 49) (r2 := 68) C dX9_askNow_147 kfX9_64 rfl rfl (by decide) ?_
    refine x_bipush (v := 19) C dX9_askNow_150 (by decide) ?_
    refine x_iload 3 C dX9_askNow_152 rfl ?_
    refine x_imul C dX9_askNow_154 ?_
    refine x_iload 5 C dX9_askNow_155 rfl ?_
    refine x_iadd C dX9_askNow_157 ?_
    obtain ⟨g1, hf⟩ := ife hf
    refine x_iald (r := 68) C dX9_askNow_158 rfl g1 ?_
    refine x_iload 4 C dX9_askNow_159 rfl ?_
    obtain ⟨z1, e1, hf⟩ := bnd hf
    refine x_callS (As := [.int (h.1 68 ((19 * x5) + x7).toNatClampNeg), .int x6]) (rest := []) C dX9_askNow_161 kmX9_168 miX9_greater (ctX9_greater (lo X) (qo X) N h (h.1 68 ((19 * x5) + x7).toNatClampNeg) x6 z1.1 z1.2 e1) rfl rfl ⟨Nat.le_trans (by decide) B.2.2.2.1, Nat.le_trans (by decide) B.2.2.2.2.1⟩ (by simp [cat_i, cat_l, rf_cat]) ?_
    refine x_istore (lv' := [(6, .int z1.1), (0, rf (qo X) 49), (3, .int x3), (4, .int x4), (5, .int x5), (7, .int x7)]) C dX9_askNow_164 (by decide) rfl ?_
    refine x_iinc (v := x7 + 1) (lv' := [(7, .int (x7 + 1)), (6, .int z1.1), (0, rf (qo X) 49), (3, .int x3), (4, .int x4), (5, .int x5)]) 5 C dX9_askNow_166 rfl rfl (by decide) rfl ?_
    refine x_goto (tgt := 139) C dX9_askNow_169 (by decide) ?_
    refine x_lv [2, 3, 4, 5, 1, 0] rfl ?_
    exact HK139 z1.2 x3 x4 x5 z1.1 (x7 + 1) hf
def fX9_askNow_L139 (N : Nat) (k124 : pH → Int32 → Int32 → Int32 → Option (Int32 × pH)) : Nat → pH → Int32 → Int32 → Int32 → Int32 → Int32 → Option (Int32 × pH)
  | 0 => fun _ _ _ _ _ _ => none
  | n + 1 => fX9_askNow_B139 N k124 (fX9_askNow_L139 N k124 n)
theorem tX9_askNow_L139 {X : Xt} {v : Int32} {h' : pH} (N : Nat) (k124 : pH → Int32 → Int32 → Int32 → Option (Int32 × pH)) (HK124 : ∀ (h : pH) (x3 : Int32) (x4 : Int32) (x5 : Int32), k124 h x3 x4 x5 = some (v, h') → Wx X 8 124 [(0, rf (qo X) 49), (3, .int x3), (4, .int x4), (5, .int x5)] [] h) (B : Bd (lo X) (qo X) cX9_askNow RX9 8 (some .int) 6 135 (some (.int v)) h' X) : ∀ (n : Nat) (h : pH) (x3 : Int32) (x4 : Int32) (x5 : Int32) (x6 : Int32) (x7 : Int32), fX9_askNow_L139 N k124 n h x3 x4 x5 x6 x7 = some (v, h') → Wx X 8 139 [(0, rf (qo X) 49), (3, .int x3), (4, .int x4), (5, .int x5), (6, .int x6), (7, .int x7)] [] h := by
  intro n
  induction n with
  | zero => intro h x3 x4 x5 x6 x7 hf; exact absurd (show (none : Option (Int32 × pH)) = some (v, h') from hf) (fun z => by cases z)
  | succ n ih => intro h x3 x4 x5 x6 x7 hf; exact tX9_askNow_B139 N k124 (fX9_askNow_L139 N k124 n) HK124 ih h x3 x4 x5 x6 x7 B hf
def fX9_askNow_B124 (N : Nat) (k124 : pH → Int32 → Int32 → Int32 → Option (Int32 × pH)) (h : pH) (x3 : Int32) (x4 : Int32) (x5 : Int32) : Option (Int32 × pH) :=
  if (h.1 49 11) < x5 then (some (x3, h)) else (fX9_askNow_L139 N k124 N h x3 x4 x5 0 0)
set_option maxRecDepth 100000 in
set_option maxHeartbeats 4000000 in
theorem tX9_askNow_B124 {X : Xt} {v : Int32} {h' : pH} (N : Nat) (k124 : pH → Int32 → Int32 → Int32 → Option (Int32 × pH)) (HK124 : ∀ (h : pH) (x3 : Int32) (x4 : Int32) (x5 : Int32), k124 h x3 x4 x5 = some (v, h') → Wx X 8 124 [(0, rf (qo X) 49), (3, .int x3), (4, .int x4), (5, .int x5)] [] h) (h : pH) (x3 : Int32) (x4 : Int32) (x5 : Int32) (B : Bd (lo X) (qo X) cX9_askNow RX9 8 (some .int) 6 135 (some (.int v)) h' X) (hf : fX9_askNow_B124 N k124 h x3 x4 x5 = some (v, h')) : Wx X 8 124 [(0, rf (qo X) 49), (3, .int x3), (4, .int x4), (5, .int x5)] [] h := by
  have C := B.1
  unfold fX9_askNow_B124 at hf
  refine x_iload 3 C dX9_askNow_124 rfl ?_
  refine x_aload_n (i := 0) 0 C dX9_askNow_126 rfl rfl ?_
  refine x_getI (r := 49) C dX9_askNow_127 kfX9_121 rfl ?_
  refine x_icmp_gt (tgt := 223) C dX9_askNow_130 (by decide) (fun c => ?_) (fun c => ?_)
  · rw [if_pos c] at hf
    refine x_iload_n (i := 3) 1 C dX9_askNow_223 rfl rfl ?_
    obtain ⟨rfl, rfl⟩ := rtn hf
    exact B.2.2.2.2.2.1 _ _ rfl rfl rfl _ _ dX9_askNow_224
  · rw [if_neg c] at hf
    refine x_iconst (v := 0) C dX9_askNow_133 (by decide) ?_
    refine x_istore (lv' := [(6, .int 0), (0, rf (qo X) 49), (3, .int x3), (4, .int x4), (5, .int x5)]) C dX9_askNow_134 (by decide) rfl ?_
    refine x_iconst (v := 0) C dX9_askNow_136 (by decide) ?_
    refine x_istore (lv' := [(7, .int 0), (6, .int 0), (0, rf (qo X) 49), (3, .int x3), (4, .int x4), (5, .int x5)]) C dX9_askNow_137 (by decide) rfl ?_
    refine x_lv [2, 3, 4, 5, 1, 0] rfl ?_
    exact tX9_askNow_L139 N k124 HK124  B N h x3 x4 x5 0 0 hf
def fX9_askNow_L124 (N : Nat) : Nat → pH → Int32 → Int32 → Int32 → Option (Int32 × pH)
  | 0 => fun _ _ _ _ => none
  | n + 1 => fX9_askNow_B124 N (fX9_askNow_L124 N n)
theorem tX9_askNow_L124 {X : Xt} {v : Int32} {h' : pH} (N : Nat) (B : Bd (lo X) (qo X) cX9_askNow RX9 8 (some .int) 6 135 (some (.int v)) h' X) : ∀ (n : Nat) (h : pH) (x3 : Int32) (x4 : Int32) (x5 : Int32), fX9_askNow_L124 N n h x3 x4 x5 = some (v, h') → Wx X 8 124 [(0, rf (qo X) 49), (3, .int x3), (4, .int x4), (5, .int x5)] [] h := by
  intro n
  induction n with
  | zero => intro h x3 x4 x5 hf; exact absurd (show (none : Option (Int32 × pH)) = some (v, h') from hf) (fun z => by cases z)
  | succ n ih => intro h x3 x4 x5 hf; exact tX9_askNow_B124 N (fX9_askNow_L124 N n) ih h x3 x4 x5 B hf
def fX9_askNow_b103 (N : Nat) (k36 : pH → Int32 → Int32 → Int32 → Option (Int32 × pH)) (h : pH) (x1 : Int32) (x2 : Int32) (x3 : Int32) : Option (Int32 × pH) :=
  k36 h x1 x2 (x3 + 1)
set_option maxRecDepth 100000 in
set_option maxHeartbeats 4000000 in
theorem tX9_askNow_b103 {X : Xt} {v : Int32} {h' : pH} (N : Nat) (k36 : pH → Int32 → Int32 → Int32 → Option (Int32 × pH)) (HK36 : ∀ (h : pH) (x1 : Int32) (x2 : Int32) (x3 : Int32), k36 h x1 x2 x3 = some (v, h') → Wx X 8 36 [(0, rf (qo X) 49), (1, .int x1), (2, .int x2), (3, .int x3)] [] h) (h : pH) (x1 : Int32) (x2 : Int32) (x3 : Int32) (B : Bd (lo X) (qo X) cX9_askNow RX9 8 (some .int) 6 135 (some (.int v)) h' X) (hf : fX9_askNow_b103 N k36 h x1 x2 x3 = some (v, h')) : Wx X 8 103 [(0, rf (qo X) 49), (1, .int x1), (2, .int x2), (3, .int x3)] [] h := by
  have C := B.1
  unfold fX9_askNow_b103 at hf
  refine x_iinc (v := x3 + 1) (lv' := [(3, .int (x3 + 1)), (0, rf (qo X) 49), (1, .int x1), (2, .int x2)]) 3 C dX9_askNow_103 rfl rfl (by decide) rfl ?_
  refine x_goto (tgt := 36) C dX9_askNow_106 (by decide) ?_
  refine x_lv [1, 2, 3, 0] rfl ?_
  exact HK36 h x1 x2 (x3 + 1) hf
def fX9_askNow_B66 (N : Nat) (k36 : pH → Int32 → Int32 → Int32 → Option (Int32 × pH)) (k66 : pH → Int32 → Int32 → Int32 → Int32 → Option (Int32 × pH)) (h : pH) (x1 : Int32) (x2 : Int32) (x3 : Int32) (x4 : Int32) : Option (Int32 × pH) :=
  if (h.1 49 11) < x4 then (fX9_askNow_b103 N k36 h x1 x2 x3) else (if ix x4 25 = true then (if ix ((19 * x4) + (h.1 61 x4.toNatClampNeg)) 475 = true then (if ix ((19 * x4) + (h.1 61 x4.toNatClampNeg)) 475 = true then (k66 (pw h 68 ((19 * x4) + (h.1 61 x4.toNatClampNeg)).toNatClampNeg ((h.1 68 ((19 * x4) + (h.1 61 x4.toNatClampNeg)).toNatClampNeg) + 1)) x1 x2 x3 (x4 + 1)) else none) else none) else none)
set_option maxRecDepth 100000 in
set_option maxHeartbeats 4000000 in
theorem tX9_askNow_B66 {X : Xt} {v : Int32} {h' : pH} (N : Nat) (k36 : pH → Int32 → Int32 → Int32 → Option (Int32 × pH)) (k66 : pH → Int32 → Int32 → Int32 → Int32 → Option (Int32 × pH)) (HK36 : ∀ (h : pH) (x1 : Int32) (x2 : Int32) (x3 : Int32), k36 h x1 x2 x3 = some (v, h') → Wx X 8 36 [(0, rf (qo X) 49), (1, .int x1), (2, .int x2), (3, .int x3)] [] h) (HK66 : ∀ (h : pH) (x1 : Int32) (x2 : Int32) (x3 : Int32) (x4 : Int32), k66 h x1 x2 x3 x4 = some (v, h') → Wx X 8 66 [(0, rf (qo X) 49), (1, .int x1), (2, .int x2), (3, .int x3), (4, .int x4)] [] h) (h : pH) (x1 : Int32) (x2 : Int32) (x3 : Int32) (x4 : Int32) (B : Bd (lo X) (qo X) cX9_askNow RX9 8 (some .int) 6 135 (some (.int v)) h' X) (hf : fX9_askNow_B66 N k36 k66 h x1 x2 x3 x4 = some (v, h')) : Wx X 8 66 [(0, rf (qo X) 49), (1, .int x1), (2, .int x2), (3, .int x3), (4, .int x4)] [] h := by
  have C := B.1
  unfold fX9_askNow_B66 at hf
  refine x_iload 4 C dX9_askNow_66 rfl ?_
  refine x_aload_n (i := 0) 0 C dX9_askNow_68 rfl rfl ?_
  refine x_getI (r := 49) C dX9_askNow_69 kfX9_121 rfl ?_
  refine x_icmp_gt (tgt := 103) C dX9_askNow_72 (by decide) (fun c => ?_) (fun c => ?_)
  · rw [if_pos c] at hf
    refine x_lv [0, 1, 2, 3] rfl ?_
    exact tX9_askNow_b103 N k36 HK36 h x1 x2 x3 B hf
  · rw [if_neg c] at hf
    refine x_aload_n (i := 0) 0 C dX9_askNow_75 rfl rfl ?_
    refine x_getR (r := 49) (r2 := 68) C dX9_askNow_76 kfX9_64 rfl rfl (by decide) ?_
    refine x_bipush (v := 19) C dX9_askNow_79 (by decide) ?_
    refine x_iload 4 C dX9_askNow_81 rfl ?_
    refine x_imul C dX9_askNow_83 ?_
    refine x_aload_n (i := 0) 0 C dX9_askNow_84 rfl rfl ?_
    refine x_getR (r := 49) (r2 := 61) C dX9_askNow_85 kfX9_43 rfl rfl (by decide) ?_
    refine x_iload 4 C dX9_askNow_88 rfl ?_
    obtain ⟨g1, hf⟩ := ife hf
    refine x_iald (r := 61) C dX9_askNow_90 rfl g1 ?_
    refine x_iadd C dX9_askNow_91 ?_
    refine x_dup2IA C dX9_askNow_92 ?_
    obtain ⟨g2, hf⟩ := ife hf
    refine x_iald (r := 68) C dX9_askNow_93 rfl g2 ?_
    refine x_iconst (v := 1) C dX9_askNow_94 (by decide) ?_
    refine x_iadd C dX9_askNow_95 ?_
    obtain ⟨g3, hf⟩ := ife hf
    refine x_iast (r := 68) C dX9_askNow_96 rfl g3 ?_
    refine x_iinc (v := x4 + 1) (lv' := [(4, .int (x4 + 1)), (0, rf (qo X) 49), (1, .int x1), (2, .int x2), (3, .int x3)]) 4 C dX9_askNow_97 rfl rfl (by decide) rfl ?_
    refine x_goto (tgt := 66) C dX9_askNow_100 (by decide) ?_
    refine x_lv [1, 2, 3, 4, 0] rfl ?_
    exact HK66 (pw h 68 ((19 * x4) + (h.1 61 x4.toNatClampNeg)).toNatClampNeg ((h.1 68 ((19 * x4) + (h.1 61 x4.toNatClampNeg)).toNatClampNeg) + 1)) x1 x2 x3 (x4 + 1) hf
def fX9_askNow_L66 (N : Nat) (k36 : pH → Int32 → Int32 → Int32 → Option (Int32 × pH)) : Nat → pH → Int32 → Int32 → Int32 → Int32 → Option (Int32 × pH)
  | 0 => fun _ _ _ _ _ => none
  | n + 1 => fX9_askNow_B66 N k36 (fX9_askNow_L66 N k36 n)
theorem tX9_askNow_L66 {X : Xt} {v : Int32} {h' : pH} (N : Nat) (k36 : pH → Int32 → Int32 → Int32 → Option (Int32 × pH)) (HK36 : ∀ (h : pH) (x1 : Int32) (x2 : Int32) (x3 : Int32), k36 h x1 x2 x3 = some (v, h') → Wx X 8 36 [(0, rf (qo X) 49), (1, .int x1), (2, .int x2), (3, .int x3)] [] h) (B : Bd (lo X) (qo X) cX9_askNow RX9 8 (some .int) 6 135 (some (.int v)) h' X) : ∀ (n : Nat) (h : pH) (x1 : Int32) (x2 : Int32) (x3 : Int32) (x4 : Int32), fX9_askNow_L66 N k36 n h x1 x2 x3 x4 = some (v, h') → Wx X 8 66 [(0, rf (qo X) 49), (1, .int x1), (2, .int x2), (3, .int x3), (4, .int x4)] [] h := by
  intro n
  induction n with
  | zero => intro h x1 x2 x3 x4 hf; exact absurd (show (none : Option (Int32 × pH)) = some (v, h') from hf) (fun z => by cases z)
  | succ n ih => intro h x1 x2 x3 x4 hf; exact tX9_askNow_B66 N k36 (fX9_askNow_L66 N k36 n) HK36 ih h x1 x2 x3 x4 B hf
def fX9_askNow_B36 (N : Nat) (k36 : pH → Int32 → Int32 → Int32 → Option (Int32 × pH)) (h : pH) (x1 : Int32) (x2 : Int32) (x3 : Int32) : Option (Int32 × pH) :=
  if (h.1 49 7) ≤ x3 then (if ix (1 : Int32) 2 = true then (fX9_askNow_L124 N N (pw h 59 (1 : Int32).toNatClampNeg x2) (-1) 0 0) else none) else ((fX9_isIn N h x1 x3).bind fun z1 => (if z1.1 = 0 then (fX9_askNow_b103 N k36 z1.2 x1 x2 x3) else (if ix (1 : Int32) 2 = true then ((fX9_lives N (pw z1.2 59 (1 : Int32).toNatClampNeg x3)).bind fun z2 => (fX9_askNow_L66 N k36 N z2.2 x1 x2 x3 0)) else none)))
set_option maxRecDepth 100000 in
set_option maxHeartbeats 4000000 in
theorem tX9_askNow_B36 {X : Xt} {v : Int32} {h' : pH} (N : Nat) (k36 : pH → Int32 → Int32 → Int32 → Option (Int32 × pH)) (HK36 : ∀ (h : pH) (x1 : Int32) (x2 : Int32) (x3 : Int32), k36 h x1 x2 x3 = some (v, h') → Wx X 8 36 [(0, rf (qo X) 49), (1, .int x1), (2, .int x2), (3, .int x3)] [] h) (h : pH) (x1 : Int32) (x2 : Int32) (x3 : Int32) (B : Bd (lo X) (qo X) cX9_askNow RX9 8 (some .int) 6 135 (some (.int v)) h' X) (hf : fX9_askNow_B36 N k36 h x1 x2 x3 = some (v, h')) : Wx X 8 36 [(0, rf (qo X) 49), (1, .int x1), (2, .int x2), (3, .int x3)] [] h := by
  have C := B.1
  unfold fX9_askNow_B36 at hf
  refine x_iload_n (i := 3) 3 C dX9_askNow_36 rfl rfl ?_
  refine x_aload_n (i := 0) 0 C dX9_askNow_37 rfl rfl ?_
  refine x_getI (r := 49) C dX9_askNow_38 kfX9_103 rfl ?_
  refine x_icmp_ge (tgt := 109) C dX9_askNow_41 (by decide) (fun c => ?_) (fun c => ?_)
  · rw [if_pos c] at hf
    refine x_aload_n (i := 0) 0 C dX9_askNow_109 rfl rfl ?_
    refine x_getR (r := 49) (r2 := 59) C dX9_askNow_110 kfX9_37 rfl rfl (by decide) ?_
    refine x_iconst (v := 1) C dX9_askNow_113 (by decide) ?_
    refine x_iload_n (i := 2) 2 C dX9_askNow_114 rfl rfl ?_
    obtain ⟨g1, hf⟩ := ife hf
    refine x_iast (r := 59) C dX9_askNow_115 rfl g1 ?_
    refine x_iconst (v := (-1)) C dX9_askNow_116 (by decide) ?_
    refine x_istore_n (i := 3) (lv' := [(3, .int (-1)), (0, rf (qo X) 49), (1, .int x1), (2, .int x2)]) C dX9_askNow_117 rfl (by decide) rfl ?_
    refine x_iconst (v := 0) C dX9_askNow_118 (by decide) ?_
    refine x_istore (lv' := [(4, .int 0), (3, .int (-1)), (0, rf (qo X) 49), (1, .int x1), (2, .int x2)]) C dX9_askNow_119 (by decide) rfl ?_
    refine x_iconst (v := 0) C dX9_askNow_121 (by decide) ?_
    refine x_istore (lv' := [(5, .int 0), (4, .int 0), (3, .int (-1)), (0, rf (qo X) 49), (1, .int x1), (2, .int x2)]) C dX9_askNow_122 (by decide) rfl ?_
    refine x_lv [3, 2, 1, 0] rfl ?_
    exact tX9_askNow_L124 N  B N (pw h 59 (1 : Int32).toNatClampNeg x2) (-1) 0 0 hf
  · rw [if_neg c] at hf
    refine x_iload_n (i := 1) 1 C dX9_askNow_44 rfl rfl ?_
    refine x_iload_n (i := 3) 3 C dX9_askNow_45 rfl rfl ?_
    obtain ⟨z1, e1, hf⟩ := bnd hf
    refine x_callS (As := [.int x1, .int x3]) (rest := []) C dX9_askNow_46 kmX9_184 miX9_isIn (ctX9_isIn (lo X) (qo X) N h x1 x3 z1.1 z1.2 e1) rfl rfl ⟨Nat.le_trans (by decide) B.2.2.2.1, Nat.le_trans (by decide) B.2.2.2.2.1⟩ (by simp [cat_i, cat_l, rf_cat]) ?_
    refine x_if_eq (tgt := 103) C dX9_askNow_49 (by decide) (fun c => ?_) (fun c => ?_)
    · rw [if_pos c] at hf
      exact tX9_askNow_b103 N k36 HK36 z1.2 x1 x2 x3 B hf
    · rw [if_neg c] at hf
      refine x_aload_n (i := 0) 0 C dX9_askNow_52 rfl rfl ?_
      refine x_getR (r := 49) (r2 := 59) C dX9_askNow_53 kfX9_37 rfl rfl (by decide) ?_
      refine x_iconst (v := 1) C dX9_askNow_56 (by decide) ?_
      refine x_iload_n (i := 3) 3 C dX9_askNow_57 rfl rfl ?_
      obtain ⟨g2, hf⟩ := ife hf
      refine x_iast (r := 59) C dX9_askNow_58 rfl g2 ?_
      refine x_aload_n (i := 0) 0 C dX9_askNow_59 rfl rfl ?_
      obtain ⟨z2, e2, hf⟩ := bnd hf
      refine x_callV (r := 49) (As := []) (rest := []) C dX9_askNow_60 kmX9_193 miX9_lives (ctX9_lives (lo X) (qo X) N (pw z1.2 59 (1 : Int32).toNatClampNeg x3) z2.1 z2.2 e2) rfl rfl ⟨Nat.le_trans (by decide) B.2.2.2.1, Nat.le_trans (by decide) B.2.2.2.2.1⟩ (by simp [cat_i, cat_l, rf_cat]) rfl ?_
      refine x_iconst (v := 0) C dX9_askNow_63 (by decide) ?_
      refine x_istore (lv' := [(4, .int 0), (0, rf (qo X) 49), (1, .int x1), (2, .int x2), (3, .int x3)]) C dX9_askNow_64 (by decide) rfl ?_
      refine x_lv [1, 2, 3, 4, 0] rfl ?_
      exact tX9_askNow_L66 N k36 HK36  B N z2.2 x1 x2 x3 0 hf
def fX9_askNow_L36 (N : Nat) : Nat → pH → Int32 → Int32 → Int32 → Option (Int32 × pH)
  | 0 => fun _ _ _ _ => none
  | n + 1 => fX9_askNow_B36 N (fX9_askNow_L36 N n)
theorem tX9_askNow_L36 {X : Xt} {v : Int32} {h' : pH} (N : Nat) (B : Bd (lo X) (qo X) cX9_askNow RX9 8 (some .int) 6 135 (some (.int v)) h' X) : ∀ (n : Nat) (h : pH) (x1 : Int32) (x2 : Int32) (x3 : Int32), fX9_askNow_L36 N n h x1 x2 x3 = some (v, h') → Wx X 8 36 [(0, rf (qo X) 49), (1, .int x1), (2, .int x2), (3, .int x3)] [] h := by
  intro n
  induction n with
  | zero => intro h x1 x2 x3 hf; exact absurd (show (none : Option (Int32 × pH)) = some (v, h') from hf) (fun z => by cases z)
  | succ n ih => intro h x1 x2 x3 hf; exact tX9_askNow_B36 N (fX9_askNow_L36 N n) ih h x1 x2 x3 B hf
def fX9_askNow_B14 (N : Nat) (k14 : pH → Int32 → Int32 → Int32 → Option (Int32 × pH)) (h : pH) (x1 : Int32) (x2 : Int32) (x3 : Int32) : Option (Int32 × pH) :=
  if 475 ≤ x3 then (fX9_askNow_L36 N N h x1 x2 0) else (if ix x3 475 = true then (k14 (pw h 68 x3.toNatClampNeg 0) x1 x2 (x3 + 1)) else none)
set_option maxRecDepth 100000 in
set_option maxHeartbeats 4000000 in
theorem tX9_askNow_B14 {X : Xt} {v : Int32} {h' : pH} (N : Nat) (k14 : pH → Int32 → Int32 → Int32 → Option (Int32 × pH)) (HK14 : ∀ (h : pH) (x1 : Int32) (x2 : Int32) (x3 : Int32), k14 h x1 x2 x3 = some (v, h') → Wx X 8 14 [(0, rf (qo X) 49), (1, .int x1), (2, .int x2), (3, .int x3)] [] h) (h : pH) (x1 : Int32) (x2 : Int32) (x3 : Int32) (B : Bd (lo X) (qo X) cX9_askNow RX9 8 (some .int) 6 135 (some (.int v)) h' X) (hf : fX9_askNow_B14 N k14 h x1 x2 x3 = some (v, h')) : Wx X 8 14 [(0, rf (qo X) 49), (1, .int x1), (2, .int x2), (3, .int x3)] [] h := by
  have C := B.1
  unfold fX9_askNow_B14 at hf
  refine x_iload_n (i := 3) 3 C dX9_askNow_14 rfl rfl ?_
  refine x_sipush (v := 475) C dX9_askNow_15 (by decide) ?_
  refine x_icmp_ge (tgt := 34) C dX9_askNow_18 (by decide) (fun c => ?_) (fun c => ?_)
  · rw [if_pos c] at hf
    refine x_iconst (v := 0) C dX9_askNow_34 (by decide) ?_
    refine x_istore_n (i := 3) (lv' := [(3, .int 0), (0, rf (qo X) 49), (1, .int x1), (2, .int x2)]) C dX9_askNow_35 rfl (by decide) rfl ?_
    refine x_lv [1, 2, 3, 0] rfl ?_
    exact tX9_askNow_L36 N  B N h x1 x2 0 hf
  · rw [if_neg c] at hf
    refine x_aload_n (i := 0) 0 C dX9_askNow_21 rfl rfl ?_
    refine x_getR (r := 49) (r2 := 68) C dX9_askNow_22 kfX9_64 rfl rfl (by decide) ?_
    refine x_iload_n (i := 3) 3 C dX9_askNow_25 rfl rfl ?_
    refine x_iconst (v := 0) C dX9_askNow_26 (by decide) ?_
    obtain ⟨g1, hf⟩ := ife hf
    refine x_iast (r := 68) C dX9_askNow_27 rfl g1 ?_
    refine x_iinc (v := x3 + 1) (lv' := [(3, .int (x3 + 1)), (0, rf (qo X) 49), (1, .int x1), (2, .int x2)]) 3 C dX9_askNow_28 rfl rfl (by decide) rfl ?_
    refine x_goto (tgt := 14) C dX9_askNow_31 (by decide) ?_
    refine x_lv [1, 2, 3, 0] rfl ?_
    exact HK14 (pw h 68 x3.toNatClampNeg 0) x1 x2 (x3 + 1) hf
def fX9_askNow_L14 (N : Nat) : Nat → pH → Int32 → Int32 → Int32 → Option (Int32 × pH)
  | 0 => fun _ _ _ _ => none
  | n + 1 => fX9_askNow_B14 N (fX9_askNow_L14 N n)
theorem tX9_askNow_L14 {X : Xt} {v : Int32} {h' : pH} (N : Nat) (B : Bd (lo X) (qo X) cX9_askNow RX9 8 (some .int) 6 135 (some (.int v)) h' X) : ∀ (n : Nat) (h : pH) (x1 : Int32) (x2 : Int32) (x3 : Int32), fX9_askNow_L14 N n h x1 x2 x3 = some (v, h') → Wx X 8 14 [(0, rf (qo X) 49), (1, .int x1), (2, .int x2), (3, .int x3)] [] h := by
  intro n
  induction n with
  | zero => intro h x1 x2 x3 hf; exact absurd (show (none : Option (Int32 × pH)) = some (v, h') from hf) (fun z => by cases z)
  | succ n ih => intro h x1 x2 x3 hf; exact tX9_askNow_B14 N (fX9_askNow_L14 N n) ih h x1 x2 x3 B hf
def fX9_askNow (N : Nat) (h : pH)  : Option (Int32 × pH) :=
  (fX9_beganNow N h).bind fun z1 => (if ix (1 : Int32) 2 = true then (fX9_askNow_L14 N N z1.2 z1.1 (z1.2.1 59 (1 : Int32).toNatClampNeg) 0) else none)
set_option maxRecDepth 100000 in
set_option maxHeartbeats 4000000 in
theorem tX9_askNow {X : Xt} {v : Int32} {h' : pH} (N : Nat) (h : pH)  (B : Bd (lo X) (qo X) cX9_askNow RX9 8 (some .int) 6 135 (some (.int v)) h' X) (hf : fX9_askNow N h  = some (v, h')) : Wx X 8 0 [(0, rf (qo X) 49)] [] h := by
  have C := B.1
  unfold fX9_askNow at hf
  refine x_aload_n (i := 0) 0 C dX9_askNow_0 rfl rfl ?_
  obtain ⟨z1, e1, hf⟩ := bnd hf
  refine x_callV (r := 49) (As := []) (rest := []) C dX9_askNow_1 kmX9_253 miX9_beganNow (ctX9_beganNow (lo X) (qo X) N h z1.1 z1.2 e1) rfl rfl ⟨Nat.le_trans (by decide) B.2.2.2.1, Nat.le_trans (by decide) B.2.2.2.2.1⟩ (by simp [cat_i, cat_l, rf_cat]) rfl ?_
  refine x_istore_n (i := 1) (lv' := [(1, .int z1.1), (0, rf (qo X) 49)]) C dX9_askNow_4 rfl (by decide) rfl ?_
  refine x_aload_n (i := 0) 1 C dX9_askNow_5 rfl rfl ?_
  refine x_getR (r := 49) (r2 := 59) C dX9_askNow_6 kfX9_37 rfl rfl (by decide) ?_
  refine x_iconst (v := 1) C dX9_askNow_9 (by decide) ?_
  obtain ⟨g1, hf⟩ := ife hf
  refine x_iald (r := 59) C dX9_askNow_10 rfl g1 ?_
  refine x_istore_n (i := 2) (lv' := [(2, .int (z1.2.1 59 (1 : Int32).toNatClampNeg)), (1, .int z1.1), (0, rf (qo X) 49)]) C dX9_askNow_11 rfl (by decide) rfl ?_
  refine x_iconst (v := 0) C dX9_askNow_12 (by decide) ?_
  refine x_istore_n (i := 3) (lv' := [(3, .int 0), (2, .int (z1.2.1 59 (1 : Int32).toNatClampNeg)), (1, .int z1.1), (0, rf (qo X) 49)]) C dX9_askNow_13 rfl (by decide) rfl ?_
  refine x_lv [3, 2, 1, 0] rfl ?_
  exact tX9_askNow_L14 N  B N z1.2 z1.1 (z1.2.1 59 (1 : Int32).toNatClampNeg) 0 hf
theorem ctX9_askNow (l : Launch) (q : Nat → Nat) (N : Nat) (h : pH)  (v : Int32) (h' : pH) (hf : fX9_askNow N h  = some (v, h')) : Ctr l q yX9_askNow cX9_askNow 8 (some .int) 6 135 [rf q 49] h h' (some (.int v)) := by
  refine ct_of (own := RX9) (lv := [(0, rf q 49)]) (by decide +kernel) rfl (by simp [lg_sl, rf_cat, cat_i, cat_l]) (by first | rfl | simp [lv_args, rf_cat, cat_i, cat_l]) ?_
  intro X B
  obtain rfl := B.2.1
  obtain rfl := B.2.2.1
  exact tX9_askNow N h  B hf
def fX9_ask (N : Nat) (h : pH)  : Option (Int32 × pH) :=
  (fX9_find N h).bind fun z1 => ((fX9_askNow N z1.2).bind fun z2 => (some (z2.1, z2.2)))
set_option maxRecDepth 100000 in
set_option maxHeartbeats 4000000 in
theorem tX9_ask {X : Xt} {v : Int32} {h' : pH} (N : Nat) (h : pH)  (B : Bd (lo X) (qo X) cX9_ask RX9 1 (some .int) 7 162 (some (.int v)) h' X) (hf : fX9_ask N h  = some (v, h')) : Wx X 1 0 [(0, rf (qo X) 49)] [] h := by
  have C := B.1
  unfold fX9_ask at hf
  refine x_aload_n (i := 0) 0 C dX9_ask_0 rfl rfl ?_
  obtain ⟨z1, e1, hf⟩ := bnd hf
  refine x_callV (r := 49) (As := []) (rest := []) C dX9_ask_1 kmX9_196 miX9_find (ctX9_find (lo X) (qo X) N h z1.1 z1.2 e1) rfl rfl ⟨Nat.le_trans (by decide) B.2.2.2.1, Nat.le_trans (by decide) B.2.2.2.2.1⟩ (by simp [cat_i, cat_l, rf_cat]) rfl ?_
  refine x_aload_n (i := 0) 0 C dX9_ask_4 rfl rfl ?_
  obtain ⟨z2, e2, hf⟩ := bnd hf
  refine x_callV (r := 49) (As := []) (rest := []) C dX9_ask_5 kmX9_256 miX9_askNow (ctX9_askNow (lo X) (qo X) N z1.2 z2.1 z2.2 e2) rfl rfl ⟨Nat.le_trans (by decide) B.2.2.2.1, Nat.le_trans (by decide) B.2.2.2.2.1⟩ (by simp [cat_i, cat_l, rf_cat]) rfl ?_
  obtain ⟨rfl, rfl⟩ := rtn hf
  exact B.2.2.2.2.2.1 _ _ rfl rfl rfl _ _ dX9_ask_8
theorem ctX9_ask (l : Launch) (q : Nat → Nat) (N : Nat) (h : pH)  (v : Int32) (h' : pH) (hf : fX9_ask N h  = some (v, h')) : Ctr l q yX9_ask cX9_ask 1 (some .int) 7 162 [rf q 49] h h' (some (.int v)) := by
  refine ct_of (own := RX9) (lv := [(0, rf q 49)]) (by decide +kernel) rfl (by simp [lg_sl, rf_cat, cat_i, cat_l]) (by first | rfl | simp [lv_args, rf_cat, cat_i, cat_l]) ?_
  intro X B
  obtain rfl := B.2.1
  obtain rfl := B.2.2.1
  exact tX9_ask N h  B hf
def fX9_maybeOf_b88 (N : Nat) (k6 : pH → Int32 → Int32 → Int32 → Int64 → Int32 → Option (Int64 × pH)) (h : pH) (x1 : Int32) (x2 : Int32) (x3 : Int32) (l4 : Int64) (x6 : Int32) : Option (Int64 × pH) :=
  k6 h x1 x2 x3 l4 (x6 + 1)
set_option maxRecDepth 100000 in
set_option maxHeartbeats 4000000 in
theorem tX9_maybeOf_b88 {X : Xt} {v : Int64} {h' : pH} (N : Nat) (k6 : pH → Int32 → Int32 → Int32 → Int64 → Int32 → Option (Int64 × pH)) (HK6 : ∀ (h : pH) (x1 : Int32) (x2 : Int32) (x3 : Int32) (l4 : Int64) (x6 : Int32), k6 h x1 x2 x3 l4 x6 = some (v, h') → Wx X 10 6 [(0, rf (qo X) 49), (1, .int x1), (2, .int x2), (3, .int x3), (4, .long l4), (6, .int x6)] [] h) (h : pH) (x1 : Int32) (x2 : Int32) (x3 : Int32) (l4 : Int64) (x6 : Int32) (B : Bd (lo X) (qo X) cX9_maybeOf RX9 10 (some .long) 4 90 (some (.long v)) h' X) (hf : fX9_maybeOf_b88 N k6 h x1 x2 x3 l4 x6 = some (v, h')) : Wx X 10 88 [(0, rf (qo X) 49), (1, .int x1), (2, .int x2), (3, .int x3), (4, .long l4), (6, .int x6)] [] h := by
  have C := B.1
  unfold fX9_maybeOf_b88 at hf
  refine x_iinc (v := x6 + 1) (lv' := [(6, .int (x6 + 1)), (0, rf (qo X) 49), (1, .int x1), (2, .int x2), (3, .int x3), (4, .long l4)]) 5 C dX9_maybeOf_88 rfl rfl (by decide) rfl ?_
  refine x_goto (tgt := 6) C dX9_maybeOf_91 (by decide) ?_
  refine x_lv [1, 2, 3, 4, 5, 0] rfl ?_
  exact HK6 h x1 x2 x3 l4 (x6 + 1) hf
def fX9_maybeOf_b72 (N : Nat) (k6 : pH → Int32 → Int32 → Int32 → Int64 → Int32 → Option (Int64 × pH)) (k41 : pH → Int32 → Int32 → Int32 → Int64 → Int32 → Int64 → Int32 → Option (Int64 × pH)) (h : pH) (x1 : Int32) (x2 : Int32) (x3 : Int32) (l4 : Int64) (x6 : Int32) (x9 : Int32) (ls0 : Int64) (ls1 : Int64) : Option (Int64 × pH) :=
  k41 h x1 x2 x3 l4 x6 (ls1 * ls0) (x9 + 1)
set_option maxRecDepth 100000 in
set_option maxHeartbeats 4000000 in
theorem tX9_maybeOf_b72 {X : Xt} {v : Int64} {h' : pH} (N : Nat) (k6 : pH → Int32 → Int32 → Int32 → Int64 → Int32 → Option (Int64 × pH)) (k41 : pH → Int32 → Int32 → Int32 → Int64 → Int32 → Int64 → Int32 → Option (Int64 × pH)) (HK6 : ∀ (h : pH) (x1 : Int32) (x2 : Int32) (x3 : Int32) (l4 : Int64) (x6 : Int32), k6 h x1 x2 x3 l4 x6 = some (v, h') → Wx X 10 6 [(0, rf (qo X) 49), (1, .int x1), (2, .int x2), (3, .int x3), (4, .long l4), (6, .int x6)] [] h) (HK41 : ∀ (h : pH) (x1 : Int32) (x2 : Int32) (x3 : Int32) (l4 : Int64) (x6 : Int32) (l7 : Int64) (x9 : Int32), k41 h x1 x2 x3 l4 x6 l7 x9 = some (v, h') → Wx X 10 41 [(0, rf (qo X) 49), (1, .int x1), (2, .int x2), (3, .int x3), (4, .long l4), (6, .int x6), (7, .long l7), (9, .int x9)] [] h) (h : pH) (x1 : Int32) (x2 : Int32) (x3 : Int32) (l4 : Int64) (x6 : Int32) (x9 : Int32) (ls0 : Int64) (ls1 : Int64) (B : Bd (lo X) (qo X) cX9_maybeOf RX9 10 (some .long) 4 90 (some (.long v)) h' X) (hf : fX9_maybeOf_b72 N k6 k41 h x1 x2 x3 l4 x6 x9 ls0 ls1 = some (v, h')) : Wx X 10 72 [(0, rf (qo X) 49), (1, .int x1), (2, .int x2), (3, .int x3), (4, .long l4), (6, .int x6), (9, .int x9)] [.long ls0, .long ls1] h := by
  have C := B.1
  unfold fX9_maybeOf_b72 at hf
  refine x_lmul C dX9_maybeOf_72 ?_
  refine x_lstore (lv' := [(7, .long (ls1 * ls0)), (0, rf (qo X) 49), (1, .int x1), (2, .int x2), (3, .int x3), (4, .long l4), (6, .int x6), (9, .int x9)]) C dX9_maybeOf_73 (by decide) rfl ?_
  refine x_iinc (v := x9 + 1) (lv' := [(9, .int (x9 + 1)), (7, .long (ls1 * ls0)), (0, rf (qo X) 49), (1, .int x1), (2, .int x2), (3, .int x3), (4, .long l4), (6, .int x6)]) 7 C dX9_maybeOf_75 rfl rfl (by decide) rfl ?_
  refine x_goto (tgt := 41) C dX9_maybeOf_78 (by decide) ?_
  refine x_lv [2, 3, 4, 5, 6, 7, 1, 0] rfl ?_
  exact HK41 h x1 x2 x3 l4 x6 (ls1 * ls0) (x9 + 1) hf
def fX9_maybeOf_B41 (N : Nat) (k6 : pH → Int32 → Int32 → Int32 → Int64 → Int32 → Option (Int64 × pH)) (k41 : pH → Int32 → Int32 → Int32 → Int64 → Int32 → Int64 → Int32 → Option (Int64 × pH)) (h : pH) (x1 : Int32) (x2 : Int32) (x3 : Int32) (l4 : Int64) (x6 : Int32) (l7 : Int64) (x9 : Int32) : Option (Int64 × pH) :=
  if (h.1 49 11) ≤ x9 then (fX9_maybeOf_b88 N k6 h x1 x2 x3 (l4 + l7) x6) else ((fX9_isIn N h x6 x9).bind fun z1 => (if z1.1 = 0 then (fX9_maybeOf_b72 N k6 k41 z1.2 x1 x2 x3 l4 x6 x9 x1.toInt64 l7) else (fX9_maybeOf_b72 N k6 k41 z1.2 x1 x2 x3 l4 x6 x9 ((16 - x1).toInt64) l7)))
set_option maxRecDepth 100000 in
set_option maxHeartbeats 4000000 in
theorem tX9_maybeOf_B41 {X : Xt} {v : Int64} {h' : pH} (N : Nat) (k6 : pH → Int32 → Int32 → Int32 → Int64 → Int32 → Option (Int64 × pH)) (k41 : pH → Int32 → Int32 → Int32 → Int64 → Int32 → Int64 → Int32 → Option (Int64 × pH)) (HK6 : ∀ (h : pH) (x1 : Int32) (x2 : Int32) (x3 : Int32) (l4 : Int64) (x6 : Int32), k6 h x1 x2 x3 l4 x6 = some (v, h') → Wx X 10 6 [(0, rf (qo X) 49), (1, .int x1), (2, .int x2), (3, .int x3), (4, .long l4), (6, .int x6)] [] h) (HK41 : ∀ (h : pH) (x1 : Int32) (x2 : Int32) (x3 : Int32) (l4 : Int64) (x6 : Int32) (l7 : Int64) (x9 : Int32), k41 h x1 x2 x3 l4 x6 l7 x9 = some (v, h') → Wx X 10 41 [(0, rf (qo X) 49), (1, .int x1), (2, .int x2), (3, .int x3), (4, .long l4), (6, .int x6), (7, .long l7), (9, .int x9)] [] h) (h : pH) (x1 : Int32) (x2 : Int32) (x3 : Int32) (l4 : Int64) (x6 : Int32) (l7 : Int64) (x9 : Int32) (B : Bd (lo X) (qo X) cX9_maybeOf RX9 10 (some .long) 4 90 (some (.long v)) h' X) (hf : fX9_maybeOf_B41 N k6 k41 h x1 x2 x3 l4 x6 l7 x9 = some (v, h')) : Wx X 10 41 [(0, rf (qo X) 49), (1, .int x1), (2, .int x2), (3, .int x3), (4, .long l4), (6, .int x6), (7, .long l7), (9, .int x9)] [] h := by
  have C := B.1
  unfold fX9_maybeOf_B41 at hf
  refine x_iload 7 C dX9_maybeOf_41 rfl ?_
  refine x_aload_n (i := 0) 0 C dX9_maybeOf_43 rfl rfl ?_
  refine x_getI (r := 49) C dX9_maybeOf_44 kfX9_121 rfl ?_
  refine x_icmp_ge (tgt := 81) C dX9_maybeOf_47 (by decide) (fun c => ?_) (fun c => ?_)
  · rw [if_pos c] at hf
    refine x_lload 4 C dX9_maybeOf_81 rfl ?_
    refine x_lload 6 C dX9_maybeOf_83 rfl ?_
    refine x_ladd C dX9_maybeOf_85 ?_
    refine x_lstore (lv' := [(4, .long (l4 + l7)), (0, rf (qo X) 49), (1, .int x1), (2, .int x2), (3, .int x3), (6, .int x6), (7, .long l7), (9, .int x9)]) C dX9_maybeOf_86 (by decide) rfl ?_
    refine x_lv [1, 2, 3, 4, 0, 5] rfl ?_
    exact tX9_maybeOf_b88 N k6 HK6 h x1 x2 x3 (l4 + l7) x6 B hf
  · rw [if_neg c] at hf
    refine x_lload 6 C dX9_maybeOf_50 rfl ?_
    refine x_iload 5 C dX9_maybeOf_52 rfl ?_
    refine x_iload 7 C dX9_maybeOf_54 rfl ?_
    obtain ⟨z1, e1, hf⟩ := bnd hf
    refine x_callS (As := [.int x6, .int x9]) (rest := [.long l7]) C dX9_maybeOf_56 kmX9_184 miX9_isIn (ctX9_isIn (lo X) (qo X) N h x6 x9 z1.1 z1.2 e1) rfl rfl ⟨Nat.le_trans (by decide) B.2.2.2.1, Nat.le_trans (by decide) B.2.2.2.2.1⟩ (by simp [cat_i, cat_l, rf_cat]) ?_
    refine x_if_eq (tgt := 70) C dX9_maybeOf_59 (by decide) (fun c => ?_) (fun c => ?_)
    · rw [if_pos c] at hf
      refine x_iload_n (i := 1) 1 C dX9_maybeOf_70 rfl rfl ?_
      refine x_i2l C dX9_maybeOf_71 ?_
      refine x_lv [0, 1, 2, 3, 4, 5, 7] rfl ?_
      exact tX9_maybeOf_b72 N k6 k41 HK6 HK41 z1.2 x1 x2 x3 l4 x6 x9 x1.toInt64 l7 B hf
    · rw [if_neg c] at hf
      refine x_bipush (v := 16) C dX9_maybeOf_62 (by decide) ?_
      refine x_iload_n (i := 1) 1 C dX9_maybeOf_64 rfl rfl ?_
      refine x_isub C dX9_maybeOf_65 ?_
      refine x_i2l C dX9_maybeOf_66 ?_
      refine x_goto (tgt := 72) C dX9_maybeOf_67 (by decide) ?_
      refine x_lv [0, 1, 2, 3, 4, 5, 7] rfl ?_
      exact tX9_maybeOf_b72 N k6 k41 HK6 HK41 z1.2 x1 x2 x3 l4 x6 x9 ((16 - x1).toInt64) l7 B hf
def fX9_maybeOf_L41 (N : Nat) (k6 : pH → Int32 → Int32 → Int32 → Int64 → Int32 → Option (Int64 × pH)) : Nat → pH → Int32 → Int32 → Int32 → Int64 → Int32 → Int64 → Int32 → Option (Int64 × pH)
  | 0 => fun _ _ _ _ _ _ _ _ => none
  | n + 1 => fX9_maybeOf_B41 N k6 (fX9_maybeOf_L41 N k6 n)
theorem tX9_maybeOf_L41 {X : Xt} {v : Int64} {h' : pH} (N : Nat) (k6 : pH → Int32 → Int32 → Int32 → Int64 → Int32 → Option (Int64 × pH)) (HK6 : ∀ (h : pH) (x1 : Int32) (x2 : Int32) (x3 : Int32) (l4 : Int64) (x6 : Int32), k6 h x1 x2 x3 l4 x6 = some (v, h') → Wx X 10 6 [(0, rf (qo X) 49), (1, .int x1), (2, .int x2), (3, .int x3), (4, .long l4), (6, .int x6)] [] h) (B : Bd (lo X) (qo X) cX9_maybeOf RX9 10 (some .long) 4 90 (some (.long v)) h' X) : ∀ (n : Nat) (h : pH) (x1 : Int32) (x2 : Int32) (x3 : Int32) (l4 : Int64) (x6 : Int32) (l7 : Int64) (x9 : Int32), fX9_maybeOf_L41 N k6 n h x1 x2 x3 l4 x6 l7 x9 = some (v, h') → Wx X 10 41 [(0, rf (qo X) 49), (1, .int x1), (2, .int x2), (3, .int x3), (4, .long l4), (6, .int x6), (7, .long l7), (9, .int x9)] [] h := by
  intro n
  induction n with
  | zero => intro h x1 x2 x3 l4 x6 l7 x9 hf; exact absurd (show (none : Option (Int64 × pH)) = some (v, h') from hf) (fun z => by cases z)
  | succ n ih => intro h x1 x2 x3 l4 x6 l7 x9 hf; exact tX9_maybeOf_B41 N k6 (fX9_maybeOf_L41 N k6 n) HK6 ih h x1 x2 x3 l4 x6 l7 x9 B hf
def fX9_maybeOf_B6 (N : Nat) (k6 : pH → Int32 → Int32 → Int32 → Int64 → Int32 → Option (Int64 × pH)) (h : pH) (x1 : Int32) (x2 : Int32) (x3 : Int32) (l4 : Int64) (x6 : Int32) : Option (Int64 × pH) :=
  if (1 <<< ((h.1 49 11) &&& 31)) ≤ x6 then ((fX9_part N (pw h 49 20 0) l4 (1 <<< ((4 * ((pw h 49 20 0).1 49 11)).toInt64 &&& 63)) x3).bind fun z1 => (some (z1.1, z1.2))) else ((fX9_lives N (pw h 49 20 x6)).bind fun z2 => (if (z2.2.1 49 19) = x2 then (fX9_maybeOf_L41 N k6 N z2.2 x1 x2 x3 l4 x6 1 0) else (fX9_maybeOf_b88 N k6 z2.2 x1 x2 x3 l4 x6)))
set_option maxRecDepth 100000 in
set_option maxHeartbeats 4000000 in
theorem tX9_maybeOf_B6 {X : Xt} {v : Int64} {h' : pH} (N : Nat) (k6 : pH → Int32 → Int32 → Int32 → Int64 → Int32 → Option (Int64 × pH)) (HK6 : ∀ (h : pH) (x1 : Int32) (x2 : Int32) (x3 : Int32) (l4 : Int64) (x6 : Int32), k6 h x1 x2 x3 l4 x6 = some (v, h') → Wx X 10 6 [(0, rf (qo X) 49), (1, .int x1), (2, .int x2), (3, .int x3), (4, .long l4), (6, .int x6)] [] h) (h : pH) (x1 : Int32) (x2 : Int32) (x3 : Int32) (l4 : Int64) (x6 : Int32) (B : Bd (lo X) (qo X) cX9_maybeOf RX9 10 (some .long) 4 90 (some (.long v)) h' X) (hf : fX9_maybeOf_B6 N k6 h x1 x2 x3 l4 x6 = some (v, h')) : Wx X 10 6 [(0, rf (qo X) 49), (1, .int x1), (2, .int x2), (3, .int x3), (4, .long l4), (6, .int x6)] [] h := by
  have C := B.1
  unfold fX9_maybeOf_B6 at hf
  refine x_iload 5 C dX9_maybeOf_6 rfl ?_
  refine x_iconst (v := 1) C dX9_maybeOf_8 (by decide) ?_
  refine x_aload_n (i := 0) 0 C dX9_maybeOf_9 rfl rfl ?_
  refine x_getI (r := 49) C dX9_maybeOf_10 kfX9_121 rfl ?_
  refine x_ishl C dX9_maybeOf_13 ?_
  refine x_icmp_ge (tgt := 94) C dX9_maybeOf_14 (by decide) (fun c => ?_) (fun c => ?_)
  · rw [if_pos c] at hf
    refine x_aload_n (i := 0) 0 C dX9_maybeOf_94 rfl rfl ?_
    refine x_iconst (v := 0) C dX9_maybeOf_95 (by decide) ?_
    refine x_putI (r := 49) C dX9_maybeOf_96 kfX9_181 rfl rfl rfl ?_
    refine x_lload 4 C dX9_maybeOf_99 rfl ?_
    refine x_lconst (v := 1) C dX9_maybeOf_101 (by decide) ?_
    refine x_iconst (v := 4) C dX9_maybeOf_102 (by decide) ?_
    refine x_aload_n (i := 0) 0 C dX9_maybeOf_103 rfl rfl ?_
    refine x_getI (r := 49) C dX9_maybeOf_104 kfX9_121 rfl ?_
    refine x_imul C dX9_maybeOf_107 ?_
    refine x_lshl C dX9_maybeOf_108 ?_
    refine x_iload_n (i := 3) 3 C dX9_maybeOf_109 rfl rfl ?_
    obtain ⟨z1, e1, hf⟩ := bnd hf
    refine x_callS (As := [.long l4, .long (1 <<< ((4 * ((pw h 49 20 0).1 49 11)).toInt64 &&& 63)), .int x3]) (rest := []) C dX9_maybeOf_110 kmX9_259 miX9_part (ctX9_part (lo X) (qo X) N (pw h 49 20 0) l4 (1 <<< ((4 * ((pw h 49 20 0).1 49 11)).toInt64 &&& 63)) x3 z1.1 z1.2 e1) rfl rfl ⟨Nat.le_trans (by decide) B.2.2.2.1, Nat.le_trans (by decide) B.2.2.2.2.1⟩ (by simp [cat_i, cat_l, rf_cat]) ?_
    obtain ⟨rfl, rfl⟩ := rtn hf
    exact B.2.2.2.2.2.2.1 _ rfl rfl _ _ dX9_maybeOf_113
  · rw [if_neg c] at hf
    refine x_aload_n (i := 0) 0 C dX9_maybeOf_17 rfl rfl ?_
    refine x_iload 5 C dX9_maybeOf_18 rfl ?_
    refine x_putI (r := 49) C dX9_maybeOf_20 kfX9_181 rfl rfl rfl ?_
    refine x_aload_n (i := 0) 0 C dX9_maybeOf_23 rfl rfl ?_
    obtain ⟨z2, e2, hf⟩ := bnd hf
    refine x_callV (r := 49) (As := []) (rest := []) C dX9_maybeOf_24 kmX9_193 miX9_lives (ctX9_lives (lo X) (qo X) N (pw h 49 20 x6) z2.1 z2.2 e2) rfl rfl ⟨Nat.le_trans (by decide) B.2.2.2.1, Nat.le_trans (by decide) B.2.2.2.2.1⟩ (by simp [cat_i, cat_l, rf_cat]) rfl ?_
    refine x_aload_n (i := 0) 0 C dX9_maybeOf_27 rfl rfl ?_
    refine x_getI (r := 49) C dX9_maybeOf_28 kfX9_155 rfl ?_
    refine x_iload_n (i := 2) 2 C dX9_maybeOf_31 rfl rfl ?_
    refine x_icmp_ne (tgt := 88) C dX9_maybeOf_32 (by decide) (fun c => ?_) (fun c => ?_)
    · rw [if_neg c] at hf
      exact tX9_maybeOf_b88 N k6 HK6 z2.2 x1 x2 x3 l4 x6 B hf
    · rw [if_pos c] at hf
      refine x_lconst (v := 1) C dX9_maybeOf_35 (by decide) ?_
      refine x_lstore (lv' := [(7, .long 1), (0, rf (qo X) 49), (1, .int x1), (2, .int x2), (3, .int x3), (4, .long l4), (6, .int x6)]) C dX9_maybeOf_36 (by decide) rfl ?_
      refine x_iconst (v := 0) C dX9_maybeOf_38 (by decide) ?_
      refine x_istore (lv' := [(9, .int 0), (7, .long 1), (0, rf (qo X) 49), (1, .int x1), (2, .int x2), (3, .int x3), (4, .long l4), (6, .int x6)]) C dX9_maybeOf_39 (by decide) rfl ?_
      refine x_lv [2, 3, 4, 5, 6, 7, 1, 0] rfl ?_
      exact tX9_maybeOf_L41 N k6 HK6  B N z2.2 x1 x2 x3 l4 x6 1 0 hf
def fX9_maybeOf_L6 (N : Nat) : Nat → pH → Int32 → Int32 → Int32 → Int64 → Int32 → Option (Int64 × pH)
  | 0 => fun _ _ _ _ _ _ => none
  | n + 1 => fX9_maybeOf_B6 N (fX9_maybeOf_L6 N n)
theorem tX9_maybeOf_L6 {X : Xt} {v : Int64} {h' : pH} (N : Nat) (B : Bd (lo X) (qo X) cX9_maybeOf RX9 10 (some .long) 4 90 (some (.long v)) h' X) : ∀ (n : Nat) (h : pH) (x1 : Int32) (x2 : Int32) (x3 : Int32) (l4 : Int64) (x6 : Int32), fX9_maybeOf_L6 N n h x1 x2 x3 l4 x6 = some (v, h') → Wx X 10 6 [(0, rf (qo X) 49), (1, .int x1), (2, .int x2), (3, .int x3), (4, .long l4), (6, .int x6)] [] h := by
  intro n
  induction n with
  | zero => intro h x1 x2 x3 l4 x6 hf; exact absurd (show (none : Option (Int64 × pH)) = some (v, h') from hf) (fun z => by cases z)
  | succ n ih => intro h x1 x2 x3 l4 x6 hf; exact tX9_maybeOf_B6 N (fX9_maybeOf_L6 N n) ih h x1 x2 x3 l4 x6 B hf
def fX9_maybeOf (N : Nat) (h : pH) (x1 : Int32) (x2 : Int32) (x3 : Int32) : Option (Int64 × pH) :=
  fX9_maybeOf_L6 N N h x1 x2 x3 0 0
set_option maxRecDepth 100000 in
set_option maxHeartbeats 4000000 in
theorem tX9_maybeOf {X : Xt} {v : Int64} {h' : pH} (N : Nat) (h : pH) (x1 : Int32) (x2 : Int32) (x3 : Int32) (B : Bd (lo X) (qo X) cX9_maybeOf RX9 10 (some .long) 4 90 (some (.long v)) h' X) (hf : fX9_maybeOf N h x1 x2 x3 = some (v, h')) : Wx X 10 0 [(0, rf (qo X) 49), (1, .int x1), (2, .int x2), (3, .int x3)] [] h := by
  have C := B.1
  unfold fX9_maybeOf at hf
  refine x_lconst (v := 0) C dX9_maybeOf_0 (by decide) ?_
  refine x_lstore (lv' := [(4, .long 0), (0, rf (qo X) 49), (1, .int x1), (2, .int x2), (3, .int x3)]) C dX9_maybeOf_1 (by decide) rfl ?_
  refine x_iconst (v := 0) C dX9_maybeOf_3 (by decide) ?_
  refine x_istore (lv' := [(6, .int 0), (4, .long 0), (0, rf (qo X) 49), (1, .int x1), (2, .int x2), (3, .int x3)]) C dX9_maybeOf_4 (by decide) rfl ?_
  refine x_lv [2, 3, 4, 5, 1, 0] rfl ?_
  exact tX9_maybeOf_L6 N  B N h x1 x2 x3 0 0 hf
theorem ctX9_maybeOf (l : Launch) (q : Nat → Nat) (N : Nat) (h : pH) (x1 : Int32) (x2 : Int32) (x3 : Int32) (v : Int64) (h' : pH) (hf : fX9_maybeOf N h x1 x2 x3 = some (v, h')) : Ctr l q yX9_maybeOf cX9_maybeOf 10 (some .long) 4 90 [rf q 49, .int x1, .int x2, .int x3] h h' (some (.long v)) := by
  refine ct_of (own := RX9) (lv := [(0, rf q 49), (1, .int x1), (2, .int x2), (3, .int x3)]) (by decide +kernel) rfl (by simp [lg_sl, rf_cat, cat_i, cat_l]) (by first | rfl | simp [lv_args, rf_cat, cat_i, cat_l]) ?_
  intro X B
  obtain rfl := B.2.1
  obtain rfl := B.2.2.1
  exact tX9_maybeOf N h x1 x2 x3 B hf
def fX9_maybe_b63 (N : Nat) (h : pH) (ls0 : Int64) : Option (Int64 × pH) :=
  some (ls0, h)
set_option maxRecDepth 100000 in
set_option maxHeartbeats 4000000 in
theorem tX9_maybe_b63 {X : Xt} {v : Int64} {h' : pH} (N : Nat) (h : pH) (ls0 : Int64) (B : Bd (lo X) (qo X) cX9_maybe RX9 4 (some .long) 5 119 (some (.long v)) h' X) (hf : fX9_maybe_b63 N h ls0 = some (v, h')) : Wx X 4 63 [] [.long ls0] h := by
  have C := B.1
  unfold fX9_maybe_b63 at hf
  obtain ⟨rfl, rfl⟩ := rtn hf
  exact B.2.2.2.2.2.2.1 _ rfl rfl _ _ dX9_maybe_63
def fX9_maybe_b58 (N : Nat) (h : pH)  : Option (Int64 × pH) :=
  (fX9_no N h (-2)).bind fun z1 => (fX9_maybe_b63 N z1.2 z1.1)
set_option maxRecDepth 100000 in
set_option maxHeartbeats 4000000 in
theorem tX9_maybe_b58 {X : Xt} {v : Int64} {h' : pH} (N : Nat) (h : pH)  (B : Bd (lo X) (qo X) cX9_maybe RX9 4 (some .long) 5 119 (some (.long v)) h' X) (hf : fX9_maybe_b58 N h  = some (v, h')) : Wx X 4 58 [] [] h := by
  have C := B.1
  unfold fX9_maybe_b58 at hf
  refine x_bipush (v := (-2)) C dX9_maybe_58 (by decide) ?_
  obtain ⟨z1, e1, hf⟩ := bnd hf
  refine x_callS (As := [.int (-2)]) (rest := []) C dX9_maybe_60 kmX9_269 miX9_no (ctX9_no (lo X) (qo X) N h (-2) z1.1 z1.2 e1) rfl rfl ⟨Nat.le_trans (by decide) B.2.2.2.1, Nat.le_trans (by decide) B.2.2.2.2.1⟩ (by simp [cat_i, cat_l, rf_cat]) ?_
  exact tX9_maybe_b63 N z1.2 z1.1 B hf
def fX9_maybe (N : Nat) (h : pH) (x1 : Int32) (x2 : Int32) (x3 : Int32) : Option (Int64 × pH) :=
  (fX9_find N h).bind fun z1 => ((fX9_in N z1.2 x1.toInt64 0 16).bind fun z2 => (if z2.1 = 0 then (fX9_maybe_b58 N z2.2) else ((fX9_in N z2.2 x2.toInt64 0 (((z2.2.1 49 7) - 1).toInt64)).bind fun z3 => (if z3.1 = 0 then (fX9_maybe_b58 N z3.2) else ((fX9_isTwo N z3.2 x3).bind fun z4 => (if z4.1 = 0 then (fX9_maybe_b58 N z4.2) else (if 10 < (z4.2.1 49 11) then (fX9_maybe_b58 N z4.2) else ((fX9_maybeOf N z4.2 x1 x2 x3).bind fun z5 => (fX9_maybe_b63 N z5.2 z5.1)))))))))
set_option maxRecDepth 100000 in
set_option maxHeartbeats 4000000 in
theorem tX9_maybe {X : Xt} {v : Int64} {h' : pH} (N : Nat) (h : pH) (x1 : Int32) (x2 : Int32) (x3 : Int32) (B : Bd (lo X) (qo X) cX9_maybe RX9 4 (some .long) 5 119 (some (.long v)) h' X) (hf : fX9_maybe N h x1 x2 x3 = some (v, h')) : Wx X 4 0 [(0, rf (qo X) 49), (1, .int x1), (2, .int x2), (3, .int x3)] [] h := by
  have C := B.1
  unfold fX9_maybe at hf
  refine x_aload_n (i := 0) 0 C dX9_maybe_0 rfl rfl ?_
  obtain ⟨z1, e1, hf⟩ := bnd hf
  refine x_callV (r := 49) (As := []) (rest := []) C dX9_maybe_1 kmX9_196 miX9_find (ctX9_find (lo X) (qo X) N h z1.1 z1.2 e1) rfl rfl ⟨Nat.le_trans (by decide) B.2.2.2.1, Nat.le_trans (by decide) B.2.2.2.2.1⟩ (by simp [cat_i, cat_l, rf_cat]) rfl ?_
  refine x_iload_n (i := 1) 1 C dX9_maybe_4 rfl rfl ?_
  refine x_i2l C dX9_maybe_5 ?_
  refine x_lconst (v := 0) C dX9_maybe_6 (by decide) ?_
  refine x_ldc2 (v := 16) C dX9_maybe_7 kkX9_263 ?_
  obtain ⟨z2, e2, hf⟩ := bnd hf
  refine x_callS (As := [.long x1.toInt64, .long 0, .long 16]) (rest := []) C dX9_maybe_10 kmX9_69 miX9_in (ctX9_in (lo X) (qo X) N z1.2 x1.toInt64 0 16 z2.1 z2.2 e2) rfl rfl ⟨Nat.le_trans (by decide) B.2.2.2.1, Nat.le_trans (by decide) B.2.2.2.2.1⟩ (by simp [cat_i, cat_l, rf_cat]) ?_
  refine x_if_eq (tgt := 58) C dX9_maybe_13 (by decide) (fun c => ?_) (fun c => ?_)
  · rw [if_pos c] at hf
    refine x_lv [] rfl ?_
    exact tX9_maybe_b58 N z2.2 B hf
  · rw [if_neg c] at hf
    refine x_iload_n (i := 2) 2 C dX9_maybe_16 rfl rfl ?_
    refine x_i2l C dX9_maybe_17 ?_
    refine x_lconst (v := 0) C dX9_maybe_18 (by decide) ?_
    refine x_aload_n (i := 0) 0 C dX9_maybe_19 rfl rfl ?_
    refine x_getI (r := 49) C dX9_maybe_20 kfX9_103 rfl ?_
    refine x_iconst (v := 1) C dX9_maybe_23 (by decide) ?_
    refine x_isub C dX9_maybe_24 ?_
    refine x_i2l C dX9_maybe_25 ?_
    obtain ⟨z3, e3, hf⟩ := bnd hf
    refine x_callS (As := [.long x2.toInt64, .long 0, .long (((z2.2.1 49 7) - 1).toInt64)]) (rest := []) C dX9_maybe_26 kmX9_69 miX9_in (ctX9_in (lo X) (qo X) N z2.2 x2.toInt64 0 (((z2.2.1 49 7) - 1).toInt64) z3.1 z3.2 e3) rfl rfl ⟨Nat.le_trans (by decide) B.2.2.2.1, Nat.le_trans (by decide) B.2.2.2.2.1⟩ (by simp [cat_i, cat_l, rf_cat]) ?_
    refine x_if_eq (tgt := 58) C dX9_maybe_29 (by decide) (fun c => ?_) (fun c => ?_)
    · rw [if_pos c] at hf
      refine x_lv [] rfl ?_
      exact tX9_maybe_b58 N z3.2 B hf
    · rw [if_neg c] at hf
      refine x_iload_n (i := 3) 3 C dX9_maybe_32 rfl rfl ?_
      obtain ⟨z4, e4, hf⟩ := bnd hf
      refine x_callS (As := [.int x3]) (rest := []) C dX9_maybe_33 kmX9_148 miX9_isTwo (ctX9_isTwo (lo X) (qo X) N z3.2 x3 z4.1 z4.2 e4) rfl rfl ⟨Nat.le_trans (by decide) B.2.2.2.1, Nat.le_trans (by decide) B.2.2.2.2.1⟩ (by simp [cat_i, cat_l, rf_cat]) ?_
      refine x_if_eq (tgt := 58) C dX9_maybe_36 (by decide) (fun c => ?_) (fun c => ?_)
      · rw [if_pos c] at hf
        refine x_lv [] rfl ?_
        exact tX9_maybe_b58 N z4.2 B hf
      · rw [if_neg c] at hf
        refine x_aload_n (i := 0) 0 C dX9_maybe_39 rfl rfl ?_
        refine x_getI (r := 49) C dX9_maybe_40 kfX9_121 rfl ?_
        refine x_bipush (v := 10) C dX9_maybe_43 (by decide) ?_
        refine x_icmp_gt (tgt := 58) C dX9_maybe_45 (by decide) (fun c => ?_) (fun c => ?_)
        · rw [if_pos c] at hf
          refine x_lv [] rfl ?_
          exact tX9_maybe_b58 N z4.2 B hf
        · rw [if_neg c] at hf
          refine x_aload_n (i := 0) 0 C dX9_maybe_48 rfl rfl ?_
          refine x_iload_n (i := 1) 1 C dX9_maybe_49 rfl rfl ?_
          refine x_iload_n (i := 2) 2 C dX9_maybe_50 rfl rfl ?_
          refine x_iload_n (i := 3) 3 C dX9_maybe_51 rfl rfl ?_
          obtain ⟨z5, e5, hf⟩ := bnd hf
          refine x_callV (r := 49) (As := [.int x1, .int x2, .int x3]) (rest := []) C dX9_maybe_52 kmX9_265 miX9_maybeOf (ctX9_maybeOf (lo X) (qo X) N z4.2 x1 x2 x3 z5.1 z5.2 e5) rfl rfl ⟨Nat.le_trans (by decide) B.2.2.2.1, Nat.le_trans (by decide) B.2.2.2.2.1⟩ (by simp [cat_i, cat_l, rf_cat]) rfl ?_
          refine x_goto (tgt := 63) C dX9_maybe_55 (by decide) ?_
          refine x_lv [] rfl ?_
          exact tX9_maybe_b63 N z5.2 z5.1 B hf
theorem ctX9_maybe (l : Launch) (q : Nat → Nat) (N : Nat) (h : pH) (x1 : Int32) (x2 : Int32) (x3 : Int32) (v : Int64) (h' : pH) (hf : fX9_maybe N h x1 x2 x3 = some (v, h')) : Ctr l q yX9_maybe cX9_maybe 4 (some .long) 5 119 [rf q 49, .int x1, .int x2, .int x3] h h' (some (.long v)) := by
  refine ct_of (own := RX9) (lv := [(0, rf q 49), (1, .int x1), (2, .int x2), (3, .int x3)]) (by decide +kernel) rfl (by simp [lg_sl, rf_cat, cat_i, cat_l]) (by first | rfl | simp [lv_args, rf_cat, cat_i, cat_l]) ?_
  intro X B
  obtain rfl := B.2.1
  obtain rfl := B.2.2.1
  exact tX9_maybe N h x1 x2 x3 B hf
def fX9_lot (N : Nat) (h : pH) (x1 : Int32) : Option (Int32 × pH) :=
  if ¬ x1 = 0 then (some (((((pw h 49 30 ((1103515245 * (h.1 49 30)) + 12345)).1 49 30).toUInt32 >>> ((16 : Int32).toUInt32 &&& Int32.toUInt32 31)).toInt32) - ((((pw h 49 30 ((1103515245 * (h.1 49 30)) + 12345)).1 49 30).toUInt32 >>> ((16 : Int32).toUInt32 &&& Int32.toUInt32 31)).toInt32) / x1 * x1, (pw h 49 30 ((1103515245 * (h.1 49 30)) + 12345)))) else none
set_option maxRecDepth 100000 in
set_option maxHeartbeats 4000000 in
theorem tX9_lot {X : Xt} {v : Int32} {h' : pH} (N : Nat) (h : pH) (x1 : Int32) (B : Bd (lo X) (qo X) cX9_lot RX9 2 (some .int) 0 0 (some (.int v)) h' X) (hf : fX9_lot N h x1 = some (v, h')) : Wx X 2 0 [(0, rf (qo X) 49), (1, .int x1)] [] h := by
  have C := B.1
  unfold fX9_lot at hf
  refine x_aload_n (i := 0) 0 C dX9_lot_0 rfl rfl ?_
  refine x_ldcw (v := 1103515245) C dX9_lot_1 kkX9_273 ?_
  refine x_aload_n (i := 0) 0 C dX9_lot_4 rfl rfl ?_
  refine x_getI (r := 49) C dX9_lot_5 kfX9_274 rfl ?_
  refine x_imul C dX9_lot_8 ?_
  refine x_sipush (v := 12345) C dX9_lot_9 (by decide) ?_
  refine x_iadd C dX9_lot_12 ?_
  refine x_putI (r := 49) C dX9_lot_13 kfX9_274 rfl rfl rfl ?_
  refine x_aload_n (i := 0) 0 C dX9_lot_16 rfl rfl ?_
  refine x_getI (r := 49) C dX9_lot_17 kfX9_274 rfl ?_
  refine x_bipush (v := 16) C dX9_lot_20 (by decide) ?_
  refine x_iushr C dX9_lot_22 ?_
  refine x_iload_n (i := 1) 1 C dX9_lot_23 rfl rfl ?_
  obtain ⟨g1, hf⟩ := ife hf
  refine x_irem C dX9_lot_24 g1 ?_
  obtain ⟨rfl, rfl⟩ := rtn hf
  exact B.2.2.2.2.2.1 _ _ rfl rfl rfl _ _ dX9_lot_25
theorem ctX9_lot (l : Launch) (q : Nat → Nat) (N : Nat) (h : pH) (x1 : Int32) (v : Int32) (h' : pH) (hf : fX9_lot N h x1 = some (v, h')) : Ctr l q yX9_lot cX9_lot 2 (some .int) 0 0 [rf q 49, .int x1] h h' (some (.int v)) := by
  refine ct_of (own := RX9) (lv := [(0, rf q 49), (1, .int x1)]) (by decide +kernel) rfl (by simp [lg_sl, rf_cat, cat_i, cat_l]) (by first | rfl | simp [lv_args, rf_cat, cat_i, cat_l]) ?_
  intro X B
  obtain rfl := B.2.1
  obtain rfl := B.2.2.1
  exact tX9_lot N h x1 B hf
def fX9_weekOf_b73 (N : Nat) (h : pH) (xs0 : Int32) : Option (Int32 × pH) :=
  some (xs0, h)
set_option maxRecDepth 100000 in
set_option maxHeartbeats 4000000 in
theorem tX9_weekOf_b73 {X : Xt} {v : Int32} {h' : pH} (N : Nat) (h : pH) (xs0 : Int32) (B : Bd (lo X) (qo X) cX9_weekOf RX9 6 (some .int) 4 90 (some (.int v)) h' X) (hf : fX9_weekOf_b73 N h xs0 = some (v, h')) : Wx X 6 73 [] [.int xs0] h := by
  have C := B.1
  unfold fX9_weekOf_b73 at hf
  obtain ⟨rfl, rfl⟩ := rtn hf
  exact B.2.2.2.2.2.1 _ _ rfl rfl rfl _ _ dX9_weekOf_73
def fX9_weekOf_b60 (N : Nat) (h : pH) (x3 : Int32) (x4 : Int32) : Option (Int32 × pH) :=
  if x3 = 0 then (fX9_weekOf_b73 N h (h.1 49 19)) else (fX9_weekOf_b73 N h x4)
set_option maxRecDepth 100000 in
set_option maxHeartbeats 4000000 in
theorem tX9_weekOf_b60 {X : Xt} {v : Int32} {h' : pH} (N : Nat) (h : pH) (x3 : Int32) (x4 : Int32) (B : Bd (lo X) (qo X) cX9_weekOf RX9 6 (some .int) 4 90 (some (.int v)) h' X) (hf : fX9_weekOf_b60 N h x3 x4 = some (v, h')) : Wx X 6 60 [(0, rf (qo X) 49), (3, .int x3), (4, .int x4)] [] h := by
  have C := B.1
  unfold fX9_weekOf_b60 at hf
  refine x_iload_n (i := 3) 1 C dX9_weekOf_60 rfl rfl ?_
  refine x_if_ne (tgt := 71) C dX9_weekOf_61 (by decide) (fun c => ?_) (fun c => ?_)
  · rw [if_neg c] at hf
    refine x_iload 2 C dX9_weekOf_71 rfl ?_
    refine x_lv [] rfl ?_
    exact tX9_weekOf_b73 N h x4 B hf
  · rw [if_pos c] at hf
    refine x_aload_n (i := 0) 0 C dX9_weekOf_64 rfl rfl ?_
    refine x_getI (r := 49) C dX9_weekOf_65 kfX9_155 rfl ?_
    refine x_goto (tgt := 73) C dX9_weekOf_68 (by decide) ?_
    refine x_lv [] rfl ?_
    exact tX9_weekOf_b73 N h (h.1 49 19) B hf
def fX9_weekOf_b51 (N : Nat) (k15 : pH → Int32 → Int32 → Int32 → Int32 → Option (Int32 × pH)) (h : pH) (x2 : Int32) (x3 : Int32) (x5 : Int32) (xs0 : Int32) (xs1 : Int32) : Option (Int32 × pH) :=
  k15 h x2 x3 (xs1 + xs0) (x5 + 1)
set_option maxRecDepth 100000 in
set_option maxHeartbeats 4000000 in
theorem tX9_weekOf_b51 {X : Xt} {v : Int32} {h' : pH} (N : Nat) (k15 : pH → Int32 → Int32 → Int32 → Int32 → Option (Int32 × pH)) (HK15 : ∀ (h : pH) (x2 : Int32) (x3 : Int32) (x4 : Int32) (x5 : Int32), k15 h x2 x3 x4 x5 = some (v, h') → Wx X 6 15 [(0, rf (qo X) 49), (2, .int x2), (3, .int x3), (4, .int x4), (5, .int x5)] [] h) (h : pH) (x2 : Int32) (x3 : Int32) (x5 : Int32) (xs0 : Int32) (xs1 : Int32) (B : Bd (lo X) (qo X) cX9_weekOf RX9 6 (some .int) 4 90 (some (.int v)) h' X) (hf : fX9_weekOf_b51 N k15 h x2 x3 x5 xs0 xs1 = some (v, h')) : Wx X 6 51 [(0, rf (qo X) 49), (2, .int x2), (3, .int x3), (5, .int x5)] [.int xs0, .int xs1] h := by
  have C := B.1
  unfold fX9_weekOf_b51 at hf
  refine x_iadd C dX9_weekOf_51 ?_
  refine x_istore (lv' := [(4, .int (xs1 + xs0)), (0, rf (qo X) 49), (2, .int x2), (3, .int x3), (5, .int x5)]) C dX9_weekOf_52 (by decide) rfl ?_
  refine x_iinc (v := x5 + 1) (lv' := [(5, .int (x5 + 1)), (4, .int (xs1 + xs0)), (0, rf (qo X) 49), (2, .int x2), (3, .int x3)]) 4 C dX9_weekOf_54 rfl rfl (by decide) rfl ?_
  refine x_goto (tgt := 15) C dX9_weekOf_57 (by decide) ?_
  refine x_lv [2, 3, 4, 1, 0] rfl ?_
  exact HK15 h x2 x3 (xs1 + xs0) (x5 + 1) hf
def fX9_weekOf_B15 (N : Nat) (k15 : pH → Int32 → Int32 → Int32 → Int32 → Option (Int32 × pH)) (h : pH) (x2 : Int32) (x3 : Int32) (x4 : Int32) (x5 : Int32) : Option (Int32 × pH) :=
  if x2 ≤ x5 then (fX9_weekOf_b60 N h x3 x4) else (if (h.1 49 9) ≤ 0 then (fX9_weekOf_b60 N h x3 x4) else ((fX9_lot N h (h.1 49 9)).bind fun z1 => ((fX9_tries N z1.2 z1.1).bind fun z2 => (if z2.1 = 1 then (fX9_weekOf_b51 N k15 z2.2 x2 x3 x5 1 x4) else (fX9_weekOf_b51 N k15 z2.2 x2 x3 x5 0 x4)))))
set_option maxRecDepth 100000 in
set_option maxHeartbeats 4000000 in
theorem tX9_weekOf_B15 {X : Xt} {v : Int32} {h' : pH} (N : Nat) (k15 : pH → Int32 → Int32 → Int32 → Int32 → Option (Int32 × pH)) (HK15 : ∀ (h : pH) (x2 : Int32) (x3 : Int32) (x4 : Int32) (x5 : Int32), k15 h x2 x3 x4 x5 = some (v, h') → Wx X 6 15 [(0, rf (qo X) 49), (2, .int x2), (3, .int x3), (4, .int x4), (5, .int x5)] [] h) (h : pH) (x2 : Int32) (x3 : Int32) (x4 : Int32) (x5 : Int32) (B : Bd (lo X) (qo X) cX9_weekOf RX9 6 (some .int) 4 90 (some (.int v)) h' X) (hf : fX9_weekOf_B15 N k15 h x2 x3 x4 x5 = some (v, h')) : Wx X 6 15 [(0, rf (qo X) 49), (2, .int x2), (3, .int x3), (4, .int x4), (5, .int x5)] [] h := by
  have C := B.1
  unfold fX9_weekOf_B15 at hf
  refine x_iload 4 C dX9_weekOf_15 rfl ?_
  refine x_iload_n (i := 2) 1 C dX9_weekOf_17 rfl rfl ?_
  refine x_icmp_ge (tgt := 60) C dX9_weekOf_18 (by decide) (fun c => ?_) (fun c => ?_)
  · rw [if_pos c] at hf
    refine x_lv [0, 2, 3] rfl ?_
    exact tX9_weekOf_b60 N h x3 x4 B hf
  · rw [if_neg c] at hf
    refine x_aload_n (i := 0) 0 C dX9_weekOf_21 rfl rfl ?_
    refine x_getI (r := 49) C dX9_weekOf_22 kfX9_115 rfl ?_
    refine x_if_le (tgt := 60) C dX9_weekOf_25 (by decide) (fun c => ?_) (fun c => ?_)
    · rw [if_pos c] at hf
      refine x_lv [0, 2, 3] rfl ?_
      exact tX9_weekOf_b60 N h x3 x4 B hf
    · rw [if_neg c] at hf
      refine x_iload 3 C dX9_weekOf_28 rfl ?_
      refine x_aload_n (i := 0) 0 C dX9_weekOf_30 rfl rfl ?_
      refine x_aload_n (i := 0) 0 C dX9_weekOf_31 rfl rfl ?_
      refine x_aload_n (i := 0) 0 C dX9_weekOf_32 rfl rfl ?_
      refine x_getI (r := 49) C dX9_weekOf_33 kfX9_115 rfl ?_
      obtain ⟨z1, e1, hf⟩ := bnd hf
      refine x_callV (r := 49) (As := [.int (h.1 49 9)]) (rest := [rf (qo X) 49, .int x4]) C dX9_weekOf_36 kmX9_277 miX9_lot (ctX9_lot (lo X) (qo X) N h (h.1 49 9) z1.1 z1.2 e1) rfl rfl ⟨Nat.le_trans (by decide) B.2.2.2.1, Nat.le_trans (by decide) B.2.2.2.2.1⟩ (by simp [cat_i, cat_l, rf_cat]) rfl ?_
      obtain ⟨z2, e2, hf⟩ := bnd hf
      refine x_callV (r := 49) (As := [.int z1.1]) (rest := [.int x4]) C dX9_weekOf_39 kmX9_187 miX9_tries (ctX9_tries (lo X) (qo X) N z1.2 z1.1 z2.1 z2.2 e2) rfl rfl ⟨Nat.le_trans (by decide) B.2.2.2.1, Nat.le_trans (by decide) B.2.2.2.2.1⟩ (by simp [cat_i, cat_l, rf_cat]) rfl ?_
      refine x_iconst (v := 1) C dX9_weekOf_42 (by decide) ?_
      refine x_icmp_ne (tgt := 50) C dX9_weekOf_43 (by decide) (fun c => ?_) (fun c => ?_)
      · rw [if_neg c] at hf
        refine x_iconst (v := 0) C dX9_weekOf_50 (by decide) ?_
        refine x_lv [0, 1, 2, 4] rfl ?_
        exact tX9_weekOf_b51 N k15 HK15 z2.2 x2 x3 x5 0 x4 B hf
      · rw [if_pos c] at hf
        refine x_iconst (v := 1) C dX9_weekOf_46 (by decide) ?_
        refine x_goto (tgt := 51) C dX9_weekOf_47 (by decide) ?_
        refine x_lv [0, 1, 2, 4] rfl ?_
        exact tX9_weekOf_b51 N k15 HK15 z2.2 x2 x3 x5 1 x4 B hf
def fX9_weekOf_L15 (N : Nat) : Nat → pH → Int32 → Int32 → Int32 → Int32 → Option (Int32 × pH)
  | 0 => fun _ _ _ _ _ => none
  | n + 1 => fX9_weekOf_B15 N (fX9_weekOf_L15 N n)
theorem tX9_weekOf_L15 {X : Xt} {v : Int32} {h' : pH} (N : Nat) (B : Bd (lo X) (qo X) cX9_weekOf RX9 6 (some .int) 4 90 (some (.int v)) h' X) : ∀ (n : Nat) (h : pH) (x2 : Int32) (x3 : Int32) (x4 : Int32) (x5 : Int32), fX9_weekOf_L15 N n h x2 x3 x4 x5 = some (v, h') → Wx X 6 15 [(0, rf (qo X) 49), (2, .int x2), (3, .int x3), (4, .int x4), (5, .int x5)] [] h := by
  intro n
  induction n with
  | zero => intro h x2 x3 x4 x5 hf; exact absurd (show (none : Option (Int32 × pH)) = some (v, h') from hf) (fun z => by cases z)
  | succ n ih => intro h x2 x3 x4 x5 hf; exact tX9_weekOf_B15 N (fX9_weekOf_L15 N n) ih h x2 x3 x4 x5 B hf
def fX9_weekOf (N : Nat) (h : pH) (x1 : Int32) (x2 : Int32) (x3 : Int32) : Option (Int32 × pH) :=
  (fX9_lives N h).bind fun z1 => (fX9_weekOf_L15 N N (pw z1.2 49 30 x1) x2 x3 0 0)
set_option maxRecDepth 100000 in
set_option maxHeartbeats 4000000 in
theorem tX9_weekOf {X : Xt} {v : Int32} {h' : pH} (N : Nat) (h : pH) (x1 : Int32) (x2 : Int32) (x3 : Int32) (B : Bd (lo X) (qo X) cX9_weekOf RX9 6 (some .int) 4 90 (some (.int v)) h' X) (hf : fX9_weekOf N h x1 x2 x3 = some (v, h')) : Wx X 6 0 [(0, rf (qo X) 49), (1, .int x1), (2, .int x2), (3, .int x3)] [] h := by
  have C := B.1
  unfold fX9_weekOf at hf
  refine x_aload_n (i := 0) 0 C dX9_weekOf_0 rfl rfl ?_
  obtain ⟨z1, e1, hf⟩ := bnd hf
  refine x_callV (r := 49) (As := []) (rest := []) C dX9_weekOf_1 kmX9_193 miX9_lives (ctX9_lives (lo X) (qo X) N h z1.1 z1.2 e1) rfl rfl ⟨Nat.le_trans (by decide) B.2.2.2.1, Nat.le_trans (by decide) B.2.2.2.2.1⟩ (by simp [cat_i, cat_l, rf_cat]) rfl ?_
  refine x_aload_n (i := 0) 0 C dX9_weekOf_4 rfl rfl ?_
  refine x_iload_n (i := 1) 1 C dX9_weekOf_5 rfl rfl ?_
  refine x_putI (r := 49) C dX9_weekOf_6 kfX9_274 rfl rfl rfl ?_
  refine x_iconst (v := 0) C dX9_weekOf_9 (by decide) ?_
  refine x_istore (lv' := [(4, .int 0), (0, rf (qo X) 49), (1, .int x1), (2, .int x2), (3, .int x3)]) C dX9_weekOf_10 (by decide) rfl ?_
  refine x_iconst (v := 0) C dX9_weekOf_12 (by decide) ?_
  refine x_istore (lv' := [(5, .int 0), (4, .int 0), (0, rf (qo X) 49), (1, .int x1), (2, .int x2), (3, .int x3)]) C dX9_weekOf_13 (by decide) rfl ?_
  refine x_lv [2, 4, 5, 1, 0] rfl ?_
  exact tX9_weekOf_L15 N  B N (pw z1.2 49 30 x1) x2 x3 0 0 hf
theorem ctX9_weekOf (l : Launch) (q : Nat → Nat) (N : Nat) (h : pH) (x1 : Int32) (x2 : Int32) (x3 : Int32) (v : Int32) (h' : pH) (hf : fX9_weekOf N h x1 x2 x3 = some (v, h')) : Ctr l q yX9_weekOf cX9_weekOf 6 (some .int) 4 90 [rf q 49, .int x1, .int x2, .int x3] h h' (some (.int v)) := by
  refine ct_of (own := RX9) (lv := [(0, rf q 49), (1, .int x1), (2, .int x2), (3, .int x3)]) (by decide +kernel) rfl (by simp [lg_sl, rf_cat, cat_i, cat_l]) (by first | rfl | simp [lv_args, rf_cat, cat_i, cat_l]) ?_
  intro X B
  obtain rfl := B.2.1
  obtain rfl := B.2.2.1
  exact tX9_weekOf N h x1 x2 x3 B hf
def fX9_week_b35 (N : Nat) (h : pH) (xs0 : Int32) : Option (Int32 × pH) :=
  some (xs0, h)
set_option maxRecDepth 100000 in
set_option maxHeartbeats 4000000 in
theorem tX9_week_b35 {X : Xt} {v : Int32} {h' : pH} (N : Nat) (h : pH) (xs0 : Int32) (B : Bd (lo X) (qo X) cX9_week RX9 4 (some .int) 5 115 (some (.int v)) h' X) (hf : fX9_week_b35 N h xs0 = some (v, h')) : Wx X 4 35 [] [.int xs0] h := by
  have C := B.1
  unfold fX9_week_b35 at hf
  obtain ⟨rfl, rfl⟩ := rtn hf
  exact B.2.2.2.2.2.1 _ _ rfl rfl rfl _ _ dX9_week_35
def fX9_week_b33 (N : Nat) (h : pH)  : Option (Int32 × pH) :=
  fX9_week_b35 N h (-2)
set_option maxRecDepth 100000 in
set_option maxHeartbeats 4000000 in
theorem tX9_week_b33 {X : Xt} {v : Int32} {h' : pH} (N : Nat) (h : pH)  (B : Bd (lo X) (qo X) cX9_week RX9 4 (some .int) 5 115 (some (.int v)) h' X) (hf : fX9_week_b33 N h  = some (v, h')) : Wx X 4 33 [] [] h := by
  have C := B.1
  unfold fX9_week_b33 at hf
  refine x_bipush (v := (-2)) C dX9_week_33 (by decide) ?_
  exact tX9_week_b35 N h (-2) B hf
def fX9_week (N : Nat) (h : pH) (x1 : Int32) (x2 : Int32) (x3 : Int32) : Option (Int32 × pH) :=
  (fX9_find N h).bind fun z1 => ((fX9_in N z1.2 x2.toInt64 1 99).bind fun z2 => (if z2.1 = 0 then (fX9_week_b33 N z2.2) else ((fX9_isTwo N z2.2 x3).bind fun z3 => (if z3.1 = 0 then (fX9_week_b33 N z3.2) else ((fX9_weekOf N z3.2 x1 x2 x3).bind fun z4 => (fX9_week_b35 N z4.2 z4.1))))))
set_option maxRecDepth 100000 in
set_option maxHeartbeats 4000000 in
theorem tX9_week {X : Xt} {v : Int32} {h' : pH} (N : Nat) (h : pH) (x1 : Int32) (x2 : Int32) (x3 : Int32) (B : Bd (lo X) (qo X) cX9_week RX9 4 (some .int) 5 115 (some (.int v)) h' X) (hf : fX9_week N h x1 x2 x3 = some (v, h')) : Wx X 4 0 [(0, rf (qo X) 49), (1, .int x1), (2, .int x2), (3, .int x3)] [] h := by
  have C := B.1
  unfold fX9_week at hf
  refine x_aload_n (i := 0) 0 C dX9_week_0 rfl rfl ?_
  obtain ⟨z1, e1, hf⟩ := bnd hf
  refine x_callV (r := 49) (As := []) (rest := []) C dX9_week_1 kmX9_196 miX9_find (ctX9_find (lo X) (qo X) N h z1.1 z1.2 e1) rfl rfl ⟨Nat.le_trans (by decide) B.2.2.2.1, Nat.le_trans (by decide) B.2.2.2.2.1⟩ (by simp [cat_i, cat_l, rf_cat]) rfl ?_
  refine x_iload_n (i := 2) 2 C dX9_week_4 rfl rfl ?_
  refine x_i2l C dX9_week_5 ?_
  refine x_lconst (v := 1) C dX9_week_6 (by decide) ?_
  refine x_ldc2 (v := 99) C dX9_week_7 kkX9_280 ?_
  obtain ⟨z2, e2, hf⟩ := bnd hf
  refine x_callS (As := [.long x2.toInt64, .long 1, .long 99]) (rest := []) C dX9_week_10 kmX9_69 miX9_in (ctX9_in (lo X) (qo X) N z1.2 x2.toInt64 1 99 z2.1 z2.2 e2) rfl rfl ⟨Nat.le_trans (by decide) B.2.2.2.1, Nat.le_trans (by decide) B.2.2.2.2.1⟩ (by simp [cat_i, cat_l, rf_cat]) ?_
  refine x_if_eq (tgt := 33) C dX9_week_13 (by decide) (fun c => ?_) (fun c => ?_)
  · rw [if_pos c] at hf
    refine x_lv [] rfl ?_
    exact tX9_week_b33 N z2.2 B hf
  · rw [if_neg c] at hf
    refine x_iload_n (i := 3) 3 C dX9_week_16 rfl rfl ?_
    obtain ⟨z3, e3, hf⟩ := bnd hf
    refine x_callS (As := [.int x3]) (rest := []) C dX9_week_17 kmX9_148 miX9_isTwo (ctX9_isTwo (lo X) (qo X) N z2.2 x3 z3.1 z3.2 e3) rfl rfl ⟨Nat.le_trans (by decide) B.2.2.2.1, Nat.le_trans (by decide) B.2.2.2.2.1⟩ (by simp [cat_i, cat_l, rf_cat]) ?_
    refine x_if_eq (tgt := 33) C dX9_week_20 (by decide) (fun c => ?_) (fun c => ?_)
    · rw [if_pos c] at hf
      refine x_lv [] rfl ?_
      exact tX9_week_b33 N z3.2 B hf
    · rw [if_neg c] at hf
      refine x_aload_n (i := 0) 0 C dX9_week_23 rfl rfl ?_
      refine x_iload_n (i := 1) 1 C dX9_week_24 rfl rfl ?_
      refine x_iload_n (i := 2) 2 C dX9_week_25 rfl rfl ?_
      refine x_iload_n (i := 3) 3 C dX9_week_26 rfl rfl ?_
      obtain ⟨z4, e4, hf⟩ := bnd hf
      refine x_callV (r := 49) (As := [.int x1, .int x2, .int x3]) (rest := []) C dX9_week_27 kmX9_282 miX9_weekOf (ctX9_weekOf (lo X) (qo X) N z3.2 x1 x2 x3 z4.1 z4.2 e4) rfl rfl ⟨Nat.le_trans (by decide) B.2.2.2.1, Nat.le_trans (by decide) B.2.2.2.2.1⟩ (by simp [cat_i, cat_l, rf_cat]) rfl ?_
      refine x_goto (tgt := 35) C dX9_week_30 (by decide) ?_
      refine x_lv [] rfl ?_
      exact tX9_week_b35 N z4.2 z4.1 B hf
theorem ctX9_week (l : Launch) (q : Nat → Nat) (N : Nat) (h : pH) (x1 : Int32) (x2 : Int32) (x3 : Int32) (v : Int32) (h' : pH) (hf : fX9_week N h x1 x2 x3 = some (v, h')) : Ctr l q yX9_week cX9_week 4 (some .int) 5 115 [rf q 49, .int x1, .int x2, .int x3] h h' (some (.int v)) := by
  refine ct_of (own := RX9) (lv := [(0, rf q 49), (1, .int x1), (2, .int x2), (3, .int x3)]) (by decide +kernel) rfl (by simp [lg_sl, rf_cat, cat_i, cat_l]) (by first | rfl | simp [lv_args, rf_cat, cat_i, cat_l]) ?_
  intro X B
  obtain rfl := B.2.1
  obtain rfl := B.2.2.1
  exact tX9_week N h x1 x2 x3 B hf
def fX9_write_B47 (N : Nat) (k47 : pH → Int32 → Int32 → Int32 → Option (Int32 × pH)) (h : pH) (x1 : Int32) (x2 : Int32) (x3 : Int32) : Option (Int32 × pH) :=
  if x2 ≤ x3 then (some (x2, h)) else (if ix x1 4 = true then (if ix x3 25 = true then ((fX9_cut N h (h.1 50 x1.toNatClampNeg) (h.1 61 x3.toNatClampNeg)).bind fun z1 => (if ix ((60 * x1) + x3) 240 = true then (k47 (pw z1.2 52 ((60 * x1) + x3).toNatClampNeg z1.1) x1 x2 (x3 + 1)) else none)) else none) else none)
set_option maxRecDepth 100000 in
set_option maxHeartbeats 4000000 in
theorem tX9_write_B47 {X : Xt} {v : Int32} {h' : pH} (N : Nat) (k47 : pH → Int32 → Int32 → Int32 → Option (Int32 × pH)) (HK47 : ∀ (h : pH) (x1 : Int32) (x2 : Int32) (x3 : Int32), k47 h x1 x2 x3 = some (v, h') → Wx X 4 47 [(0, rf (qo X) 49), (1, .int x1), (2, .int x2), (3, .int x3)] [] h) (h : pH) (x1 : Int32) (x2 : Int32) (x3 : Int32) (B : Bd (lo X) (qo X) cX9_write RX9 4 (some .int) 5 110 (some (.int v)) h' X) (hf : fX9_write_B47 N k47 h x1 x2 x3 = some (v, h')) : Wx X 4 47 [(0, rf (qo X) 49), (1, .int x1), (2, .int x2), (3, .int x3)] [] h := by
  have C := B.1
  unfold fX9_write_B47 at hf
  refine x_iload_n (i := 3) 3 C dX9_write_47 rfl rfl ?_
  refine x_iload_n (i := 2) 2 C dX9_write_48 rfl rfl ?_
  refine x_icmp_ge (tgt := 84) C dX9_write_49 (by decide) (fun c => ?_) (fun c => ?_)
  · rw [if_pos c] at hf
    refine x_iload_n (i := 2) 2 C dX9_write_84 rfl rfl ?_
    obtain ⟨rfl, rfl⟩ := rtn hf
    exact B.2.2.2.2.2.1 _ _ rfl rfl rfl _ _ dX9_write_85
  · rw [if_neg c] at hf
    refine x_aload_n (i := 0) 0 C dX9_write_52 rfl rfl ?_
    refine x_getR (r := 49) (r2 := 52) C dX9_write_53 kfX9_16 rfl rfl (by decide) ?_
    refine x_bipush (v := 60) C dX9_write_56 (by decide) ?_
    refine x_iload_n (i := 1) 1 C dX9_write_58 rfl rfl ?_
    refine x_imul C dX9_write_59 ?_
    refine x_iload_n (i := 3) 3 C dX9_write_60 rfl rfl ?_
    refine x_iadd C dX9_write_61 ?_
    refine x_aload_n (i := 0) 0 C dX9_write_62 rfl rfl ?_
    refine x_getR (r := 49) (r2 := 50) C dX9_write_63 kfX9_7 rfl rfl (by decide) ?_
    refine x_iload_n (i := 1) 1 C dX9_write_66 rfl rfl ?_
    obtain ⟨g1, hf⟩ := ife hf
    refine x_iald (r := 50) C dX9_write_67 rfl g1 ?_
    refine x_aload_n (i := 0) 0 C dX9_write_68 rfl rfl ?_
    refine x_getR (r := 49) (r2 := 61) C dX9_write_69 kfX9_43 rfl rfl (by decide) ?_
    refine x_iload_n (i := 3) 3 C dX9_write_72 rfl rfl ?_
    obtain ⟨g2, hf⟩ := ife hf
    refine x_iald (r := 61) C dX9_write_73 rfl g2 ?_
    obtain ⟨z1, e1, hf⟩ := bnd hf
    refine x_callS (As := [.int (h.1 50 x1.toNatClampNeg), .int (h.1 61 x3.toNatClampNeg)]) (rest := [.int ((60 * x1) + x3), rf (qo X) 52]) C dX9_write_74 kmX9_93 miX9_cut (ctX9_cut (lo X) (qo X) N h (h.1 50 x1.toNatClampNeg) (h.1 61 x3.toNatClampNeg) z1.1 z1.2 e1) rfl rfl ⟨Nat.le_trans (by decide) B.2.2.2.1, Nat.le_trans (by decide) B.2.2.2.2.1⟩ (by simp [cat_i, cat_l, rf_cat]) ?_
    obtain ⟨g3, hf⟩ := ife hf
    refine x_iast (r := 52) C dX9_write_77 rfl g3 ?_
    refine x_iinc (v := x3 + 1) (lv' := [(3, .int (x3 + 1)), (0, rf (qo X) 49), (1, .int x1), (2, .int x2)]) 3 C dX9_write_78 rfl rfl (by decide) rfl ?_
    refine x_goto (tgt := 47) C dX9_write_81 (by decide) ?_
    refine x_lv [1, 2, 3, 0] rfl ?_
    exact HK47 (pw z1.2 52 ((60 * x1) + x3).toNatClampNeg z1.1) x1 x2 (x3 + 1) hf
def fX9_write_L47 (N : Nat) : Nat → pH → Int32 → Int32 → Int32 → Option (Int32 × pH)
  | 0 => fun _ _ _ _ => none
  | n + 1 => fX9_write_B47 N (fX9_write_L47 N n)
theorem tX9_write_L47 {X : Xt} {v : Int32} {h' : pH} (N : Nat) (B : Bd (lo X) (qo X) cX9_write RX9 4 (some .int) 5 110 (some (.int v)) h' X) : ∀ (n : Nat) (h : pH) (x1 : Int32) (x2 : Int32) (x3 : Int32), fX9_write_L47 N n h x1 x2 x3 = some (v, h') → Wx X 4 47 [(0, rf (qo X) 49), (1, .int x1), (2, .int x2), (3, .int x3)] [] h := by
  intro n
  induction n with
  | zero => intro h x1 x2 x3 hf; exact absurd (show (none : Option (Int32 × pH)) = some (v, h') from hf) (fun z => by cases z)
  | succ n ih => intro h x1 x2 x3 hf; exact tX9_write_B47 N (fX9_write_L47 N n) ih h x1 x2 x3 B hf
def fX9_write (N : Nat) (h : pH) (x1 : Int32) : Option (Int32 × pH) :=
  (fX9_isSheet N h x1).bind fun z1 => (if z1.1 = 0 then (some ((-2), z1.2)) else (if ix x1 4 = true then (if 0 ≤ (z1.2.1 50 x1.toNatClampNeg) then ((fX9_find N z1.2).bind fun z2 => (if ix x1 4 = true then ((fX9_lesser N z2.2 (z2.2.1 51 x1.toNatClampNeg) ((z2.2.1 49 11) + 1)).bind fun z3 => (fX9_write_L47 N N z3.2 x1 z3.1 0)) else none)) else ((fX9_finds N z1.2 1).bind fun z4 => (some (z4.1, z4.2)))) else none))
set_option maxRecDepth 100000 in
set_option maxHeartbeats 4000000 in
theorem tX9_write {X : Xt} {v : Int32} {h' : pH} (N : Nat) (h : pH) (x1 : Int32) (B : Bd (lo X) (qo X) cX9_write RX9 4 (some .int) 5 110 (some (.int v)) h' X) (hf : fX9_write N h x1 = some (v, h')) : Wx X 4 0 [(0, rf (qo X) 49), (1, .int x1)] [] h := by
  have C := B.1
  unfold fX9_write at hf
  refine x_iload_n (i := 1) 1 C dX9_write_0 rfl rfl ?_
  obtain ⟨z1, e1, hf⟩ := bnd hf
  refine x_callS (As := [.int x1]) (rest := []) C dX9_write_1 kmX9_79 miX9_isSheet (ctX9_isSheet (lo X) (qo X) N h x1 z1.1 z1.2 e1) rfl rfl ⟨Nat.le_trans (by decide) B.2.2.2.1, Nat.le_trans (by decide) B.2.2.2.2.1⟩ (by simp [cat_i, cat_l, rf_cat]) ?_
  refine x_if_ne (tgt := 10) C dX9_write_4 (by decide) (fun c => ?_) (fun c => ?_)
  · rw [if_neg c] at hf
    refine x_aload_n (i := 0) 0 C dX9_write_10 rfl rfl ?_
    refine x_getR (r := 49) (r2 := 50) C dX9_write_11 kfX9_7 rfl rfl (by decide) ?_
    refine x_iload_n (i := 1) 1 C dX9_write_14 rfl rfl ?_
    obtain ⟨g1, hf⟩ := ife hf
    refine x_iald (r := 50) C dX9_write_15 rfl g1 ?_
    refine x_if_ge (tgt := 25) C dX9_write_16 (by decide) (fun c => ?_) (fun c => ?_)
    · rw [if_pos c] at hf
      refine x_aload_n (i := 0) 0 C dX9_write_25 rfl rfl ?_
      obtain ⟨z2, e2, hf⟩ := bnd hf
      refine x_callV (r := 49) (As := []) (rest := []) C dX9_write_26 kmX9_196 miX9_find (ctX9_find (lo X) (qo X) N z1.2 z2.1 z2.2 e2) rfl rfl ⟨Nat.le_trans (by decide) B.2.2.2.1, Nat.le_trans (by decide) B.2.2.2.2.1⟩ (by simp [cat_i, cat_l, rf_cat]) rfl ?_
      refine x_aload_n (i := 0) 0 C dX9_write_29 rfl rfl ?_
      refine x_getR (r := 49) (r2 := 51) C dX9_write_30 kfX9_13 rfl rfl (by decide) ?_
      refine x_iload_n (i := 1) 1 C dX9_write_33 rfl rfl ?_
      obtain ⟨g2, hf⟩ := ife hf
      refine x_iald (r := 51) C dX9_write_34 rfl g2 ?_
      refine x_aload_n (i := 0) 0 C dX9_write_35 rfl rfl ?_
      refine x_getI (r := 49) C dX9_write_36 kfX9_121 rfl ?_
      refine x_iconst (v := 1) C dX9_write_39 (by decide) ?_
      refine x_iadd C dX9_write_40 ?_
      obtain ⟨z3, e3, hf⟩ := bnd hf
      refine x_callS (As := [.int (z2.2.1 51 x1.toNatClampNeg), .int ((z2.2.1 49 11) + 1)]) (rest := []) C dX9_write_41 kmX9_285 miX9_lesser (ctX9_lesser (lo X) (qo X) N z2.2 (z2.2.1 51 x1.toNatClampNeg) ((z2.2.1 49 11) + 1) z3.1 z3.2 e3) rfl rfl ⟨Nat.le_trans (by decide) B.2.2.2.1, Nat.le_trans (by decide) B.2.2.2.2.1⟩ (by simp [cat_i, cat_l, rf_cat]) ?_
      refine x_istore_n (i := 2) (lv' := [(2, .int z3.1), (0, rf (qo X) 49), (1, .int x1)]) C dX9_write_44 rfl (by decide) rfl ?_
      refine x_iconst (v := 0) C dX9_write_45 (by decide) ?_
      refine x_istore_n (i := 3) (lv' := [(3, .int 0), (2, .int z3.1), (0, rf (qo X) 49), (1, .int x1)]) C dX9_write_46 rfl (by decide) rfl ?_
      refine x_lv [2, 3, 1, 0] rfl ?_
      exact tX9_write_L47 N  B N z3.2 x1 z3.1 0 hf
    · rw [if_neg c] at hf
      refine x_aload_n (i := 0) 0 C dX9_write_19 rfl rfl ?_
      refine x_iconst (v := 1) C dX9_write_20 (by decide) ?_
      obtain ⟨z4, e4, hf⟩ := bnd hf
      refine x_callV (r := 49) (As := [.int 1]) (rest := []) C dX9_write_21 kmX9_85 miX9_finds (ctX9_finds (lo X) (qo X) N z1.2 1 z4.1 z4.2 e4) rfl rfl ⟨Nat.le_trans (by decide) B.2.2.2.1, Nat.le_trans (by decide) B.2.2.2.2.1⟩ (by simp [cat_i, cat_l, rf_cat]) rfl ?_
      obtain ⟨rfl, rfl⟩ := rtn hf
      exact B.2.2.2.2.2.1 _ _ rfl rfl rfl _ _ dX9_write_24
  · rw [if_pos c] at hf
    refine x_bipush (v := (-2)) C dX9_write_7 (by decide) ?_
    obtain ⟨rfl, rfl⟩ := rtn hf
    exact B.2.2.2.2.2.1 _ _ rfl rfl rfl _ _ dX9_write_9
theorem ctX9_write (l : Launch) (q : Nat → Nat) (N : Nat) (h : pH) (x1 : Int32) (v : Int32) (h' : pH) (hf : fX9_write N h x1 = some (v, h')) : Ctr l q yX9_write cX9_write 4 (some .int) 5 110 [rf q 49, .int x1] h h' (some (.int v)) := by
  refine ct_of (own := RX9) (lv := [(0, rf q 49), (1, .int x1)]) (by decide +kernel) rfl (by simp [lg_sl, rf_cat, cat_i, cat_l]) (by first | rfl | simp [lv_args, rf_cat, cat_i, cat_l]) ?_
  intro X B
  obtain rfl := B.2.1
  obtain rfl := B.2.2.1
  exact tX9_write N h x1 B hf
def fX9_count_b71 (N : Nat) (h : pH) (x1 : Int32) : Option (Int32 × pH) :=
  if ix (x1 - 3) 3 = true then (some (h.1 55 (x1 - 3).toNatClampNeg, h)) else none
set_option maxRecDepth 100000 in
set_option maxHeartbeats 4000000 in
theorem tX9_count_b71 {X : Xt} {v : Int32} {h' : pH} (N : Nat) (h : pH) (x1 : Int32) (B : Bd (lo X) (qo X) cX9_count RX9 2 (some .int) 5 110 (some (.int v)) h' X) (hf : fX9_count_b71 N h x1 = some (v, h')) : Wx X 2 71 [(0, rf (qo X) 49), (1, .int x1)] [] h := by
  have C := B.1
  unfold fX9_count_b71 at hf
  refine x_aload_n (i := 0) 0 C dX9_count_71 rfl rfl ?_
  refine x_getR (r := 49) (r2 := 55) C dX9_count_72 kfX9_25 rfl rfl (by decide) ?_
  refine x_iload_n (i := 1) 1 C dX9_count_75 rfl rfl ?_
  refine x_iconst (v := 3) C dX9_count_76 (by decide) ?_
  refine x_isub C dX9_count_77 ?_
  obtain ⟨g1, hf⟩ := ife hf
  refine x_iald (r := 55) C dX9_count_78 rfl g1 ?_
  obtain ⟨rfl, rfl⟩ := rtn hf
  exact B.2.2.2.2.2.1 _ _ rfl rfl rfl _ _ dX9_count_79
def fX9_count (N : Nat) (h : pH) (x1 : Int32) : Option (Int32 × pH) :=
  (fX9_find N h).bind fun z1 => (if x1 = 0 then (some (z1.2.1 49 7, z1.2)) else (if x1 = 1 then (some (z1.2.1 49 9, z1.2)) else (if x1 = 2 then (some (z1.2.1 49 11, z1.2)) else (if x1 = 3 then (fX9_count_b71 N z1.2 x1) else (if x1 = 4 then (fX9_count_b71 N z1.2 x1) else (if x1 = 5 then (fX9_count_b71 N z1.2 x1) else (if x1 = 6 then ((fX9_takenBy N z1.2 (z1.2.1 49 11)).bind fun z2 => (some (z2.1, z2.2))) else (if x1 = 7 then (some (z1.2.1 49 27, z1.2)) else (if x1 = 8 then (some (z1.2.1 49 4, z1.2)) else (some ((-2), z1.2)))))))))))
set_option maxRecDepth 100000 in
set_option maxHeartbeats 4000000 in
theorem tX9_count {X : Xt} {v : Int32} {h' : pH} (N : Nat) (h : pH) (x1 : Int32) (B : Bd (lo X) (qo X) cX9_count RX9 2 (some .int) 5 110 (some (.int v)) h' X) (hf : fX9_count N h x1 = some (v, h')) : Wx X 2 0 [(0, rf (qo X) 49), (1, .int x1)] [] h := by
  have C := B.1
  unfold fX9_count at hf
  refine x_aload_n (i := 0) 0 C dX9_count_0 rfl rfl ?_
  obtain ⟨z1, e1, hf⟩ := bnd hf
  refine x_callV (r := 49) (As := []) (rest := []) C dX9_count_1 kmX9_196 miX9_find (ctX9_find (lo X) (qo X) N h z1.1 z1.2 e1) rfl rfl ⟨Nat.le_trans (by decide) B.2.2.2.1, Nat.le_trans (by decide) B.2.2.2.2.1⟩ (by simp [cat_i, cat_l, rf_cat]) rfl ?_
  refine x_iload_n (i := 1) 1 C dX9_count_4 rfl rfl ?_
  by_cases c0 : x1 = 0
  · rw [if_pos c0] at hf
    refine x_tabIn (w := 0) (tgt := 56) (off := 51) C dX9_count_5 c0 (by decide) (by decide) (by decide) (by decide) ?_
    refine x_aload_n (i := 0) 0 C dX9_count_56 rfl rfl ?_
    refine x_getI (r := 49) C dX9_count_57 kfX9_103 rfl ?_
    obtain ⟨rfl, rfl⟩ := rtn hf
    exact B.2.2.2.2.2.1 _ _ rfl rfl rfl _ _ dX9_count_60
  rw [if_neg c0] at hf
  by_cases c1 : x1 = 1
  · rw [if_pos c1] at hf
    refine x_tabIn (w := 1) (tgt := 61) (off := 56) C dX9_count_5 c1 (by decide) (by decide) (by decide) (by decide) ?_
    refine x_aload_n (i := 0) 0 C dX9_count_61 rfl rfl ?_
    refine x_getI (r := 49) C dX9_count_62 kfX9_115 rfl ?_
    obtain ⟨rfl, rfl⟩ := rtn hf
    exact B.2.2.2.2.2.1 _ _ rfl rfl rfl _ _ dX9_count_65
  rw [if_neg c1] at hf
  by_cases c2 : x1 = 2
  · rw [if_pos c2] at hf
    refine x_tabIn (w := 2) (tgt := 66) (off := 61) C dX9_count_5 c2 (by decide) (by decide) (by decide) (by decide) ?_
    refine x_aload_n (i := 0) 0 C dX9_count_66 rfl rfl ?_
    refine x_getI (r := 49) C dX9_count_67 kfX9_121 rfl ?_
    obtain ⟨rfl, rfl⟩ := rtn hf
    exact B.2.2.2.2.2.1 _ _ rfl rfl rfl _ _ dX9_count_70
  rw [if_neg c2] at hf
  by_cases c3 : x1 = 3
  · rw [if_pos c3] at hf
    refine x_tabIn (w := 3) (tgt := 71) (off := 66) C dX9_count_5 c3 (by decide) (by decide) (by decide) (by decide) ?_
    exact tX9_count_b71 N z1.2 x1 B hf
  rw [if_neg c3] at hf
  by_cases c4 : x1 = 4
  · rw [if_pos c4] at hf
    refine x_tabIn (w := 4) (tgt := 71) (off := 66) C dX9_count_5 c4 (by decide) (by decide) (by decide) (by decide) ?_
    exact tX9_count_b71 N z1.2 x1 B hf
  rw [if_neg c4] at hf
  by_cases c5 : x1 = 5
  · rw [if_pos c5] at hf
    refine x_tabIn (w := 5) (tgt := 71) (off := 66) C dX9_count_5 c5 (by decide) (by decide) (by decide) (by decide) ?_
    exact tX9_count_b71 N z1.2 x1 B hf
  rw [if_neg c5] at hf
  by_cases c6 : x1 = 6
  · rw [if_pos c6] at hf
    refine x_tabIn (w := 6) (tgt := 80) (off := 75) C dX9_count_5 c6 (by decide) (by decide) (by decide) (by decide) ?_
    refine x_aload_n (i := 0) 0 C dX9_count_80 rfl rfl ?_
    refine x_aload_n (i := 0) 0 C dX9_count_81 rfl rfl ?_
    refine x_getI (r := 49) C dX9_count_82 kfX9_121 rfl ?_
    obtain ⟨z2, e2, hf⟩ := bnd hf
    refine x_callV (r := 49) (As := [.int (z1.2.1 49 11)]) (rest := []) C dX9_count_85 kmX9_205 miX9_takenBy (ctX9_takenBy (lo X) (qo X) N z1.2 (z1.2.1 49 11) z2.1 z2.2 e2) rfl rfl ⟨Nat.le_trans (by decide) B.2.2.2.1, Nat.le_trans (by decide) B.2.2.2.2.1⟩ (by simp [cat_i, cat_l, rf_cat]) rfl ?_
    obtain ⟨rfl, rfl⟩ := rtn hf
    exact B.2.2.2.2.2.1 _ _ rfl rfl rfl _ _ dX9_count_88
  rw [if_neg c6] at hf
  by_cases c7 : x1 = 7
  · rw [if_pos c7] at hf
    refine x_tabIn (w := 7) (tgt := 89) (off := 84) C dX9_count_5 c7 (by decide) (by decide) (by decide) (by decide) ?_
    refine x_aload_n (i := 0) 0 C dX9_count_89 rfl rfl ?_
    refine x_getI (r := 49) C dX9_count_90 kfX9_241 rfl ?_
    obtain ⟨rfl, rfl⟩ := rtn hf
    exact B.2.2.2.2.2.1 _ _ rfl rfl rfl _ _ dX9_count_93
  rw [if_neg c7] at hf
  by_cases c8 : x1 = 8
  · rw [if_pos c8] at hf
    refine x_tabIn (w := 8) (tgt := 94) (off := 89) C dX9_count_5 c8 (by decide) (by decide) (by decide) (by decide) ?_
    refine x_aload_n (i := 0) 0 C dX9_count_94 rfl rfl ?_
    refine x_getI (r := 49) C dX9_count_95 kfX9_73 rfl ?_
    obtain ⟨rfl, rfl⟩ := rtn hf
    exact B.2.2.2.2.2.1 _ _ rfl rfl rfl _ _ dX9_count_98
  rw [if_neg c8] at hf
  refine x_tabOut (n := 9) (tgt := 99) C dX9_count_5 (fun i hi => match i, hi with | 0, _ => c0 | 1, _ => c1 | 2, _ => c2 | 3, _ => c3 | 4, _ => c4 | 5, _ => c5 | 6, _ => c6 | 7, _ => c7 | 8, _ => c8 | i + 9, hi => absurd hi (by omega)) (by decide) ?_
  refine x_bipush (v := (-2)) C dX9_count_99 (by decide) ?_
  obtain ⟨rfl, rfl⟩ := rtn hf
  exact B.2.2.2.2.2.1 _ _ rfl rfl rfl _ _ dX9_count_101
theorem ctX9_count (l : Launch) (q : Nat → Nat) (N : Nat) (h : pH) (x1 : Int32) (v : Int32) (h' : pH) (hf : fX9_count N h x1 = some (v, h')) : Ctr l q yX9_count cX9_count 2 (some .int) 5 110 [rf q 49, .int x1] h h' (some (.int v)) := by
  refine ct_of (own := RX9) (lv := [(0, rf q 49), (1, .int x1)]) (by decide +kernel) rfl (by simp [lg_sl, rf_cat, cat_i, cat_l]) (by first | rfl | simp [lv_args, rf_cat, cat_i, cat_l]) ?_
  intro X B
  obtain rfl := B.2.1
  obtain rfl := B.2.2.1
  exact tX9_count N h x1 B hf
def fX9_tellsCrosser_B10 (N : Nat) (k10 : pH → Int32 → Int64 → Int32 → Option (Int64 × pH)) (h : pH) (x3 : Int32) (l4 : Int64) (x6 : Int32) : Option (Int64 × pH) :=
  if 4 ≤ x6 then ((fX9_timesBy N h x3 0).bind fun z1 => ((fX9_timesBy N z1.2 x3 1).bind fun z2 => ((fX9_aheadOf N z2.2 x3).bind fun z3 => ((fX9_often N z3.2 x3 0).bind fun z4 => (some ((31 * ((31 * ((31 * ((31 * l4) + z1.1.toInt64)) + z2.1.toInt64)) + z3.1.toInt64)) + z4.1.toInt64, z4.2)))))) else (if ix ((4 * x3) + x6) 32 = true then (k10 h x3 ((31 * l4) + ((h.1 57 ((4 * x3) + x6).toNatClampNeg).toInt64)) (x6 + 1)) else none)
set_option maxRecDepth 100000 in
set_option maxHeartbeats 4000000 in
theorem tX9_tellsCrosser_B10 {X : Xt} {v : Int64} {h' : pH} (N : Nat) (k10 : pH → Int32 → Int64 → Int32 → Option (Int64 × pH)) (HK10 : ∀ (h : pH) (x3 : Int32) (l4 : Int64) (x6 : Int32), k10 h x3 l4 x6 = some (v, h') → Wx X 7 10 [(0, rf (qo X) 49), (3, .int x3), (4, .long l4), (6, .int x6)] [] h) (h : pH) (x3 : Int32) (l4 : Int64) (x6 : Int32) (B : Bd (lo X) (qo X) cX9_tellsCrosser RX9 7 (some .long) 6 136 (some (.long v)) h' X) (hf : fX9_tellsCrosser_B10 N k10 h x3 l4 x6 = some (v, h')) : Wx X 7 10 [(0, rf (qo X) 49), (3, .int x3), (4, .long l4), (6, .int x6)] [] h := by
  have C := B.1
  unfold fX9_tellsCrosser_B10 at hf
  refine x_iload 3 C dX9_tellsCrosser_10 rfl ?_
  refine x_iconst (v := 4) C dX9_tellsCrosser_12 (by decide) ?_
  refine x_icmp_ge (tgt := 43) C dX9_tellsCrosser_13 (by decide) (fun c => ?_) (fun c => ?_)
  · rw [if_pos c] at hf
    refine x_ldc2 (v := 31) C dX9_tellsCrosser_43 kkX9_288 ?_
    refine x_lload 2 C dX9_tellsCrosser_46 rfl ?_
    refine x_lmul C dX9_tellsCrosser_48 ?_
    refine x_aload_n (i := 0) 0 C dX9_tellsCrosser_49 rfl rfl ?_
    refine x_iload_n (i := 3) 1 C dX9_tellsCrosser_50 rfl rfl ?_
    refine x_iconst (v := 0) C dX9_tellsCrosser_51 (by decide) ?_
    obtain ⟨z1, e1, hf⟩ := bnd hf
    refine x_callV (r := 49) (As := [.int x3, .int 0]) (rest := [.long (31 * l4)]) C dX9_tellsCrosser_52 kmX9_202 miX9_timesBy (ctX9_timesBy (lo X) (qo X) N h x3 0 z1.1 z1.2 e1) rfl rfl ⟨Nat.le_trans (by decide) B.2.2.2.1, Nat.le_trans (by decide) B.2.2.2.2.1⟩ (by simp [cat_i, cat_l, rf_cat]) rfl ?_
    refine x_i2l C dX9_tellsCrosser_55 ?_
    refine x_ladd C dX9_tellsCrosser_56 ?_
    refine x_lstore (lv' := [(4, .long ((31 * l4) + z1.1.toInt64)), (0, rf (qo X) 49), (3, .int x3), (6, .int x6)]) C dX9_tellsCrosser_57 (by decide) rfl ?_
    refine x_ldc2 (v := 31) C dX9_tellsCrosser_59 kkX9_288 ?_
    refine x_lload 0 C dX9_tellsCrosser_62 rfl ?_
    refine x_lmul C dX9_tellsCrosser_64 ?_
    refine x_aload_n (i := 0) 1 C dX9_tellsCrosser_65 rfl rfl ?_
    refine x_iload_n (i := 3) 2 C dX9_tellsCrosser_66 rfl rfl ?_
    refine x_iconst (v := 1) C dX9_tellsCrosser_67 (by decide) ?_
    obtain ⟨z2, e2, hf⟩ := bnd hf
    refine x_callV (r := 49) (As := [.int x3, .int 1]) (rest := [.long (31 * ((31 * l4) + z1.1.toInt64))]) C dX9_tellsCrosser_68 kmX9_202 miX9_timesBy (ctX9_timesBy (lo X) (qo X) N z1.2 x3 1 z2.1 z2.2 e2) rfl rfl ⟨Nat.le_trans (by decide) B.2.2.2.1, Nat.le_trans (by decide) B.2.2.2.2.1⟩ (by simp [cat_i, cat_l, rf_cat]) rfl ?_
    refine x_i2l C dX9_tellsCrosser_71 ?_
    refine x_ladd C dX9_tellsCrosser_72 ?_
    refine x_lstore (lv' := [(4, .long ((31 * ((31 * l4) + z1.1.toInt64)) + z2.1.toInt64)), (0, rf (qo X) 49), (3, .int x3), (6, .int x6)]) C dX9_tellsCrosser_73 (by decide) rfl ?_
    refine x_ldc2 (v := 31) C dX9_tellsCrosser_75 kkX9_288 ?_
    refine x_lload 0 C dX9_tellsCrosser_78 rfl ?_
    refine x_lmul C dX9_tellsCrosser_80 ?_
    refine x_aload_n (i := 0) 1 C dX9_tellsCrosser_81 rfl rfl ?_
    refine x_iload_n (i := 3) 2 C dX9_tellsCrosser_82 rfl rfl ?_
    obtain ⟨z3, e3, hf⟩ := bnd hf
    refine x_callV (r := 49) (As := [.int x3]) (rest := [.long (31 * ((31 * ((31 * l4) + z1.1.toInt64)) + z2.1.toInt64))]) C dX9_tellsCrosser_83 kmX9_233 miX9_aheadOf (ctX9_aheadOf (lo X) (qo X) N z2.2 x3 z3.1 z3.2 e3) rfl rfl ⟨Nat.le_trans (by decide) B.2.2.2.1, Nat.le_trans (by decide) B.2.2.2.2.1⟩ (by simp [cat_i, cat_l, rf_cat]) rfl ?_
    refine x_i2l C dX9_tellsCrosser_86 ?_
    refine x_ladd C dX9_tellsCrosser_87 ?_
    refine x_lstore (lv' := [(4, .long ((31 * ((31 * ((31 * l4) + z1.1.toInt64)) + z2.1.toInt64)) + z3.1.toInt64)), (0, rf (qo X) 49), (3, .int x3), (6, .int x6)]) C dX9_tellsCrosser_88 (by decide) rfl ?_
    refine x_ldc2 (v := 31) C dX9_tellsCrosser_90 kkX9_288 ?_
    refine x_lload 0 C dX9_tellsCrosser_93 rfl ?_
    refine x_lmul C dX9_tellsCrosser_95 ?_
    refine x_aload_n (i := 0) 1 C dX9_tellsCrosser_96 rfl rfl ?_
    refine x_iload_n (i := 3) 2 C dX9_tellsCrosser_97 rfl rfl ?_
    refine x_iconst (v := 0) C dX9_tellsCrosser_98 (by decide) ?_
    obtain ⟨z4, e4, hf⟩ := bnd hf
    refine x_callV (r := 49) (As := [.int x3, .int 0]) (rest := [.long (31 * ((31 * ((31 * ((31 * l4) + z1.1.toInt64)) + z2.1.toInt64)) + z3.1.toInt64))]) C dX9_tellsCrosser_99 kmX9_290 miX9_often (ctX9_often (lo X) (qo X) N z3.2 x3 0 z4.1 z4.2 e4) rfl rfl ⟨Nat.le_trans (by decide) B.2.2.2.1, Nat.le_trans (by decide) B.2.2.2.2.1⟩ (by simp [cat_i, cat_l, rf_cat]) rfl ?_
    refine x_i2l C dX9_tellsCrosser_102 ?_
    refine x_ladd C dX9_tellsCrosser_103 ?_
    obtain ⟨rfl, rfl⟩ := rtn hf
    exact B.2.2.2.2.2.2.1 _ rfl rfl _ _ dX9_tellsCrosser_104
  · rw [if_neg c] at hf
    refine x_ldc2 (v := 31) C dX9_tellsCrosser_16 kkX9_288 ?_
    refine x_lload 2 C dX9_tellsCrosser_19 rfl ?_
    refine x_lmul C dX9_tellsCrosser_21 ?_
    refine x_aload_n (i := 0) 0 C dX9_tellsCrosser_22 rfl rfl ?_
    refine x_getR (r := 49) (r2 := 57) C dX9_tellsCrosser_23 kfX9_31 rfl rfl (by decide) ?_
    refine x_iconst (v := 4) C dX9_tellsCrosser_26 (by decide) ?_
    refine x_iload_n (i := 3) 1 C dX9_tellsCrosser_27 rfl rfl ?_
    refine x_imul C dX9_tellsCrosser_28 ?_
    refine x_iload 3 C dX9_tellsCrosser_29 rfl ?_
    refine x_iadd C dX9_tellsCrosser_31 ?_
    obtain ⟨g1, hf⟩ := ife hf
    refine x_iald (r := 57) C dX9_tellsCrosser_32 rfl g1 ?_
    refine x_i2l C dX9_tellsCrosser_33 ?_
    refine x_ladd C dX9_tellsCrosser_34 ?_
    refine x_lstore (lv' := [(4, .long ((31 * l4) + ((h.1 57 ((4 * x3) + x6).toNatClampNeg).toInt64))), (0, rf (qo X) 49), (3, .int x3), (6, .int x6)]) C dX9_tellsCrosser_35 (by decide) rfl ?_
    refine x_iinc (v := x6 + 1) (lv' := [(6, .int (x6 + 1)), (4, .long ((31 * l4) + ((h.1 57 ((4 * x3) + x6).toNatClampNeg).toInt64))), (0, rf (qo X) 49), (3, .int x3)]) 3 C dX9_tellsCrosser_37 rfl rfl (by decide) rfl ?_
    refine x_goto (tgt := 10) C dX9_tellsCrosser_40 (by decide) ?_
    refine x_lv [2, 3, 1, 0] rfl ?_
    exact HK10 h x3 ((31 * l4) + ((h.1 57 ((4 * x3) + x6).toNatClampNeg).toInt64)) (x6 + 1) hf
def fX9_tellsCrosser_L10 (N : Nat) : Nat → pH → Int32 → Int64 → Int32 → Option (Int64 × pH)
  | 0 => fun _ _ _ _ => none
  | n + 1 => fX9_tellsCrosser_B10 N (fX9_tellsCrosser_L10 N n)
theorem tX9_tellsCrosser_L10 {X : Xt} {v : Int64} {h' : pH} (N : Nat) (B : Bd (lo X) (qo X) cX9_tellsCrosser RX9 7 (some .long) 6 136 (some (.long v)) h' X) : ∀ (n : Nat) (h : pH) (x3 : Int32) (l4 : Int64) (x6 : Int32), fX9_tellsCrosser_L10 N n h x3 l4 x6 = some (v, h') → Wx X 7 10 [(0, rf (qo X) 49), (3, .int x3), (4, .long l4), (6, .int x6)] [] h := by
  intro n
  induction n with
  | zero => intro h x3 l4 x6 hf; exact absurd (show (none : Option (Int64 × pH)) = some (v, h') from hf) (fun z => by cases z)
  | succ n ih => intro h x3 l4 x6 hf; exact tX9_tellsCrosser_B10 N (fX9_tellsCrosser_L10 N n) ih h x3 l4 x6 B hf
def fX9_tellsCrosser (N : Nat) (h : pH) (l1 : Int64) (x3 : Int32) : Option (Int64 × pH) :=
  (fX9_lives N h).bind fun z1 => (fX9_tellsCrosser_L10 N N z1.2 x3 l1 0)
set_option maxRecDepth 100000 in
set_option maxHeartbeats 4000000 in
theorem tX9_tellsCrosser {X : Xt} {v : Int64} {h' : pH} (N : Nat) (h : pH) (l1 : Int64) (x3 : Int32) (B : Bd (lo X) (qo X) cX9_tellsCrosser RX9 7 (some .long) 6 136 (some (.long v)) h' X) (hf : fX9_tellsCrosser N h l1 x3 = some (v, h')) : Wx X 7 0 [(0, rf (qo X) 49), (1, .long l1), (3, .int x3)] [] h := by
  have C := B.1
  unfold fX9_tellsCrosser at hf
  refine x_aload_n (i := 0) 0 C dX9_tellsCrosser_0 rfl rfl ?_
  obtain ⟨z1, e1, hf⟩ := bnd hf
  refine x_callV (r := 49) (As := []) (rest := []) C dX9_tellsCrosser_1 kmX9_193 miX9_lives (ctX9_lives (lo X) (qo X) N h z1.1 z1.2 e1) rfl rfl ⟨Nat.le_trans (by decide) B.2.2.2.1, Nat.le_trans (by decide) B.2.2.2.2.1⟩ (by simp [cat_i, cat_l, rf_cat]) rfl ?_
  refine x_lload_n (i := 1) 1 C dX9_tellsCrosser_4 rfl rfl ?_
  refine x_lstore (lv' := [(4, .long l1), (0, rf (qo X) 49), (1, .long l1), (3, .int x3)]) C dX9_tellsCrosser_5 (by decide) rfl ?_
  refine x_iconst (v := 0) C dX9_tellsCrosser_7 (by decide) ?_
  refine x_istore (lv' := [(6, .int 0), (4, .long l1), (0, rf (qo X) 49), (1, .long l1), (3, .int x3)]) C dX9_tellsCrosser_8 (by decide) rfl ?_
  refine x_lv [2, 4, 1, 0] rfl ?_
  exact tX9_tellsCrosser_L10 N  B N z1.2 x3 l1 0 hf
theorem ctX9_tellsCrosser (l : Launch) (q : Nat → Nat) (N : Nat) (h : pH) (l1 : Int64) (x3 : Int32) (v : Int64) (h' : pH) (hf : fX9_tellsCrosser N h l1 x3 = some (v, h')) : Ctr l q yX9_tellsCrosser cX9_tellsCrosser 7 (some .long) 6 136 [rf q 49, .long l1, .int x3] h h' (some (.long v)) := by
  refine ct_of (own := RX9) (lv := [(0, rf q 49), (1, .long l1), (3, .int x3)]) (by decide +kernel) rfl (by simp [lg_sl, rf_cat, cat_i, cat_l]) (by first | rfl | simp [lv_args, rf_cat, cat_i, cat_l]) ?_
  intro X B
  obtain rfl := B.2.1
  obtain rfl := B.2.2.1
  exact tX9_tellsCrosser N h l1 x3 B hf
def fX9_digest_B301 (N : Nat) (k301 : pH → Int64 → Int32 → Option (Int64 × pH)) (h : pH) (l1 : Int64) (x3 : Int32) : Option (Int64 × pH) :=
  if 4 ≤ x3 then ((fX9_beganNow N h).bind fun z1 => ((fX9_askNow N z1.2).bind fun z2 => ((fX9_weekOf N z2.2 7 30 0).bind fun z3 => ((fX9_weekOf N z3.2 7 30 1).bind fun z4 => (some ((31 * ((31 * ((31 * ((31 * l1) + z1.1.toInt64)) + z2.1.toInt64)) + z3.1.toInt64)) + z4.1.toInt64, z4.2)))))) else ((fX9_ruleOf N h x3).bind fun z5 => (k301 z5.2 ((31 * l1) + z5.1.toInt64) (x3 + 1)))
set_option maxRecDepth 100000 in
set_option maxHeartbeats 4000000 in
theorem tX9_digest_B301 {X : Xt} {v : Int64} {h' : pH} (N : Nat) (k301 : pH → Int64 → Int32 → Option (Int64 × pH)) (HK301 : ∀ (h : pH) (l1 : Int64) (x3 : Int32), k301 h l1 x3 = some (v, h') → Wx X 5 301 [(0, rf (qo X) 49), (1, .long l1), (3, .int x3)] [] h) (h : pH) (l1 : Int64) (x3 : Int32) (B : Bd (lo X) (qo X) cX9_digest RX9 5 (some .long) 7 162 (some (.long v)) h' X) (hf : fX9_digest_B301 N k301 h l1 x3 = some (v, h')) : Wx X 5 301 [(0, rf (qo X) 49), (1, .long l1), (3, .int x3)] [] h := by
  have C := B.1
  unfold fX9_digest_B301 at hf
  refine x_iload_n (i := 3) 2 C dX9_digest_301 rfl rfl ?_
  refine x_iconst (v := 4) C dX9_digest_302 (by decide) ?_
  refine x_icmp_ge (tgt := 325) C dX9_digest_303 (by decide) (fun c => ?_) (fun c => ?_)
  · rw [if_pos c] at hf
    refine x_ldc2 (v := 31) C dX9_digest_325 kkX9_288 ?_
    refine x_lload_n (i := 1) 1 C dX9_digest_328 rfl rfl ?_
    refine x_lmul C dX9_digest_329 ?_
    refine x_aload_n (i := 0) 0 C dX9_digest_330 rfl rfl ?_
    obtain ⟨z1, e1, hf⟩ := bnd hf
    refine x_callV (r := 49) (As := []) (rest := [.long (31 * l1)]) C dX9_digest_331 kmX9_253 miX9_beganNow (ctX9_beganNow (lo X) (qo X) N h z1.1 z1.2 e1) rfl rfl ⟨Nat.le_trans (by decide) B.2.2.2.1, Nat.le_trans (by decide) B.2.2.2.2.1⟩ (by simp [cat_i, cat_l, rf_cat]) rfl ?_
    refine x_i2l C dX9_digest_334 ?_
    refine x_ladd C dX9_digest_335 ?_
    refine x_lstore_n (i := 1) (lv' := [(1, .long ((31 * l1) + z1.1.toInt64)), (0, rf (qo X) 49), (3, .int x3)]) C dX9_digest_336 rfl (by decide) rfl ?_
    refine x_ldc2 (v := 31) C dX9_digest_337 kkX9_288 ?_
    refine x_lload_n (i := 1) 0 C dX9_digest_340 rfl rfl ?_
    refine x_lmul C dX9_digest_341 ?_
    refine x_aload_n (i := 0) 1 C dX9_digest_342 rfl rfl ?_
    obtain ⟨z2, e2, hf⟩ := bnd hf
    refine x_callV (r := 49) (As := []) (rest := [.long (31 * ((31 * l1) + z1.1.toInt64))]) C dX9_digest_343 kmX9_256 miX9_askNow (ctX9_askNow (lo X) (qo X) N z1.2 z2.1 z2.2 e2) rfl rfl ⟨Nat.le_trans (by decide) B.2.2.2.1, Nat.le_trans (by decide) B.2.2.2.2.1⟩ (by simp [cat_i, cat_l, rf_cat]) rfl ?_
    refine x_i2l C dX9_digest_346 ?_
    refine x_ladd C dX9_digest_347 ?_
    refine x_lstore_n (i := 1) (lv' := [(1, .long ((31 * ((31 * l1) + z1.1.toInt64)) + z2.1.toInt64)), (0, rf (qo X) 49), (3, .int x3)]) C dX9_digest_348 rfl (by decide) rfl ?_
    refine x_ldc2 (v := 31) C dX9_digest_349 kkX9_288 ?_
    refine x_lload_n (i := 1) 0 C dX9_digest_352 rfl rfl ?_
    refine x_lmul C dX9_digest_353 ?_
    refine x_aload_n (i := 0) 1 C dX9_digest_354 rfl rfl ?_
    refine x_bipush (v := 7) C dX9_digest_355 (by decide) ?_
    refine x_bipush (v := 30) C dX9_digest_357 (by decide) ?_
    refine x_iconst (v := 0) C dX9_digest_359 (by decide) ?_
    obtain ⟨z3, e3, hf⟩ := bnd hf
    refine x_callV (r := 49) (As := [.int 7, .int 30, .int 0]) (rest := [.long (31 * ((31 * ((31 * l1) + z1.1.toInt64)) + z2.1.toInt64))]) C dX9_digest_360 kmX9_282 miX9_weekOf (ctX9_weekOf (lo X) (qo X) N z2.2 7 30 0 z3.1 z3.2 e3) rfl rfl ⟨Nat.le_trans (by decide) B.2.2.2.1, Nat.le_trans (by decide) B.2.2.2.2.1⟩ (by simp [cat_i, cat_l, rf_cat]) rfl ?_
    refine x_i2l C dX9_digest_363 ?_
    refine x_ladd C dX9_digest_364 ?_
    refine x_lstore_n (i := 1) (lv' := [(1, .long ((31 * ((31 * ((31 * l1) + z1.1.toInt64)) + z2.1.toInt64)) + z3.1.toInt64)), (0, rf (qo X) 49), (3, .int x3)]) C dX9_digest_365 rfl (by decide) rfl ?_
    refine x_ldc2 (v := 31) C dX9_digest_366 kkX9_288 ?_
    refine x_lload_n (i := 1) 0 C dX9_digest_369 rfl rfl ?_
    refine x_lmul C dX9_digest_370 ?_
    refine x_aload_n (i := 0) 1 C dX9_digest_371 rfl rfl ?_
    refine x_bipush (v := 7) C dX9_digest_372 (by decide) ?_
    refine x_bipush (v := 30) C dX9_digest_374 (by decide) ?_
    refine x_iconst (v := 1) C dX9_digest_376 (by decide) ?_
    obtain ⟨z4, e4, hf⟩ := bnd hf
    refine x_callV (r := 49) (As := [.int 7, .int 30, .int 1]) (rest := [.long (31 * ((31 * ((31 * ((31 * l1) + z1.1.toInt64)) + z2.1.toInt64)) + z3.1.toInt64))]) C dX9_digest_377 kmX9_282 miX9_weekOf (ctX9_weekOf (lo X) (qo X) N z3.2 7 30 1 z4.1 z4.2 e4) rfl rfl ⟨Nat.le_trans (by decide) B.2.2.2.1, Nat.le_trans (by decide) B.2.2.2.2.1⟩ (by simp [cat_i, cat_l, rf_cat]) rfl ?_
    refine x_i2l C dX9_digest_380 ?_
    refine x_ladd C dX9_digest_381 ?_
    obtain ⟨rfl, rfl⟩ := rtn hf
    exact B.2.2.2.2.2.2.1 _ rfl rfl _ _ dX9_digest_382
  · rw [if_neg c] at hf
    refine x_ldc2 (v := 31) C dX9_digest_306 kkX9_288 ?_
    refine x_lload_n (i := 1) 1 C dX9_digest_309 rfl rfl ?_
    refine x_lmul C dX9_digest_310 ?_
    refine x_aload_n (i := 0) 0 C dX9_digest_311 rfl rfl ?_
    refine x_iload_n (i := 3) 2 C dX9_digest_312 rfl rfl ?_
    obtain ⟨z5, e5, hf⟩ := bnd hf
    refine x_callV (r := 49) (As := [.int x3]) (rest := [.long (31 * l1)]) C dX9_digest_313 kmX9_250 miX9_ruleOf (ctX9_ruleOf (lo X) (qo X) N h x3 z5.1 z5.2 e5) rfl rfl ⟨Nat.le_trans (by decide) B.2.2.2.1, Nat.le_trans (by decide) B.2.2.2.2.1⟩ (by simp [cat_i, cat_l, rf_cat]) rfl ?_
    refine x_i2l C dX9_digest_316 ?_
    refine x_ladd C dX9_digest_317 ?_
    refine x_lstore_n (i := 1) (lv' := [(1, .long ((31 * l1) + z5.1.toInt64)), (0, rf (qo X) 49), (3, .int x3)]) C dX9_digest_318 rfl (by decide) rfl ?_
    refine x_iinc (v := x3 + 1) (lv' := [(3, .int (x3 + 1)), (1, .long ((31 * l1) + z5.1.toInt64)), (0, rf (qo X) 49)]) 2 C dX9_digest_319 rfl rfl (by decide) rfl ?_
    refine x_goto (tgt := 301) C dX9_digest_322 (by decide) ?_
    refine x_lv [2, 1, 0] rfl ?_
    exact HK301 z5.2 ((31 * l1) + z5.1.toInt64) (x3 + 1) hf
def fX9_digest_L301 (N : Nat) : Nat → pH → Int64 → Int32 → Option (Int64 × pH)
  | 0 => fun _ _ _ => none
  | n + 1 => fX9_digest_B301 N (fX9_digest_L301 N n)
theorem tX9_digest_L301 {X : Xt} {v : Int64} {h' : pH} (N : Nat) (B : Bd (lo X) (qo X) cX9_digest RX9 5 (some .long) 7 162 (some (.long v)) h' X) : ∀ (n : Nat) (h : pH) (l1 : Int64) (x3 : Int32), fX9_digest_L301 N n h l1 x3 = some (v, h') → Wx X 5 301 [(0, rf (qo X) 49), (1, .long l1), (3, .int x3)] [] h := by
  intro n
  induction n with
  | zero => intro h l1 x3 hf; exact absurd (show (none : Option (Int64 × pH)) = some (v, h') from hf) (fun z => by cases z)
  | succ n ih => intro h l1 x3 hf; exact tX9_digest_B301 N (fX9_digest_L301 N n) ih h l1 x3 B hf
def fX9_digest_B275 (N : Nat) (k275 : pH → Int64 → Int32 → Option (Int64 × pH)) (h : pH) (l1 : Int64) (x3 : Int32) : Option (Int64 × pH) :=
  if 4 ≤ x3 then (fX9_digest_L301 N N h l1 0) else ((fX9_orderBy N h x3).bind fun z1 => (k275 z1.2 ((31 * l1) + z1.1.toInt64) (x3 + 1)))
set_option maxRecDepth 100000 in
set_option maxHeartbeats 4000000 in
theorem tX9_digest_B275 {X : Xt} {v : Int64} {h' : pH} (N : Nat) (k275 : pH → Int64 → Int32 → Option (Int64 × pH)) (HK275 : ∀ (h : pH) (l1 : Int64) (x3 : Int32), k275 h l1 x3 = some (v, h') → Wx X 5 275 [(0, rf (qo X) 49), (1, .long l1), (3, .int x3)] [] h) (h : pH) (l1 : Int64) (x3 : Int32) (B : Bd (lo X) (qo X) cX9_digest RX9 5 (some .long) 7 162 (some (.long v)) h' X) (hf : fX9_digest_B275 N k275 h l1 x3 = some (v, h')) : Wx X 5 275 [(0, rf (qo X) 49), (1, .long l1), (3, .int x3)] [] h := by
  have C := B.1
  unfold fX9_digest_B275 at hf
  refine x_iload_n (i := 3) 2 C dX9_digest_275 rfl rfl ?_
  refine x_iconst (v := 4) C dX9_digest_276 (by decide) ?_
  refine x_icmp_ge (tgt := 299) C dX9_digest_277 (by decide) (fun c => ?_) (fun c => ?_)
  · rw [if_pos c] at hf
    refine x_iconst (v := 0) C dX9_digest_299 (by decide) ?_
    refine x_istore_n (i := 3) (lv' := [(3, .int 0), (0, rf (qo X) 49), (1, .long l1)]) C dX9_digest_300 rfl (by decide) rfl ?_
    refine x_lv [1, 2, 0] rfl ?_
    exact tX9_digest_L301 N  B N h l1 0 hf
  · rw [if_neg c] at hf
    refine x_ldc2 (v := 31) C dX9_digest_280 kkX9_288 ?_
    refine x_lload_n (i := 1) 1 C dX9_digest_283 rfl rfl ?_
    refine x_lmul C dX9_digest_284 ?_
    refine x_aload_n (i := 0) 0 C dX9_digest_285 rfl rfl ?_
    refine x_iload_n (i := 3) 2 C dX9_digest_286 rfl rfl ?_
    obtain ⟨z1, e1, hf⟩ := bnd hf
    refine x_callV (r := 49) (As := [.int x3]) (rest := [.long (31 * l1)]) C dX9_digest_287 kmX9_230 miX9_orderBy (ctX9_orderBy (lo X) (qo X) N h x3 z1.1 z1.2 e1) rfl rfl ⟨Nat.le_trans (by decide) B.2.2.2.1, Nat.le_trans (by decide) B.2.2.2.2.1⟩ (by simp [cat_i, cat_l, rf_cat]) rfl ?_
    refine x_i2l C dX9_digest_290 ?_
    refine x_ladd C dX9_digest_291 ?_
    refine x_lstore_n (i := 1) (lv' := [(1, .long ((31 * l1) + z1.1.toInt64)), (0, rf (qo X) 49), (3, .int x3)]) C dX9_digest_292 rfl (by decide) rfl ?_
    refine x_iinc (v := x3 + 1) (lv' := [(3, .int (x3 + 1)), (1, .long ((31 * l1) + z1.1.toInt64)), (0, rf (qo X) 49)]) 2 C dX9_digest_293 rfl rfl (by decide) rfl ?_
    refine x_goto (tgt := 275) C dX9_digest_296 (by decide) ?_
    refine x_lv [2, 1, 0] rfl ?_
    exact HK275 z1.2 ((31 * l1) + z1.1.toInt64) (x3 + 1) hf
def fX9_digest_L275 (N : Nat) : Nat → pH → Int64 → Int32 → Option (Int64 × pH)
  | 0 => fun _ _ _ => none
  | n + 1 => fX9_digest_B275 N (fX9_digest_L275 N n)
theorem tX9_digest_L275 {X : Xt} {v : Int64} {h' : pH} (N : Nat) (B : Bd (lo X) (qo X) cX9_digest RX9 5 (some .long) 7 162 (some (.long v)) h' X) : ∀ (n : Nat) (h : pH) (l1 : Int64) (x3 : Int32), fX9_digest_L275 N n h l1 x3 = some (v, h') → Wx X 5 275 [(0, rf (qo X) 49), (1, .long l1), (3, .int x3)] [] h := by
  intro n
  induction n with
  | zero => intro h l1 x3 hf; exact absurd (show (none : Option (Int64 × pH)) = some (v, h') from hf) (fun z => by cases z)
  | succ n ih => intro h l1 x3 hf; exact tX9_digest_B275 N (fX9_digest_L275 N n) ih h l1 x3 B hf
def fX9_digest_B204 (N : Nat) (k204 : pH → Int64 → Int32 → Option (Int64 × pH)) (h : pH) (l1 : Int64) (x3 : Int32) : Option (Int64 × pH) :=
  if (h.1 49 11) < x3 then ((fX9_stuckNow N h).bind fun z1 => ((fX9_wornNow N z1.2).bind fun z2 => ((fX9_findOrder N z2.2).bind fun z3 => (fX9_digest_L275 N N z3.2 ((31 * ((31 * l1) + z1.1.toInt64)) + z2.1.toInt64) 0)))) else (if ix x3 25 = true then ((fX9_takenBy N h x3).bind fun z4 => (k204 z4.2 ((31 * ((31 * l1) + ((h.1 61 x3.toNatClampNeg).toInt64))) + z4.1.toInt64) (x3 + 1))) else none)
set_option maxRecDepth 100000 in
set_option maxHeartbeats 4000000 in
theorem tX9_digest_B204 {X : Xt} {v : Int64} {h' : pH} (N : Nat) (k204 : pH → Int64 → Int32 → Option (Int64 × pH)) (HK204 : ∀ (h : pH) (l1 : Int64) (x3 : Int32), k204 h l1 x3 = some (v, h') → Wx X 5 204 [(0, rf (qo X) 49), (1, .long l1), (3, .int x3)] [] h) (h : pH) (l1 : Int64) (x3 : Int32) (B : Bd (lo X) (qo X) cX9_digest RX9 5 (some .long) 7 162 (some (.long v)) h' X) (hf : fX9_digest_B204 N k204 h l1 x3 = some (v, h')) : Wx X 5 204 [(0, rf (qo X) 49), (1, .long l1), (3, .int x3)] [] h := by
  have C := B.1
  unfold fX9_digest_B204 at hf
  refine x_iload_n (i := 3) 2 C dX9_digest_204 rfl rfl ?_
  refine x_aload_n (i := 0) 0 C dX9_digest_205 rfl rfl ?_
  refine x_getI (r := 49) C dX9_digest_206 kfX9_121 rfl ?_
  refine x_icmp_gt (tgt := 245) C dX9_digest_209 (by decide) (fun c => ?_) (fun c => ?_)
  · rw [if_pos c] at hf
    refine x_ldc2 (v := 31) C dX9_digest_245 kkX9_288 ?_
    refine x_lload_n (i := 1) 1 C dX9_digest_248 rfl rfl ?_
    refine x_lmul C dX9_digest_249 ?_
    refine x_aload_n (i := 0) 0 C dX9_digest_250 rfl rfl ?_
    obtain ⟨z1, e1, hf⟩ := bnd hf
    refine x_callV (r := 49) (As := []) (rest := [.long (31 * l1)]) C dX9_digest_251 kmX9_208 miX9_stuckNow (ctX9_stuckNow (lo X) (qo X) N h z1.1 z1.2 e1) rfl rfl ⟨Nat.le_trans (by decide) B.2.2.2.1, Nat.le_trans (by decide) B.2.2.2.2.1⟩ (by simp [cat_i, cat_l, rf_cat]) rfl ?_
    refine x_i2l C dX9_digest_254 ?_
    refine x_ladd C dX9_digest_255 ?_
    refine x_lstore_n (i := 1) (lv' := [(1, .long ((31 * l1) + z1.1.toInt64)), (0, rf (qo X) 49), (3, .int x3)]) C dX9_digest_256 rfl (by decide) rfl ?_
    refine x_ldc2 (v := 31) C dX9_digest_257 kkX9_288 ?_
    refine x_lload_n (i := 1) 0 C dX9_digest_260 rfl rfl ?_
    refine x_lmul C dX9_digest_261 ?_
    refine x_aload_n (i := 0) 1 C dX9_digest_262 rfl rfl ?_
    obtain ⟨z2, e2, hf⟩ := bnd hf
    refine x_callV (r := 49) (As := []) (rest := [.long (31 * ((31 * l1) + z1.1.toInt64))]) C dX9_digest_263 kmX9_211 miX9_wornNow (ctX9_wornNow (lo X) (qo X) N z1.2 z2.1 z2.2 e2) rfl rfl ⟨Nat.le_trans (by decide) B.2.2.2.1, Nat.le_trans (by decide) B.2.2.2.2.1⟩ (by simp [cat_i, cat_l, rf_cat]) rfl ?_
    refine x_i2l C dX9_digest_266 ?_
    refine x_ladd C dX9_digest_267 ?_
    refine x_lstore_n (i := 1) (lv' := [(1, .long ((31 * ((31 * l1) + z1.1.toInt64)) + z2.1.toInt64)), (0, rf (qo X) 49), (3, .int x3)]) C dX9_digest_268 rfl (by decide) rfl ?_
    refine x_aload_n (i := 0) 1 C dX9_digest_269 rfl rfl ?_
    obtain ⟨z3, e3, hf⟩ := bnd hf
    refine x_callV (r := 49) (As := []) (rest := []) C dX9_digest_270 kmX9_227 miX9_findOrder (ctX9_findOrder (lo X) (qo X) N z2.2 z3.1 z3.2 e3) rfl rfl ⟨Nat.le_trans (by decide) B.2.2.2.1, Nat.le_trans (by decide) B.2.2.2.2.1⟩ (by simp [cat_i, cat_l, rf_cat]) rfl ?_
    refine x_iconst (v := 0) C dX9_digest_273 (by decide) ?_
    refine x_istore_n (i := 3) (lv' := [(3, .int 0), (1, .long ((31 * ((31 * l1) + z1.1.toInt64)) + z2.1.toInt64)), (0, rf (qo X) 49)]) C dX9_digest_274 rfl (by decide) rfl ?_
    refine x_lv [2, 1, 0] rfl ?_
    exact tX9_digest_L275 N  B N z3.2 ((31 * ((31 * l1) + z1.1.toInt64)) + z2.1.toInt64) 0 hf
  · rw [if_neg c] at hf
    refine x_ldc2 (v := 31) C dX9_digest_212 kkX9_288 ?_
    refine x_lload_n (i := 1) 1 C dX9_digest_215 rfl rfl ?_
    refine x_lmul C dX9_digest_216 ?_
    refine x_aload_n (i := 0) 0 C dX9_digest_217 rfl rfl ?_
    refine x_getR (r := 49) (r2 := 61) C dX9_digest_218 kfX9_43 rfl rfl (by decide) ?_
    refine x_iload_n (i := 3) 2 C dX9_digest_221 rfl rfl ?_
    obtain ⟨g1, hf⟩ := ife hf
    refine x_iald (r := 61) C dX9_digest_222 rfl g1 ?_
    refine x_i2l C dX9_digest_223 ?_
    refine x_ladd C dX9_digest_224 ?_
    refine x_lstore_n (i := 1) (lv' := [(1, .long ((31 * l1) + ((h.1 61 x3.toNatClampNeg).toInt64))), (0, rf (qo X) 49), (3, .int x3)]) C dX9_digest_225 rfl (by decide) rfl ?_
    refine x_ldc2 (v := 31) C dX9_digest_226 kkX9_288 ?_
    refine x_lload_n (i := 1) 0 C dX9_digest_229 rfl rfl ?_
    refine x_lmul C dX9_digest_230 ?_
    refine x_aload_n (i := 0) 1 C dX9_digest_231 rfl rfl ?_
    refine x_iload_n (i := 3) 2 C dX9_digest_232 rfl rfl ?_
    obtain ⟨z4, e4, hf⟩ := bnd hf
    refine x_callV (r := 49) (As := [.int x3]) (rest := [.long (31 * ((31 * l1) + ((h.1 61 x3.toNatClampNeg).toInt64)))]) C dX9_digest_233 kmX9_205 miX9_takenBy (ctX9_takenBy (lo X) (qo X) N h x3 z4.1 z4.2 e4) rfl rfl ⟨Nat.le_trans (by decide) B.2.2.2.1, Nat.le_trans (by decide) B.2.2.2.2.1⟩ (by simp [cat_i, cat_l, rf_cat]) rfl ?_
    refine x_i2l C dX9_digest_236 ?_
    refine x_ladd C dX9_digest_237 ?_
    refine x_lstore_n (i := 1) (lv' := [(1, .long ((31 * ((31 * l1) + ((h.1 61 x3.toNatClampNeg).toInt64))) + z4.1.toInt64)), (0, rf (qo X) 49), (3, .int x3)]) C dX9_digest_238 rfl (by decide) rfl ?_
    refine x_iinc (v := x3 + 1) (lv' := [(3, .int (x3 + 1)), (1, .long ((31 * ((31 * l1) + ((h.1 61 x3.toNatClampNeg).toInt64))) + z4.1.toInt64)), (0, rf (qo X) 49)]) 2 C dX9_digest_239 rfl rfl (by decide) rfl ?_
    refine x_goto (tgt := 204) C dX9_digest_242 (by decide) ?_
    refine x_lv [2, 1, 0] rfl ?_
    exact HK204 z4.2 ((31 * ((31 * l1) + ((h.1 61 x3.toNatClampNeg).toInt64))) + z4.1.toInt64) (x3 + 1) hf
def fX9_digest_L204 (N : Nat) : Nat → pH → Int64 → Int32 → Option (Int64 × pH)
  | 0 => fun _ _ _ => none
  | n + 1 => fX9_digest_B204 N (fX9_digest_L204 N n)
theorem tX9_digest_L204 {X : Xt} {v : Int64} {h' : pH} (N : Nat) (B : Bd (lo X) (qo X) cX9_digest RX9 5 (some .long) 7 162 (some (.long v)) h' X) : ∀ (n : Nat) (h : pH) (l1 : Int64) (x3 : Int32), fX9_digest_L204 N n h l1 x3 = some (v, h') → Wx X 5 204 [(0, rf (qo X) 49), (1, .long l1), (3, .int x3)] [] h := by
  intro n
  induction n with
  | zero => intro h l1 x3 hf; exact absurd (show (none : Option (Int64 × pH)) = some (v, h') from hf) (fun z => by cases z)
  | succ n ih => intro h l1 x3 hf; exact tX9_digest_B204 N (fX9_digest_L204 N n) ih h l1 x3 B hf
def fX9_digest_B169 (N : Nat) (k144 : pH → Int64 → Int32 → Option (Int64 × pH)) (k169 : pH → Int64 → Int32 → Int32 → Option (Int64 × pH)) (h : pH) (l1 : Int64) (x3 : Int32) (x4 : Int32) : Option (Int64 × pH) :=
  if 3 ≤ x4 then (k144 h l1 (x3 + 1)) else ((fX9_comesBy N h x3 x4).bind fun z1 => (k169 z1.2 ((31 * l1) + z1.1.toInt64) x3 (x4 + 1)))
set_option maxRecDepth 100000 in
set_option maxHeartbeats 4000000 in
theorem tX9_digest_B169 {X : Xt} {v : Int64} {h' : pH} (N : Nat) (k144 : pH → Int64 → Int32 → Option (Int64 × pH)) (k169 : pH → Int64 → Int32 → Int32 → Option (Int64 × pH)) (HK144 : ∀ (h : pH) (l1 : Int64) (x3 : Int32), k144 h l1 x3 = some (v, h') → Wx X 5 144 [(0, rf (qo X) 49), (1, .long l1), (3, .int x3)] [] h) (HK169 : ∀ (h : pH) (l1 : Int64) (x3 : Int32) (x4 : Int32), k169 h l1 x3 x4 = some (v, h') → Wx X 5 169 [(0, rf (qo X) 49), (1, .long l1), (3, .int x3), (4, .int x4)] [] h) (h : pH) (l1 : Int64) (x3 : Int32) (x4 : Int32) (B : Bd (lo X) (qo X) cX9_digest RX9 5 (some .long) 7 162 (some (.long v)) h' X) (hf : fX9_digest_B169 N k144 k169 h l1 x3 x4 = some (v, h')) : Wx X 5 169 [(0, rf (qo X) 49), (1, .long l1), (3, .int x3), (4, .int x4)] [] h := by
  have C := B.1
  unfold fX9_digest_B169 at hf
  refine x_iload 3 C dX9_digest_169 rfl ?_
  refine x_iconst (v := 3) C dX9_digest_171 (by decide) ?_
  refine x_icmp_ge (tgt := 196) C dX9_digest_172 (by decide) (fun c => ?_) (fun c => ?_)
  · rw [if_pos c] at hf
    refine x_iinc (v := x3 + 1) (lv' := [(3, .int (x3 + 1)), (0, rf (qo X) 49), (1, .long l1), (4, .int x4)]) 2 C dX9_digest_196 rfl rfl (by decide) rfl ?_
    refine x_goto (tgt := 144) C dX9_digest_199 (by decide) ?_
    refine x_lv [1, 2, 0] rfl ?_
    exact HK144 h l1 (x3 + 1) hf
  · rw [if_neg c] at hf
    refine x_ldc2 (v := 31) C dX9_digest_175 kkX9_288 ?_
    refine x_lload_n (i := 1) 1 C dX9_digest_178 rfl rfl ?_
    refine x_lmul C dX9_digest_179 ?_
    refine x_aload_n (i := 0) 0 C dX9_digest_180 rfl rfl ?_
    refine x_iload_n (i := 3) 2 C dX9_digest_181 rfl rfl ?_
    refine x_iload 3 C dX9_digest_182 rfl ?_
    obtain ⟨z1, e1, hf⟩ := bnd hf
    refine x_callV (r := 49) (As := [.int x3, .int x4]) (rest := [.long (31 * l1)]) C dX9_digest_184 kmX9_199 miX9_comesBy (ctX9_comesBy (lo X) (qo X) N h x3 x4 z1.1 z1.2 e1) rfl rfl ⟨Nat.le_trans (by decide) B.2.2.2.1, Nat.le_trans (by decide) B.2.2.2.2.1⟩ (by simp [cat_i, cat_l, rf_cat]) rfl ?_
    refine x_i2l C dX9_digest_187 ?_
    refine x_ladd C dX9_digest_188 ?_
    refine x_lstore_n (i := 1) (lv' := [(1, .long ((31 * l1) + z1.1.toInt64)), (0, rf (qo X) 49), (3, .int x3), (4, .int x4)]) C dX9_digest_189 rfl (by decide) rfl ?_
    refine x_iinc (v := x4 + 1) (lv' := [(4, .int (x4 + 1)), (1, .long ((31 * l1) + z1.1.toInt64)), (0, rf (qo X) 49), (3, .int x3)]) 3 C dX9_digest_190 rfl rfl (by decide) rfl ?_
    refine x_goto (tgt := 169) C dX9_digest_193 (by decide) ?_
    refine x_lv [2, 1, 3, 0] rfl ?_
    exact HK169 z1.2 ((31 * l1) + z1.1.toInt64) x3 (x4 + 1) hf
def fX9_digest_L169 (N : Nat) (k144 : pH → Int64 → Int32 → Option (Int64 × pH)) : Nat → pH → Int64 → Int32 → Int32 → Option (Int64 × pH)
  | 0 => fun _ _ _ _ => none
  | n + 1 => fX9_digest_B169 N k144 (fX9_digest_L169 N k144 n)
theorem tX9_digest_L169 {X : Xt} {v : Int64} {h' : pH} (N : Nat) (k144 : pH → Int64 → Int32 → Option (Int64 × pH)) (HK144 : ∀ (h : pH) (l1 : Int64) (x3 : Int32), k144 h l1 x3 = some (v, h') → Wx X 5 144 [(0, rf (qo X) 49), (1, .long l1), (3, .int x3)] [] h) (B : Bd (lo X) (qo X) cX9_digest RX9 5 (some .long) 7 162 (some (.long v)) h' X) : ∀ (n : Nat) (h : pH) (l1 : Int64) (x3 : Int32) (x4 : Int32), fX9_digest_L169 N k144 n h l1 x3 x4 = some (v, h') → Wx X 5 169 [(0, rf (qo X) 49), (1, .long l1), (3, .int x3), (4, .int x4)] [] h := by
  intro n
  induction n with
  | zero => intro h l1 x3 x4 hf; exact absurd (show (none : Option (Int64 × pH)) = some (v, h') from hf) (fun z => by cases z)
  | succ n ih => intro h l1 x3 x4 hf; exact tX9_digest_B169 N k144 (fX9_digest_L169 N k144 n) HK144 ih h l1 x3 x4 B hf
def fX9_digest_B144 (N : Nat) (k144 : pH → Int64 → Int32 → Option (Int64 × pH)) (h : pH) (l1 : Int64) (x3 : Int32) : Option (Int64 × pH) :=
  if (h.1 49 11) ≤ x3 then (fX9_digest_L204 N N h l1 0) else (if ix x3 24 = true then (fX9_digest_L169 N k144 N h ((31 * l1) + ((h.1 58 x3.toNatClampNeg).toInt64)) x3 0) else none)
set_option maxRecDepth 100000 in
set_option maxHeartbeats 4000000 in
theorem tX9_digest_B144 {X : Xt} {v : Int64} {h' : pH} (N : Nat) (k144 : pH → Int64 → Int32 → Option (Int64 × pH)) (HK144 : ∀ (h : pH) (l1 : Int64) (x3 : Int32), k144 h l1 x3 = some (v, h') → Wx X 5 144 [(0, rf (qo X) 49), (1, .long l1), (3, .int x3)] [] h) (h : pH) (l1 : Int64) (x3 : Int32) (B : Bd (lo X) (qo X) cX9_digest RX9 5 (some .long) 7 162 (some (.long v)) h' X) (hf : fX9_digest_B144 N k144 h l1 x3 = some (v, h')) : Wx X 5 144 [(0, rf (qo X) 49), (1, .long l1), (3, .int x3)] [] h := by
  have C := B.1
  unfold fX9_digest_B144 at hf
  refine x_iload_n (i := 3) 2 C dX9_digest_144 rfl rfl ?_
  refine x_aload_n (i := 0) 0 C dX9_digest_145 rfl rfl ?_
  refine x_getI (r := 49) C dX9_digest_146 kfX9_121 rfl ?_
  refine x_icmp_ge (tgt := 202) C dX9_digest_149 (by decide) (fun c => ?_) (fun c => ?_)
  · rw [if_pos c] at hf
    refine x_iconst (v := 0) C dX9_digest_202 (by decide) ?_
    refine x_istore_n (i := 3) (lv' := [(3, .int 0), (0, rf (qo X) 49), (1, .long l1)]) C dX9_digest_203 rfl (by decide) rfl ?_
    refine x_lv [1, 2, 0] rfl ?_
    exact tX9_digest_L204 N  B N h l1 0 hf
  · rw [if_neg c] at hf
    refine x_ldc2 (v := 31) C dX9_digest_152 kkX9_288 ?_
    refine x_lload_n (i := 1) 1 C dX9_digest_155 rfl rfl ?_
    refine x_lmul C dX9_digest_156 ?_
    refine x_aload_n (i := 0) 0 C dX9_digest_157 rfl rfl ?_
    refine x_getR (r := 49) (r2 := 58) C dX9_digest_158 kfX9_34 rfl rfl (by decide) ?_
    refine x_iload_n (i := 3) 2 C dX9_digest_161 rfl rfl ?_
    obtain ⟨g1, hf⟩ := ife hf
    refine x_iald (r := 58) C dX9_digest_162 rfl g1 ?_
    refine x_i2l C dX9_digest_163 ?_
    refine x_ladd C dX9_digest_164 ?_
    refine x_lstore_n (i := 1) (lv' := [(1, .long ((31 * l1) + ((h.1 58 x3.toNatClampNeg).toInt64))), (0, rf (qo X) 49), (3, .int x3)]) C dX9_digest_165 rfl (by decide) rfl ?_
    refine x_iconst (v := 0) C dX9_digest_166 (by decide) ?_
    refine x_istore (lv' := [(4, .int 0), (1, .long ((31 * l1) + ((h.1 58 x3.toNatClampNeg).toInt64))), (0, rf (qo X) 49), (3, .int x3)]) C dX9_digest_167 (by decide) rfl ?_
    refine x_lv [2, 1, 3, 0] rfl ?_
    exact tX9_digest_L169 N k144 HK144  B N h ((31 * l1) + ((h.1 58 x3.toNatClampNeg).toInt64)) x3 0 hf
def fX9_digest_L144 (N : Nat) : Nat → pH → Int64 → Int32 → Option (Int64 × pH)
  | 0 => fun _ _ _ => none
  | n + 1 => fX9_digest_B144 N (fX9_digest_L144 N n)
theorem tX9_digest_L144 {X : Xt} {v : Int64} {h' : pH} (N : Nat) (B : Bd (lo X) (qo X) cX9_digest RX9 5 (some .long) 7 162 (some (.long v)) h' X) : ∀ (n : Nat) (h : pH) (l1 : Int64) (x3 : Int32), fX9_digest_L144 N n h l1 x3 = some (v, h') → Wx X 5 144 [(0, rf (qo X) 49), (1, .long l1), (3, .int x3)] [] h := by
  intro n
  induction n with
  | zero => intro h l1 x3 hf; exact absurd (show (none : Option (Int64 × pH)) = some (v, h') from hf) (fun z => by cases z)
  | succ n ih => intro h l1 x3 hf; exact tX9_digest_B144 N (fX9_digest_L144 N n) ih h l1 x3 B hf
def fX9_digest_B117 (N : Nat) (k117 : pH → Int64 → Int32 → Option (Int64 × pH)) (h : pH) (l1 : Int64) (x3 : Int32) : Option (Int64 × pH) :=
  if (h.1 49 9) ≤ x3 then ((fX9_lives N h).bind fun z1 => (fX9_digest_L144 N N z1.2 l1 0)) else ((fX9_tellsCrosser N h l1 x3).bind fun z2 => (k117 z2.2 z2.1 (x3 + 1)))
set_option maxRecDepth 100000 in
set_option maxHeartbeats 4000000 in
theorem tX9_digest_B117 {X : Xt} {v : Int64} {h' : pH} (N : Nat) (k117 : pH → Int64 → Int32 → Option (Int64 × pH)) (HK117 : ∀ (h : pH) (l1 : Int64) (x3 : Int32), k117 h l1 x3 = some (v, h') → Wx X 5 117 [(0, rf (qo X) 49), (1, .long l1), (3, .int x3)] [] h) (h : pH) (l1 : Int64) (x3 : Int32) (B : Bd (lo X) (qo X) cX9_digest RX9 5 (some .long) 7 162 (some (.long v)) h' X) (hf : fX9_digest_B117 N k117 h l1 x3 = some (v, h')) : Wx X 5 117 [(0, rf (qo X) 49), (1, .long l1), (3, .int x3)] [] h := by
  have C := B.1
  unfold fX9_digest_B117 at hf
  refine x_iload_n (i := 3) 2 C dX9_digest_117 rfl rfl ?_
  refine x_aload_n (i := 0) 0 C dX9_digest_118 rfl rfl ?_
  refine x_getI (r := 49) C dX9_digest_119 kfX9_115 rfl ?_
  refine x_icmp_ge (tgt := 138) C dX9_digest_122 (by decide) (fun c => ?_) (fun c => ?_)
  · rw [if_pos c] at hf
    refine x_aload_n (i := 0) 0 C dX9_digest_138 rfl rfl ?_
    obtain ⟨z1, e1, hf⟩ := bnd hf
    refine x_callV (r := 49) (As := []) (rest := []) C dX9_digest_139 kmX9_193 miX9_lives (ctX9_lives (lo X) (qo X) N h z1.1 z1.2 e1) rfl rfl ⟨Nat.le_trans (by decide) B.2.2.2.1, Nat.le_trans (by decide) B.2.2.2.2.1⟩ (by simp [cat_i, cat_l, rf_cat]) rfl ?_
    refine x_iconst (v := 0) C dX9_digest_142 (by decide) ?_
    refine x_istore_n (i := 3) (lv' := [(3, .int 0), (0, rf (qo X) 49), (1, .long l1)]) C dX9_digest_143 rfl (by decide) rfl ?_
    refine x_lv [1, 2, 0] rfl ?_
    exact tX9_digest_L144 N  B N z1.2 l1 0 hf
  · rw [if_neg c] at hf
    refine x_aload_n (i := 0) 0 C dX9_digest_125 rfl rfl ?_
    refine x_lload_n (i := 1) 1 C dX9_digest_126 rfl rfl ?_
    refine x_iload_n (i := 3) 2 C dX9_digest_127 rfl rfl ?_
    obtain ⟨z2, e2, hf⟩ := bnd hf
    refine x_callV (r := 49) (As := [.long l1, .int x3]) (rest := []) C dX9_digest_128 kmX9_301 miX9_tellsCrosser (ctX9_tellsCrosser (lo X) (qo X) N h l1 x3 z2.1 z2.2 e2) rfl rfl ⟨Nat.le_trans (by decide) B.2.2.2.1, Nat.le_trans (by decide) B.2.2.2.2.1⟩ (by simp [cat_i, cat_l, rf_cat]) rfl ?_
    refine x_lstore_n (i := 1) (lv' := [(1, .long z2.1), (0, rf (qo X) 49), (3, .int x3)]) C dX9_digest_131 rfl (by decide) rfl ?_
    refine x_iinc (v := x3 + 1) (lv' := [(3, .int (x3 + 1)), (1, .long z2.1), (0, rf (qo X) 49)]) 2 C dX9_digest_132 rfl rfl (by decide) rfl ?_
    refine x_goto (tgt := 117) C dX9_digest_135 (by decide) ?_
    refine x_lv [2, 1, 0] rfl ?_
    exact HK117 z2.2 z2.1 (x3 + 1) hf
def fX9_digest_L117 (N : Nat) : Nat → pH → Int64 → Int32 → Option (Int64 × pH)
  | 0 => fun _ _ _ => none
  | n + 1 => fX9_digest_B117 N (fX9_digest_L117 N n)
theorem tX9_digest_L117 {X : Xt} {v : Int64} {h' : pH} (N : Nat) (B : Bd (lo X) (qo X) cX9_digest RX9 5 (some .long) 7 162 (some (.long v)) h' X) : ∀ (n : Nat) (h : pH) (l1 : Int64) (x3 : Int32), fX9_digest_L117 N n h l1 x3 = some (v, h') → Wx X 5 117 [(0, rf (qo X) 49), (1, .long l1), (3, .int x3)] [] h := by
  intro n
  induction n with
  | zero => intro h l1 x3 hf; exact absurd (show (none : Option (Int64 × pH)) = some (v, h') from hf) (fun z => by cases z)
  | succ n ih => intro h l1 x3 hf; exact tX9_digest_B117 N (fX9_digest_L117 N n) ih h l1 x3 B hf
def fX9_digest_B59 (N : Nat) (k59 : pH → Int64 → Int32 → Option (Int64 × pH)) (h : pH) (l1 : Int64) (x3 : Int32) : Option (Int64 × pH) :=
  if (h.1 49 7) ≤ x3 then (fX9_digest_L117 N N h l1 0) else (if ix x3 19 = true then ((fX9_maybe N h 5 x3 0).bind fun z1 => ((fX9_maybe N z1.2 5 x3 1).bind fun z2 => (k59 z2.2 ((31 * ((31 * ((31 * l1) + ((h.1 56 x3.toNatClampNeg).toInt64))) + z1.1)) + z2.1) (x3 + 1)))) else none)
set_option maxRecDepth 100000 in
set_option maxHeartbeats 4000000 in
theorem tX9_digest_B59 {X : Xt} {v : Int64} {h' : pH} (N : Nat) (k59 : pH → Int64 → Int32 → Option (Int64 × pH)) (HK59 : ∀ (h : pH) (l1 : Int64) (x3 : Int32), k59 h l1 x3 = some (v, h') → Wx X 5 59 [(0, rf (qo X) 49), (1, .long l1), (3, .int x3)] [] h) (h : pH) (l1 : Int64) (x3 : Int32) (B : Bd (lo X) (qo X) cX9_digest RX9 5 (some .long) 7 162 (some (.long v)) h' X) (hf : fX9_digest_B59 N k59 h l1 x3 = some (v, h')) : Wx X 5 59 [(0, rf (qo X) 49), (1, .long l1), (3, .int x3)] [] h := by
  have C := B.1
  unfold fX9_digest_B59 at hf
  refine x_iload_n (i := 3) 2 C dX9_digest_59 rfl rfl ?_
  refine x_aload_n (i := 0) 0 C dX9_digest_60 rfl rfl ?_
  refine x_getI (r := 49) C dX9_digest_61 kfX9_103 rfl ?_
  refine x_icmp_ge (tgt := 115) C dX9_digest_64 (by decide) (fun c => ?_) (fun c => ?_)
  · rw [if_pos c] at hf
    refine x_iconst (v := 0) C dX9_digest_115 (by decide) ?_
    refine x_istore_n (i := 3) (lv' := [(3, .int 0), (0, rf (qo X) 49), (1, .long l1)]) C dX9_digest_116 rfl (by decide) rfl ?_
    refine x_lv [1, 2, 0] rfl ?_
    exact tX9_digest_L117 N  B N h l1 0 hf
  · rw [if_neg c] at hf
    refine x_ldc2 (v := 31) C dX9_digest_67 kkX9_288 ?_
    refine x_lload_n (i := 1) 1 C dX9_digest_70 rfl rfl ?_
    refine x_lmul C dX9_digest_71 ?_
    refine x_aload_n (i := 0) 0 C dX9_digest_72 rfl rfl ?_
    refine x_getR (r := 49) (r2 := 56) C dX9_digest_73 kfX9_28 rfl rfl (by decide) ?_
    refine x_iload_n (i := 3) 2 C dX9_digest_76 rfl rfl ?_
    obtain ⟨g1, hf⟩ := ife hf
    refine x_iald (r := 56) C dX9_digest_77 rfl g1 ?_
    refine x_i2l C dX9_digest_78 ?_
    refine x_ladd C dX9_digest_79 ?_
    refine x_lstore_n (i := 1) (lv' := [(1, .long ((31 * l1) + ((h.1 56 x3.toNatClampNeg).toInt64))), (0, rf (qo X) 49), (3, .int x3)]) C dX9_digest_80 rfl (by decide) rfl ?_
    refine x_ldc2 (v := 31) C dX9_digest_81 kkX9_288 ?_
    refine x_lload_n (i := 1) 0 C dX9_digest_84 rfl rfl ?_
    refine x_lmul C dX9_digest_85 ?_
    refine x_aload_n (i := 0) 1 C dX9_digest_86 rfl rfl ?_
    refine x_iconst (v := 5) C dX9_digest_87 (by decide) ?_
    refine x_iload_n (i := 3) 2 C dX9_digest_88 rfl rfl ?_
    refine x_iconst (v := 0) C dX9_digest_89 (by decide) ?_
    obtain ⟨z1, e1, hf⟩ := bnd hf
    refine x_callV (r := 49) (As := [.int 5, .int x3, .int 0]) (rest := [.long (31 * ((31 * l1) + ((h.1 56 x3.toNatClampNeg).toInt64)))]) C dX9_digest_90 kmX9_298 miX9_maybe (ctX9_maybe (lo X) (qo X) N h 5 x3 0 z1.1 z1.2 e1) rfl rfl ⟨Nat.le_trans (by decide) B.2.2.2.1, Nat.le_trans (by decide) B.2.2.2.2.1⟩ (by simp [cat_i, cat_l, rf_cat]) rfl ?_
    refine x_ladd C dX9_digest_93 ?_
    refine x_lstore_n (i := 1) (lv' := [(1, .long ((31 * ((31 * l1) + ((h.1 56 x3.toNatClampNeg).toInt64))) + z1.1)), (0, rf (qo X) 49), (3, .int x3)]) C dX9_digest_94 rfl (by decide) rfl ?_
    refine x_ldc2 (v := 31) C dX9_digest_95 kkX9_288 ?_
    refine x_lload_n (i := 1) 0 C dX9_digest_98 rfl rfl ?_
    refine x_lmul C dX9_digest_99 ?_
    refine x_aload_n (i := 0) 1 C dX9_digest_100 rfl rfl ?_
    refine x_iconst (v := 5) C dX9_digest_101 (by decide) ?_
    refine x_iload_n (i := 3) 2 C dX9_digest_102 rfl rfl ?_
    refine x_iconst (v := 1) C dX9_digest_103 (by decide) ?_
    obtain ⟨z2, e2, hf⟩ := bnd hf
    refine x_callV (r := 49) (As := [.int 5, .int x3, .int 1]) (rest := [.long (31 * ((31 * ((31 * l1) + ((h.1 56 x3.toNatClampNeg).toInt64))) + z1.1))]) C dX9_digest_104 kmX9_298 miX9_maybe (ctX9_maybe (lo X) (qo X) N z1.2 5 x3 1 z2.1 z2.2 e2) rfl rfl ⟨Nat.le_trans (by decide) B.2.2.2.1, Nat.le_trans (by decide) B.2.2.2.2.1⟩ (by simp [cat_i, cat_l, rf_cat]) rfl ?_
    refine x_ladd C dX9_digest_107 ?_
    refine x_lstore_n (i := 1) (lv' := [(1, .long ((31 * ((31 * ((31 * l1) + ((h.1 56 x3.toNatClampNeg).toInt64))) + z1.1)) + z2.1)), (0, rf (qo X) 49), (3, .int x3)]) C dX9_digest_108 rfl (by decide) rfl ?_
    refine x_iinc (v := x3 + 1) (lv' := [(3, .int (x3 + 1)), (1, .long ((31 * ((31 * ((31 * l1) + ((h.1 56 x3.toNatClampNeg).toInt64))) + z1.1)) + z2.1)), (0, rf (qo X) 49)]) 2 C dX9_digest_109 rfl rfl (by decide) rfl ?_
    refine x_goto (tgt := 59) C dX9_digest_112 (by decide) ?_
    refine x_lv [2, 1, 0] rfl ?_
    exact HK59 z2.2 ((31 * ((31 * ((31 * l1) + ((h.1 56 x3.toNatClampNeg).toInt64))) + z1.1)) + z2.1) (x3 + 1) hf
def fX9_digest_L59 (N : Nat) : Nat → pH → Int64 → Int32 → Option (Int64 × pH)
  | 0 => fun _ _ _ => none
  | n + 1 => fX9_digest_B59 N (fX9_digest_L59 N n)
theorem tX9_digest_L59 {X : Xt} {v : Int64} {h' : pH} (N : Nat) (B : Bd (lo X) (qo X) cX9_digest RX9 5 (some .long) 7 162 (some (.long v)) h' X) : ∀ (n : Nat) (h : pH) (l1 : Int64) (x3 : Int32), fX9_digest_L59 N n h l1 x3 = some (v, h') → Wx X 5 59 [(0, rf (qo X) 49), (1, .long l1), (3, .int x3)] [] h := by
  intro n
  induction n with
  | zero => intro h l1 x3 hf; exact absurd (show (none : Option (Int64 × pH)) = some (v, h') from hf) (fun z => by cases z)
  | succ n ih => intro h l1 x3 hf; exact tX9_digest_B59 N (fX9_digest_L59 N n) ih h l1 x3 B hf
def fX9_digest_B33 (N : Nat) (k33 : pH → Int64 → Int32 → Option (Int64 × pH)) (h : pH) (l1 : Int64) (x3 : Int32) : Option (Int64 × pH) :=
  if 3 ≤ x3 then (fX9_digest_L59 N N h l1 0) else ((fX9_readsText N h x3).bind fun z1 => (k33 z1.2 ((31 * l1) + z1.1.toInt64) (x3 + 1)))
set_option maxRecDepth 100000 in
set_option maxHeartbeats 4000000 in
theorem tX9_digest_B33 {X : Xt} {v : Int64} {h' : pH} (N : Nat) (k33 : pH → Int64 → Int32 → Option (Int64 × pH)) (HK33 : ∀ (h : pH) (l1 : Int64) (x3 : Int32), k33 h l1 x3 = some (v, h') → Wx X 5 33 [(0, rf (qo X) 49), (1, .long l1), (3, .int x3)] [] h) (h : pH) (l1 : Int64) (x3 : Int32) (B : Bd (lo X) (qo X) cX9_digest RX9 5 (some .long) 7 162 (some (.long v)) h' X) (hf : fX9_digest_B33 N k33 h l1 x3 = some (v, h')) : Wx X 5 33 [(0, rf (qo X) 49), (1, .long l1), (3, .int x3)] [] h := by
  have C := B.1
  unfold fX9_digest_B33 at hf
  refine x_iload_n (i := 3) 2 C dX9_digest_33 rfl rfl ?_
  refine x_iconst (v := 3) C dX9_digest_34 (by decide) ?_
  refine x_icmp_ge (tgt := 57) C dX9_digest_35 (by decide) (fun c => ?_) (fun c => ?_)
  · rw [if_pos c] at hf
    refine x_iconst (v := 0) C dX9_digest_57 (by decide) ?_
    refine x_istore_n (i := 3) (lv' := [(3, .int 0), (0, rf (qo X) 49), (1, .long l1)]) C dX9_digest_58 rfl (by decide) rfl ?_
    refine x_lv [1, 2, 0] rfl ?_
    exact tX9_digest_L59 N  B N h l1 0 hf
  · rw [if_neg c] at hf
    refine x_ldc2 (v := 31) C dX9_digest_38 kkX9_288 ?_
    refine x_lload_n (i := 1) 1 C dX9_digest_41 rfl rfl ?_
    refine x_lmul C dX9_digest_42 ?_
    refine x_aload_n (i := 0) 0 C dX9_digest_43 rfl rfl ?_
    refine x_iload_n (i := 3) 2 C dX9_digest_44 rfl rfl ?_
    obtain ⟨z1, e1, hf⟩ := bnd hf
    refine x_callV (r := 49) (As := [.int x3]) (rest := [.long (31 * l1)]) C dX9_digest_45 kmX9_138 miX9_readsText (ctX9_readsText (lo X) (qo X) N h x3 z1.1 z1.2 e1) rfl rfl ⟨Nat.le_trans (by decide) B.2.2.2.1, Nat.le_trans (by decide) B.2.2.2.2.1⟩ (by simp [cat_i, cat_l, rf_cat]) rfl ?_
    refine x_i2l C dX9_digest_48 ?_
    refine x_ladd C dX9_digest_49 ?_
    refine x_lstore_n (i := 1) (lv' := [(1, .long ((31 * l1) + z1.1.toInt64)), (0, rf (qo X) 49), (3, .int x3)]) C dX9_digest_50 rfl (by decide) rfl ?_
    refine x_iinc (v := x3 + 1) (lv' := [(3, .int (x3 + 1)), (1, .long ((31 * l1) + z1.1.toInt64)), (0, rf (qo X) 49)]) 2 C dX9_digest_51 rfl rfl (by decide) rfl ?_
    refine x_goto (tgt := 33) C dX9_digest_54 (by decide) ?_
    refine x_lv [2, 1, 0] rfl ?_
    exact HK33 z1.2 ((31 * l1) + z1.1.toInt64) (x3 + 1) hf
def fX9_digest_L33 (N : Nat) : Nat → pH → Int64 → Int32 → Option (Int64 × pH)
  | 0 => fun _ _ _ => none
  | n + 1 => fX9_digest_B33 N (fX9_digest_L33 N n)
theorem tX9_digest_L33 {X : Xt} {v : Int64} {h' : pH} (N : Nat) (B : Bd (lo X) (qo X) cX9_digest RX9 5 (some .long) 7 162 (some (.long v)) h' X) : ∀ (n : Nat) (h : pH) (l1 : Int64) (x3 : Int32), fX9_digest_L33 N n h l1 x3 = some (v, h') → Wx X 5 33 [(0, rf (qo X) 49), (1, .long l1), (3, .int x3)] [] h := by
  intro n
  induction n with
  | zero => intro h l1 x3 hf; exact absurd (show (none : Option (Int64 × pH)) = some (v, h') from hf) (fun z => by cases z)
  | succ n ih => intro h l1 x3 hf; exact tX9_digest_B33 N (fX9_digest_L33 N n) ih h l1 x3 B hf
def fX9_digest_B6 (N : Nat) (k6 : pH → Int64 → Int32 → Option (Int64 × pH)) (h : pH) (l1 : Int64) (x3 : Int32) : Option (Int64 × pH) :=
  if 8 ≤ x3 then (fX9_digest_L33 N N h l1 0) else ((fX9_count N h x3).bind fun z1 => (k6 z1.2 ((31 * l1) + z1.1.toInt64) (x3 + 1)))
set_option maxRecDepth 100000 in
set_option maxHeartbeats 4000000 in
theorem tX9_digest_B6 {X : Xt} {v : Int64} {h' : pH} (N : Nat) (k6 : pH → Int64 → Int32 → Option (Int64 × pH)) (HK6 : ∀ (h : pH) (l1 : Int64) (x3 : Int32), k6 h l1 x3 = some (v, h') → Wx X 5 6 [(0, rf (qo X) 49), (1, .long l1), (3, .int x3)] [] h) (h : pH) (l1 : Int64) (x3 : Int32) (B : Bd (lo X) (qo X) cX9_digest RX9 5 (some .long) 7 162 (some (.long v)) h' X) (hf : fX9_digest_B6 N k6 h l1 x3 = some (v, h')) : Wx X 5 6 [(0, rf (qo X) 49), (1, .long l1), (3, .int x3)] [] h := by
  have C := B.1
  unfold fX9_digest_B6 at hf
  refine x_iload_n (i := 3) 2 C dX9_digest_6 rfl rfl ?_
  refine x_bipush (v := 8) C dX9_digest_7 (by decide) ?_
  refine x_icmp_ge (tgt := 31) C dX9_digest_9 (by decide) (fun c => ?_) (fun c => ?_)
  · rw [if_pos c] at hf
    refine x_iconst (v := 0) C dX9_digest_31 (by decide) ?_
    refine x_istore_n (i := 3) (lv' := [(3, .int 0), (0, rf (qo X) 49), (1, .long l1)]) C dX9_digest_32 rfl (by decide) rfl ?_
    refine x_lv [1, 2, 0] rfl ?_
    exact tX9_digest_L33 N  B N h l1 0 hf
  · rw [if_neg c] at hf
    refine x_ldc2 (v := 31) C dX9_digest_12 kkX9_288 ?_
    refine x_lload_n (i := 1) 1 C dX9_digest_15 rfl rfl ?_
    refine x_lmul C dX9_digest_16 ?_
    refine x_aload_n (i := 0) 0 C dX9_digest_17 rfl rfl ?_
    refine x_iload_n (i := 3) 2 C dX9_digest_18 rfl rfl ?_
    obtain ⟨z1, e1, hf⟩ := bnd hf
    refine x_callV (r := 49) (As := [.int x3]) (rest := [.long (31 * l1)]) C dX9_digest_19 kmX9_295 miX9_count (ctX9_count (lo X) (qo X) N h x3 z1.1 z1.2 e1) rfl rfl ⟨Nat.le_trans (by decide) B.2.2.2.1, Nat.le_trans (by decide) B.2.2.2.2.1⟩ (by simp [cat_i, cat_l, rf_cat]) rfl ?_
    refine x_i2l C dX9_digest_22 ?_
    refine x_ladd C dX9_digest_23 ?_
    refine x_lstore_n (i := 1) (lv' := [(1, .long ((31 * l1) + z1.1.toInt64)), (0, rf (qo X) 49), (3, .int x3)]) C dX9_digest_24 rfl (by decide) rfl ?_
    refine x_iinc (v := x3 + 1) (lv' := [(3, .int (x3 + 1)), (1, .long ((31 * l1) + z1.1.toInt64)), (0, rf (qo X) 49)]) 2 C dX9_digest_25 rfl rfl (by decide) rfl ?_
    refine x_goto (tgt := 6) C dX9_digest_28 (by decide) ?_
    refine x_lv [2, 1, 0] rfl ?_
    exact HK6 z1.2 ((31 * l1) + z1.1.toInt64) (x3 + 1) hf
def fX9_digest_L6 (N : Nat) : Nat → pH → Int64 → Int32 → Option (Int64 × pH)
  | 0 => fun _ _ _ => none
  | n + 1 => fX9_digest_B6 N (fX9_digest_L6 N n)
theorem tX9_digest_L6 {X : Xt} {v : Int64} {h' : pH} (N : Nat) (B : Bd (lo X) (qo X) cX9_digest RX9 5 (some .long) 7 162 (some (.long v)) h' X) : ∀ (n : Nat) (h : pH) (l1 : Int64) (x3 : Int32), fX9_digest_L6 N n h l1 x3 = some (v, h') → Wx X 5 6 [(0, rf (qo X) 49), (1, .long l1), (3, .int x3)] [] h := by
  intro n
  induction n with
  | zero => intro h l1 x3 hf; exact absurd (show (none : Option (Int64 × pH)) = some (v, h') from hf) (fun z => by cases z)
  | succ n ih => intro h l1 x3 hf; exact tX9_digest_B6 N (fX9_digest_L6 N n) ih h l1 x3 B hf
def fX9_digest (N : Nat) (h : pH)  : Option (Int64 × pH) :=
  fX9_digest_L6 N N h 17 0
set_option maxRecDepth 100000 in
set_option maxHeartbeats 4000000 in
theorem tX9_digest {X : Xt} {v : Int64} {h' : pH} (N : Nat) (h : pH)  (B : Bd (lo X) (qo X) cX9_digest RX9 5 (some .long) 7 162 (some (.long v)) h' X) (hf : fX9_digest N h  = some (v, h')) : Wx X 5 0 [(0, rf (qo X) 49)] [] h := by
  have C := B.1
  unfold fX9_digest at hf
  refine x_ldc2 (v := 17) C dX9_digest_0 kkX9_293 ?_
  refine x_lstore_n (i := 1) (lv' := [(1, .long 17), (0, rf (qo X) 49)]) C dX9_digest_3 rfl (by decide) rfl ?_
  refine x_iconst (v := 0) C dX9_digest_4 (by decide) ?_
  refine x_istore_n (i := 3) (lv' := [(3, .int 0), (1, .long 17), (0, rf (qo X) 49)]) C dX9_digest_5 rfl (by decide) rfl ?_
  refine x_lv [2, 1, 0] rfl ?_
  exact tX9_digest_L6 N  B N h 17 0 hf
theorem ctX9_digest (l : Launch) (q : Nat → Nat) (N : Nat) (h : pH)  (v : Int64) (h' : pH) (hf : fX9_digest N h  = some (v, h')) : Ctr l q yX9_digest cX9_digest 5 (some .long) 7 162 [rf q 49] h h' (some (.long v)) := by
  refine ct_of (own := RX9) (lv := [(0, rf q 49)]) (by decide +kernel) rfl (by simp [lg_sl, rf_cat, cat_i, cat_l]) (by first | rfl | simp [lv_args, rf_cat, cat_i, cat_l]) ?_
  intro X B
  obtain rfl := B.2.1
  obtain rfl := B.2.2.1
  exact tX9_digest N h  B hf
