def fX9_looks_b65 (N : Nat) (k14 : pH → Int32 → Int32 → Int32 → Option (Unit × pH)) (h : pH) (x1 : Int32) (x3 : Int32) (xs0 : Int32) : Option (Unit × pH) :=
  (fX9_greater N h xs0 (h.1 49 22)).bind fun z1 => (k14 (pw z1.2 49 22 z1.1) x1 xs0 (x3 + 1))
set_option maxRecDepth 100000 in
set_option maxHeartbeats 4000000 in
theorem tX9_looks_b65 {X : Xt} {v : Unit} {h' : pH} (N : Nat) (k14 : pH → Int32 → Int32 → Int32 → Option (Unit × pH)) (HK14 : ∀ (h : pH) (x1 : Int32) (x2 : Int32) (x3 : Int32), k14 h x1 x2 x3 = some (v, h') → Wx X 5 14 [(0, rf (qo X) 49), (1, .int x1), (2, .int x2), (3, .int x3)] [] h) (h : pH) (x1 : Int32) (x3 : Int32) (xs0 : Int32) (B : Bd (lo X) (qo X) cX9_looks RX9 5 none 1 23 none h' X) (hf : fX9_looks_b65 N k14 h x1 x3 xs0 = some (v, h')) : Wx X 5 65 [(0, rf (qo X) 49), (1, .int x1), (3, .int x3)] [.int xs0] h := by
  have C := B.1
  unfold fX9_looks_b65 at hf
  refine x_istore_n (i := 2) (lv' := [(2, .int xs0), (0, rf (qo X) 49), (1, .int x1), (3, .int x3)]) C dX9_looks_65 rfl (by decide) rfl ?_
  refine x_aload_n (i := 0) 1 C dX9_looks_66 rfl rfl ?_
  refine x_iload_n (i := 2) 0 C dX9_looks_67 rfl rfl ?_
  refine x_aload_n (i := 0) 1 C dX9_looks_68 rfl rfl ?_
  refine x_getI (r := 49) C dX9_looks_69 kfX9_161 rfl ?_
  obtain ⟨z1, e1, hf⟩ := bnd hf
  refine x_callS (As := [.int xs0, .int (h.1 49 22)]) (rest := [rf (qo X) 49]) C dX9_looks_72 kmX9_168 miX9_greater (ctX9_greater (lo X) (qo X) N h xs0 (h.1 49 22) z1.1 z1.2 e1) rfl rfl ⟨Nat.le_trans (by decide) B.2.2.2.1, Nat.le_trans (by decide) B.2.2.2.2.1⟩ (by simp [cat_i, cat_l, rf_cat]) ?_
  refine x_putI (r := 49) C dX9_looks_75 kfX9_161 rfl rfl rfl ?_
  refine x_iinc (v := x3 + 1) (lv' := [(3, .int (x3 + 1)), (2, .int xs0), (0, rf (qo X) 49), (1, .int x1)]) 3 C dX9_looks_78 rfl rfl (by decide) rfl ?_
  refine x_goto (tgt := 14) C dX9_looks_81 (by decide) ?_
  refine x_lv [2, 3, 1, 0] rfl ?_
  exact HK14 (pw z1.2 49 22 z1.1) x1 xs0 (x3 + 1) hf
def fX9_looks_b49 (N : Nat) (k14 : pH → Int32 → Int32 → Int32 → Option (Unit × pH)) (h : pH) (x1 : Int32) (x2 : Int32) (x3 : Int32) (x4 : Int32) (xs0 : Int32) (xs1 : Int32) : Option (Unit × pH) :=
  if x4 = 0 then (fX9_looks_b65 N k14 (pw h 49 21 (xs1 + xs0)) x1 x3 0) else (fX9_looks_b65 N k14 (pw h 49 21 (xs1 + xs0)) x1 x3 (x2 + 1))
set_option maxRecDepth 100000 in
set_option maxHeartbeats 4000000 in
theorem tX9_looks_b49 {X : Xt} {v : Unit} {h' : pH} (N : Nat) (k14 : pH → Int32 → Int32 → Int32 → Option (Unit × pH)) (HK14 : ∀ (h : pH) (x1 : Int32) (x2 : Int32) (x3 : Int32), k14 h x1 x2 x3 = some (v, h') → Wx X 5 14 [(0, rf (qo X) 49), (1, .int x1), (2, .int x2), (3, .int x3)] [] h) (h : pH) (x1 : Int32) (x2 : Int32) (x3 : Int32) (x4 : Int32) (xs0 : Int32) (xs1 : Int32) (B : Bd (lo X) (qo X) cX9_looks RX9 5 none 1 23 none h' X) (hf : fX9_looks_b49 N k14 h x1 x2 x3 x4 xs0 xs1 = some (v, h')) : Wx X 5 49 [(0, rf (qo X) 49), (1, .int x1), (2, .int x2), (3, .int x3), (4, .int x4)] [.int xs0, .int xs1, rf (qo X) 49] h := by
  have C := B.1
  unfold fX9_looks_b49 at hf
  refine x_iadd C dX9_looks_49 ?_
  refine x_putI (r := 49) C dX9_looks_50 kfX9_158 rfl rfl rfl ?_
  refine x_iload 4 C dX9_looks_53 rfl ?_
  refine x_if_eq (tgt := 64) C dX9_looks_55 (by decide) (fun c => ?_) (fun c => ?_)
  · rw [if_pos c] at hf
    refine x_iconst (v := 0) C dX9_looks_64 (by decide) ?_
    refine x_lv [0, 1, 3] rfl ?_
    exact tX9_looks_b65 N k14 HK14 (pw h 49 21 (xs1 + xs0)) x1 x3 0 B hf
  · rw [if_neg c] at hf
    refine x_iload_n (i := 2) 2 C dX9_looks_58 rfl rfl ?_
    refine x_iconst (v := 1) C dX9_looks_59 (by decide) ?_
    refine x_iadd C dX9_looks_60 ?_
    refine x_goto (tgt := 65) C dX9_looks_61 (by decide) ?_
    refine x_lv [0, 1, 3] rfl ?_
    exact tX9_looks_b65 N k14 HK14 (pw h 49 21 (xs1 + xs0)) x1 x3 (x2 + 1) B hf
def fX9_looks_b48 (N : Nat) (k14 : pH → Int32 → Int32 → Int32 → Option (Unit × pH)) (h : pH) (x1 : Int32) (x2 : Int32) (x3 : Int32) (x4 : Int32) (xs0 : Int32) : Option (Unit × pH) :=
  fX9_looks_b49 N k14 h x1 x2 x3 x4 0 xs0
set_option maxRecDepth 100000 in
set_option maxHeartbeats 4000000 in
theorem tX9_looks_b48 {X : Xt} {v : Unit} {h' : pH} (N : Nat) (k14 : pH → Int32 → Int32 → Int32 → Option (Unit × pH)) (HK14 : ∀ (h : pH) (x1 : Int32) (x2 : Int32) (x3 : Int32), k14 h x1 x2 x3 = some (v, h') → Wx X 5 14 [(0, rf (qo X) 49), (1, .int x1), (2, .int x2), (3, .int x3)] [] h) (h : pH) (x1 : Int32) (x2 : Int32) (x3 : Int32) (x4 : Int32) (xs0 : Int32) (B : Bd (lo X) (qo X) cX9_looks RX9 5 none 1 23 none h' X) (hf : fX9_looks_b48 N k14 h x1 x2 x3 x4 xs0 = some (v, h')) : Wx X 5 48 [(0, rf (qo X) 49), (1, .int x1), (2, .int x2), (3, .int x3), (4, .int x4)] [.int xs0, rf (qo X) 49] h := by
  have C := B.1
  unfold fX9_looks_b48 at hf
  refine x_iconst (v := 0) C dX9_looks_48 (by decide) ?_
  exact tX9_looks_b49 N k14 HK14 h x1 x2 x3 x4 0 xs0 B hf
def fX9_looks_B14 (N : Nat) (k14 : pH → Int32 → Int32 → Int32 → Option (Unit × pH)) (h : pH) (x1 : Int32) (x2 : Int32) (x3 : Int32) : Option (Unit × pH) :=
  if (h.1 49 7) ≤ x3 then (some ((), h)) else ((fX9_isHole N h x1 x3).bind fun z1 => (if z1.1 = 0 then (fX9_looks_b48 N k14 z1.2 x1 x2 x3 z1.1 (z1.2.1 49 21)) else (if x2 = 0 then (fX9_looks_b49 N k14 z1.2 x1 x2 x3 z1.1 1 (z1.2.1 49 21)) else (fX9_looks_b48 N k14 z1.2 x1 x2 x3 z1.1 (z1.2.1 49 21)))))
set_option maxRecDepth 100000 in
set_option maxHeartbeats 4000000 in
theorem tX9_looks_B14 {X : Xt} {v : Unit} {h' : pH} (N : Nat) (k14 : pH → Int32 → Int32 → Int32 → Option (Unit × pH)) (HK14 : ∀ (h : pH) (x1 : Int32) (x2 : Int32) (x3 : Int32), k14 h x1 x2 x3 = some (v, h') → Wx X 5 14 [(0, rf (qo X) 49), (1, .int x1), (2, .int x2), (3, .int x3)] [] h) (h : pH) (x1 : Int32) (x2 : Int32) (x3 : Int32) (B : Bd (lo X) (qo X) cX9_looks RX9 5 none 1 23 none h' X) (hf : fX9_looks_B14 N k14 h x1 x2 x3 = some (v, h')) : Wx X 5 14 [(0, rf (qo X) 49), (1, .int x1), (2, .int x2), (3, .int x3)] [] h := by
  have C := B.1
  unfold fX9_looks_B14 at hf
  refine x_iload_n (i := 3) 3 C dX9_looks_14 rfl rfl ?_
  refine x_aload_n (i := 0) 0 C dX9_looks_15 rfl rfl ?_
  refine x_getI (r := 49) C dX9_looks_16 kfX9_103 rfl ?_
  refine x_icmp_ge (tgt := 84) C dX9_looks_19 (by decide) (fun c => ?_) (fun c => ?_)
  · rw [if_pos c] at hf
    obtain ⟨rfl, rfl⟩ := rtn hf
    exact B.2.2.2.2.2.2.2.2.2 rfl rfl _ _ dX9_looks_84
  · rw [if_neg c] at hf
    refine x_aload_n (i := 0) 0 C dX9_looks_22 rfl rfl ?_
    refine x_iload_n (i := 1) 1 C dX9_looks_23 rfl rfl ?_
    refine x_iload_n (i := 3) 3 C dX9_looks_24 rfl rfl ?_
    obtain ⟨z1, e1, hf⟩ := bnd hf
    refine x_callV (r := 49) (As := [.int x1, .int x3]) (rest := []) C dX9_looks_25 kmX9_164 miX9_isHole (ctX9_isHole (lo X) (qo X) N h x1 x3 z1.1 z1.2 e1) rfl rfl ⟨Nat.le_trans (by decide) B.2.2.2.1, Nat.le_trans (by decide) B.2.2.2.2.1⟩ (by simp [cat_i, cat_l, rf_cat]) rfl ?_
    refine x_istore (lv' := [(4, .int z1.1), (0, rf (qo X) 49), (1, .int x1), (2, .int x2), (3, .int x3)]) C dX9_looks_28 (by decide) rfl ?_
    refine x_aload_n (i := 0) 1 C dX9_looks_30 rfl rfl ?_
    refine x_dupA C dX9_looks_31 ?_
    refine x_getI (r := 49) C dX9_looks_32 kfX9_158 rfl ?_
    refine x_iload 0 C dX9_looks_35 rfl ?_
    refine x_if_eq (tgt := 48) C dX9_looks_37 (by decide) (fun c => ?_) (fun c => ?_)
    · rw [if_pos c] at hf
      refine x_lv [1, 2, 3, 4, 0] rfl ?_
      exact tX9_looks_b48 N k14 HK14 z1.2 x1 x2 x3 z1.1 (z1.2.1 49 21) B hf
    · rw [if_neg c] at hf
      refine x_iload_n (i := 2) 3 C dX9_looks_40 rfl rfl ?_
      refine x_if_ne (tgt := 48) C dX9_looks_41 (by decide) (fun c => ?_) (fun c => ?_)
      · rw [if_neg c] at hf
        refine x_lv [1, 2, 3, 4, 0] rfl ?_
        exact tX9_looks_b48 N k14 HK14 z1.2 x1 x2 x3 z1.1 (z1.2.1 49 21) B hf
      · rw [if_pos c] at hf
        refine x_iconst (v := 1) C dX9_looks_44 (by decide) ?_
        refine x_goto (tgt := 49) C dX9_looks_45 (by decide) ?_
        refine x_lv [1, 2, 3, 4, 0] rfl ?_
        exact tX9_looks_b49 N k14 HK14 z1.2 x1 x2 x3 z1.1 1 (z1.2.1 49 21) B hf
def fX9_looks_L14 (N : Nat) : Nat → pH → Int32 → Int32 → Int32 → Option (Unit × pH)
  | 0 => fun _ _ _ _ => none
  | n + 1 => fX9_looks_B14 N (fX9_looks_L14 N n)
theorem tX9_looks_L14 {X : Xt} {v : Unit} {h' : pH} (N : Nat) (B : Bd (lo X) (qo X) cX9_looks RX9 5 none 1 23 none h' X) : ∀ (n : Nat) (h : pH) (x1 : Int32) (x2 : Int32) (x3 : Int32), fX9_looks_L14 N n h x1 x2 x3 = some (v, h') → Wx X 5 14 [(0, rf (qo X) 49), (1, .int x1), (2, .int x2), (3, .int x3)] [] h := by
  intro n
  induction n with
  | zero => intro h x1 x2 x3 hf; exact absurd (show (none : Option (Unit × pH)) = some (v, h') from hf) (fun z => by cases z)
  | succ n ih => intro h x1 x2 x3 hf; exact tX9_looks_B14 N (fX9_looks_L14 N n) ih h x1 x2 x3 B hf
def fX9_looks (N : Nat) (h : pH) (x1 : Int32) : Option (Unit × pH) :=
  fX9_looks_L14 N N (pw (pw h 49 21 0) 49 22 0) x1 0 0
set_option maxRecDepth 100000 in
set_option maxHeartbeats 4000000 in
theorem tX9_looks {X : Xt} {v : Unit} {h' : pH} (N : Nat) (h : pH) (x1 : Int32) (B : Bd (lo X) (qo X) cX9_looks RX9 5 none 1 23 none h' X) (hf : fX9_looks N h x1 = some (v, h')) : Wx X 5 0 [(0, rf (qo X) 49), (1, .int x1)] [] h := by
  have C := B.1
  unfold fX9_looks at hf
  refine x_aload_n (i := 0) 0 C dX9_looks_0 rfl rfl ?_
  refine x_iconst (v := 0) C dX9_looks_1 (by decide) ?_
  refine x_putI (r := 49) C dX9_looks_2 kfX9_158 rfl rfl rfl ?_
  refine x_aload_n (i := 0) 0 C dX9_looks_5 rfl rfl ?_
  refine x_iconst (v := 0) C dX9_looks_6 (by decide) ?_
  refine x_putI (r := 49) C dX9_looks_7 kfX9_161 rfl rfl rfl ?_
  refine x_iconst (v := 0) C dX9_looks_10 (by decide) ?_
  refine x_istore_n (i := 2) (lv' := [(2, .int 0), (0, rf (qo X) 49), (1, .int x1)]) C dX9_looks_11 rfl (by decide) rfl ?_
  refine x_iconst (v := 0) C dX9_looks_12 (by decide) ?_
  refine x_istore_n (i := 3) (lv' := [(3, .int 0), (2, .int 0), (0, rf (qo X) 49), (1, .int x1)]) C dX9_looks_13 rfl (by decide) rfl ?_
  refine x_lv [2, 3, 1, 0] rfl ?_
  exact tX9_looks_L14 N  B N (pw (pw h 49 21 0) 49 22 0) x1 0 0 hf
theorem ctX9_looks (l : Launch) (q : Nat → Nat) (N : Nat) (h : pH) (x1 : Int32) (v : Unit) (h' : pH) (hf : fX9_looks N h x1 = some (v, h')) : Ctr l q yX9_looks cX9_looks 5 none 1 23 [rf q 49, .int x1] h h' none := by
  refine ct_of (own := RX9) (lv := [(0, rf q 49), (1, .int x1)]) (by decide +kernel) rfl (by simp [lg_sl, rf_cat, cat_i, cat_l]) (by first | rfl | simp [lv_args, rf_cat, cat_i, cat_l]) ?_
  intro X B
  obtain rfl := B.2.1
  obtain rfl := B.2.2.1
  exact tX9_looks N h x1 B hf
def fX9_moves_b66 (N : Nat) (h : pH) (xs0 : Int32) (xs1 : Int32) : Option (Int32 × pH) :=
  if ¬ (h.1 49 7) = 0 then (some (((xs1 + xs0) + (h.1 49 7)) - ((xs1 + xs0) + (h.1 49 7)) / (h.1 49 7) * (h.1 49 7), h)) else none
set_option maxRecDepth 100000 in
set_option maxHeartbeats 4000000 in
theorem tX9_moves_b66 {X : Xt} {v : Int32} {h' : pH} (N : Nat) (h : pH) (xs0 : Int32) (xs1 : Int32) (B : Bd (lo X) (qo X) cX9_moves RX9 3 (some .int) 0 0 (some (.int v)) h' X) (hf : fX9_moves_b66 N h xs0 xs1 = some (v, h')) : Wx X 3 66 [(0, rf (qo X) 49)] [.int xs0, .int xs1] h := by
  have C := B.1
  unfold fX9_moves_b66 at hf
  refine x_iadd C dX9_moves_66 ?_
  refine x_aload_n (i := 0) 0 C dX9_moves_67 rfl rfl ?_
  refine x_getI (r := 49) C dX9_moves_68 kfX9_103 rfl ?_
  refine x_iadd C dX9_moves_71 ?_
  refine x_aload_n (i := 0) 0 C dX9_moves_72 rfl rfl ?_
  refine x_getI (r := 49) C dX9_moves_73 kfX9_103 rfl ?_
  obtain ⟨g1, hf⟩ := ife hf
  refine x_irem C dX9_moves_76 g1 ?_
  obtain ⟨rfl, rfl⟩ := rtn hf
  exact B.2.2.2.2.2.1 _ _ rfl rfl rfl _ _ dX9_moves_77
def fX9_moves (N : Nat) (h : pH) (x1 : Int32) : Option (Int32 × pH) :=
  if ix (4 * x1) 32 = true then (if (h.1 57 (4 * x1).toNatClampNeg) = 4 then (some (((h.1 49 7) - 1) - (h.1 49 19), h)) else (if ix (4 * x1) 32 = true then (if ix (h.1 57 (4 * x1).toNatClampNeg) 4 = true then (if ¬ (h.1 49 7) = 0 then (if ix ((4 * x1) + 2) 32 = true then (if (h.1 57 ((4 * x1) + 2).toNatClampNeg) = 0 then (fX9_moves_b66 N h ((h.1 60 (h.1 57 (4 * x1).toNatClampNeg).toNatClampNeg) - (h.1 60 (h.1 57 (4 * x1).toNatClampNeg).toNatClampNeg) / (h.1 49 7) * (h.1 49 7)) (h.1 49 19)) else (fX9_moves_b66 N h (-((h.1 60 (h.1 57 (4 * x1).toNatClampNeg).toNatClampNeg) - (h.1 60 (h.1 57 (4 * x1).toNatClampNeg).toNatClampNeg) / (h.1 49 7) * (h.1 49 7))) (h.1 49 19))) else none) else none) else none) else none)) else none
set_option maxRecDepth 100000 in
set_option maxHeartbeats 4000000 in
theorem tX9_moves {X : Xt} {v : Int32} {h' : pH} (N : Nat) (h : pH) (x1 : Int32) (B : Bd (lo X) (qo X) cX9_moves RX9 3 (some .int) 0 0 (some (.int v)) h' X) (hf : fX9_moves N h x1 = some (v, h')) : Wx X 3 0 [(0, rf (qo X) 49), (1, .int x1)] [] h := by
  have C := B.1
  unfold fX9_moves at hf
  refine x_aload_n (i := 0) 0 C dX9_moves_0 rfl rfl ?_
  refine x_getR (r := 49) (r2 := 57) C dX9_moves_1 kfX9_31 rfl rfl (by decide) ?_
  refine x_iconst (v := 4) C dX9_moves_4 (by decide) ?_
  refine x_iload_n (i := 1) 1 C dX9_moves_5 rfl rfl ?_
  refine x_imul C dX9_moves_6 ?_
  obtain ⟨g1, hf⟩ := ife hf
  refine x_iald (r := 57) C dX9_moves_7 rfl g1 ?_
  refine x_iconst (v := 4) C dX9_moves_8 (by decide) ?_
  refine x_icmp_ne (tgt := 24) C dX9_moves_9 (by decide) (fun c => ?_) (fun c => ?_)
  · rw [if_neg c] at hf
    refine x_aload_n (i := 0) 0 C dX9_moves_24 rfl rfl ?_
    refine x_getR (r := 49) (r2 := 60) C dX9_moves_25 kfX9_40 rfl rfl (by decide) ?_
    refine x_aload_n (i := 0) 0 C dX9_moves_28 rfl rfl ?_
    refine x_getR (r := 49) (r2 := 57) C dX9_moves_29 kfX9_31 rfl rfl (by decide) ?_
    refine x_iconst (v := 4) C dX9_moves_32 (by decide) ?_
    refine x_iload_n (i := 1) 1 C dX9_moves_33 rfl rfl ?_
    refine x_imul C dX9_moves_34 ?_
    obtain ⟨g2, hf⟩ := ife hf
    refine x_iald (r := 57) C dX9_moves_35 rfl g2 ?_
    obtain ⟨g3, hf⟩ := ife hf
    refine x_iald (r := 60) C dX9_moves_36 rfl g3 ?_
    refine x_aload_n (i := 0) 0 C dX9_moves_37 rfl rfl ?_
    refine x_getI (r := 49) C dX9_moves_38 kfX9_103 rfl ?_
    obtain ⟨g4, hf⟩ := ife hf
    refine x_irem C dX9_moves_41 g4 ?_
    refine x_istore_n (i := 2) (lv' := [(2, .int ((h.1 60 (h.1 57 (4 * x1).toNatClampNeg).toNatClampNeg) - (h.1 60 (h.1 57 (4 * x1).toNatClampNeg).toNatClampNeg) / (h.1 49 7) * (h.1 49 7))), (0, rf (qo X) 49), (1, .int x1)]) C dX9_moves_42 rfl (by decide) rfl ?_
    refine x_aload_n (i := 0) 1 C dX9_moves_43 rfl rfl ?_
    refine x_getI (r := 49) C dX9_moves_44 kfX9_155 rfl ?_
    refine x_aload_n (i := 0) 1 C dX9_moves_47 rfl rfl ?_
    refine x_getR (r := 49) (r2 := 57) C dX9_moves_48 kfX9_31 rfl rfl (by decide) ?_
    refine x_iconst (v := 4) C dX9_moves_51 (by decide) ?_
    refine x_iload_n (i := 1) 2 C dX9_moves_52 rfl rfl ?_
    refine x_imul C dX9_moves_53 ?_
    refine x_iconst (v := 2) C dX9_moves_54 (by decide) ?_
    refine x_iadd C dX9_moves_55 ?_
    obtain ⟨g5, hf⟩ := ife hf
    refine x_iald (r := 57) C dX9_moves_56 rfl g5 ?_
    refine x_if_ne (tgt := 64) C dX9_moves_57 (by decide) (fun c => ?_) (fun c => ?_)
    · rw [if_neg c] at hf
      refine x_iload_n (i := 2) 0 C dX9_moves_64 rfl rfl ?_
      refine x_ineg C dX9_moves_65 ?_
      refine x_lv [1] rfl ?_
      exact tX9_moves_b66 N h (-((h.1 60 (h.1 57 (4 * x1).toNatClampNeg).toNatClampNeg) - (h.1 60 (h.1 57 (4 * x1).toNatClampNeg).toNatClampNeg) / (h.1 49 7) * (h.1 49 7))) (h.1 49 19) B hf
    · rw [if_pos c] at hf
      refine x_iload_n (i := 2) 0 C dX9_moves_60 rfl rfl ?_
      refine x_goto (tgt := 66) C dX9_moves_61 (by decide) ?_
      refine x_lv [1] rfl ?_
      exact tX9_moves_b66 N h ((h.1 60 (h.1 57 (4 * x1).toNatClampNeg).toNatClampNeg) - (h.1 60 (h.1 57 (4 * x1).toNatClampNeg).toNatClampNeg) / (h.1 49 7) * (h.1 49 7)) (h.1 49 19) B hf
  · rw [if_pos c] at hf
    refine x_aload_n (i := 0) 0 C dX9_moves_12 rfl rfl ?_
    refine x_getI (r := 49) C dX9_moves_13 kfX9_103 rfl ?_
    refine x_iconst (v := 1) C dX9_moves_16 (by decide) ?_
    refine x_isub C dX9_moves_17 ?_
    refine x_aload_n (i := 0) 0 C dX9_moves_18 rfl rfl ?_
    refine x_getI (r := 49) C dX9_moves_19 kfX9_155 rfl ?_
    refine x_isub C dX9_moves_22 ?_
    obtain ⟨rfl, rfl⟩ := rtn hf
    exact B.2.2.2.2.2.1 _ _ rfl rfl rfl _ _ dX9_moves_23
theorem ctX9_moves (l : Launch) (q : Nat → Nat) (N : Nat) (h : pH) (x1 : Int32) (v : Int32) (h' : pH) (hf : fX9_moves N h x1 = some (v, h')) : Ctr l q yX9_moves cX9_moves 3 (some .int) 0 0 [rf q 49, .int x1] h h' (some (.int v)) := by
  refine ct_of (own := RX9) (lv := [(0, rf q 49), (1, .int x1)]) (by decide +kernel) rfl (by simp [lg_sl, rf_cat, cat_i, cat_l]) (by first | rfl | simp [lv_args, rf_cat, cat_i, cat_l]) ?_
  intro X B
  obtain rfl := B.2.1
  obtain rfl := B.2.2.1
  exact tX9_moves N h x1 B hf
def fX9_tries_b35 (N : Nat) (h : pH)  : Option (Int32 × pH) :=
  some (0, h)
set_option maxRecDepth 100000 in
set_option maxHeartbeats 4000000 in
theorem tX9_tries_b35 {X : Xt} {v : Int32} {h' : pH} (N : Nat) (h : pH)  (B : Bd (lo X) (qo X) cX9_tries RX9 2 (some .int) 2 47 (some (.int v)) h' X) (hf : fX9_tries_b35 N h  = some (v, h')) : Wx X 2 35 [] [] h := by
  have C := B.1
  unfold fX9_tries_b35 at hf
  refine x_iconst (v := 0) C dX9_tries_35 (by decide) ?_
  obtain ⟨rfl, rfl⟩ := rtn hf
  exact B.2.2.2.2.2.1 _ _ rfl rfl rfl _ _ dX9_tries_36
def fX9_tries (N : Nat) (h : pH) (x1 : Int32) : Option (Int32 × pH) :=
  if ix (0 : Int32) 2 = true then (if ((pw (pw h 49 21 0) 49 22 0).1 59 (0 : Int32).toNatClampNeg) < 2 then (fX9_tries_b35 N (pw (pw h 49 21 0) 49 22 0)) else (if ((pw (pw h 49 21 0) 49 22 0).1 49 7) = 0 then (fX9_tries_b35 N (pw (pw h 49 21 0) 49 22 0)) else ((fX9_isCrosser N (pw (pw h 49 21 0) 49 22 0) x1).bind fun z1 => (if z1.1 = 0 then (fX9_tries_b35 N z1.2) else ((fX9_looks N z1.2 x1).bind fun z2 => (if ix ((4 * x1) + 3) 32 = true then (if (z2.2.1 49 22) ≤ (z2.2.1 57 ((4 * x1) + 3).toNatClampNeg) then ((fX9_moves N z2.2 x1).bind fun z3 => (some (1, (pw z3.2 49 19 z3.1)))) else (some (2, z2.2))) else none)))))) else none
set_option maxRecDepth 100000 in
set_option maxHeartbeats 4000000 in
theorem tX9_tries {X : Xt} {v : Int32} {h' : pH} (N : Nat) (h : pH) (x1 : Int32) (B : Bd (lo X) (qo X) cX9_tries RX9 2 (some .int) 2 47 (some (.int v)) h' X) (hf : fX9_tries N h x1 = some (v, h')) : Wx X 2 0 [(0, rf (qo X) 49), (1, .int x1)] [] h := by
  have C := B.1
  unfold fX9_tries at hf
  refine x_aload_n (i := 0) 0 C dX9_tries_0 rfl rfl ?_
  refine x_iconst (v := 0) C dX9_tries_1 (by decide) ?_
  refine x_putI (r := 49) C dX9_tries_2 kfX9_158 rfl rfl rfl ?_
  refine x_aload_n (i := 0) 0 C dX9_tries_5 rfl rfl ?_
  refine x_iconst (v := 0) C dX9_tries_6 (by decide) ?_
  refine x_putI (r := 49) C dX9_tries_7 kfX9_161 rfl rfl rfl ?_
  refine x_aload_n (i := 0) 0 C dX9_tries_10 rfl rfl ?_
  refine x_getR (r := 49) (r2 := 59) C dX9_tries_11 kfX9_37 rfl rfl (by decide) ?_
  refine x_iconst (v := 0) C dX9_tries_14 (by decide) ?_
  obtain ⟨g1, hf⟩ := ife hf
  refine x_iald (r := 59) C dX9_tries_15 rfl g1 ?_
  refine x_iconst (v := 2) C dX9_tries_16 (by decide) ?_
  refine x_icmp_lt (tgt := 35) C dX9_tries_17 (by decide) (fun c => ?_) (fun c => ?_)
  · rw [if_pos c] at hf
    refine x_lv [] rfl ?_
    exact tX9_tries_b35 N (pw (pw h 49 21 0) 49 22 0) B hf
  · rw [if_neg c] at hf
    refine x_aload_n (i := 0) 0 C dX9_tries_20 rfl rfl ?_
    refine x_getI (r := 49) C dX9_tries_21 kfX9_103 rfl ?_
    refine x_if_eq (tgt := 35) C dX9_tries_24 (by decide) (fun c => ?_) (fun c => ?_)
    · rw [if_pos c] at hf
      refine x_lv [] rfl ?_
      exact tX9_tries_b35 N (pw (pw h 49 21 0) 49 22 0) B hf
    · rw [if_neg c] at hf
      refine x_aload_n (i := 0) 0 C dX9_tries_27 rfl rfl ?_
      refine x_iload_n (i := 1) 1 C dX9_tries_28 rfl rfl ?_
      obtain ⟨z1, e1, hf⟩ := bnd hf
      refine x_callV (r := 49) (As := [.int x1]) (rest := []) C dX9_tries_29 kmX9_143 miX9_isCrosser (ctX9_isCrosser (lo X) (qo X) N (pw (pw h 49 21 0) 49 22 0) x1 z1.1 z1.2 e1) rfl rfl ⟨Nat.le_trans (by decide) B.2.2.2.1, Nat.le_trans (by decide) B.2.2.2.2.1⟩ (by simp [cat_i, cat_l, rf_cat]) rfl ?_
      refine x_if_ne (tgt := 37) C dX9_tries_32 (by decide) (fun c => ?_) (fun c => ?_)
      · rw [if_neg c] at hf
        refine x_aload_n (i := 0) 0 C dX9_tries_37 rfl rfl ?_
        refine x_iload_n (i := 1) 1 C dX9_tries_38 rfl rfl ?_
        obtain ⟨z2, e2, hf⟩ := bnd hf
        refine x_callV (r := 49) (As := [.int x1]) (rest := []) C dX9_tries_39 kmX9_171 miX9_looks (ctX9_looks (lo X) (qo X) N z1.2 x1 z2.1 z2.2 e2) rfl rfl ⟨Nat.le_trans (by decide) B.2.2.2.1, Nat.le_trans (by decide) B.2.2.2.2.1⟩ (by simp [cat_i, cat_l, rf_cat]) rfl ?_
        refine x_aload_n (i := 0) 0 C dX9_tries_42 rfl rfl ?_
        refine x_getI (r := 49) C dX9_tries_43 kfX9_161 rfl ?_
        refine x_aload_n (i := 0) 0 C dX9_tries_46 rfl rfl ?_
        refine x_getR (r := 49) (r2 := 57) C dX9_tries_47 kfX9_31 rfl rfl (by decide) ?_
        refine x_iconst (v := 4) C dX9_tries_50 (by decide) ?_
        refine x_iload_n (i := 1) 1 C dX9_tries_51 rfl rfl ?_
        refine x_imul C dX9_tries_52 ?_
        refine x_iconst (v := 3) C dX9_tries_53 (by decide) ?_
        refine x_iadd C dX9_tries_54 ?_
        obtain ⟨g2, hf⟩ := ife hf
        refine x_iald (r := 57) C dX9_tries_55 rfl g2 ?_
        refine x_icmp_le (tgt := 61) C dX9_tries_56 (by decide) (fun c => ?_) (fun c => ?_)
        · rw [if_pos c] at hf
          refine x_aload_n (i := 0) 0 C dX9_tries_61 rfl rfl ?_
          refine x_aload_n (i := 0) 0 C dX9_tries_62 rfl rfl ?_
          refine x_iload_n (i := 1) 1 C dX9_tries_63 rfl rfl ?_
          obtain ⟨z3, e3, hf⟩ := bnd hf
          refine x_callV (r := 49) (As := [.int x1]) (rest := [rf (qo X) 49]) C dX9_tries_64 kmX9_175 miX9_moves (ctX9_moves (lo X) (qo X) N z2.2 x1 z3.1 z3.2 e3) rfl rfl ⟨Nat.le_trans (by decide) B.2.2.2.1, Nat.le_trans (by decide) B.2.2.2.2.1⟩ (by simp [cat_i, cat_l, rf_cat]) rfl ?_
          refine x_putI (r := 49) C dX9_tries_67 kfX9_155 rfl rfl rfl ?_
          refine x_iconst (v := 1) C dX9_tries_70 (by decide) ?_
          obtain ⟨rfl, rfl⟩ := rtn hf
          exact B.2.2.2.2.2.1 _ _ rfl rfl rfl _ _ dX9_tries_71
        · rw [if_neg c] at hf
          refine x_iconst (v := 2) C dX9_tries_59 (by decide) ?_
          obtain ⟨rfl, rfl⟩ := rtn hf
          exact B.2.2.2.2.2.1 _ _ rfl rfl rfl _ _ dX9_tries_60
      · rw [if_pos c] at hf
        refine x_lv [] rfl ?_
        exact tX9_tries_b35 N z1.2 B hf
theorem ctX9_tries (l : Launch) (q : Nat → Nat) (N : Nat) (h : pH) (x1 : Int32) (v : Int32) (h' : pH) (hf : fX9_tries N h x1 = some (v, h')) : Ctr l q yX9_tries cX9_tries 2 (some .int) 2 47 [rf q 49, .int x1] h h' (some (.int v)) := by
  refine ct_of (own := RX9) (lv := [(0, rf q 49), (1, .int x1)]) (by decide +kernel) rfl (by simp [lg_sl, rf_cat, cat_i, cat_l]) (by first | rfl | simp [lv_args, rf_cat, cat_i, cat_l]) ?_
  intro X B
  obtain rfl := B.2.1
  obtain rfl := B.2.2.1
  exact tX9_tries N h x1 B hf
def fX9_tollOf_b25 (N : Nat) (h : pH) (xs0 : Int32) : Option (Int32 × pH) :=
  some (xs0, h)
set_option maxRecDepth 100000 in
set_option maxHeartbeats 4000000 in
theorem tX9_tollOf_b25 {X : Xt} {v : Int32} {h' : pH} (N : Nat) (h : pH) (xs0 : Int32) (B : Bd (lo X) (qo X) cX9_tollOf RX9 3 (some .int) 0 0 (some (.int v)) h' X) (hf : fX9_tollOf_b25 N h xs0 = some (v, h')) : Wx X 3 25 [] [.int xs0] h := by
  have C := B.1
  unfold fX9_tollOf_b25 at hf
  obtain ⟨rfl, rfl⟩ := rtn hf
  exact B.2.2.2.2.2.1 _ _ rfl rfl rfl _ _ dX9_tollOf_25
def fX9_tollOf_b24 (N : Nat) (h : pH)  : Option (Int32 × pH) :=
  fX9_tollOf_b25 N h 0
set_option maxRecDepth 100000 in
set_option maxHeartbeats 4000000 in
theorem tX9_tollOf_b24 {X : Xt} {v : Int32} {h' : pH} (N : Nat) (h : pH)  (B : Bd (lo X) (qo X) cX9_tollOf RX9 3 (some .int) 0 0 (some (.int v)) h' X) (hf : fX9_tollOf_b24 N h  = some (v, h')) : Wx X 3 24 [] [] h := by
  have C := B.1
  unfold fX9_tollOf_b24 at hf
  refine x_iconst (v := 0) C dX9_tollOf_24 (by decide) ?_
  exact tX9_tollOf_b25 N h 0 B hf
def fX9_tollOf (N : Nat) (h : pH) (x1 : Int32) (x2 : Int32) : Option (Int32 × pH) :=
  if x2 = 1 then (if ix (4 * x1) 32 = true then (if (h.1 57 (4 * x1).toNatClampNeg) = 4 then (fX9_tollOf_b24 N h) else (fX9_tollOf_b25 N h (h.1 49 21))) else none) else (fX9_tollOf_b24 N h)
set_option maxRecDepth 100000 in
set_option maxHeartbeats 4000000 in
theorem tX9_tollOf {X : Xt} {v : Int32} {h' : pH} (N : Nat) (h : pH) (x1 : Int32) (x2 : Int32) (B : Bd (lo X) (qo X) cX9_tollOf RX9 3 (some .int) 0 0 (some (.int v)) h' X) (hf : fX9_tollOf N h x1 x2 = some (v, h')) : Wx X 3 0 [(0, rf (qo X) 49), (1, .int x1), (2, .int x2)] [] h := by
  have C := B.1
  unfold fX9_tollOf at hf
  refine x_iload_n (i := 2) 2 C dX9_tollOf_0 rfl rfl ?_
  refine x_iconst (v := 1) C dX9_tollOf_1 (by decide) ?_
  refine x_icmp_ne (tgt := 24) C dX9_tollOf_2 (by decide) (fun c => ?_) (fun c => ?_)
  · rw [if_neg c] at hf
    refine x_lv [] rfl ?_
    exact tX9_tollOf_b24 N h B hf
  · rw [if_pos c] at hf
    refine x_aload_n (i := 0) 0 C dX9_tollOf_5 rfl rfl ?_
    refine x_getR (r := 49) (r2 := 57) C dX9_tollOf_6 kfX9_31 rfl rfl (by decide) ?_
    refine x_iconst (v := 4) C dX9_tollOf_9 (by decide) ?_
    refine x_iload_n (i := 1) 1 C dX9_tollOf_10 rfl rfl ?_
    refine x_imul C dX9_tollOf_11 ?_
    obtain ⟨g1, hf⟩ := ife hf
    refine x_iald (r := 57) C dX9_tollOf_12 rfl g1 ?_
    refine x_iconst (v := 4) C dX9_tollOf_13 (by decide) ?_
    refine x_icmp_eq (tgt := 24) C dX9_tollOf_14 (by decide) (fun c => ?_) (fun c => ?_)
    · rw [if_pos c] at hf
      refine x_lv [] rfl ?_
      exact tX9_tollOf_b24 N h B hf
    · rw [if_neg c] at hf
      refine x_aload_n (i := 0) 0 C dX9_tollOf_17 rfl rfl ?_
      refine x_getI (r := 49) C dX9_tollOf_18 kfX9_158 rfl ?_
      refine x_goto (tgt := 25) C dX9_tollOf_21 (by decide) ?_
      refine x_lv [] rfl ?_
      exact tX9_tollOf_b25 N h (h.1 49 21) B hf
theorem ctX9_tollOf (l : Launch) (q : Nat → Nat) (N : Nat) (h : pH) (x1 : Int32) (x2 : Int32) (v : Int32) (h' : pH) (hf : fX9_tollOf N h x1 x2 = some (v, h')) : Ctr l q yX9_tollOf cX9_tollOf 3 (some .int) 0 0 [rf q 49, .int x1, .int x2] h h' (some (.int v)) := by
  refine ct_of (own := RX9) (lv := [(0, rf q 49), (1, .int x1), (2, .int x2)]) (by decide +kernel) rfl (by simp [lg_sl, rf_cat, cat_i, cat_l]) (by first | rfl | simp [lv_args, rf_cat, cat_i, cat_l]) ?_
  intro X B
  obtain rfl := B.2.1
  obtain rfl := B.2.2.1
  exact tX9_tollOf N h x1 x2 B hf
def fX9_begins_b23 (N : Nat) (h : pH) (xs0 : Int32) : Option (Unit × pH) :=
  some ((), (pw h 49 19 xs0))
set_option maxRecDepth 100000 in
set_option maxHeartbeats 4000000 in
theorem tX9_begins_b23 {X : Xt} {v : Unit} {h' : pH} (N : Nat) (h : pH) (xs0 : Int32) (B : Bd (lo X) (qo X) cX9_begins RX9 1 none 0 0 none h' X) (hf : fX9_begins_b23 N h xs0 = some (v, h')) : Wx X 1 23 [] [.int xs0, rf (qo X) 49] h := by
  have C := B.1
  unfold fX9_begins_b23 at hf
  refine x_putI (r := 49) C dX9_begins_23 kfX9_155 rfl rfl rfl ?_
  obtain ⟨rfl, rfl⟩ := rtn hf
  exact B.2.2.2.2.2.2.2.2.2 rfl rfl _ _ dX9_begins_26
def fX9_begins (N : Nat) (h : pH)  : Option (Unit × pH) :=
  if (h.1 49 7) = 0 then (fX9_begins_b23 N h (-1)) else (if ix (1 : Int32) 2 = true then (if ¬ (h.1 49 7) = 0 then (fX9_begins_b23 N h ((h.1 59 (1 : Int32).toNatClampNeg) - (h.1 59 (1 : Int32).toNatClampNeg) / (h.1 49 7) * (h.1 49 7))) else none) else none)
set_option maxRecDepth 100000 in
set_option maxHeartbeats 4000000 in
theorem tX9_begins {X : Xt} {v : Unit} {h' : pH} (N : Nat) (h : pH)  (B : Bd (lo X) (qo X) cX9_begins RX9 1 none 0 0 none h' X) (hf : fX9_begins N h  = some (v, h')) : Wx X 1 0 [(0, rf (qo X) 49)] [] h := by
  have C := B.1
  unfold fX9_begins at hf
  refine x_aload_n (i := 0) 0 C dX9_begins_0 rfl rfl ?_
  refine x_aload_n (i := 0) 0 C dX9_begins_1 rfl rfl ?_
  refine x_getI (r := 49) C dX9_begins_2 kfX9_103 rfl ?_
  refine x_if_ne (tgt := 12) C dX9_begins_5 (by decide) (fun c => ?_) (fun c => ?_)
  · rw [if_neg c] at hf
    refine x_aload_n (i := 0) 0 C dX9_begins_12 rfl rfl ?_
    refine x_getR (r := 49) (r2 := 59) C dX9_begins_13 kfX9_37 rfl rfl (by decide) ?_
    refine x_iconst (v := 1) C dX9_begins_16 (by decide) ?_
    obtain ⟨g1, hf⟩ := ife hf
    refine x_iald (r := 59) C dX9_begins_17 rfl g1 ?_
    refine x_aload_n (i := 0) 0 C dX9_begins_18 rfl rfl ?_
    refine x_getI (r := 49) C dX9_begins_19 kfX9_103 rfl ?_
    obtain ⟨g2, hf⟩ := ife hf
    refine x_irem C dX9_begins_22 g2 ?_
    refine x_lv [] rfl ?_
    exact tX9_begins_b23 N h ((h.1 59 (1 : Int32).toNatClampNeg) - (h.1 59 (1 : Int32).toNatClampNeg) / (h.1 49 7) * (h.1 49 7)) B hf
  · rw [if_pos c] at hf
    refine x_iconst (v := (-1)) C dX9_begins_8 (by decide) ?_
    refine x_goto (tgt := 23) C dX9_begins_9 (by decide) ?_
    refine x_lv [] rfl ?_
    exact tX9_begins_b23 N h (-1) B hf
theorem ctX9_begins (l : Launch) (q : Nat → Nat) (N : Nat) (h : pH)  (v : Unit) (h' : pH) (hf : fX9_begins N h  = some (v, h')) : Ctr l q yX9_begins cX9_begins 1 none 0 0 [rf q 49] h h' none := by
  refine ct_of (own := RX9) (lv := [(0, rf q 49)]) (by decide +kernel) rfl (by simp [lg_sl, rf_cat, cat_i, cat_l]) (by first | rfl | simp [lv_args, rf_cat, cat_i, cat_l]) ?_
  intro X B
  obtain rfl := B.2.1
  obtain rfl := B.2.2.1
  exact tX9_begins N h  B hf
def fX9_lives_b112 (N : Nat) (k16 : pH → Int32 → Option (Unit × pH)) (h : pH) (x1 : Int32) (xs0 : Int32) (xs1 : Int32) : Option (Unit × pH) :=
  if ix xs1 24 = true then (if ix (x1 + 1) 25 = true then (k16 (pw (pw h 64 xs1.toNatClampNeg xs0) 61 (x1 + 1).toNatClampNeg ((pw h 64 xs1.toNatClampNeg xs0).1 49 19)) (x1 + 1)) else none) else none
set_option maxRecDepth 100000 in
set_option maxHeartbeats 4000000 in
theorem tX9_lives_b112 {X : Xt} {v : Unit} {h' : pH} (N : Nat) (k16 : pH → Int32 → Option (Unit × pH)) (HK16 : ∀ (h : pH) (x1 : Int32), k16 h x1 = some (v, h') → Wx X 3 16 [(0, rf (qo X) 49), (1, .int x1)] [] h) (h : pH) (x1 : Int32) (xs0 : Int32) (xs1 : Int32) (B : Bd (lo X) (qo X) cX9_lives RX9 3 none 3 68 none h' X) (hf : fX9_lives_b112 N k16 h x1 xs0 xs1 = some (v, h')) : Wx X 3 112 [(0, rf (qo X) 49), (1, .int x1)] [.int xs0, .int xs1, rf (qo X) 64] h := by
  have C := B.1
  unfold fX9_lives_b112 at hf
  obtain ⟨g1, hf⟩ := ife hf
  refine x_iast (r := 64) C dX9_lives_112 rfl g1 ?_
  refine x_aload_n (i := 0) 0 C dX9_lives_113 rfl rfl ?_
  refine x_getR (r := 49) (r2 := 61) C dX9_lives_114 kfX9_43 rfl rfl (by decide) ?_
  refine x_iload_n (i := 1) 1 C dX9_lives_117 rfl rfl ?_
  refine x_iconst (v := 1) C dX9_lives_118 (by decide) ?_
  refine x_iadd C dX9_lives_119 ?_
  refine x_aload_n (i := 0) 0 C dX9_lives_120 rfl rfl ?_
  refine x_getI (r := 49) C dX9_lives_121 kfX9_155 rfl ?_
  obtain ⟨g2, hf⟩ := ife hf
  refine x_iast (r := 61) C dX9_lives_124 rfl g2 ?_
  refine x_iinc (v := x1 + 1) (lv' := [(1, .int (x1 + 1)), (0, rf (qo X) 49)]) 1 C dX9_lives_125 rfl rfl (by decide) rfl ?_
  refine x_goto (tgt := 16) C dX9_lives_128 (by decide) ?_
  refine x_lv [1, 0] rfl ?_
  exact HK16 (pw (pw h 64 xs1.toNatClampNeg xs0) 61 (x1 + 1).toNatClampNeg ((pw h 64 xs1.toNatClampNeg xs0).1 49 19)) (x1 + 1) hf
def fX9_lives_b94 (N : Nat) (k16 : pH → Int32 → Option (Unit × pH)) (h : pH) (x1 : Int32) (x2 : Int32) (xs0 : Int32) (xs1 : Int32) : Option (Unit × pH) :=
  if ix xs1 24 = true then (if x2 = 0 then (fX9_lives_b112 N k16 (pw h 63 xs1.toNatClampNeg xs0) x1 0 x1) else (fX9_lives_b112 N k16 (pw h 63 xs1.toNatClampNeg xs0) x1 ((pw h 63 xs1.toNatClampNeg xs0).1 49 22) x1)) else none
set_option maxRecDepth 100000 in
set_option maxHeartbeats 4000000 in
theorem tX9_lives_b94 {X : Xt} {v : Unit} {h' : pH} (N : Nat) (k16 : pH → Int32 → Option (Unit × pH)) (HK16 : ∀ (h : pH) (x1 : Int32), k16 h x1 = some (v, h') → Wx X 3 16 [(0, rf (qo X) 49), (1, .int x1)] [] h) (h : pH) (x1 : Int32) (x2 : Int32) (xs0 : Int32) (xs1 : Int32) (B : Bd (lo X) (qo X) cX9_lives RX9 3 none 3 68 none h' X) (hf : fX9_lives_b94 N k16 h x1 x2 xs0 xs1 = some (v, h')) : Wx X 3 94 [(0, rf (qo X) 49), (1, .int x1), (2, .int x2)] [.int xs0, .int xs1, rf (qo X) 63] h := by
  have C := B.1
  unfold fX9_lives_b94 at hf
  obtain ⟨g1, hf⟩ := ife hf
  refine x_iast (r := 63) C dX9_lives_94 rfl g1 ?_
  refine x_aload_n (i := 0) 0 C dX9_lives_95 rfl rfl ?_
  refine x_getR (r := 49) (r2 := 64) C dX9_lives_96 kfX9_52 rfl rfl (by decide) ?_
  refine x_iload_n (i := 1) 1 C dX9_lives_99 rfl rfl ?_
  refine x_iload_n (i := 2) 2 C dX9_lives_100 rfl rfl ?_
  refine x_if_eq (tgt := 111) C dX9_lives_101 (by decide) (fun c => ?_) (fun c => ?_)
  · rw [if_pos c] at hf
    refine x_iconst (v := 0) C dX9_lives_111 (by decide) ?_
    refine x_lv [0, 1] rfl ?_
    exact tX9_lives_b112 N k16 HK16 (pw h 63 xs1.toNatClampNeg xs0) x1 0 x1 B hf
  · rw [if_neg c] at hf
    refine x_aload_n (i := 0) 0 C dX9_lives_104 rfl rfl ?_
    refine x_getI (r := 49) C dX9_lives_105 kfX9_161 rfl ?_
    refine x_goto (tgt := 112) C dX9_lives_108 (by decide) ?_
    refine x_lv [0, 1] rfl ?_
    exact tX9_lives_b112 N k16 HK16 (pw h 63 xs1.toNatClampNeg xs0) x1 ((pw h 63 xs1.toNatClampNeg xs0).1 49 22) x1 B hf
def fX9_lives_b64 (N : Nat) (k16 : pH → Int32 → Option (Unit × pH)) (h : pH) (x1 : Int32) (x2 : Int32) (xs0 : Int32) (xs1 : Int32) : Option (Unit × pH) :=
  if ix xs1 24 = true then (if x2 = 0 then (fX9_lives_b94 N k16 (pw h 62 xs1.toNatClampNeg xs0) x1 x2 0 x1) else (if ix x1 24 = true then (if ix x1 24 = true then ((fX9_tollOf N (pw h 62 xs1.toNatClampNeg xs0) ((pw h 62 xs1.toNatClampNeg xs0).1 58 x1.toNatClampNeg) ((pw h 62 xs1.toNatClampNeg xs0).1 62 x1.toNatClampNeg)).bind fun z1 => (fX9_lives_b94 N k16 z1.2 x1 x2 z1.1 x1)) else none) else none)) else none
set_option maxRecDepth 100000 in
set_option maxHeartbeats 4000000 in
theorem tX9_lives_b64 {X : Xt} {v : Unit} {h' : pH} (N : Nat) (k16 : pH → Int32 → Option (Unit × pH)) (HK16 : ∀ (h : pH) (x1 : Int32), k16 h x1 = some (v, h') → Wx X 3 16 [(0, rf (qo X) 49), (1, .int x1)] [] h) (h : pH) (x1 : Int32) (x2 : Int32) (xs0 : Int32) (xs1 : Int32) (B : Bd (lo X) (qo X) cX9_lives RX9 3 none 3 68 none h' X) (hf : fX9_lives_b64 N k16 h x1 x2 xs0 xs1 = some (v, h')) : Wx X 3 64 [(0, rf (qo X) 49), (1, .int x1), (2, .int x2)] [.int xs0, .int xs1, rf (qo X) 62] h := by
  have C := B.1
  unfold fX9_lives_b64 at hf
  obtain ⟨g1, hf⟩ := ife hf
  refine x_iast (r := 62) C dX9_lives_64 rfl g1 ?_
  refine x_aload_n (i := 0) 0 C dX9_lives_65 rfl rfl ?_
  refine x_getR (r := 49) (r2 := 63) C dX9_lives_66 kfX9_49 rfl rfl (by decide) ?_
  refine x_iload_n (i := 1) 1 C dX9_lives_69 rfl rfl ?_
  refine x_iload_n (i := 2) 2 C dX9_lives_70 rfl rfl ?_
  refine x_if_eq (tgt := 93) C dX9_lives_71 (by decide) (fun c => ?_) (fun c => ?_)
  · rw [if_pos c] at hf
    refine x_iconst (v := 0) C dX9_lives_93 (by decide) ?_
    exact tX9_lives_b94 N k16 HK16 (pw h 62 xs1.toNatClampNeg xs0) x1 x2 0 x1 B hf
  · rw [if_neg c] at hf
    refine x_aload_n (i := 0) 0 C dX9_lives_74 rfl rfl ?_
    refine x_aload_n (i := 0) 0 C dX9_lives_75 rfl rfl ?_
    refine x_getR (r := 49) (r2 := 58) C dX9_lives_76 kfX9_34 rfl rfl (by decide) ?_
    refine x_iload_n (i := 1) 1 C dX9_lives_79 rfl rfl ?_
    obtain ⟨g2, hf⟩ := ife hf
    refine x_iald (r := 58) C dX9_lives_80 rfl g2 ?_
    refine x_aload_n (i := 0) 0 C dX9_lives_81 rfl rfl ?_
    refine x_getR (r := 49) (r2 := 62) C dX9_lives_82 kfX9_46 rfl rfl (by decide) ?_
    refine x_iload_n (i := 1) 1 C dX9_lives_85 rfl rfl ?_
    obtain ⟨g3, hf⟩ := ife hf
    refine x_iald (r := 62) C dX9_lives_86 rfl g3 ?_
    obtain ⟨z1, e1, hf⟩ := bnd hf
    refine x_callV (r := 49) (As := [.int ((pw h 62 xs1.toNatClampNeg xs0).1 58 x1.toNatClampNeg), .int ((pw h 62 xs1.toNatClampNeg xs0).1 62 x1.toNatClampNeg)]) (rest := [.int x1, rf (qo X) 63]) C dX9_lives_87 kmX9_190 miX9_tollOf (ctX9_tollOf (lo X) (qo X) N (pw h 62 xs1.toNatClampNeg xs0) ((pw h 62 xs1.toNatClampNeg xs0).1 58 x1.toNatClampNeg) ((pw h 62 xs1.toNatClampNeg xs0).1 62 x1.toNatClampNeg) z1.1 z1.2 e1) rfl rfl ⟨Nat.le_trans (by decide) B.2.2.2.1, Nat.le_trans (by decide) B.2.2.2.2.1⟩ (by simp [cat_i, cat_l, rf_cat]) rfl ?_
    refine x_goto (tgt := 94) C dX9_lives_90 (by decide) ?_
    exact tX9_lives_b94 N k16 HK16 z1.2 x1 x2 z1.1 x1 B hf
def fX9_lives_b40 (N : Nat) (k16 : pH → Int32 → Option (Unit × pH)) (h : pH) (x1 : Int32) (xs0 : Int32) : Option (Unit × pH) :=
  if xs0 = 0 then (fX9_lives_b64 N k16 h x1 xs0 0 x1) else (if ix x1 24 = true then ((fX9_tries N h (h.1 58 x1.toNatClampNeg)).bind fun z1 => (fX9_lives_b64 N k16 z1.2 x1 xs0 z1.1 x1)) else none)
set_option maxRecDepth 100000 in
set_option maxHeartbeats 4000000 in
theorem tX9_lives_b40 {X : Xt} {v : Unit} {h' : pH} (N : Nat) (k16 : pH → Int32 → Option (Unit × pH)) (HK16 : ∀ (h : pH) (x1 : Int32), k16 h x1 = some (v, h') → Wx X 3 16 [(0, rf (qo X) 49), (1, .int x1)] [] h) (h : pH) (x1 : Int32) (xs0 : Int32) (B : Bd (lo X) (qo X) cX9_lives RX9 3 none 3 68 none h' X) (hf : fX9_lives_b40 N k16 h x1 xs0 = some (v, h')) : Wx X 3 40 [(0, rf (qo X) 49), (1, .int x1)] [.int xs0] h := by
  have C := B.1
  unfold fX9_lives_b40 at hf
  refine x_istore_n (i := 2) (lv' := [(2, .int xs0), (0, rf (qo X) 49), (1, .int x1)]) C dX9_lives_40 rfl (by decide) rfl ?_
  refine x_aload_n (i := 0) 1 C dX9_lives_41 rfl rfl ?_
  refine x_getR (r := 49) (r2 := 62) C dX9_lives_42 kfX9_46 rfl rfl (by decide) ?_
  refine x_iload_n (i := 1) 2 C dX9_lives_45 rfl rfl ?_
  refine x_iload_n (i := 2) 0 C dX9_lives_46 rfl rfl ?_
  refine x_if_eq (tgt := 63) C dX9_lives_47 (by decide) (fun c => ?_) (fun c => ?_)
  · rw [if_pos c] at hf
    refine x_iconst (v := 0) C dX9_lives_63 (by decide) ?_
    refine x_lv [1, 2, 0] rfl ?_
    exact tX9_lives_b64 N k16 HK16 h x1 xs0 0 x1 B hf
  · rw [if_neg c] at hf
    refine x_aload_n (i := 0) 1 C dX9_lives_50 rfl rfl ?_
    refine x_aload_n (i := 0) 1 C dX9_lives_51 rfl rfl ?_
    refine x_getR (r := 49) (r2 := 58) C dX9_lives_52 kfX9_34 rfl rfl (by decide) ?_
    refine x_iload_n (i := 1) 2 C dX9_lives_55 rfl rfl ?_
    obtain ⟨g1, hf⟩ := ife hf
    refine x_iald (r := 58) C dX9_lives_56 rfl g1 ?_
    obtain ⟨z1, e1, hf⟩ := bnd hf
    refine x_callV (r := 49) (As := [.int (h.1 58 x1.toNatClampNeg)]) (rest := [.int x1, rf (qo X) 62]) C dX9_lives_57 kmX9_187 miX9_tries (ctX9_tries (lo X) (qo X) N h (h.1 58 x1.toNatClampNeg) z1.1 z1.2 e1) rfl rfl ⟨Nat.le_trans (by decide) B.2.2.2.1, Nat.le_trans (by decide) B.2.2.2.2.1⟩ (by simp [cat_i, cat_l, rf_cat]) rfl ?_
    refine x_goto (tgt := 64) C dX9_lives_60 (by decide) ?_
    refine x_lv [1, 2, 0] rfl ?_
    exact tX9_lives_b64 N k16 HK16 z1.2 x1 xs0 z1.1 x1 B hf
def fX9_lives_B16 (N : Nat) (k16 : pH → Int32 → Option (Unit × pH)) (h : pH) (x1 : Int32) : Option (Unit × pH) :=
  if (h.1 49 11) ≤ x1 then (some ((), h)) else ((fX9_isIn N h (h.1 49 20) x1).bind fun z1 => (if z1.1 = 0 then (fX9_lives_b40 N k16 z1.2 x1 1) else (fX9_lives_b40 N k16 z1.2 x1 0)))
set_option maxRecDepth 100000 in
set_option maxHeartbeats 4000000 in
theorem tX9_lives_B16 {X : Xt} {v : Unit} {h' : pH} (N : Nat) (k16 : pH → Int32 → Option (Unit × pH)) (HK16 : ∀ (h : pH) (x1 : Int32), k16 h x1 = some (v, h') → Wx X 3 16 [(0, rf (qo X) 49), (1, .int x1)] [] h) (h : pH) (x1 : Int32) (B : Bd (lo X) (qo X) cX9_lives RX9 3 none 3 68 none h' X) (hf : fX9_lives_B16 N k16 h x1 = some (v, h')) : Wx X 3 16 [(0, rf (qo X) 49), (1, .int x1)] [] h := by
  have C := B.1
  unfold fX9_lives_B16 at hf
  refine x_iload_n (i := 1) 1 C dX9_lives_16 rfl rfl ?_
  refine x_aload_n (i := 0) 0 C dX9_lives_17 rfl rfl ?_
  refine x_getI (r := 49) C dX9_lives_18 kfX9_121 rfl ?_
  refine x_icmp_ge (tgt := 131) C dX9_lives_21 (by decide) (fun c => ?_) (fun c => ?_)
  · rw [if_pos c] at hf
    obtain ⟨rfl, rfl⟩ := rtn hf
    exact B.2.2.2.2.2.2.2.2.2 rfl rfl _ _ dX9_lives_131
  · rw [if_neg c] at hf
    refine x_aload_n (i := 0) 0 C dX9_lives_24 rfl rfl ?_
    refine x_getI (r := 49) C dX9_lives_25 kfX9_181 rfl ?_
    refine x_iload_n (i := 1) 1 C dX9_lives_28 rfl rfl ?_
    obtain ⟨z1, e1, hf⟩ := bnd hf
    refine x_callS (As := [.int (h.1 49 20), .int x1]) (rest := []) C dX9_lives_29 kmX9_184 miX9_isIn (ctX9_isIn (lo X) (qo X) N h (h.1 49 20) x1 z1.1 z1.2 e1) rfl rfl ⟨Nat.le_trans (by decide) B.2.2.2.1, Nat.le_trans (by decide) B.2.2.2.2.1⟩ (by simp [cat_i, cat_l, rf_cat]) ?_
    refine x_if_ne (tgt := 39) C dX9_lives_32 (by decide) (fun c => ?_) (fun c => ?_)
    · rw [if_neg c] at hf
      refine x_iconst (v := 0) C dX9_lives_39 (by decide) ?_
      exact tX9_lives_b40 N k16 HK16 z1.2 x1 0 B hf
    · rw [if_pos c] at hf
      refine x_iconst (v := 1) C dX9_lives_35 (by decide) ?_
      refine x_goto (tgt := 40) C dX9_lives_36 (by decide) ?_
      exact tX9_lives_b40 N k16 HK16 z1.2 x1 1 B hf
def fX9_lives_L16 (N : Nat) : Nat → pH → Int32 → Option (Unit × pH)
  | 0 => fun _ _ => none
  | n + 1 => fX9_lives_B16 N (fX9_lives_L16 N n)
theorem tX9_lives_L16 {X : Xt} {v : Unit} {h' : pH} (N : Nat) (B : Bd (lo X) (qo X) cX9_lives RX9 3 none 3 68 none h' X) : ∀ (n : Nat) (h : pH) (x1 : Int32), fX9_lives_L16 N n h x1 = some (v, h') → Wx X 3 16 [(0, rf (qo X) 49), (1, .int x1)] [] h := by
  intro n
  induction n with
  | zero => intro h x1 hf; exact absurd (show (none : Option (Unit × pH)) = some (v, h') from hf) (fun z => by cases z)
  | succ n ih => intro h x1 hf; exact tX9_lives_B16 N (fX9_lives_L16 N n) ih h x1 B hf
def fX9_lives (N : Nat) (h : pH)  : Option (Unit × pH) :=
  (fX9_begins N h).bind fun z1 => (if ix (0 : Int32) 25 = true then (fX9_lives_L16 N N (pw z1.2 61 (0 : Int32).toNatClampNeg (z1.2.1 49 19)) 0) else none)
set_option maxRecDepth 100000 in
set_option maxHeartbeats 4000000 in
theorem tX9_lives {X : Xt} {v : Unit} {h' : pH} (N : Nat) (h : pH)  (B : Bd (lo X) (qo X) cX9_lives RX9 3 none 3 68 none h' X) (hf : fX9_lives N h  = some (v, h')) : Wx X 3 0 [(0, rf (qo X) 49)] [] h := by
  have C := B.1
  unfold fX9_lives at hf
  refine x_aload_n (i := 0) 0 C dX9_lives_0 rfl rfl ?_
  obtain ⟨z1, e1, hf⟩ := bnd hf
  refine x_callV (r := 49) (As := []) (rest := []) C dX9_lives_1 kmX9_178 miX9_begins (ctX9_begins (lo X) (qo X) N h z1.1 z1.2 e1) rfl rfl ⟨Nat.le_trans (by decide) B.2.2.2.1, Nat.le_trans (by decide) B.2.2.2.2.1⟩ (by simp [cat_i, cat_l, rf_cat]) rfl ?_
  refine x_aload_n (i := 0) 0 C dX9_lives_4 rfl rfl ?_
  refine x_getR (r := 49) (r2 := 61) C dX9_lives_5 kfX9_43 rfl rfl (by decide) ?_
  refine x_iconst (v := 0) C dX9_lives_8 (by decide) ?_
  refine x_aload_n (i := 0) 0 C dX9_lives_9 rfl rfl ?_
  refine x_getI (r := 49) C dX9_lives_10 kfX9_155 rfl ?_
  obtain ⟨g1, hf⟩ := ife hf
  refine x_iast (r := 61) C dX9_lives_13 rfl g1 ?_
  refine x_iconst (v := 0) C dX9_lives_14 (by decide) ?_
  refine x_istore_n (i := 1) (lv' := [(1, .int 0), (0, rf (qo X) 49)]) C dX9_lives_15 rfl (by decide) rfl ?_
  refine x_lv [1, 0] rfl ?_
  exact tX9_lives_L16 N  B N (pw z1.2 61 (0 : Int32).toNatClampNeg (z1.2.1 49 19)) 0 hf
theorem ctX9_lives (l : Launch) (q : Nat → Nat) (N : Nat) (h : pH)  (v : Unit) (h' : pH) (hf : fX9_lives N h  = some (v, h')) : Ctr l q yX9_lives cX9_lives 3 none 3 68 [rf q 49] h h' none := by
  refine ct_of (own := RX9) (lv := [(0, rf q 49)]) (by decide +kernel) rfl (by simp [lg_sl, rf_cat, cat_i, cat_l]) (by first | rfl | simp [lv_args, rf_cat, cat_i, cat_l]) ?_
  intro X B
  obtain rfl := B.2.1
  obtain rfl := B.2.2.1
  exact tX9_lives N h  B hf
def fX9_find (N : Nat) (h : pH)  : Option (Unit × pH) :=
  (fX9_readsPlanks N h).bind fun z1 => ((fX9_readsCrossers N z1.2).bind fun z2 => ((fX9_readsCrossings N z2.2).bind fun z3 => ((fX9_lives N z3.2).bind fun z4 => (some ((), z4.2)))))
set_option maxRecDepth 100000 in
set_option maxHeartbeats 4000000 in
theorem tX9_find {X : Xt} {v : Unit} {h' : pH} (N : Nat) (h : pH)  (B : Bd (lo X) (qo X) cX9_find RX9 1 none 4 90 none h' X) (hf : fX9_find N h  = some (v, h')) : Wx X 1 0 [(0, rf (qo X) 49)] [] h := by
  have C := B.1
  unfold fX9_find at hf
  refine x_aload_n (i := 0) 0 C dX9_find_0 rfl rfl ?_
  obtain ⟨z1, e1, hf⟩ := bnd hf
  refine x_callV (r := 49) (As := []) (rest := []) C dX9_find_1 kmX9_128 miX9_readsPlanks (ctX9_readsPlanks (lo X) (qo X) N h z1.1 z1.2 e1) rfl rfl ⟨Nat.le_trans (by decide) B.2.2.2.1, Nat.le_trans (by decide) B.2.2.2.2.1⟩ (by simp [cat_i, cat_l, rf_cat]) rfl ?_
  refine x_popI C dX9_find_4 ?_
  refine x_aload_n (i := 0) 0 C dX9_find_5 rfl rfl ?_
  obtain ⟨z2, e2, hf⟩ := bnd hf
  refine x_callV (r := 49) (As := []) (rest := []) C dX9_find_6 kmX9_132 miX9_readsCrossers (ctX9_readsCrossers (lo X) (qo X) N z1.2 z2.1 z2.2 e2) rfl rfl ⟨Nat.le_trans (by decide) B.2.2.2.1, Nat.le_trans (by decide) B.2.2.2.2.1⟩ (by simp [cat_i, cat_l, rf_cat]) rfl ?_
  refine x_popI C dX9_find_9 ?_
  refine x_aload_n (i := 0) 0 C dX9_find_10 rfl rfl ?_
  obtain ⟨z3, e3, hf⟩ := bnd hf
  refine x_callV (r := 49) (As := []) (rest := []) C dX9_find_11 kmX9_135 miX9_readsCrossings (ctX9_readsCrossings (lo X) (qo X) N z2.2 z3.1 z3.2 e3) rfl rfl ⟨Nat.le_trans (by decide) B.2.2.2.1, Nat.le_trans (by decide) B.2.2.2.2.1⟩ (by simp [cat_i, cat_l, rf_cat]) rfl ?_
  refine x_popI C dX9_find_14 ?_
  refine x_aload_n (i := 0) 0 C dX9_find_15 rfl rfl ?_
  obtain ⟨z4, e4, hf⟩ := bnd hf
  refine x_callV (r := 49) (As := []) (rest := []) C dX9_find_16 kmX9_193 miX9_lives (ctX9_lives (lo X) (qo X) N z3.2 z4.1 z4.2 e4) rfl rfl ⟨Nat.le_trans (by decide) B.2.2.2.1, Nat.le_trans (by decide) B.2.2.2.2.1⟩ (by simp [cat_i, cat_l, rf_cat]) rfl ?_
  obtain ⟨rfl, rfl⟩ := rtn hf
  exact B.2.2.2.2.2.2.2.2.2 rfl rfl _ _ dX9_find_19
theorem ctX9_find (l : Launch) (q : Nat → Nat) (N : Nat) (h : pH)  (v : Unit) (h' : pH) (hf : fX9_find N h  = some (v, h')) : Ctr l q yX9_find cX9_find 1 none 4 90 [rf q 49] h h' none := by
  refine ct_of (own := RX9) (lv := [(0, rf q 49)]) (by decide +kernel) rfl (by simp [lg_sl, rf_cat, cat_i, cat_l]) (by first | rfl | simp [lv_args, rf_cat, cat_i, cat_l]) ?_
  intro X B
  obtain rfl := B.2.1
  obtain rfl := B.2.2.1
  exact tX9_find N h  B hf
def fX9_gap_b29 (N : Nat) (h : pH) (xs0 : Int32) : Option (Int32 × pH) :=
  some (xs0, h)
set_option maxRecDepth 100000 in
set_option maxHeartbeats 4000000 in
theorem tX9_gap_b29 {X : Xt} {v : Int32} {h' : pH} (N : Nat) (h : pH) (xs0 : Int32) (B : Bd (lo X) (qo X) cX9_gap RX9 2 (some .int) 5 110 (some (.int v)) h' X) (hf : fX9_gap_b29 N h xs0 = some (v, h')) : Wx X 2 29 [] [.int xs0] h := by
  have C := B.1
  unfold fX9_gap_b29 at hf
  obtain ⟨rfl, rfl⟩ := rtn hf
  exact B.2.2.2.2.2.1 _ _ rfl rfl rfl _ _ dX9_gap_29
def fX9_gap (N : Nat) (h : pH) (x1 : Int32) : Option (Int32 × pH) :=
  (fX9_find N h).bind fun z1 => ((fX9_in N z1.2 x1.toInt64 0 ((z1.2.1 49 11).toInt64)).bind fun z2 => (if z2.1 = 0 then (fX9_gap_b29 N z2.2 (-2)) else (if ix x1 25 = true then (fX9_gap_b29 N z2.2 (z2.2.1 61 x1.toNatClampNeg)) else none)))
set_option maxRecDepth 100000 in
set_option maxHeartbeats 4000000 in
theorem tX9_gap {X : Xt} {v : Int32} {h' : pH} (N : Nat) (h : pH) (x1 : Int32) (B : Bd (lo X) (qo X) cX9_gap RX9 2 (some .int) 5 110 (some (.int v)) h' X) (hf : fX9_gap N h x1 = some (v, h')) : Wx X 2 0 [(0, rf (qo X) 49), (1, .int x1)] [] h := by
  have C := B.1
  unfold fX9_gap at hf
  refine x_aload_n (i := 0) 0 C dX9_gap_0 rfl rfl ?_
  obtain ⟨z1, e1, hf⟩ := bnd hf
  refine x_callV (r := 49) (As := []) (rest := []) C dX9_gap_1 kmX9_196 miX9_find (ctX9_find (lo X) (qo X) N h z1.1 z1.2 e1) rfl rfl ⟨Nat.le_trans (by decide) B.2.2.2.1, Nat.le_trans (by decide) B.2.2.2.2.1⟩ (by simp [cat_i, cat_l, rf_cat]) rfl ?_
  refine x_iload_n (i := 1) 1 C dX9_gap_4 rfl rfl ?_
  refine x_i2l C dX9_gap_5 ?_
  refine x_lconst (v := 0) C dX9_gap_6 (by decide) ?_
  refine x_aload_n (i := 0) 0 C dX9_gap_7 rfl rfl ?_
  refine x_getI (r := 49) C dX9_gap_8 kfX9_121 rfl ?_
  refine x_i2l C dX9_gap_11 ?_
  obtain ⟨z2, e2, hf⟩ := bnd hf
  refine x_callS (As := [.long x1.toInt64, .long 0, .long ((z1.2.1 49 11).toInt64)]) (rest := []) C dX9_gap_12 kmX9_69 miX9_in (ctX9_in (lo X) (qo X) N z1.2 x1.toInt64 0 ((z1.2.1 49 11).toInt64) z2.1 z2.2 e2) rfl rfl ⟨Nat.le_trans (by decide) B.2.2.2.1, Nat.le_trans (by decide) B.2.2.2.2.1⟩ (by simp [cat_i, cat_l, rf_cat]) ?_
  refine x_if_eq (tgt := 27) C dX9_gap_15 (by decide) (fun c => ?_) (fun c => ?_)
  · rw [if_pos c] at hf
    refine x_bipush (v := (-2)) C dX9_gap_27 (by decide) ?_
    refine x_lv [] rfl ?_
    exact tX9_gap_b29 N z2.2 (-2) B hf
  · rw [if_neg c] at hf
    refine x_aload_n (i := 0) 0 C dX9_gap_18 rfl rfl ?_
    refine x_getR (r := 49) (r2 := 61) C dX9_gap_19 kfX9_43 rfl rfl (by decide) ?_
    refine x_iload_n (i := 1) 1 C dX9_gap_22 rfl rfl ?_
    obtain ⟨g1, hf⟩ := ife hf
    refine x_iald (r := 61) C dX9_gap_23 rfl g1 ?_
    refine x_goto (tgt := 29) C dX9_gap_24 (by decide) ?_
    refine x_lv [] rfl ?_
    exact tX9_gap_b29 N z2.2 (z2.2.1 61 x1.toNatClampNeg) B hf
theorem ctX9_gap (l : Launch) (q : Nat → Nat) (N : Nat) (h : pH) (x1 : Int32) (v : Int32) (h' : pH) (hf : fX9_gap N h x1 = some (v, h')) : Ctr l q yX9_gap cX9_gap 2 (some .int) 5 110 [rf q 49, .int x1] h h' (some (.int v)) := by
  refine ct_of (own := RX9) (lv := [(0, rf q 49), (1, .int x1)]) (by decide +kernel) rfl (by simp [lg_sl, rf_cat, cat_i, cat_l]) (by first | rfl | simp [lv_args, rf_cat, cat_i, cat_l]) ?_
  intro X B
  obtain rfl := B.2.1
  obtain rfl := B.2.2.1
  exact tX9_gap N h x1 B hf
def fX9_comesBy_b33 (N : Nat) (h : pH) (xs0 : Int32) : Option (Int32 × pH) :=
  some (xs0, h)
set_option maxRecDepth 100000 in
set_option maxHeartbeats 4000000 in
theorem tX9_comesBy_b33 {X : Xt} {v : Int32} {h' : pH} (N : Nat) (h : pH) (xs0 : Int32) (B : Bd (lo X) (qo X) cX9_comesBy RX9 3 (some .int) 0 0 (some (.int v)) h' X) (hf : fX9_comesBy_b33 N h xs0 = some (v, h')) : Wx X 3 33 [] [.int xs0] h := by
  have C := B.1
  unfold fX9_comesBy_b33 at hf
  obtain ⟨rfl, rfl⟩ := rtn hf
  exact B.2.2.2.2.2.1 _ _ rfl rfl rfl _ _ dX9_comesBy_33
def fX9_comesBy (N : Nat) (h : pH) (x1 : Int32) (x2 : Int32) : Option (Int32 × pH) :=
  if x2 = 0 then (if ix x1 24 = true then (fX9_comesBy_b33 N h (h.1 62 x1.toNatClampNeg)) else none) else (if x2 = 1 then (if ix x1 24 = true then (fX9_comesBy_b33 N h (h.1 63 x1.toNatClampNeg)) else none) else (if ix x1 24 = true then (fX9_comesBy_b33 N h (h.1 64 x1.toNatClampNeg)) else none))
set_option maxRecDepth 100000 in
set_option maxHeartbeats 4000000 in
theorem tX9_comesBy {X : Xt} {v : Int32} {h' : pH} (N : Nat) (h : pH) (x1 : Int32) (x2 : Int32) (B : Bd (lo X) (qo X) cX9_comesBy RX9 3 (some .int) 0 0 (some (.int v)) h' X) (hf : fX9_comesBy N h x1 x2 = some (v, h')) : Wx X 3 0 [(0, rf (qo X) 49), (1, .int x1), (2, .int x2)] [] h := by
  have C := B.1
  unfold fX9_comesBy at hf
  refine x_iload_n (i := 2) 2 C dX9_comesBy_0 rfl rfl ?_
  refine x_if_ne (tgt := 13) C dX9_comesBy_1 (by decide) (fun c => ?_) (fun c => ?_)
  · rw [if_neg c] at hf
    refine x_iload_n (i := 2) 2 C dX9_comesBy_13 rfl rfl ?_
    refine x_iconst (v := 1) C dX9_comesBy_14 (by decide) ?_
    refine x_icmp_ne (tgt := 27) C dX9_comesBy_15 (by decide) (fun c => ?_) (fun c => ?_)
    · rw [if_neg c] at hf
      refine x_aload_n (i := 0) 0 C dX9_comesBy_27 rfl rfl ?_
      refine x_getR (r := 49) (r2 := 64) C dX9_comesBy_28 kfX9_52 rfl rfl (by decide) ?_
      refine x_iload_n (i := 1) 1 C dX9_comesBy_31 rfl rfl ?_
      obtain ⟨g1, hf⟩ := ife hf
      refine x_iald (r := 64) C dX9_comesBy_32 rfl g1 ?_
      refine x_lv [] rfl ?_
      exact tX9_comesBy_b33 N h (h.1 64 x1.toNatClampNeg) B hf
    · rw [if_pos c] at hf
      refine x_aload_n (i := 0) 0 C dX9_comesBy_18 rfl rfl ?_
      refine x_getR (r := 49) (r2 := 63) C dX9_comesBy_19 kfX9_49 rfl rfl (by decide) ?_
      refine x_iload_n (i := 1) 1 C dX9_comesBy_22 rfl rfl ?_
      obtain ⟨g2, hf⟩ := ife hf
      refine x_iald (r := 63) C dX9_comesBy_23 rfl g2 ?_
      refine x_goto (tgt := 33) C dX9_comesBy_24 (by decide) ?_
      refine x_lv [] rfl ?_
      exact tX9_comesBy_b33 N h (h.1 63 x1.toNatClampNeg) B hf
  · rw [if_pos c] at hf
    refine x_aload_n (i := 0) 0 C dX9_comesBy_4 rfl rfl ?_
    refine x_getR (r := 49) (r2 := 62) C dX9_comesBy_5 kfX9_46 rfl rfl (by decide) ?_
    refine x_iload_n (i := 1) 1 C dX9_comesBy_8 rfl rfl ?_
    obtain ⟨g3, hf⟩ := ife hf
    refine x_iald (r := 62) C dX9_comesBy_9 rfl g3 ?_
    refine x_goto (tgt := 33) C dX9_comesBy_10 (by decide) ?_
    refine x_lv [] rfl ?_
    exact tX9_comesBy_b33 N h (h.1 62 x1.toNatClampNeg) B hf
theorem ctX9_comesBy (l : Launch) (q : Nat → Nat) (N : Nat) (h : pH) (x1 : Int32) (x2 : Int32) (v : Int32) (h' : pH) (hf : fX9_comesBy N h x1 x2 = some (v, h')) : Ctr l q yX9_comesBy cX9_comesBy 3 (some .int) 0 0 [rf q 49, .int x1, .int x2] h h' (some (.int v)) := by
  refine ct_of (own := RX9) (lv := [(0, rf q 49), (1, .int x1), (2, .int x2)]) (by decide +kernel) rfl (by simp [lg_sl, rf_cat, cat_i, cat_l]) (by first | rfl | simp [lv_args, rf_cat, cat_i, cat_l]) ?_
  intro X B
  obtain rfl := B.2.1
  obtain rfl := B.2.2.1
  exact tX9_comesBy N h x1 x2 B hf
def fX9_comes_b43 (N : Nat) (h : pH) (xs0 : Int32) : Option (Int32 × pH) :=
  some (xs0, h)
set_option maxRecDepth 100000 in
set_option maxHeartbeats 4000000 in
theorem tX9_comes_b43 {X : Xt} {v : Int32} {h' : pH} (N : Nat) (h : pH) (xs0 : Int32) (B : Bd (lo X) (qo X) cX9_comes RX9 3 (some .int) 5 110 (some (.int v)) h' X) (hf : fX9_comes_b43 N h xs0 = some (v, h')) : Wx X 3 43 [] [.int xs0] h := by
  have C := B.1
  unfold fX9_comes_b43 at hf
  obtain ⟨rfl, rfl⟩ := rtn hf
  exact B.2.2.2.2.2.1 _ _ rfl rfl rfl _ _ dX9_comes_43
def fX9_comes_b41 (N : Nat) (h : pH)  : Option (Int32 × pH) :=
  fX9_comes_b43 N h (-2)
set_option maxRecDepth 100000 in
set_option maxHeartbeats 4000000 in
theorem tX9_comes_b41 {X : Xt} {v : Int32} {h' : pH} (N : Nat) (h : pH)  (B : Bd (lo X) (qo X) cX9_comes RX9 3 (some .int) 5 110 (some (.int v)) h' X) (hf : fX9_comes_b41 N h  = some (v, h')) : Wx X 3 41 [] [] h := by
  have C := B.1
  unfold fX9_comes_b41 at hf
  refine x_bipush (v := (-2)) C dX9_comes_41 (by decide) ?_
  exact tX9_comes_b43 N h (-2) B hf
def fX9_comes (N : Nat) (h : pH) (x1 : Int32) (x2 : Int32) : Option (Int32 × pH) :=
  (fX9_find N h).bind fun z1 => ((fX9_in N z1.2 x1.toInt64 0 (((z1.2.1 49 11) - 1).toInt64)).bind fun z2 => (if z2.1 = 0 then (fX9_comes_b41 N z2.2) else ((fX9_in N z2.2 x2.toInt64 0 2).bind fun z3 => (if z3.1 = 0 then (fX9_comes_b41 N z3.2) else ((fX9_comesBy N z3.2 x1 x2).bind fun z4 => (fX9_comes_b43 N z4.2 z4.1))))))
set_option maxRecDepth 100000 in
set_option maxHeartbeats 4000000 in
theorem tX9_comes {X : Xt} {v : Int32} {h' : pH} (N : Nat) (h : pH) (x1 : Int32) (x2 : Int32) (B : Bd (lo X) (qo X) cX9_comes RX9 3 (some .int) 5 110 (some (.int v)) h' X) (hf : fX9_comes N h x1 x2 = some (v, h')) : Wx X 3 0 [(0, rf (qo X) 49), (1, .int x1), (2, .int x2)] [] h := by
  have C := B.1
  unfold fX9_comes at hf
  refine x_aload_n (i := 0) 0 C dX9_comes_0 rfl rfl ?_
  obtain ⟨z1, e1, hf⟩ := bnd hf
  refine x_callV (r := 49) (As := []) (rest := []) C dX9_comes_1 kmX9_196 miX9_find (ctX9_find (lo X) (qo X) N h z1.1 z1.2 e1) rfl rfl ⟨Nat.le_trans (by decide) B.2.2.2.1, Nat.le_trans (by decide) B.2.2.2.2.1⟩ (by simp [cat_i, cat_l, rf_cat]) rfl ?_
  refine x_iload_n (i := 1) 1 C dX9_comes_4 rfl rfl ?_
  refine x_i2l C dX9_comes_5 ?_
  refine x_lconst (v := 0) C dX9_comes_6 (by decide) ?_
  refine x_aload_n (i := 0) 0 C dX9_comes_7 rfl rfl ?_
  refine x_getI (r := 49) C dX9_comes_8 kfX9_121 rfl ?_
  refine x_iconst (v := 1) C dX9_comes_11 (by decide) ?_
  refine x_isub C dX9_comes_12 ?_
  refine x_i2l C dX9_comes_13 ?_
  obtain ⟨z2, e2, hf⟩ := bnd hf
  refine x_callS (As := [.long x1.toInt64, .long 0, .long (((z1.2.1 49 11) - 1).toInt64)]) (rest := []) C dX9_comes_14 kmX9_69 miX9_in (ctX9_in (lo X) (qo X) N z1.2 x1.toInt64 0 (((z1.2.1 49 11) - 1).toInt64) z2.1 z2.2 e2) rfl rfl ⟨Nat.le_trans (by decide) B.2.2.2.1, Nat.le_trans (by decide) B.2.2.2.2.1⟩ (by simp [cat_i, cat_l, rf_cat]) ?_
  refine x_if_eq (tgt := 41) C dX9_comes_17 (by decide) (fun c => ?_) (fun c => ?_)
  · rw [if_pos c] at hf
    refine x_lv [] rfl ?_
    exact tX9_comes_b41 N z2.2 B hf
  · rw [if_neg c] at hf
    refine x_iload_n (i := 2) 2 C dX9_comes_20 rfl rfl ?_
    refine x_i2l C dX9_comes_21 ?_
    refine x_lconst (v := 0) C dX9_comes_22 (by decide) ?_
    refine x_ldc2 (v := 2) C dX9_comes_23 kkX9_83 ?_
    obtain ⟨z3, e3, hf⟩ := bnd hf
    refine x_callS (As := [.long x2.toInt64, .long 0, .long 2]) (rest := []) C dX9_comes_26 kmX9_69 miX9_in (ctX9_in (lo X) (qo X) N z2.2 x2.toInt64 0 2 z3.1 z3.2 e3) rfl rfl ⟨Nat.le_trans (by decide) B.2.2.2.1, Nat.le_trans (by decide) B.2.2.2.2.1⟩ (by simp [cat_i, cat_l, rf_cat]) ?_
    refine x_if_eq (tgt := 41) C dX9_comes_29 (by decide) (fun c => ?_) (fun c => ?_)
    · rw [if_pos c] at hf
      refine x_lv [] rfl ?_
      exact tX9_comes_b41 N z3.2 B hf
    · rw [if_neg c] at hf
      refine x_aload_n (i := 0) 0 C dX9_comes_32 rfl rfl ?_
      refine x_iload_n (i := 1) 1 C dX9_comes_33 rfl rfl ?_
      refine x_iload_n (i := 2) 2 C dX9_comes_34 rfl rfl ?_
      obtain ⟨z4, e4, hf⟩ := bnd hf
      refine x_callV (r := 49) (As := [.int x1, .int x2]) (rest := []) C dX9_comes_35 kmX9_199 miX9_comesBy (ctX9_comesBy (lo X) (qo X) N z3.2 x1 x2 z4.1 z4.2 e4) rfl rfl ⟨Nat.le_trans (by decide) B.2.2.2.1, Nat.le_trans (by decide) B.2.2.2.2.1⟩ (by simp [cat_i, cat_l, rf_cat]) rfl ?_
      refine x_goto (tgt := 43) C dX9_comes_38 (by decide) ?_
      refine x_lv [] rfl ?_
      exact tX9_comes_b43 N z4.2 z4.1 B hf
theorem ctX9_comes (l : Launch) (q : Nat → Nat) (N : Nat) (h : pH) (x1 : Int32) (x2 : Int32) (v : Int32) (h' : pH) (hf : fX9_comes N h x1 x2 = some (v, h')) : Ctr l q yX9_comes cX9_comes 3 (some .int) 5 110 [rf q 49, .int x1, .int x2] h h' (some (.int v)) := by
  refine ct_of (own := RX9) (lv := [(0, rf q 49), (1, .int x1), (2, .int x2)]) (by decide +kernel) rfl (by simp [lg_sl, rf_cat, cat_i, cat_l]) (by first | rfl | simp [lv_args, rf_cat, cat_i, cat_l]) ?_
  intro X B
  obtain rfl := B.2.1
  obtain rfl := B.2.2.1
  exact tX9_comes N h x1 x2 B hf
def fX9_timesBy_b44 (N : Nat) (k5 : pH → Int32 → Int32 → Int32 → Int32 → Option (Int32 × pH)) (h : pH) (x1 : Int32) (x2 : Int32) (x4 : Int32) (xs0 : Int32) (xs1 : Int32) : Option (Int32 × pH) :=
  k5 h x1 x2 (xs1 + xs0) (x4 + 1)
set_option maxRecDepth 100000 in
set_option maxHeartbeats 4000000 in
theorem tX9_timesBy_b44 {X : Xt} {v : Int32} {h' : pH} (N : Nat) (k5 : pH → Int32 → Int32 → Int32 → Int32 → Option (Int32 × pH)) (HK5 : ∀ (h : pH) (x1 : Int32) (x2 : Int32) (x3 : Int32) (x4 : Int32), k5 h x1 x2 x3 x4 = some (v, h') → Wx X 5 5 [(0, rf (qo X) 49), (1, .int x1), (2, .int x2), (3, .int x3), (4, .int x4)] [] h) (h : pH) (x1 : Int32) (x2 : Int32) (x4 : Int32) (xs0 : Int32) (xs1 : Int32) (B : Bd (lo X) (qo X) cX9_timesBy RX9 5 (some .int) 0 0 (some (.int v)) h' X) (hf : fX9_timesBy_b44 N k5 h x1 x2 x4 xs0 xs1 = some (v, h')) : Wx X 5 44 [(0, rf (qo X) 49), (1, .int x1), (2, .int x2), (4, .int x4)] [.int xs0, .int xs1] h := by
  have C := B.1
  unfold fX9_timesBy_b44 at hf
  refine x_iadd C dX9_timesBy_44 ?_
  refine x_istore_n (i := 3) (lv' := [(3, .int (xs1 + xs0)), (0, rf (qo X) 49), (1, .int x1), (2, .int x2), (4, .int x4)]) C dX9_timesBy_45 rfl (by decide) rfl ?_
  refine x_iinc (v := x4 + 1) (lv' := [(4, .int (x4 + 1)), (3, .int (xs1 + xs0)), (0, rf (qo X) 49), (1, .int x1), (2, .int x2)]) 4 C dX9_timesBy_46 rfl rfl (by decide) rfl ?_
  refine x_goto (tgt := 5) C dX9_timesBy_49 (by decide) ?_
  refine x_lv [2, 3, 4, 1, 0] rfl ?_
  exact HK5 h x1 x2 (xs1 + xs0) (x4 + 1) hf
def fX9_timesBy_b43 (N : Nat) (k5 : pH → Int32 → Int32 → Int32 → Int32 → Option (Int32 × pH)) (h : pH) (x1 : Int32) (x2 : Int32) (x4 : Int32) (xs0 : Int32) : Option (Int32 × pH) :=
  fX9_timesBy_b44 N k5 h x1 x2 x4 0 xs0
set_option maxRecDepth 100000 in
set_option maxHeartbeats 4000000 in
theorem tX9_timesBy_b43 {X : Xt} {v : Int32} {h' : pH} (N : Nat) (k5 : pH → Int32 → Int32 → Int32 → Int32 → Option (Int32 × pH)) (HK5 : ∀ (h : pH) (x1 : Int32) (x2 : Int32) (x3 : Int32) (x4 : Int32), k5 h x1 x2 x3 x4 = some (v, h') → Wx X 5 5 [(0, rf (qo X) 49), (1, .int x1), (2, .int x2), (3, .int x3), (4, .int x4)] [] h) (h : pH) (x1 : Int32) (x2 : Int32) (x4 : Int32) (xs0 : Int32) (B : Bd (lo X) (qo X) cX9_timesBy RX9 5 (some .int) 0 0 (some (.int v)) h' X) (hf : fX9_timesBy_b43 N k5 h x1 x2 x4 xs0 = some (v, h')) : Wx X 5 43 [(0, rf (qo X) 49), (1, .int x1), (2, .int x2), (4, .int x4)] [.int xs0] h := by
  have C := B.1
  unfold fX9_timesBy_b43 at hf
  refine x_iconst (v := 0) C dX9_timesBy_43 (by decide) ?_
  exact tX9_timesBy_b44 N k5 HK5 h x1 x2 x4 0 xs0 B hf
def fX9_timesBy_B5 (N : Nat) (k5 : pH → Int32 → Int32 → Int32 → Int32 → Option (Int32 × pH)) (h : pH) (x1 : Int32) (x2 : Int32) (x3 : Int32) (x4 : Int32) : Option (Int32 × pH) :=
  if (h.1 49 11) ≤ x4 then (some (x3, h)) else (if ix x4 24 = true then (if (h.1 58 x4.toNatClampNeg) = x1 then (if ix x4 24 = true then (if (h.1 62 x4.toNatClampNeg) = (x2 + 1) then (fX9_timesBy_b44 N k5 h x1 x2 x4 1 x3) else (fX9_timesBy_b43 N k5 h x1 x2 x4 x3)) else none) else (fX9_timesBy_b43 N k5 h x1 x2 x4 x3)) else none)
set_option maxRecDepth 100000 in
set_option maxHeartbeats 4000000 in
theorem tX9_timesBy_B5 {X : Xt} {v : Int32} {h' : pH} (N : Nat) (k5 : pH → Int32 → Int32 → Int32 → Int32 → Option (Int32 × pH)) (HK5 : ∀ (h : pH) (x1 : Int32) (x2 : Int32) (x3 : Int32) (x4 : Int32), k5 h x1 x2 x3 x4 = some (v, h') → Wx X 5 5 [(0, rf (qo X) 49), (1, .int x1), (2, .int x2), (3, .int x3), (4, .int x4)] [] h) (h : pH) (x1 : Int32) (x2 : Int32) (x3 : Int32) (x4 : Int32) (B : Bd (lo X) (qo X) cX9_timesBy RX9 5 (some .int) 0 0 (some (.int v)) h' X) (hf : fX9_timesBy_B5 N k5 h x1 x2 x3 x4 = some (v, h')) : Wx X 5 5 [(0, rf (qo X) 49), (1, .int x1), (2, .int x2), (3, .int x3), (4, .int x4)] [] h := by
  have C := B.1
  unfold fX9_timesBy_B5 at hf
  refine x_iload 4 C dX9_timesBy_5 rfl ?_
  refine x_aload_n (i := 0) 0 C dX9_timesBy_7 rfl rfl ?_
  refine x_getI (r := 49) C dX9_timesBy_8 kfX9_121 rfl ?_
  refine x_icmp_ge (tgt := 52) C dX9_timesBy_11 (by decide) (fun c => ?_) (fun c => ?_)
  · rw [if_pos c] at hf
    refine x_iload_n (i := 3) 3 C dX9_timesBy_52 rfl rfl ?_
    obtain ⟨rfl, rfl⟩ := rtn hf
    exact B.2.2.2.2.2.1 _ _ rfl rfl rfl _ _ dX9_timesBy_53
  · rw [if_neg c] at hf
    refine x_iload_n (i := 3) 3 C dX9_timesBy_14 rfl rfl ?_
    refine x_aload_n (i := 0) 0 C dX9_timesBy_15 rfl rfl ?_
    refine x_getR (r := 49) (r2 := 58) C dX9_timesBy_16 kfX9_34 rfl rfl (by decide) ?_
    refine x_iload 4 C dX9_timesBy_19 rfl ?_
    obtain ⟨g1, hf⟩ := ife hf
    refine x_iald (r := 58) C dX9_timesBy_21 rfl g1 ?_
    refine x_iload_n (i := 1) 1 C dX9_timesBy_22 rfl rfl ?_
    refine x_icmp_ne (tgt := 43) C dX9_timesBy_23 (by decide) (fun c => ?_) (fun c => ?_)
    · rw [if_neg c] at hf
      refine x_lv [0, 1, 2, 4] rfl ?_
      exact tX9_timesBy_b43 N k5 HK5 h x1 x2 x4 x3 B hf
    · rw [if_pos c] at hf
      refine x_aload_n (i := 0) 0 C dX9_timesBy_26 rfl rfl ?_
      refine x_getR (r := 49) (r2 := 62) C dX9_timesBy_27 kfX9_46 rfl rfl (by decide) ?_
      refine x_iload 4 C dX9_timesBy_30 rfl ?_
      obtain ⟨g2, hf⟩ := ife hf
      refine x_iald (r := 62) C dX9_timesBy_32 rfl g2 ?_
      refine x_iload_n (i := 2) 2 C dX9_timesBy_33 rfl rfl ?_
      refine x_iconst (v := 1) C dX9_timesBy_34 (by decide) ?_
      refine x_iadd C dX9_timesBy_35 ?_
      refine x_icmp_ne (tgt := 43) C dX9_timesBy_36 (by decide) (fun c => ?_) (fun c => ?_)
      · rw [if_neg c] at hf
        refine x_lv [0, 1, 2, 4] rfl ?_
        exact tX9_timesBy_b43 N k5 HK5 h x1 x2 x4 x3 B hf
      · rw [if_pos c] at hf
        refine x_iconst (v := 1) C dX9_timesBy_39 (by decide) ?_
        refine x_goto (tgt := 44) C dX9_timesBy_40 (by decide) ?_
        refine x_lv [0, 1, 2, 4] rfl ?_
        exact tX9_timesBy_b44 N k5 HK5 h x1 x2 x4 1 x3 B hf
def fX9_timesBy_L5 (N : Nat) : Nat → pH → Int32 → Int32 → Int32 → Int32 → Option (Int32 × pH)
  | 0 => fun _ _ _ _ _ => none
  | n + 1 => fX9_timesBy_B5 N (fX9_timesBy_L5 N n)
theorem tX9_timesBy_L5 {X : Xt} {v : Int32} {h' : pH} (N : Nat) (B : Bd (lo X) (qo X) cX9_timesBy RX9 5 (some .int) 0 0 (some (.int v)) h' X) : ∀ (n : Nat) (h : pH) (x1 : Int32) (x2 : Int32) (x3 : Int32) (x4 : Int32), fX9_timesBy_L5 N n h x1 x2 x3 x4 = some (v, h') → Wx X 5 5 [(0, rf (qo X) 49), (1, .int x1), (2, .int x2), (3, .int x3), (4, .int x4)] [] h := by
  intro n
  induction n with
  | zero => intro h x1 x2 x3 x4 hf; exact absurd (show (none : Option (Int32 × pH)) = some (v, h') from hf) (fun z => by cases z)
  | succ n ih => intro h x1 x2 x3 x4 hf; exact tX9_timesBy_B5 N (fX9_timesBy_L5 N n) ih h x1 x2 x3 x4 B hf
def fX9_timesBy (N : Nat) (h : pH) (x1 : Int32) (x2 : Int32) : Option (Int32 × pH) :=
  fX9_timesBy_L5 N N h x1 x2 0 0
set_option maxRecDepth 100000 in
set_option maxHeartbeats 4000000 in
theorem tX9_timesBy {X : Xt} {v : Int32} {h' : pH} (N : Nat) (h : pH) (x1 : Int32) (x2 : Int32) (B : Bd (lo X) (qo X) cX9_timesBy RX9 5 (some .int) 0 0 (some (.int v)) h' X) (hf : fX9_timesBy N h x1 x2 = some (v, h')) : Wx X 5 0 [(0, rf (qo X) 49), (1, .int x1), (2, .int x2)] [] h := by
  have C := B.1
  unfold fX9_timesBy at hf
  refine x_iconst (v := 0) C dX9_timesBy_0 (by decide) ?_
  refine x_istore_n (i := 3) (lv' := [(3, .int 0), (0, rf (qo X) 49), (1, .int x1), (2, .int x2)]) C dX9_timesBy_1 rfl (by decide) rfl ?_
  refine x_iconst (v := 0) C dX9_timesBy_2 (by decide) ?_
  refine x_istore (lv' := [(4, .int 0), (3, .int 0), (0, rf (qo X) 49), (1, .int x1), (2, .int x2)]) C dX9_timesBy_3 (by decide) rfl ?_
  refine x_lv [2, 3, 4, 1, 0] rfl ?_
  exact tX9_timesBy_L5 N  B N h x1 x2 0 0 hf
theorem ctX9_timesBy (l : Launch) (q : Nat → Nat) (N : Nat) (h : pH) (x1 : Int32) (x2 : Int32) (v : Int32) (h' : pH) (hf : fX9_timesBy N h x1 x2 = some (v, h')) : Ctr l q yX9_timesBy cX9_timesBy 5 (some .int) 0 0 [rf q 49, .int x1, .int x2] h h' (some (.int v)) := by
  refine ct_of (own := RX9) (lv := [(0, rf q 49), (1, .int x1), (2, .int x2)]) (by decide +kernel) rfl (by simp [lg_sl, rf_cat, cat_i, cat_l]) (by first | rfl | simp [lv_args, rf_cat, cat_i, cat_l]) ?_
  intro X B
  obtain rfl := B.2.1
  obtain rfl := B.2.2.1
  exact tX9_timesBy N h x1 x2 B hf
def fX9_times_b30 (N : Nat) (h : pH) (xs0 : Int32) : Option (Int32 × pH) :=
  some (xs0, h)
set_option maxRecDepth 100000 in
set_option maxHeartbeats 4000000 in
theorem tX9_times_b30 {X : Xt} {v : Int32} {h' : pH} (N : Nat) (h : pH) (xs0 : Int32) (B : Bd (lo X) (qo X) cX9_times RX9 3 (some .int) 5 110 (some (.int v)) h' X) (hf : fX9_times_b30 N h xs0 = some (v, h')) : Wx X 3 30 [] [.int xs0] h := by
  have C := B.1
  unfold fX9_times_b30 at hf
  obtain ⟨rfl, rfl⟩ := rtn hf
  exact B.2.2.2.2.2.1 _ _ rfl rfl rfl _ _ dX9_times_30
def fX9_times_b28 (N : Nat) (h : pH)  : Option (Int32 × pH) :=
  fX9_times_b30 N h (-2)
set_option maxRecDepth 100000 in
set_option maxHeartbeats 4000000 in
theorem tX9_times_b28 {X : Xt} {v : Int32} {h' : pH} (N : Nat) (h : pH)  (B : Bd (lo X) (qo X) cX9_times RX9 3 (some .int) 5 110 (some (.int v)) h' X) (hf : fX9_times_b28 N h  = some (v, h')) : Wx X 3 28 [] [] h := by
  have C := B.1
  unfold fX9_times_b28 at hf
  refine x_bipush (v := (-2)) C dX9_times_28 (by decide) ?_
  exact tX9_times_b30 N h (-2) B hf
def fX9_times (N : Nat) (h : pH) (x1 : Int32) (x2 : Int32) : Option (Int32 × pH) :=
  (fX9_find N h).bind fun z1 => ((fX9_isCrosser N z1.2 x1).bind fun z2 => (if z2.1 = 0 then (fX9_times_b28 N z2.2) else ((fX9_isTwo N z2.2 x2).bind fun z3 => (if z3.1 = 0 then (fX9_times_b28 N z3.2) else ((fX9_timesBy N z3.2 x1 x2).bind fun z4 => (fX9_times_b30 N z4.2 z4.1))))))
set_option maxRecDepth 100000 in
set_option maxHeartbeats 4000000 in
theorem tX9_times {X : Xt} {v : Int32} {h' : pH} (N : Nat) (h : pH) (x1 : Int32) (x2 : Int32) (B : Bd (lo X) (qo X) cX9_times RX9 3 (some .int) 5 110 (some (.int v)) h' X) (hf : fX9_times N h x1 x2 = some (v, h')) : Wx X 3 0 [(0, rf (qo X) 49), (1, .int x1), (2, .int x2)] [] h := by
  have C := B.1
  unfold fX9_times at hf
  refine x_aload_n (i := 0) 0 C dX9_times_0 rfl rfl ?_
  obtain ⟨z1, e1, hf⟩ := bnd hf
  refine x_callV (r := 49) (As := []) (rest := []) C dX9_times_1 kmX9_196 miX9_find (ctX9_find (lo X) (qo X) N h z1.1 z1.2 e1) rfl rfl ⟨Nat.le_trans (by decide) B.2.2.2.1, Nat.le_trans (by decide) B.2.2.2.2.1⟩ (by simp [cat_i, cat_l, rf_cat]) rfl ?_
  refine x_aload_n (i := 0) 0 C dX9_times_4 rfl rfl ?_
  refine x_iload_n (i := 1) 1 C dX9_times_5 rfl rfl ?_
  obtain ⟨z2, e2, hf⟩ := bnd hf
  refine x_callV (r := 49) (As := [.int x1]) (rest := []) C dX9_times_6 kmX9_143 miX9_isCrosser (ctX9_isCrosser (lo X) (qo X) N z1.2 x1 z2.1 z2.2 e2) rfl rfl ⟨Nat.le_trans (by decide) B.2.2.2.1, Nat.le_trans (by decide) B.2.2.2.2.1⟩ (by simp [cat_i, cat_l, rf_cat]) rfl ?_
  refine x_if_eq (tgt := 28) C dX9_times_9 (by decide) (fun c => ?_) (fun c => ?_)
  · rw [if_pos c] at hf
    refine x_lv [] rfl ?_
    exact tX9_times_b28 N z2.2 B hf
  · rw [if_neg c] at hf
    refine x_iload_n (i := 2) 2 C dX9_times_12 rfl rfl ?_
    obtain ⟨z3, e3, hf⟩ := bnd hf
    refine x_callS (As := [.int x2]) (rest := []) C dX9_times_13 kmX9_148 miX9_isTwo (ctX9_isTwo (lo X) (qo X) N z2.2 x2 z3.1 z3.2 e3) rfl rfl ⟨Nat.le_trans (by decide) B.2.2.2.1, Nat.le_trans (by decide) B.2.2.2.2.1⟩ (by simp [cat_i, cat_l, rf_cat]) ?_
    refine x_if_eq (tgt := 28) C dX9_times_16 (by decide) (fun c => ?_) (fun c => ?_)
    · rw [if_pos c] at hf
      refine x_lv [] rfl ?_
      exact tX9_times_b28 N z3.2 B hf
    · rw [if_neg c] at hf
      refine x_aload_n (i := 0) 0 C dX9_times_19 rfl rfl ?_
      refine x_iload_n (i := 1) 1 C dX9_times_20 rfl rfl ?_
      refine x_iload_n (i := 2) 2 C dX9_times_21 rfl rfl ?_
      obtain ⟨z4, e4, hf⟩ := bnd hf
      refine x_callV (r := 49) (As := [.int x1, .int x2]) (rest := []) C dX9_times_22 kmX9_202 miX9_timesBy (ctX9_timesBy (lo X) (qo X) N z3.2 x1 x2 z4.1 z4.2 e4) rfl rfl ⟨Nat.le_trans (by decide) B.2.2.2.1, Nat.le_trans (by decide) B.2.2.2.2.1⟩ (by simp [cat_i, cat_l, rf_cat]) rfl ?_
      refine x_goto (tgt := 30) C dX9_times_25 (by decide) ?_
      refine x_lv [] rfl ?_
      exact tX9_times_b30 N z4.2 z4.1 B hf
theorem ctX9_times (l : Launch) (q : Nat → Nat) (N : Nat) (h : pH) (x1 : Int32) (x2 : Int32) (v : Int32) (h' : pH) (hf : fX9_times N h x1 x2 = some (v, h')) : Ctr l q yX9_times cX9_times 3 (some .int) 5 110 [rf q 49, .int x1, .int x2] h h' (some (.int v)) := by
  refine ct_of (own := RX9) (lv := [(0, rf q 49), (1, .int x1), (2, .int x2)]) (by decide +kernel) rfl (by simp [lg_sl, rf_cat, cat_i, cat_l]) (by first | rfl | simp [lv_args, rf_cat, cat_i, cat_l]) ?_
  intro X B
  obtain rfl := B.2.1
  obtain rfl := B.2.2.1
  exact tX9_times N h x1 x2 B hf
def fX9_takenBy_B4 (N : Nat) (k4 : pH → Int32 → Int32 → Int32 → Option (Int32 × pH)) (h : pH) (x1 : Int32) (x2 : Int32) (x3 : Int32) : Option (Int32 × pH) :=
  if x1 ≤ x3 then (some (x2, h)) else (if ix x3 24 = true then (k4 h x1 (x2 + (h.1 63 x3.toNatClampNeg)) (x3 + 1)) else none)
set_option maxRecDepth 100000 in
set_option maxHeartbeats 4000000 in
theorem tX9_takenBy_B4 {X : Xt} {v : Int32} {h' : pH} (N : Nat) (k4 : pH → Int32 → Int32 → Int32 → Option (Int32 × pH)) (HK4 : ∀ (h : pH) (x1 : Int32) (x2 : Int32) (x3 : Int32), k4 h x1 x2 x3 = some (v, h') → Wx X 4 4 [(0, rf (qo X) 49), (1, .int x1), (2, .int x2), (3, .int x3)] [] h) (h : pH) (x1 : Int32) (x2 : Int32) (x3 : Int32) (B : Bd (lo X) (qo X) cX9_takenBy RX9 4 (some .int) 0 0 (some (.int v)) h' X) (hf : fX9_takenBy_B4 N k4 h x1 x2 x3 = some (v, h')) : Wx X 4 4 [(0, rf (qo X) 49), (1, .int x1), (2, .int x2), (3, .int x3)] [] h := by
  have C := B.1
  unfold fX9_takenBy_B4 at hf
  refine x_iload_n (i := 3) 3 C dX9_takenBy_4 rfl rfl ?_
  refine x_iload_n (i := 1) 1 C dX9_takenBy_5 rfl rfl ?_
  refine x_icmp_ge (tgt := 24) C dX9_takenBy_6 (by decide) (fun c => ?_) (fun c => ?_)
  · rw [if_pos c] at hf
    refine x_iload_n (i := 2) 2 C dX9_takenBy_24 rfl rfl ?_
    obtain ⟨rfl, rfl⟩ := rtn hf
    exact B.2.2.2.2.2.1 _ _ rfl rfl rfl _ _ dX9_takenBy_25
  · rw [if_neg c] at hf
    refine x_iload_n (i := 2) 2 C dX9_takenBy_9 rfl rfl ?_
    refine x_aload_n (i := 0) 0 C dX9_takenBy_10 rfl rfl ?_
    refine x_getR (r := 49) (r2 := 63) C dX9_takenBy_11 kfX9_49 rfl rfl (by decide) ?_
    refine x_iload_n (i := 3) 3 C dX9_takenBy_14 rfl rfl ?_
    obtain ⟨g1, hf⟩ := ife hf
    refine x_iald (r := 63) C dX9_takenBy_15 rfl g1 ?_
    refine x_iadd C dX9_takenBy_16 ?_
    refine x_istore_n (i := 2) (lv' := [(2, .int (x2 + (h.1 63 x3.toNatClampNeg))), (0, rf (qo X) 49), (1, .int x1), (3, .int x3)]) C dX9_takenBy_17 rfl (by decide) rfl ?_
    refine x_iinc (v := x3 + 1) (lv' := [(3, .int (x3 + 1)), (2, .int (x2 + (h.1 63 x3.toNatClampNeg))), (0, rf (qo X) 49), (1, .int x1)]) 3 C dX9_takenBy_18 rfl rfl (by decide) rfl ?_
    refine x_goto (tgt := 4) C dX9_takenBy_21 (by decide) ?_
    refine x_lv [2, 3, 1, 0] rfl ?_
    exact HK4 h x1 (x2 + (h.1 63 x3.toNatClampNeg)) (x3 + 1) hf
def fX9_takenBy_L4 (N : Nat) : Nat → pH → Int32 → Int32 → Int32 → Option (Int32 × pH)
  | 0 => fun _ _ _ _ => none
  | n + 1 => fX9_takenBy_B4 N (fX9_takenBy_L4 N n)
theorem tX9_takenBy_L4 {X : Xt} {v : Int32} {h' : pH} (N : Nat) (B : Bd (lo X) (qo X) cX9_takenBy RX9 4 (some .int) 0 0 (some (.int v)) h' X) : ∀ (n : Nat) (h : pH) (x1 : Int32) (x2 : Int32) (x3 : Int32), fX9_takenBy_L4 N n h x1 x2 x3 = some (v, h') → Wx X 4 4 [(0, rf (qo X) 49), (1, .int x1), (2, .int x2), (3, .int x3)] [] h := by
  intro n
  induction n with
  | zero => intro h x1 x2 x3 hf; exact absurd (show (none : Option (Int32 × pH)) = some (v, h') from hf) (fun z => by cases z)
  | succ n ih => intro h x1 x2 x3 hf; exact tX9_takenBy_B4 N (fX9_takenBy_L4 N n) ih h x1 x2 x3 B hf
def fX9_takenBy (N : Nat) (h : pH) (x1 : Int32) : Option (Int32 × pH) :=
  fX9_takenBy_L4 N N h x1 0 0
set_option maxRecDepth 100000 in
set_option maxHeartbeats 4000000 in
theorem tX9_takenBy {X : Xt} {v : Int32} {h' : pH} (N : Nat) (h : pH) (x1 : Int32) (B : Bd (lo X) (qo X) cX9_takenBy RX9 4 (some .int) 0 0 (some (.int v)) h' X) (hf : fX9_takenBy N h x1 = some (v, h')) : Wx X 4 0 [(0, rf (qo X) 49), (1, .int x1)] [] h := by
  have C := B.1
  unfold fX9_takenBy at hf
  refine x_iconst (v := 0) C dX9_takenBy_0 (by decide) ?_
  refine x_istore_n (i := 2) (lv' := [(2, .int 0), (0, rf (qo X) 49), (1, .int x1)]) C dX9_takenBy_1 rfl (by decide) rfl ?_
  refine x_iconst (v := 0) C dX9_takenBy_2 (by decide) ?_
  refine x_istore_n (i := 3) (lv' := [(3, .int 0), (2, .int 0), (0, rf (qo X) 49), (1, .int x1)]) C dX9_takenBy_3 rfl (by decide) rfl ?_
  refine x_lv [2, 3, 1, 0] rfl ?_
  exact tX9_takenBy_L4 N  B N h x1 0 0 hf
theorem ctX9_takenBy (l : Launch) (q : Nat → Nat) (N : Nat) (h : pH) (x1 : Int32) (v : Int32) (h' : pH) (hf : fX9_takenBy N h x1 = some (v, h')) : Ctr l q yX9_takenBy cX9_takenBy 4 (some .int) 0 0 [rf q 49, .int x1] h h' (some (.int v)) := by
  refine ct_of (own := RX9) (lv := [(0, rf q 49), (1, .int x1)]) (by decide +kernel) rfl (by simp [lg_sl, rf_cat, cat_i, cat_l]) (by first | rfl | simp [lv_args, rf_cat, cat_i, cat_l]) ?_
  intro X B
  obtain rfl := B.2.1
  obtain rfl := B.2.2.1
  exact tX9_takenBy N h x1 B hf
def fX9_taken_b28 (N : Nat) (h : pH) (xs0 : Int32) : Option (Int32 × pH) :=
  some (xs0, h)
set_option maxRecDepth 100000 in
set_option maxHeartbeats 4000000 in
theorem tX9_taken_b28 {X : Xt} {v : Int32} {h' : pH} (N : Nat) (h : pH) (xs0 : Int32) (B : Bd (lo X) (qo X) cX9_taken RX9 2 (some .int) 5 110 (some (.int v)) h' X) (hf : fX9_taken_b28 N h xs0 = some (v, h')) : Wx X 2 28 [] [.int xs0] h := by
  have C := B.1
  unfold fX9_taken_b28 at hf
  obtain ⟨rfl, rfl⟩ := rtn hf
  exact B.2.2.2.2.2.1 _ _ rfl rfl rfl _ _ dX9_taken_28
def fX9_taken (N : Nat) (h : pH) (x1 : Int32) : Option (Int32 × pH) :=
  (fX9_find N h).bind fun z1 => ((fX9_in N z1.2 x1.toInt64 0 ((z1.2.1 49 11).toInt64)).bind fun z2 => (if z2.1 = 0 then (fX9_taken_b28 N z2.2 (-2)) else ((fX9_takenBy N z2.2 x1).bind fun z3 => (fX9_taken_b28 N z3.2 z3.1))))
set_option maxRecDepth 100000 in
set_option maxHeartbeats 4000000 in
theorem tX9_taken {X : Xt} {v : Int32} {h' : pH} (N : Nat) (h : pH) (x1 : Int32) (B : Bd (lo X) (qo X) cX9_taken RX9 2 (some .int) 5 110 (some (.int v)) h' X) (hf : fX9_taken N h x1 = some (v, h')) : Wx X 2 0 [(0, rf (qo X) 49), (1, .int x1)] [] h := by
  have C := B.1
  unfold fX9_taken at hf
  refine x_aload_n (i := 0) 0 C dX9_taken_0 rfl rfl ?_
  obtain ⟨z1, e1, hf⟩ := bnd hf
  refine x_callV (r := 49) (As := []) (rest := []) C dX9_taken_1 kmX9_196 miX9_find (ctX9_find (lo X) (qo X) N h z1.1 z1.2 e1) rfl rfl ⟨Nat.le_trans (by decide) B.2.2.2.1, Nat.le_trans (by decide) B.2.2.2.2.1⟩ (by simp [cat_i, cat_l, rf_cat]) rfl ?_
  refine x_iload_n (i := 1) 1 C dX9_taken_4 rfl rfl ?_
  refine x_i2l C dX9_taken_5 ?_
  refine x_lconst (v := 0) C dX9_taken_6 (by decide) ?_
  refine x_aload_n (i := 0) 0 C dX9_taken_7 rfl rfl ?_
  refine x_getI (r := 49) C dX9_taken_8 kfX9_121 rfl ?_
  refine x_i2l C dX9_taken_11 ?_
  obtain ⟨z2, e2, hf⟩ := bnd hf
  refine x_callS (As := [.long x1.toInt64, .long 0, .long ((z1.2.1 49 11).toInt64)]) (rest := []) C dX9_taken_12 kmX9_69 miX9_in (ctX9_in (lo X) (qo X) N z1.2 x1.toInt64 0 ((z1.2.1 49 11).toInt64) z2.1 z2.2 e2) rfl rfl ⟨Nat.le_trans (by decide) B.2.2.2.1, Nat.le_trans (by decide) B.2.2.2.2.1⟩ (by simp [cat_i, cat_l, rf_cat]) ?_
  refine x_if_eq (tgt := 26) C dX9_taken_15 (by decide) (fun c => ?_) (fun c => ?_)
  · rw [if_pos c] at hf
    refine x_bipush (v := (-2)) C dX9_taken_26 (by decide) ?_
    refine x_lv [] rfl ?_
    exact tX9_taken_b28 N z2.2 (-2) B hf
  · rw [if_neg c] at hf
    refine x_aload_n (i := 0) 0 C dX9_taken_18 rfl rfl ?_
    refine x_iload_n (i := 1) 1 C dX9_taken_19 rfl rfl ?_
    obtain ⟨z3, e3, hf⟩ := bnd hf
    refine x_callV (r := 49) (As := [.int x1]) (rest := []) C dX9_taken_20 kmX9_205 miX9_takenBy (ctX9_takenBy (lo X) (qo X) N z2.2 x1 z3.1 z3.2 e3) rfl rfl ⟨Nat.le_trans (by decide) B.2.2.2.1, Nat.le_trans (by decide) B.2.2.2.2.1⟩ (by simp [cat_i, cat_l, rf_cat]) rfl ?_
    refine x_goto (tgt := 28) C dX9_taken_23 (by decide) ?_
    refine x_lv [] rfl ?_
    exact tX9_taken_b28 N z3.2 z3.1 B hf
theorem ctX9_taken (l : Launch) (q : Nat → Nat) (N : Nat) (h : pH) (x1 : Int32) (v : Int32) (h' : pH) (hf : fX9_taken N h x1 = some (v, h')) : Ctr l q yX9_taken cX9_taken 2 (some .int) 5 110 [rf q 49, .int x1] h h' (some (.int v)) := by
  refine ct_of (own := RX9) (lv := [(0, rf q 49), (1, .int x1)]) (by decide +kernel) rfl (by simp [lg_sl, rf_cat, cat_i, cat_l]) (by first | rfl | simp [lv_args, rf_cat, cat_i, cat_l]) ?_
  intro X B
  obtain rfl := B.2.1
  obtain rfl := B.2.2.1
  exact tX9_taken N h x1 B hf
def fX9_stuckNow_B2 (N : Nat) (k2 : pH → Int32 → Option (Int32 × pH)) (h : pH) (x1 : Int32) : Option (Int32 × pH) :=
  if (h.1 49 11) ≤ x1 then (some ((-1), h)) else (if ix x1 24 = true then (if (h.1 62 x1.toNatClampNeg) = 2 then (some (x1, h)) else (k2 h (x1 + 1))) else none)
set_option maxRecDepth 100000 in
set_option maxHeartbeats 4000000 in
theorem tX9_stuckNow_B2 {X : Xt} {v : Int32} {h' : pH} (N : Nat) (k2 : pH → Int32 → Option (Int32 × pH)) (HK2 : ∀ (h : pH) (x1 : Int32), k2 h x1 = some (v, h') → Wx X 2 2 [(0, rf (qo X) 49), (1, .int x1)] [] h) (h : pH) (x1 : Int32) (B : Bd (lo X) (qo X) cX9_stuckNow RX9 2 (some .int) 0 0 (some (.int v)) h' X) (hf : fX9_stuckNow_B2 N k2 h x1 = some (v, h')) : Wx X 2 2 [(0, rf (qo X) 49), (1, .int x1)] [] h := by
  have C := B.1
  unfold fX9_stuckNow_B2 at hf
  refine x_iload_n (i := 1) 1 C dX9_stuckNow_2 rfl rfl ?_
  refine x_aload_n (i := 0) 0 C dX9_stuckNow_3 rfl rfl ?_
  refine x_getI (r := 49) C dX9_stuckNow_4 kfX9_121 rfl ?_
  refine x_icmp_ge (tgt := 28) C dX9_stuckNow_7 (by decide) (fun c => ?_) (fun c => ?_)
  · rw [if_pos c] at hf
    refine x_iconst (v := (-1)) C dX9_stuckNow_28 (by decide) ?_
    obtain ⟨rfl, rfl⟩ := rtn hf
    exact B.2.2.2.2.2.1 _ _ rfl rfl rfl _ _ dX9_stuckNow_29
  · rw [if_neg c] at hf
    refine x_aload_n (i := 0) 0 C dX9_stuckNow_10 rfl rfl ?_
    refine x_getR (r := 49) (r2 := 62) C dX9_stuckNow_11 kfX9_46 rfl rfl (by decide) ?_
    refine x_iload_n (i := 1) 1 C dX9_stuckNow_14 rfl rfl ?_
    obtain ⟨g1, hf⟩ := ife hf
    refine x_iald (r := 62) C dX9_stuckNow_15 rfl g1 ?_
    refine x_iconst (v := 2) C dX9_stuckNow_16 (by decide) ?_
    refine x_icmp_ne (tgt := 22) C dX9_stuckNow_17 (by decide) (fun c => ?_) (fun c => ?_)
    · rw [if_neg c] at hf
      refine x_iinc (v := x1 + 1) (lv' := [(1, .int (x1 + 1)), (0, rf (qo X) 49)]) 1 C dX9_stuckNow_22 rfl rfl (by decide) rfl ?_
      refine x_goto (tgt := 2) C dX9_stuckNow_25 (by decide) ?_
      refine x_lv [1, 0] rfl ?_
      exact HK2 h (x1 + 1) hf
    · rw [if_pos c] at hf
      refine x_iload_n (i := 1) 1 C dX9_stuckNow_20 rfl rfl ?_
      obtain ⟨rfl, rfl⟩ := rtn hf
      exact B.2.2.2.2.2.1 _ _ rfl rfl rfl _ _ dX9_stuckNow_21
def fX9_stuckNow_L2 (N : Nat) : Nat → pH → Int32 → Option (Int32 × pH)
  | 0 => fun _ _ => none
  | n + 1 => fX9_stuckNow_B2 N (fX9_stuckNow_L2 N n)
theorem tX9_stuckNow_L2 {X : Xt} {v : Int32} {h' : pH} (N : Nat) (B : Bd (lo X) (qo X) cX9_stuckNow RX9 2 (some .int) 0 0 (some (.int v)) h' X) : ∀ (n : Nat) (h : pH) (x1 : Int32), fX9_stuckNow_L2 N n h x1 = some (v, h') → Wx X 2 2 [(0, rf (qo X) 49), (1, .int x1)] [] h := by
  intro n
  induction n with
  | zero => intro h x1 hf; exact absurd (show (none : Option (Int32 × pH)) = some (v, h') from hf) (fun z => by cases z)
  | succ n ih => intro h x1 hf; exact tX9_stuckNow_B2 N (fX9_stuckNow_L2 N n) ih h x1 B hf
def fX9_stuckNow (N : Nat) (h : pH)  : Option (Int32 × pH) :=
  fX9_stuckNow_L2 N N h 0
set_option maxRecDepth 100000 in
set_option maxHeartbeats 4000000 in
theorem tX9_stuckNow {X : Xt} {v : Int32} {h' : pH} (N : Nat) (h : pH)  (B : Bd (lo X) (qo X) cX9_stuckNow RX9 2 (some .int) 0 0 (some (.int v)) h' X) (hf : fX9_stuckNow N h  = some (v, h')) : Wx X 2 0 [(0, rf (qo X) 49)] [] h := by
  have C := B.1
  unfold fX9_stuckNow at hf
  refine x_iconst (v := 0) C dX9_stuckNow_0 (by decide) ?_
  refine x_istore_n (i := 1) (lv' := [(1, .int 0), (0, rf (qo X) 49)]) C dX9_stuckNow_1 rfl (by decide) rfl ?_
  refine x_lv [1, 0] rfl ?_
  exact tX9_stuckNow_L2 N  B N h 0 hf
theorem ctX9_stuckNow (l : Launch) (q : Nat → Nat) (N : Nat) (h : pH)  (v : Int32) (h' : pH) (hf : fX9_stuckNow N h  = some (v, h')) : Ctr l q yX9_stuckNow cX9_stuckNow 2 (some .int) 0 0 [rf q 49] h h' (some (.int v)) := by
  refine ct_of (own := RX9) (lv := [(0, rf q 49)]) (by decide +kernel) rfl (by simp [lg_sl, rf_cat, cat_i, cat_l]) (by first | rfl | simp [lv_args, rf_cat, cat_i, cat_l]) ?_
  intro X B
  obtain rfl := B.2.1
  obtain rfl := B.2.2.1
  exact tX9_stuckNow N h  B hf
def fX9_stuck (N : Nat) (h : pH)  : Option (Int32 × pH) :=
  (fX9_find N h).bind fun z1 => ((fX9_stuckNow N z1.2).bind fun z2 => (some (z2.1, z2.2)))
set_option maxRecDepth 100000 in
set_option maxHeartbeats 4000000 in
theorem tX9_stuck {X : Xt} {v : Int32} {h' : pH} (N : Nat) (h : pH)  (B : Bd (lo X) (qo X) cX9_stuck RX9 1 (some .int) 5 110 (some (.int v)) h' X) (hf : fX9_stuck N h  = some (v, h')) : Wx X 1 0 [(0, rf (qo X) 49)] [] h := by
  have C := B.1
  unfold fX9_stuck at hf
  refine x_aload_n (i := 0) 0 C dX9_stuck_0 rfl rfl ?_
  obtain ⟨z1, e1, hf⟩ := bnd hf
  refine x_callV (r := 49) (As := []) (rest := []) C dX9_stuck_1 kmX9_196 miX9_find (ctX9_find (lo X) (qo X) N h z1.1 z1.2 e1) rfl rfl ⟨Nat.le_trans (by decide) B.2.2.2.1, Nat.le_trans (by decide) B.2.2.2.2.1⟩ (by simp [cat_i, cat_l, rf_cat]) rfl ?_
  refine x_aload_n (i := 0) 0 C dX9_stuck_4 rfl rfl ?_
  obtain ⟨z2, e2, hf⟩ := bnd hf
  refine x_callV (r := 49) (As := []) (rest := []) C dX9_stuck_5 kmX9_208 miX9_stuckNow (ctX9_stuckNow (lo X) (qo X) N z1.2 z2.1 z2.2 e2) rfl rfl ⟨Nat.le_trans (by decide) B.2.2.2.1, Nat.le_trans (by decide) B.2.2.2.2.1⟩ (by simp [cat_i, cat_l, rf_cat]) rfl ?_
  obtain ⟨rfl, rfl⟩ := rtn hf
  exact B.2.2.2.2.2.1 _ _ rfl rfl rfl _ _ dX9_stuck_8
theorem ctX9_stuck (l : Launch) (q : Nat → Nat) (N : Nat) (h : pH)  (v : Int32) (h' : pH) (hf : fX9_stuck N h  = some (v, h')) : Ctr l q yX9_stuck cX9_stuck 1 (some .int) 5 110 [rf q 49] h h' (some (.int v)) := by
  refine ct_of (own := RX9) (lv := [(0, rf q 49)]) (by decide +kernel) rfl (by simp [lg_sl, rf_cat, cat_i, cat_l]) (by first | rfl | simp [lv_args, rf_cat, cat_i, cat_l]) ?_
  intro X B
  obtain rfl := B.2.1
  obtain rfl := B.2.2.1
  exact tX9_stuck N h  B hf
def fX9_wornNow_b67 (N : Nat) (k6 : pH → Int32 → Int32 → Int32 → Option (Int32 × pH)) (h : pH) (x2 : Int32) (x3 : Int32) (x4 : Int32) (xs0 : Int32) : Option (Int32 × pH) :=
  (fX9_greater N h x4 x2).bind fun z1 => (k6 z1.2 xs0 z1.1 (x3 + 1))
set_option maxRecDepth 100000 in
set_option maxHeartbeats 4000000 in
theorem tX9_wornNow_b67 {X : Xt} {v : Int32} {h' : pH} (N : Nat) (k6 : pH → Int32 → Int32 → Int32 → Option (Int32 × pH)) (HK6 : ∀ (h : pH) (x1 : Int32) (x2 : Int32) (x3 : Int32), k6 h x1 x2 x3 = some (v, h') → Wx X 6 6 [(0, rf (qo X) 49), (1, .int x1), (2, .int x2), (3, .int x3)] [] h) (h : pH) (x2 : Int32) (x3 : Int32) (x4 : Int32) (xs0 : Int32) (B : Bd (lo X) (qo X) cX9_wornNow RX9 6 (some .int) 1 21 (some (.int v)) h' X) (hf : fX9_wornNow_b67 N k6 h x2 x3 x4 xs0 = some (v, h')) : Wx X 6 67 [(0, rf (qo X) 49), (2, .int x2), (3, .int x3), (4, .int x4)] [.int xs0] h := by
  have C := B.1
  unfold fX9_wornNow_b67 at hf
  refine x_istore_n (i := 1) (lv' := [(1, .int xs0), (0, rf (qo X) 49), (2, .int x2), (3, .int x3), (4, .int x4)]) C dX9_wornNow_67 rfl (by decide) rfl ?_
  refine x_iload 4 C dX9_wornNow_68 rfl ?_
  refine x_iload_n (i := 2) 2 C dX9_wornNow_70 rfl rfl ?_
  obtain ⟨z1, e1, hf⟩ := bnd hf
  refine x_callS (As := [.int x4, .int x2]) (rest := []) C dX9_wornNow_71 kmX9_168 miX9_greater (ctX9_greater (lo X) (qo X) N h x4 x2 z1.1 z1.2 e1) rfl rfl ⟨Nat.le_trans (by decide) B.2.2.2.1, Nat.le_trans (by decide) B.2.2.2.2.1⟩ (by simp [cat_i, cat_l, rf_cat]) ?_
  refine x_istore_n (i := 2) (lv' := [(2, .int z1.1), (1, .int xs0), (0, rf (qo X) 49), (3, .int x3), (4, .int x4)]) C dX9_wornNow_74 rfl (by decide) rfl ?_
  refine x_iinc (v := x3 + 1) (lv' := [(3, .int (x3 + 1)), (2, .int z1.1), (1, .int xs0), (0, rf (qo X) 49), (4, .int x4)]) 3 C dX9_wornNow_75 rfl rfl (by decide) rfl ?_
  refine x_goto (tgt := 6) C dX9_wornNow_78 (by decide) ?_
  refine x_lv [3, 2, 1, 0] rfl ?_
  exact HK6 z1.2 xs0 z1.1 (x3 + 1) hf
def fX9_wornNow_b47 (N : Nat) (k6 : pH → Int32 → Int32 → Int32 → Option (Int32 × pH)) (k20 : pH → Int32 → Int32 → Int32 → Int32 → Int32 → Option (Int32 × pH)) (h : pH) (x1 : Int32) (x2 : Int32) (x3 : Int32) (x5 : Int32) (xs0 : Int32) (xs1 : Int32) : Option (Int32 × pH) :=
  k20 h x1 x2 x3 (xs1 + xs0) (x5 + 1)
set_option maxRecDepth 100000 in
set_option maxHeartbeats 4000000 in
theorem tX9_wornNow_b47 {X : Xt} {v : Int32} {h' : pH} (N : Nat) (k6 : pH → Int32 → Int32 → Int32 → Option (Int32 × pH)) (k20 : pH → Int32 → Int32 → Int32 → Int32 → Int32 → Option (Int32 × pH)) (HK6 : ∀ (h : pH) (x1 : Int32) (x2 : Int32) (x3 : Int32), k6 h x1 x2 x3 = some (v, h') → Wx X 6 6 [(0, rf (qo X) 49), (1, .int x1), (2, .int x2), (3, .int x3)] [] h) (HK20 : ∀ (h : pH) (x1 : Int32) (x2 : Int32) (x3 : Int32) (x4 : Int32) (x5 : Int32), k20 h x1 x2 x3 x4 x5 = some (v, h') → Wx X 6 20 [(0, rf (qo X) 49), (1, .int x1), (2, .int x2), (3, .int x3), (4, .int x4), (5, .int x5)] [] h) (h : pH) (x1 : Int32) (x2 : Int32) (x3 : Int32) (x5 : Int32) (xs0 : Int32) (xs1 : Int32) (B : Bd (lo X) (qo X) cX9_wornNow RX9 6 (some .int) 1 21 (some (.int v)) h' X) (hf : fX9_wornNow_b47 N k6 k20 h x1 x2 x3 x5 xs0 xs1 = some (v, h')) : Wx X 6 47 [(0, rf (qo X) 49), (1, .int x1), (2, .int x2), (3, .int x3), (5, .int x5)] [.int xs0, .int xs1] h := by
  have C := B.1
  unfold fX9_wornNow_b47 at hf
  refine x_iadd C dX9_wornNow_47 ?_
  refine x_istore (lv' := [(4, .int (xs1 + xs0)), (0, rf (qo X) 49), (1, .int x1), (2, .int x2), (3, .int x3), (5, .int x5)]) C dX9_wornNow_48 (by decide) rfl ?_
  refine x_iinc (v := x5 + 1) (lv' := [(5, .int (x5 + 1)), (4, .int (xs1 + xs0)), (0, rf (qo X) 49), (1, .int x1), (2, .int x2), (3, .int x3)]) 5 C dX9_wornNow_50 rfl rfl (by decide) rfl ?_
  refine x_goto (tgt := 20) C dX9_wornNow_53 (by decide) ?_
  refine x_lv [2, 3, 4, 5, 1, 0] rfl ?_
  exact HK20 h x1 x2 x3 (xs1 + xs0) (x5 + 1) hf
def fX9_wornNow_B20 (N : Nat) (k6 : pH → Int32 → Int32 → Int32 → Option (Int32 × pH)) (k20 : pH → Int32 → Int32 → Int32 → Int32 → Int32 → Option (Int32 × pH)) (h : pH) (x1 : Int32) (x2 : Int32) (x3 : Int32) (x4 : Int32) (x5 : Int32) : Option (Int32 × pH) :=
  if (h.1 49 11) < x5 then (if x4 ≤ x2 then (fX9_wornNow_b67 N k6 h x2 x3 x4 x1) else (fX9_wornNow_b67 N k6 h x2 x3 x4 x3)) else (if ix x5 25 = true then (if (h.1 61 x5.toNatClampNeg) = x3 then (fX9_wornNow_b47 N k6 k20 h x1 x2 x3 x5 1 x4) else (fX9_wornNow_b47 N k6 k20 h x1 x2 x3 x5 0 x4)) else none)
set_option maxRecDepth 100000 in
set_option maxHeartbeats 4000000 in
theorem tX9_wornNow_B20 {X : Xt} {v : Int32} {h' : pH} (N : Nat) (k6 : pH → Int32 → Int32 → Int32 → Option (Int32 × pH)) (k20 : pH → Int32 → Int32 → Int32 → Int32 → Int32 → Option (Int32 × pH)) (HK6 : ∀ (h : pH) (x1 : Int32) (x2 : Int32) (x3 : Int32), k6 h x1 x2 x3 = some (v, h') → Wx X 6 6 [(0, rf (qo X) 49), (1, .int x1), (2, .int x2), (3, .int x3)] [] h) (HK20 : ∀ (h : pH) (x1 : Int32) (x2 : Int32) (x3 : Int32) (x4 : Int32) (x5 : Int32), k20 h x1 x2 x3 x4 x5 = some (v, h') → Wx X 6 20 [(0, rf (qo X) 49), (1, .int x1), (2, .int x2), (3, .int x3), (4, .int x4), (5, .int x5)] [] h) (h : pH) (x1 : Int32) (x2 : Int32) (x3 : Int32) (x4 : Int32) (x5 : Int32) (B : Bd (lo X) (qo X) cX9_wornNow RX9 6 (some .int) 1 21 (some (.int v)) h' X) (hf : fX9_wornNow_B20 N k6 k20 h x1 x2 x3 x4 x5 = some (v, h')) : Wx X 6 20 [(0, rf (qo X) 49), (1, .int x1), (2, .int x2), (3, .int x3), (4, .int x4), (5, .int x5)] [] h := by
  have C := B.1
  unfold fX9_wornNow_B20 at hf
  refine x_iload 5 C dX9_wornNow_20 rfl ?_
  refine x_aload_n (i := 0) 0 C dX9_wornNow_22 rfl rfl ?_
  refine x_getI (r := 49) C dX9_wornNow_23 kfX9_121 rfl ?_
  refine x_icmp_gt (tgt := 56) C dX9_wornNow_26 (by decide) (fun c => ?_) (fun c => ?_)
  · rw [if_pos c] at hf
    refine x_iload 4 C dX9_wornNow_56 rfl ?_
    refine x_iload_n (i := 2) 2 C dX9_wornNow_58 rfl rfl ?_
    refine x_icmp_le (tgt := 66) C dX9_wornNow_59 (by decide) (fun c => ?_) (fun c => ?_)
    · rw [if_pos c] at hf
      refine x_iload_n (i := 1) 1 C dX9_wornNow_66 rfl rfl ?_
      refine x_lv [0, 2, 3, 4] rfl ?_
      exact tX9_wornNow_b67 N k6 HK6 h x2 x3 x4 x1 B hf
    · rw [if_neg c] at hf
      refine x_iload_n (i := 3) 3 C dX9_wornNow_62 rfl rfl ?_
      refine x_goto (tgt := 67) C dX9_wornNow_63 (by decide) ?_
      refine x_lv [0, 2, 3, 4] rfl ?_
      exact tX9_wornNow_b67 N k6 HK6 h x2 x3 x4 x3 B hf
  · rw [if_neg c] at hf
    refine x_iload 4 C dX9_wornNow_29 rfl ?_
    refine x_aload_n (i := 0) 0 C dX9_wornNow_31 rfl rfl ?_
    refine x_getR (r := 49) (r2 := 61) C dX9_wornNow_32 kfX9_43 rfl rfl (by decide) ?_
    refine x_iload 5 C dX9_wornNow_35 rfl ?_
    obtain ⟨g1, hf⟩ := ife hf
    refine x_iald (r := 61) C dX9_wornNow_37 rfl g1 ?_
    refine x_iload_n (i := 3) 3 C dX9_wornNow_38 rfl rfl ?_
    refine x_icmp_ne (tgt := 46) C dX9_wornNow_39 (by decide) (fun c => ?_) (fun c => ?_)
    · rw [if_neg c] at hf
      refine x_iconst (v := 0) C dX9_wornNow_46 (by decide) ?_
      refine x_lv [0, 1, 2, 3, 5] rfl ?_
      exact tX9_wornNow_b47 N k6 k20 HK6 HK20 h x1 x2 x3 x5 0 x4 B hf
    · rw [if_pos c] at hf
      refine x_iconst (v := 1) C dX9_wornNow_42 (by decide) ?_
      refine x_goto (tgt := 47) C dX9_wornNow_43 (by decide) ?_
      refine x_lv [0, 1, 2, 3, 5] rfl ?_
      exact tX9_wornNow_b47 N k6 k20 HK6 HK20 h x1 x2 x3 x5 1 x4 B hf
def fX9_wornNow_L20 (N : Nat) (k6 : pH → Int32 → Int32 → Int32 → Option (Int32 × pH)) : Nat → pH → Int32 → Int32 → Int32 → Int32 → Int32 → Option (Int32 × pH)
  | 0 => fun _ _ _ _ _ _ => none
  | n + 1 => fX9_wornNow_B20 N k6 (fX9_wornNow_L20 N k6 n)
theorem tX9_wornNow_L20 {X : Xt} {v : Int32} {h' : pH} (N : Nat) (k6 : pH → Int32 → Int32 → Int32 → Option (Int32 × pH)) (HK6 : ∀ (h : pH) (x1 : Int32) (x2 : Int32) (x3 : Int32), k6 h x1 x2 x3 = some (v, h') → Wx X 6 6 [(0, rf (qo X) 49), (1, .int x1), (2, .int x2), (3, .int x3)] [] h) (B : Bd (lo X) (qo X) cX9_wornNow RX9 6 (some .int) 1 21 (some (.int v)) h' X) : ∀ (n : Nat) (h : pH) (x1 : Int32) (x2 : Int32) (x3 : Int32) (x4 : Int32) (x5 : Int32), fX9_wornNow_L20 N k6 n h x1 x2 x3 x4 x5 = some (v, h') → Wx X 6 20 [(0, rf (qo X) 49), (1, .int x1), (2, .int x2), (3, .int x3), (4, .int x4), (5, .int x5)] [] h := by
  intro n
  induction n with
  | zero => intro h x1 x2 x3 x4 x5 hf; exact absurd (show (none : Option (Int32 × pH)) = some (v, h') from hf) (fun z => by cases z)
  | succ n ih => intro h x1 x2 x3 x4 x5 hf; exact tX9_wornNow_B20 N k6 (fX9_wornNow_L20 N k6 n) HK6 ih h x1 x2 x3 x4 x5 B hf
def fX9_wornNow_B6 (N : Nat) (k6 : pH → Int32 → Int32 → Int32 → Option (Int32 × pH)) (h : pH) (x1 : Int32) (x2 : Int32) (x3 : Int32) : Option (Int32 × pH) :=
  if (h.1 49 7) ≤ x3 then (some (x1, h)) else (fX9_wornNow_L20 N k6 N h x1 x2 x3 0 0)
set_option maxRecDepth 100000 in
set_option maxHeartbeats 4000000 in
theorem tX9_wornNow_B6 {X : Xt} {v : Int32} {h' : pH} (N : Nat) (k6 : pH → Int32 → Int32 → Int32 → Option (Int32 × pH)) (HK6 : ∀ (h : pH) (x1 : Int32) (x2 : Int32) (x3 : Int32), k6 h x1 x2 x3 = some (v, h') → Wx X 6 6 [(0, rf (qo X) 49), (1, .int x1), (2, .int x2), (3, .int x3)] [] h) (h : pH) (x1 : Int32) (x2 : Int32) (x3 : Int32) (B : Bd (lo X) (qo X) cX9_wornNow RX9 6 (some .int) 1 21 (some (.int v)) h' X) (hf : fX9_wornNow_B6 N k6 h x1 x2 x3 = some (v, h')) : Wx X 6 6 [(0, rf (qo X) 49), (1, .int x1), (2, .int x2), (3, .int x3)] [] h := by
  have C := B.1
  unfold fX9_wornNow_B6 at hf
  refine x_iload_n (i := 3) 3 C dX9_wornNow_6 rfl rfl ?_
  refine x_aload_n (i := 0) 0 C dX9_wornNow_7 rfl rfl ?_
  refine x_getI (r := 49) C dX9_wornNow_8 kfX9_103 rfl ?_
  refine x_icmp_ge (tgt := 81) C dX9_wornNow_11 (by decide) (fun c => ?_) (fun c => ?_)
  · rw [if_pos c] at hf
    refine x_iload_n (i := 1) 1 C dX9_wornNow_81 rfl rfl ?_
    obtain ⟨rfl, rfl⟩ := rtn hf
    exact B.2.2.2.2.2.1 _ _ rfl rfl rfl _ _ dX9_wornNow_82
  · rw [if_neg c] at hf
    refine x_iconst (v := 0) C dX9_wornNow_14 (by decide) ?_
    refine x_istore (lv' := [(4, .int 0), (0, rf (qo X) 49), (1, .int x1), (2, .int x2), (3, .int x3)]) C dX9_wornNow_15 (by decide) rfl ?_
    refine x_iconst (v := 0) C dX9_wornNow_17 (by decide) ?_
    refine x_istore (lv' := [(5, .int 0), (4, .int 0), (0, rf (qo X) 49), (1, .int x1), (2, .int x2), (3, .int x3)]) C dX9_wornNow_18 (by decide) rfl ?_
    refine x_lv [2, 3, 4, 5, 1, 0] rfl ?_
    exact tX9_wornNow_L20 N k6 HK6  B N h x1 x2 x3 0 0 hf
def fX9_wornNow_L6 (N : Nat) : Nat → pH → Int32 → Int32 → Int32 → Option (Int32 × pH)
  | 0 => fun _ _ _ _ => none
  | n + 1 => fX9_wornNow_B6 N (fX9_wornNow_L6 N n)
theorem tX9_wornNow_L6 {X : Xt} {v : Int32} {h' : pH} (N : Nat) (B : Bd (lo X) (qo X) cX9_wornNow RX9 6 (some .int) 1 21 (some (.int v)) h' X) : ∀ (n : Nat) (h : pH) (x1 : Int32) (x2 : Int32) (x3 : Int32), fX9_wornNow_L6 N n h x1 x2 x3 = some (v, h') → Wx X 6 6 [(0, rf (qo X) 49), (1, .int x1), (2, .int x2), (3, .int x3)] [] h := by
  intro n
  induction n with
  | zero => intro h x1 x2 x3 hf; exact absurd (show (none : Option (Int32 × pH)) = some (v, h') from hf) (fun z => by cases z)
  | succ n ih => intro h x1 x2 x3 hf; exact tX9_wornNow_B6 N (fX9_wornNow_L6 N n) ih h x1 x2 x3 B hf
def fX9_wornNow (N : Nat) (h : pH)  : Option (Int32 × pH) :=
  fX9_wornNow_L6 N N h (-1) 0 0
set_option maxRecDepth 100000 in
set_option maxHeartbeats 4000000 in
theorem tX9_wornNow {X : Xt} {v : Int32} {h' : pH} (N : Nat) (h : pH)  (B : Bd (lo X) (qo X) cX9_wornNow RX9 6 (some .int) 1 21 (some (.int v)) h' X) (hf : fX9_wornNow N h  = some (v, h')) : Wx X 6 0 [(0, rf (qo X) 49)] [] h := by
  have C := B.1
  unfold fX9_wornNow at hf
  refine x_iconst (v := (-1)) C dX9_wornNow_0 (by decide) ?_
  refine x_istore_n (i := 1) (lv' := [(1, .int (-1)), (0, rf (qo X) 49)]) C dX9_wornNow_1 rfl (by decide) rfl ?_
  refine x_iconst (v := 0) C dX9_wornNow_2 (by decide) ?_
  refine x_istore_n (i := 2) (lv' := [(2, .int 0), (1, .int (-1)), (0, rf (qo X) 49)]) C dX9_wornNow_3 rfl (by decide) rfl ?_
  refine x_iconst (v := 0) C dX9_wornNow_4 (by decide) ?_
  refine x_istore_n (i := 3) (lv' := [(3, .int 0), (2, .int 0), (1, .int (-1)), (0, rf (qo X) 49)]) C dX9_wornNow_5 rfl (by decide) rfl ?_
  refine x_lv [3, 2, 1, 0] rfl ?_
  exact tX9_wornNow_L6 N  B N h (-1) 0 0 hf
theorem ctX9_wornNow (l : Launch) (q : Nat → Nat) (N : Nat) (h : pH)  (v : Int32) (h' : pH) (hf : fX9_wornNow N h  = some (v, h')) : Ctr l q yX9_wornNow cX9_wornNow 6 (some .int) 1 21 [rf q 49] h h' (some (.int v)) := by
  refine ct_of (own := RX9) (lv := [(0, rf q 49)]) (by decide +kernel) rfl (by simp [lg_sl, rf_cat, cat_i, cat_l]) (by first | rfl | simp [lv_args, rf_cat, cat_i, cat_l]) ?_
  intro X B
  obtain rfl := B.2.1
  obtain rfl := B.2.2.1
  exact tX9_wornNow N h  B hf
def fX9_worn (N : Nat) (h : pH)  : Option (Int32 × pH) :=
  (fX9_find N h).bind fun z1 => ((fX9_wornNow N z1.2).bind fun z2 => (some (z2.1, z2.2)))
set_option maxRecDepth 100000 in
set_option maxHeartbeats 4000000 in
theorem tX9_worn {X : Xt} {v : Int32} {h' : pH} (N : Nat) (h : pH)  (B : Bd (lo X) (qo X) cX9_worn RX9 1 (some .int) 5 110 (some (.int v)) h' X) (hf : fX9_worn N h  = some (v, h')) : Wx X 1 0 [(0, rf (qo X) 49)] [] h := by
  have C := B.1
  unfold fX9_worn at hf
  refine x_aload_n (i := 0) 0 C dX9_worn_0 rfl rfl ?_
  obtain ⟨z1, e1, hf⟩ := bnd hf
  refine x_callV (r := 49) (As := []) (rest := []) C dX9_worn_1 kmX9_196 miX9_find (ctX9_find (lo X) (qo X) N h z1.1 z1.2 e1) rfl rfl ⟨Nat.le_trans (by decide) B.2.2.2.1, Nat.le_trans (by decide) B.2.2.2.2.1⟩ (by simp [cat_i, cat_l, rf_cat]) rfl ?_
  refine x_aload_n (i := 0) 0 C dX9_worn_4 rfl rfl ?_
  obtain ⟨z2, e2, hf⟩ := bnd hf
  refine x_callV (r := 49) (As := []) (rest := []) C dX9_worn_5 kmX9_211 miX9_wornNow (ctX9_wornNow (lo X) (qo X) N z1.2 z2.1 z2.2 e2) rfl rfl ⟨Nat.le_trans (by decide) B.2.2.2.1, Nat.le_trans (by decide) B.2.2.2.2.1⟩ (by simp [cat_i, cat_l, rf_cat]) rfl ?_
  obtain ⟨rfl, rfl⟩ := rtn hf
  exact B.2.2.2.2.2.1 _ _ rfl rfl rfl _ _ dX9_worn_8
theorem ctX9_worn (l : Launch) (q : Nat → Nat) (N : Nat) (h : pH)  (v : Int32) (h' : pH) (hf : fX9_worn N h  = some (v, h')) : Ctr l q yX9_worn cX9_worn 1 (some .int) 5 110 [rf q 49] h h' (some (.int v)) := by
  refine ct_of (own := RX9) (lv := [(0, rf q 49)]) (by decide +kernel) rfl (by simp [lg_sl, rf_cat, cat_i, cat_l]) (by first | rfl | simp [lv_args, rf_cat, cat_i, cat_l]) ?_
  intro X B
  obtain rfl := B.2.1
  obtain rfl := B.2.2.1
  exact tX9_worn N h  B hf
def fX9_nextRow_B107 (N : Nat) (k107 : pH → Int32 → Int32 → Option (Int32 × pH)) (h : pH) (x4 : Int32) (x5 : Int32) : Option (Int32 × pH) :=
  if x5 ≤ x4 then (some (1, h)) else (if ix x4 8 = true then (if ix x5 8 = true then (if ix x4 8 = true then (if ix x5 8 = true then (k107 (pw (pw h 65 x4.toNatClampNeg (h.1 65 x5.toNatClampNeg)) 65 x5.toNatClampNeg (h.1 65 x4.toNatClampNeg)) (x4 + 1) (x5 + (-1))) else none) else none) else none) else none)
set_option maxRecDepth 100000 in
set_option maxHeartbeats 4000000 in
theorem tX9_nextRow_B107 {X : Xt} {v : Int32} {h' : pH} (N : Nat) (k107 : pH → Int32 → Int32 → Option (Int32 × pH)) (HK107 : ∀ (h : pH) (x4 : Int32) (x5 : Int32), k107 h x4 x5 = some (v, h') → Wx X 6 107 [(0, rf (qo X) 49), (4, .int x4), (5, .int x5)] [] h) (h : pH) (x4 : Int32) (x5 : Int32) (B : Bd (lo X) (qo X) cX9_nextRow RX9 6 (some .boolean) 0 0 (some (.int v)) h' X) (hf : fX9_nextRow_B107 N k107 h x4 x5 = some (v, h')) : Wx X 6 107 [(0, rf (qo X) 49), (4, .int x4), (5, .int x5)] [] h := by
  have C := B.1
  unfold fX9_nextRow_B107 at hf
  refine x_iload 1 C dX9_nextRow_107 rfl ?_
  refine x_iload 2 C dX9_nextRow_109 rfl ?_
  refine x_icmp_ge (tgt := 153) C dX9_nextRow_111 (by decide) (fun c => ?_) (fun c => ?_)
  · rw [if_pos c] at hf
    refine x_iconst (v := 1) C dX9_nextRow_153 (by decide) ?_
    obtain ⟨rfl, rfl⟩ := rtn hf
    exact B.2.2.2.2.2.1 _ _ rfl rfl (nrB (Or.inr rfl)) _ _ dX9_nextRow_154
  · rw [if_neg c] at hf
    refine x_aload_n (i := 0) 0 C dX9_nextRow_114 rfl rfl ?_
    refine x_getR (r := 49) (r2 := 65) C dX9_nextRow_115 kfX9_55 rfl rfl (by decide) ?_
    refine x_iload 1 C dX9_nextRow_118 rfl ?_
    obtain ⟨g1, hf⟩ := ife hf
    refine x_iald (r := 65) C dX9_nextRow_120 rfl g1 ?_
    refine x_istore_n (i := 3) (lv' := [(3, .int (h.1 65 x4.toNatClampNeg)), (0, rf (qo X) 49), (4, .int x4), (5, .int x5)]) C dX9_nextRow_121 rfl (by decide) rfl ?_
    refine x_aload_n (i := 0) 1 C dX9_nextRow_122 rfl rfl ?_
    refine x_getR (r := 49) (r2 := 65) C dX9_nextRow_123 kfX9_55 rfl rfl (by decide) ?_
    refine x_iload 2 C dX9_nextRow_126 rfl ?_
    refine x_aload_n (i := 0) 1 C dX9_nextRow_128 rfl rfl ?_
    refine x_getR (r := 49) (r2 := 65) C dX9_nextRow_129 kfX9_55 rfl rfl (by decide) ?_
    refine x_iload 3 C dX9_nextRow_132 rfl ?_
    obtain ⟨g2, hf⟩ := ife hf
    refine x_iald (r := 65) C dX9_nextRow_134 rfl g2 ?_
    obtain ⟨g3, hf⟩ := ife hf
    refine x_iast (r := 65) C dX9_nextRow_135 rfl g3 ?_
    refine x_aload_n (i := 0) 1 C dX9_nextRow_136 rfl rfl ?_
    refine x_getR (r := 49) (r2 := 65) C dX9_nextRow_137 kfX9_55 rfl rfl (by decide) ?_
    refine x_iload 3 C dX9_nextRow_140 rfl ?_
    refine x_iload_n (i := 3) 0 C dX9_nextRow_142 rfl rfl ?_
    obtain ⟨g4, hf⟩ := ife hf
    refine x_iast (r := 65) C dX9_nextRow_143 rfl g4 ?_
    refine x_iinc (v := x4 + 1) (lv' := [(4, .int (x4 + 1)), (3, .int (h.1 65 x4.toNatClampNeg)), (0, rf (qo X) 49), (5, .int x5)]) 2 C dX9_nextRow_144 rfl rfl (by decide) rfl ?_
    refine x_iinc (v := x5 + (-1)) (lv' := [(5, .int (x5 + (-1))), (4, .int (x4 + 1)), (3, .int (h.1 65 x4.toNatClampNeg)), (0, rf (qo X) 49)]) 3 C dX9_nextRow_147 rfl rfl (by decide) rfl ?_
    refine x_goto (tgt := 107) C dX9_nextRow_150 (by decide) ?_
    refine x_lv [3, 1, 0] rfl ?_
    exact HK107 (pw (pw h 65 x4.toNatClampNeg (h.1 65 x5.toNatClampNeg)) 65 x5.toNatClampNeg (h.1 65 x4.toNatClampNeg)) (x4 + 1) (x5 + (-1)) hf
def fX9_nextRow_L107 (N : Nat) : Nat → pH → Int32 → Int32 → Option (Int32 × pH)
  | 0 => fun _ _ _ => none
  | n + 1 => fX9_nextRow_B107 N (fX9_nextRow_L107 N n)
theorem tX9_nextRow_L107 {X : Xt} {v : Int32} {h' : pH} (N : Nat) (B : Bd (lo X) (qo X) cX9_nextRow RX9 6 (some .boolean) 0 0 (some (.int v)) h' X) : ∀ (n : Nat) (h : pH) (x4 : Int32) (x5 : Int32), fX9_nextRow_L107 N n h x4 x5 = some (v, h') → Wx X 6 107 [(0, rf (qo X) 49), (4, .int x4), (5, .int x5)] [] h := by
  intro n
  induction n with
  | zero => intro h x4 x5 hf; exact absurd (show (none : Option (Int32 × pH)) = some (v, h') from hf) (fun z => by cases z)
  | succ n ih => intro h x4 x5 hf; exact tX9_nextRow_B107 N (fX9_nextRow_L107 N n) ih h x4 x5 B hf
def fX9_nextRow_B47 (N : Nat) (k47 : pH → Int32 → Int32 → Option (Int32 × pH)) (h : pH) (x1 : Int32) (x2 : Int32) : Option (Int32 × pH) :=
  if ix x2 8 = true then (if ix x1 8 = true then (if (h.1 65 x1.toNatClampNeg) ≤ (h.1 65 x2.toNatClampNeg) then (if ix x1 8 = true then (if ix x2 8 = true then (if ix x1 8 = true then (if ix x2 8 = true then (fX9_nextRow_L107 N N (pw (pw h 65 x1.toNatClampNeg (h.1 65 x2.toNatClampNeg)) 65 x2.toNatClampNeg (h.1 65 x1.toNatClampNeg)) (x1 + 1) (((pw (pw h 65 x1.toNatClampNeg (h.1 65 x2.toNatClampNeg)) 65 x2.toNatClampNeg (h.1 65 x1.toNatClampNeg)).1 49 9) - 1)) else none) else none) else none) else none) else (k47 h x1 (x2 + (-1)))) else none) else none
set_option maxRecDepth 100000 in
set_option maxHeartbeats 4000000 in
theorem tX9_nextRow_B47 {X : Xt} {v : Int32} {h' : pH} (N : Nat) (k47 : pH → Int32 → Int32 → Option (Int32 × pH)) (HK47 : ∀ (h : pH) (x1 : Int32) (x2 : Int32), k47 h x1 x2 = some (v, h') → Wx X 6 47 [(0, rf (qo X) 49), (1, .int x1), (2, .int x2)] [] h) (h : pH) (x1 : Int32) (x2 : Int32) (B : Bd (lo X) (qo X) cX9_nextRow RX9 6 (some .boolean) 0 0 (some (.int v)) h' X) (hf : fX9_nextRow_B47 N k47 h x1 x2 = some (v, h')) : Wx X 6 47 [(0, rf (qo X) 49), (1, .int x1), (2, .int x2)] [] h := by
  have C := B.1
  unfold fX9_nextRow_B47 at hf
  refine x_aload_n (i := 0) 0 C dX9_nextRow_47 rfl rfl ?_
  refine x_getR (r := 49) (r2 := 65) C dX9_nextRow_48 kfX9_55 rfl rfl (by decide) ?_
  refine x_iload_n (i := 2) 2 C dX9_nextRow_51 rfl rfl ?_
  obtain ⟨g1, hf⟩ := ife hf
  refine x_iald (r := 65) C dX9_nextRow_52 rfl g1 ?_
  refine x_aload_n (i := 0) 0 C dX9_nextRow_53 rfl rfl ?_
  refine x_getR (r := 49) (r2 := 65) C dX9_nextRow_54 kfX9_55 rfl rfl (by decide) ?_
  refine x_iload_n (i := 1) 1 C dX9_nextRow_57 rfl rfl ?_
  obtain ⟨g2, hf⟩ := ife hf
  refine x_iald (r := 65) C dX9_nextRow_58 rfl g2 ?_
  refine x_icmp_ge (tgt := 68) C dX9_nextRow_59 (by decide) (fun c => ?_) (fun c => ?_)
  · rw [if_pos c] at hf
    refine x_aload_n (i := 0) 0 C dX9_nextRow_68 rfl rfl ?_
    refine x_getR (r := 49) (r2 := 65) C dX9_nextRow_69 kfX9_55 rfl rfl (by decide) ?_
    refine x_iload_n (i := 1) 1 C dX9_nextRow_72 rfl rfl ?_
    obtain ⟨g3, hf⟩ := ife hf
    refine x_iald (r := 65) C dX9_nextRow_73 rfl g3 ?_
    refine x_istore_n (i := 3) (lv' := [(3, .int (h.1 65 x1.toNatClampNeg)), (0, rf (qo X) 49), (1, .int x1), (2, .int x2)]) C dX9_nextRow_74 rfl (by decide) rfl ?_
    refine x_aload_n (i := 0) 1 C dX9_nextRow_75 rfl rfl ?_
    refine x_getR (r := 49) (r2 := 65) C dX9_nextRow_76 kfX9_55 rfl rfl (by decide) ?_
    refine x_iload_n (i := 1) 2 C dX9_nextRow_79 rfl rfl ?_
    refine x_aload_n (i := 0) 1 C dX9_nextRow_80 rfl rfl ?_
    refine x_getR (r := 49) (r2 := 65) C dX9_nextRow_81 kfX9_55 rfl rfl (by decide) ?_
    refine x_iload_n (i := 2) 3 C dX9_nextRow_84 rfl rfl ?_
    obtain ⟨g4, hf⟩ := ife hf
    refine x_iald (r := 65) C dX9_nextRow_85 rfl g4 ?_
    obtain ⟨g5, hf⟩ := ife hf
    refine x_iast (r := 65) C dX9_nextRow_86 rfl g5 ?_
    refine x_aload_n (i := 0) 1 C dX9_nextRow_87 rfl rfl ?_
    refine x_getR (r := 49) (r2 := 65) C dX9_nextRow_88 kfX9_55 rfl rfl (by decide) ?_
    refine x_iload_n (i := 2) 3 C dX9_nextRow_91 rfl rfl ?_
    refine x_iload_n (i := 3) 0 C dX9_nextRow_92 rfl rfl ?_
    obtain ⟨g6, hf⟩ := ife hf
    refine x_iast (r := 65) C dX9_nextRow_93 rfl g6 ?_
    refine x_iload_n (i := 1) 2 C dX9_nextRow_94 rfl rfl ?_
    refine x_iconst (v := 1) C dX9_nextRow_95 (by decide) ?_
    refine x_iadd C dX9_nextRow_96 ?_
    refine x_istore (lv' := [(4, .int (x1 + 1)), (3, .int (h.1 65 x1.toNatClampNeg)), (0, rf (qo X) 49), (1, .int x1), (2, .int x2)]) C dX9_nextRow_97 (by decide) rfl ?_
    refine x_aload_n (i := 0) 2 C dX9_nextRow_99 rfl rfl ?_
    refine x_getI (r := 49) C dX9_nextRow_100 kfX9_115 rfl ?_
    refine x_iconst (v := 1) C dX9_nextRow_103 (by decide) ?_
    refine x_isub C dX9_nextRow_104 ?_
    refine x_istore (lv' := [(5, .int (((pw (pw h 65 x1.toNatClampNeg (h.1 65 x2.toNatClampNeg)) 65 x2.toNatClampNeg (h.1 65 x1.toNatClampNeg)).1 49 9) - 1)), (4, .int (x1 + 1)), (3, .int (h.1 65 x1.toNatClampNeg)), (0, rf (qo X) 49), (1, .int x1), (2, .int x2)]) C dX9_nextRow_105 (by decide) rfl ?_
    refine x_lv [3, 1, 0] rfl ?_
    exact tX9_nextRow_L107 N  B N (pw (pw h 65 x1.toNatClampNeg (h.1 65 x2.toNatClampNeg)) 65 x2.toNatClampNeg (h.1 65 x1.toNatClampNeg)) (x1 + 1) (((pw (pw h 65 x1.toNatClampNeg (h.1 65 x2.toNatClampNeg)) 65 x2.toNatClampNeg (h.1 65 x1.toNatClampNeg)).1 49 9) - 1) hf
  · rw [if_neg c] at hf
    refine x_iinc (v := x2 + (-1)) (lv' := [(2, .int (x2 + (-1))), (0, rf (qo X) 49), (1, .int x1)]) 2 C dX9_nextRow_62 rfl rfl (by decide) rfl ?_
    refine x_goto (tgt := 47) C dX9_nextRow_65 (by decide) ?_
    refine x_lv [1, 2, 0] rfl ?_
    exact HK47 h x1 (x2 + (-1)) hf
def fX9_nextRow_L47 (N : Nat) : Nat → pH → Int32 → Int32 → Option (Int32 × pH)
  | 0 => fun _ _ _ => none
  | n + 1 => fX9_nextRow_B47 N (fX9_nextRow_L47 N n)
theorem tX9_nextRow_L47 {X : Xt} {v : Int32} {h' : pH} (N : Nat) (B : Bd (lo X) (qo X) cX9_nextRow RX9 6 (some .boolean) 0 0 (some (.int v)) h' X) : ∀ (n : Nat) (h : pH) (x1 : Int32) (x2 : Int32), fX9_nextRow_L47 N n h x1 x2 = some (v, h') → Wx X 6 47 [(0, rf (qo X) 49), (1, .int x1), (2, .int x2)] [] h := by
  intro n
  induction n with
  | zero => intro h x1 x2 hf; exact absurd (show (none : Option (Int32 × pH)) = some (v, h') from hf) (fun z => by cases z)
  | succ n ih => intro h x1 x2 hf; exact tX9_nextRow_B47 N (fX9_nextRow_L47 N n) ih h x1 x2 B hf
def fX9_nextRow_b34 (N : Nat) (h : pH) (x1 : Int32) : Option (Int32 × pH) :=
  if 0 ≤ x1 then (fX9_nextRow_L47 N N h x1 ((h.1 49 9) - 1)) else (some (0, h))
set_option maxRecDepth 100000 in
set_option maxHeartbeats 4000000 in
theorem tX9_nextRow_b34 {X : Xt} {v : Int32} {h' : pH} (N : Nat) (h : pH) (x1 : Int32) (B : Bd (lo X) (qo X) cX9_nextRow RX9 6 (some .boolean) 0 0 (some (.int v)) h' X) (hf : fX9_nextRow_b34 N h x1 = some (v, h')) : Wx X 6 34 [(0, rf (qo X) 49), (1, .int x1)] [] h := by
  have C := B.1
  unfold fX9_nextRow_b34 at hf
  refine x_iload_n (i := 1) 1 C dX9_nextRow_34 rfl rfl ?_
  refine x_if_ge (tgt := 40) C dX9_nextRow_35 (by decide) (fun c => ?_) (fun c => ?_)
  · rw [if_pos c] at hf
    refine x_aload_n (i := 0) 0 C dX9_nextRow_40 rfl rfl ?_
    refine x_getI (r := 49) C dX9_nextRow_41 kfX9_115 rfl ?_
    refine x_iconst (v := 1) C dX9_nextRow_44 (by decide) ?_
    refine x_isub C dX9_nextRow_45 ?_
    refine x_istore_n (i := 2) (lv' := [(2, .int ((h.1 49 9) - 1)), (0, rf (qo X) 49), (1, .int x1)]) C dX9_nextRow_46 rfl (by decide) rfl ?_
    refine x_lv [1, 2, 0] rfl ?_
    exact tX9_nextRow_L47 N  B N h x1 ((h.1 49 9) - 1) hf
  · rw [if_neg c] at hf
    refine x_iconst (v := 0) C dX9_nextRow_38 (by decide) ?_
    obtain ⟨rfl, rfl⟩ := rtn hf
    exact B.2.2.2.2.2.1 _ _ rfl rfl (nrB (Or.inl rfl)) _ _ dX9_nextRow_39
def fX9_nextRow_B7 (N : Nat) (k7 : pH → Int32 → Option (Int32 × pH)) (h : pH) (x1 : Int32) : Option (Int32 × pH) :=
  if x1 < 0 then (fX9_nextRow_b34 N h x1) else (if ix x1 8 = true then (if ix (x1 + 1) 8 = true then (if (h.1 65 x1.toNatClampNeg) ≤ (h.1 65 (x1 + 1).toNatClampNeg) then (fX9_nextRow_b34 N h x1) else (k7 h (x1 + (-1)))) else none) else none)
set_option maxRecDepth 100000 in
set_option maxHeartbeats 4000000 in
theorem tX9_nextRow_B7 {X : Xt} {v : Int32} {h' : pH} (N : Nat) (k7 : pH → Int32 → Option (Int32 × pH)) (HK7 : ∀ (h : pH) (x1 : Int32), k7 h x1 = some (v, h') → Wx X 6 7 [(0, rf (qo X) 49), (1, .int x1)] [] h) (h : pH) (x1 : Int32) (B : Bd (lo X) (qo X) cX9_nextRow RX9 6 (some .boolean) 0 0 (some (.int v)) h' X) (hf : fX9_nextRow_B7 N k7 h x1 = some (v, h')) : Wx X 6 7 [(0, rf (qo X) 49), (1, .int x1)] [] h := by
  have C := B.1
  unfold fX9_nextRow_B7 at hf
  refine x_iload_n (i := 1) 1 C dX9_nextRow_7 rfl rfl ?_
  refine x_if_lt (tgt := 34) C dX9_nextRow_8 (by decide) (fun c => ?_) (fun c => ?_)
  · rw [if_pos c] at hf
    exact tX9_nextRow_b34 N h x1 B hf
  · rw [if_neg c] at hf
    refine x_aload_n (i := 0) 0 C dX9_nextRow_11 rfl rfl ?_
    refine x_getR (r := 49) (r2 := 65) C dX9_nextRow_12 kfX9_55 rfl rfl (by decide) ?_
    refine x_iload_n (i := 1) 1 C dX9_nextRow_15 rfl rfl ?_
    obtain ⟨g1, hf⟩ := ife hf
    refine x_iald (r := 65) C dX9_nextRow_16 rfl g1 ?_
    refine x_aload_n (i := 0) 0 C dX9_nextRow_17 rfl rfl ?_
    refine x_getR (r := 49) (r2 := 65) C dX9_nextRow_18 kfX9_55 rfl rfl (by decide) ?_
    refine x_iload_n (i := 1) 1 C dX9_nextRow_21 rfl rfl ?_
    refine x_iconst (v := 1) C dX9_nextRow_22 (by decide) ?_
    refine x_iadd C dX9_nextRow_23 ?_
    obtain ⟨g2, hf⟩ := ife hf
    refine x_iald (r := 65) C dX9_nextRow_24 rfl g2 ?_
    refine x_icmp_le (tgt := 34) C dX9_nextRow_25 (by decide) (fun c => ?_) (fun c => ?_)
    · rw [if_pos c] at hf
      exact tX9_nextRow_b34 N h x1 B hf
    · rw [if_neg c] at hf
      refine x_iinc (v := x1 + (-1)) (lv' := [(1, .int (x1 + (-1))), (0, rf (qo X) 49)]) 1 C dX9_nextRow_28 rfl rfl (by decide) rfl ?_
      refine x_goto (tgt := 7) C dX9_nextRow_31 (by decide) ?_
      refine x_lv [1, 0] rfl ?_
      exact HK7 h (x1 + (-1)) hf
def fX9_nextRow_L7 (N : Nat) : Nat → pH → Int32 → Option (Int32 × pH)
  | 0 => fun _ _ => none
  | n + 1 => fX9_nextRow_B7 N (fX9_nextRow_L7 N n)
theorem tX9_nextRow_L7 {X : Xt} {v : Int32} {h' : pH} (N : Nat) (B : Bd (lo X) (qo X) cX9_nextRow RX9 6 (some .boolean) 0 0 (some (.int v)) h' X) : ∀ (n : Nat) (h : pH) (x1 : Int32), fX9_nextRow_L7 N n h x1 = some (v, h') → Wx X 6 7 [(0, rf (qo X) 49), (1, .int x1)] [] h := by
  intro n
  induction n with
  | zero => intro h x1 hf; exact absurd (show (none : Option (Int32 × pH)) = some (v, h') from hf) (fun z => by cases z)
  | succ n ih => intro h x1 hf; exact tX9_nextRow_B7 N (fX9_nextRow_L7 N n) ih h x1 B hf
def fX9_nextRow (N : Nat) (h : pH)  : Option (Int32 × pH) :=
  fX9_nextRow_L7 N N h ((h.1 49 9) - 2)
set_option maxRecDepth 100000 in
set_option maxHeartbeats 4000000 in
theorem tX9_nextRow {X : Xt} {v : Int32} {h' : pH} (N : Nat) (h : pH)  (B : Bd (lo X) (qo X) cX9_nextRow RX9 6 (some .boolean) 0 0 (some (.int v)) h' X) (hf : fX9_nextRow N h  = some (v, h')) : Wx X 6 0 [(0, rf (qo X) 49)] [] h := by
  have C := B.1
  unfold fX9_nextRow at hf
  refine x_aload_n (i := 0) 0 C dX9_nextRow_0 rfl rfl ?_
  refine x_getI (r := 49) C dX9_nextRow_1 kfX9_115 rfl ?_
  refine x_iconst (v := 2) C dX9_nextRow_4 (by decide) ?_
  refine x_isub C dX9_nextRow_5 ?_
  refine x_istore_n (i := 1) (lv' := [(1, .int ((h.1 49 9) - 2)), (0, rf (qo X) 49)]) C dX9_nextRow_6 rfl (by decide) rfl ?_
  refine x_lv [1, 0] rfl ?_
  exact tX9_nextRow_L7 N  B N h ((h.1 49 9) - 2) hf
theorem ctX9_nextRow (l : Launch) (q : Nat → Nat) (N : Nat) (h : pH)  (v : Int32) (h' : pH) (hf : fX9_nextRow N h  = some (v, h')) : Ctr l q yX9_nextRow cX9_nextRow 6 (some .boolean) 0 0 [rf q 49] h h' (some (.int v)) := by
  refine ct_of (own := RX9) (lv := [(0, rf q 49)]) (by decide +kernel) rfl (by simp [lg_sl, rf_cat, cat_i, cat_l]) (by first | rfl | simp [lv_args, rf_cat, cat_i, cat_l]) ?_
  intro X B
  obtain rfl := B.2.1
  obtain rfl := B.2.2.1
  exact tX9_nextRow N h  B hf
def fX9_weighs_b127 (N : Nat) (h : pH)  : Option (Unit × pH) :=
  some ((), h)
set_option maxRecDepth 100000 in
set_option maxHeartbeats 4000000 in
theorem tX9_weighs_b127 {X : Xt} {v : Unit} {h' : pH} (N : Nat) (h : pH)  (B : Bd (lo X) (qo X) cX9_weighs RX9 5 none 3 68 none h' X) (hf : fX9_weighs_b127 N h  = some (v, h')) : Wx X 5 127 [] [] h := by
  have C := B.1
  unfold fX9_weighs_b127 at hf
  obtain ⟨rfl, rfl⟩ := rtn hf
  exact B.2.2.2.2.2.2.2.2.2 rfl rfl _ _ dX9_weighs_127
def fX9_weighs_B101 (N : Nat) (k101 : pH → Int32 → Option (Unit × pH)) (h : pH) (x3 : Int32) : Option (Unit × pH) :=
  if (h.1 49 9) ≤ x3 then (fX9_weighs_b127 N h) else (if ix x3 8 = true then (if ix x3 8 = true then (k101 (pw h 66 x3.toNatClampNeg (h.1 65 x3.toNatClampNeg)) (x3 + 1)) else none) else none)
set_option maxRecDepth 100000 in
set_option maxHeartbeats 4000000 in
theorem tX9_weighs_B101 {X : Xt} {v : Unit} {h' : pH} (N : Nat) (k101 : pH → Int32 → Option (Unit × pH)) (HK101 : ∀ (h : pH) (x3 : Int32), k101 h x3 = some (v, h') → Wx X 5 101 [(0, rf (qo X) 49), (3, .int x3)] [] h) (h : pH) (x3 : Int32) (B : Bd (lo X) (qo X) cX9_weighs RX9 5 none 3 68 none h' X) (hf : fX9_weighs_B101 N k101 h x3 = some (v, h')) : Wx X 5 101 [(0, rf (qo X) 49), (3, .int x3)] [] h := by
  have C := B.1
  unfold fX9_weighs_B101 at hf
  refine x_iload_n (i := 3) 1 C dX9_weighs_101 rfl rfl ?_
  refine x_aload_n (i := 0) 0 C dX9_weighs_102 rfl rfl ?_
  refine x_getI (r := 49) C dX9_weighs_103 kfX9_115 rfl ?_
  refine x_icmp_ge (tgt := 127) C dX9_weighs_106 (by decide) (fun c => ?_) (fun c => ?_)
  · rw [if_pos c] at hf
    refine x_lv [] rfl ?_
    exact tX9_weighs_b127 N h B hf
  · rw [if_neg c] at hf
    refine x_aload_n (i := 0) 0 C dX9_weighs_109 rfl rfl ?_
    refine x_getR (r := 49) (r2 := 66) C dX9_weighs_110 kfX9_58 rfl rfl (by decide) ?_
    refine x_iload_n (i := 3) 1 C dX9_weighs_113 rfl rfl ?_
    refine x_aload_n (i := 0) 0 C dX9_weighs_114 rfl rfl ?_
    refine x_getR (r := 49) (r2 := 65) C dX9_weighs_115 kfX9_55 rfl rfl (by decide) ?_
    refine x_iload_n (i := 3) 1 C dX9_weighs_118 rfl rfl ?_
    obtain ⟨g1, hf⟩ := ife hf
    refine x_iald (r := 65) C dX9_weighs_119 rfl g1 ?_
    obtain ⟨g2, hf⟩ := ife hf
    refine x_iast (r := 66) C dX9_weighs_120 rfl g2 ?_
    refine x_iinc (v := x3 + 1) (lv' := [(3, .int (x3 + 1)), (0, rf (qo X) 49)]) 1 C dX9_weighs_121 rfl rfl (by decide) rfl ?_
    refine x_goto (tgt := 101) C dX9_weighs_124 (by decide) ?_
    refine x_lv [1, 0] rfl ?_
    exact HK101 (pw h 66 x3.toNatClampNeg (h.1 65 x3.toNatClampNeg)) (x3 + 1) hf
def fX9_weighs_L101 (N : Nat) : Nat → pH → Int32 → Option (Unit × pH)
  | 0 => fun _ _ => none
  | n + 1 => fX9_weighs_B101 N (fX9_weighs_L101 N n)
theorem tX9_weighs_L101 {X : Xt} {v : Unit} {h' : pH} (N : Nat) (B : Bd (lo X) (qo X) cX9_weighs RX9 5 none 3 68 none h' X) : ∀ (n : Nat) (h : pH) (x3 : Int32), fX9_weighs_L101 N n h x3 = some (v, h') → Wx X 5 101 [(0, rf (qo X) 49), (3, .int x3)] [] h := by
  intro n
  induction n with
  | zero => intro h x3 hf; exact absurd (show (none : Option (Unit × pH)) = some (v, h') from hf) (fun z => by cases z)
  | succ n ih => intro h x3 hf; exact tX9_weighs_B101 N (fX9_weighs_L101 N n) ih h x3 B hf
def fX9_weighs_b89 (N : Nat) (h : pH) (x1 : Int32) (x2 : Int32) : Option (Unit × pH) :=
  fX9_weighs_L101 N N (pw (pw h 49 25 x1) 49 26 x2) 0
set_option maxRecDepth 100000 in
set_option maxHeartbeats 4000000 in
theorem tX9_weighs_b89 {X : Xt} {v : Unit} {h' : pH} (N : Nat) (h : pH) (x1 : Int32) (x2 : Int32) (B : Bd (lo X) (qo X) cX9_weighs RX9 5 none 3 68 none h' X) (hf : fX9_weighs_b89 N h x1 x2 = some (v, h')) : Wx X 5 89 [(0, rf (qo X) 49), (1, .int x1), (2, .int x2)] [] h := by
  have C := B.1
  unfold fX9_weighs_b89 at hf
  refine x_aload_n (i := 0) 0 C dX9_weighs_89 rfl rfl ?_
  refine x_iload_n (i := 1) 1 C dX9_weighs_90 rfl rfl ?_
  refine x_putI (r := 49) C dX9_weighs_91 kfX9_214 rfl rfl rfl ?_
  refine x_aload_n (i := 0) 0 C dX9_weighs_94 rfl rfl ?_
  refine x_iload_n (i := 2) 2 C dX9_weighs_95 rfl rfl ?_
  refine x_putI (r := 49) C dX9_weighs_96 kfX9_217 rfl rfl rfl ?_
  refine x_iconst (v := 0) C dX9_weighs_99 (by decide) ?_
  refine x_istore_n (i := 3) (lv' := [(3, .int 0), (0, rf (qo X) 49), (1, .int x1), (2, .int x2)]) C dX9_weighs_100 rfl (by decide) rfl ?_
  refine x_lv [1, 0] rfl ?_
  exact tX9_weighs_L101 N  B N (pw (pw h 49 25 x1) 49 26 x2) 0 hf
def fX9_weighs_b42 (N : Nat) (k10 : pH → Int32 → Int32 → Int32 → Option (Unit × pH)) (h : pH) (x2 : Int32) (x3 : Int32) (x4 : Int32) (xs0 : Int32) (xs1 : Int32) : Option (Unit × pH) :=
  if ix x3 8 = true then ((fX9_tollOf N h (h.1 65 x3.toNatClampNeg) x4).bind fun z1 => (k10 z1.2 (xs1 + xs0) (x2 + z1.1) (x3 + 1))) else none
set_option maxRecDepth 100000 in
set_option maxHeartbeats 4000000 in
theorem tX9_weighs_b42 {X : Xt} {v : Unit} {h' : pH} (N : Nat) (k10 : pH → Int32 → Int32 → Int32 → Option (Unit × pH)) (HK10 : ∀ (h : pH) (x1 : Int32) (x2 : Int32) (x3 : Int32), k10 h x1 x2 x3 = some (v, h') → Wx X 5 10 [(0, rf (qo X) 49), (1, .int x1), (2, .int x2), (3, .int x3)] [] h) (h : pH) (x2 : Int32) (x3 : Int32) (x4 : Int32) (xs0 : Int32) (xs1 : Int32) (B : Bd (lo X) (qo X) cX9_weighs RX9 5 none 3 68 none h' X) (hf : fX9_weighs_b42 N k10 h x2 x3 x4 xs0 xs1 = some (v, h')) : Wx X 5 42 [(0, rf (qo X) 49), (2, .int x2), (3, .int x3), (4, .int x4)] [.int xs0, .int xs1] h := by
  have C := B.1
  unfold fX9_weighs_b42 at hf
  refine x_iadd C dX9_weighs_42 ?_
  refine x_istore_n (i := 1) (lv' := [(1, .int (xs1 + xs0)), (0, rf (qo X) 49), (2, .int x2), (3, .int x3), (4, .int x4)]) C dX9_weighs_43 rfl (by decide) rfl ?_
  refine x_iload_n (i := 2) 2 C dX9_weighs_44 rfl rfl ?_
  refine x_aload_n (i := 0) 1 C dX9_weighs_45 rfl rfl ?_
  refine x_aload_n (i := 0) 1 C dX9_weighs_46 rfl rfl ?_
  refine x_getR (r := 49) (r2 := 65) C dX9_weighs_47 kfX9_55 rfl rfl (by decide) ?_
  refine x_iload_n (i := 3) 3 C dX9_weighs_50 rfl rfl ?_
  obtain ⟨g1, hf⟩ := ife hf
  refine x_iald (r := 65) C dX9_weighs_51 rfl g1 ?_
  refine x_iload 4 C dX9_weighs_52 rfl ?_
  obtain ⟨z1, e1, hf⟩ := bnd hf
  refine x_callV (r := 49) (As := [.int (h.1 65 x3.toNatClampNeg), .int x4]) (rest := [.int x2]) C dX9_weighs_54 kmX9_190 miX9_tollOf (ctX9_tollOf (lo X) (qo X) N h (h.1 65 x3.toNatClampNeg) x4 z1.1 z1.2 e1) rfl rfl ⟨Nat.le_trans (by decide) B.2.2.2.1, Nat.le_trans (by decide) B.2.2.2.2.1⟩ (by simp [cat_i, cat_l, rf_cat]) rfl ?_
  refine x_iadd C dX9_weighs_57 ?_
  refine x_istore_n (i := 2) (lv' := [(2, .int (x2 + z1.1)), (1, .int (xs1 + xs0)), (0, rf (qo X) 49), (3, .int x3), (4, .int x4)]) C dX9_weighs_58 rfl (by decide) rfl ?_
  refine x_iinc (v := x3 + 1) (lv' := [(3, .int (x3 + 1)), (2, .int (x2 + z1.1)), (1, .int (xs1 + xs0)), (0, rf (qo X) 49), (4, .int x4)]) 3 C dX9_weighs_59 rfl rfl (by decide) rfl ?_
  refine x_goto (tgt := 10) C dX9_weighs_62 (by decide) ?_
  refine x_lv [3, 2, 1, 0] rfl ?_
  exact HK10 z1.2 (xs1 + xs0) (x2 + z1.1) (x3 + 1) hf
def fX9_weighs_B10 (N : Nat) (k10 : pH → Int32 → Int32 → Int32 → Option (Unit × pH)) (h : pH) (x1 : Int32) (x2 : Int32) (x3 : Int32) : Option (Unit × pH) :=
  if (h.1 49 9) ≤ x3 then (if (h.1 49 25) < x1 then (fX9_weighs_b89 N h x1 x2) else (if x1 = (h.1 49 25) then (if (h.1 49 26) ≤ x2 then (fX9_weighs_b127 N h) else (fX9_weighs_b89 N h x1 x2)) else (fX9_weighs_b127 N h))) else (if ix x3 8 = true then ((fX9_tries N h (h.1 65 x3.toNatClampNeg)).bind fun z1 => (if z1.1 = 1 then (fX9_weighs_b42 N k10 z1.2 x2 x3 z1.1 1 x1) else (fX9_weighs_b42 N k10 z1.2 x2 x3 z1.1 0 x1))) else none)
set_option maxRecDepth 100000 in
set_option maxHeartbeats 4000000 in
theorem tX9_weighs_B10 {X : Xt} {v : Unit} {h' : pH} (N : Nat) (k10 : pH → Int32 → Int32 → Int32 → Option (Unit × pH)) (HK10 : ∀ (h : pH) (x1 : Int32) (x2 : Int32) (x3 : Int32), k10 h x1 x2 x3 = some (v, h') → Wx X 5 10 [(0, rf (qo X) 49), (1, .int x1), (2, .int x2), (3, .int x3)] [] h) (h : pH) (x1 : Int32) (x2 : Int32) (x3 : Int32) (B : Bd (lo X) (qo X) cX9_weighs RX9 5 none 3 68 none h' X) (hf : fX9_weighs_B10 N k10 h x1 x2 x3 = some (v, h')) : Wx X 5 10 [(0, rf (qo X) 49), (1, .int x1), (2, .int x2), (3, .int x3)] [] h := by
  have C := B.1
  unfold fX9_weighs_B10 at hf
  refine x_iload_n (i := 3) 3 C dX9_weighs_10 rfl rfl ?_
  refine x_aload_n (i := 0) 0 C dX9_weighs_11 rfl rfl ?_
  refine x_getI (r := 49) C dX9_weighs_12 kfX9_115 rfl ?_
  refine x_icmp_ge (tgt := 65) C dX9_weighs_15 (by decide) (fun c => ?_) (fun c => ?_)
  · rw [if_pos c] at hf
    refine x_iload_n (i := 1) 1 C dX9_weighs_65 rfl rfl ?_
    refine x_aload_n (i := 0) 0 C dX9_weighs_66 rfl rfl ?_
    refine x_getI (r := 49) C dX9_weighs_67 kfX9_214 rfl ?_
    refine x_icmp_gt (tgt := 89) C dX9_weighs_70 (by decide) (fun c => ?_) (fun c => ?_)
    · rw [if_pos c] at hf
      refine x_lv [0, 1, 2] rfl ?_
      exact tX9_weighs_b89 N h x1 x2 B hf
    · rw [if_neg c] at hf
      refine x_iload_n (i := 1) 1 C dX9_weighs_73 rfl rfl ?_
      refine x_aload_n (i := 0) 0 C dX9_weighs_74 rfl rfl ?_
      refine x_getI (r := 49) C dX9_weighs_75 kfX9_214 rfl ?_
      refine x_icmp_ne (tgt := 127) C dX9_weighs_78 (by decide) (fun c => ?_) (fun c => ?_)
      · rw [if_neg c] at hf
        refine x_lv [] rfl ?_
        exact tX9_weighs_b127 N h B hf
      · rw [if_pos c] at hf
        refine x_iload_n (i := 2) 2 C dX9_weighs_81 rfl rfl ?_
        refine x_aload_n (i := 0) 0 C dX9_weighs_82 rfl rfl ?_
        refine x_getI (r := 49) C dX9_weighs_83 kfX9_217 rfl ?_
        refine x_icmp_ge (tgt := 127) C dX9_weighs_86 (by decide) (fun c => ?_) (fun c => ?_)
        · rw [if_pos c] at hf
          refine x_lv [] rfl ?_
          exact tX9_weighs_b127 N h B hf
        · rw [if_neg c] at hf
          refine x_lv [0, 1, 2] rfl ?_
          exact tX9_weighs_b89 N h x1 x2 B hf
  · rw [if_neg c] at hf
    refine x_aload_n (i := 0) 0 C dX9_weighs_18 rfl rfl ?_
    refine x_aload_n (i := 0) 0 C dX9_weighs_19 rfl rfl ?_
    refine x_getR (r := 49) (r2 := 65) C dX9_weighs_20 kfX9_55 rfl rfl (by decide) ?_
    refine x_iload_n (i := 3) 3 C dX9_weighs_23 rfl rfl ?_
    obtain ⟨g1, hf⟩ := ife hf
    refine x_iald (r := 65) C dX9_weighs_24 rfl g1 ?_
    obtain ⟨z1, e1, hf⟩ := bnd hf
    refine x_callV (r := 49) (As := [.int (h.1 65 x3.toNatClampNeg)]) (rest := []) C dX9_weighs_25 kmX9_187 miX9_tries (ctX9_tries (lo X) (qo X) N h (h.1 65 x3.toNatClampNeg) z1.1 z1.2 e1) rfl rfl ⟨Nat.le_trans (by decide) B.2.2.2.1, Nat.le_trans (by decide) B.2.2.2.2.1⟩ (by simp [cat_i, cat_l, rf_cat]) rfl ?_
    refine x_istore (lv' := [(4, .int z1.1), (0, rf (qo X) 49), (1, .int x1), (2, .int x2), (3, .int x3)]) C dX9_weighs_28 (by decide) rfl ?_
    refine x_iload_n (i := 1) 2 C dX9_weighs_30 rfl rfl ?_
    refine x_iload 0 C dX9_weighs_31 rfl ?_
    refine x_iconst (v := 1) C dX9_weighs_33 (by decide) ?_
    refine x_icmp_ne (tgt := 41) C dX9_weighs_34 (by decide) (fun c => ?_) (fun c => ?_)
    · rw [if_neg c] at hf
      refine x_iconst (v := 0) C dX9_weighs_41 (by decide) ?_
      refine x_lv [1, 3, 4, 0] rfl ?_
      exact tX9_weighs_b42 N k10 HK10 z1.2 x2 x3 z1.1 0 x1 B hf
    · rw [if_pos c] at hf
      refine x_iconst (v := 1) C dX9_weighs_37 (by decide) ?_
      refine x_goto (tgt := 42) C dX9_weighs_38 (by decide) ?_
      refine x_lv [1, 3, 4, 0] rfl ?_
      exact tX9_weighs_b42 N k10 HK10 z1.2 x2 x3 z1.1 1 x1 B hf
def fX9_weighs_L10 (N : Nat) : Nat → pH → Int32 → Int32 → Int32 → Option (Unit × pH)
  | 0 => fun _ _ _ _ => none
  | n + 1 => fX9_weighs_B10 N (fX9_weighs_L10 N n)
theorem tX9_weighs_L10 {X : Xt} {v : Unit} {h' : pH} (N : Nat) (B : Bd (lo X) (qo X) cX9_weighs RX9 5 none 3 68 none h' X) : ∀ (n : Nat) (h : pH) (x1 : Int32) (x2 : Int32) (x3 : Int32), fX9_weighs_L10 N n h x1 x2 x3 = some (v, h') → Wx X 5 10 [(0, rf (qo X) 49), (1, .int x1), (2, .int x2), (3, .int x3)] [] h := by
  intro n
  induction n with
  | zero => intro h x1 x2 x3 hf; exact absurd (show (none : Option (Unit × pH)) = some (v, h') from hf) (fun z => by cases z)
  | succ n ih => intro h x1 x2 x3 hf; exact tX9_weighs_B10 N (fX9_weighs_L10 N n) ih h x1 x2 x3 B hf
def fX9_weighs (N : Nat) (h : pH)  : Option (Unit × pH) :=
  (fX9_begins N h).bind fun z1 => (fX9_weighs_L10 N N z1.2 0 0 0)
set_option maxRecDepth 100000 in
set_option maxHeartbeats 4000000 in
theorem tX9_weighs {X : Xt} {v : Unit} {h' : pH} (N : Nat) (h : pH)  (B : Bd (lo X) (qo X) cX9_weighs RX9 5 none 3 68 none h' X) (hf : fX9_weighs N h  = some (v, h')) : Wx X 5 0 [(0, rf (qo X) 49)] [] h := by
  have C := B.1
  unfold fX9_weighs at hf
  refine x_aload_n (i := 0) 0 C dX9_weighs_0 rfl rfl ?_
  obtain ⟨z1, e1, hf⟩ := bnd hf
  refine x_callV (r := 49) (As := []) (rest := []) C dX9_weighs_1 kmX9_178 miX9_begins (ctX9_begins (lo X) (qo X) N h z1.1 z1.2 e1) rfl rfl ⟨Nat.le_trans (by decide) B.2.2.2.1, Nat.le_trans (by decide) B.2.2.2.2.1⟩ (by simp [cat_i, cat_l, rf_cat]) rfl ?_
  refine x_iconst (v := 0) C dX9_weighs_4 (by decide) ?_
  refine x_istore_n (i := 1) (lv' := [(1, .int 0), (0, rf (qo X) 49)]) C dX9_weighs_5 rfl (by decide) rfl ?_
  refine x_iconst (v := 0) C dX9_weighs_6 (by decide) ?_
  refine x_istore_n (i := 2) (lv' := [(2, .int 0), (1, .int 0), (0, rf (qo X) 49)]) C dX9_weighs_7 rfl (by decide) rfl ?_
  refine x_iconst (v := 0) C dX9_weighs_8 (by decide) ?_
  refine x_istore_n (i := 3) (lv' := [(3, .int 0), (2, .int 0), (1, .int 0), (0, rf (qo X) 49)]) C dX9_weighs_9 rfl (by decide) rfl ?_
  refine x_lv [3, 2, 1, 0] rfl ?_
  exact tX9_weighs_L10 N  B N z1.2 0 0 0 hf
theorem ctX9_weighs (l : Launch) (q : Nat → Nat) (N : Nat) (h : pH)  (v : Unit) (h' : pH) (hf : fX9_weighs N h  = some (v, h')) : Ctr l q yX9_weighs cX9_weighs 5 none 3 68 [rf q 49] h h' none := by
  refine ct_of (own := RX9) (lv := [(0, rf q 49)]) (by decide +kernel) rfl (by simp [lg_sl, rf_cat, cat_i, cat_l]) (by first | rfl | simp [lv_args, rf_cat, cat_i, cat_l]) ?_
  intro X B
  obtain rfl := B.2.1
  obtain rfl := B.2.2.1
  exact tX9_weighs N h  B hf
def fX9_findOrder_B35 (N : Nat) (k35 : pH → Int32 → Option (Unit × pH)) (h : pH) (x1 : Int32) : Option (Unit × pH) :=
  if x1 = 0 then (some ((), h)) else ((fX9_weighs N h).bind fun z1 => ((fX9_nextRow N z1.2).bind fun z2 => (k35 z2.2 z2.1)))
set_option maxRecDepth 100000 in
set_option maxHeartbeats 4000000 in
theorem tX9_findOrder_B35 {X : Xt} {v : Unit} {h' : pH} (N : Nat) (k35 : pH → Int32 → Option (Unit × pH)) (HK35 : ∀ (h : pH) (x1 : Int32), k35 h x1 = some (v, h') → Wx X 2 35 [(0, rf (qo X) 49), (1, .int x1)] [] h) (h : pH) (x1 : Int32) (B : Bd (lo X) (qo X) cX9_findOrder RX9 2 none 4 92 none h' X) (hf : fX9_findOrder_B35 N k35 h x1 = some (v, h')) : Wx X 2 35 [(0, rf (qo X) 49), (1, .int x1)] [] h := by
  have C := B.1
  unfold fX9_findOrder_B35 at hf
  refine x_iload_n (i := 1) 1 C dX9_findOrder_35 rfl rfl ?_
  refine x_if_eq (tgt := 51) C dX9_findOrder_36 (by decide) (fun c => ?_) (fun c => ?_)
  · rw [if_pos c] at hf
    obtain ⟨rfl, rfl⟩ := rtn hf
    exact B.2.2.2.2.2.2.2.2.2 rfl rfl _ _ dX9_findOrder_51
  · rw [if_neg c] at hf
    refine x_aload_n (i := 0) 0 C dX9_findOrder_39 rfl rfl ?_
    obtain ⟨z1, e1, hf⟩ := bnd hf
    refine x_callV (r := 49) (As := []) (rest := []) C dX9_findOrder_40 kmX9_220 miX9_weighs (ctX9_weighs (lo X) (qo X) N h z1.1 z1.2 e1) rfl rfl ⟨Nat.le_trans (by decide) B.2.2.2.1, Nat.le_trans (by decide) B.2.2.2.2.1⟩ (by simp [cat_i, cat_l, rf_cat]) rfl ?_
    refine x_aload_n (i := 0) 0 C dX9_findOrder_43 rfl rfl ?_
    obtain ⟨z2, e2, hf⟩ := bnd hf
    refine x_callV (r := 49) (As := []) (rest := []) C dX9_findOrder_44 kmX9_223 miX9_nextRow (ctX9_nextRow (lo X) (qo X) N z1.2 z2.1 z2.2 e2) rfl rfl ⟨Nat.le_trans (by decide) B.2.2.2.1, Nat.le_trans (by decide) B.2.2.2.2.1⟩ (by simp [cat_i, cat_l, rf_cat]) rfl ?_
    refine x_istore_n (i := 1) (lv' := [(1, .int z2.1), (0, rf (qo X) 49)]) C dX9_findOrder_47 rfl (by decide) rfl ?_
    refine x_goto (tgt := 35) C dX9_findOrder_48 (by decide) ?_
    refine x_lv [1, 0] rfl ?_
    exact HK35 z2.2 z2.1 hf
def fX9_findOrder_L35 (N : Nat) : Nat → pH → Int32 → Option (Unit × pH)
  | 0 => fun _ _ => none
  | n + 1 => fX9_findOrder_B35 N (fX9_findOrder_L35 N n)
theorem tX9_findOrder_L35 {X : Xt} {v : Unit} {h' : pH} (N : Nat) (B : Bd (lo X) (qo X) cX9_findOrder RX9 2 none 4 92 none h' X) : ∀ (n : Nat) (h : pH) (x1 : Int32), fX9_findOrder_L35 N n h x1 = some (v, h') → Wx X 2 35 [(0, rf (qo X) 49), (1, .int x1)] [] h := by
  intro n
  induction n with
  | zero => intro h x1 hf; exact absurd (show (none : Option (Unit × pH)) = some (v, h') from hf) (fun z => by cases z)
  | succ n ih => intro h x1 hf; exact tX9_findOrder_B35 N (fX9_findOrder_L35 N n) ih h x1 B hf
def fX9_findOrder_B12 (N : Nat) (k12 : pH → Int32 → Option (Unit × pH)) (h : pH) (x1 : Int32) : Option (Unit × pH) :=
  if (h.1 49 9) ≤ x1 then (fX9_findOrder_L35 N N h 1) else (if ix x1 8 = true then (k12 (pw h 65 x1.toNatClampNeg x1) (x1 + 1)) else none)
set_option maxRecDepth 100000 in
set_option maxHeartbeats 4000000 in
theorem tX9_findOrder_B12 {X : Xt} {v : Unit} {h' : pH} (N : Nat) (k12 : pH → Int32 → Option (Unit × pH)) (HK12 : ∀ (h : pH) (x1 : Int32), k12 h x1 = some (v, h') → Wx X 2 12 [(0, rf (qo X) 49), (1, .int x1)] [] h) (h : pH) (x1 : Int32) (B : Bd (lo X) (qo X) cX9_findOrder RX9 2 none 4 92 none h' X) (hf : fX9_findOrder_B12 N k12 h x1 = some (v, h')) : Wx X 2 12 [(0, rf (qo X) 49), (1, .int x1)] [] h := by
  have C := B.1
  unfold fX9_findOrder_B12 at hf
  refine x_iload_n (i := 1) 1 C dX9_findOrder_12 rfl rfl ?_
  refine x_aload_n (i := 0) 0 C dX9_findOrder_13 rfl rfl ?_
  refine x_getI (r := 49) C dX9_findOrder_14 kfX9_115 rfl ?_
  refine x_icmp_ge (tgt := 33) C dX9_findOrder_17 (by decide) (fun c => ?_) (fun c => ?_)
  · rw [if_pos c] at hf
    refine x_iconst (v := 1) C dX9_findOrder_33 (by decide) ?_
    refine x_istore_n (i := 1) (lv' := [(1, .int 1), (0, rf (qo X) 49)]) C dX9_findOrder_34 rfl (by decide) rfl ?_
    refine x_lv [1, 0] rfl ?_
    exact tX9_findOrder_L35 N  B N h 1 hf
  · rw [if_neg c] at hf
    refine x_aload_n (i := 0) 0 C dX9_findOrder_20 rfl rfl ?_
    refine x_getR (r := 49) (r2 := 65) C dX9_findOrder_21 kfX9_55 rfl rfl (by decide) ?_
    refine x_iload_n (i := 1) 1 C dX9_findOrder_24 rfl rfl ?_
    refine x_iload_n (i := 1) 1 C dX9_findOrder_25 rfl rfl ?_
    obtain ⟨g1, hf⟩ := ife hf
    refine x_iast (r := 65) C dX9_findOrder_26 rfl g1 ?_
    refine x_iinc (v := x1 + 1) (lv' := [(1, .int (x1 + 1)), (0, rf (qo X) 49)]) 1 C dX9_findOrder_27 rfl rfl (by decide) rfl ?_
    refine x_goto (tgt := 12) C dX9_findOrder_30 (by decide) ?_
    refine x_lv [1, 0] rfl ?_
    exact HK12 (pw h 65 x1.toNatClampNeg x1) (x1 + 1) hf
def fX9_findOrder_L12 (N : Nat) : Nat → pH → Int32 → Option (Unit × pH)
  | 0 => fun _ _ => none
  | n + 1 => fX9_findOrder_B12 N (fX9_findOrder_L12 N n)
theorem tX9_findOrder_L12 {X : Xt} {v : Unit} {h' : pH} (N : Nat) (B : Bd (lo X) (qo X) cX9_findOrder RX9 2 none 4 92 none h' X) : ∀ (n : Nat) (h : pH) (x1 : Int32), fX9_findOrder_L12 N n h x1 = some (v, h') → Wx X 2 12 [(0, rf (qo X) 49), (1, .int x1)] [] h := by
  intro n
  induction n with
  | zero => intro h x1 hf; exact absurd (show (none : Option (Unit × pH)) = some (v, h') from hf) (fun z => by cases z)
  | succ n ih => intro h x1 hf; exact tX9_findOrder_B12 N (fX9_findOrder_L12 N n) ih h x1 B hf
def fX9_findOrder (N : Nat) (h : pH)  : Option (Unit × pH) :=
  fX9_findOrder_L12 N N (pw (pw h 49 25 (-1)) 49 26 0) 0
set_option maxRecDepth 100000 in
set_option maxHeartbeats 4000000 in
theorem tX9_findOrder {X : Xt} {v : Unit} {h' : pH} (N : Nat) (h : pH)  (B : Bd (lo X) (qo X) cX9_findOrder RX9 2 none 4 92 none h' X) (hf : fX9_findOrder N h  = some (v, h')) : Wx X 2 0 [(0, rf (qo X) 49)] [] h := by
  have C := B.1
  unfold fX9_findOrder at hf
  refine x_aload_n (i := 0) 0 C dX9_findOrder_0 rfl rfl ?_
  refine x_iconst (v := (-1)) C dX9_findOrder_1 (by decide) ?_
  refine x_putI (r := 49) C dX9_findOrder_2 kfX9_214 rfl rfl rfl ?_
  refine x_aload_n (i := 0) 0 C dX9_findOrder_5 rfl rfl ?_
  refine x_iconst (v := 0) C dX9_findOrder_6 (by decide) ?_
  refine x_putI (r := 49) C dX9_findOrder_7 kfX9_217 rfl rfl rfl ?_
  refine x_iconst (v := 0) C dX9_findOrder_10 (by decide) ?_
  refine x_istore_n (i := 1) (lv' := [(1, .int 0), (0, rf (qo X) 49)]) C dX9_findOrder_11 rfl (by decide) rfl ?_
  refine x_lv [1, 0] rfl ?_
  exact tX9_findOrder_L12 N  B N (pw (pw h 49 25 (-1)) 49 26 0) 0 hf
theorem ctX9_findOrder (l : Launch) (q : Nat → Nat) (N : Nat) (h : pH)  (v : Unit) (h' : pH) (hf : fX9_findOrder N h  = some (v, h')) : Ctr l q yX9_findOrder cX9_findOrder 2 none 4 92 [rf q 49] h h' none := by
  refine ct_of (own := RX9) (lv := [(0, rf q 49)]) (by decide +kernel) rfl (by simp [lg_sl, rf_cat, cat_i, cat_l]) (by first | rfl | simp [lv_args, rf_cat, cat_i, cat_l]) ?_
  intro X B
  obtain rfl := B.2.1
  obtain rfl := B.2.2.1
  exact tX9_findOrder N h  B hf
def fX9_orderBy_b45 (N : Nat) (h : pH) (xs0 : Int32) : Option (Int32 × pH) :=
  some (xs0, h)
set_option maxRecDepth 100000 in
set_option maxHeartbeats 4000000 in
theorem tX9_orderBy_b45 {X : Xt} {v : Int32} {h' : pH} (N : Nat) (h : pH) (xs0 : Int32) (B : Bd (lo X) (qo X) cX9_orderBy RX9 2 (some .int) 0 0 (some (.int v)) h' X) (hf : fX9_orderBy_b45 N h xs0 = some (v, h')) : Wx X 2 45 [] [.int xs0] h := by
  have C := B.1
  unfold fX9_orderBy_b45 at hf
  obtain ⟨rfl, rfl⟩ := rtn hf
  exact B.2.2.2.2.2.1 _ _ rfl rfl rfl _ _ dX9_orderBy_45
def fX9_orderBy (N : Nat) (h : pH) (x1 : Int32) : Option (Int32 × pH) :=
  if x1 = 0 then (fX9_orderBy_b45 N h (h.1 49 25)) else (if x1 = 1 then (fX9_orderBy_b45 N h (h.1 49 26)) else (if (h.1 49 9) ≤ (x1 - 2) then (fX9_orderBy_b45 N h (-1)) else (if ix (x1 - 2) 8 = true then (fX9_orderBy_b45 N h (h.1 66 (x1 - 2).toNatClampNeg)) else none)))
set_option maxRecDepth 100000 in
set_option maxHeartbeats 4000000 in
theorem tX9_orderBy {X : Xt} {v : Int32} {h' : pH} (N : Nat) (h : pH) (x1 : Int32) (B : Bd (lo X) (qo X) cX9_orderBy RX9 2 (some .int) 0 0 (some (.int v)) h' X) (hf : fX9_orderBy N h x1 = some (v, h')) : Wx X 2 0 [(0, rf (qo X) 49), (1, .int x1)] [] h := by
  have C := B.1
  unfold fX9_orderBy at hf
  refine x_iload_n (i := 1) 1 C dX9_orderBy_0 rfl rfl ?_
  refine x_if_ne (tgt := 11) C dX9_orderBy_1 (by decide) (fun c => ?_) (fun c => ?_)
  · rw [if_neg c] at hf
    refine x_iload_n (i := 1) 1 C dX9_orderBy_11 rfl rfl ?_
    refine x_iconst (v := 1) C dX9_orderBy_12 (by decide) ?_
    refine x_icmp_ne (tgt := 23) C dX9_orderBy_13 (by decide) (fun c => ?_) (fun c => ?_)
    · rw [if_neg c] at hf
      refine x_iload_n (i := 1) 1 C dX9_orderBy_23 rfl rfl ?_
      refine x_iconst (v := 2) C dX9_orderBy_24 (by decide) ?_
      refine x_isub C dX9_orderBy_25 ?_
      refine x_aload_n (i := 0) 0 C dX9_orderBy_26 rfl rfl ?_
      refine x_getI (r := 49) C dX9_orderBy_27 kfX9_115 rfl ?_
      refine x_icmp_ge (tgt := 44) C dX9_orderBy_30 (by decide) (fun c => ?_) (fun c => ?_)
      · rw [if_pos c] at hf
        refine x_iconst (v := (-1)) C dX9_orderBy_44 (by decide) ?_
        refine x_lv [] rfl ?_
        exact tX9_orderBy_b45 N h (-1) B hf
      · rw [if_neg c] at hf
        refine x_aload_n (i := 0) 0 C dX9_orderBy_33 rfl rfl ?_
        refine x_getR (r := 49) (r2 := 66) C dX9_orderBy_34 kfX9_58 rfl rfl (by decide) ?_
        refine x_iload_n (i := 1) 1 C dX9_orderBy_37 rfl rfl ?_
        refine x_iconst (v := 2) C dX9_orderBy_38 (by decide) ?_
        refine x_isub C dX9_orderBy_39 ?_
        obtain ⟨g1, hf⟩ := ife hf
        refine x_iald (r := 66) C dX9_orderBy_40 rfl g1 ?_
        refine x_goto (tgt := 45) C dX9_orderBy_41 (by decide) ?_
        refine x_lv [] rfl ?_
        exact tX9_orderBy_b45 N h (h.1 66 (x1 - 2).toNatClampNeg) B hf
    · rw [if_pos c] at hf
      refine x_aload_n (i := 0) 0 C dX9_orderBy_16 rfl rfl ?_
      refine x_getI (r := 49) C dX9_orderBy_17 kfX9_217 rfl ?_
      refine x_goto (tgt := 45) C dX9_orderBy_20 (by decide) ?_
      refine x_lv [] rfl ?_
      exact tX9_orderBy_b45 N h (h.1 49 26) B hf
  · rw [if_pos c] at hf
    refine x_aload_n (i := 0) 0 C dX9_orderBy_4 rfl rfl ?_
    refine x_getI (r := 49) C dX9_orderBy_5 kfX9_214 rfl ?_
    refine x_goto (tgt := 45) C dX9_orderBy_8 (by decide) ?_
    refine x_lv [] rfl ?_
    exact tX9_orderBy_b45 N h (h.1 49 25) B hf
theorem ctX9_orderBy (l : Launch) (q : Nat → Nat) (N : Nat) (h : pH) (x1 : Int32) (v : Int32) (h' : pH) (hf : fX9_orderBy N h x1 = some (v, h')) : Ctr l q yX9_orderBy cX9_orderBy 2 (some .int) 0 0 [rf q 49, .int x1] h h' (some (.int v)) := by
  refine ct_of (own := RX9) (lv := [(0, rf q 49), (1, .int x1)]) (by decide +kernel) rfl (by simp [lg_sl, rf_cat, cat_i, cat_l]) (by first | rfl | simp [lv_args, rf_cat, cat_i, cat_l]) ?_
  intro X B
  obtain rfl := B.2.1
  obtain rfl := B.2.2.1
  exact tX9_orderBy N h x1 B hf
def fX9_order (N : Nat) (h : pH) (x1 : Int32) : Option (Int32 × pH) :=
  (fX9_find N h).bind fun z1 => ((fX9_in N z1.2 x1.toInt64 0 9).bind fun z2 => (if z2.1 = 0 then (some ((-2), z2.2)) else ((fX9_findOrder N z2.2).bind fun z3 => ((fX9_orderBy N z3.2 x1).bind fun z4 => (some (z4.1, z4.2))))))
set_option maxRecDepth 100000 in
set_option maxHeartbeats 4000000 in
theorem tX9_order {X : Xt} {v : Int32} {h' : pH} (N : Nat) (h : pH) (x1 : Int32) (B : Bd (lo X) (qo X) cX9_order RX9 2 (some .int) 5 113 (some (.int v)) h' X) (hf : fX9_order N h x1 = some (v, h')) : Wx X 2 0 [(0, rf (qo X) 49), (1, .int x1)] [] h := by
  have C := B.1
  unfold fX9_order at hf
  refine x_aload_n (i := 0) 0 C dX9_order_0 rfl rfl ?_
  obtain ⟨z1, e1, hf⟩ := bnd hf
  refine x_callV (r := 49) (As := []) (rest := []) C dX9_order_1 kmX9_196 miX9_find (ctX9_find (lo X) (qo X) N h z1.1 z1.2 e1) rfl rfl ⟨Nat.le_trans (by decide) B.2.2.2.1, Nat.le_trans (by decide) B.2.2.2.2.1⟩ (by simp [cat_i, cat_l, rf_cat]) rfl ?_
  refine x_iload_n (i := 1) 1 C dX9_order_4 rfl rfl ?_
  refine x_i2l C dX9_order_5 ?_
  refine x_lconst (v := 0) C dX9_order_6 (by decide) ?_
  refine x_ldc2 (v := 9) C dX9_order_7 kkX9_151 ?_
  obtain ⟨z2, e2, hf⟩ := bnd hf
  refine x_callS (As := [.long x1.toInt64, .long 0, .long 9]) (rest := []) C dX9_order_10 kmX9_69 miX9_in (ctX9_in (lo X) (qo X) N z1.2 x1.toInt64 0 9 z2.1 z2.2 e2) rfl rfl ⟨Nat.le_trans (by decide) B.2.2.2.1, Nat.le_trans (by decide) B.2.2.2.2.1⟩ (by simp [cat_i, cat_l, rf_cat]) ?_
  refine x_if_ne (tgt := 19) C dX9_order_13 (by decide) (fun c => ?_) (fun c => ?_)
  · rw [if_neg c] at hf
    refine x_aload_n (i := 0) 0 C dX9_order_19 rfl rfl ?_
    obtain ⟨z3, e3, hf⟩ := bnd hf
    refine x_callV (r := 49) (As := []) (rest := []) C dX9_order_20 kmX9_227 miX9_findOrder (ctX9_findOrder (lo X) (qo X) N z2.2 z3.1 z3.2 e3) rfl rfl ⟨Nat.le_trans (by decide) B.2.2.2.1, Nat.le_trans (by decide) B.2.2.2.2.1⟩ (by simp [cat_i, cat_l, rf_cat]) rfl ?_
    refine x_aload_n (i := 0) 0 C dX9_order_23 rfl rfl ?_
    refine x_iload_n (i := 1) 1 C dX9_order_24 rfl rfl ?_
    obtain ⟨z4, e4, hf⟩ := bnd hf
    refine x_callV (r := 49) (As := [.int x1]) (rest := []) C dX9_order_25 kmX9_230 miX9_orderBy (ctX9_orderBy (lo X) (qo X) N z3.2 x1 z4.1 z4.2 e4) rfl rfl ⟨Nat.le_trans (by decide) B.2.2.2.1, Nat.le_trans (by decide) B.2.2.2.2.1⟩ (by simp [cat_i, cat_l, rf_cat]) rfl ?_
    obtain ⟨rfl, rfl⟩ := rtn hf
    exact B.2.2.2.2.2.1 _ _ rfl rfl rfl _ _ dX9_order_28
  · rw [if_pos c] at hf
    refine x_bipush (v := (-2)) C dX9_order_16 (by decide) ?_
    obtain ⟨rfl, rfl⟩ := rtn hf
    exact B.2.2.2.2.2.1 _ _ rfl rfl rfl _ _ dX9_order_18
theorem ctX9_order (l : Launch) (q : Nat → Nat) (N : Nat) (h : pH) (x1 : Int32) (v : Int32) (h' : pH) (hf : fX9_order N h x1 = some (v, h')) : Ctr l q yX9_order cX9_order 2 (some .int) 5 113 [rf q 49, .int x1] h h' (some (.int v)) := by
  refine ct_of (own := RX9) (lv := [(0, rf q 49), (1, .int x1)]) (by decide +kernel) rfl (by simp [lg_sl, rf_cat, cat_i, cat_l]) (by first | rfl | simp [lv_args, rf_cat, cat_i, cat_l]) ?_
  intro X B
  obtain rfl := B.2.1
  obtain rfl := B.2.2.1
  exact tX9_order N h x1 B hf
def fX9_aheadOf_b58 (N : Nat) (k23 : pH → Int32 → Int32 → Int32 → Option (Int32 × pH)) (h : pH) (x1 : Int32) (x2 : Int32) (x3 : Int32) : Option (Int32 × pH) :=
  k23 h x1 x2 (x3 + 1)
set_option maxRecDepth 100000 in
set_option maxHeartbeats 4000000 in
theorem tX9_aheadOf_b58 {X : Xt} {v : Int32} {h' : pH} (N : Nat) (k23 : pH → Int32 → Int32 → Int32 → Option (Int32 × pH)) (HK23 : ∀ (h : pH) (x1 : Int32) (x2 : Int32) (x3 : Int32), k23 h x1 x2 x3 = some (v, h') → Wx X 4 23 [(0, rf (qo X) 49), (1, .int x1), (2, .int x2), (3, .int x3)] [] h) (h : pH) (x1 : Int32) (x2 : Int32) (x3 : Int32) (B : Bd (lo X) (qo X) cX9_aheadOf RX9 4 (some .int) 4 90 (some (.int v)) h' X) (hf : fX9_aheadOf_b58 N k23 h x1 x2 x3 = some (v, h')) : Wx X 4 58 [(0, rf (qo X) 49), (1, .int x1), (2, .int x2), (3, .int x3)] [] h := by
  have C := B.1
  unfold fX9_aheadOf_b58 at hf
  refine x_iinc (v := x3 + 1) (lv' := [(3, .int (x3 + 1)), (0, rf (qo X) 49), (1, .int x1), (2, .int x2)]) 3 C dX9_aheadOf_58 rfl rfl (by decide) rfl ?_
  refine x_goto (tgt := 23) C dX9_aheadOf_61 (by decide) ?_
  refine x_lv [1, 2, 3, 0] rfl ?_
  exact HK23 h x1 x2 (x3 + 1) hf
def fX9_aheadOf_B23 (N : Nat) (k23 : pH → Int32 → Int32 → Int32 → Option (Int32 × pH)) (h : pH) (x1 : Int32) (x2 : Int32) (x3 : Int32) : Option (Int32 × pH) :=
  if (h.1 49 9) ≤ x3 then (some ((-1), h)) else (if x3 = x1 then (fX9_aheadOf_b58 N k23 h x1 x2 x3) else ((fX9_tries N (pw h 49 19 x2) x3).bind fun z1 => ((fX9_tries N z1.2 x1).bind fun z2 => (if z2.1 = 1 then (some (x3, z2.2)) else (fX9_aheadOf_b58 N k23 z2.2 x1 x2 x3)))))
set_option maxRecDepth 100000 in
set_option maxHeartbeats 4000000 in
theorem tX9_aheadOf_B23 {X : Xt} {v : Int32} {h' : pH} (N : Nat) (k23 : pH → Int32 → Int32 → Int32 → Option (Int32 × pH)) (HK23 : ∀ (h : pH) (x1 : Int32) (x2 : Int32) (x3 : Int32), k23 h x1 x2 x3 = some (v, h') → Wx X 4 23 [(0, rf (qo X) 49), (1, .int x1), (2, .int x2), (3, .int x3)] [] h) (h : pH) (x1 : Int32) (x2 : Int32) (x3 : Int32) (B : Bd (lo X) (qo X) cX9_aheadOf RX9 4 (some .int) 4 90 (some (.int v)) h' X) (hf : fX9_aheadOf_B23 N k23 h x1 x2 x3 = some (v, h')) : Wx X 4 23 [(0, rf (qo X) 49), (1, .int x1), (2, .int x2), (3, .int x3)] [] h := by
  have C := B.1
  unfold fX9_aheadOf_B23 at hf
  refine x_iload_n (i := 3) 3 C dX9_aheadOf_23 rfl rfl ?_
  refine x_aload_n (i := 0) 0 C dX9_aheadOf_24 rfl rfl ?_
  refine x_getI (r := 49) C dX9_aheadOf_25 kfX9_115 rfl ?_
  refine x_icmp_ge (tgt := 64) C dX9_aheadOf_28 (by decide) (fun c => ?_) (fun c => ?_)
  · rw [if_pos c] at hf
    refine x_iconst (v := (-1)) C dX9_aheadOf_64 (by decide) ?_
    obtain ⟨rfl, rfl⟩ := rtn hf
    exact B.2.2.2.2.2.1 _ _ rfl rfl rfl _ _ dX9_aheadOf_65
  · rw [if_neg c] at hf
    refine x_iload_n (i := 3) 3 C dX9_aheadOf_31 rfl rfl ?_
    refine x_iload_n (i := 1) 1 C dX9_aheadOf_32 rfl rfl ?_
    refine x_icmp_eq (tgt := 58) C dX9_aheadOf_33 (by decide) (fun c => ?_) (fun c => ?_)
    · rw [if_pos c] at hf
      exact tX9_aheadOf_b58 N k23 HK23 h x1 x2 x3 B hf
    · rw [if_neg c] at hf
      refine x_aload_n (i := 0) 0 C dX9_aheadOf_36 rfl rfl ?_
      refine x_iload_n (i := 2) 2 C dX9_aheadOf_37 rfl rfl ?_
      refine x_putI (r := 49) C dX9_aheadOf_38 kfX9_155 rfl rfl rfl ?_
      refine x_aload_n (i := 0) 0 C dX9_aheadOf_41 rfl rfl ?_
      refine x_iload_n (i := 3) 3 C dX9_aheadOf_42 rfl rfl ?_
      obtain ⟨z1, e1, hf⟩ := bnd hf
      refine x_callV (r := 49) (As := [.int x3]) (rest := []) C dX9_aheadOf_43 kmX9_187 miX9_tries (ctX9_tries (lo X) (qo X) N (pw h 49 19 x2) x3 z1.1 z1.2 e1) rfl rfl ⟨Nat.le_trans (by decide) B.2.2.2.1, Nat.le_trans (by decide) B.2.2.2.2.1⟩ (by simp [cat_i, cat_l, rf_cat]) rfl ?_
      refine x_popI C dX9_aheadOf_46 ?_
      refine x_aload_n (i := 0) 0 C dX9_aheadOf_47 rfl rfl ?_
      refine x_iload_n (i := 1) 1 C dX9_aheadOf_48 rfl rfl ?_
      obtain ⟨z2, e2, hf⟩ := bnd hf
      refine x_callV (r := 49) (As := [.int x1]) (rest := []) C dX9_aheadOf_49 kmX9_187 miX9_tries (ctX9_tries (lo X) (qo X) N z1.2 x1 z2.1 z2.2 e2) rfl rfl ⟨Nat.le_trans (by decide) B.2.2.2.1, Nat.le_trans (by decide) B.2.2.2.2.1⟩ (by simp [cat_i, cat_l, rf_cat]) rfl ?_
      refine x_iconst (v := 1) C dX9_aheadOf_52 (by decide) ?_
      refine x_icmp_ne (tgt := 58) C dX9_aheadOf_53 (by decide) (fun c => ?_) (fun c => ?_)
      · rw [if_neg c] at hf
        exact tX9_aheadOf_b58 N k23 HK23 z2.2 x1 x2 x3 B hf
      · rw [if_pos c] at hf
        refine x_iload_n (i := 3) 3 C dX9_aheadOf_56 rfl rfl ?_
        obtain ⟨rfl, rfl⟩ := rtn hf
        exact B.2.2.2.2.2.1 _ _ rfl rfl rfl _ _ dX9_aheadOf_57
def fX9_aheadOf_L23 (N : Nat) : Nat → pH → Int32 → Int32 → Int32 → Option (Int32 × pH)
  | 0 => fun _ _ _ _ => none
  | n + 1 => fX9_aheadOf_B23 N (fX9_aheadOf_L23 N n)
theorem tX9_aheadOf_L23 {X : Xt} {v : Int32} {h' : pH} (N : Nat) (B : Bd (lo X) (qo X) cX9_aheadOf RX9 4 (some .int) 4 90 (some (.int v)) h' X) : ∀ (n : Nat) (h : pH) (x1 : Int32) (x2 : Int32) (x3 : Int32), fX9_aheadOf_L23 N n h x1 x2 x3 = some (v, h') → Wx X 4 23 [(0, rf (qo X) 49), (1, .int x1), (2, .int x2), (3, .int x3)] [] h := by
  intro n
  induction n with
  | zero => intro h x1 x2 x3 hf; exact absurd (show (none : Option (Int32 × pH)) = some (v, h') from hf) (fun z => by cases z)
  | succ n ih => intro h x1 x2 x3 hf; exact tX9_aheadOf_B23 N (fX9_aheadOf_L23 N n) ih h x1 x2 x3 B hf
def fX9_aheadOf (N : Nat) (h : pH) (x1 : Int32) : Option (Int32 × pH) :=
  (fX9_lives N h).bind fun z1 => ((fX9_tries N z1.2 x1).bind fun z2 => (if z2.1 = 1 then (some ((-3), z2.2)) else (fX9_aheadOf_L23 N N z2.2 x1 (z1.2.1 49 19) 0)))
set_option maxRecDepth 100000 in
set_option maxHeartbeats 4000000 in
theorem tX9_aheadOf {X : Xt} {v : Int32} {h' : pH} (N : Nat) (h : pH) (x1 : Int32) (B : Bd (lo X) (qo X) cX9_aheadOf RX9 4 (some .int) 4 90 (some (.int v)) h' X) (hf : fX9_aheadOf N h x1 = some (v, h')) : Wx X 4 0 [(0, rf (qo X) 49), (1, .int x1)] [] h := by
  have C := B.1
  unfold fX9_aheadOf at hf
  refine x_aload_n (i := 0) 0 C dX9_aheadOf_0 rfl rfl ?_
  obtain ⟨z1, e1, hf⟩ := bnd hf
  refine x_callV (r := 49) (As := []) (rest := []) C dX9_aheadOf_1 kmX9_193 miX9_lives (ctX9_lives (lo X) (qo X) N h z1.1 z1.2 e1) rfl rfl ⟨Nat.le_trans (by decide) B.2.2.2.1, Nat.le_trans (by decide) B.2.2.2.2.1⟩ (by simp [cat_i, cat_l, rf_cat]) rfl ?_
  refine x_aload_n (i := 0) 0 C dX9_aheadOf_4 rfl rfl ?_
  refine x_getI (r := 49) C dX9_aheadOf_5 kfX9_155 rfl ?_
  refine x_istore_n (i := 2) (lv' := [(2, .int (z1.2.1 49 19)), (0, rf (qo X) 49), (1, .int x1)]) C dX9_aheadOf_8 rfl (by decide) rfl ?_
  refine x_aload_n (i := 0) 1 C dX9_aheadOf_9 rfl rfl ?_
  refine x_iload_n (i := 1) 2 C dX9_aheadOf_10 rfl rfl ?_
  obtain ⟨z2, e2, hf⟩ := bnd hf
  refine x_callV (r := 49) (As := [.int x1]) (rest := []) C dX9_aheadOf_11 kmX9_187 miX9_tries (ctX9_tries (lo X) (qo X) N z1.2 x1 z2.1 z2.2 e2) rfl rfl ⟨Nat.le_trans (by decide) B.2.2.2.1, Nat.le_trans (by decide) B.2.2.2.2.1⟩ (by simp [cat_i, cat_l, rf_cat]) rfl ?_
  refine x_iconst (v := 1) C dX9_aheadOf_14 (by decide) ?_
  refine x_icmp_ne (tgt := 21) C dX9_aheadOf_15 (by decide) (fun c => ?_) (fun c => ?_)
  · rw [if_neg c] at hf
    refine x_iconst (v := 0) C dX9_aheadOf_21 (by decide) ?_
    refine x_istore_n (i := 3) (lv' := [(3, .int 0), (2, .int (z1.2.1 49 19)), (0, rf (qo X) 49), (1, .int x1)]) C dX9_aheadOf_22 rfl (by decide) rfl ?_
    refine x_lv [2, 3, 1, 0] rfl ?_
    exact tX9_aheadOf_L23 N  B N z2.2 x1 (z1.2.1 49 19) 0 hf
  · rw [if_pos c] at hf
    refine x_bipush (v := (-3)) C dX9_aheadOf_18 (by decide) ?_
    obtain ⟨rfl, rfl⟩ := rtn hf
    exact B.2.2.2.2.2.1 _ _ rfl rfl rfl _ _ dX9_aheadOf_20
theorem ctX9_aheadOf (l : Launch) (q : Nat → Nat) (N : Nat) (h : pH) (x1 : Int32) (v : Int32) (h' : pH) (hf : fX9_aheadOf N h x1 = some (v, h')) : Ctr l q yX9_aheadOf cX9_aheadOf 4 (some .int) 4 90 [rf q 49, .int x1] h h' (some (.int v)) := by
  refine ct_of (own := RX9) (lv := [(0, rf q 49), (1, .int x1)]) (by decide +kernel) rfl (by simp [lg_sl, rf_cat, cat_i, cat_l]) (by first | rfl | simp [lv_args, rf_cat, cat_i, cat_l]) ?_
  intro X B
  obtain rfl := B.2.1
  obtain rfl := B.2.2.1
  exact tX9_aheadOf N h x1 B hf
def fX9_ahead_b22 (N : Nat) (h : pH) (xs0 : Int32) : Option (Int32 × pH) :=
  some (xs0, h)
set_option maxRecDepth 100000 in
set_option maxHeartbeats 4000000 in
theorem tX9_ahead_b22 {X : Xt} {v : Int32} {h' : pH} (N : Nat) (h : pH) (xs0 : Int32) (B : Bd (lo X) (qo X) cX9_ahead RX9 2 (some .int) 5 113 (some (.int v)) h' X) (hf : fX9_ahead_b22 N h xs0 = some (v, h')) : Wx X 2 22 [] [.int xs0] h := by
  have C := B.1
  unfold fX9_ahead_b22 at hf
  obtain ⟨rfl, rfl⟩ := rtn hf
  exact B.2.2.2.2.2.1 _ _ rfl rfl rfl _ _ dX9_ahead_22
def fX9_ahead (N : Nat) (h : pH) (x1 : Int32) : Option (Int32 × pH) :=
  (fX9_find N h).bind fun z1 => ((fX9_isCrosser N z1.2 x1).bind fun z2 => (if z2.1 = 0 then (fX9_ahead_b22 N z2.2 (-2)) else ((fX9_aheadOf N z2.2 x1).bind fun z3 => (fX9_ahead_b22 N z3.2 z3.1))))
set_option maxRecDepth 100000 in
set_option maxHeartbeats 4000000 in
theorem tX9_ahead {X : Xt} {v : Int32} {h' : pH} (N : Nat) (h : pH) (x1 : Int32) (B : Bd (lo X) (qo X) cX9_ahead RX9 2 (some .int) 5 113 (some (.int v)) h' X) (hf : fX9_ahead N h x1 = some (v, h')) : Wx X 2 0 [(0, rf (qo X) 49), (1, .int x1)] [] h := by
  have C := B.1
  unfold fX9_ahead at hf
  refine x_aload_n (i := 0) 0 C dX9_ahead_0 rfl rfl ?_
  obtain ⟨z1, e1, hf⟩ := bnd hf
  refine x_callV (r := 49) (As := []) (rest := []) C dX9_ahead_1 kmX9_196 miX9_find (ctX9_find (lo X) (qo X) N h z1.1 z1.2 e1) rfl rfl ⟨Nat.le_trans (by decide) B.2.2.2.1, Nat.le_trans (by decide) B.2.2.2.2.1⟩ (by simp [cat_i, cat_l, rf_cat]) rfl ?_
  refine x_aload_n (i := 0) 0 C dX9_ahead_4 rfl rfl ?_
  refine x_iload_n (i := 1) 1 C dX9_ahead_5 rfl rfl ?_
  obtain ⟨z2, e2, hf⟩ := bnd hf
  refine x_callV (r := 49) (As := [.int x1]) (rest := []) C dX9_ahead_6 kmX9_143 miX9_isCrosser (ctX9_isCrosser (lo X) (qo X) N z1.2 x1 z2.1 z2.2 e2) rfl rfl ⟨Nat.le_trans (by decide) B.2.2.2.1, Nat.le_trans (by decide) B.2.2.2.2.1⟩ (by simp [cat_i, cat_l, rf_cat]) rfl ?_
  refine x_if_eq (tgt := 20) C dX9_ahead_9 (by decide) (fun c => ?_) (fun c => ?_)
  · rw [if_pos c] at hf
    refine x_bipush (v := (-2)) C dX9_ahead_20 (by decide) ?_
    refine x_lv [] rfl ?_
    exact tX9_ahead_b22 N z2.2 (-2) B hf
  · rw [if_neg c] at hf
    refine x_aload_n (i := 0) 0 C dX9_ahead_12 rfl rfl ?_
    refine x_iload_n (i := 1) 1 C dX9_ahead_13 rfl rfl ?_
    obtain ⟨z3, e3, hf⟩ := bnd hf
    refine x_callV (r := 49) (As := [.int x1]) (rest := []) C dX9_ahead_14 kmX9_233 miX9_aheadOf (ctX9_aheadOf (lo X) (qo X) N z2.2 x1 z3.1 z3.2 e3) rfl rfl ⟨Nat.le_trans (by decide) B.2.2.2.1, Nat.le_trans (by decide) B.2.2.2.2.1⟩ (by simp [cat_i, cat_l, rf_cat]) rfl ?_
    refine x_goto (tgt := 22) C dX9_ahead_17 (by decide) ?_
    refine x_lv [] rfl ?_
    exact tX9_ahead_b22 N z3.2 z3.1 B hf
theorem ctX9_ahead (l : Launch) (q : Nat → Nat) (N : Nat) (h : pH) (x1 : Int32) (v : Int32) (h' : pH) (hf : fX9_ahead N h x1 = some (v, h')) : Ctr l q yX9_ahead cX9_ahead 2 (some .int) 5 113 [rf q 49, .int x1] h h' (some (.int v)) := by
  refine ct_of (own := RX9) (lv := [(0, rf q 49), (1, .int x1)]) (by decide +kernel) rfl (by simp [lg_sl, rf_cat, cat_i, cat_l]) (by first | rfl | simp [lv_args, rf_cat, cat_i, cat_l]) ?_
  intro X B
  obtain rfl := B.2.1
  obtain rfl := B.2.2.1
  exact tX9_ahead N h x1 B hf
def fX9_oftenOf_B6 (N : Nat) (k6 : pH → Int32 → Int32 → Int32 → Option (Int32 × pH)) (h : pH) (x1 : Int32) (x2 : Int32) (x3 : Int32) : Option (Int32 × pH) :=
  if 10 ≤ x3 then (some ((-1), h)) else ((fX9_tries N h x1).bind fun z1 => (if z1.1 = 1 then (some (x3, z1.2)) else ((fX9_tries N (pw z1.2 49 19 (h.1 49 19)) x2).bind fun z2 => (k6 z2.2 x1 x2 (x3 + 1)))))
set_option maxRecDepth 100000 in
set_option maxHeartbeats 4000000 in
theorem tX9_oftenOf_B6 {X : Xt} {v : Int32} {h' : pH} (N : Nat) (k6 : pH → Int32 → Int32 → Int32 → Option (Int32 × pH)) (HK6 : ∀ (h : pH) (x1 : Int32) (x2 : Int32) (x3 : Int32), k6 h x1 x2 x3 = some (v, h') → Wx X 5 6 [(0, rf (qo X) 49), (1, .int x1), (2, .int x2), (3, .int x3)] [] h) (h : pH) (x1 : Int32) (x2 : Int32) (x3 : Int32) (B : Bd (lo X) (qo X) cX9_oftenOf RX9 5 (some .int) 4 90 (some (.int v)) h' X) (hf : fX9_oftenOf_B6 N k6 h x1 x2 x3 = some (v, h')) : Wx X 5 6 [(0, rf (qo X) 49), (1, .int x1), (2, .int x2), (3, .int x3)] [] h := by
  have C := B.1
  unfold fX9_oftenOf_B6 at hf
  refine x_iload_n (i := 3) 3 C dX9_oftenOf_6 rfl rfl ?_
  refine x_bipush (v := 10) C dX9_oftenOf_7 (by decide) ?_
  refine x_icmp_ge (tgt := 47) C dX9_oftenOf_9 (by decide) (fun c => ?_) (fun c => ?_)
  · rw [if_pos c] at hf
    refine x_iconst (v := (-1)) C dX9_oftenOf_47 (by decide) ?_
    obtain ⟨rfl, rfl⟩ := rtn hf
    exact B.2.2.2.2.2.1 _ _ rfl rfl rfl _ _ dX9_oftenOf_48
  · rw [if_neg c] at hf
    refine x_aload_n (i := 0) 0 C dX9_oftenOf_12 rfl rfl ?_
    refine x_getI (r := 49) C dX9_oftenOf_13 kfX9_155 rfl ?_
    refine x_istore (lv' := [(4, .int (h.1 49 19)), (0, rf (qo X) 49), (1, .int x1), (2, .int x2), (3, .int x3)]) C dX9_oftenOf_16 (by decide) rfl ?_
    refine x_aload_n (i := 0) 1 C dX9_oftenOf_18 rfl rfl ?_
    refine x_iload_n (i := 1) 2 C dX9_oftenOf_19 rfl rfl ?_
    obtain ⟨z1, e1, hf⟩ := bnd hf
    refine x_callV (r := 49) (As := [.int x1]) (rest := []) C dX9_oftenOf_20 kmX9_187 miX9_tries (ctX9_tries (lo X) (qo X) N h x1 z1.1 z1.2 e1) rfl rfl ⟨Nat.le_trans (by decide) B.2.2.2.1, Nat.le_trans (by decide) B.2.2.2.2.1⟩ (by simp [cat_i, cat_l, rf_cat]) rfl ?_
    refine x_iconst (v := 1) C dX9_oftenOf_23 (by decide) ?_
    refine x_icmp_ne (tgt := 29) C dX9_oftenOf_24 (by decide) (fun c => ?_) (fun c => ?_)
    · rw [if_neg c] at hf
      refine x_aload_n (i := 0) 1 C dX9_oftenOf_29 rfl rfl ?_
      refine x_iload 0 C dX9_oftenOf_30 rfl ?_
      refine x_putI (r := 49) C dX9_oftenOf_32 kfX9_155 rfl rfl rfl ?_
      refine x_aload_n (i := 0) 1 C dX9_oftenOf_35 rfl rfl ?_
      refine x_iload_n (i := 2) 3 C dX9_oftenOf_36 rfl rfl ?_
      obtain ⟨z2, e2, hf⟩ := bnd hf
      refine x_callV (r := 49) (As := [.int x2]) (rest := []) C dX9_oftenOf_37 kmX9_187 miX9_tries (ctX9_tries (lo X) (qo X) N (pw z1.2 49 19 (h.1 49 19)) x2 z2.1 z2.2 e2) rfl rfl ⟨Nat.le_trans (by decide) B.2.2.2.1, Nat.le_trans (by decide) B.2.2.2.2.1⟩ (by simp [cat_i, cat_l, rf_cat]) rfl ?_
      refine x_popI C dX9_oftenOf_40 ?_
      refine x_iinc (v := x3 + 1) (lv' := [(3, .int (x3 + 1)), (4, .int (h.1 49 19)), (0, rf (qo X) 49), (1, .int x1), (2, .int x2)]) 4 C dX9_oftenOf_41 rfl rfl (by decide) rfl ?_
      refine x_goto (tgt := 6) C dX9_oftenOf_44 (by decide) ?_
      refine x_lv [2, 3, 4, 0] rfl ?_
      exact HK6 z2.2 x1 x2 (x3 + 1) hf
    · rw [if_pos c] at hf
      refine x_iload_n (i := 3) 4 C dX9_oftenOf_27 rfl rfl ?_
      obtain ⟨rfl, rfl⟩ := rtn hf
      exact B.2.2.2.2.2.1 _ _ rfl rfl rfl _ _ dX9_oftenOf_28
def fX9_oftenOf_L6 (N : Nat) : Nat → pH → Int32 → Int32 → Int32 → Option (Int32 × pH)
  | 0 => fun _ _ _ _ => none
  | n + 1 => fX9_oftenOf_B6 N (fX9_oftenOf_L6 N n)
theorem tX9_oftenOf_L6 {X : Xt} {v : Int32} {h' : pH} (N : Nat) (B : Bd (lo X) (qo X) cX9_oftenOf RX9 5 (some .int) 4 90 (some (.int v)) h' X) : ∀ (n : Nat) (h : pH) (x1 : Int32) (x2 : Int32) (x3 : Int32), fX9_oftenOf_L6 N n h x1 x2 x3 = some (v, h') → Wx X 5 6 [(0, rf (qo X) 49), (1, .int x1), (2, .int x2), (3, .int x3)] [] h := by
  intro n
  induction n with
  | zero => intro h x1 x2 x3 hf; exact absurd (show (none : Option (Int32 × pH)) = some (v, h') from hf) (fun z => by cases z)
  | succ n ih => intro h x1 x2 x3 hf; exact tX9_oftenOf_B6 N (fX9_oftenOf_L6 N n) ih h x1 x2 x3 B hf
def fX9_oftenOf (N : Nat) (h : pH) (x1 : Int32) (x2 : Int32) : Option (Int32 × pH) :=
  (fX9_lives N h).bind fun z1 => (fX9_oftenOf_L6 N N z1.2 x1 x2 0)
set_option maxRecDepth 100000 in
set_option maxHeartbeats 4000000 in
theorem tX9_oftenOf {X : Xt} {v : Int32} {h' : pH} (N : Nat) (h : pH) (x1 : Int32) (x2 : Int32) (B : Bd (lo X) (qo X) cX9_oftenOf RX9 5 (some .int) 4 90 (some (.int v)) h' X) (hf : fX9_oftenOf N h x1 x2 = some (v, h')) : Wx X 5 0 [(0, rf (qo X) 49), (1, .int x1), (2, .int x2)] [] h := by
  have C := B.1
  unfold fX9_oftenOf at hf
  refine x_aload_n (i := 0) 0 C dX9_oftenOf_0 rfl rfl ?_
  obtain ⟨z1, e1, hf⟩ := bnd hf
  refine x_callV (r := 49) (As := []) (rest := []) C dX9_oftenOf_1 kmX9_193 miX9_lives (ctX9_lives (lo X) (qo X) N h z1.1 z1.2 e1) rfl rfl ⟨Nat.le_trans (by decide) B.2.2.2.1, Nat.le_trans (by decide) B.2.2.2.2.1⟩ (by simp [cat_i, cat_l, rf_cat]) rfl ?_
  refine x_iconst (v := 0) C dX9_oftenOf_4 (by decide) ?_
  refine x_istore_n (i := 3) (lv' := [(3, .int 0), (0, rf (qo X) 49), (1, .int x1), (2, .int x2)]) C dX9_oftenOf_5 rfl (by decide) rfl ?_
  refine x_lv [1, 2, 3, 0] rfl ?_
  exact tX9_oftenOf_L6 N  B N z1.2 x1 x2 0 hf
theorem ctX9_oftenOf (l : Launch) (q : Nat → Nat) (N : Nat) (h : pH) (x1 : Int32) (x2 : Int32) (v : Int32) (h' : pH) (hf : fX9_oftenOf N h x1 x2 = some (v, h')) : Ctr l q yX9_oftenOf cX9_oftenOf 5 (some .int) 4 90 [rf q 49, .int x1, .int x2] h h' (some (.int v)) := by
  refine ct_of (own := RX9) (lv := [(0, rf q 49), (1, .int x1), (2, .int x2)]) (by decide +kernel) rfl (by simp [lg_sl, rf_cat, cat_i, cat_l]) (by first | rfl | simp [lv_args, rf_cat, cat_i, cat_l]) ?_
  intro X B
  obtain rfl := B.2.1
  obtain rfl := B.2.2.1
  exact tX9_oftenOf N h x1 x2 B hf
def fX9_often_b36 (N : Nat) (h : pH) (xs0 : Int32) : Option (Int32 × pH) :=
  some (xs0, h)
set_option maxRecDepth 100000 in
set_option maxHeartbeats 4000000 in
theorem tX9_often_b36 {X : Xt} {v : Int32} {h' : pH} (N : Nat) (h : pH) (xs0 : Int32) (B : Bd (lo X) (qo X) cX9_often RX9 3 (some .int) 5 114 (some (.int v)) h' X) (hf : fX9_often_b36 N h xs0 = some (v, h')) : Wx X 3 36 [] [.int xs0] h := by
  have C := B.1
  unfold fX9_often_b36 at hf
  obtain ⟨rfl, rfl⟩ := rtn hf
  exact B.2.2.2.2.2.1 _ _ rfl rfl rfl _ _ dX9_often_36
def fX9_often_b34 (N : Nat) (h : pH)  : Option (Int32 × pH) :=
  fX9_often_b36 N h (-2)
set_option maxRecDepth 100000 in
set_option maxHeartbeats 4000000 in
theorem tX9_often_b34 {X : Xt} {v : Int32} {h' : pH} (N : Nat) (h : pH)  (B : Bd (lo X) (qo X) cX9_often RX9 3 (some .int) 5 114 (some (.int v)) h' X) (hf : fX9_often_b34 N h  = some (v, h')) : Wx X 3 34 [] [] h := by
  have C := B.1
  unfold fX9_often_b34 at hf
  refine x_bipush (v := (-2)) C dX9_often_34 (by decide) ?_
  exact tX9_often_b36 N h (-2) B hf
def fX9_often (N : Nat) (h : pH) (x1 : Int32) (x2 : Int32) : Option (Int32 × pH) :=
  (fX9_find N h).bind fun z1 => ((fX9_isCrosser N z1.2 x1).bind fun z2 => (if z2.1 = 0 then (fX9_often_b34 N z2.2) else ((fX9_isCrosser N z2.2 x2).bind fun z3 => (if z3.1 = 0 then (fX9_often_b34 N z3.2) else (if x1 = x2 then (fX9_often_b34 N z3.2) else ((fX9_oftenOf N z3.2 x1 x2).bind fun z4 => (fX9_often_b36 N z4.2 z4.1)))))))
set_option maxRecDepth 100000 in
set_option maxHeartbeats 4000000 in
theorem tX9_often {X : Xt} {v : Int32} {h' : pH} (N : Nat) (h : pH) (x1 : Int32) (x2 : Int32) (B : Bd (lo X) (qo X) cX9_often RX9 3 (some .int) 5 114 (some (.int v)) h' X) (hf : fX9_often N h x1 x2 = some (v, h')) : Wx X 3 0 [(0, rf (qo X) 49), (1, .int x1), (2, .int x2)] [] h := by
  have C := B.1
  unfold fX9_often at hf
  refine x_aload_n (i := 0) 0 C dX9_often_0 rfl rfl ?_
  obtain ⟨z1, e1, hf⟩ := bnd hf
  refine x_callV (r := 49) (As := []) (rest := []) C dX9_often_1 kmX9_196 miX9_find (ctX9_find (lo X) (qo X) N h z1.1 z1.2 e1) rfl rfl ⟨Nat.le_trans (by decide) B.2.2.2.1, Nat.le_trans (by decide) B.2.2.2.2.1⟩ (by simp [cat_i, cat_l, rf_cat]) rfl ?_
  refine x_aload_n (i := 0) 0 C dX9_often_4 rfl rfl ?_
  refine x_iload_n (i := 1) 1 C dX9_often_5 rfl rfl ?_
  obtain ⟨z2, e2, hf⟩ := bnd hf
  refine x_callV (r := 49) (As := [.int x1]) (rest := []) C dX9_often_6 kmX9_143 miX9_isCrosser (ctX9_isCrosser (lo X) (qo X) N z1.2 x1 z2.1 z2.2 e2) rfl rfl ⟨Nat.le_trans (by decide) B.2.2.2.1, Nat.le_trans (by decide) B.2.2.2.2.1⟩ (by simp [cat_i, cat_l, rf_cat]) rfl ?_
  refine x_if_eq (tgt := 34) C dX9_often_9 (by decide) (fun c => ?_) (fun c => ?_)
  · rw [if_pos c] at hf
    refine x_lv [] rfl ?_
    exact tX9_often_b34 N z2.2 B hf
  · rw [if_neg c] at hf
    refine x_aload_n (i := 0) 0 C dX9_often_12 rfl rfl ?_
    refine x_iload_n (i := 2) 2 C dX9_often_13 rfl rfl ?_
    obtain ⟨z3, e3, hf⟩ := bnd hf
    refine x_callV (r := 49) (As := [.int x2]) (rest := []) C dX9_often_14 kmX9_143 miX9_isCrosser (ctX9_isCrosser (lo X) (qo X) N z2.2 x2 z3.1 z3.2 e3) rfl rfl ⟨Nat.le_trans (by decide) B.2.2.2.1, Nat.le_trans (by decide) B.2.2.2.2.1⟩ (by simp [cat_i, cat_l, rf_cat]) rfl ?_
    refine x_if_eq (tgt := 34) C dX9_often_17 (by decide) (fun c => ?_) (fun c => ?_)
    · rw [if_pos c] at hf
      refine x_lv [] rfl ?_
      exact tX9_often_b34 N z3.2 B hf
    · rw [if_neg c] at hf
      refine x_iload_n (i := 1) 1 C dX9_often_20 rfl rfl ?_
      refine x_iload_n (i := 2) 2 C dX9_often_21 rfl rfl ?_
      refine x_icmp_eq (tgt := 34) C dX9_often_22 (by decide) (fun c => ?_) (fun c => ?_)
      · rw [if_pos c] at hf
        refine x_lv [] rfl ?_
        exact tX9_often_b34 N z3.2 B hf
      · rw [if_neg c] at hf
        refine x_aload_n (i := 0) 0 C dX9_often_25 rfl rfl ?_
        refine x_iload_n (i := 1) 1 C dX9_often_26 rfl rfl ?_
        refine x_iload_n (i := 2) 2 C dX9_often_27 rfl rfl ?_
        obtain ⟨z4, e4, hf⟩ := bnd hf
        refine x_callV (r := 49) (As := [.int x1, .int x2]) (rest := []) C dX9_often_28 kmX9_236 miX9_oftenOf (ctX9_oftenOf (lo X) (qo X) N z3.2 x1 x2 z4.1 z4.2 e4) rfl rfl ⟨Nat.le_trans (by decide) B.2.2.2.1, Nat.le_trans (by decide) B.2.2.2.2.1⟩ (by simp [cat_i, cat_l, rf_cat]) rfl ?_
        refine x_goto (tgt := 36) C dX9_often_31 (by decide) ?_
        refine x_lv [] rfl ?_
        exact tX9_often_b36 N z4.2 z4.1 B hf
theorem ctX9_often (l : Launch) (q : Nat → Nat) (N : Nat) (h : pH) (x1 : Int32) (x2 : Int32) (v : Int32) (h' : pH) (hf : fX9_often N h x1 x2 = some (v, h')) : Ctr l q yX9_often cX9_often 3 (some .int) 5 114 [rf q 49, .int x1, .int x2] h h' (some (.int v)) := by
  refine ct_of (own := RX9) (lv := [(0, rf q 49), (1, .int x1), (2, .int x2)]) (by decide +kernel) rfl (by simp [lg_sl, rf_cat, cat_i, cat_l]) (by first | rfl | simp [lv_args, rf_cat, cat_i, cat_l]) ?_
  intro X B
  obtain rfl := B.2.1
  obtain rfl := B.2.2.1
  exact tX9_often N h x1 x2 B hf
def fX9_seen_b24 (N : Nat) (h : pH)  : Option (Int32 × pH) :=
  some ((-2), h)
set_option maxRecDepth 100000 in
set_option maxHeartbeats 4000000 in
theorem tX9_seen_b24 {X : Xt} {v : Int32} {h' : pH} (N : Nat) (h : pH)  (B : Bd (lo X) (qo X) cX9_seen RX9 3 (some .int) 1 25 (some (.int v)) h' X) (hf : fX9_seen_b24 N h  = some (v, h')) : Wx X 3 24 [] [] h := by
  have C := B.1
  unfold fX9_seen_b24 at hf
  refine x_bipush (v := (-2)) C dX9_seen_24 (by decide) ?_
  obtain ⟨rfl, rfl⟩ := rtn hf
  exact B.2.2.2.2.2.1 _ _ rfl rfl rfl _ _ dX9_seen_26
def fX9_seen (N : Nat) (h : pH) (x1 : Int32) (x2 : Int32) : Option (Int32 × pH) :=
  (fX9_in N h x1.toInt64 0 24).bind fun z1 => (if z1.1 = 0 then (fX9_seen_b24 N z1.2) else ((fX9_in N z1.2 x2.toInt64 0 18).bind fun z2 => (if z2.1 = 0 then (fX9_seen_b24 N z2.2) else (if (z2.2.1 49 27) = 8 then (some ((-4), z2.2)) else (if ix (2 * (z2.2.1 49 27)) 16 = true then (if ix ((2 * ((pw z2.2 67 (2 * (z2.2.1 49 27)).toNatClampNeg x1).1 49 27)) + 1) 16 = true then (some ((pw (pw (pw z2.2 67 (2 * (z2.2.1 49 27)).toNatClampNeg x1) 67 ((2 * ((pw z2.2 67 (2 * (z2.2.1 49 27)).toNatClampNeg x1).1 49 27)) + 1).toNatClampNeg x2) 49 27 (((pw (pw z2.2 67 (2 * (z2.2.1 49 27)).toNatClampNeg x1) 67 ((2 * ((pw z2.2 67 (2 * (z2.2.1 49 27)).toNatClampNeg x1).1 49 27)) + 1).toNatClampNeg x2).1 49 27) + 1)).1 49 27, (pw (pw (pw z2.2 67 (2 * (z2.2.1 49 27)).toNatClampNeg x1) 67 ((2 * ((pw z2.2 67 (2 * (z2.2.1 49 27)).toNatClampNeg x1).1 49 27)) + 1).toNatClampNeg x2) 49 27 (((pw (pw z2.2 67 (2 * (z2.2.1 49 27)).toNatClampNeg x1) 67 ((2 * ((pw z2.2 67 (2 * (z2.2.1 49 27)).toNatClampNeg x1).1 49 27)) + 1).toNatClampNeg x2).1 49 27) + 1)))) else none) else none)))))
set_option maxRecDepth 100000 in
set_option maxHeartbeats 4000000 in
theorem tX9_seen {X : Xt} {v : Int32} {h' : pH} (N : Nat) (h : pH) (x1 : Int32) (x2 : Int32) (B : Bd (lo X) (qo X) cX9_seen RX9 3 (some .int) 1 25 (some (.int v)) h' X) (hf : fX9_seen N h x1 x2 = some (v, h')) : Wx X 3 0 [(0, rf (qo X) 49), (1, .int x1), (2, .int x2)] [] h := by
  have C := B.1
  unfold fX9_seen at hf
  refine x_iload_n (i := 1) 1 C dX9_seen_0 rfl rfl ?_
  refine x_i2l C dX9_seen_1 ?_
  refine x_lconst (v := 0) C dX9_seen_2 (by decide) ?_
  refine x_ldc2 (v := 24) C dX9_seen_3 kkX9_239 ?_
  obtain ⟨z1, e1, hf⟩ := bnd hf
  refine x_callS (As := [.long x1.toInt64, .long 0, .long 24]) (rest := []) C dX9_seen_6 kmX9_69 miX9_in (ctX9_in (lo X) (qo X) N h x1.toInt64 0 24 z1.1 z1.2 e1) rfl rfl ⟨Nat.le_trans (by decide) B.2.2.2.1, Nat.le_trans (by decide) B.2.2.2.2.1⟩ (by simp [cat_i, cat_l, rf_cat]) ?_
  refine x_if_eq (tgt := 24) C dX9_seen_9 (by decide) (fun c => ?_) (fun c => ?_)
  · rw [if_pos c] at hf
    refine x_lv [] rfl ?_
    exact tX9_seen_b24 N z1.2 B hf
  · rw [if_neg c] at hf
    refine x_iload_n (i := 2) 2 C dX9_seen_12 rfl rfl ?_
    refine x_i2l C dX9_seen_13 ?_
    refine x_lconst (v := 0) C dX9_seen_14 (by decide) ?_
    refine x_ldc2 (v := 18) C dX9_seen_15 kkX9_141 ?_
    obtain ⟨z2, e2, hf⟩ := bnd hf
    refine x_callS (As := [.long x2.toInt64, .long 0, .long 18]) (rest := []) C dX9_seen_18 kmX9_69 miX9_in (ctX9_in (lo X) (qo X) N z1.2 x2.toInt64 0 18 z2.1 z2.2 e2) rfl rfl ⟨Nat.le_trans (by decide) B.2.2.2.1, Nat.le_trans (by decide) B.2.2.2.2.1⟩ (by simp [cat_i, cat_l, rf_cat]) ?_
    refine x_if_ne (tgt := 27) C dX9_seen_21 (by decide) (fun c => ?_) (fun c => ?_)
    · rw [if_neg c] at hf
      refine x_aload_n (i := 0) 0 C dX9_seen_27 rfl rfl ?_
      refine x_getI (r := 49) C dX9_seen_28 kfX9_241 rfl ?_
      refine x_bipush (v := 8) C dX9_seen_31 (by decide) ?_
      refine x_icmp_ne (tgt := 39) C dX9_seen_33 (by decide) (fun c => ?_) (fun c => ?_)
      · rw [if_neg c] at hf
        refine x_aload_n (i := 0) 0 C dX9_seen_39 rfl rfl ?_
        refine x_getR (r := 49) (r2 := 67) C dX9_seen_40 kfX9_61 rfl rfl (by decide) ?_
        refine x_iconst (v := 2) C dX9_seen_43 (by decide) ?_
        refine x_aload_n (i := 0) 0 C dX9_seen_44 rfl rfl ?_
        refine x_getI (r := 49) C dX9_seen_45 kfX9_241 rfl ?_
        refine x_imul C dX9_seen_48 ?_
        refine x_iload_n (i := 1) 1 C dX9_seen_49 rfl rfl ?_
        obtain ⟨g1, hf⟩ := ife hf
        refine x_iast (r := 67) C dX9_seen_50 rfl g1 ?_
        refine x_aload_n (i := 0) 0 C dX9_seen_51 rfl rfl ?_
        refine x_getR (r := 49) (r2 := 67) C dX9_seen_52 kfX9_61 rfl rfl (by decide) ?_
        refine x_iconst (v := 2) C dX9_seen_55 (by decide) ?_
        refine x_aload_n (i := 0) 0 C dX9_seen_56 rfl rfl ?_
        refine x_getI (r := 49) C dX9_seen_57 kfX9_241 rfl ?_
        refine x_imul C dX9_seen_60 ?_
        refine x_iconst (v := 1) C dX9_seen_61 (by decide) ?_
        refine x_iadd C dX9_seen_62 ?_
        refine x_iload_n (i := 2) 2 C dX9_seen_63 rfl rfl ?_
        obtain ⟨g2, hf⟩ := ife hf
        refine x_iast (r := 67) C dX9_seen_64 rfl g2 ?_
        refine x_aload_n (i := 0) 0 C dX9_seen_65 rfl rfl ?_
        refine x_dupA C dX9_seen_66 ?_
        refine x_getI (r := 49) C dX9_seen_67 kfX9_241 rfl ?_
        refine x_iconst (v := 1) C dX9_seen_70 (by decide) ?_
        refine x_iadd C dX9_seen_71 ?_
        refine x_putI (r := 49) C dX9_seen_72 kfX9_241 rfl rfl rfl ?_
        refine x_aload_n (i := 0) 0 C dX9_seen_75 rfl rfl ?_
        refine x_getI (r := 49) C dX9_seen_76 kfX9_241 rfl ?_
        obtain ⟨rfl, rfl⟩ := rtn hf
        exact B.2.2.2.2.2.1 _ _ rfl rfl rfl _ _ dX9_seen_79
      · rw [if_pos c] at hf
        refine x_bipush (v := (-4)) C dX9_seen_36 (by decide) ?_
        obtain ⟨rfl, rfl⟩ := rtn hf
        exact B.2.2.2.2.2.1 _ _ rfl rfl rfl _ _ dX9_seen_38
    · rw [if_pos c] at hf
      refine x_lv [] rfl ?_
      exact tX9_seen_b24 N z2.2 B hf
theorem ctX9_seen (l : Launch) (q : Nat → Nat) (N : Nat) (h : pH) (x1 : Int32) (x2 : Int32) (v : Int32) (h' : pH) (hf : fX9_seen N h x1 x2 = some (v, h')) : Ctr l q yX9_seen cX9_seen 3 (some .int) 1 25 [rf q 49, .int x1, .int x2] h h' (some (.int v)) := by
  refine ct_of (own := RX9) (lv := [(0, rf q 49), (1, .int x1), (2, .int x2)]) (by decide +kernel) rfl (by simp [lg_sl, rf_cat, cat_i, cat_l]) (by first | rfl | simp [lv_args, rf_cat, cat_i, cat_l]) ?_
  intro X B
  obtain rfl := B.2.1
  obtain rfl := B.2.2.1
  exact tX9_seen N h x1 x2 B hf
def fX9_forget (N : Nat) (h : pH)  : Option (Int32 × pH) :=
  some (h.1 49 27, (pw h 49 27 0))
set_option maxRecDepth 100000 in
set_option maxHeartbeats 4000000 in
theorem tX9_forget {X : Xt} {v : Int32} {h' : pH} (N : Nat) (h : pH)  (B : Bd (lo X) (qo X) cX9_forget RX9 2 (some .int) 0 0 (some (.int v)) h' X) (hf : fX9_forget N h  = some (v, h')) : Wx X 2 0 [(0, rf (qo X) 49)] [] h := by
  have C := B.1
  unfold fX9_forget at hf
  refine x_aload_n (i := 0) 0 C dX9_forget_0 rfl rfl ?_
  refine x_getI (r := 49) C dX9_forget_1 kfX9_241 rfl ?_
  refine x_istore_n (i := 1) (lv' := [(1, .int (h.1 49 27)), (0, rf (qo X) 49)]) C dX9_forget_4 rfl (by decide) rfl ?_
  refine x_aload_n (i := 0) 1 C dX9_forget_5 rfl rfl ?_
  refine x_iconst (v := 0) C dX9_forget_6 (by decide) ?_
  refine x_putI (r := 49) C dX9_forget_7 kfX9_241 rfl rfl rfl ?_
  refine x_iload_n (i := 1) 0 C dX9_forget_10 rfl rfl ?_
  obtain ⟨rfl, rfl⟩ := rtn hf
  exact B.2.2.2.2.2.1 _ _ rfl rfl rfl _ _ dX9_forget_11
theorem ctX9_forget (l : Launch) (q : Nat → Nat) (N : Nat) (h : pH)  (v : Int32) (h' : pH) (hf : fX9_forget N h  = some (v, h')) : Ctr l q yX9_forget cX9_forget 2 (some .int) 0 0 [rf q 49] h h' (some (.int v)) := by
  refine ct_of (own := RX9) (lv := [(0, rf q 49)]) (by decide +kernel) rfl (by simp [lg_sl, rf_cat, cat_i, cat_l]) (by first | rfl | simp [lv_args, rf_cat, cat_i, cat_l]) ?_
  intro X B
  obtain rfl := B.2.1
  obtain rfl := B.2.2.1
  exact tX9_forget N h  B hf
def fX9_read_b103 (N : Nat) (h : pH) (x2 : Int32) : Option (Int32 × pH) :=
  some (x2, h)
set_option maxRecDepth 100000 in
set_option maxHeartbeats 4000000 in
theorem tX9_read_b103 {X : Xt} {v : Int32} {h' : pH} (N : Nat) (h : pH) (x2 : Int32) (B : Bd (lo X) (qo X) cX9_read RX9 4 (some .int) 2 47 (some (.int v)) h' X) (hf : fX9_read_b103 N h x2 = some (v, h')) : Wx X 4 103 [(2, .int x2)] [] h := by
  have C := B.1
  unfold fX9_read_b103 at hf
  refine x_iload_n (i := 2) 0 C dX9_read_103 rfl rfl ?_
  obtain ⟨rfl, rfl⟩ := rtn hf
  exact B.2.2.2.2.2.1 _ _ rfl rfl rfl _ _ dX9_read_104
def fX9_read_b98 (N : Nat) (k29 : pH → Int32 → Int32 → Int32 → Option (Int32 × pH)) (h : pH) (x1 : Int32) (x3 : Int32) (xs0 : Int32) (xs1 : Int32) : Option (Int32 × pH) :=
  k29 h x1 (xs1 + xs0) x3
set_option maxRecDepth 100000 in
set_option maxHeartbeats 4000000 in
theorem tX9_read_b98 {X : Xt} {v : Int32} {h' : pH} (N : Nat) (k29 : pH → Int32 → Int32 → Int32 → Option (Int32 × pH)) (HK29 : ∀ (h : pH) (x1 : Int32) (x2 : Int32) (x3 : Int32), k29 h x1 x2 x3 = some (v, h') → Wx X 4 29 [(0, rf (qo X) 49), (1, .int x1), (2, .int x2), (3, .int x3)] [] h) (h : pH) (x1 : Int32) (x3 : Int32) (xs0 : Int32) (xs1 : Int32) (B : Bd (lo X) (qo X) cX9_read RX9 4 (some .int) 2 47 (some (.int v)) h' X) (hf : fX9_read_b98 N k29 h x1 x3 xs0 xs1 = some (v, h')) : Wx X 4 98 [(0, rf (qo X) 49), (1, .int x1), (3, .int x3)] [.int xs0, .int xs1] h := by
  have C := B.1
  unfold fX9_read_b98 at hf
  refine x_iadd C dX9_read_98 ?_
  refine x_istore_n (i := 2) (lv' := [(2, .int (xs1 + xs0)), (0, rf (qo X) 49), (1, .int x1), (3, .int x3)]) C dX9_read_99 rfl (by decide) rfl ?_
  refine x_goto (tgt := 29) C dX9_read_100 (by decide) ?_
  refine x_lv [1, 2, 0, 3] rfl ?_
  exact HK29 h x1 (xs1 + xs0) x3 hf
def fX9_read_b87 (N : Nat) (k29 : pH → Int32 → Int32 → Int32 → Option (Int32 × pH)) (h : pH) (x1 : Int32) (x2 : Int32) (xs0 : Int32) : Option (Int32 × pH) :=
  if xs0 = 0 then (fX9_read_b98 N k29 h x1 xs0 0 x2) else (fX9_read_b98 N k29 h x1 xs0 1 x2)
set_option maxRecDepth 100000 in
set_option maxHeartbeats 4000000 in
theorem tX9_read_b87 {X : Xt} {v : Int32} {h' : pH} (N : Nat) (k29 : pH → Int32 → Int32 → Int32 → Option (Int32 × pH)) (HK29 : ∀ (h : pH) (x1 : Int32) (x2 : Int32) (x3 : Int32), k29 h x1 x2 x3 = some (v, h') → Wx X 4 29 [(0, rf (qo X) 49), (1, .int x1), (2, .int x2), (3, .int x3)] [] h) (h : pH) (x1 : Int32) (x2 : Int32) (xs0 : Int32) (B : Bd (lo X) (qo X) cX9_read RX9 4 (some .int) 2 47 (some (.int v)) h' X) (hf : fX9_read_b87 N k29 h x1 x2 xs0 = some (v, h')) : Wx X 4 87 [(0, rf (qo X) 49), (1, .int x1), (2, .int x2)] [.int xs0] h := by
  have C := B.1
  unfold fX9_read_b87 at hf
  refine x_istore_n (i := 3) (lv' := [(3, .int xs0), (0, rf (qo X) 49), (1, .int x1), (2, .int x2)]) C dX9_read_87 rfl (by decide) rfl ?_
  refine x_iload_n (i := 2) 3 C dX9_read_88 rfl rfl ?_
  refine x_iload_n (i := 3) 0 C dX9_read_89 rfl rfl ?_
  refine x_if_eq (tgt := 97) C dX9_read_90 (by decide) (fun c => ?_) (fun c => ?_)
  · rw [if_pos c] at hf
    refine x_iconst (v := 0) C dX9_read_97 (by decide) ?_
    refine x_lv [1, 2, 0] rfl ?_
    exact tX9_read_b98 N k29 HK29 h x1 xs0 0 x2 B hf
  · rw [if_neg c] at hf
    refine x_iconst (v := 1) C dX9_read_93 (by decide) ?_
    refine x_goto (tgt := 98) C dX9_read_94 (by decide) ?_
    refine x_lv [1, 2, 0] rfl ?_
    exact tX9_read_b98 N k29 HK29 h x1 xs0 1 x2 B hf
def fX9_read_B29 (N : Nat) (k29 : pH → Int32 → Int32 → Int32 → Option (Int32 × pH)) (h : pH) (x1 : Int32) (x2 : Int32) (x3 : Int32) : Option (Int32 × pH) :=
  if x3 = 0 then (fX9_read_b103 N h x2) else (if ix x1 4 = true then (if (h.1 51 x1.toNatClampNeg) < ((2 * x2) + 2) then (fX9_read_b103 N h x2) else (if ix ((60 * x1) + (2 * x2)) 240 = true then (if ix (((60 * x1) + (2 * x2)) + 1) 240 = true then ((fX9_seen N h (h.1 52 ((60 * x1) + (2 * x2)).toNatClampNeg) (h.1 52 (((60 * x1) + (2 * x2)) + 1).toNatClampNeg)).bind fun z1 => (if z1.1 < 0 then (fX9_read_b87 N k29 z1.2 x1 x2 0) else (fX9_read_b87 N k29 z1.2 x1 x2 1))) else none) else none)) else none)
set_option maxRecDepth 100000 in
set_option maxHeartbeats 4000000 in
theorem tX9_read_B29 {X : Xt} {v : Int32} {h' : pH} (N : Nat) (k29 : pH → Int32 → Int32 → Int32 → Option (Int32 × pH)) (HK29 : ∀ (h : pH) (x1 : Int32) (x2 : Int32) (x3 : Int32), k29 h x1 x2 x3 = some (v, h') → Wx X 4 29 [(0, rf (qo X) 49), (1, .int x1), (2, .int x2), (3, .int x3)] [] h) (h : pH) (x1 : Int32) (x2 : Int32) (x3 : Int32) (B : Bd (lo X) (qo X) cX9_read RX9 4 (some .int) 2 47 (some (.int v)) h' X) (hf : fX9_read_B29 N k29 h x1 x2 x3 = some (v, h')) : Wx X 4 29 [(0, rf (qo X) 49), (1, .int x1), (2, .int x2), (3, .int x3)] [] h := by
  have C := B.1
  unfold fX9_read_B29 at hf
  refine x_iload_n (i := 3) 3 C dX9_read_29 rfl rfl ?_
  refine x_if_eq (tgt := 103) C dX9_read_30 (by decide) (fun c => ?_) (fun c => ?_)
  · rw [if_pos c] at hf
    refine x_lv [2] rfl ?_
    exact tX9_read_b103 N h x2 B hf
  · rw [if_neg c] at hf
    refine x_iconst (v := 2) C dX9_read_33 (by decide) ?_
    refine x_iload_n (i := 2) 2 C dX9_read_34 rfl rfl ?_
    refine x_imul C dX9_read_35 ?_
    refine x_iconst (v := 2) C dX9_read_36 (by decide) ?_
    refine x_iadd C dX9_read_37 ?_
    refine x_aload_n (i := 0) 0 C dX9_read_38 rfl rfl ?_
    refine x_getR (r := 49) (r2 := 51) C dX9_read_39 kfX9_13 rfl rfl (by decide) ?_
    refine x_iload_n (i := 1) 1 C dX9_read_42 rfl rfl ?_
    obtain ⟨g1, hf⟩ := ife hf
    refine x_iald (r := 51) C dX9_read_43 rfl g1 ?_
    refine x_icmp_gt (tgt := 103) C dX9_read_44 (by decide) (fun c => ?_) (fun c => ?_)
    · rw [if_pos c] at hf
      refine x_lv [2] rfl ?_
      exact tX9_read_b103 N h x2 B hf
    · rw [if_neg c] at hf
      refine x_aload_n (i := 0) 0 C dX9_read_47 rfl rfl ?_
      refine x_aload_n (i := 0) 0 C dX9_read_48 rfl rfl ?_
      refine x_getR (r := 49) (r2 := 52) C dX9_read_49 kfX9_16 rfl rfl (by decide) ?_
      refine x_bipush (v := 60) C dX9_read_52 (by decide) ?_
      refine x_iload_n (i := 1) 1 C dX9_read_54 rfl rfl ?_
      refine x_imul C dX9_read_55 ?_
      refine x_iconst (v := 2) C dX9_read_56 (by decide) ?_
      refine x_iload_n (i := 2) 2 C dX9_read_57 rfl rfl ?_
      refine x_imul C dX9_read_58 ?_
      refine x_iadd C dX9_read_59 ?_
      obtain ⟨g2, hf⟩ := ife hf
      refine x_iald (r := 52) C dX9_read_60 rfl g2 ?_
      refine x_aload_n (i := 0) 0 C dX9_read_61 rfl rfl ?_
      refine x_getR (r := 49) (r2 := 52) C dX9_read_62 kfX9_16 rfl rfl (by decide) ?_
      refine x_bipush (v := 60) C dX9_read_65 (by decide) ?_
      refine x_iload_n (i := 1) 1 C dX9_read_67 rfl rfl ?_
      refine x_imul C dX9_read_68 ?_
      refine x_iconst (v := 2) C dX9_read_69 (by decide) ?_
      refine x_iload_n (i := 2) 2 C dX9_read_70 rfl rfl ?_
      refine x_imul C dX9_read_71 ?_
      refine x_iadd C dX9_read_72 ?_
      refine x_iconst (v := 1) C dX9_read_73 (by decide) ?_
      refine x_iadd C dX9_read_74 ?_
      obtain ⟨g3, hf⟩ := ife hf
      refine x_iald (r := 52) C dX9_read_75 rfl g3 ?_
      obtain ⟨z1, e1, hf⟩ := bnd hf
      refine x_callV (r := 49) (As := [.int (h.1 52 ((60 * x1) + (2 * x2)).toNatClampNeg), .int (h.1 52 (((60 * x1) + (2 * x2)) + 1).toNatClampNeg)]) (rest := []) C dX9_read_76 kmX9_244 miX9_seen (ctX9_seen (lo X) (qo X) N h (h.1 52 ((60 * x1) + (2 * x2)).toNatClampNeg) (h.1 52 (((60 * x1) + (2 * x2)) + 1).toNatClampNeg) z1.1 z1.2 e1) rfl rfl ⟨Nat.le_trans (by decide) B.2.2.2.1, Nat.le_trans (by decide) B.2.2.2.2.1⟩ (by simp [cat_i, cat_l, rf_cat]) rfl ?_
      refine x_if_lt (tgt := 86) C dX9_read_79 (by decide) (fun c => ?_) (fun c => ?_)
      · rw [if_pos c] at hf
        refine x_iconst (v := 0) C dX9_read_86 (by decide) ?_
        refine x_lv [0, 1, 2] rfl ?_
        exact tX9_read_b87 N k29 HK29 z1.2 x1 x2 0 B hf
      · rw [if_neg c] at hf
        refine x_iconst (v := 1) C dX9_read_82 (by decide) ?_
        refine x_goto (tgt := 87) C dX9_read_83 (by decide) ?_
        refine x_lv [0, 1, 2] rfl ?_
        exact tX9_read_b87 N k29 HK29 z1.2 x1 x2 1 B hf
def fX9_read_L29 (N : Nat) : Nat → pH → Int32 → Int32 → Int32 → Option (Int32 × pH)
  | 0 => fun _ _ _ _ => none
  | n + 1 => fX9_read_B29 N (fX9_read_L29 N n)
theorem tX9_read_L29 {X : Xt} {v : Int32} {h' : pH} (N : Nat) (B : Bd (lo X) (qo X) cX9_read RX9 4 (some .int) 2 47 (some (.int v)) h' X) : ∀ (n : Nat) (h : pH) (x1 : Int32) (x2 : Int32) (x3 : Int32), fX9_read_L29 N n h x1 x2 x3 = some (v, h') → Wx X 4 29 [(0, rf (qo X) 49), (1, .int x1), (2, .int x2), (3, .int x3)] [] h := by
  intro n
  induction n with
  | zero => intro h x1 x2 x3 hf; exact absurd (show (none : Option (Int32 × pH)) = some (v, h') from hf) (fun z => by cases z)
  | succ n ih => intro h x1 x2 x3 hf; exact tX9_read_B29 N (fX9_read_L29 N n) ih h x1 x2 x3 B hf
def fX9_read (N : Nat) (h : pH) (x1 : Int32) : Option (Int32 × pH) :=
  (fX9_isSheet N h x1).bind fun z1 => (if z1.1 = 0 then (some ((-2), z1.2)) else (if ix x1 4 = true then (if 0 ≤ (z1.2.1 50 x1.toNatClampNeg) then (fX9_read_L29 N N z1.2 x1 0 1) else ((fX9_finds N z1.2 1).bind fun z2 => (some (z2.1, z2.2)))) else none))
set_option maxRecDepth 100000 in
set_option maxHeartbeats 4000000 in
theorem tX9_read {X : Xt} {v : Int32} {h' : pH} (N : Nat) (h : pH) (x1 : Int32) (B : Bd (lo X) (qo X) cX9_read RX9 4 (some .int) 2 47 (some (.int v)) h' X) (hf : fX9_read N h x1 = some (v, h')) : Wx X 4 0 [(0, rf (qo X) 49), (1, .int x1)] [] h := by
  have C := B.1
  unfold fX9_read at hf
  refine x_iload_n (i := 1) 1 C dX9_read_0 rfl rfl ?_
  obtain ⟨z1, e1, hf⟩ := bnd hf
  refine x_callS (As := [.int x1]) (rest := []) C dX9_read_1 kmX9_79 miX9_isSheet (ctX9_isSheet (lo X) (qo X) N h x1 z1.1 z1.2 e1) rfl rfl ⟨Nat.le_trans (by decide) B.2.2.2.1, Nat.le_trans (by decide) B.2.2.2.2.1⟩ (by simp [cat_i, cat_l, rf_cat]) ?_
  refine x_if_ne (tgt := 10) C dX9_read_4 (by decide) (fun c => ?_) (fun c => ?_)
  · rw [if_neg c] at hf
    refine x_aload_n (i := 0) 0 C dX9_read_10 rfl rfl ?_
    refine x_getR (r := 49) (r2 := 50) C dX9_read_11 kfX9_7 rfl rfl (by decide) ?_
    refine x_iload_n (i := 1) 1 C dX9_read_14 rfl rfl ?_
    obtain ⟨g1, hf⟩ := ife hf
    refine x_iald (r := 50) C dX9_read_15 rfl g1 ?_
    refine x_if_ge (tgt := 25) C dX9_read_16 (by decide) (fun c => ?_) (fun c => ?_)
    · rw [if_pos c] at hf
      refine x_iconst (v := 0) C dX9_read_25 (by decide) ?_
      refine x_istore_n (i := 2) (lv' := [(2, .int 0), (0, rf (qo X) 49), (1, .int x1)]) C dX9_read_26 rfl (by decide) rfl ?_
      refine x_iconst (v := 1) C dX9_read_27 (by decide) ?_
      refine x_istore_n (i := 3) (lv' := [(3, .int 1), (2, .int 0), (0, rf (qo X) 49), (1, .int x1)]) C dX9_read_28 rfl (by decide) rfl ?_
      refine x_lv [2, 3, 1, 0] rfl ?_
      exact tX9_read_L29 N  B N z1.2 x1 0 1 hf
    · rw [if_neg c] at hf
      refine x_aload_n (i := 0) 0 C dX9_read_19 rfl rfl ?_
      refine x_iconst (v := 1) C dX9_read_20 (by decide) ?_
      obtain ⟨z2, e2, hf⟩ := bnd hf
      refine x_callV (r := 49) (As := [.int 1]) (rest := []) C dX9_read_21 kmX9_85 miX9_finds (ctX9_finds (lo X) (qo X) N z1.2 1 z2.1 z2.2 e2) rfl rfl ⟨Nat.le_trans (by decide) B.2.2.2.1, Nat.le_trans (by decide) B.2.2.2.2.1⟩ (by simp [cat_i, cat_l, rf_cat]) rfl ?_
      obtain ⟨rfl, rfl⟩ := rtn hf
      exact B.2.2.2.2.2.1 _ _ rfl rfl rfl _ _ dX9_read_24
  · rw [if_pos c] at hf
    refine x_bipush (v := (-2)) C dX9_read_7 (by decide) ?_
    obtain ⟨rfl, rfl⟩ := rtn hf
    exact B.2.2.2.2.2.1 _ _ rfl rfl rfl _ _ dX9_read_9
theorem ctX9_read (l : Launch) (q : Nat → Nat) (N : Nat) (h : pH) (x1 : Int32) (v : Int32) (h' : pH) (hf : fX9_read N h x1 = some (v, h')) : Ctr l q yX9_read cX9_read 4 (some .int) 2 47 [rf q 49, .int x1] h h' (some (.int v)) := by
  refine ct_of (own := RX9) (lv := [(0, rf q 49), (1, .int x1)]) (by decide +kernel) rfl (by simp [lg_sl, rf_cat, cat_i, cat_l]) (by first | rfl | simp [lv_args, rf_cat, cat_i, cat_l]) ?_
  intro X B
  obtain rfl := B.2.1
  obtain rfl := B.2.2.1
  exact tX9_read N h x1 B hf
