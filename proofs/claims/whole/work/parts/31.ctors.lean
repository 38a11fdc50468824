theorem miX0_init : MiI yX0_init cX0_init 1 0 := ⟨lw_in (i := 86) (by decide +kernel) rfl, lw_in (i := 61) (by decide +kernel) rfl, lw_in (i := 85) (by decide +kernel) rfl, ⟨by decide +kernel, by decide +kernel, by decide +kernel⟩, rfl⟩
theorem miX1_init : MiI yX1_init cX1_init 1 0 := ⟨lw_in (i := 129) (by decide +kernel) rfl, lw_in (i := 63) (by decide +kernel) rfl, lw_in (i := 128) (by decide +kernel) rfl, ⟨by decide +kernel, by decide +kernel, by decide +kernel⟩, rfl⟩
theorem miX2_init : MiI yX2_init cX2_init 2 0 := ⟨lw_in (i := 122) (by decide +kernel) rfl, lw_in (i := 62) (by decide +kernel) rfl, lw_in (i := 121) (by decide +kernel) rfl, ⟨by decide +kernel, by decide +kernel, by decide +kernel⟩, rfl⟩
theorem miX3_init : MiI yX3_init cX3_init 1 0 := ⟨lw_in (i := 168) (by decide +kernel) rfl, lw_in (i := 64) (by decide +kernel) rfl, lw_in (i := 167) (by decide +kernel) rfl, ⟨by decide +kernel, by decide +kernel, by decide +kernel⟩, rfl⟩
theorem miX4_init : MiI yX4_init cX4_init 1 0 := ⟨lw_in (i := 182) (by decide +kernel) rfl, lw_in (i := 65) (by decide +kernel) rfl, lw_in (i := 181) (by decide +kernel) rfl, ⟨by decide +kernel, by decide +kernel, by decide +kernel⟩, rfl⟩
theorem miX5_init : MiI yX5_init cX5_init 1 0 := ⟨lw_in (i := 250) (by decide +kernel) rfl, lw_in (i := 69) (by decide +kernel) rfl, lw_in (i := 249) (by decide +kernel) rfl, ⟨by decide +kernel, by decide +kernel, by decide +kernel⟩, rfl⟩
theorem miX6_init : MiI yX6_init cX6_init 1 0 := ⟨lw_in (i := 215) (by decide +kernel) rfl, lw_in (i := 66) (by decide +kernel) rfl, lw_in (i := 214) (by decide +kernel) rfl, ⟨by decide +kernel, by decide +kernel, by decide +kernel⟩, rfl⟩
theorem miX7_init : MiI yX7_init cX7_init 2 1 := ⟨lw_in (i := 233) (by decide +kernel) rfl, lw_in (i := 67) (by decide +kernel) rfl, lw_in (i := 232) (by decide +kernel) rfl, ⟨by decide +kernel, by decide +kernel, by decide +kernel⟩, rfl⟩
theorem miX8_init : MiI yX8_init cX8_init 2 0 := ⟨lw_in (i := 76) (by decide +kernel) rfl, lw_in (i := 60) (by decide +kernel) rfl, lw_in (i := 75) (by decide +kernel) rfl, ⟨by decide +kernel, by decide +kernel, by decide +kernel⟩, rfl⟩
theorem miX9_init : MiI yX9_init cX9_init 2 0 := ⟨lw_in (i := 769) (by decide +kernel) rfl, lw_in (i := 70) (by decide +kernel) rfl, lw_in (i := 768) (by decide +kernel) rfl, ⟨by decide +kernel, by decide +kernel, by decide +kernel⟩, rfl⟩
theorem koX8_3 : Cond.methodLink RX8 3 Lib.objectInit ∈ lw_g := lw_in (i := 77) (by decide +kernel) rfl
theorem kmX8_17 : LkM RX8 17 yX0_init := Or.inr ⟨"MiddlePlank", by decide +kernel⟩
theorem kmX8_24 : LkM RX8 24 yX2_init := Or.inl (lw_in (i := 120) (by decide +kernel) rfl)
theorem kmX8_31 : LkM RX8 31 yX3_init := Or.inr ⟨"MiddlePlank", by decide +kernel⟩
theorem kmX8_51 : LkM RX8 51 yX4_init := Or.inr ⟨"MiddlePlank", by decide +kernel⟩
theorem kmX8_58 : LkM RX8 58 yX6_init := Or.inr ⟨"MiddlePlank", by decide +kernel⟩
theorem kmX8_83 : LkM RX8 83 yX7_init := Or.inl (lw_in (i := 231) (by decide +kernel) rfl)
theorem kmX8_86 : LkM RX8 86 yX5_init := Or.inr ⟨"MiddlePlank", by decide +kernel⟩
theorem koX0_3 : Cond.methodLink RX0 3 Lib.objectInit ∈ lw_g := lw_in (i := 87) (by decide +kernel) rfl
theorem koX1_3 : Cond.methodLink RX1 3 Lib.objectInit ∈ lw_g := lw_in (i := 130) (by decide +kernel) rfl
theorem koX2_3 : Cond.methodLink RX2 3 Lib.objectInit ∈ lw_g := lw_in (i := 123) (by decide +kernel) rfl
theorem kmX2_17 : LkM RX2 17 yX1_init := Or.inr ⟨"MiddlePlank", by decide +kernel⟩
theorem koX3_3 : Cond.methodLink RX3 3 Lib.objectInit ∈ lw_g := lw_in (i := 169) (by decide +kernel) rfl
theorem koX4_3 : Cond.methodLink RX4 3 Lib.objectInit ∈ lw_g := lw_in (i := 183) (by decide +kernel) rfl
theorem koX5_3 : Cond.methodLink RX5 3 Lib.objectInit ∈ lw_g := lw_in (i := 251) (by decide +kernel) rfl
theorem koX6_3 : Cond.methodLink RX6 3 Lib.objectInit ∈ lw_g := lw_in (i := 216) (by decide +kernel) rfl
theorem koX7_3 : Cond.methodLink RX7 3 Lib.objectInit ∈ lw_g := lw_in (i := 234) (by decide +kernel) rfl
theorem kmL_9 : LkM RL 9 yX8_init := Or.inl (lw_in (i := 74) (by decide +kernel) rfl)
theorem kmL_12 : LkM RL 12 yX9_init := Or.inl (lw_in (i := 767) (by decide +kernel) rfl)
theorem koX9_1 : Cond.methodLink RX9 1 Lib.objectInit ∈ lw_g := lw_in (i := 770) (by decide +kernel) rfl
theorem klL_7 : Cond.classLink RL 7 RX8 ∈ lw_g := lw_in (i := 72) (by decide +kernel) rfl
theorem kinX8 : Cond.instantiable RX8 16 ∈ lw_g := lw_in (i := 73) (by decide +kernel) rfl
theorem klX8_9 : Cond.classLink RX8 9 RX7 ∈ lw_g := lw_in (i := 80) (by decide +kernel) rfl
theorem klX8_15 : Cond.classLink RX8 15 RX0 ∈ lw_g := lw_in (i := 82) (by decide +kernel) rfl
theorem kinX0 : Cond.instantiable RX0 7 ∈ lw_g := lw_in (i := 83) (by decide +kernel) rfl
theorem kac_int : Cond.arrayClass .int ∈ lw_g := lw_in (i := 116) (by decide +kernel) rfl
theorem kac_boolean : Cond.arrayClass .boolean ∈ lw_g := lw_in (i := 117) (by decide +kernel) rfl
theorem klX8_22 : Cond.classLink RX8 22 RX2 ∈ lw_g := lw_in (i := 118) (by decide +kernel) rfl
theorem kinX2 : Cond.instantiable RX2 2 ∈ lw_g := lw_in (i := 119) (by decide +kernel) rfl
theorem klX2_9 : Cond.classLink RX2 9 RX1 ∈ lw_g := lw_in (i := 124) (by decide +kernel) rfl
theorem kinX1 : Cond.instantiable RX1 5 ∈ lw_g := lw_in (i := 126) (by decide +kernel) rfl
theorem klX8_29 : Cond.classLink RX8 29 RX3 ∈ lw_g := lw_in (i := 164) (by decide +kernel) rfl
theorem kinX3 : Cond.instantiable RX3 2 ∈ lw_g := lw_in (i := 165) (by decide +kernel) rfl
theorem klX8_49 : Cond.classLink RX8 49 RX4 ∈ lw_g := lw_in (i := 178) (by decide +kernel) rfl
theorem kinX4 : Cond.instantiable RX4 8 ∈ lw_g := lw_in (i := 179) (by decide +kernel) rfl
theorem klX8_56 : Cond.classLink RX8 56 RX6 ∈ lw_g := lw_in (i := 211) (by decide +kernel) rfl
theorem kinX6 : Cond.instantiable RX6 3 ∈ lw_g := lw_in (i := 212) (by decide +kernel) rfl
theorem klX8_70 : Cond.classLink RX8 70 RX5 ∈ lw_g := lw_in (i := 228) (by decide +kernel) rfl
theorem kinX7 : Cond.instantiable RX7 2 ∈ lw_g := lw_in (i := 230) (by decide +kernel) rfl
theorem kac_long : Cond.arrayClass .long ∈ lw_g := lw_in (i := 246) (by decide +kernel) rfl
theorem kinX5 : Cond.instantiable RX5 4 ∈ lw_g := lw_in (i := 247) (by decide +kernel) rfl
theorem klL_10 : Cond.classLink RL 10 RX9 ∈ lw_g := lw_in (i := 765) (by decide +kernel) rfl
theorem kinX9 : Cond.instantiable RX9 31 ∈ lw_g := lw_in (i := 766) (by decide +kernel) rfl
theorem kac_char : Cond.arrayClass .char ∈ lw_g := lw_in (i := 1197) (by decide +kernel) rfl
theorem kni0 : Cond.initialized RX0 ∈ lw_g := lw_in (i := 61) (by decide +kernel) rfl
theorem kni1 : Cond.initialized RX1 ∈ lw_g := lw_in (i := 63) (by decide +kernel) rfl
theorem kni2 : Cond.initialized RX2 ∈ lw_g := lw_in (i := 62) (by decide +kernel) rfl
theorem kni3 : Cond.initialized RX3 ∈ lw_g := lw_in (i := 64) (by decide +kernel) rfl
theorem kni4 : Cond.initialized RX4 ∈ lw_g := lw_in (i := 65) (by decide +kernel) rfl
theorem kni5 : Cond.initialized RX5 ∈ lw_g := lw_in (i := 69) (by decide +kernel) rfl
theorem kni6 : Cond.initialized RX6 ∈ lw_g := lw_in (i := 66) (by decide +kernel) rfl
theorem kni7 : Cond.initialized RX7 ∈ lw_g := lw_in (i := 67) (by decide +kernel) rfl
theorem kni8 : Cond.initialized RX8 ∈ lw_g := lw_in (i := 60) (by decide +kernel) rfl
theorem kni9 : Cond.initialized RX9 ∈ lw_g := lw_in (i := 70) (by decide +kernel) rfl
theorem miMax : MiS Lib.Math.max.name Lib.Math.max.code 2 (some .int) 2 := ⟨lw_in (i := 237) (by decide +kernel) rfl, lw_in (i := 68) (by decide +kernel) rfl, lw_in (i := 236) (by decide +kernel) rfl, ⟨by decide +kernel, by decide +kernel, by decide +kernel⟩⟩
set_option maxRecDepth 100000 in
set_option maxHeartbeats 8000000 in
theorem ciX1_init (l : Launch) (D : va_G) (cA : Nat → ClassId) (h0 : Nat) : Cti l yX1_init cX1_init 1 1 12 0 0 D cA [.ref h0] [(h0, .inr (1, [.int 0, .int 0, .int 0, .int 0, .int 0]))] (fun u => [(h0, .inr (1, [.int 0, .int 0, .int 0, .int 0, .int 0]))]) := by
  refine ci_of (own := RX1) (lv := [(0, .ref h0)]) (by decide +kernel) rfl rfl (by simp [lg_sl, cat_i, Value.category]) rfl ?_
  intro Z B
  obtain rfl := B.2.1
  obtain rfl := B.2.2.1
  obtain rfl := B.2.2.2.1
  have C := B.1
  refine z_aload_n (i := 0) 0 C dX1_init_0 rfl rfl ?_
  refine z_obj C dX1_init_1 koX1_3 ⟨by rw [B.2.2.2.2.2.1]; decide, by rw [B.2.2.2.2.2.1]; simp⟩ ?_
  exact B.2.2.2.2.2.2 _ _ _ _ _ (fun k => [].getD k 0) [0] (by decide) (by decide) (by decide) rfl dX1_init_4
set_option maxRecDepth 100000 in
set_option maxHeartbeats 8000000 in
theorem ciX0_init (l : Launch) (D : va_G) (cA : Nat → ClassId) (h0 : Nat) : Cti l yX0_init cX0_init 1 1 12 4 99 D cA [.ref h0] [(h0, .inr (0, [.int 0, .int 0, .null, .int 0, .null, .null, .null]))] (fun u => [(h0, .inr (0, [.int 5, .int 9, .ref (u 0), .int 0, .ref (u 1), .ref (u 2), .ref (u 3)])), ((u 0), .inl (cA 0, 4, .inl (upd (upd (upd (upd (fun _ => 0) 0 1) 1 2) 2 (-1)) 3 0))), ((u 1), .inl (cA 1, 19, .inl (fun _ => 0))), ((u 2), .inl (cA 0, 38, .inl (fun _ => 0))), ((u 3), .inl (cA 0, 38, .inl (fun _ => 0)))]) := by
  refine ci_of (own := RX0) (lv := [(0, .ref h0)]) (by decide +kernel) rfl rfl (by simp [lg_sl, cat_i, Value.category]) rfl ?_
  intro Z B
  obtain rfl := B.2.1
  obtain rfl := B.2.2.1
  obtain rfl := B.2.2.2.1
  have C := B.1
  refine z_aload_n (i := 0) 0 C dX0_init_0 rfl rfl ?_
  refine z_obj C dX0_init_1 koX0_3 ⟨by rw [B.2.2.2.2.2.1]; decide, by rw [B.2.2.2.2.2.1]; simp⟩ ?_
  refine z_aload_n (i := 0) 0 C dX0_init_4 rfl rfl ?_
  refine z_iconst (v := 5) C dX0_init_5 (by decide) ?_
  refine z_put (j := 0) (p0 := 0) (ws' := [(h0, .inr (0, [.int 5, .int 0, .null, .int 0, .null, .null, .null]))]) C dX0_init_6 kc0 rfl (by decide) (lw_in (i := 88) (by decide +kernel) rfl) rfl rfl rfl (Nat.le_of_ble_eq_true rfl) rfl ?_
  refine z_aload_n (i := 0) 0 C dX0_init_9 rfl rfl ?_
  refine z_bipush (v := 9) C dX0_init_10 (by decide) ?_
  refine z_put (j := 1) (p0 := 0) (ws' := [(h0, .inr (0, [.int 5, .int 9, .null, .int 0, .null, .null, .null]))]) C dX0_init_12 kc0 rfl (by decide) (lw_in (i := 90) (by decide +kernel) rfl) rfl rfl rfl (Nat.le_of_ble_eq_true rfl) rfl ?_
  refine z_aload_n (i := 0) 0 C dX0_init_15 rfl rfl ?_
  refine z_iconst (v := 4) C dX0_init_16 (by decide) ?_
  refine z_newa0 (N := 4) C dX0_init_17 kac_int (by decide) (by decide) (by decide) (by rw [B.2.2.2.2.2.1]; decide) (by rw [B.2.2.2.2.2.1]; decide) (fun a1 => ?_)
  show Wz Z _ _ 1 _ [(0, .ref h0)] [.ref a1, .ref h0] [(h0, .inr (0, [.int 5, .int 9, .null, .int 0, .null, .null, .null])), (a1, .inl (zA Z 0, 4, .inl (fun _ => 0)))]
  refine z_dup C dX0_init_19 ?_
  refine z_iconst (v := 0) C dX0_init_20 (by decide) ?_
  refine z_iconst (v := 1) C dX0_init_21 (by decide) ?_
  refine z_iast (p0 := 1) (ws' := [(h0, .inr (0, [.int 5, .int 9, .null, .int 0, .null, .null, .null])), (a1, .inl (zA Z 0, 4, .inl (upd (fun _ => 0) 0 1)))]) C dX0_init_22 rfl (by decide) rfl ?_
  refine z_dup C dX0_init_23 ?_
  refine z_iconst (v := 1) C dX0_init_24 (by decide) ?_
  refine z_iconst (v := 2) C dX0_init_25 (by decide) ?_
  refine z_iast (p0 := 1) (ws' := [(h0, .inr (0, [.int 5, .int 9, .null, .int 0, .null, .null, .null])), (a1, .inl (zA Z 0, 4, .inl (upd (upd (fun _ => 0) 0 1) 1 2)))]) C dX0_init_26 rfl (by decide) rfl ?_
  refine z_dup C dX0_init_27 ?_
  refine z_iconst (v := 2) C dX0_init_28 (by decide) ?_
  refine z_iconst (v := (-1)) C dX0_init_29 (by decide) ?_
  refine z_iast (p0 := 1) (ws' := [(h0, .inr (0, [.int 5, .int 9, .null, .int 0, .null, .null, .null])), (a1, .inl (zA Z 0, 4, .inl (upd (upd (upd (fun _ => 0) 0 1) 1 2) 2 (-1))))]) C dX0_init_30 rfl (by decide) rfl ?_
  refine z_dup C dX0_init_31 ?_
  refine z_iconst (v := 3) C dX0_init_32 (by decide) ?_
  refine z_iconst (v := 0) C dX0_init_33 (by decide) ?_
  refine z_iast (p0 := 1) (ws' := [(h0, .inr (0, [.int 5, .int 9, .null, .int 0, .null, .null, .null])), (a1, .inl (zA Z 0, 4, .inl (upd (upd (upd (upd (fun _ => 0) 0 1) 1 2) 2 (-1)) 3 0)))]) C dX0_init_34 rfl (by decide) rfl ?_
  refine z_putF (j := 2) (p0 := 0) (ws' := [(h0, .inr (0, [.int 5, .int 9, .ref a1, .int 0, .null, .null, .null])), (a1, .inl (zA Z 0, 4, .inl (upd (upd (upd (upd (fun _ => 0) 0 1) 1 2) 2 (-1)) 3 0)))]) C dX0_init_35 kc0 rfl (by decide) (lw_in (i := 92) (by decide +kernel) rfl) rfl B.2.2.2.2.1 rfl rfl rfl (Nat.le_of_ble_eq_true rfl) rfl ?_
  refine z_aload_n (i := 0) 0 C dX0_init_38 rfl rfl ?_
  refine z_bipush (v := 19) C dX0_init_39 (by decide) ?_
  refine z_newa1 (N := 19) C dX0_init_41 kac_boolean (by decide) (by decide) (by decide) (by rw [B.2.2.2.2.2.1]; decide) (by rw [B.2.2.2.2.2.1]; decide) (fun a2 => ?_)
  show Wz Z _ _ 1 _ [(0, .ref h0)] [.ref a2, .ref h0] [(h0, .inr (0, [.int 5, .int 9, .ref a1, .int 0, .null, .null, .null])), (a1, .inl (zA Z 0, 4, .inl (upd (upd (upd (upd (fun _ => 0) 0 1) 1 2) 2 (-1)) 3 0))), (a2, .inl (zA Z 1, 19, .inl (fun _ => 0)))]
  refine z_putF (j := 4) (p0 := 0) (ws' := [(h0, .inr (0, [.int 5, .int 9, .ref a1, .int 0, .ref a2, .null, .null])), (a1, .inl (zA Z 0, 4, .inl (upd (upd (upd (upd (fun _ => 0) 0 1) 1 2) 2 (-1)) 3 0))), (a2, .inl (zA Z 1, 19, .inl (fun _ => 0)))]) C dX0_init_43 kc0 rfl (by decide) (lw_in (i := 98) (by decide +kernel) rfl) rfl B.2.2.2.2.1 rfl rfl rfl (Nat.le_of_ble_eq_true rfl) rfl ?_
  refine z_aload_n (i := 0) 0 C dX0_init_46 rfl rfl ?_
  refine z_bipush (v := 38) C dX0_init_47 (by decide) ?_
  refine z_newa0 (N := 38) C dX0_init_49 kac_int (by decide) (by decide) (by decide) (by rw [B.2.2.2.2.2.1]; decide) (by rw [B.2.2.2.2.2.1]; decide) (fun a3 => ?_)
  show Wz Z _ _ 1 _ [(0, .ref h0)] [.ref a3, .ref h0] [(h0, .inr (0, [.int 5, .int 9, .ref a1, .int 0, .ref a2, .null, .null])), (a1, .inl (zA Z 0, 4, .inl (upd (upd (upd (upd (fun _ => 0) 0 1) 1 2) 2 (-1)) 3 0))), (a2, .inl (zA Z 1, 19, .inl (fun _ => 0))), (a3, .inl (zA Z 0, 38, .inl (fun _ => 0)))]
  refine z_putF (j := 5) (p0 := 0) (ws' := [(h0, .inr (0, [.int 5, .int 9, .ref a1, .int 0, .ref a2, .ref a3, .null])), (a1, .inl (zA Z 0, 4, .inl (upd (upd (upd (upd (fun _ => 0) 0 1) 1 2) 2 (-1)) 3 0))), (a2, .inl (zA Z 1, 19, .inl (fun _ => 0))), (a3, .inl (zA Z 0, 38, .inl (fun _ => 0)))]) C dX0_init_51 kc0 rfl (by decide) (lw_in (i := 99) (by decide +kernel) rfl) rfl B.2.2.2.2.1 rfl rfl rfl (Nat.le_of_ble_eq_true rfl) rfl ?_
  refine z_aload_n (i := 0) 0 C dX0_init_54 rfl rfl ?_
  refine z_bipush (v := 38) C dX0_init_55 (by decide) ?_
  refine z_newa0 (N := 38) C dX0_init_57 kac_int (by decide) (by decide) (by decide) (by rw [B.2.2.2.2.2.1]; decide) (by rw [B.2.2.2.2.2.1]; decide) (fun a4 => ?_)
  show Wz Z _ _ 1 _ [(0, .ref h0)] [.ref a4, .ref h0] [(h0, .inr (0, [.int 5, .int 9, .ref a1, .int 0, .ref a2, .ref a3, .null])), (a1, .inl (zA Z 0, 4, .inl (upd (upd (upd (upd (fun _ => 0) 0 1) 1 2) 2 (-1)) 3 0))), (a2, .inl (zA Z 1, 19, .inl (fun _ => 0))), (a3, .inl (zA Z 0, 38, .inl (fun _ => 0))), (a4, .inl (zA Z 0, 38, .inl (fun _ => 0)))]
  refine z_putF (j := 6) (p0 := 0) (ws' := [(h0, .inr (0, [.int 5, .int 9, .ref a1, .int 0, .ref a2, .ref a3, .ref a4])), (a1, .inl (zA Z 0, 4, .inl (upd (upd (upd (upd (fun _ => 0) 0 1) 1 2) 2 (-1)) 3 0))), (a2, .inl (zA Z 1, 19, .inl (fun _ => 0))), (a3, .inl (zA Z 0, 38, .inl (fun _ => 0))), (a4, .inl (zA Z 0, 38, .inl (fun _ => 0)))]) C dX0_init_59 kc0 rfl (by decide) (lw_in (i := 100) (by decide +kernel) rfl) rfl B.2.2.2.2.1 rfl rfl rfl (Nat.le_of_ble_eq_true rfl) rfl ?_
  exact B.2.2.2.2.2.2 _ _ _ _ _ (fun k => [a1, a2, a3, a4].getD k 0) [0, 1, 2, 3, 4] (by decide) (by decide) (by decide) rfl dX0_init_62
set_option maxRecDepth 100000 in
set_option maxHeartbeats 8000000 in
theorem ciX2_init (l : Launch) (D : va_G) (cA : Nat → ClassId) (h0 : Nat) : Cti l yX2_init cX2_init 2 2 32 9 48 D cA [.ref h0] [(h0, .inr (2, [.null, .int 0]))] (fun u => [(h0, .inr (2, [.ref (u 0), .int 0])), ((u 0), .inl (cA 5, 8, .inr (.inr (.inr (.inr (va_up (va_up (va_up (va_up (va_up (va_up (va_up (va_up (fun _ => none) 0 (some (u 1))) 1 (some (u 2))) 2 (some (u 3))) 3 (some (u 4))) 4 (some (u 5))) 5 (some (u 6))) 6 (some (u 7))) 7 (some (u 8)))))))), ((u 1), .inr (1, [.int 0, .int 0, .int 0, .int 0, .int 0])), ((u 2), .inr (1, [.int 0, .int 0, .int 0, .int 0, .int 0])), ((u 3), .inr (1, [.int 0, .int 0, .int 0, .int 0, .int 0])), ((u 4), .inr (1, [.int 0, .int 0, .int 0, .int 0, .int 0])), ((u 5), .inr (1, [.int 0, .int 0, .int 0, .int 0, .int 0])), ((u 6), .inr (1, [.int 0, .int 0, .int 0, .int 0, .int 0])), ((u 7), .inr (1, [.int 0, .int 0, .int 0, .int 0, .int 0])), ((u 8), .inr (1, [.int 0, .int 0, .int 0, .int 0, .int 0]))]) := by
  refine ci_of (own := RX2) (lv := [(0, .ref h0)]) (by decide +kernel) rfl rfl (by simp [lg_sl, cat_i, Value.category]) rfl ?_
  intro Z B
  obtain rfl := B.2.1
  obtain rfl := B.2.2.1
  obtain rfl := B.2.2.2.1
  have C := B.1
  refine z_aload_n (i := 0) 0 C dX2_init_0 rfl rfl ?_
  refine z_obj C dX2_init_1 koX2_3 ⟨by rw [B.2.2.2.2.2.1]; decide, by rw [B.2.2.2.2.2.1]; simp⟩ ?_
  refine z_aload_n (i := 0) 0 C dX2_init_4 rfl rfl ?_
  refine z_bipush (v := 8) C dX2_init_5 (by decide) ?_
  refine z_newq5 (N := 8) C dX2_init_7 klX2_9 (by decide) (by decide) (by decide) (by rw [B.2.2.2.2.2.1]; decide) (by rw [B.2.2.2.2.2.1]; decide) (fun a1 => ?_)
  show Wz Z _ _ 2 _ [(0, .ref h0)] [.ref a1, .ref h0] [(h0, .inr (2, [.null, .int 0])), (a1, .inl (zA Z 5, 8, .inr (.inr (.inr (.inr (fun _ => none))))))]
  refine z_putF (j := 0) (p0 := 0) (ws' := [(h0, .inr (2, [.ref a1, .int 0])), (a1, .inl (zA Z 5, 8, .inr (.inr (.inr (.inr (fun _ => none))))))]) C dX2_init_10 kc2 rfl (by decide) (lw_in (i := 155) (by decide +kernel) rfl) rfl B.2.2.2.2.1 rfl rfl rfl (Nat.le_of_ble_eq_true rfl) rfl ?_
  refine z_iconst (v := 0) C dX2_init_13 (by decide) ?_
  refine z_istore_n (i := 1) (lv' := [(1, .int 0), (0, .ref h0)]) C dX2_init_14 rfl (by decide) rfl ?_
  refine z_iload_n (i := 1) 0 C dX2_init_15 rfl rfl ?_
  refine z_bipush (v := 8) C dX2_init_16 (by decide) ?_
  refine z_geF (tgt := 40) C dX2_init_18 (by decide) (by decide) ?_
  refine z_aload_n (i := 0) 1 C dX2_init_21 rfl rfl ?_
  refine z_get (j := 0) (p0 := 0) C dX2_init_22 kc2 rfl (by decide) (lw_in (i := 155) (by decide +kernel) rfl) rfl ?_
  refine z_iload_n (i := 1) 0 C dX2_init_25 rfl rfl ?_
  refine z_new (fs := [.int 0, .int 0, .int 0, .int 0, .int 0]) C dX2_init_26 kc1 klX2_9 kinX1 kni1 (fun j hj => by rcases (show j = 0 ∨ j = 1 ∨ j = 2 ∨ j = 3 ∨ j = 4 by omega) with rfl | rfl | rfl | rfl | rfl <;> rfl) (by rw [B.2.2.2.2.2.1]; decide) (by rw [B.2.2.2.2.2.1]; decide) (fun a2 => ?_)
  show Wz Z _ _ 2 _ [(1, .int 0), (0, .ref h0)] [.ref a2, .int 0, .ref a1] [(h0, .inr (2, [.ref a1, .int 0])), (a1, .inl (zA Z 5, 8, .inr (.inr (.inr (.inr (fun _ => none)))))), (a2, .inr (1, [.int 0, .int 0, .int 0, .int 0, .int 0]))]
  refine z_dup C dX2_init_29 ?_
  refine z_callI (As := []) (rest := [.ref a2, .int 0, .ref a1]) (wr := [(h0, .inr (2, [.ref a1, .int 0])), (a1, .inl (zA Z 5, 8, .inr (.inr (.inr (.inr (fun _ => none))))))]) C dX2_init_30 kmX2_17 miX1_init (ciX1_init (zl Z) (zD Z) (zA Z) a2) rfl rfl ⟨by rw [B.2.2.2.2.2.1]; decide, by rw [B.2.2.2.2.2.1]; decide⟩ (by simp [cat_i, Value.category]) [2] [0, 1] rfl (by decide) rfl (by decide) (by decide) (by rw [B.2.2.2.2.2.1]; decide) (by rw [B.2.2.2.2.2.1]; decide) (fun u1 => ?_)
  show Wz Z _ _ 2 _ [(1, .int 0), (0, .ref h0)] [.ref a2, .int 0, .ref a1] [(h0, .inr (2, [.ref a1, .int 0])), (a1, .inl (zA Z 5, 8, .inr (.inr (.inr (.inr (fun _ => none)))))), (a2, .inr (1, [.int 0, .int 0, .int 0, .int 0, .int 0]))]
  refine z_astq5 (p0 := 1) (pk := 2) (ws' := [(h0, .inr (2, [.ref a1, .int 0])), (a1, .inl (zA Z 5, 8, .inr (.inr (.inr (.inr (va_up (fun _ => none) 0 (some a2))))))), (a2, .inr (1, [.int 0, .int 0, .int 0, .int 0, .int 0]))]) C dX2_init_33 rfl rfl (by decide) rfl ?_
  refine z_iinc (v := 1) (lv' := [(1, .int 1), (0, .ref h0)]) 0 C dX2_init_34 rfl (by decide) (by decide) rfl ?_
  refine z_goto (tgt := 15) C dX2_init_37 (by decide) ?_
  refine z_iload_n (i := 1) 0 C dX2_init_15 rfl rfl ?_
  refine z_bipush (v := 8) C dX2_init_16 (by decide) ?_
  refine z_geF (tgt := 40) C dX2_init_18 (by decide) (by decide) ?_
  refine z_aload_n (i := 0) 1 C dX2_init_21 rfl rfl ?_
  refine z_get (j := 0) (p0 := 0) C dX2_init_22 kc2 rfl (by decide) (lw_in (i := 155) (by decide +kernel) rfl) rfl ?_
  refine z_iload_n (i := 1) 0 C dX2_init_25 rfl rfl ?_
  refine z_new (fs := [.int 0, .int 0, .int 0, .int 0, .int 0]) C dX2_init_26 kc1 klX2_9 kinX1 kni1 (fun j hj => by rcases (show j = 0 ∨ j = 1 ∨ j = 2 ∨ j = 3 ∨ j = 4 by omega) with rfl | rfl | rfl | rfl | rfl <;> rfl) (by rw [B.2.2.2.2.2.1]; decide) (by rw [B.2.2.2.2.2.1]; decide) (fun a3 => ?_)
  show Wz Z _ _ 2 _ [(1, .int 1), (0, .ref h0)] [.ref a3, .int 1, .ref a1] [(h0, .inr (2, [.ref a1, .int 0])), (a1, .inl (zA Z 5, 8, .inr (.inr (.inr (.inr (va_up (fun _ => none) 0 (some a2))))))), (a2, .inr (1, [.int 0, .int 0, .int 0, .int 0, .int 0])), (a3, .inr (1, [.int 0, .int 0, .int 0, .int 0, .int 0]))]
  refine z_dup C dX2_init_29 ?_
  refine z_callI (As := []) (rest := [.ref a3, .int 1, .ref a1]) (wr := [(h0, .inr (2, [.ref a1, .int 0])), (a1, .inl (zA Z 5, 8, .inr (.inr (.inr (.inr (va_up (fun _ => none) 0 (some a2))))))), (a2, .inr (1, [.int 0, .int 0, .int 0, .int 0, .int 0]))]) C dX2_init_30 kmX2_17 miX1_init (ciX1_init (zl Z) (zD Z) (zA Z) a3) rfl rfl ⟨by rw [B.2.2.2.2.2.1]; decide, by rw [B.2.2.2.2.2.1]; decide⟩ (by simp [cat_i, Value.category]) [3] [0, 1, 2] rfl (by decide) rfl (by decide) (by decide) (by rw [B.2.2.2.2.2.1]; decide) (by rw [B.2.2.2.2.2.1]; decide) (fun u2 => ?_)
  show Wz Z _ _ 2 _ [(1, .int 1), (0, .ref h0)] [.ref a3, .int 1, .ref a1] [(h0, .inr (2, [.ref a1, .int 0])), (a1, .inl (zA Z 5, 8, .inr (.inr (.inr (.inr (va_up (fun _ => none) 0 (some a2))))))), (a2, .inr (1, [.int 0, .int 0, .int 0, .int 0, .int 0])), (a3, .inr (1, [.int 0, .int 0, .int 0, .int 0, .int 0]))]
  refine z_astq5 (p0 := 1) (pk := 3) (ws' := [(h0, .inr (2, [.ref a1, .int 0])), (a1, .inl (zA Z 5, 8, .inr (.inr (.inr (.inr (va_up (va_up (fun _ => none) 0 (some a2)) 1 (some a3))))))), (a2, .inr (1, [.int 0, .int 0, .int 0, .int 0, .int 0])), (a3, .inr (1, [.int 0, .int 0, .int 0, .int 0, .int 0]))]) C dX2_init_33 rfl rfl (by decide) rfl ?_
  refine z_iinc (v := 2) (lv' := [(1, .int 2), (0, .ref h0)]) 0 C dX2_init_34 rfl (by decide) (by decide) rfl ?_
  refine z_goto (tgt := 15) C dX2_init_37 (by decide) ?_
  refine z_iload_n (i := 1) 0 C dX2_init_15 rfl rfl ?_
  refine z_bipush (v := 8) C dX2_init_16 (by decide) ?_
  refine z_geF (tgt := 40) C dX2_init_18 (by decide) (by decide) ?_
  refine z_aload_n (i := 0) 1 C dX2_init_21 rfl rfl ?_
  refine z_get (j := 0) (p0 := 0) C dX2_init_22 kc2 rfl (by decide) (lw_in (i := 155) (by decide +kernel) rfl) rfl ?_
  refine z_iload_n (i := 1) 0 C dX2_init_25 rfl rfl ?_
  refine z_new (fs := [.int 0, .int 0, .int 0, .int 0, .int 0]) C dX2_init_26 kc1 klX2_9 kinX1 kni1 (fun j hj => by rcases (show j = 0 ∨ j = 1 ∨ j = 2 ∨ j = 3 ∨ j = 4 by omega) with rfl | rfl | rfl | rfl | rfl <;> rfl) (by rw [B.2.2.2.2.2.1]; decide) (by rw [B.2.2.2.2.2.1]; decide) (fun a4 => ?_)
  show Wz Z _ _ 2 _ [(1, .int 2), (0, .ref h0)] [.ref a4, .int 2, .ref a1] [(h0, .inr (2, [.ref a1, .int 0])), (a1, .inl (zA Z 5, 8, .inr (.inr (.inr (.inr (va_up (va_up (fun _ => none) 0 (some a2)) 1 (some a3))))))), (a2, .inr (1, [.int 0, .int 0, .int 0, .int 0, .int 0])), (a3, .inr (1, [.int 0, .int 0, .int 0, .int 0, .int 0])), (a4, .inr (1, [.int 0, .int 0, .int 0, .int 0, .int 0]))]
  refine z_dup C dX2_init_29 ?_
  refine z_callI (As := []) (rest := [.ref a4, .int 2, .ref a1]) (wr := [(h0, .inr (2, [.ref a1, .int 0])), (a1, .inl (zA Z 5, 8, .inr (.inr (.inr (.inr (va_up (va_up (fun _ => none) 0 (some a2)) 1 (some a3))))))), (a2, .inr (1, [.int 0, .int 0, .int 0, .int 0, .int 0])), (a3, .inr (1, [.int 0, .int 0, .int 0, .int 0, .int 0]))]) C dX2_init_30 kmX2_17 miX1_init (ciX1_init (zl Z) (zD Z) (zA Z) a4) rfl rfl ⟨by rw [B.2.2.2.2.2.1]; decide, by rw [B.2.2.2.2.2.1]; decide⟩ (by simp [cat_i, Value.category]) [4] [0, 1, 2, 3] rfl (by decide) rfl (by decide) (by decide) (by rw [B.2.2.2.2.2.1]; decide) (by rw [B.2.2.2.2.2.1]; decide) (fun u3 => ?_)
  show Wz Z _ _ 2 _ [(1, .int 2), (0, .ref h0)] [.ref a4, .int 2, .ref a1] [(h0, .inr (2, [.ref a1, .int 0])), (a1, .inl (zA Z 5, 8, .inr (.inr (.inr (.inr (va_up (va_up (fun _ => none) 0 (some a2)) 1 (some a3))))))), (a2, .inr (1, [.int 0, .int 0, .int 0, .int 0, .int 0])), (a3, .inr (1, [.int 0, .int 0, .int 0, .int 0, .int 0])), (a4, .inr (1, [.int 0, .int 0, .int 0, .int 0, .int 0]))]
  refine z_astq5 (p0 := 1) (pk := 4) (ws' := [(h0, .inr (2, [.ref a1, .int 0])), (a1, .inl (zA Z 5, 8, .inr (.inr (.inr (.inr (va_up (va_up (va_up (fun _ => none) 0 (some a2)) 1 (some a3)) 2 (some a4))))))), (a2, .inr (1, [.int 0, .int 0, .int 0, .int 0, .int 0])), (a3, .inr (1, [.int 0, .int 0, .int 0, .int 0, .int 0])), (a4, .inr (1, [.int 0, .int 0, .int 0, .int 0, .int 0]))]) C dX2_init_33 rfl rfl (by decide) rfl ?_
  refine z_iinc (v := 3) (lv' := [(1, .int 3), (0, .ref h0)]) 0 C dX2_init_34 rfl (by decide) (by decide) rfl ?_
  refine z_goto (tgt := 15) C dX2_init_37 (by decide) ?_
  refine z_iload_n (i := 1) 0 C dX2_init_15 rfl rfl ?_
  refine z_bipush (v := 8) C dX2_init_16 (by decide) ?_
  refine z_geF (tgt := 40) C dX2_init_18 (by decide) (by decide) ?_
  refine z_aload_n (i := 0) 1 C dX2_init_21 rfl rfl ?_
  refine z_get (j := 0) (p0 := 0) C dX2_init_22 kc2 rfl (by decide) (lw_in (i := 155) (by decide +kernel) rfl) rfl ?_
  refine z_iload_n (i := 1) 0 C dX2_init_25 rfl rfl ?_
  refine z_new (fs := [.int 0, .int 0, .int 0, .int 0, .int 0]) C dX2_init_26 kc1 klX2_9 kinX1 kni1 (fun j hj => by rcases (show j = 0 ∨ j = 1 ∨ j = 2 ∨ j = 3 ∨ j = 4 by omega) with rfl | rfl | rfl | rfl | rfl <;> rfl) (by rw [B.2.2.2.2.2.1]; decide) (by rw [B.2.2.2.2.2.1]; decide) (fun a5 => ?_)
  show Wz Z _ _ 2 _ [(1, .int 3), (0, .ref h0)] [.ref a5, .int 3, .ref a1] [(h0, .inr (2, [.ref a1, .int 0])), (a1, .inl (zA Z 5, 8, .inr (.inr (.inr (.inr (va_up (va_up (va_up (fun _ => none) 0 (some a2)) 1 (some a3)) 2 (some a4))))))), (a2, .inr (1, [.int 0, .int 0, .int 0, .int 0, .int 0])), (a3, .inr (1, [.int 0, .int 0, .int 0, .int 0, .int 0])), (a4, .inr (1, [.int 0, .int 0, .int 0, .int 0, .int 0])), (a5, .inr (1, [.int 0, .int 0, .int 0, .int 0, .int 0]))]
  refine z_dup C dX2_init_29 ?_
  refine z_callI (As := []) (rest := [.ref a5, .int 3, .ref a1]) (wr := [(h0, .inr (2, [.ref a1, .int 0])), (a1, .inl (zA Z 5, 8, .inr (.inr (.inr (.inr (va_up (va_up (va_up (fun _ => none) 0 (some a2)) 1 (some a3)) 2 (some a4))))))), (a2, .inr (1, [.int 0, .int 0, .int 0, .int 0, .int 0])), (a3, .inr (1, [.int 0, .int 0, .int 0, .int 0, .int 0])), (a4, .inr (1, [.int 0, .int 0, .int 0, .int 0, .int 0]))]) C dX2_init_30 kmX2_17 miX1_init (ciX1_init (zl Z) (zD Z) (zA Z) a5) rfl rfl ⟨by rw [B.2.2.2.2.2.1]; decide, by rw [B.2.2.2.2.2.1]; decide⟩ (by simp [cat_i, Value.category]) [5] [0, 1, 2, 3, 4] rfl (by decide) rfl (by decide) (by decide) (by rw [B.2.2.2.2.2.1]; decide) (by rw [B.2.2.2.2.2.1]; decide) (fun u4 => ?_)
  show Wz Z _ _ 2 _ [(1, .int 3), (0, .ref h0)] [.ref a5, .int 3, .ref a1] [(h0, .inr (2, [.ref a1, .int 0])), (a1, .inl (zA Z 5, 8, .inr (.inr (.inr (.inr (va_up (va_up (va_up (fun _ => none) 0 (some a2)) 1 (some a3)) 2 (some a4))))))), (a2, .inr (1, [.int 0, .int 0, .int 0, .int 0, .int 0])), (a3, .inr (1, [.int 0, .int 0, .int 0, .int 0, .int 0])), (a4, .inr (1, [.int 0, .int 0, .int 0, .int 0, .int 0])), (a5, .inr (1, [.int 0, .int 0, .int 0, .int 0, .int 0]))]
  refine z_astq5 (p0 := 1) (pk := 5) (ws' := [(h0, .inr (2, [.ref a1, .int 0])), (a1, .inl (zA Z 5, 8, .inr (.inr (.inr (.inr (va_up (va_up (va_up (va_up (fun _ => none) 0 (some a2)) 1 (some a3)) 2 (some a4)) 3 (some a5))))))), (a2, .inr (1, [.int 0, .int 0, .int 0, .int 0, .int 0])), (a3, .inr (1, [.int 0, .int 0, .int 0, .int 0, .int 0])), (a4, .inr (1, [.int 0, .int 0, .int 0, .int 0, .int 0])), (a5, .inr (1, [.int 0, .int 0, .int 0, .int 0, .int 0]))]) C dX2_init_33 rfl rfl (by decide) rfl ?_
  refine z_iinc (v := 4) (lv' := [(1, .int 4), (0, .ref h0)]) 0 C dX2_init_34 rfl (by decide) (by decide) rfl ?_
  refine z_goto (tgt := 15) C dX2_init_37 (by decide) ?_
  refine z_iload_n (i := 1) 0 C dX2_init_15 rfl rfl ?_
  refine z_bipush (v := 8) C dX2_init_16 (by decide) ?_
  refine z_geF (tgt := 40) C dX2_init_18 (by decide) (by decide) ?_
  refine z_aload_n (i := 0) 1 C dX2_init_21 rfl rfl ?_
  refine z_get (j := 0) (p0 := 0) C dX2_init_22 kc2 rfl (by decide) (lw_in (i := 155) (by decide +kernel) rfl) rfl ?_
  refine z_iload_n (i := 1) 0 C dX2_init_25 rfl rfl ?_
  refine z_new (fs := [.int 0, .int 0, .int 0, .int 0, .int 0]) C dX2_init_26 kc1 klX2_9 kinX1 kni1 (fun j hj => by rcases (show j = 0 ∨ j = 1 ∨ j = 2 ∨ j = 3 ∨ j = 4 by omega) with rfl | rfl | rfl | rfl | rfl <;> rfl) (by rw [B.2.2.2.2.2.1]; decide) (by rw [B.2.2.2.2.2.1]; decide) (fun a6 => ?_)
  show Wz Z _ _ 2 _ [(1, .int 4), (0, .ref h0)] [.ref a6, .int 4, .ref a1] [(h0, .inr (2, [.ref a1, .int 0])), (a1, .inl (zA Z 5, 8, .inr (.inr (.inr (.inr (va_up (va_up (va_up (va_up (fun _ => none) 0 (some a2)) 1 (some a3)) 2 (some a4)) 3 (some a5))))))), (a2, .inr (1, [.int 0, .int 0, .int 0, .int 0, .int 0])), (a3, .inr (1, [.int 0, .int 0, .int 0, .int 0, .int 0])), (a4, .inr (1, [.int 0, .int 0, .int 0, .int 0, .int 0])), (a5, .inr (1, [.int 0, .int 0, .int 0, .int 0, .int 0])), (a6, .inr (1, [.int 0, .int 0, .int 0, .int 0, .int 0]))]
  refine z_dup C dX2_init_29 ?_
  refine z_callI (As := []) (rest := [.ref a6, .int 4, .ref a1]) (wr := [(h0, .inr (2, [.ref a1, .int 0])), (a1, .inl (zA Z 5, 8, .inr (.inr (.inr (.inr (va_up (va_up (va_up (va_up (fun _ => none) 0 (some a2)) 1 (some a3)) 2 (some a4)) 3 (some a5))))))), (a2, .inr (1, [.int 0, .int 0, .int 0, .int 0, .int 0])), (a3, .inr (1, [.int 0, .int 0, .int 0, .int 0, .int 0])), (a4, .inr (1, [.int 0, .int 0, .int 0, .int 0, .int 0])), (a5, .inr (1, [.int 0, .int 0, .int 0, .int 0, .int 0]))]) C dX2_init_30 kmX2_17 miX1_init (ciX1_init (zl Z) (zD Z) (zA Z) a6) rfl rfl ⟨by rw [B.2.2.2.2.2.1]; decide, by rw [B.2.2.2.2.2.1]; decide⟩ (by simp [cat_i, Value.category]) [6] [0, 1, 2, 3, 4, 5] rfl (by decide) rfl (by decide) (by decide) (by rw [B.2.2.2.2.2.1]; decide) (by rw [B.2.2.2.2.2.1]; decide) (fun u5 => ?_)
  show Wz Z _ _ 2 _ [(1, .int 4), (0, .ref h0)] [.ref a6, .int 4, .ref a1] [(h0, .inr (2, [.ref a1, .int 0])), (a1, .inl (zA Z 5, 8, .inr (.inr (.inr (.inr (va_up (va_up (va_up (va_up (fun _ => none) 0 (some a2)) 1 (some a3)) 2 (some a4)) 3 (some a5))))))), (a2, .inr (1, [.int 0, .int 0, .int 0, .int 0, .int 0])), (a3, .inr (1, [.int 0, .int 0, .int 0, .int 0, .int 0])), (a4, .inr (1, [.int 0, .int 0, .int 0, .int 0, .int 0])), (a5, .inr (1, [.int 0, .int 0, .int 0, .int 0, .int 0])), (a6, .inr (1, [.int 0, .int 0, .int 0, .int 0, .int 0]))]
  refine z_astq5 (p0 := 1) (pk := 6) (ws' := [(h0, .inr (2, [.ref a1, .int 0])), (a1, .inl (zA Z 5, 8, .inr (.inr (.inr (.inr (va_up (va_up (va_up (va_up (va_up (fun _ => none) 0 (some a2)) 1 (some a3)) 2 (some a4)) 3 (some a5)) 4 (some a6))))))), (a2, .inr (1, [.int 0, .int 0, .int 0, .int 0, .int 0])), (a3, .inr (1, [.int 0, .int 0, .int 0, .int 0, .int 0])), (a4, .inr (1, [.int 0, .int 0, .int 0, .int 0, .int 0])), (a5, .inr (1, [.int 0, .int 0, .int 0, .int 0, .int 0])), (a6, .inr (1, [.int 0, .int 0, .int 0, .int 0, .int 0]))]) C dX2_init_33 rfl rfl (by decide) rfl ?_
  refine z_iinc (v := 5) (lv' := [(1, .int 5), (0, .ref h0)]) 0 C dX2_init_34 rfl (by decide) (by decide) rfl ?_
  refine z_goto (tgt := 15) C dX2_init_37 (by decide) ?_
  refine z_iload_n (i := 1) 0 C dX2_init_15 rfl rfl ?_
  refine z_bipush (v := 8) C dX2_init_16 (by decide) ?_
  refine z_geF (tgt := 40) C dX2_init_18 (by decide) (by decide) ?_
  refine z_aload_n (i := 0) 1 C dX2_init_21 rfl rfl ?_
  refine z_get (j := 0) (p0 := 0) C dX2_init_22 kc2 rfl (by decide) (lw_in (i := 155) (by decide +kernel) rfl) rfl ?_
  refine z_iload_n (i := 1) 0 C dX2_init_25 rfl rfl ?_
  refine z_new (fs := [.int 0, .int 0, .int 0, .int 0, .int 0]) C dX2_init_26 kc1 klX2_9 kinX1 kni1 (fun j hj => by rcases (show j = 0 ∨ j = 1 ∨ j = 2 ∨ j = 3 ∨ j = 4 by omega) with rfl | rfl | rfl | rfl | rfl <;> rfl) (by rw [B.2.2.2.2.2.1]; decide) (by rw [B.2.2.2.2.2.1]; decide) (fun a7 => ?_)
  show Wz Z _ _ 2 _ [(1, .int 5), (0, .ref h0)] [.ref a7, .int 5, .ref a1] [(h0, .inr (2, [.ref a1, .int 0])), (a1, .inl (zA Z 5, 8, .inr (.inr (.inr (.inr (va_up (va_up (va_up (va_up (va_up (fun _ => none) 0 (some a2)) 1 (some a3)) 2 (some a4)) 3 (some a5)) 4 (some a6))))))), (a2, .inr (1, [.int 0, .int 0, .int 0, .int 0, .int 0])), (a3, .inr (1, [.int 0, .int 0, .int 0, .int 0, .int 0])), (a4, .inr (1, [.int 0, .int 0, .int 0, .int 0, .int 0])), (a5, .inr (1, [.int 0, .int 0, .int 0, .int 0, .int 0])), (a6, .inr (1, [.int 0, .int 0, .int 0, .int 0, .int 0])), (a7, .inr (1, [.int 0, .int 0, .int 0, .int 0, .int 0]))]
  refine z_dup C dX2_init_29 ?_
  refine z_callI (As := []) (rest := [.ref a7, .int 5, .ref a1]) (wr := [(h0, .inr (2, [.ref a1, .int 0])), (a1, .inl (zA Z 5, 8, .inr (.inr (.inr (.inr (va_up (va_up (va_up (va_up (va_up (fun _ => none) 0 (some a2)) 1 (some a3)) 2 (some a4)) 3 (some a5)) 4 (some a6))))))), (a2, .inr (1, [.int 0, .int 0, .int 0, .int 0, .int 0])), (a3, .inr (1, [.int 0, .int 0, .int 0, .int 0, .int 0])), (a4, .inr (1, [.int 0, .int 0, .int 0, .int 0, .int 0])), (a5, .inr (1, [.int 0, .int 0, .int 0, .int 0, .int 0])), (a6, .inr (1, [.int 0, .int 0, .int 0, .int 0, .int 0]))]) C dX2_init_30 kmX2_17 miX1_init (ciX1_init (zl Z) (zD Z) (zA Z) a7) rfl rfl ⟨by rw [B.2.2.2.2.2.1]; decide, by rw [B.2.2.2.2.2.1]; decide⟩ (by simp [cat_i, Value.category]) [7] [0, 1, 2, 3, 4, 5, 6] rfl (by decide) rfl (by decide) (by decide) (by rw [B.2.2.2.2.2.1]; decide) (by rw [B.2.2.2.2.2.1]; decide) (fun u6 => ?_)
  show Wz Z _ _ 2 _ [(1, .int 5), (0, .ref h0)] [.ref a7, .int 5, .ref a1] [(h0, .inr (2, [.ref a1, .int 0])), (a1, .inl (zA Z 5, 8, .inr (.inr (.inr (.inr (va_up (va_up (va_up (va_up (va_up (fun _ => none) 0 (some a2)) 1 (some a3)) 2 (some a4)) 3 (some a5)) 4 (some a6))))))), (a2, .inr (1, [.int 0, .int 0, .int 0, .int 0, .int 0])), (a3, .inr (1, [.int 0, .int 0, .int 0, .int 0, .int 0])), (a4, .inr (1, [.int 0, .int 0, .int 0, .int 0, .int 0])), (a5, .inr (1, [.int 0, .int 0, .int 0, .int 0, .int 0])), (a6, .inr (1, [.int 0, .int 0, .int 0, .int 0, .int 0])), (a7, .inr (1, [.int 0, .int 0, .int 0, .int 0, .int 0]))]
  refine z_astq5 (p0 := 1) (pk := 7) (ws' := [(h0, .inr (2, [.ref a1, .int 0])), (a1, .inl (zA Z 5, 8, .inr (.inr (.inr (.inr (va_up (va_up (va_up (va_up (va_up (va_up (fun _ => none) 0 (some a2)) 1 (some a3)) 2 (some a4)) 3 (some a5)) 4 (some a6)) 5 (some a7))))))), (a2, .inr (1, [.int 0, .int 0, .int 0, .int 0, .int 0])), (a3, .inr (1, [.int 0, .int 0, .int 0, .int 0, .int 0])), (a4, .inr (1, [.int 0, .int 0, .int 0, .int 0, .int 0])), (a5, .inr (1, [.int 0, .int 0, .int 0, .int 0, .int 0])), (a6, .inr (1, [.int 0, .int 0, .int 0, .int 0, .int 0])), (a7, .inr (1, [.int 0, .int 0, .int 0, .int 0, .int 0]))]) C dX2_init_33 rfl rfl (by decide) rfl ?_
  refine z_iinc (v := 6) (lv' := [(1, .int 6), (0, .ref h0)]) 0 C dX2_init_34 rfl (by decide) (by decide) rfl ?_
  refine z_goto (tgt := 15) C dX2_init_37 (by decide) ?_
  refine z_iload_n (i := 1) 0 C dX2_init_15 rfl rfl ?_
  refine z_bipush (v := 8) C dX2_init_16 (by decide) ?_
  refine z_geF (tgt := 40) C dX2_init_18 (by decide) (by decide) ?_
  refine z_aload_n (i := 0) 1 C dX2_init_21 rfl rfl ?_
  refine z_get (j := 0) (p0 := 0) C dX2_init_22 kc2 rfl (by decide) (lw_in (i := 155) (by decide +kernel) rfl) rfl ?_
  refine z_iload_n (i := 1) 0 C dX2_init_25 rfl rfl ?_
  refine z_new (fs := [.int 0, .int 0, .int 0, .int 0, .int 0]) C dX2_init_26 kc1 klX2_9 kinX1 kni1 (fun j hj => by rcases (show j = 0 ∨ j = 1 ∨ j = 2 ∨ j = 3 ∨ j = 4 by omega) with rfl | rfl | rfl | rfl | rfl <;> rfl) (by rw [B.2.2.2.2.2.1]; decide) (by rw [B.2.2.2.2.2.1]; decide) (fun a8 => ?_)
  show Wz Z _ _ 2 _ [(1, .int 6), (0, .ref h0)] [.ref a8, .int 6, .ref a1] [(h0, .inr (2, [.ref a1, .int 0])), (a1, .inl (zA Z 5, 8, .inr (.inr (.inr (.inr (va_up (va_up (va_up (va_up (va_up (va_up (fun _ => none) 0 (some a2)) 1 (some a3)) 2 (some a4)) 3 (some a5)) 4 (some a6)) 5 (some a7))))))), (a2, .inr (1, [.int 0, .int 0, .int 0, .int 0, .int 0])), (a3, .inr (1, [.int 0, .int 0, .int 0, .int 0, .int 0])), (a4, .inr (1, [.int 0, .int 0, .int 0, .int 0, .int 0])), (a5, .inr (1, [.int 0, .int 0, .int 0, .int 0, .int 0])), (a6, .inr (1, [.int 0, .int 0, .int 0, .int 0, .int 0])), (a7, .inr (1, [.int 0, .int 0, .int 0, .int 0, .int 0])), (a8, .inr (1, [.int 0, .int 0, .int 0, .int 0, .int 0]))]
  refine z_dup C dX2_init_29 ?_
  refine z_callI (As := []) (rest := [.ref a8, .int 6, .ref a1]) (wr := [(h0, .inr (2, [.ref a1, .int 0])), (a1, .inl (zA Z 5, 8, .inr (.inr (.inr (.inr (va_up (va_up (va_up (va_up (va_up (va_up (fun _ => none) 0 (some a2)) 1 (some a3)) 2 (some a4)) 3 (some a5)) 4 (some a6)) 5 (some a7))))))), (a2, .inr (1, [.int 0, .int 0, .int 0, .int 0, .int 0])), (a3, .inr (1, [.int 0, .int 0, .int 0, .int 0, .int 0])), (a4, .inr (1, [.int 0, .int 0, .int 0, .int 0, .int 0])), (a5, .inr (1, [.int 0, .int 0, .int 0, .int 0, .int 0])), (a6, .inr (1, [.int 0, .int 0, .int 0, .int 0, .int 0])), (a7, .inr (1, [.int 0, .int 0, .int 0, .int 0, .int 0]))]) C dX2_init_30 kmX2_17 miX1_init (ciX1_init (zl Z) (zD Z) (zA Z) a8) rfl rfl ⟨by rw [B.2.2.2.2.2.1]; decide, by rw [B.2.2.2.2.2.1]; decide⟩ (by simp [cat_i, Value.category]) [8] [0, 1, 2, 3, 4, 5, 6, 7] rfl (by decide) rfl (by decide) (by decide) (by rw [B.2.2.2.2.2.1]; decide) (by rw [B.2.2.2.2.2.1]; decide) (fun u7 => ?_)
  show Wz Z _ _ 2 _ [(1, .int 6), (0, .ref h0)] [.ref a8, .int 6, .ref a1] [(h0, .inr (2, [.ref a1, .int 0])), (a1, .inl (zA Z 5, 8, .inr (.inr (.inr (.inr (va_up (va_up (va_up (va_up (va_up (va_up (fun _ => none) 0 (some a2)) 1 (some a3)) 2 (some a4)) 3 (some a5)) 4 (some a6)) 5 (some a7))))))), (a2, .inr (1, [.int 0, .int 0, .int 0, .int 0, .int 0])), (a3, .inr (1, [.int 0, .int 0, .int 0, .int 0, .int 0])), (a4, .inr (1, [.int 0, .int 0, .int 0, .int 0, .int 0])), (a5, .inr (1, [.int 0, .int 0, .int 0, .int 0, .int 0])), (a6, .inr (1, [.int 0, .int 0, .int 0, .int 0, .int 0])), (a7, .inr (1, [.int 0, .int 0, .int 0, .int 0, .int 0])), (a8, .inr (1, [.int 0, .int 0, .int 0, .int 0, .int 0]))]
  refine z_astq5 (p0 := 1) (pk := 8) (ws' := [(h0, .inr (2, [.ref a1, .int 0])), (a1, .inl (zA Z 5, 8, .inr (.inr (.inr (.inr (va_up (va_up (va_up (va_up (va_up (va_up (va_up (fun _ => none) 0 (some a2)) 1 (some a3)) 2 (some a4)) 3 (some a5)) 4 (some a6)) 5 (some a7)) 6 (some a8))))))), (a2, .inr (1, [.int 0, .int 0, .int 0, .int 0, .int 0])), (a3, .inr (1, [.int 0, .int 0, .int 0, .int 0, .int 0])), (a4, .inr (1, [.int 0, .int 0, .int 0, .int 0, .int 0])), (a5, .inr (1, [.int 0, .int 0, .int 0, .int 0, .int 0])), (a6, .inr (1, [.int 0, .int 0, .int 0, .int 0, .int 0])), (a7, .inr (1, [.int 0, .int 0, .int 0, .int 0, .int 0])), (a8, .inr (1, [.int 0, .int 0, .int 0, .int 0, .int 0]))]) C dX2_init_33 rfl rfl (by decide) rfl ?_
  refine z_iinc (v := 7) (lv' := [(1, .int 7), (0, .ref h0)]) 0 C dX2_init_34 rfl (by decide) (by decide) rfl ?_
  refine z_goto (tgt := 15) C dX2_init_37 (by decide) ?_
  refine z_iload_n (i := 1) 0 C dX2_init_15 rfl rfl ?_
  refine z_bipush (v := 8) C dX2_init_16 (by decide) ?_
  refine z_geF (tgt := 40) C dX2_init_18 (by decide) (by decide) ?_
  refine z_aload_n (i := 0) 1 C dX2_init_21 rfl rfl ?_
  refine z_get (j := 0) (p0 := 0) C dX2_init_22 kc2 rfl (by decide) (lw_in (i := 155) (by decide +kernel) rfl) rfl ?_
  refine z_iload_n (i := 1) 0 C dX2_init_25 rfl rfl ?_
  refine z_new (fs := [.int 0, .int 0, .int 0, .int 0, .int 0]) C dX2_init_26 kc1 klX2_9 kinX1 kni1 (fun j hj => by rcases (show j = 0 ∨ j = 1 ∨ j = 2 ∨ j = 3 ∨ j = 4 by omega) with rfl | rfl | rfl | rfl | rfl <;> rfl) (by rw [B.2.2.2.2.2.1]; decide) (by rw [B.2.2.2.2.2.1]; decide) (fun a9 => ?_)
  show Wz Z _ _ 2 _ [(1, .int 7), (0, .ref h0)] [.ref a9, .int 7, .ref a1] [(h0, .inr (2, [.ref a1, .int 0])), (a1, .inl (zA Z 5, 8, .inr (.inr (.inr (.inr (va_up (va_up (va_up (va_up (va_up (va_up (va_up (fun _ => none) 0 (some a2)) 1 (some a3)) 2 (some a4)) 3 (some a5)) 4 (some a6)) 5 (some a7)) 6 (some a8))))))), (a2, .inr (1, [.int 0, .int 0, .int 0, .int 0, .int 0])), (a3, .inr (1, [.int 0, .int 0, .int 0, .int 0, .int 0])), (a4, .inr (1, [.int 0, .int 0, .int 0, .int 0, .int 0])), (a5, .inr (1, [.int 0, .int 0, .int 0, .int 0, .int 0])), (a6, .inr (1, [.int 0, .int 0, .int 0, .int 0, .int 0])), (a7, .inr (1, [.int 0, .int 0, .int 0, .int 0, .int 0])), (a8, .inr (1, [.int 0, .int 0, .int 0, .int 0, .int 0])), (a9, .inr (1, [.int 0, .int 0, .int 0, .int 0, .int 0]))]
  refine z_dup C dX2_init_29 ?_
  refine z_callI (As := []) (rest := [.ref a9, .int 7, .ref a1]) (wr := [(h0, .inr (2, [.ref a1, .int 0])), (a1, .inl (zA Z 5, 8, .inr (.inr (.inr (.inr (va_up (va_up (va_up (va_up (va_up (va_up (va_up (fun _ => none) 0 (some a2)) 1 (some a3)) 2 (some a4)) 3 (some a5)) 4 (some a6)) 5 (some a7)) 6 (some a8))))))), (a2, .inr (1, [.int 0, .int 0, .int 0, .int 0, .int 0])), (a3, .inr (1, [.int 0, .int 0, .int 0, .int 0, .int 0])), (a4, .inr (1, [.int 0, .int 0, .int 0, .int 0, .int 0])), (a5, .inr (1, [.int 0, .int 0, .int 0, .int 0, .int 0])), (a6, .inr (1, [.int 0, .int 0, .int 0, .int 0, .int 0])), (a7, .inr (1, [.int 0, .int 0, .int 0, .int 0, .int 0])), (a8, .inr (1, [.int 0, .int 0, .int 0, .int 0, .int 0]))]) C dX2_init_30 kmX2_17 miX1_init (ciX1_init (zl Z) (zD Z) (zA Z) a9) rfl rfl ⟨by rw [B.2.2.2.2.2.1]; decide, by rw [B.2.2.2.2.2.1]; decide⟩ (by simp [cat_i, Value.category]) [9] [0, 1, 2, 3, 4, 5, 6, 7, 8] rfl (by decide) rfl (by decide) (by decide) (by rw [B.2.2.2.2.2.1]; decide) (by rw [B.2.2.2.2.2.1]; decide) (fun u8 => ?_)
  show Wz Z _ _ 2 _ [(1, .int 7), (0, .ref h0)] [.ref a9, .int 7, .ref a1] [(h0, .inr (2, [.ref a1, .int 0])), (a1, .inl (zA Z 5, 8, .inr (.inr (.inr (.inr (va_up (va_up (va_up (va_up (va_up (va_up (va_up (fun _ => none) 0 (some a2)) 1 (some a3)) 2 (some a4)) 3 (some a5)) 4 (some a6)) 5 (some a7)) 6 (some a8))))))), (a2, .inr (1, [.int 0, .int 0, .int 0, .int 0, .int 0])), (a3, .inr (1, [.int 0, .int 0, .int 0, .int 0, .int 0])), (a4, .inr (1, [.int 0, .int 0, .int 0, .int 0, .int 0])), (a5, .inr (1, [.int 0, .int 0, .int 0, .int 0, .int 0])), (a6, .inr (1, [.int 0, .int 0, .int 0, .int 0, .int 0])), (a7, .inr (1, [.int 0, .int 0, .int 0, .int 0, .int 0])), (a8, .inr (1, [.int 0, .int 0, .int 0, .int 0, .int 0])), (a9, .inr (1, [.int 0, .int 0, .int 0, .int 0, .int 0]))]
  refine z_astq5 (p0 := 1) (pk := 9) (ws' := [(h0, .inr (2, [.ref a1, .int 0])), (a1, .inl (zA Z 5, 8, .inr (.inr (.inr (.inr (va_up (va_up (va_up (va_up (va_up (va_up (va_up (va_up (fun _ => none) 0 (some a2)) 1 (some a3)) 2 (some a4)) 3 (some a5)) 4 (some a6)) 5 (some a7)) 6 (some a8)) 7 (some a9))))))), (a2, .inr (1, [.int 0, .int 0, .int 0, .int 0, .int 0])), (a3, .inr (1, [.int 0, .int 0, .int 0, .int 0, .int 0])), (a4, .inr (1, [.int 0, .int 0, .int 0, .int 0, .int 0])), (a5, .inr (1, [.int 0, .int 0, .int 0, .int 0, .int 0])), (a6, .inr (1, [.int 0, .int 0, .int 0, .int 0, .int 0])), (a7, .inr (1, [.int 0, .int 0, .int 0, .int 0, .int 0])), (a8, .inr (1, [.int 0, .int 0, .int 0, .int 0, .int 0])), (a9, .inr (1, [.int 0, .int 0, .int 0, .int 0, .int 0]))]) C dX2_init_33 rfl rfl (by decide) rfl ?_
  refine z_iinc (v := 8) (lv' := [(1, .int 8), (0, .ref h0)]) 0 C dX2_init_34 rfl (by decide) (by decide) rfl ?_
  refine z_goto (tgt := 15) C dX2_init_37 (by decide) ?_
  refine z_iload_n (i := 1) 0 C dX2_init_15 rfl rfl ?_
  refine z_bipush (v := 8) C dX2_init_16 (by decide) ?_
  refine z_geT (tgt := 40) C dX2_init_18 (by decide) (by decide) ?_
  exact B.2.2.2.2.2.2 _ _ _ _ _ (fun k => [a1, a2, a3, a4, a5, a6, a7, a8, a9].getD k 0) [0, 1, 2, 3, 4, 5, 6, 7, 8, 9] (by decide) (by decide) (by decide) rfl dX2_init_40
set_option maxRecDepth 100000 in
set_option maxHeartbeats 8000000 in
theorem ciX3_init (l : Launch) (D : va_G) (cA : Nat → ClassId) (h0 : Nat) : Cti l yX3_init cX3_init 1 1 12 1 24 D cA [.ref h0] [(h0, .inr (3, [.null, .int 0]))] (fun u => [(h0, .inr (3, [.ref (u 0), .int 0])), ((u 0), .inl (cA 0, 24, .inl (fun _ => 0)))]) := by
  refine ci_of (own := RX3) (lv := [(0, .ref h0)]) (by decide +kernel) rfl rfl (by simp [lg_sl, cat_i, Value.category]) rfl ?_
  intro Z B
  obtain rfl := B.2.1
  obtain rfl := B.2.2.1
  obtain rfl := B.2.2.2.1
  have C := B.1
  refine z_aload_n (i := 0) 0 C dX3_init_0 rfl rfl ?_
  refine z_obj C dX3_init_1 koX3_3 ⟨by rw [B.2.2.2.2.2.1]; decide, by rw [B.2.2.2.2.2.1]; simp⟩ ?_
  refine z_aload_n (i := 0) 0 C dX3_init_4 rfl rfl ?_
  refine z_bipush (v := 24) C dX3_init_5 (by decide) ?_
  refine z_newa0 (N := 24) C dX3_init_7 kac_int (by decide) (by decide) (by decide) (by rw [B.2.2.2.2.2.1]; decide) (by rw [B.2.2.2.2.2.1]; decide) (fun a1 => ?_)
  show Wz Z _ _ 1 _ [(0, .ref h0)] [.ref a1, .ref h0] [(h0, .inr (3, [.null, .int 0])), (a1, .inl (zA Z 0, 24, .inl (fun _ => 0)))]
  refine z_putF (j := 0) (p0 := 0) (ws' := [(h0, .inr (3, [.ref a1, .int 0])), (a1, .inl (zA Z 0, 24, .inl (fun _ => 0)))]) C dX3_init_9 kc3 rfl (by decide) (lw_in (i := 170) (by decide +kernel) rfl) rfl B.2.2.2.2.1 rfl rfl rfl (Nat.le_of_ble_eq_true rfl) rfl ?_
  exact B.2.2.2.2.2.2 _ _ _ _ _ (fun k => [a1].getD k 0) [0, 1] (by decide) (by decide) (by decide) rfl dX3_init_12
set_option maxRecDepth 100000 in
set_option maxHeartbeats 8000000 in
theorem ciX4_init (l : Launch) (D : va_G) (cA : Nat → ClassId) (h0 : Nat) : Cti l yX4_init cX4_init 1 1 12 4 5176 D cA [.ref h0] [(h0, .inr (4, [.null, .null, .null, .null, .int 0, .int 0, .int 0, .int 0]))] (fun u => [(h0, .inr (4, [.ref (u 0), .ref (u 1), .ref (u 2), .ref (u 3), .int 0, .int 0, .int 0, .int 0])), ((u 0), .inl (cA 0, 4864, .inl (fun _ => 0))), ((u 1), .inl (cA 0, 152, .inl (fun _ => 0))), ((u 2), .inl (cA 0, 152, .inl (fun _ => 0))), ((u 3), .inl (cA 0, 8, .inl (fun _ => 0)))]) := by
  refine ci_of (own := RX4) (lv := [(0, .ref h0)]) (by decide +kernel) rfl rfl (by simp [lg_sl, cat_i, Value.category]) rfl ?_
  intro Z B
  obtain rfl := B.2.1
  obtain rfl := B.2.2.1
  obtain rfl := B.2.2.2.1
  have C := B.1
  refine z_aload_n (i := 0) 0 C dX4_init_0 rfl rfl ?_
  refine z_obj C dX4_init_1 koX4_3 ⟨by rw [B.2.2.2.2.2.1]; decide, by rw [B.2.2.2.2.2.1]; simp⟩ ?_
  refine z_aload_n (i := 0) 0 C dX4_init_4 rfl rfl ?_
  refine z_sipush (v := 4864) C dX4_init_5 (by decide) ?_
  refine z_newa0 (N := 4864) C dX4_init_8 kac_int (by decide) (by decide) (by decide) (by rw [B.2.2.2.2.2.1]; decide) (by rw [B.2.2.2.2.2.1]; decide) (fun a1 => ?_)
  show Wz Z _ _ 1 _ [(0, .ref h0)] [.ref a1, .ref h0] [(h0, .inr (4, [.null, .null, .null, .null, .int 0, .int 0, .int 0, .int 0])), (a1, .inl (zA Z 0, 4864, .inl (fun _ => 0)))]
  refine z_putF (j := 0) (p0 := 0) (ws' := [(h0, .inr (4, [.ref a1, .null, .null, .null, .int 0, .int 0, .int 0, .int 0])), (a1, .inl (zA Z 0, 4864, .inl (fun _ => 0)))]) C dX4_init_10 kc4 rfl (by decide) (lw_in (i := 184) (by decide +kernel) rfl) rfl B.2.2.2.2.1 rfl rfl rfl (Nat.le_of_ble_eq_true rfl) rfl ?_
  refine z_aload_n (i := 0) 0 C dX4_init_13 rfl rfl ?_
  refine z_sipush (v := 152) C dX4_init_14 (by decide) ?_
  refine z_newa0 (N := 152) C dX4_init_17 kac_int (by decide) (by decide) (by decide) (by rw [B.2.2.2.2.2.1]; decide) (by rw [B.2.2.2.2.2.1]; decide) (fun a2 => ?_)
  show Wz Z _ _ 1 _ [(0, .ref h0)] [.ref a2, .ref h0] [(h0, .inr (4, [.ref a1, .null, .null, .null, .int 0, .int 0, .int 0, .int 0])), (a1, .inl (zA Z 0, 4864, .inl (fun _ => 0))), (a2, .inl (zA Z 0, 152, .inl (fun _ => 0)))]
  refine z_putF (j := 1) (p0 := 0) (ws' := [(h0, .inr (4, [.ref a1, .ref a2, .null, .null, .int 0, .int 0, .int 0, .int 0])), (a1, .inl (zA Z 0, 4864, .inl (fun _ => 0))), (a2, .inl (zA Z 0, 152, .inl (fun _ => 0)))]) C dX4_init_19 kc4 rfl (by decide) (lw_in (i := 185) (by decide +kernel) rfl) rfl B.2.2.2.2.1 rfl rfl rfl (Nat.le_of_ble_eq_true rfl) rfl ?_
  refine z_aload_n (i := 0) 0 C dX4_init_22 rfl rfl ?_
  refine z_sipush (v := 152) C dX4_init_23 (by decide) ?_
  refine z_newa0 (N := 152) C dX4_init_26 kac_int (by decide) (by decide) (by decide) (by rw [B.2.2.2.2.2.1]; decide) (by rw [B.2.2.2.2.2.1]; decide) (fun a3 => ?_)
  show Wz Z _ _ 1 _ [(0, .ref h0)] [.ref a3, .ref h0] [(h0, .inr (4, [.ref a1, .ref a2, .null, .null, .int 0, .int 0, .int 0, .int 0])), (a1, .inl (zA Z 0, 4864, .inl (fun _ => 0))), (a2, .inl (zA Z 0, 152, .inl (fun _ => 0))), (a3, .inl (zA Z 0, 152, .inl (fun _ => 0)))]
  refine z_putF (j := 2) (p0 := 0) (ws' := [(h0, .inr (4, [.ref a1, .ref a2, .ref a3, .null, .int 0, .int 0, .int 0, .int 0])), (a1, .inl (zA Z 0, 4864, .inl (fun _ => 0))), (a2, .inl (zA Z 0, 152, .inl (fun _ => 0))), (a3, .inl (zA Z 0, 152, .inl (fun _ => 0)))]) C dX4_init_28 kc4 rfl (by decide) (lw_in (i := 186) (by decide +kernel) rfl) rfl B.2.2.2.2.1 rfl rfl rfl (Nat.le_of_ble_eq_true rfl) rfl ?_
  refine z_aload_n (i := 0) 0 C dX4_init_31 rfl rfl ?_
  refine z_bipush (v := 8) C dX4_init_32 (by decide) ?_
  refine z_newa0 (N := 8) C dX4_init_34 kac_int (by decide) (by decide) (by decide) (by rw [B.2.2.2.2.2.1]; decide) (by rw [B.2.2.2.2.2.1]; decide) (fun a4 => ?_)
  show Wz Z _ _ 1 _ [(0, .ref h0)] [.ref a4, .ref h0] [(h0, .inr (4, [.ref a1, .ref a2, .ref a3, .null, .int 0, .int 0, .int 0, .int 0])), (a1, .inl (zA Z 0, 4864, .inl (fun _ => 0))), (a2, .inl (zA Z 0, 152, .inl (fun _ => 0))), (a3, .inl (zA Z 0, 152, .inl (fun _ => 0))), (a4, .inl (zA Z 0, 8, .inl (fun _ => 0)))]
  refine z_putF (j := 3) (p0 := 0) (ws' := [(h0, .inr (4, [.ref a1, .ref a2, .ref a3, .ref a4, .int 0, .int 0, .int 0, .int 0])), (a1, .inl (zA Z 0, 4864, .inl (fun _ => 0))), (a2, .inl (zA Z 0, 152, .inl (fun _ => 0))), (a3, .inl (zA Z 0, 152, .inl (fun _ => 0))), (a4, .inl (zA Z 0, 8, .inl (fun _ => 0)))]) C dX4_init_36 kc4 rfl (by decide) (lw_in (i := 187) (by decide +kernel) rfl) rfl B.2.2.2.2.1 rfl rfl rfl (Nat.le_of_ble_eq_true rfl) rfl ?_
  exact B.2.2.2.2.2.2 _ _ _ _ _ (fun k => [a1, a2, a3, a4].getD k 0) [0, 1, 2, 3, 4] (by decide) (by decide) (by decide) rfl dX4_init_39
set_option maxRecDepth 100000 in
set_option maxHeartbeats 8000000 in
theorem ciX5_init (l : Launch) (D : va_G) (cA : Nat → ClassId) (h0 : Nat) : Cti l yX5_init cX5_init 1 1 12 1 60 D cA [.ref h0] [(h0, .inr (5, [.null, .int 0, .int 0, .int 0]))] (fun u => [(h0, .inr (5, [.ref (u 0), .int 1, .int 0, .int 0])), ((u 0), .inl (cA 0, 60, .inl (fun _ => 0)))]) := by
  refine ci_of (own := RX5) (lv := [(0, .ref h0)]) (by decide +kernel) rfl rfl (by simp [lg_sl, cat_i, Value.category]) rfl ?_
  intro Z B
  obtain rfl := B.2.1
  obtain rfl := B.2.2.1
  obtain rfl := B.2.2.2.1
  have C := B.1
  refine z_aload_n (i := 0) 0 C dX5_init_0 rfl rfl ?_
  refine z_obj C dX5_init_1 koX5_3 ⟨by rw [B.2.2.2.2.2.1]; decide, by rw [B.2.2.2.2.2.1]; simp⟩ ?_
  refine z_aload_n (i := 0) 0 C dX5_init_4 rfl rfl ?_
  refine z_bipush (v := 60) C dX5_init_5 (by decide) ?_
  refine z_newa0 (N := 60) C dX5_init_7 kac_int (by decide) (by decide) (by decide) (by rw [B.2.2.2.2.2.1]; decide) (by rw [B.2.2.2.2.2.1]; decide) (fun a1 => ?_)
  show Wz Z _ _ 1 _ [(0, .ref h0)] [.ref a1, .ref h0] [(h0, .inr (5, [.null, .int 0, .int 0, .int 0])), (a1, .inl (zA Z 0, 60, .inl (fun _ => 0)))]
  refine z_putF (j := 0) (p0 := 0) (ws' := [(h0, .inr (5, [.ref a1, .int 0, .int 0, .int 0])), (a1, .inl (zA Z 0, 60, .inl (fun _ => 0)))]) C dX5_init_9 kc5 rfl (by decide) (lw_in (i := 252) (by decide +kernel) rfl) rfl B.2.2.2.2.1 rfl rfl rfl (Nat.le_of_ble_eq_true rfl) rfl ?_
  refine z_aload_n (i := 0) 0 C dX5_init_12 rfl rfl ?_
  refine z_iconst (v := 1) C dX5_init_13 (by decide) ?_
  refine z_put (j := 1) (p0 := 0) (ws' := [(h0, .inr (5, [.ref a1, .int 1, .int 0, .int 0])), (a1, .inl (zA Z 0, 60, .inl (fun _ => 0)))]) C dX5_init_14 kc5 rfl (by decide) (lw_in (i := 254) (by decide +kernel) rfl) rfl rfl rfl (Nat.le_of_ble_eq_true rfl) rfl ?_
  exact B.2.2.2.2.2.2 _ _ _ _ _ (fun k => [a1].getD k 0) [0, 1] (by decide) (by decide) (by decide) rfl dX5_init_17
set_option maxRecDepth 100000 in
set_option maxHeartbeats 8000000 in
theorem ciX6_init (l : Launch) (D : va_G) (cA : Nat → ClassId) (h0 : Nat) : Cti l yX6_init cX6_init 1 1 12 2 16 D cA [.ref h0] [(h0, .inr (6, [.null, .null, .int 0]))] (fun u => [(h0, .inr (6, [.ref (u 0), .ref (u 1), .int 0])), ((u 0), .inl (cA 0, 8, .inl (fun _ => 0))), ((u 1), .inl (cA 0, 8, .inl (fun _ => 0)))]) := by
  refine ci_of (own := RX6) (lv := [(0, .ref h0)]) (by decide +kernel) rfl rfl (by simp [lg_sl, cat_i, Value.category]) rfl ?_
  intro Z B
  obtain rfl := B.2.1
  obtain rfl := B.2.2.1
  obtain rfl := B.2.2.2.1
  have C := B.1
  refine z_aload_n (i := 0) 0 C dX6_init_0 rfl rfl ?_
  refine z_obj C dX6_init_1 koX6_3 ⟨by rw [B.2.2.2.2.2.1]; decide, by rw [B.2.2.2.2.2.1]; simp⟩ ?_
  refine z_aload_n (i := 0) 0 C dX6_init_4 rfl rfl ?_
  refine z_bipush (v := 8) C dX6_init_5 (by decide) ?_
  refine z_newa0 (N := 8) C dX6_init_7 kac_int (by decide) (by decide) (by decide) (by rw [B.2.2.2.2.2.1]; decide) (by rw [B.2.2.2.2.2.1]; decide) (fun a1 => ?_)
  show Wz Z _ _ 1 _ [(0, .ref h0)] [.ref a1, .ref h0] [(h0, .inr (6, [.null, .null, .int 0])), (a1, .inl (zA Z 0, 8, .inl (fun _ => 0)))]
  refine z_putF (j := 0) (p0 := 0) (ws' := [(h0, .inr (6, [.ref a1, .null, .int 0])), (a1, .inl (zA Z 0, 8, .inl (fun _ => 0)))]) C dX6_init_9 kc6 rfl (by decide) (lw_in (i := 217) (by decide +kernel) rfl) rfl B.2.2.2.2.1 rfl rfl rfl (Nat.le_of_ble_eq_true rfl) rfl ?_
  refine z_aload_n (i := 0) 0 C dX6_init_12 rfl rfl ?_
  refine z_bipush (v := 8) C dX6_init_13 (by decide) ?_
  refine z_newa0 (N := 8) C dX6_init_15 kac_int (by decide) (by decide) (by decide) (by rw [B.2.2.2.2.2.1]; decide) (by rw [B.2.2.2.2.2.1]; decide) (fun a2 => ?_)
  show Wz Z _ _ 1 _ [(0, .ref h0)] [.ref a2, .ref h0] [(h0, .inr (6, [.ref a1, .null, .int 0])), (a1, .inl (zA Z 0, 8, .inl (fun _ => 0))), (a2, .inl (zA Z 0, 8, .inl (fun _ => 0)))]
  refine z_putF (j := 1) (p0 := 0) (ws' := [(h0, .inr (6, [.ref a1, .ref a2, .int 0])), (a1, .inl (zA Z 0, 8, .inl (fun _ => 0))), (a2, .inl (zA Z 0, 8, .inl (fun _ => 0)))]) C dX6_init_17 kc6 rfl (by decide) (lw_in (i := 218) (by decide +kernel) rfl) rfl B.2.2.2.2.1 rfl rfl rfl (Nat.le_of_ble_eq_true rfl) rfl ?_
  exact B.2.2.2.2.2.2 _ _ _ _ _ (fun k => [a1, a2].getD k 0) [0, 1, 2] (by decide) (by decide) (by decide) rfl dX6_init_20
set_option maxRecDepth 100000 in
set_option maxHeartbeats 8000000 in
theorem ciX7_init_19 (l : Launch) (D : va_G) (cA : Nat → ClassId) (h0 : Nat) : Cti l yX7_init cX7_init 2 1 14 1 19 D cA [.ref h0, .int 19] [(h0, .inr (7, [.null, .int 0]))] (fun u => [(h0, .inr (7, [.ref (u 0), .int 0])), ((u 0), .inl (cA 0, 19, .inl (fun _ => 0)))]) := by
  refine ci_of (own := RX7) (lv := [(0, .ref h0), (1, .int 19)]) (by decide +kernel) rfl rfl (by simp [lg_sl, cat_i, Value.category]) rfl ?_
  intro Z B
  obtain rfl := B.2.1
  obtain rfl := B.2.2.1
  obtain rfl := B.2.2.2.1
  have C := B.1
  refine z_aload_n (i := 0) 0 C dX7_init_0 rfl rfl ?_
  refine z_obj C dX7_init_1 koX7_3 ⟨by rw [B.2.2.2.2.2.1]; decide, by rw [B.2.2.2.2.2.1]; simp⟩ ?_
  refine z_aload_n (i := 0) 0 C dX7_init_4 rfl rfl ?_
  refine z_iload_n (i := 1) 1 C dX7_init_5 rfl rfl ?_
  refine z_iconst (v := 0) C dX7_init_6 (by decide) ?_
  refine z_max C dX7_init_7 miMax (lw_in (i := 235) (by decide +kernel) rfl) ⟨by rw [B.2.2.2.2.2.1]; decide, by rw [B.2.2.2.2.2.1]; simp [cat_i, Value.category]⟩ (by rw [B.2.2.2.2.2.1]; decide) (by rw [B.2.2.2.2.2.1]; decide) (v := 19) (by decide) ?_
  refine z_newa0 (N := 19) C dX7_init_10 kac_int (by decide) (by decide) (by decide) (by rw [B.2.2.2.2.2.1]; decide) (by rw [B.2.2.2.2.2.1]; decide) (fun a1 => ?_)
  show Wz Z _ _ 2 _ [(0, .ref h0), (1, .int 19)] [.ref a1, .ref h0] [(h0, .inr (7, [.null, .int 0])), (a1, .inl (zA Z 0, 19, .inl (fun _ => 0)))]
  refine z_putF (j := 0) (p0 := 0) (ws' := [(h0, .inr (7, [.ref a1, .int 0])), (a1, .inl (zA Z 0, 19, .inl (fun _ => 0)))]) C dX7_init_12 kc7 rfl (by decide) (lw_in (i := 238) (by decide +kernel) rfl) rfl B.2.2.2.2.1 rfl rfl rfl (Nat.le_of_ble_eq_true rfl) rfl ?_
  exact B.2.2.2.2.2.2 _ _ _ _ _ (fun k => [a1].getD k 0) [0, 1] (by decide) (by decide) (by decide) rfl dX7_init_15
set_option maxRecDepth 100000 in
set_option maxHeartbeats 8000000 in
theorem ciX7_init_39 (l : Launch) (D : va_G) (cA : Nat → ClassId) (h0 : Nat) : Cti l yX7_init cX7_init 2 1 14 1 39 D cA [.ref h0, .int 39] [(h0, .inr (7, [.null, .int 0]))] (fun u => [(h0, .inr (7, [.ref (u 0), .int 0])), ((u 0), .inl (cA 0, 39, .inl (fun _ => 0)))]) := by
  refine ci_of (own := RX7) (lv := [(0, .ref h0), (1, .int 39)]) (by decide +kernel) rfl rfl (by simp [lg_sl, cat_i, Value.category]) rfl ?_
  intro Z B
  obtain rfl := B.2.1
  obtain rfl := B.2.2.1
  obtain rfl := B.2.2.2.1
  have C := B.1
  refine z_aload_n (i := 0) 0 C dX7_init_0 rfl rfl ?_
  refine z_obj C dX7_init_1 koX7_3 ⟨by rw [B.2.2.2.2.2.1]; decide, by rw [B.2.2.2.2.2.1]; simp⟩ ?_
  refine z_aload_n (i := 0) 0 C dX7_init_4 rfl rfl ?_
  refine z_iload_n (i := 1) 1 C dX7_init_5 rfl rfl ?_
  refine z_iconst (v := 0) C dX7_init_6 (by decide) ?_
  refine z_max C dX7_init_7 miMax (lw_in (i := 235) (by decide +kernel) rfl) ⟨by rw [B.2.2.2.2.2.1]; decide, by rw [B.2.2.2.2.2.1]; simp [cat_i, Value.category]⟩ (by rw [B.2.2.2.2.2.1]; decide) (by rw [B.2.2.2.2.2.1]; decide) (v := 39) (by decide) ?_
  refine z_newa0 (N := 39) C dX7_init_10 kac_int (by decide) (by decide) (by decide) (by rw [B.2.2.2.2.2.1]; decide) (by rw [B.2.2.2.2.2.1]; decide) (fun a1 => ?_)
  show Wz Z _ _ 2 _ [(0, .ref h0), (1, .int 39)] [.ref a1, .ref h0] [(h0, .inr (7, [.null, .int 0])), (a1, .inl (zA Z 0, 39, .inl (fun _ => 0)))]
  refine z_putF (j := 0) (p0 := 0) (ws' := [(h0, .inr (7, [.ref a1, .int 0])), (a1, .inl (zA Z 0, 39, .inl (fun _ => 0)))]) C dX7_init_12 kc7 rfl (by decide) (lw_in (i := 238) (by decide +kernel) rfl) rfl B.2.2.2.2.1 rfl rfl rfl (Nat.le_of_ble_eq_true rfl) rfl ?_
  exact B.2.2.2.2.2.2 _ _ _ _ _ (fun k => [a1].getD k 0) [0, 1] (by decide) (by decide) (by decide) rfl dX7_init_15
set_option maxRecDepth 100000 in
set_option maxHeartbeats 8000000 in
theorem ciX7_init_24 (l : Launch) (D : va_G) (cA : Nat → ClassId) (h0 : Nat) : Cti l yX7_init cX7_init 2 1 14 1 24 D cA [.ref h0, .int 24] [(h0, .inr (7, [.null, .int 0]))] (fun u => [(h0, .inr (7, [.ref (u 0), .int 0])), ((u 0), .inl (cA 0, 24, .inl (fun _ => 0)))]) := by
  refine ci_of (own := RX7) (lv := [(0, .ref h0), (1, .int 24)]) (by decide +kernel) rfl rfl (by simp [lg_sl, cat_i, Value.category]) rfl ?_
  intro Z B
  obtain rfl := B.2.1
  obtain rfl := B.2.2.1
  obtain rfl := B.2.2.2.1
  have C := B.1
  refine z_aload_n (i := 0) 0 C dX7_init_0 rfl rfl ?_
  refine z_obj C dX7_init_1 koX7_3 ⟨by rw [B.2.2.2.2.2.1]; decide, by rw [B.2.2.2.2.2.1]; simp⟩ ?_
  refine z_aload_n (i := 0) 0 C dX7_init_4 rfl rfl ?_
  refine z_iload_n (i := 1) 1 C dX7_init_5 rfl rfl ?_
  refine z_iconst (v := 0) C dX7_init_6 (by decide) ?_
  refine z_max C dX7_init_7 miMax (lw_in (i := 235) (by decide +kernel) rfl) ⟨by rw [B.2.2.2.2.2.1]; decide, by rw [B.2.2.2.2.2.1]; simp [cat_i, Value.category]⟩ (by rw [B.2.2.2.2.2.1]; decide) (by rw [B.2.2.2.2.2.1]; decide) (v := 24) (by decide) ?_
  refine z_newa0 (N := 24) C dX7_init_10 kac_int (by decide) (by decide) (by decide) (by rw [B.2.2.2.2.2.1]; decide) (by rw [B.2.2.2.2.2.1]; decide) (fun a1 => ?_)
  show Wz Z _ _ 2 _ [(0, .ref h0), (1, .int 24)] [.ref a1, .ref h0] [(h0, .inr (7, [.null, .int 0])), (a1, .inl (zA Z 0, 24, .inl (fun _ => 0)))]
  refine z_putF (j := 0) (p0 := 0) (ws' := [(h0, .inr (7, [.ref a1, .int 0])), (a1, .inl (zA Z 0, 24, .inl (fun _ => 0)))]) C dX7_init_12 kc7 rfl (by decide) (lw_in (i := 238) (by decide +kernel) rfl) rfl B.2.2.2.2.1 rfl rfl rfl (Nat.le_of_ble_eq_true rfl) rfl ?_
  exact B.2.2.2.2.2.2 _ _ _ _ _ (fun k => [a1].getD k 0) [0, 1] (by decide) (by decide) (by decide) rfl dX7_init_15
def h00 : pH := (fun k => match k with
  | 1 => fun j => if j = 15 then 1 else if j = 14 then 1 else 0
  | 9 => fun j => if j = 1 then 9 else if j = 0 then 5 else 0
  | 10 => upd (upd (upd (upd (fun _ => 0) 0 1) 1 2) 2 (-1)) 3 0
  | 41 => fun j => if j = 1 then 1 else 0
  | 42 => fun j => if j = 1 then 1 else 0
  | 43 => fun j => if j = 1 then 1 else 0
  | 44 => fun j => if j = 1 then 1 else 0
  | 50 => upd (upd (upd (upd (fun _ => 0) 0 (-1)) 1 (-1)) 2 (-1)) 3 (-1)
  | 59 => upd (upd (fun _ => 0) 0 5) 1 9
  | 60 => upd (upd (upd (fun _ => 0) 0 1) 1 2) 2 (-1)
  | _ => fun _ => 0, fun _ _ => 0)
def gwp (a b : Nat) (q : Nat → Nat) (cA : Nat → ClassId) (h : pH) : va_W := (List.range (b + 1 - a)).map (fun i => (q (a + i), cel q cA h (a + i)))
def qz (a h0 : Nat) (u : Nat → Nat) : Nat → Nat := fun k => if k = a then h0 else u k
theorem ra_eq {q : Nat → Nat} {els : List Nat} {f : Nat → Option Nat} (h : ∀ j, j < els.length → rfo q (els.getD j 0) = f j) (h2 : ∀ j, els.length ≤ j → f j = none) : (fun j => rfo q (els.getD j 0)) = f := by
  funext j
  rcases Nat.lt_or_ge j els.length with z | z
  · exact h j z
  · rw [h2 j z, List.getD_eq_getElem?_getD, List.getElem?_eq_none z]; rfl
def flz (q : Nat → Nat) (h : pH) (k : Nat) : Nat → List Nat → List Value
  | _, [] => []
  | j, r :: fs => (if r = 0 then Value.int (h.1 k j) else .ref (q r)) :: flz q h k (j + 1) fs
theorem flv_z (q : Nat → Nat) (h : pH) (k : Nat) (fs : List Nat) : flv q h k fs = flz q h k 0 fs := by
  have key : ∀ (fs : List Nat) (n : Nat), fs.mapIdx (fun j r => if r = 0 then Value.int (h.1 k (j + n)) else .ref (q r)) = flz q h k n fs := by
    intro fs
    induction fs with
    | nil => intro n; rfl
    | cons r fs ih =>
      intro n
      rw [List.mapIdx_cons]
      show _ :: _ = _ :: _
      rw [← ih (n + 1), Nat.zero_add]
      have e : (fun (i : Nat) (r : Nat) => if r = 0 then Value.int (h.1 k (i + 1 + n)) else Value.ref (q r)) = (fun (i : Nat) (r : Nat) => if r = 0 then Value.int (h.1 k (i + (n + 1))) else Value.ref (q r)) := by
        funext i r
        rw [show i + 1 + n = i + (n + 1) by omega]
      rw [e]
  exact key fs 0
theorem cel_o {q : Nat → Nat} {cA : Nat → ClassId} {h : pH} {k ci : Nat} {fs : List Nat} (e : shp k = .inl (ci, fs)) : cel q cA h k = .inr (ci, flz q h k 0 fs) := by
  simp only [cel, e, flv_z]
theorem ce1 (q : Nat → Nat) (cA : Nat → ClassId) : cel q cA h00 1 = .inr (8, [.ref (q 2), .ref (q 9), .ref (q 14), .ref (q 24), .ref (q 26), .ref (q 27), .ref (q 28), .ref (q 29), .ref (q 30), .ref (q 35), .ref (q 38), .ref (q 39), .ref (q 40), .int 0, .int 1, .int 1]) := (cel_o (k := 1) (ci := 8) (fs := [2, 9, 14, 24, 26, 27, 28, 29, 30, 35, 38, 39, 40, 0, 0, 0]) rfl).trans rfl
theorem ce2 (q : Nat → Nat) (cA : Nat → ClassId) : cel q cA h00 2 = .inl (cA 4, 3, .inr (.inr (.inr (.inr (va_up (va_up (va_up (fun _ => none) 0 (some (q 3))) 1 (some (q 4))) 2 (some (q 5))))))) := by
  show Sum.inl (cA 4, 3, Sum.inr (Sum.inr (Sum.inr (Sum.inr (fun j => rfo q ([3, 4, 5].getD j 0)))))) = _
  rw [ra_eq (els := [3, 4, 5]) (f := va_up (va_up (va_up (fun _ => none) 0 (some (q 3))) 1 (some (q 4))) 2 (some (q 5))) (fun j hj => by simp only [List.length_cons, List.length_nil] at hj; rcases (show j = 0 ∨ j = 1 ∨ j = 2 by omega) with rfl | rfl | rfl <;> rfl) (fun j hj => by simp only [List.length_cons, List.length_nil] at hj; simp only [va_up]; repeat rw [if_neg (by omega)])]
theorem ce3 (q : Nat → Nat) (cA : Nat → ClassId) : cel q cA h00 3 = .inr (7, [.ref (q 6), .int 0]) := (cel_o (k := 3) (ci := 7) (fs := [6, 0]) rfl).trans rfl
theorem ce4 (q : Nat → Nat) (cA : Nat → ClassId) : cel q cA h00 4 = .inr (7, [.ref (q 7), .int 0]) := (cel_o (k := 4) (ci := 7) (fs := [7, 0]) rfl).trans rfl
theorem ce5 (q : Nat → Nat) (cA : Nat → ClassId) : cel q cA h00 5 = .inr (7, [.ref (q 8), .int 0]) := (cel_o (k := 5) (ci := 7) (fs := [8, 0]) rfl).trans rfl
theorem ce6 (q : Nat → Nat) (cA : Nat → ClassId) : cel q cA h00 6 = .inl (cA 0, 19, .inl (fun _ => 0)) := rfl
theorem ce7 (q : Nat → Nat) (cA : Nat → ClassId) : cel q cA h00 7 = .inl (cA 0, 39, .inl (fun _ => 0)) := rfl
theorem ce8 (q : Nat → Nat) (cA : Nat → ClassId) : cel q cA h00 8 = .inl (cA 0, 24, .inl (fun _ => 0)) := rfl
theorem ce9 (q : Nat → Nat) (cA : Nat → ClassId) : cel q cA h00 9 = .inr (0, [.int 5, .int 9, .ref (q 10), .int 0, .ref (q 11), .ref (q 12), .ref (q 13)]) := (cel_o (k := 9) (ci := 0) (fs := [0, 0, 10, 0, 11, 12, 13]) rfl).trans rfl
theorem ce10 (q : Nat → Nat) (cA : Nat → ClassId) : cel q cA h00 10 = .inl (cA 0, 4, .inl (upd (upd (upd (upd (fun _ => 0) 0 1) 1 2) 2 (-1)) 3 0)) := rfl
theorem ce11 (q : Nat → Nat) (cA : Nat → ClassId) : cel q cA h00 11 = .inl (cA 1, 19, .inl (fun _ => 0)) := rfl
theorem ce12 (q : Nat → Nat) (cA : Nat → ClassId) : cel q cA h00 12 = .inl (cA 0, 38, .inl (fun _ => 0)) := rfl
theorem ce13 (q : Nat → Nat) (cA : Nat → ClassId) : cel q cA h00 13 = .inl (cA 0, 38, .inl (fun _ => 0)) := rfl
theorem ce14 (q : Nat → Nat) (cA : Nat → ClassId) : cel q cA h00 14 = .inr (2, [.ref (q 15), .int 0]) := (cel_o (k := 14) (ci := 2) (fs := [15, 0]) rfl).trans rfl
theorem ce15 (q : Nat → Nat) (cA : Nat → ClassId) : cel q cA h00 15 = .inl (cA 5, 8, .inr (.inr (.inr (.inr (va_up (va_up (va_up (va_up (va_up (va_up (va_up (va_up (fun _ => none) 0 (some (q 16))) 1 (some (q 17))) 2 (some (q 18))) 3 (some (q 19))) 4 (some (q 20))) 5 (some (q 21))) 6 (some (q 22))) 7 (some (q 23))))))) := by
  show Sum.inl (cA 5, 8, Sum.inr (Sum.inr (Sum.inr (Sum.inr (fun j => rfo q ([16, 17, 18, 19, 20, 21, 22, 23].getD j 0)))))) = _
  rw [ra_eq (els := [16, 17, 18, 19, 20, 21, 22, 23]) (f := va_up (va_up (va_up (va_up (va_up (va_up (va_up (va_up (fun _ => none) 0 (some (q 16))) 1 (some (q 17))) 2 (some (q 18))) 3 (some (q 19))) 4 (some (q 20))) 5 (some (q 21))) 6 (some (q 22))) 7 (some (q 23))) (fun j hj => by simp only [List.length_cons, List.length_nil] at hj; rcases (show j = 0 ∨ j = 1 ∨ j = 2 ∨ j = 3 ∨ j = 4 ∨ j = 5 ∨ j = 6 ∨ j = 7 by omega) with rfl | rfl | rfl | rfl | rfl | rfl | rfl | rfl <;> rfl) (fun j hj => by simp only [List.length_cons, List.length_nil] at hj; simp only [va_up]; repeat rw [if_neg (by omega)])]
theorem ce16 (q : Nat → Nat) (cA : Nat → ClassId) : cel q cA h00 16 = .inr (1, [.int 0, .int 0, .int 0, .int 0, .int 0]) := (cel_o (k := 16) (ci := 1) (fs := [0, 0, 0, 0, 0]) rfl).trans rfl
theorem ce17 (q : Nat → Nat) (cA : Nat → ClassId) : cel q cA h00 17 = .inr (1, [.int 0, .int 0, .int 0, .int 0, .int 0]) := (cel_o (k := 17) (ci := 1) (fs := [0, 0, 0, 0, 0]) rfl).trans rfl
theorem ce18 (q : Nat → Nat) (cA : Nat → ClassId) : cel q cA h00 18 = .inr (1, [.int 0, .int 0, .int 0, .int 0, .int 0]) := (cel_o (k := 18) (ci := 1) (fs := [0, 0, 0, 0, 0]) rfl).trans rfl
theorem ce19 (q : Nat → Nat) (cA : Nat → ClassId) : cel q cA h00 19 = .inr (1, [.int 0, .int 0, .int 0, .int 0, .int 0]) := (cel_o (k := 19) (ci := 1) (fs := [0, 0, 0, 0, 0]) rfl).trans rfl
theorem ce20 (q : Nat → Nat) (cA : Nat → ClassId) : cel q cA h00 20 = .inr (1, [.int 0, .int 0, .int 0, .int 0, .int 0]) := (cel_o (k := 20) (ci := 1) (fs := [0, 0, 0, 0, 0]) rfl).trans rfl
theorem ce21 (q : Nat → Nat) (cA : Nat → ClassId) : cel q cA h00 21 = .inr (1, [.int 0, .int 0, .int 0, .int 0, .int 0]) := (cel_o (k := 21) (ci := 1) (fs := [0, 0, 0, 0, 0]) rfl).trans rfl
theorem ce22 (q : Nat → Nat) (cA : Nat → ClassId) : cel q cA h00 22 = .inr (1, [.int 0, .int 0, .int 0, .int 0, .int 0]) := (cel_o (k := 22) (ci := 1) (fs := [0, 0, 0, 0, 0]) rfl).trans rfl
theorem ce23 (q : Nat → Nat) (cA : Nat → ClassId) : cel q cA h00 23 = .inr (1, [.int 0, .int 0, .int 0, .int 0, .int 0]) := (cel_o (k := 23) (ci := 1) (fs := [0, 0, 0, 0, 0]) rfl).trans rfl
theorem ce24 (q : Nat → Nat) (cA : Nat → ClassId) : cel q cA h00 24 = .inr (3, [.ref (q 25), .int 0]) := (cel_o (k := 24) (ci := 3) (fs := [25, 0]) rfl).trans rfl
theorem ce25 (q : Nat → Nat) (cA : Nat → ClassId) : cel q cA h00 25 = .inl (cA 0, 24, .inl (fun _ => 0)) := rfl
theorem ce26 (q : Nat → Nat) (cA : Nat → ClassId) : cel q cA h00 26 = .inl (cA 0, 25, .inl (fun _ => 0)) := rfl
theorem ce27 (q : Nat → Nat) (cA : Nat → ClassId) : cel q cA h00 27 = .inl (cA 0, 25, .inl (fun _ => 0)) := rfl
theorem ce28 (q : Nat → Nat) (cA : Nat → ClassId) : cel q cA h00 28 = .inl (cA 0, 4, .inl (fun _ => 0)) := rfl
theorem ce29 (q : Nat → Nat) (cA : Nat → ClassId) : cel q cA h00 29 = .inl (cA 0, 19, .inl (fun _ => 0)) := rfl
theorem ce30 (q : Nat → Nat) (cA : Nat → ClassId) : cel q cA h00 30 = .inr (4, [.ref (q 31), .ref (q 32), .ref (q 33), .ref (q 34), .int 0, .int 0, .int 0, .int 0]) := (cel_o (k := 30) (ci := 4) (fs := [31, 32, 33, 34, 0, 0, 0, 0]) rfl).trans rfl
theorem ce31 (q : Nat → Nat) (cA : Nat → ClassId) : cel q cA h00 31 = .inl (cA 0, 4864, .inl (fun _ => 0)) := rfl
theorem ce32 (q : Nat → Nat) (cA : Nat → ClassId) : cel q cA h00 32 = .inl (cA 0, 152, .inl (fun _ => 0)) := rfl
theorem ce33 (q : Nat → Nat) (cA : Nat → ClassId) : cel q cA h00 33 = .inl (cA 0, 152, .inl (fun _ => 0)) := rfl
theorem ce34 (q : Nat → Nat) (cA : Nat → ClassId) : cel q cA h00 34 = .inl (cA 0, 8, .inl (fun _ => 0)) := rfl
theorem ce35 (q : Nat → Nat) (cA : Nat → ClassId) : cel q cA h00 35 = .inr (6, [.ref (q 36), .ref (q 37), .int 0]) := (cel_o (k := 35) (ci := 6) (fs := [36, 37, 0]) rfl).trans rfl
theorem ce36 (q : Nat → Nat) (cA : Nat → ClassId) : cel q cA h00 36 = .inl (cA 0, 8, .inl (fun _ => 0)) := rfl
theorem ce37 (q : Nat → Nat) (cA : Nat → ClassId) : cel q cA h00 37 = .inl (cA 0, 8, .inl (fun _ => 0)) := rfl
theorem ce38 (q : Nat → Nat) (cA : Nat → ClassId) : cel q cA h00 38 = .inl (cA 3, 19, .inr (.inl (fun _ => 0))) := rfl
theorem ce39 (q : Nat → Nat) (cA : Nat → ClassId) : cel q cA h00 39 = .inl (cA 3, 19, .inr (.inl (fun _ => 0))) := rfl
theorem ce40 (q : Nat → Nat) (cA : Nat → ClassId) : cel q cA h00 40 = .inl (cA 6, 4, .inr (.inr (.inr (.inr (va_up (va_up (va_up (va_up (fun _ => none) 0 (some (q 41))) 1 (some (q 42))) 2 (some (q 43))) 3 (some (q 44))))))) := by
  show Sum.inl (cA 6, 4, Sum.inr (Sum.inr (Sum.inr (Sum.inr (fun j => rfo q ([41, 42, 43, 44].getD j 0)))))) = _
  rw [ra_eq (els := [41, 42, 43, 44]) (f := va_up (va_up (va_up (va_up (fun _ => none) 0 (some (q 41))) 1 (some (q 42))) 2 (some (q 43))) 3 (some (q 44))) (fun j hj => by simp only [List.length_cons, List.length_nil] at hj; rcases (show j = 0 ∨ j = 1 ∨ j = 2 ∨ j = 3 by omega) with rfl | rfl | rfl | rfl <;> rfl) (fun j hj => by simp only [List.length_cons, List.length_nil] at hj; simp only [va_up]; repeat rw [if_neg (by omega)])]
theorem ce41 (q : Nat → Nat) (cA : Nat → ClassId) : cel q cA h00 41 = .inr (5, [.ref (q 45), .int 1, .int 0, .int 0]) := (cel_o (k := 41) (ci := 5) (fs := [45, 0, 0, 0]) rfl).trans rfl
theorem ce42 (q : Nat → Nat) (cA : Nat → ClassId) : cel q cA h00 42 = .inr (5, [.ref (q 46), .int 1, .int 0, .int 0]) := (cel_o (k := 42) (ci := 5) (fs := [46, 0, 0, 0]) rfl).trans rfl
theorem ce43 (q : Nat → Nat) (cA : Nat → ClassId) : cel q cA h00 43 = .inr (5, [.ref (q 47), .int 1, .int 0, .int 0]) := (cel_o (k := 43) (ci := 5) (fs := [47, 0, 0, 0]) rfl).trans rfl
theorem ce44 (q : Nat → Nat) (cA : Nat → ClassId) : cel q cA h00 44 = .inr (5, [.ref (q 48), .int 1, .int 0, .int 0]) := (cel_o (k := 44) (ci := 5) (fs := [48, 0, 0, 0]) rfl).trans rfl
theorem ce45 (q : Nat → Nat) (cA : Nat → ClassId) : cel q cA h00 45 = .inl (cA 0, 60, .inl (fun _ => 0)) := rfl
theorem ce46 (q : Nat → Nat) (cA : Nat → ClassId) : cel q cA h00 46 = .inl (cA 0, 60, .inl (fun _ => 0)) := rfl
theorem ce47 (q : Nat → Nat) (cA : Nat → ClassId) : cel q cA h00 47 = .inl (cA 0, 60, .inl (fun _ => 0)) := rfl
theorem ce48 (q : Nat → Nat) (cA : Nat → ClassId) : cel q cA h00 48 = .inl (cA 0, 60, .inl (fun _ => 0)) := rfl
theorem ce49 (q : Nat → Nat) (cA : Nat → ClassId) : cel q cA h00 49 = .inr (9, [.ref (q 50), .ref (q 51), .ref (q 52), .ref (q 53), .int 0, .ref (q 54), .ref (q 55), .int 0, .ref (q 56), .int 0, .ref (q 57), .int 0, .ref (q 58), .ref (q 59), .ref (q 60), .ref (q 61), .ref (q 62), .ref (q 63), .ref (q 64), .int 0, .int 0, .int 0, .int 0, .ref (q 65), .ref (q 66), .int 0, .int 0, .int 0, .ref (q 67), .ref (q 68), .int 0]) := (cel_o (k := 49) (ci := 9) (fs := [50, 51, 52, 53, 0, 54, 55, 0, 56, 0, 57, 0, 58, 59, 60, 61, 62, 63, 64, 0, 0, 0, 0, 65, 66, 0, 0, 0, 67, 68, 0]) rfl).trans rfl
theorem ce50 (q : Nat → Nat) (cA : Nat → ClassId) : cel q cA h00 50 = .inl (cA 0, 4, .inl (upd (upd (upd (upd (fun _ => 0) 0 (-1)) 1 (-1)) 2 (-1)) 3 (-1))) := rfl
theorem ce51 (q : Nat → Nat) (cA : Nat → ClassId) : cel q cA h00 51 = .inl (cA 0, 4, .inl (fun _ => 0)) := rfl
theorem ce52 (q : Nat → Nat) (cA : Nat → ClassId) : cel q cA h00 52 = .inl (cA 0, 240, .inl (fun _ => 0)) := rfl
theorem ce53 (q : Nat → Nat) (cA : Nat → ClassId) : cel q cA h00 53 = .inl (cA 0, 60, .inl (fun _ => 0)) := rfl
theorem ce54 (q : Nat → Nat) (cA : Nat → ClassId) : cel q cA h00 54 = .inl (cA 0, 120, .inl (fun _ => 0)) := rfl
theorem ce55 (q : Nat → Nat) (cA : Nat → ClassId) : cel q cA h00 55 = .inl (cA 0, 3, .inl (fun _ => 0)) := rfl
theorem ce56 (q : Nat → Nat) (cA : Nat → ClassId) : cel q cA h00 56 = .inl (cA 0, 19, .inl (fun _ => 0)) := rfl
theorem ce57 (q : Nat → Nat) (cA : Nat → ClassId) : cel q cA h00 57 = .inl (cA 0, 32, .inl (fun _ => 0)) := rfl
theorem ce58 (q : Nat → Nat) (cA : Nat → ClassId) : cel q cA h00 58 = .inl (cA 0, 24, .inl (fun _ => 0)) := rfl
theorem ce59 (q : Nat → Nat) (cA : Nat → ClassId) : cel q cA h00 59 = .inl (cA 0, 2, .inl (upd (upd (fun _ => 0) 0 5) 1 9)) := rfl
theorem ce60 (q : Nat → Nat) (cA : Nat → ClassId) : cel q cA h00 60 = .inl (cA 0, 4, .inl (upd (upd (upd (fun _ => 0) 0 1) 1 2) 2 (-1))) := rfl
theorem ce61 (q : Nat → Nat) (cA : Nat → ClassId) : cel q cA h00 61 = .inl (cA 0, 25, .inl (fun _ => 0)) := rfl
theorem ce62 (q : Nat → Nat) (cA : Nat → ClassId) : cel q cA h00 62 = .inl (cA 0, 24, .inl (fun _ => 0)) := rfl
theorem ce63 (q : Nat → Nat) (cA : Nat → ClassId) : cel q cA h00 63 = .inl (cA 0, 24, .inl (fun _ => 0)) := rfl
theorem ce64 (q : Nat → Nat) (cA : Nat → ClassId) : cel q cA h00 64 = .inl (cA 0, 24, .inl (fun _ => 0)) := rfl
theorem ce65 (q : Nat → Nat) (cA : Nat → ClassId) : cel q cA h00 65 = .inl (cA 0, 8, .inl (fun _ => 0)) := rfl
theorem ce66 (q : Nat → Nat) (cA : Nat → ClassId) : cel q cA h00 66 = .inl (cA 0, 8, .inl (fun _ => 0)) := rfl
theorem ce67 (q : Nat → Nat) (cA : Nat → ClassId) : cel q cA h00 67 = .inl (cA 0, 16, .inl (fun _ => 0)) := rfl
theorem ce68 (q : Nat → Nat) (cA : Nat → ClassId) : cel q cA h00 68 = .inl (cA 0, 475, .inl (fun _ => 0)) := rfl
theorem gwp1 (q : Nat → Nat) (cA : Nat → ClassId) : gwp 1 48 q cA h00 = [(q 1, cel q cA h00 1), (q 2, cel q cA h00 2), (q 3, cel q cA h00 3), (q 4, cel q cA h00 4), (q 5, cel q cA h00 5), (q 6, cel q cA h00 6), (q 7, cel q cA h00 7), (q 8, cel q cA h00 8), (q 9, cel q cA h00 9), (q 10, cel q cA h00 10), (q 11, cel q cA h00 11), (q 12, cel q cA h00 12), (q 13, cel q cA h00 13), (q 14, cel q cA h00 14), (q 15, cel q cA h00 15), (q 16, cel q cA h00 16), (q 17, cel q cA h00 17), (q 18, cel q cA h00 18), (q 19, cel q cA h00 19), (q 20, cel q cA h00 20), (q 21, cel q cA h00 21), (q 22, cel q cA h00 22), (q 23, cel q cA h00 23), (q 24, cel q cA h00 24), (q 25, cel q cA h00 25), (q 26, cel q cA h00 26), (q 27, cel q cA h00 27), (q 28, cel q cA h00 28), (q 29, cel q cA h00 29), (q 30, cel q cA h00 30), (q 31, cel q cA h00 31), (q 32, cel q cA h00 32), (q 33, cel q cA h00 33), (q 34, cel q cA h00 34), (q 35, cel q cA h00 35), (q 36, cel q cA h00 36), (q 37, cel q cA h00 37), (q 38, cel q cA h00 38), (q 39, cel q cA h00 39), (q 40, cel q cA h00 40), (q 41, cel q cA h00 41), (q 42, cel q cA h00 42), (q 43, cel q cA h00 43), (q 44, cel q cA h00 44), (q 45, cel q cA h00 45), (q 46, cel q cA h00 46), (q 47, cel q cA h00 47), (q 48, cel q cA h00 48)] := rfl
theorem gwp49 (q : Nat → Nat) (cA : Nat → ClassId) : gwp 49 68 q cA h00 = [(q 49, cel q cA h00 49), (q 50, cel q cA h00 50), (q 51, cel q cA h00 51), (q 52, cel q cA h00 52), (q 53, cel q cA h00 53), (q 54, cel q cA h00 54), (q 55, cel q cA h00 55), (q 56, cel q cA h00 56), (q 57, cel q cA h00 57), (q 58, cel q cA h00 58), (q 59, cel q cA h00 59), (q 60, cel q cA h00 60), (q 61, cel q cA h00 61), (q 62, cel q cA h00 62), (q 63, cel q cA h00 63), (q 64, cel q cA h00 64), (q 65, cel q cA h00 65), (q 66, cel q cA h00 66), (q 67, cel q cA h00 67), (q 68, cel q cA h00 68)] := rfl
