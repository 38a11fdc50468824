theorem kc0 : KCl 0 RX0 TX0 7 tyX0 := ⟨rfl, fun w hw => List.mem_filter.mpr ⟨(by decide +kernel : ∀ w ∈ u_ws RX0 TX0 7, w ∈ lw_tbl) w hw, (by decide +kernel : ∀ w ∈ u_ws RX0 TX0 7, goodWord w = true) w hw⟩, tyX0_ok, nmX0⟩
theorem kc1 : KCl 1 RX1 TX1 5 tyX1 := ⟨rfl, fun w hw => List.mem_filter.mpr ⟨(by decide +kernel : ∀ w ∈ u_ws RX1 TX1 5, w ∈ lw_tbl) w hw, (by decide +kernel : ∀ w ∈ u_ws RX1 TX1 5, goodWord w = true) w hw⟩, tyX1_ok, nmX1⟩
theorem kc2 : KCl 2 RX2 TX2 2 tyX2 := ⟨rfl, fun w hw => List.mem_filter.mpr ⟨(by decide +kernel : ∀ w ∈ u_ws RX2 TX2 2, w ∈ lw_tbl) w hw, (by decide +kernel : ∀ w ∈ u_ws RX2 TX2 2, goodWord w = true) w hw⟩, tyX2_ok, nmX2⟩
theorem kc3 : KCl 3 RX3 TX3 2 tyX3 := ⟨rfl, fun w hw => List.mem_filter.mpr ⟨(by decide +kernel : ∀ w ∈ u_ws RX3 TX3 2, w ∈ lw_tbl) w hw, (by decide +kernel : ∀ w ∈ u_ws RX3 TX3 2, goodWord w = true) w hw⟩, tyX3_ok, nmX3⟩
theorem kc4 : KCl 4 RX4 TX4 8 tyX4 := ⟨rfl, fun w hw => List.mem_filter.mpr ⟨(by decide +kernel : ∀ w ∈ u_ws RX4 TX4 8, w ∈ lw_tbl) w hw, (by decide +kernel : ∀ w ∈ u_ws RX4 TX4 8, goodWord w = true) w hw⟩, tyX4_ok, nmX4⟩
theorem kc5 : KCl 5 RX5 TX5 4 tyX5 := ⟨rfl, fun w hw => List.mem_filter.mpr ⟨(by decide +kernel : ∀ w ∈ u_ws RX5 TX5 4, w ∈ lw_tbl) w hw, (by decide +kernel : ∀ w ∈ u_ws RX5 TX5 4, goodWord w = true) w hw⟩, tyX5_ok, nmX5⟩
theorem kc6 : KCl 6 RX6 TX6 3 tyX6 := ⟨rfl, fun w hw => List.mem_filter.mpr ⟨(by decide +kernel : ∀ w ∈ u_ws RX6 TX6 3, w ∈ lw_tbl) w hw, (by decide +kernel : ∀ w ∈ u_ws RX6 TX6 3, goodWord w = true) w hw⟩, tyX6_ok, nmX6⟩
theorem kc7 : KCl 7 RX7 TX7 2 tyX7 := ⟨rfl, fun w hw => List.mem_filter.mpr ⟨(by decide +kernel : ∀ w ∈ u_ws RX7 TX7 2, w ∈ lw_tbl) w hw, (by decide +kernel : ∀ w ∈ u_ws RX7 TX7 2, goodWord w = true) w hw⟩, tyX7_ok, nmX7⟩
theorem kc8 : KCl 8 RX8 TX8 16 tyX8 := ⟨rfl, fun w hw => List.mem_filter.mpr ⟨(by decide +kernel : ∀ w ∈ u_ws RX8 TX8 16, w ∈ lw_tbl) w hw, (by decide +kernel : ∀ w ∈ u_ws RX8 TX8 16, goodWord w = true) w hw⟩, tyX8_ok, nmX8⟩
theorem kc9 : KCl 9 RX9 TX9 31 tyX9 := ⟨rfl, fun w hw => List.mem_filter.mpr ⟨(by decide +kernel : ∀ w ∈ u_ws RX9 TX9 31, w ∈ lw_tbl) w hw, (by decide +kernel : ∀ w ∈ u_ws RX9 TX9 31, goodWord w = true) w hw⟩, tyX9_ok, nmX9⟩
theorem kfX8_11 : LkF RX8 11 8 0 (.array (.object "MiddlePlank$Text")) true := ⟨RX8, TX8, 16, tyX8, kc8, by decide, rfl, rfl, Or.inl (lw_in (i := 269) (by decide +kernel) rfl)⟩
theorem kfX8_18 : LkF RX8 18 8 1 (.object "MiddlePlank$Bridge") true := ⟨RX8, TX8, 16, tyX8, kc8, by decide, rfl, rfl, Or.inl (lw_in (i := 270) (by decide +kernel) rfl)⟩
theorem kfX8_25 : LkF RX8 25 8 2 (.object "MiddlePlank$Crossers") true := ⟨RX8, TX8, 16, tyX8, kc8, by decide, rfl, rfl, Or.inl (lw_in (i := 271) (by decide +kernel) rfl)⟩
theorem kfX8_32 : LkF RX8 32 8 3 (.object "MiddlePlank$Crossings") true := ⟨RX8, TX8, 16, tyX8, kc8, by decide, rfl, rfl, Or.inl (lw_in (i := 272) (by decide +kernel) rfl)⟩
theorem kfX8_36 : LkF RX8 36 8 4 (.array .int) true := ⟨RX8, TX8, 16, tyX8, kc8, by decide, rfl, rfl, Or.inl (lw_in (i := 273) (by decide +kernel) rfl)⟩
theorem kfX8_40 : LkF RX8 40 8 5 (.array .int) true := ⟨RX8, TX8, 16, tyX8, kc8, by decide, rfl, rfl, Or.inl (lw_in (i := 274) (by decide +kernel) rfl)⟩
theorem kfX8_43 : LkF RX8 43 8 6 (.array .int) true := ⟨RX8, TX8, 16, tyX8, kc8, by decide, rfl, rfl, Or.inl (lw_in (i := 275) (by decide +kernel) rfl)⟩
theorem kfX8_46 : LkF RX8 46 8 7 (.array .int) true := ⟨RX8, TX8, 16, tyX8, kc8, by decide, rfl, rfl, Or.inl (lw_in (i := 276) (by decide +kernel) rfl)⟩
theorem kfX8_52 : LkF RX8 52 8 8 (.object "MiddlePlank$Plan") true := ⟨RX8, TX8, 16, tyX8, kc8, by decide, rfl, rfl, Or.inl (lw_in (i := 277) (by decide +kernel) rfl)⟩
theorem kfX8_59 : LkF RX8 59 8 9 (.object "MiddlePlank$Sightings") true := ⟨RX8, TX8, 16, tyX8, kc8, by decide, rfl, rfl, Or.inl (lw_in (i := 278) (by decide +kernel) rfl)⟩
theorem kfX8_63 : LkF RX8 63 8 10 (.array .long) true := ⟨RX8, TX8, 16, tyX8, kc8, by decide, rfl, rfl, Or.inl (lw_in (i := 279) (by decide +kernel) rfl)⟩
theorem kfX8_67 : LkF RX8 67 8 11 (.array .long) true := ⟨RX8, TX8, 16, tyX8, kc8, by decide, rfl, rfl, Or.inl (lw_in (i := 280) (by decide +kernel) rfl)⟩
theorem kfX8_72 : LkF RX8 72 8 12 (.array (.object "MiddlePlank$Sheet")) true := ⟨RX8, TX8, 16, tyX8, kc8, by decide, rfl, rfl, Or.inl (lw_in (i := 281) (by decide +kernel) rfl)⟩
theorem kfX8_76 : LkF RX8 76 8 14 .boolean false := ⟨RX8, TX8, 16, tyX8, kc8, by decide, rfl, rfl, Or.inl (lw_in (i := 283) (by decide +kernel) rfl)⟩
theorem kfX8_80 : LkF RX8 80 8 15 .boolean false := ⟨RX8, TX8, 16, tyX8, kc8, by decide, rfl, rfl, Or.inl (lw_in (i := 284) (by decide +kernel) rfl)⟩
theorem kfX8_102 : LkF RX8 102 7 1 .int false := ⟨RX7, TX7, 2, tyX7, kc7, by decide, rfl, rfl, Or.inr ⟨"MiddlePlank", by decide +kernel⟩⟩
theorem kfX8_124 : LkF RX8 124 1 0 .int false := ⟨RX1, TX1, 5, tyX1, kc1, by decide, rfl, rfl, Or.inr ⟨"MiddlePlank", by decide +kernel⟩⟩
theorem kfX8_129 : LkF RX8 129 1 1 .int false := ⟨RX1, TX1, 5, tyX1, kc1, by decide, rfl, rfl, Or.inr ⟨"MiddlePlank", by decide +kernel⟩⟩
theorem kfX8_132 : LkF RX8 132 1 3 .int false := ⟨RX1, TX1, 5, tyX1, kc1, by decide, rfl, rfl, Or.inr ⟨"MiddlePlank", by decide +kernel⟩⟩
theorem kfX8_135 : LkF RX8 135 1 4 .int false := ⟨RX1, TX1, 5, tyX1, kc1, by decide, rfl, rfl, Or.inr ⟨"MiddlePlank", by decide +kernel⟩⟩
theorem kfX8_142 : LkF RX8 142 0 0 .int false := ⟨RX0, TX0, 7, tyX0, kc0, by decide, rfl, rfl, Or.inr ⟨"MiddlePlank", by decide +kernel⟩⟩
theorem kfX8_145 : LkF RX8 145 0 1 .int false := ⟨RX0, TX0, 7, tyX0, kc0, by decide, rfl, rfl, Or.inr ⟨"MiddlePlank", by decide +kernel⟩⟩
theorem kfX8_148 : LkF RX8 148 0 2 (.array .int) true := ⟨RX0, TX0, 7, tyX0, kc0, by decide, rfl, rfl, Or.inr ⟨"MiddlePlank", by decide +kernel⟩⟩
theorem kfX8_154 : LkF RX8 154 3 1 .int false := ⟨RX3, TX3, 2, tyX3, kc3, by decide, rfl, rfl, Or.inr ⟨"MiddlePlank", by decide +kernel⟩⟩
theorem kfX8_176 : LkF RX8 176 0 3 .int false := ⟨RX0, TX0, 7, tyX0, kc0, by decide, rfl, rfl, Or.inr ⟨"MiddlePlank", by decide +kernel⟩⟩
theorem kfX8_182 : LkF RX8 182 4 6 .int false := ⟨RX4, TX4, 8, tyX4, kc4, by decide, rfl, rfl, Or.inr ⟨"MiddlePlank", by decide +kernel⟩⟩
theorem kfX8_185 : LkF RX8 185 4 7 .int false := ⟨RX4, TX4, 8, tyX4, kc4, by decide, rfl, rfl, Or.inr ⟨"MiddlePlank", by decide +kernel⟩⟩
theorem kfX8_193 : LkF RX8 193 2 1 .int false := ⟨RX2, TX2, 2, tyX2, kc2, by decide, rfl, rfl, Or.inr ⟨"MiddlePlank", by decide +kernel⟩⟩
theorem kfX8_207 : LkF RX8 207 6 2 .int false := ⟨RX6, TX6, 3, tyX6, kc6, by decide, rfl, rfl, Or.inr ⟨"MiddlePlank", by decide +kernel⟩⟩
theorem kfX8_212 : LkF RX8 212 5 1 .boolean false := ⟨RX5, TX5, 4, tyX5, kc5, by decide, rfl, rfl, Or.inr ⟨"MiddlePlank", by decide +kernel⟩⟩
theorem kfX8_218 : LkF RX8 218 5 3 .int false := ⟨RX5, TX5, 4, tyX5, kc5, by decide, rfl, rfl, Or.inr ⟨"MiddlePlank", by decide +kernel⟩⟩
theorem kfX8_252 : LkF RX8 252 5 2 .int false := ⟨RX5, TX5, 4, tyX5, kc5, by decide, rfl, rfl, Or.inr ⟨"MiddlePlank", by decide +kernel⟩⟩
theorem kfX8_258 : LkF RX8 258 5 0 (.array .int) true := ⟨RX5, TX5, 4, tyX5, kc5, by decide, rfl, rfl, Or.inr ⟨"MiddlePlank", by decide +kernel⟩⟩
theorem kfX8_266 : LkF RX8 266 8 13 .int false := ⟨RX8, TX8, 16, tyX8, kc8, by decide, rfl, rfl, Or.inl (lw_in (i := 282) (by decide +kernel) rfl)⟩
theorem kgX8_340 : LkG RX8 340 0 := Or.inl (lw_in (i := 360) (by decide +kernel) rfl)
theorem kgX8_344 : LkG RX8 344 6 := Or.inl (lw_in (i := 362) (by decide +kernel) rfl)
theorem kgX8_347 : LkG RX8 347 1 := Or.inl (lw_in (i := 364) (by decide +kernel) rfl)
theorem kgX8_350 : LkG RX8 350 2 := Or.inl (lw_in (i := 366) (by decide +kernel) rfl)
theorem kgX8_353 : LkG RX8 353 3 := Or.inl (lw_in (i := 368) (by decide +kernel) rfl)
theorem kgX8_356 : LkG RX8 356 4 := Or.inl (lw_in (i := 370) (by decide +kernel) rfl)
theorem kgX8_359 : LkG RX8 359 5 := Or.inl (lw_in (i := 372) (by decide +kernel) rfl)
theorem kfX0_9 : LkF RX0 9 0 0 .int false := ⟨RX0, TX0, 7, tyX0, kc0, by decide, rfl, rfl, Or.inl (lw_in (i := 88) (by decide +kernel) rfl)⟩
theorem kfX0_15 : LkF RX0 15 0 1 .int false := ⟨RX0, TX0, 7, tyX0, kc0, by decide, rfl, rfl, Or.inl (lw_in (i := 90) (by decide +kernel) rfl)⟩
theorem kfX0_18 : LkF RX0 18 0 2 (.array .int) true := ⟨RX0, TX0, 7, tyX0, kc0, by decide, rfl, rfl, Or.inl (lw_in (i := 92) (by decide +kernel) rfl)⟩
theorem kfX0_22 : LkF RX0 22 0 4 (.array .boolean) true := ⟨RX0, TX0, 7, tyX0, kc0, by decide, rfl, rfl, Or.inl (lw_in (i := 98) (by decide +kernel) rfl)⟩
theorem kfX0_26 : LkF RX0 26 0 5 (.array .int) true := ⟨RX0, TX0, 7, tyX0, kc0, by decide, rfl, rfl, Or.inl (lw_in (i := 99) (by decide +kernel) rfl)⟩
theorem kfX0_29 : LkF RX0 29 0 6 (.array .int) true := ⟨RX0, TX0, 7, tyX0, kc0, by decide, rfl, rfl, Or.inl (lw_in (i := 100) (by decide +kernel) rfl)⟩
theorem kfX0_38 : LkF RX0 38 0 3 .int false := ⟨RX0, TX0, 7, tyX0, kc0, by decide, rfl, rfl, Or.inl (lw_in (i := 96) (by decide +kernel) rfl)⟩
theorem kfX0_65 : LkF RX0 65 1 2 .int false := ⟨RX1, TX1, 5, tyX1, kc1, by decide, rfl, rfl, Or.inr ⟨"MiddlePlank", by decide +kernel⟩⟩
theorem kfX0_70 : LkF RX0 70 1 4 .int false := ⟨RX1, TX1, 5, tyX1, kc1, by decide, rfl, rfl, Or.inr ⟨"MiddlePlank", by decide +kernel⟩⟩
theorem kfX0_77 : LkF RX0 77 1 0 .int false := ⟨RX1, TX1, 5, tyX1, kc1, by decide, rfl, rfl, Or.inr ⟨"MiddlePlank", by decide +kernel⟩⟩
theorem kfX0_84 : LkF RX0 84 1 3 .int false := ⟨RX1, TX1, 5, tyX1, kc1, by decide, rfl, rfl, Or.inr ⟨"MiddlePlank", by decide +kernel⟩⟩
theorem kgX1_15 : LkG RX1 15 1 := Or.inr ⟨"MiddlePlank", by decide +kernel⟩
theorem kfX1_23 : LkF RX1 23 1 0 .int false := ⟨RX1, TX1, 5, tyX1, kc1, by decide, rfl, rfl, Or.inl (lw_in (i := 131) (by decide +kernel) rfl)⟩
theorem kgX1_29 : LkG RX1 29 2 := Or.inr ⟨"MiddlePlank", by decide +kernel⟩
theorem kfX1_32 : LkF RX1 32 1 1 .int false := ⟨RX1, TX1, 5, tyX1, kc1, by decide, rfl, rfl, Or.inl (lw_in (i := 134) (by decide +kernel) rfl)⟩
theorem kfX1_35 : LkF RX1 35 1 2 .int false := ⟨RX1, TX1, 5, tyX1, kc1, by decide, rfl, rfl, Or.inl (lw_in (i := 136) (by decide +kernel) rfl)⟩
theorem kgX1_38 : LkG RX1 38 3 := Or.inr ⟨"MiddlePlank", by decide +kernel⟩
theorem kfX1_41 : LkF RX1 41 1 3 .int false := ⟨RX1, TX1, 5, tyX1, kc1, by decide, rfl, rfl, Or.inl (lw_in (i := 138) (by decide +kernel) rfl)⟩
theorem kgX1_44 : LkG RX1 44 4 := Or.inr ⟨"MiddlePlank", by decide +kernel⟩
theorem kfX1_47 : LkF RX1 47 1 4 .int false := ⟨RX1, TX1, 5, tyX1, kc1, by decide, rfl, rfl, Or.inl (lw_in (i := 141) (by decide +kernel) rfl)⟩
theorem kfX2_11 : LkF RX2 11 2 0 (.array (.object "MiddlePlank$Crosser")) true := ⟨RX2, TX2, 2, tyX2, kc2, by decide, rfl, rfl, Or.inl (lw_in (i := 155) (by decide +kernel) rfl)⟩
theorem kfX2_24 : LkF RX2 24 2 1 .int false := ⟨RX2, TX2, 2, tyX2, kc2, by decide, rfl, rfl, Or.inl (lw_in (i := 156) (by decide +kernel) rfl)⟩
theorem kfX3_9 : LkF RX3 9 3 0 (.array .int) true := ⟨RX3, TX3, 2, tyX3, kc3, by decide, rfl, rfl, Or.inl (lw_in (i := 170) (by decide +kernel) rfl)⟩
theorem kfX3_21 : LkF RX3 21 3 1 .int false := ⟨RX3, TX3, 2, tyX3, kc3, by decide, rfl, rfl, Or.inl (lw_in (i := 171) (by decide +kernel) rfl)⟩
theorem kgX3_31 : LkG RX3 31 6 := Or.inr ⟨"MiddlePlank", by decide +kernel⟩
theorem kfX4_9 : LkF RX4 9 4 0 (.array .int) true := ⟨RX4, TX4, 8, tyX4, kc4, by decide, rfl, rfl, Or.inl (lw_in (i := 184) (by decide +kernel) rfl)⟩
theorem kfX4_15 : LkF RX4 15 4 1 (.array .int) true := ⟨RX4, TX4, 8, tyX4, kc4, by decide, rfl, rfl, Or.inl (lw_in (i := 185) (by decide +kernel) rfl)⟩
theorem kfX4_18 : LkF RX4 18 4 2 (.array .int) true := ⟨RX4, TX4, 8, tyX4, kc4, by decide, rfl, rfl, Or.inl (lw_in (i := 186) (by decide +kernel) rfl)⟩
theorem kfX4_21 : LkF RX4 21 4 3 (.array .int) true := ⟨RX4, TX4, 8, tyX4, kc4, by decide, rfl, rfl, Or.inl (lw_in (i := 187) (by decide +kernel) rfl)⟩
theorem kfX4_24 : LkF RX4 24 0 3 .int false := ⟨RX0, TX0, 7, tyX0, kc0, by decide, rfl, rfl, Or.inr ⟨"MiddlePlank", by decide +kernel⟩⟩
theorem kfX4_36 : LkF RX4 36 4 4 .int false := ⟨RX4, TX4, 8, tyX4, kc4, by decide, rfl, rfl, Or.inl (lw_in (i := 188) (by decide +kernel) rfl)⟩
theorem kfX4_39 : LkF RX4 39 2 1 .int false := ⟨RX2, TX2, 2, tyX2, kc2, by decide, rfl, rfl, Or.inr ⟨"MiddlePlank", by decide +kernel⟩⟩
theorem kfX4_44 : LkF RX4 44 4 5 .int false := ⟨RX4, TX4, 8, tyX4, kc4, by decide, rfl, rfl, Or.inl (lw_in (i := 189) (by decide +kernel) rfl)⟩
theorem kfX4_75 : LkF RX4 75 0 2 (.array .int) true := ⟨RX0, TX0, 7, tyX0, kc0, by decide, rfl, rfl, Or.inr ⟨"MiddlePlank", by decide +kernel⟩⟩
theorem kfX4_89 : LkF RX4 89 4 6 .int false := ⟨RX4, TX4, 8, tyX4, kc4, by decide, rfl, rfl, Or.inl (lw_in (i := 190) (by decide +kernel) rfl)⟩
theorem kfX4_92 : LkF RX4 92 4 7 .int false := ⟨RX4, TX4, 8, tyX4, kc4, by decide, rfl, rfl, Or.inl (lw_in (i := 192) (by decide +kernel) rfl)⟩
theorem kfX5_9 : LkF RX5 9 5 0 (.array .int) true := ⟨RX5, TX5, 4, tyX5, kc5, by decide, rfl, rfl, Or.inl (lw_in (i := 252) (by decide +kernel) rfl)⟩
theorem kfX5_15 : LkF RX5 15 5 1 .boolean false := ⟨RX5, TX5, 4, tyX5, kc5, by decide, rfl, rfl, Or.inl (lw_in (i := 254) (by decide +kernel) rfl)⟩
theorem kfX5_19 : LkF RX5 19 5 2 .int false := ⟨RX5, TX5, 4, tyX5, kc5, by decide, rfl, rfl, Or.inl (lw_in (i := 256) (by decide +kernel) rfl)⟩
theorem kfX5_29 : LkF RX5 29 5 3 .int false := ⟨RX5, TX5, 4, tyX5, kc5, by decide, rfl, rfl, Or.inl (lw_in (i := 258) (by decide +kernel) rfl)⟩
theorem kfX6_9 : LkF RX6 9 6 0 (.array .int) true := ⟨RX6, TX6, 3, tyX6, kc6, by decide, rfl, rfl, Or.inl (lw_in (i := 217) (by decide +kernel) rfl)⟩
theorem kfX6_15 : LkF RX6 15 6 1 (.array .int) true := ⟨RX6, TX6, 3, tyX6, kc6, by decide, rfl, rfl, Or.inl (lw_in (i := 218) (by decide +kernel) rfl)⟩
theorem kfX6_22 : LkF RX6 22 6 2 .int false := ⟨RX6, TX6, 3, tyX6, kc6, by decide, rfl, rfl, Or.inl (lw_in (i := 219) (by decide +kernel) rfl)⟩
theorem kfX7_15 : LkF RX7 15 7 0 (.array .int) true := ⟨RX7, TX7, 2, tyX7, kc7, by decide, rfl, rfl, Or.inl (lw_in (i := 238) (by decide +kernel) rfl)⟩
theorem kfX7_21 : LkF RX7 21 7 1 .int false := ⟨RX7, TX7, 2, tyX7, kc7, by decide, rfl, rfl, Or.inl (lw_in (i := 239) (by decide +kernel) rfl)⟩
theorem kfX9_7 : LkF RX9 7 9 0 (.array .int) true := ⟨RX9, TX9, 31, tyX9, kc9, by decide, rfl, rfl, Or.inl (lw_in (i := 771) (by decide +kernel) rfl)⟩
theorem kfX9_13 : LkF RX9 13 9 1 (.array .int) true := ⟨RX9, TX9, 31, tyX9, kc9, by decide, rfl, rfl, Or.inl (lw_in (i := 772) (by decide +kernel) rfl)⟩
theorem kfX9_16 : LkF RX9 16 9 2 (.array .int) true := ⟨RX9, TX9, 31, tyX9, kc9, by decide, rfl, rfl, Or.inl (lw_in (i := 773) (by decide +kernel) rfl)⟩
theorem kfX9_19 : LkF RX9 19 9 3 (.array .int) true := ⟨RX9, TX9, 31, tyX9, kc9, by decide, rfl, rfl, Or.inl (lw_in (i := 774) (by decide +kernel) rfl)⟩
theorem kfX9_22 : LkF RX9 22 9 5 (.array .int) true := ⟨RX9, TX9, 31, tyX9, kc9, by decide, rfl, rfl, Or.inl (lw_in (i := 776) (by decide +kernel) rfl)⟩
theorem kfX9_25 : LkF RX9 25 9 6 (.array .int) true := ⟨RX9, TX9, 31, tyX9, kc9, by decide, rfl, rfl, Or.inl (lw_in (i := 777) (by decide +kernel) rfl)⟩
theorem kfX9_28 : LkF RX9 28 9 8 (.array .int) true := ⟨RX9, TX9, 31, tyX9, kc9, by decide, rfl, rfl, Or.inl (lw_in (i := 779) (by decide +kernel) rfl)⟩
theorem kfX9_31 : LkF RX9 31 9 10 (.array .int) true := ⟨RX9, TX9, 31, tyX9, kc9, by decide, rfl, rfl, Or.inl (lw_in (i := 781) (by decide +kernel) rfl)⟩
theorem kfX9_34 : LkF RX9 34 9 12 (.array .int) true := ⟨RX9, TX9, 31, tyX9, kc9, by decide, rfl, rfl, Or.inl (lw_in (i := 783) (by decide +kernel) rfl)⟩
theorem kfX9_37 : LkF RX9 37 9 13 (.array .int) true := ⟨RX9, TX9, 31, tyX9, kc9, by decide, rfl, rfl, Or.inl (lw_in (i := 784) (by decide +kernel) rfl)⟩
theorem kfX9_40 : LkF RX9 40 9 14 (.array .int) true := ⟨RX9, TX9, 31, tyX9, kc9, by decide, rfl, rfl, Or.inl (lw_in (i := 785) (by decide +kernel) rfl)⟩
theorem kfX9_43 : LkF RX9 43 9 15 (.array .int) true := ⟨RX9, TX9, 31, tyX9, kc9, by decide, rfl, rfl, Or.inl (lw_in (i := 786) (by decide +kernel) rfl)⟩
theorem kfX9_46 : LkF RX9 46 9 16 (.array .int) true := ⟨RX9, TX9, 31, tyX9, kc9, by decide, rfl, rfl, Or.inl (lw_in (i := 787) (by decide +kernel) rfl)⟩
theorem kfX9_49 : LkF RX9 49 9 17 (.array .int) true := ⟨RX9, TX9, 31, tyX9, kc9, by decide, rfl, rfl, Or.inl (lw_in (i := 788) (by decide +kernel) rfl)⟩
theorem kfX9_52 : LkF RX9 52 9 18 (.array .int) true := ⟨RX9, TX9, 31, tyX9, kc9, by decide, rfl, rfl, Or.inl (lw_in (i := 789) (by decide +kernel) rfl)⟩
theorem kfX9_55 : LkF RX9 55 9 23 (.array .int) true := ⟨RX9, TX9, 31, tyX9, kc9, by decide, rfl, rfl, Or.inl (lw_in (i := 794) (by decide +kernel) rfl)⟩
theorem kfX9_58 : LkF RX9 58 9 24 (.array .int) true := ⟨RX9, TX9, 31, tyX9, kc9, by decide, rfl, rfl, Or.inl (lw_in (i := 795) (by decide +kernel) rfl)⟩
theorem kfX9_61 : LkF RX9 61 9 28 (.array .int) true := ⟨RX9, TX9, 31, tyX9, kc9, by decide, rfl, rfl, Or.inl (lw_in (i := 799) (by decide +kernel) rfl)⟩
theorem kfX9_64 : LkF RX9 64 9 29 (.array .int) true := ⟨RX9, TX9, 31, tyX9, kc9, by decide, rfl, rfl, Or.inl (lw_in (i := 800) (by decide +kernel) rfl)⟩
theorem kfX9_73 : LkF RX9 73 9 4 .int false := ⟨RX9, TX9, 31, tyX9, kc9, by decide, rfl, rfl, Or.inl (lw_in (i := 775) (by decide +kernel) rfl)⟩
theorem kfX9_103 : LkF RX9 103 9 7 .int false := ⟨RX9, TX9, 31, tyX9, kc9, by decide, rfl, rfl, Or.inl (lw_in (i := 778) (by decide +kernel) rfl)⟩
theorem kfX9_115 : LkF RX9 115 9 9 .int false := ⟨RX9, TX9, 31, tyX9, kc9, by decide, rfl, rfl, Or.inl (lw_in (i := 780) (by decide +kernel) rfl)⟩
theorem kfX9_121 : LkF RX9 121 9 11 .int false := ⟨RX9, TX9, 31, tyX9, kc9, by decide, rfl, rfl, Or.inl (lw_in (i := 782) (by decide +kernel) rfl)⟩
theorem kfX9_155 : LkF RX9 155 9 19 .int false := ⟨RX9, TX9, 31, tyX9, kc9, by decide, rfl, rfl, Or.inl (lw_in (i := 790) (by decide +kernel) rfl)⟩
theorem kfX9_158 : LkF RX9 158 9 21 .int false := ⟨RX9, TX9, 31, tyX9, kc9, by decide, rfl, rfl, Or.inl (lw_in (i := 792) (by decide +kernel) rfl)⟩
theorem kfX9_161 : LkF RX9 161 9 22 .int false := ⟨RX9, TX9, 31, tyX9, kc9, by decide, rfl, rfl, Or.inl (lw_in (i := 793) (by decide +kernel) rfl)⟩
theorem kfX9_181 : LkF RX9 181 9 20 .int false := ⟨RX9, TX9, 31, tyX9, kc9, by decide, rfl, rfl, Or.inl (lw_in (i := 791) (by decide +kernel) rfl)⟩
theorem kfX9_214 : LkF RX9 214 9 25 .int false := ⟨RX9, TX9, 31, tyX9, kc9, by decide, rfl, rfl, Or.inl (lw_in (i := 796) (by decide +kernel) rfl)⟩
theorem kfX9_217 : LkF RX9 217 9 26 .int false := ⟨RX9, TX9, 31, tyX9, kc9, by decide, rfl, rfl, Or.inl (lw_in (i := 797) (by decide +kernel) rfl)⟩
theorem kfX9_241 : LkF RX9 241 9 27 .int false := ⟨RX9, TX9, 31, tyX9, kc9, by decide, rfl, rfl, Or.inl (lw_in (i := 798) (by decide +kernel) rfl)⟩
theorem kfX9_274 : LkF RX9 274 9 30 .int false := ⟨RX9, TX9, 31, tyX9, kc9, by decide, rfl, rfl, Or.inl (lw_in (i := 801) (by decide +kernel) rfl)⟩
theorem miX0_take : MiV 0 yX0_take cX0_take 4 none 2 := ⟨⟨_, _, rfl⟩, lw_in (i := 391) (by decide +kernel) rfl, lw_in (i := 61) (by decide +kernel) rfl, lw_in (i := 389) (by decide +kernel) rfl, lw_in (i := 390) (by decide +kernel) rfl, ⟨by decide +kernel, by decide +kernel, by decide +kernel⟩⟩
theorem miX0_measure : MiV 0 yX0_measure cX0_measure 7 none 2 := ⟨⟨_, _, rfl⟩, lw_in (i := 399) (by decide +kernel) rfl, lw_in (i := 61) (by decide +kernel) rfl, lw_in (i := 398) (by decide +kernel) rfl, lw_in (i := 2) (by decide +kernel) rfl, ⟨by decide +kernel, by decide +kernel, by decide +kernel⟩⟩
theorem miX0_isHole : MiV 0 yX0_isHole cX0_isHole 5 (some .boolean) 3 := ⟨⟨_, _, rfl⟩, lw_in (i := 403) (by decide +kernel) rfl, lw_in (i := 61) (by decide +kernel) rfl, lw_in (i := 402) (by decide +kernel) rfl, lw_in (i := 3) (by decide +kernel) rfl, ⟨by decide +kernel, by decide +kernel, by decide +kernel⟩⟩
theorem miX0_hasPlank : MiV 0 yX0_hasPlank cX0_hasPlank 2 (some .boolean) 1 := ⟨⟨_, _, rfl⟩, lw_in (i := 464) (by decide +kernel) rfl, lw_in (i := 61) (by decide +kernel) rfl, lw_in (i := 462) (by decide +kernel) rfl, lw_in (i := 463) (by decide +kernel) rfl, ⟨by decide +kernel, by decide +kernel, by decide +kernel⟩⟩
theorem miX0_isRotten : MiV 0 yX0_isRotten cX0_isRotten 2 (some .boolean) 1 := ⟨⟨_, _, rfl⟩, lw_in (i := 469) (by decide +kernel) rfl, lw_in (i := 61) (by decide +kernel) rfl, lw_in (i := 467) (by decide +kernel) rfl, lw_in (i := 468) (by decide +kernel) rfl, ⟨by decide +kernel, by decide +kernel, by decide +kernel⟩⟩
theorem miX0_firstGap : MiV 0 yX0_firstGap cX0_firstGap 1 (some .int) 0 := ⟨⟨_, _, rfl⟩, lw_in (i := 431) (by decide +kernel) rfl, lw_in (i := 61) (by decide +kernel) rfl, lw_in (i := 429) (by decide +kernel) rfl, lw_in (i := 430) (by decide +kernel) rfl, ⟨by decide +kernel, by decide +kernel, by decide +kernel⟩⟩
theorem miX0_outcome : MiV 0 yX0_outcome cX0_outcome 3 (some .int) 2 := ⟨⟨_, _, rfl⟩, lw_in (i := 453) (by decide +kernel) rfl, lw_in (i := 61) (by decide +kernel) rfl, lw_in (i := 451) (by decide +kernel) rfl, lw_in (i := 452) (by decide +kernel) rfl, ⟨by decide +kernel, by decide +kernel, by decide +kernel⟩⟩
theorem miX0_toll : MiV 0 yX0_toll cX0_toll 3 (some .int) 2 := ⟨⟨_, _, rfl⟩, lw_in (i := 505) (by decide +kernel) rfl, lw_in (i := 61) (by decide +kernel) rfl, lw_in (i := 503) (by decide +kernel) rfl, lw_in (i := 504) (by decide +kernel) rfl, ⟨by decide +kernel, by decide +kernel, by decide +kernel⟩⟩
theorem miX0_longestRow : MiV 0 yX0_longestRow cX0_longestRow 3 (some .int) 2 := ⟨⟨_, _, rfl⟩, lw_in (i := 509) (by decide +kernel) rfl, lw_in (i := 61) (by decide +kernel) rfl, lw_in (i := 507) (by decide +kernel) rfl, lw_in (i := 508) (by decide +kernel) rfl, ⟨by decide +kernel, by decide +kernel, by decide +kernel⟩⟩
theorem miX0_gapBehind : MiV 0 yX0_gapBehind cX0_gapBehind 5 (some .int) 3 := ⟨⟨_, _, rfl⟩, lw_in (i := 449) (by decide +kernel) rfl, lw_in (i := 61) (by decide +kernel) rfl, lw_in (i := 447) (by decide +kernel) rfl, lw_in (i := 448) (by decide +kernel) rfl, ⟨by decide +kernel, by decide +kernel, by decide +kernel⟩⟩
theorem miX1_take : MiV 1 yX1_take cX1_take 3 none 2 := ⟨⟨_, _, rfl⟩, lw_in (i := 413) (by decide +kernel) rfl, lw_in (i := 63) (by decide +kernel) rfl, lw_in (i := 411) (by decide +kernel) rfl, lw_in (i := 412) (by decide +kernel) rfl, ⟨by decide +kernel, by decide +kernel, by decide +kernel⟩⟩
theorem miX1_shiftBy : MiV 1 yX1_shiftBy cX1_shiftBy 2 (some .int) 1 := ⟨⟨_, _, rfl⟩, lw_in (i := 457) (by decide +kernel) rfl, lw_in (i := 63) (by decide +kernel) rfl, lw_in (i := 455) (by decide +kernel) rfl, lw_in (i := 456) (by decide +kernel) rfl, ⟨by decide +kernel, by decide +kernel, by decide +kernel⟩⟩
theorem miX2_take : MiV 2 yX2_take cX2_take 4 none 2 := ⟨⟨_, _, rfl⟩, lw_in (i := 408) (by decide +kernel) rfl, lw_in (i := 62) (by decide +kernel) rfl, lw_in (i := 406) (by decide +kernel) rfl, lw_in (i := 407) (by decide +kernel) rfl, ⟨by decide +kernel, by decide +kernel, by decide +kernel⟩⟩
theorem miX2_at : MiV 2 yX2_at cX2_at 2 (some (.object "MiddlePlank$Crosser")) 1 := ⟨⟨_, _, rfl⟩, lw_in (i := 444) (by decide +kernel) rfl, lw_in (i := 62) (by decide +kernel) rfl, lw_in (i := 442) (by decide +kernel) rfl, lw_in (i := 443) (by decide +kernel) rfl, ⟨by decide +kernel, by decide +kernel, by decide +kernel⟩⟩
theorem miX3_take : MiV 3 yX3_take cX3_take 4 none 2 := ⟨⟨_, _, rfl⟩, lw_in (i := 423) (by decide +kernel) rfl, lw_in (i := 64) (by decide +kernel) rfl, lw_in (i := 421) (by decide +kernel) rfl, lw_in (i := 422) (by decide +kernel) rfl, ⟨by decide +kernel, by decide +kernel, by decide +kernel⟩⟩
theorem miX3_whoAt : MiV 3 yX3_whoAt cX3_whoAt 2 (some .int) 1 := ⟨⟨_, _, rfl⟩, lw_in (i := 439) (by decide +kernel) rfl, lw_in (i := 64) (by decide +kernel) rfl, lw_in (i := 437) (by decide +kernel) rfl, lw_in (i := 438) (by decide +kernel) rfl, ⟨by decide +kernel, by decide +kernel, by decide +kernel⟩⟩
theorem miX3_follow : MiV 3 yX3_follow cX3_follow 8 none 5 := ⟨⟨_, _, rfl⟩, lw_in (i := 435) (by decide +kernel) rfl, lw_in (i := 64) (by decide +kernel) rfl, lw_in (i := 433) (by decide +kernel) rfl, lw_in (i := 434) (by decide +kernel) rfl, ⟨by decide +kernel, by decide +kernel, by decide +kernel⟩⟩
theorem miX4_make : MiV 4 yX4_make cX4_make 4 none 2 := ⟨⟨_, _, rfl⟩, lw_in (i := 549) (by decide +kernel) rfl, lw_in (i := 65) (by decide +kernel) rfl, lw_in (i := 547) (by decide +kernel) rfl, lw_in (i := 548) (by decide +kernel) rfl, ⟨by decide +kernel, by decide +kernel, by decide +kernel⟩⟩
theorem miX4_whoAt : MiV 4 yX4_whoAt cX4_whoAt 2 (some .int) 1 := ⟨⟨_, _, rfl⟩, lw_in (i := 583) (by decide +kernel) rfl, lw_in (i := 65) (by decide +kernel) rfl, lw_in (i := 581) (by decide +kernel) rfl, lw_in (i := 582) (by decide +kernel) rfl, ⟨by decide +kernel, by decide +kernel, by decide +kernel⟩⟩
theorem miX4_weigh : MiV 4 yX4_weigh cX4_weigh 7 none 3 := ⟨⟨_, _, rfl⟩, lw_in (i := 555) (by decide +kernel) rfl, lw_in (i := 65) (by decide +kernel) rfl, lw_in (i := 554) (by decide +kernel) rfl, lw_in (i := 9) (by decide +kernel) rfl, ⟨by decide +kernel, by decide +kernel, by decide +kernel⟩⟩
theorem miX4_findBest : MiV 4 yX4_findBest cX4_findBest 4 none 0 := ⟨⟨_, _, rfl⟩, lw_in (i := 562) (by decide +kernel) rfl, lw_in (i := 65) (by decide +kernel) rfl, lw_in (i := 561) (by decide +kernel) rfl, lw_in (i := 10) (by decide +kernel) rfl, ⟨by decide +kernel, by decide +kernel, by decide +kernel⟩⟩
theorem miX4_bestOf : MiV 4 yX4_bestOf cX4_bestOf 5 (some .int) 2 := ⟨⟨_, _, rfl⟩, lw_in (i := 566) (by decide +kernel) rfl, lw_in (i := 65) (by decide +kernel) rfl, lw_in (i := 565) (by decide +kernel) rfl, lw_in (i := 11) (by decide +kernel) rfl, ⟨by decide +kernel, by decide +kernel, by decide +kernel⟩⟩
theorem miX4_worthOf : MiV 4 yX4_worthOf cX4_worthOf 5 (some .int) 3 := ⟨⟨_, _, rfl⟩, lw_in (i := 570) (by decide +kernel) rfl, lw_in (i := 65) (by decide +kernel) rfl, lw_in (i := 569) (by decide +kernel) rfl, lw_in (i := 12) (by decide +kernel) rfl, ⟨by decide +kernel, by decide +kernel, by decide +kernel⟩⟩
theorem miX4_followBest : MiV 4 yX4_followBest cX4_followBest 8 none 3 := ⟨⟨_, _, rfl⟩, lw_in (i := 575) (by decide +kernel) rfl, lw_in (i := 65) (by decide +kernel) rfl, lw_in (i := 574) (by decide +kernel) rfl, lw_in (i := 13) (by decide +kernel) rfl, ⟨by decide +kernel, by decide +kernel, by decide +kernel⟩⟩
theorem miX4_leastOfBest : MiV 4 yX4_leastOfBest cX4_leastOfBest 4 (some .int) 2 := ⟨⟨_, _, rfl⟩, lw_in (i := 579) (by decide +kernel) rfl, lw_in (i := 65) (by decide +kernel) rfl, lw_in (i := 578) (by decide +kernel) rfl, lw_in (i := 14) (by decide +kernel) rfl, ⟨by decide +kernel, by decide +kernel, by decide +kernel⟩⟩
theorem miX5_renew : MiV 5 yX5_renew cX5_renew 4 none 2 := ⟨⟨_, _, rfl⟩, lw_in (i := 687) (by decide +kernel) rfl, lw_in (i := 69) (by decide +kernel) rfl, lw_in (i := 685) (by decide +kernel) rfl, lw_in (i := 686) (by decide +kernel) rfl, ⟨by decide +kernel, by decide +kernel, by decide +kernel⟩⟩
theorem miX5_hasItems : MiV 5 yX5_hasItems cX5_hasItems 3 (some .boolean) 2 := ⟨⟨_, _, rfl⟩, lw_in (i := 638) (by decide +kernel) rfl, lw_in (i := 69) (by decide +kernel) rfl, lw_in (i := 636) (by decide +kernel) rfl, lw_in (i := 637) (by decide +kernel) rfl, ⟨by decide +kernel, by decide +kernel, by decide +kernel⟩⟩
theorem miX5_findingAt : MiV 5 yX5_findingAt cX5_findingAt 3 (some .int) 2 := ⟨⟨_, _, rfl⟩, lw_in (i := 700) (by decide +kernel) rfl, lw_in (i := 69) (by decide +kernel) rfl, lw_in (i := 698) (by decide +kernel) rfl, lw_in (i := 699) (by decide +kernel) rfl, ⟨by decide +kernel, by decide +kernel, by decide +kernel⟩⟩
theorem miX5_itemAt : MiV 5 yX5_itemAt cX5_itemAt 2 (some .int) 1 := ⟨⟨_, _, rfl⟩, lw_in (i := 634) (by decide +kernel) rfl, lw_in (i := 69) (by decide +kernel) rfl, lw_in (i := 632) (by decide +kernel) rfl, lw_in (i := 633) (by decide +kernel) rfl, ⟨by decide +kernel, by decide +kernel, by decide +kernel⟩⟩
theorem miX5_put : MiV 5 yX5_put cX5_put 3 none 2 := ⟨⟨_, _, rfl⟩, lw_in (i := 704) (by decide +kernel) rfl, lw_in (i := 69) (by decide +kernel) rfl, lw_in (i := 702) (by decide +kernel) rfl, lw_in (i := 703) (by decide +kernel) rfl, ⟨by decide +kernel, by decide +kernel, by decide +kernel⟩⟩
theorem miX5_lowestBits : MiV 5 yX5_lowestBits cX5_lowestBits 2 (some .int) 1 := ⟨⟨_, _, rfl⟩, lw_in (i := 708) (by decide +kernel) rfl, lw_in (i := 69) (by decide +kernel) rfl, lw_in (i := 707) (by decide +kernel) rfl, lw_in (i := 21) (by decide +kernel) rfl, ⟨by decide +kernel, by decide +kernel, by decide +kernel⟩⟩
theorem miX6_isPossible : MiS yX6_isPossible cX6_isPossible 2 (some .boolean) 2 := ⟨lw_in (i := 604) (by decide +kernel) rfl, lw_in (i := 66) (by decide +kernel) rfl, lw_in (i := 603) (by decide +kernel) rfl, ⟨by decide +kernel, by decide +kernel, by decide +kernel⟩⟩
theorem miX6_isFull : MiV 6 yX6_isFull cX6_isFull 1 (some .boolean) 0 := ⟨⟨_, _, rfl⟩, lw_in (i := 609) (by decide +kernel) rfl, lw_in (i := 66) (by decide +kernel) rfl, lw_in (i := 607) (by decide +kernel) rfl, lw_in (i := 608) (by decide +kernel) rfl, ⟨by decide +kernel, by decide +kernel, by decide +kernel⟩⟩
theorem miX6_add : MiV 6 yX6_add cX6_add 3 none 2 := ⟨⟨_, _, rfl⟩, lw_in (i := 613) (by decide +kernel) rfl, lw_in (i := 66) (by decide +kernel) rfl, lw_in (i := 611) (by decide +kernel) rfl, lw_in (i := 612) (by decide +kernel) rfl, ⟨by decide +kernel, by decide +kernel, by decide +kernel⟩⟩
theorem miX6_agreeWith : MiV 6 yX6_agreeWith cX6_agreeWith 5 (some .boolean) 2 := ⟨⟨_, _, rfl⟩, lw_in (i := 653) (by decide +kernel) rfl, lw_in (i := 66) (by decide +kernel) rfl, lw_in (i := 651) (by decide +kernel) rfl, lw_in (i := 652) (by decide +kernel) rfl, ⟨by decide +kernel, by decide +kernel, by decide +kernel⟩⟩
theorem miX7_isFull : MiV 7 yX7_isFull cX7_isFull 1 (some .boolean) 0 := ⟨⟨_, _, rfl⟩, lw_in (i := 332) (by decide +kernel) rfl, lw_in (i := 67) (by decide +kernel) rfl, lw_in (i := 330) (by decide +kernel) rfl, lw_in (i := 331) (by decide +kernel) rfl, ⟨by decide +kernel, by decide +kernel, by decide +kernel⟩⟩
theorem miX7_append : MiV 7 yX7_append cX7_append 2 none 1 := ⟨⟨_, _, rfl⟩, lw_in (i := 336) (by decide +kernel) rfl, lw_in (i := 67) (by decide +kernel) rfl, lw_in (i := 334) (by decide +kernel) rfl, lw_in (i := 335) (by decide +kernel) rfl, ⟨by decide +kernel, by decide +kernel, by decide +kernel⟩⟩
theorem miX7_at : MiV 7 yX7_at cX7_at 2 (some .int) 1 := ⟨⟨_, _, rfl⟩, lw_in (i := 356) (by decide +kernel) rfl, lw_in (i := 67) (by decide +kernel) rfl, lw_in (i := 354) (by decide +kernel) rfl, lw_in (i := 355) (by decide +kernel) rfl, ⟨by decide +kernel, by decide +kernel, by decide +kernel⟩⟩
theorem miX8_type : MiV 8 yX8_type cX8_type 4 (some .int) 2 := ⟨⟨_, _, rfl⟩, lw_in (i := 321) (by decide +kernel) rfl, lw_in (i := 60) (by decide +kernel) rfl, lw_in (i := 319) (by decide +kernel) rfl, lw_in (i := 320) (by decide +kernel) rfl, ⟨by decide +kernel, by decide +kernel, by decide +kernel⟩⟩
theorem miX8_wipe : MiV 8 yX8_wipe cX8_wipe 4 (some .int) 1 := ⟨⟨_, _, rfl⟩, lw_in (i := 341) (by decide +kernel) rfl, lw_in (i := 60) (by decide +kernel) rfl, lw_in (i := 339) (by decide +kernel) rfl, lw_in (i := 340) (by decide +kernel) rfl, ⟨by decide +kernel, by decide +kernel, by decide +kernel⟩⟩
theorem miX8_undo : MiV 8 yX8_undo cX8_undo 3 (some .int) 1 := ⟨⟨_, _, rfl⟩, lw_in (i := 345) (by decide +kernel) rfl, lw_in (i := 60) (by decide +kernel) rfl, lw_in (i := 343) (by decide +kernel) rfl, lw_in (i := 344) (by decide +kernel) rfl, ⟨by decide +kernel, by decide +kernel, by decide +kernel⟩⟩
theorem miX8_fault : MiV 8 yX8_fault cX8_fault 3 (some .int) 1 := ⟨⟨_, _, rfl⟩, lw_in (i := 349) (by decide +kernel) rfl, lw_in (i := 60) (by decide +kernel) rfl, lw_in (i := 347) (by decide +kernel) rfl, lw_in (i := 348) (by decide +kernel) rfl, ⟨by decide +kernel, by decide +kernel, by decide +kernel⟩⟩
theorem miX8_plank : MiV 8 yX8_plank cX8_plank 2 (some .int) 1 := ⟨⟨_, _, rfl⟩, lw_in (i := 380) (by decide +kernel) rfl, lw_in (i := 60) (by decide +kernel) rfl, lw_in (i := 378) (by decide +kernel) rfl, lw_in (i := 379) (by decide +kernel) rfl, ⟨by decide +kernel, by decide +kernel, by decide +kernel⟩⟩
theorem miX8_crosser : MiV 8 yX8_crosser cX8_crosser 4 (some .int) 2 := ⟨⟨_, _, rfl⟩, lw_in (i := 474) (by decide +kernel) rfl, lw_in (i := 60) (by decide +kernel) rfl, lw_in (i := 472) (by decide +kernel) rfl, lw_in (i := 473) (by decide +kernel) rfl, ⟨by decide +kernel, by decide +kernel, by decide +kernel⟩⟩
theorem miX8_crossing : MiV 8 yX8_crossing cX8_crossing 2 (some .int) 1 := ⟨⟨_, _, rfl⟩, lw_in (i := 479) (by decide +kernel) rfl, lw_in (i := 60) (by decide +kernel) rfl, lw_in (i := 477) (by decide +kernel) rfl, lw_in (i := 478) (by decide +kernel) rfl, ⟨by decide +kernel, by decide +kernel, by decide +kernel⟩⟩
theorem miX8_set : MiV 8 yX8_set cX8_set 4 (some .int) 2 := ⟨⟨_, _, rfl⟩, lw_in (i := 484) (by decide +kernel) rfl, lw_in (i := 60) (by decide +kernel) rfl, lw_in (i := 482) (by decide +kernel) rfl, lw_in (i := 483) (by decide +kernel) rfl, ⟨by decide +kernel, by decide +kernel, by decide +kernel⟩⟩
theorem miX8_shift : MiV 8 yX8_shift cX8_shift 4 (some .int) 2 := ⟨⟨_, _, rfl⟩, lw_in (i := 488) (by decide +kernel) rfl, lw_in (i := 60) (by decide +kernel) rfl, lw_in (i := 486) (by decide +kernel) rfl, lw_in (i := 487) (by decide +kernel) rfl, ⟨by decide +kernel, by decide +kernel, by decide +kernel⟩⟩
theorem miX8_gap : MiV 8 yX8_gap cX8_gap 2 (some .int) 1 := ⟨⟨_, _, rfl⟩, lw_in (i := 492) (by decide +kernel) rfl, lw_in (i := 60) (by decide +kernel) rfl, lw_in (i := 490) (by decide +kernel) rfl, lw_in (i := 491) (by decide +kernel) rfl, ⟨by decide +kernel, by decide +kernel, by decide +kernel⟩⟩
theorem miX8_comes : MiV 8 yX8_comes cX8_comes 5 (some .int) 2 := ⟨⟨_, _, rfl⟩, lw_in (i := 500) (by decide +kernel) rfl, lw_in (i := 60) (by decide +kernel) rfl, lw_in (i := 498) (by decide +kernel) rfl, lw_in (i := 499) (by decide +kernel) rfl, ⟨by decide +kernel, by decide +kernel, by decide +kernel⟩⟩
theorem miX8_times : MiV 8 yX8_times cX8_times 6 (some .int) 2 := ⟨⟨_, _, rfl⟩, lw_in (i := 513) (by decide +kernel) rfl, lw_in (i := 60) (by decide +kernel) rfl, lw_in (i := 511) (by decide +kernel) rfl, lw_in (i := 512) (by decide +kernel) rfl, ⟨by decide +kernel, by decide +kernel, by decide +kernel⟩⟩
theorem miX8_taken : MiV 8 yX8_taken cX8_taken 2 (some .int) 1 := ⟨⟨_, _, rfl⟩, lw_in (i := 521) (by decide +kernel) rfl, lw_in (i := 60) (by decide +kernel) rfl, lw_in (i := 519) (by decide +kernel) rfl, lw_in (i := 520) (by decide +kernel) rfl, ⟨by decide +kernel, by decide +kernel, by decide +kernel⟩⟩
theorem miX8_stuck : MiV 8 yX8_stuck cX8_stuck 2 (some .int) 0 := ⟨⟨_, _, rfl⟩, lw_in (i := 529) (by decide +kernel) rfl, lw_in (i := 60) (by decide +kernel) rfl, lw_in (i := 527) (by decide +kernel) rfl, lw_in (i := 528) (by decide +kernel) rfl, ⟨by decide +kernel, by decide +kernel, by decide +kernel⟩⟩
theorem miX8_worn : MiV 8 yX8_worn cX8_worn 4 (some .int) 0 := ⟨⟨_, _, rfl⟩, lw_in (i := 533) (by decide +kernel) rfl, lw_in (i := 60) (by decide +kernel) rfl, lw_in (i := 531) (by decide +kernel) rfl, lw_in (i := 532) (by decide +kernel) rfl, ⟨by decide +kernel, by decide +kernel, by decide +kernel⟩⟩
theorem miX8_order : MiV 8 yX8_order cX8_order 2 (some .int) 1 := ⟨⟨_, _, rfl⟩, lw_in (i := 541) (by decide +kernel) rfl, lw_in (i := 60) (by decide +kernel) rfl, lw_in (i := 539) (by decide +kernel) rfl, lw_in (i := 540) (by decide +kernel) rfl, ⟨by decide +kernel, by decide +kernel, by decide +kernel⟩⟩
theorem miX8_ahead : MiV 8 yX8_ahead cX8_ahead 6 (some .int) 1 := ⟨⟨_, _, rfl⟩, lw_in (i := 588) (by decide +kernel) rfl, lw_in (i := 60) (by decide +kernel) rfl, lw_in (i := 586) (by decide +kernel) rfl, lw_in (i := 587) (by decide +kernel) rfl, ⟨by decide +kernel, by decide +kernel, by decide +kernel⟩⟩
theorem miX8_often : MiV 8 yX8_often cX8_often 7 (some .int) 2 := ⟨⟨_, _, rfl⟩, lw_in (i := 597) (by decide +kernel) rfl, lw_in (i := 60) (by decide +kernel) rfl, lw_in (i := 595) (by decide +kernel) rfl, lw_in (i := 596) (by decide +kernel) rfl, ⟨by decide +kernel, by decide +kernel, by decide +kernel⟩⟩
theorem miX8_seen : MiV 8 yX8_seen cX8_seen 3 (some .int) 2 := ⟨⟨_, _, rfl⟩, lw_in (i := 601) (by decide +kernel) rfl, lw_in (i := 60) (by decide +kernel) rfl, lw_in (i := 599) (by decide +kernel) rfl, lw_in (i := 600) (by decide +kernel) rfl, ⟨by decide +kernel, by decide +kernel, by decide +kernel⟩⟩
theorem miX8_forget : MiV 8 yX8_forget cX8_forget 2 (some .int) 0 := ⟨⟨_, _, rfl⟩, lw_in (i := 618) (by decide +kernel) rfl, lw_in (i := 60) (by decide +kernel) rfl, lw_in (i := 616) (by decide +kernel) rfl, lw_in (i := 617) (by decide +kernel) rfl, ⟨by decide +kernel, by decide +kernel, by decide +kernel⟩⟩
theorem miX8_read : MiV 8 yX8_read cX8_read 4 (some .int) 1 := ⟨⟨_, _, rfl⟩, lw_in (i := 622) (by decide +kernel) rfl, lw_in (i := 60) (by decide +kernel) rfl, lw_in (i := 620) (by decide +kernel) rfl, lw_in (i := 621) (by decide +kernel) rfl, ⟨by decide +kernel, by decide +kernel, by decide +kernel⟩⟩
theorem miX8_rule : MiV 8 yX8_rule cX8_rule 4 (some .int) 1 := ⟨⟨_, _, rfl⟩, lw_in (i := 642) (by decide +kernel) rfl, lw_in (i := 60) (by decide +kernel) rfl, lw_in (i := 640) (by decide +kernel) rfl, lw_in (i := 641) (by decide +kernel) rfl, ⟨by decide +kernel, by decide +kernel, by decide +kernel⟩⟩
theorem miX8_began : MiV 8 yX8_began cX8_began 3 (some .int) 0 := ⟨⟨_, _, rfl⟩, lw_in (i := 657) (by decide +kernel) rfl, lw_in (i := 60) (by decide +kernel) rfl, lw_in (i := 655) (by decide +kernel) rfl, lw_in (i := 656) (by decide +kernel) rfl, ⟨by decide +kernel, by decide +kernel, by decide +kernel⟩⟩
theorem miX8_ask : MiV 8 yX8_ask cX8_ask 1 (some .int) 0 := ⟨⟨_, _, rfl⟩, lw_in (i := 661) (by decide +kernel) rfl, lw_in (i := 60) (by decide +kernel) rfl, lw_in (i := 659) (by decide +kernel) rfl, lw_in (i := 660) (by decide +kernel) rfl, ⟨by decide +kernel, by decide +kernel, by decide +kernel⟩⟩
theorem miX8_maybe : MiV 8 yX8_maybe cX8_maybe 7 (some .long) 3 := ⟨⟨_, _, rfl⟩, lw_in (i := 665) (by decide +kernel) rfl, lw_in (i := 60) (by decide +kernel) rfl, lw_in (i := 663) (by decide +kernel) rfl, lw_in (i := 664) (by decide +kernel) rfl, ⟨by decide +kernel, by decide +kernel, by decide +kernel⟩⟩
theorem miX8_week : MiV 8 yX8_week cX8_week 9 (some .int) 3 := ⟨⟨_, _, rfl⟩, lw_in (i := 678) (by decide +kernel) rfl, lw_in (i := 60) (by decide +kernel) rfl, lw_in (i := 676) (by decide +kernel) rfl, lw_in (i := 677) (by decide +kernel) rfl, ⟨by decide +kernel, by decide +kernel, by decide +kernel⟩⟩
theorem miX8_sheet : MiV 8 yX8_sheet cX8_sheet 5 (some .int) 3 := ⟨⟨_, _, rfl⟩, lw_in (i := 683) (by decide +kernel) rfl, lw_in (i := 60) (by decide +kernel) rfl, lw_in (i := 681) (by decide +kernel) rfl, lw_in (i := 682) (by decide +kernel) rfl, ⟨by decide +kernel, by decide +kernel, by decide +kernel⟩⟩
theorem miX8_lose : MiV 8 yX8_lose cX8_lose 3 (some .int) 1 := ⟨⟨_, _, rfl⟩, lw_in (i := 692) (by decide +kernel) rfl, lw_in (i := 60) (by decide +kernel) rfl, lw_in (i := 690) (by decide +kernel) rfl, lw_in (i := 691) (by decide +kernel) rfl, ⟨by decide +kernel, by decide +kernel, by decide +kernel⟩⟩
theorem miX8_lay : MiV 8 yX8_lay cX8_lay 7 (some .int) 4 := ⟨⟨_, _, rfl⟩, lw_in (i := 696) (by decide +kernel) rfl, lw_in (i := 60) (by decide +kernel) rfl, lw_in (i := 694) (by decide +kernel) rfl, lw_in (i := 695) (by decide +kernel) rfl, ⟨by decide +kernel, by decide +kernel, by decide +kernel⟩⟩
theorem miX8_get : MiV 8 yX8_get cX8_get 6 (some .int) 3 := ⟨⟨_, _, rfl⟩, lw_in (i := 712) (by decide +kernel) rfl, lw_in (i := 60) (by decide +kernel) rfl, lw_in (i := 710) (by decide +kernel) rfl, lw_in (i := 711) (by decide +kernel) rfl, ⟨by decide +kernel, by decide +kernel, by decide +kernel⟩⟩
theorem miX8_copy : MiV 8 yX8_copy cX8_copy 8 (some .int) 5 := ⟨⟨_, _, rfl⟩, lw_in (i := 717) (by decide +kernel) rfl, lw_in (i := 60) (by decide +kernel) rfl, lw_in (i := 715) (by decide +kernel) rfl, lw_in (i := 716) (by decide +kernel) rfl, ⟨by decide +kernel, by decide +kernel, by decide +kernel⟩⟩
theorem miX8_write : MiV 8 yX8_write cX8_write 5 (some .int) 1 := ⟨⟨_, _, rfl⟩, lw_in (i := 722) (by decide +kernel) rfl, lw_in (i := 60) (by decide +kernel) rfl, lw_in (i := 720) (by decide +kernel) rfl, lw_in (i := 721) (by decide +kernel) rfl, ⟨by decide +kernel, by decide +kernel, by decide +kernel⟩⟩
theorem miX8_count : MiV 8 yX8_count cX8_count 2 (some .int) 1 := ⟨⟨_, _, rfl⟩, lw_in (i := 727) (by decide +kernel) rfl, lw_in (i := 60) (by decide +kernel) rfl, lw_in (i := 725) (by decide +kernel) rfl, lw_in (i := 726) (by decide +kernel) rfl, ⟨by decide +kernel, by decide +kernel, by decide +kernel⟩⟩
theorem miX8_digest : MiV 8 yX8_digest cX8_digest 4 (some .long) 0 := ⟨⟨_, _, rfl⟩, lw_in (i := 731) (by decide +kernel) rfl, lw_in (i := 60) (by decide +kernel) rfl, lw_in (i := 729) (by decide +kernel) rfl, lw_in (i := 730) (by decide +kernel) rfl, ⟨by decide +kernel, by decide +kernel, by decide +kernel⟩⟩
theorem miX8_digestPlanks : MiV 8 yX8_digestPlanks cX8_digestPlanks 6 (some .long) 1 := ⟨⟨_, _, rfl⟩, lw_in (i := 739) (by decide +kernel) rfl, lw_in (i := 60) (by decide +kernel) rfl, lw_in (i := 738) (by decide +kernel) rfl, lw_in (i := 22) (by decide +kernel) rfl, ⟨by decide +kernel, by decide +kernel, by decide +kernel⟩⟩
theorem miX8_digestCrossers : MiV 8 yX8_digestCrossers cX8_digestCrossers 7 (some .long) 1 := ⟨⟨_, _, rfl⟩, lw_in (i := 745) (by decide +kernel) rfl, lw_in (i := 60) (by decide +kernel) rfl, lw_in (i := 744) (by decide +kernel) rfl, lw_in (i := 23) (by decide +kernel) rfl, ⟨by decide +kernel, by decide +kernel, by decide +kernel⟩⟩
theorem miX8_digestCrossings : MiV 8 yX8_digestCrossings cX8_digestCrossings 7 (some .long) 1 := ⟨⟨_, _, rfl⟩, lw_in (i := 753) (by decide +kernel) rfl, lw_in (i := 60) (by decide +kernel) rfl, lw_in (i := 752) (by decide +kernel) rfl, lw_in (i := 24) (by decide +kernel) rfl, ⟨by decide +kernel, by decide +kernel, by decide +kernel⟩⟩
theorem miX8_within : MiS yX8_within cX8_within 3 (some .boolean) 3 := ⟨lw_in (i := 328) (by decide +kernel) rfl, lw_in (i := 60) (by decide +kernel) rfl, lw_in (i := 327) (by decide +kernel) rfl, ⟨by decide +kernel, by decide +kernel, by decide +kernel⟩⟩
theorem miX8_textAt : MiV 8 yX8_textAt cX8_textAt 2 (some (.object "MiddlePlank$Text")) 1 := ⟨⟨_, _, rfl⟩, lw_in (i := 325) (by decide +kernel) rfl, lw_in (i := 60) (by decide +kernel) rfl, lw_in (i := 324) (by decide +kernel) rfl, lw_in (i := 0) (by decide +kernel) rfl, ⟨by decide +kernel, by decide +kernel, by decide +kernel⟩⟩
theorem miX8_placeOf : MiS yX8_placeOf cX8_placeOf 3 (some .int) 2 := ⟨lw_in (i := 376) (by decide +kernel) rfl, lw_in (i := 60) (by decide +kernel) rfl, lw_in (i := 375) (by decide +kernel) rfl, ⟨by decide +kernel, by decide +kernel, by decide +kernel⟩⟩
theorem miX8_signsFor : MiS yX8_signsFor cX8_signsFor 2 (some (.array .char)) 2 := ⟨lw_in (i := 359) (by decide +kernel) rfl, lw_in (i := 60) (by decide +kernel) rfl, lw_in (i := 358) (by decide +kernel) rfl, ⟨by decide +kernel, by decide +kernel, by decide +kernel⟩⟩
theorem miX8_faultOf : MiS yX8_faultOf cX8_faultOf 3 (some .int) 2 := ⟨lw_in (i := 352) (by decide +kernel) rfl, lw_in (i := 60) (by decide +kernel) rfl, lw_in (i := 351) (by decide +kernel) rfl, ⟨by decide +kernel, by decide +kernel, by decide +kernel⟩⟩
theorem miX8_lengthWithoutFault : MiS yX8_lengthWithoutFault cX8_lengthWithoutFault 2 (some .int) 2 := ⟨lw_in (i := 387) (by decide +kernel) rfl, lw_in (i := 60) (by decide +kernel) rfl, lw_in (i := 386) (by decide +kernel) rfl, ⟨by decide +kernel, by decide +kernel, by decide +kernel⟩⟩
theorem miX8_freshen : MiV 8 yX8_freshen cX8_freshen 4 none 0 := ⟨⟨_, _, rfl⟩, lw_in (i := 384) (by decide +kernel) rfl, lw_in (i := 60) (by decide +kernel) rfl, lw_in (i := 383) (by decide +kernel) rfl, lw_in (i := 1) (by decide +kernel) rfl, ⟨by decide +kernel, by decide +kernel, by decide +kernel⟩⟩
theorem miX8_freshenPlan : MiV 8 yX8_freshenPlan cX8_freshenPlan 1 none 0 := ⟨⟨_, _, rfl⟩, lw_in (i := 545) (by decide +kernel) rfl, lw_in (i := 60) (by decide +kernel) rfl, lw_in (i := 544) (by decide +kernel) rfl, lw_in (i := 8) (by decide +kernel) rfl, ⟨by decide +kernel, by decide +kernel, by decide +kernel⟩⟩
theorem miX8_isNumberOfCrossings : MiV 8 yX8_isNumberOfCrossings cX8_isNumberOfCrossings 2 (some .boolean) 1 := ⟨⟨_, _, rfl⟩, lw_in (i := 496) (by decide +kernel) rfl, lw_in (i := 60) (by decide +kernel) rfl, lw_in (i := 495) (by decide +kernel) rfl, lw_in (i := 4) (by decide +kernel) rfl, ⟨by decide +kernel, by decide +kernel, by decide +kernel⟩⟩
theorem miX8_gapBehindAll : MiV 8 yX8_gapBehindAll cX8_gapBehindAll 1 (some .int) 0 := ⟨⟨_, _, rfl⟩, lw_in (i := 592) (by decide +kernel) rfl, lw_in (i := 60) (by decide +kernel) rfl, lw_in (i := 591) (by decide +kernel) rfl, lw_in (i := 15) (by decide +kernel) rfl, ⟨by decide +kernel, by decide +kernel, by decide +kernel⟩⟩
theorem miX8_outcomeOfCrossing : MiV 8 yX8_outcomeOfCrossing cX8_outcomeOfCrossing 2 (some .int) 1 := ⟨⟨_, _, rfl⟩, lw_in (i := 517) (by decide +kernel) rfl, lw_in (i := 60) (by decide +kernel) rfl, lw_in (i := 516) (by decide +kernel) rfl, lw_in (i := 5) (by decide +kernel) rfl, ⟨by decide +kernel, by decide +kernel, by decide +kernel⟩⟩
theorem miX8_tollsBehind : MiV 8 yX8_tollsBehind cX8_tollsBehind 4 (some .int) 1 := ⟨⟨_, _, rfl⟩, lw_in (i := 525) (by decide +kernel) rfl, lw_in (i := 60) (by decide +kernel) rfl, lw_in (i := 524) (by decide +kernel) rfl, lw_in (i := 6) (by decide +kernel) rfl, ⟨by decide +kernel, by decide +kernel, by decide +kernel⟩⟩
theorem miX8_countVisits : MiV 8 yX8_countVisits cX8_countVisits 2 none 0 := ⟨⟨_, _, rfl⟩, lw_in (i := 537) (by decide +kernel) rfl, lw_in (i := 60) (by decide +kernel) rfl, lw_in (i := 536) (by decide +kernel) rfl, lw_in (i := 7) (by decide +kernel) rfl, ⟨by decide +kernel, by decide +kernel, by decide +kernel⟩⟩
theorem miX8_comesOutAsSeen : MiV 8 yX8_comesOutAsSeen cX8_comesOutAsSeen 3 (some .boolean) 2 := ⟨⟨_, _, rfl⟩, lw_in (i := 649) (by decide +kernel) rfl, lw_in (i := 60) (by decide +kernel) rfl, lw_in (i := 648) (by decide +kernel) rfl, lw_in (i := 18) (by decide +kernel) rfl, ⟨by decide +kernel, by decide +kernel, by decide +kernel⟩⟩
theorem miX8_spreadChances : MiV 8 yX8_spreadChances cX8_spreadChances 3 none 1 := ⟨⟨_, _, rfl⟩, lw_in (i := 670) (by decide +kernel) rfl, lw_in (i := 60) (by decide +kernel) rfl, lw_in (i := 669) (by decide +kernel) rfl, lw_in (i := 19) (by decide +kernel) rfl, ⟨by decide +kernel, by decide +kernel, by decide +kernel⟩⟩
theorem miX8_spreadOver : MiV 8 yX8_spreadOver cX8_spreadOver 5 none 2 := ⟨⟨_, _, rfl⟩, lw_in (i := 674) (by decide +kernel) rfl, lw_in (i := 60) (by decide +kernel) rfl, lw_in (i := 673) (by decide +kernel) rfl, lw_in (i := 20) (by decide +kernel) rfl, ⟨by decide +kernel, by decide +kernel, by decide +kernel⟩⟩
theorem miX8_sheetAt : MiV 8 yX8_sheetAt cX8_sheetAt 2 (some (.object "MiddlePlank$Sheet")) 1 := ⟨⟨_, _, rfl⟩, lw_in (i := 626) (by decide +kernel) rfl, lw_in (i := 60) (by decide +kernel) rfl, lw_in (i := 625) (by decide +kernel) rfl, lw_in (i := 16) (by decide +kernel) rfl, ⟨by decide +kernel, by decide +kernel, by decide +kernel⟩⟩
theorem miX8_finding : MiV 8 yX8_finding cX8_finding 2 (some .int) 1 := ⟨⟨_, _, rfl⟩, lw_in (i := 630) (by decide +kernel) rfl, lw_in (i := 60) (by decide +kernel) rfl, lw_in (i := 629) (by decide +kernel) rfl, lw_in (i := 17) (by decide +kernel) rfl, ⟨by decide +kernel, by decide +kernel, by decide +kernel⟩⟩
theorem miX9_in : MiS yX9_in cX9_in 6 (some .boolean) 3 := ⟨lw_in (i := 875) (by decide +kernel) rfl, lw_in (i := 70) (by decide +kernel) rfl, lw_in (i := 874) (by decide +kernel) rfl, ⟨by decide +kernel, by decide +kernel, by decide +kernel⟩⟩
theorem miX9_no : MiS yX9_no cX9_no 1 (some .long) 1 := ⟨lw_in (i := 1157) (by decide +kernel) rfl, lw_in (i := 70) (by decide +kernel) rfl, lw_in (i := 1156) (by decide +kernel) rfl, ⟨by decide +kernel, by decide +kernel, by decide +kernel⟩⟩
theorem miX9_isTwo : MiS yX9_isTwo cX9_isTwo 1 (some .boolean) 1 := ⟨lw_in (i := 976) (by decide +kernel) rfl, lw_in (i := 70) (by decide +kernel) rfl, lw_in (i := 975) (by decide +kernel) rfl, ⟨by decide +kernel, by decide +kernel, by decide +kernel⟩⟩
theorem miX9_isIn : MiS yX9_isIn cX9_isIn 2 (some .boolean) 2 := ⟨lw_in (i := 1001) (by decide +kernel) rfl, lw_in (i := 70) (by decide +kernel) rfl, lw_in (i := 1000) (by decide +kernel) rfl, ⟨by decide +kernel, by decide +kernel, by decide +kernel⟩⟩
theorem miX9_lesser : MiS yX9_lesser cX9_lesser 2 (some .int) 2 := ⟨lw_in (i := 1179) (by decide +kernel) rfl, lw_in (i := 70) (by decide +kernel) rfl, lw_in (i := 1178) (by decide +kernel) rfl, ⟨by decide +kernel, by decide +kernel, by decide +kernel⟩⟩
theorem miX9_greater : MiS yX9_greater cX9_greater 2 (some .int) 2 := ⟨lw_in (i := 1016) (by decide +kernel) rfl, lw_in (i := 70) (by decide +kernel) rfl, lw_in (i := 1015) (by decide +kernel) rfl, ⟨by decide +kernel, by decide +kernel, by decide +kernel⟩⟩
theorem miX9_part : MiS yX9_part cX9_part 11 (some .long) 3 := ⟨lw_in (i := 1154) (by decide +kernel) rfl, lw_in (i := 70) (by decide +kernel) rfl, lw_in (i := 1153) (by decide +kernel) rfl, ⟨by decide +kernel, by decide +kernel, by decide +kernel⟩⟩
theorem miX9_finds : MiV 9 yX9_finds cX9_finds 2 (some .int) 1 := ⟨⟨_, _, rfl⟩, lw_in (i := 880) (by decide +kernel) rfl, lw_in (i := 70) (by decide +kernel) rfl, lw_in (i := 879) (by decide +kernel) rfl, lw_in (i := 25) (by decide +kernel) rfl, ⟨by decide +kernel, by decide +kernel, by decide +kernel⟩⟩
theorem miX9_isSheet : MiS yX9_isSheet cX9_isSheet 1 (some .boolean) 1 := ⟨lw_in (i := 871) (by decide +kernel) rfl, lw_in (i := 70) (by decide +kernel) rfl, lw_in (i := 870) (by decide +kernel) rfl, ⟨by decide +kernel, by decide +kernel, by decide +kernel⟩⟩
theorem miX9_sheet : MiV 9 yX9_sheet cX9_sheet 5 (some .int) 3 := ⟨⟨_, _, rfl⟩, lw_in (i := 868) (by decide +kernel) rfl, lw_in (i := 70) (by decide +kernel) rfl, lw_in (i := 866) (by decide +kernel) rfl, lw_in (i := 867) (by decide +kernel) rfl, ⟨by decide +kernel, by decide +kernel, by decide +kernel⟩⟩
theorem miX9_lose : MiV 9 yX9_lose cX9_lose 2 (some .int) 1 := ⟨⟨_, _, rfl⟩, lw_in (i := 884) (by decide +kernel) rfl, lw_in (i := 70) (by decide +kernel) rfl, lw_in (i := 882) (by decide +kernel) rfl, lw_in (i := 883) (by decide +kernel) rfl, ⟨by decide +kernel, by decide +kernel, by decide +kernel⟩⟩
theorem miX9_lacks : MiV 9 yX9_lacks cX9_lacks 4 (some .int) 3 := ⟨⟨_, _, rfl⟩, lw_in (i := 892) (by decide +kernel) rfl, lw_in (i := 70) (by decide +kernel) rfl, lw_in (i := 891) (by decide +kernel) rfl, lw_in (i := 26) (by decide +kernel) rfl, ⟨by decide +kernel, by decide +kernel, by decide +kernel⟩⟩
theorem miX9_cut : MiS yX9_cut cX9_cut 2 (some .int) 2 := ⟨lw_in (i := 895) (by decide +kernel) rfl, lw_in (i := 70) (by decide +kernel) rfl, lw_in (i := 894) (by decide +kernel) rfl, ⟨by decide +kernel, by decide +kernel, by decide +kernel⟩⟩
theorem miX9_lay : MiV 9 yX9_lay cX9_lay 6 (some .int) 4 := ⟨⟨_, _, rfl⟩, lw_in (i := 888) (by decide +kernel) rfl, lw_in (i := 70) (by decide +kernel) rfl, lw_in (i := 886) (by decide +kernel) rfl, lw_in (i := 887) (by decide +kernel) rfl, ⟨by decide +kernel, by decide +kernel, by decide +kernel⟩⟩
theorem miX9_get : MiV 9 yX9_get cX9_get 4 (some .int) 3 := ⟨⟨_, _, rfl⟩, lw_in (i := 899) (by decide +kernel) rfl, lw_in (i := 70) (by decide +kernel) rfl, lw_in (i := 897) (by decide +kernel) rfl, lw_in (i := 898) (by decide +kernel) rfl, ⟨by decide +kernel, by decide +kernel, by decide +kernel⟩⟩
theorem miX9_copy : MiV 9 yX9_copy cX9_copy 7 (some .int) 5 := ⟨⟨_, _, rfl⟩, lw_in (i := 904) (by decide +kernel) rfl, lw_in (i := 70) (by decide +kernel) rfl, lw_in (i := 902) (by decide +kernel) rfl, lw_in (i := 903) (by decide +kernel) rfl, ⟨by decide +kernel, by decide +kernel, by decide +kernel⟩⟩
theorem miX9_isText : MiS yX9_isText cX9_isText 1 (some .boolean) 1 := ⟨lw_in (i := 911) (by decide +kernel) rfl, lw_in (i := 70) (by decide +kernel) rfl, lw_in (i := 910) (by decide +kernel) rfl, ⟨by decide +kernel, by decide +kernel, by decide +kernel⟩⟩
theorem miX9_type : MiV 9 yX9_type cX9_type 3 (some .int) 2 := ⟨⟨_, _, rfl⟩, lw_in (i := 908) (by decide +kernel) rfl, lw_in (i := 70) (by decide +kernel) rfl, lw_in (i := 906) (by decide +kernel) rfl, lw_in (i := 907) (by decide +kernel) rfl, ⟨by decide +kernel, by decide +kernel, by decide +kernel⟩⟩
theorem miX9_wipe : MiV 9 yX9_wipe cX9_wipe 3 (some .int) 1 := ⟨⟨_, _, rfl⟩, lw_in (i := 916) (by decide +kernel) rfl, lw_in (i := 70) (by decide +kernel) rfl, lw_in (i := 914) (by decide +kernel) rfl, lw_in (i := 915) (by decide +kernel) rfl, ⟨by decide +kernel, by decide +kernel, by decide +kernel⟩⟩
theorem miX9_undo : MiV 9 yX9_undo cX9_undo 2 (some .int) 1 := ⟨⟨_, _, rfl⟩, lw_in (i := 920) (by decide +kernel) rfl, lw_in (i := 70) (by decide +kernel) rfl, lw_in (i := 918) (by decide +kernel) rfl, lw_in (i := 919) (by decide +kernel) rfl, ⟨by decide +kernel, by decide +kernel, by decide +kernel⟩⟩
theorem miX9_readsPlanks : MiV 9 yX9_readsPlanks cX9_readsPlanks 3 (some .int) 0 := ⟨⟨_, _, rfl⟩, lw_in (i := 932) (by decide +kernel) rfl, lw_in (i := 70) (by decide +kernel) rfl, lw_in (i := 931) (by decide +kernel) rfl, lw_in (i := 28) (by decide +kernel) rfl, ⟨by decide +kernel, by decide +kernel, by decide +kernel⟩⟩
theorem miX9_kindOf : MiS yX9_kindOf cX9_kindOf 1 (some .int) 1 := ⟨lw_in (i := 942) (by decide +kernel) rfl, lw_in (i := 70) (by decide +kernel) rfl, lw_in (i := 941) (by decide +kernel) rfl, ⟨by decide +kernel, by decide +kernel, by decide +kernel⟩⟩
theorem miX9_crosserOf : MiS yX9_crosserOf cX9_crosserOf 2 (some .int) 2 := ⟨lw_in (i := 939) (by decide +kernel) rfl, lw_in (i := 70) (by decide +kernel) rfl, lw_in (i := 938) (by decide +kernel) rfl, ⟨by decide +kernel, by decide +kernel, by decide +kernel⟩⟩
theorem miX9_readsCrossers : MiV 9 yX9_readsCrossers cX9_readsCrossers 5 (some .int) 0 := ⟨⟨_, _, rfl⟩, lw_in (i := 936) (by decide +kernel) rfl, lw_in (i := 70) (by decide +kernel) rfl, lw_in (i := 935) (by decide +kernel) rfl, lw_in (i := 29) (by decide +kernel) rfl, ⟨by decide +kernel, by decide +kernel, by decide +kernel⟩⟩
theorem miX9_readsCrossings : MiV 9 yX9_readsCrossings cX9_readsCrossings 3 (some .int) 0 := ⟨⟨_, _, rfl⟩, lw_in (i := 949) (by decide +kernel) rfl, lw_in (i := 70) (by decide +kernel) rfl, lw_in (i := 948) (by decide +kernel) rfl, lw_in (i := 30) (by decide +kernel) rfl, ⟨by decide +kernel, by decide +kernel, by decide +kernel⟩⟩
theorem miX9_readsText : MiV 9 yX9_readsText cX9_readsText 2 (some .int) 1 := ⟨⟨_, _, rfl⟩, lw_in (i := 928) (by decide +kernel) rfl, lw_in (i := 70) (by decide +kernel) rfl, lw_in (i := 927) (by decide +kernel) rfl, lw_in (i := 27) (by decide +kernel) rfl, ⟨by decide +kernel, by decide +kernel, by decide +kernel⟩⟩
theorem miX9_fault : MiV 9 yX9_fault cX9_fault 2 (some .int) 1 := ⟨⟨_, _, rfl⟩, lw_in (i := 924) (by decide +kernel) rfl, lw_in (i := 70) (by decide +kernel) rfl, lw_in (i := 922) (by decide +kernel) rfl, lw_in (i := 923) (by decide +kernel) rfl, ⟨by decide +kernel, by decide +kernel, by decide +kernel⟩⟩
theorem miX9_isCrosser : MiV 9 yX9_isCrosser cX9_isCrosser 2 (some .boolean) 1 := ⟨⟨_, _, rfl⟩, lw_in (i := 964) (by decide +kernel) rfl, lw_in (i := 70) (by decide +kernel) rfl, lw_in (i := 963) (by decide +kernel) rfl, lw_in (i := 31) (by decide +kernel) rfl, ⟨by decide +kernel, by decide +kernel, by decide +kernel⟩⟩
theorem miX9_plank : MiV 9 yX9_plank cX9_plank 2 (some .int) 1 := ⟨⟨_, _, rfl⟩, lw_in (i := 955) (by decide +kernel) rfl, lw_in (i := 70) (by decide +kernel) rfl, lw_in (i := 953) (by decide +kernel) rfl, lw_in (i := 954) (by decide +kernel) rfl, ⟨by decide +kernel, by decide +kernel, by decide +kernel⟩⟩
theorem miX9_crosser : MiV 9 yX9_crosser cX9_crosser 3 (some .int) 2 := ⟨⟨_, _, rfl⟩, lw_in (i := 960) (by decide +kernel) rfl, lw_in (i := 70) (by decide +kernel) rfl, lw_in (i := 958) (by decide +kernel) rfl, lw_in (i := 959) (by decide +kernel) rfl, ⟨by decide +kernel, by decide +kernel, by decide +kernel⟩⟩
theorem miX9_crossing : MiV 9 yX9_crossing cX9_crossing 2 (some .int) 1 := ⟨⟨_, _, rfl⟩, lw_in (i := 968) (by decide +kernel) rfl, lw_in (i := 70) (by decide +kernel) rfl, lw_in (i := 966) (by decide +kernel) rfl, lw_in (i := 967) (by decide +kernel) rfl, ⟨by decide +kernel, by decide +kernel, by decide +kernel⟩⟩
theorem miX9_set : MiV 9 yX9_set cX9_set 4 (some .int) 2 := ⟨⟨_, _, rfl⟩, lw_in (i := 973) (by decide +kernel) rfl, lw_in (i := 70) (by decide +kernel) rfl, lw_in (i := 971) (by decide +kernel) rfl, lw_in (i := 972) (by decide +kernel) rfl, ⟨by decide +kernel, by decide +kernel, by decide +kernel⟩⟩
theorem miX9_shift : MiV 9 yX9_shift cX9_shift 4 (some .int) 2 := ⟨⟨_, _, rfl⟩, lw_in (i := 981) (by decide +kernel) rfl, lw_in (i := 70) (by decide +kernel) rfl, lw_in (i := 979) (by decide +kernel) rfl, lw_in (i := 980) (by decide +kernel) rfl, ⟨by decide +kernel, by decide +kernel, by decide +kernel⟩⟩
theorem miX9_isHole : MiV 9 yX9_isHole cX9_isHole 4 (some .boolean) 2 := ⟨⟨_, _, rfl⟩, lw_in (i := 1013) (by decide +kernel) rfl, lw_in (i := 70) (by decide +kernel) rfl, lw_in (i := 1012) (by decide +kernel) rfl, lw_in (i := 37) (by decide +kernel) rfl, ⟨by decide +kernel, by decide +kernel, by decide +kernel⟩⟩
theorem miX9_looks : MiV 9 yX9_looks cX9_looks 5 none 1 := ⟨⟨_, _, rfl⟩, lw_in (i := 1009) (by decide +kernel) rfl, lw_in (i := 70) (by decide +kernel) rfl, lw_in (i := 1008) (by decide +kernel) rfl, lw_in (i := 36) (by decide +kernel) rfl, ⟨by decide +kernel, by decide +kernel, by decide +kernel⟩⟩
theorem miX9_moves : MiV 9 yX9_moves cX9_moves 3 (some .int) 1 := ⟨⟨_, _, rfl⟩, lw_in (i := 1020) (by decide +kernel) rfl, lw_in (i := 70) (by decide +kernel) rfl, lw_in (i := 1019) (by decide +kernel) rfl, lw_in (i := 38) (by decide +kernel) rfl, ⟨by decide +kernel, by decide +kernel, by decide +kernel⟩⟩
theorem miX9_tries : MiV 9 yX9_tries cX9_tries 2 (some .int) 1 := ⟨⟨_, _, rfl⟩, lw_in (i := 1005) (by decide +kernel) rfl, lw_in (i := 70) (by decide +kernel) rfl, lw_in (i := 1004) (by decide +kernel) rfl, lw_in (i := 35) (by decide +kernel) rfl, ⟨by decide +kernel, by decide +kernel, by decide +kernel⟩⟩
theorem miX9_tollOf : MiV 9 yX9_tollOf cX9_tollOf 3 (some .int) 2 := ⟨⟨_, _, rfl⟩, lw_in (i := 1024) (by decide +kernel) rfl, lw_in (i := 70) (by decide +kernel) rfl, lw_in (i := 1023) (by decide +kernel) rfl, lw_in (i := 39) (by decide +kernel) rfl, ⟨by decide +kernel, by decide +kernel, by decide +kernel⟩⟩
theorem miX9_begins : MiV 9 yX9_begins cX9_begins 1 none 0 := ⟨⟨_, _, rfl⟩, lw_in (i := 998) (by decide +kernel) rfl, lw_in (i := 70) (by decide +kernel) rfl, lw_in (i := 997) (by decide +kernel) rfl, lw_in (i := 34) (by decide +kernel) rfl, ⟨by decide +kernel, by decide +kernel, by decide +kernel⟩⟩
theorem miX9_lives : MiV 9 yX9_lives cX9_lives 3 none 0 := ⟨⟨_, _, rfl⟩, lw_in (i := 994) (by decide +kernel) rfl, lw_in (i := 70) (by decide +kernel) rfl, lw_in (i := 993) (by decide +kernel) rfl, lw_in (i := 33) (by decide +kernel) rfl, ⟨by decide +kernel, by decide +kernel, by decide +kernel⟩⟩
theorem miX9_find : MiV 9 yX9_find cX9_find 1 none 0 := ⟨⟨_, _, rfl⟩, lw_in (i := 990) (by decide +kernel) rfl, lw_in (i := 70) (by decide +kernel) rfl, lw_in (i := 989) (by decide +kernel) rfl, lw_in (i := 32) (by decide +kernel) rfl, ⟨by decide +kernel, by decide +kernel, by decide +kernel⟩⟩
theorem miX9_gap : MiV 9 yX9_gap cX9_gap 2 (some .int) 1 := ⟨⟨_, _, rfl⟩, lw_in (i := 986) (by decide +kernel) rfl, lw_in (i := 70) (by decide +kernel) rfl, lw_in (i := 984) (by decide +kernel) rfl, lw_in (i := 985) (by decide +kernel) rfl, ⟨by decide +kernel, by decide +kernel, by decide +kernel⟩⟩
theorem miX9_comesBy : MiV 9 yX9_comesBy cX9_comesBy 3 (some .int) 2 := ⟨⟨_, _, rfl⟩, lw_in (i := 1032) (by decide +kernel) rfl, lw_in (i := 70) (by decide +kernel) rfl, lw_in (i := 1031) (by decide +kernel) rfl, lw_in (i := 40) (by decide +kernel) rfl, ⟨by decide +kernel, by decide +kernel, by decide +kernel⟩⟩
theorem miX9_comes : MiV 9 yX9_comes cX9_comes 3 (some .int) 2 := ⟨⟨_, _, rfl⟩, lw_in (i := 1028) (by decide +kernel) rfl, lw_in (i := 70) (by decide +kernel) rfl, lw_in (i := 1026) (by decide +kernel) rfl, lw_in (i := 1027) (by decide +kernel) rfl, ⟨by decide +kernel, by decide +kernel, by decide +kernel⟩⟩
theorem miX9_timesBy : MiV 9 yX9_timesBy cX9_timesBy 5 (some .int) 2 := ⟨⟨_, _, rfl⟩, lw_in (i := 1040) (by decide +kernel) rfl, lw_in (i := 70) (by decide +kernel) rfl, lw_in (i := 1039) (by decide +kernel) rfl, lw_in (i := 41) (by decide +kernel) rfl, ⟨by decide +kernel, by decide +kernel, by decide +kernel⟩⟩
theorem miX9_times : MiV 9 yX9_times cX9_times 3 (some .int) 2 := ⟨⟨_, _, rfl⟩, lw_in (i := 1036) (by decide +kernel) rfl, lw_in (i := 70) (by decide +kernel) rfl, lw_in (i := 1034) (by decide +kernel) rfl, lw_in (i := 1035) (by decide +kernel) rfl, ⟨by decide +kernel, by decide +kernel, by decide +kernel⟩⟩
theorem miX9_takenBy : MiV 9 yX9_takenBy cX9_takenBy 4 (some .int) 1 := ⟨⟨_, _, rfl⟩, lw_in (i := 1048) (by decide +kernel) rfl, lw_in (i := 70) (by decide +kernel) rfl, lw_in (i := 1047) (by decide +kernel) rfl, lw_in (i := 42) (by decide +kernel) rfl, ⟨by decide +kernel, by decide +kernel, by decide +kernel⟩⟩
theorem miX9_taken : MiV 9 yX9_taken cX9_taken 2 (some .int) 1 := ⟨⟨_, _, rfl⟩, lw_in (i := 1044) (by decide +kernel) rfl, lw_in (i := 70) (by decide +kernel) rfl, lw_in (i := 1042) (by decide +kernel) rfl, lw_in (i := 1043) (by decide +kernel) rfl, ⟨by decide +kernel, by decide +kernel, by decide +kernel⟩⟩
theorem miX9_stuckNow : MiV 9 yX9_stuckNow cX9_stuckNow 2 (some .int) 0 := ⟨⟨_, _, rfl⟩, lw_in (i := 1056) (by decide +kernel) rfl, lw_in (i := 70) (by decide +kernel) rfl, lw_in (i := 1055) (by decide +kernel) rfl, lw_in (i := 43) (by decide +kernel) rfl, ⟨by decide +kernel, by decide +kernel, by decide +kernel⟩⟩
theorem miX9_stuck : MiV 9 yX9_stuck cX9_stuck 1 (some .int) 0 := ⟨⟨_, _, rfl⟩, lw_in (i := 1052) (by decide +kernel) rfl, lw_in (i := 70) (by decide +kernel) rfl, lw_in (i := 1050) (by decide +kernel) rfl, lw_in (i := 1051) (by decide +kernel) rfl, ⟨by decide +kernel, by decide +kernel, by decide +kernel⟩⟩
theorem miX9_wornNow : MiV 9 yX9_wornNow cX9_wornNow 6 (some .int) 0 := ⟨⟨_, _, rfl⟩, lw_in (i := 1064) (by decide +kernel) rfl, lw_in (i := 70) (by decide +kernel) rfl, lw_in (i := 1063) (by decide +kernel) rfl, lw_in (i := 44) (by decide +kernel) rfl, ⟨by decide +kernel, by decide +kernel, by decide +kernel⟩⟩
theorem miX9_worn : MiV 9 yX9_worn cX9_worn 1 (some .int) 0 := ⟨⟨_, _, rfl⟩, lw_in (i := 1060) (by decide +kernel) rfl, lw_in (i := 70) (by decide +kernel) rfl, lw_in (i := 1058) (by decide +kernel) rfl, lw_in (i := 1059) (by decide +kernel) rfl, ⟨by decide +kernel, by decide +kernel, by decide +kernel⟩⟩
theorem miX9_nextRow : MiV 9 yX9_nextRow cX9_nextRow 6 (some .boolean) 0 := ⟨⟨_, _, rfl⟩, lw_in (i := 1080) (by decide +kernel) rfl, lw_in (i := 70) (by decide +kernel) rfl, lw_in (i := 1079) (by decide +kernel) rfl, lw_in (i := 47) (by decide +kernel) rfl, ⟨by decide +kernel, by decide +kernel, by decide +kernel⟩⟩
theorem miX9_weighs : MiV 9 yX9_weighs cX9_weighs 5 none 0 := ⟨⟨_, _, rfl⟩, lw_in (i := 1076) (by decide +kernel) rfl, lw_in (i := 70) (by decide +kernel) rfl, lw_in (i := 1075) (by decide +kernel) rfl, lw_in (i := 46) (by decide +kernel) rfl, ⟨by decide +kernel, by decide +kernel, by decide +kernel⟩⟩
theorem miX9_findOrder : MiV 9 yX9_findOrder cX9_findOrder 2 none 0 := ⟨⟨_, _, rfl⟩, lw_in (i := 1072) (by decide +kernel) rfl, lw_in (i := 70) (by decide +kernel) rfl, lw_in (i := 1071) (by decide +kernel) rfl, lw_in (i := 45) (by decide +kernel) rfl, ⟨by decide +kernel, by decide +kernel, by decide +kernel⟩⟩
theorem miX9_orderBy : MiV 9 yX9_orderBy cX9_orderBy 2 (some .int) 1 := ⟨⟨_, _, rfl⟩, lw_in (i := 1084) (by decide +kernel) rfl, lw_in (i := 70) (by decide +kernel) rfl, lw_in (i := 1083) (by decide +kernel) rfl, lw_in (i := 48) (by decide +kernel) rfl, ⟨by decide +kernel, by decide +kernel, by decide +kernel⟩⟩
theorem miX9_order : MiV 9 yX9_order cX9_order 2 (some .int) 1 := ⟨⟨_, _, rfl⟩, lw_in (i := 1068) (by decide +kernel) rfl, lw_in (i := 70) (by decide +kernel) rfl, lw_in (i := 1066) (by decide +kernel) rfl, lw_in (i := 1067) (by decide +kernel) rfl, ⟨by decide +kernel, by decide +kernel, by decide +kernel⟩⟩
theorem miX9_aheadOf : MiV 9 yX9_aheadOf cX9_aheadOf 4 (some .int) 1 := ⟨⟨_, _, rfl⟩, lw_in (i := 1092) (by decide +kernel) rfl, lw_in (i := 70) (by decide +kernel) rfl, lw_in (i := 1091) (by decide +kernel) rfl, lw_in (i := 49) (by decide +kernel) rfl, ⟨by decide +kernel, by decide +kernel, by decide +kernel⟩⟩
theorem miX9_ahead : MiV 9 yX9_ahead cX9_ahead 2 (some .int) 1 := ⟨⟨_, _, rfl⟩, lw_in (i := 1088) (by decide +kernel) rfl, lw_in (i := 70) (by decide +kernel) rfl, lw_in (i := 1086) (by decide +kernel) rfl, lw_in (i := 1087) (by decide +kernel) rfl, ⟨by decide +kernel, by decide +kernel, by decide +kernel⟩⟩
theorem miX9_oftenOf : MiV 9 yX9_oftenOf cX9_oftenOf 5 (some .int) 2 := ⟨⟨_, _, rfl⟩, lw_in (i := 1100) (by decide +kernel) rfl, lw_in (i := 70) (by decide +kernel) rfl, lw_in (i := 1099) (by decide +kernel) rfl, lw_in (i := 50) (by decide +kernel) rfl, ⟨by decide +kernel, by decide +kernel, by decide +kernel⟩⟩
theorem miX9_often : MiV 9 yX9_often cX9_often 3 (some .int) 2 := ⟨⟨_, _, rfl⟩, lw_in (i := 1096) (by decide +kernel) rfl, lw_in (i := 70) (by decide +kernel) rfl, lw_in (i := 1094) (by decide +kernel) rfl, lw_in (i := 1095) (by decide +kernel) rfl, ⟨by decide +kernel, by decide +kernel, by decide +kernel⟩⟩
theorem miX9_seen : MiV 9 yX9_seen cX9_seen 3 (some .int) 2 := ⟨⟨_, _, rfl⟩, lw_in (i := 1104) (by decide +kernel) rfl, lw_in (i := 70) (by decide +kernel) rfl, lw_in (i := 1102) (by decide +kernel) rfl, lw_in (i := 1103) (by decide +kernel) rfl, ⟨by decide +kernel, by decide +kernel, by decide +kernel⟩⟩
theorem miX9_forget : MiV 9 yX9_forget cX9_forget 2 (some .int) 0 := ⟨⟨_, _, rfl⟩, lw_in (i := 1109) (by decide +kernel) rfl, lw_in (i := 70) (by decide +kernel) rfl, lw_in (i := 1107) (by decide +kernel) rfl, lw_in (i := 1108) (by decide +kernel) rfl, ⟨by decide +kernel, by decide +kernel, by decide +kernel⟩⟩
theorem miX9_read : MiV 9 yX9_read cX9_read 4 (some .int) 1 := ⟨⟨_, _, rfl⟩, lw_in (i := 1113) (by decide +kernel) rfl, lw_in (i := 70) (by decide +kernel) rfl, lw_in (i := 1111) (by decide +kernel) rfl, lw_in (i := 1112) (by decide +kernel) rfl, ⟨by decide +kernel, by decide +kernel, by decide +kernel⟩⟩
theorem miX9_isSeen : MiV 9 yX9_isSeen cX9_isSeen 3 (some .boolean) 0 := ⟨⟨_, _, rfl⟩, lw_in (i := 1126) (by decide +kernel) rfl, lw_in (i := 70) (by decide +kernel) rfl, lw_in (i := 1125) (by decide +kernel) rfl, lw_in (i := 52) (by decide +kernel) rfl, ⟨by decide +kernel, by decide +kernel, by decide +kernel⟩⟩
theorem miX9_ruleOf : MiV 9 yX9_ruleOf cX9_ruleOf 5 (some .int) 1 := ⟨⟨_, _, rfl⟩, lw_in (i := 1122) (by decide +kernel) rfl, lw_in (i := 70) (by decide +kernel) rfl, lw_in (i := 1121) (by decide +kernel) rfl, lw_in (i := 51) (by decide +kernel) rfl, ⟨by decide +kernel, by decide +kernel, by decide +kernel⟩⟩
theorem miX9_rule : MiV 9 yX9_rule cX9_rule 2 (some .int) 1 := ⟨⟨_, _, rfl⟩, lw_in (i := 1118) (by decide +kernel) rfl, lw_in (i := 70) (by decide +kernel) rfl, lw_in (i := 1116) (by decide +kernel) rfl, lw_in (i := 1117) (by decide +kernel) rfl, ⟨by decide +kernel, by decide +kernel, by decide +kernel⟩⟩
theorem miX9_beganNow : MiV 9 yX9_beganNow cX9_beganNow 4 (some .int) 0 := ⟨⟨_, _, rfl⟩, lw_in (i := 1134) (by decide +kernel) rfl, lw_in (i := 70) (by decide +kernel) rfl, lw_in (i := 1133) (by decide +kernel) rfl, lw_in (i := 53) (by decide +kernel) rfl, ⟨by decide +kernel, by decide +kernel, by decide +kernel⟩⟩
theorem miX9_began : MiV 9 yX9_began cX9_began 1 (some .int) 0 := ⟨⟨_, _, rfl⟩, lw_in (i := 1130) (by decide +kernel) rfl, lw_in (i := 70) (by decide +kernel) rfl, lw_in (i := 1128) (by decide +kernel) rfl, lw_in (i := 1129) (by decide +kernel) rfl, ⟨by decide +kernel, by decide +kernel, by decide +kernel⟩⟩
theorem miX9_askNow : MiV 9 yX9_askNow cX9_askNow 8 (some .int) 0 := ⟨⟨_, _, rfl⟩, lw_in (i := 1142) (by decide +kernel) rfl, lw_in (i := 70) (by decide +kernel) rfl, lw_in (i := 1141) (by decide +kernel) rfl, lw_in (i := 54) (by decide +kernel) rfl, ⟨by decide +kernel, by decide +kernel, by decide +kernel⟩⟩
theorem miX9_ask : MiV 9 yX9_ask cX9_ask 1 (some .int) 0 := ⟨⟨_, _, rfl⟩, lw_in (i := 1138) (by decide +kernel) rfl, lw_in (i := 70) (by decide +kernel) rfl, lw_in (i := 1136) (by decide +kernel) rfl, lw_in (i := 1137) (by decide +kernel) rfl, ⟨by decide +kernel, by decide +kernel, by decide +kernel⟩⟩
theorem miX9_maybeOf : MiV 9 yX9_maybeOf cX9_maybeOf 10 (some .long) 3 := ⟨⟨_, _, rfl⟩, lw_in (i := 1151) (by decide +kernel) rfl, lw_in (i := 70) (by decide +kernel) rfl, lw_in (i := 1150) (by decide +kernel) rfl, lw_in (i := 55) (by decide +kernel) rfl, ⟨by decide +kernel, by decide +kernel, by decide +kernel⟩⟩
theorem miX9_maybe : MiV 9 yX9_maybe cX9_maybe 4 (some .long) 3 := ⟨⟨_, _, rfl⟩, lw_in (i := 1146) (by decide +kernel) rfl, lw_in (i := 70) (by decide +kernel) rfl, lw_in (i := 1144) (by decide +kernel) rfl, lw_in (i := 1145) (by decide +kernel) rfl, ⟨by decide +kernel, by decide +kernel, by decide +kernel⟩⟩
theorem miX9_lot : MiV 9 yX9_lot cX9_lot 2 (some .int) 1 := ⟨⟨_, _, rfl⟩, lw_in (i := 1171) (by decide +kernel) rfl, lw_in (i := 70) (by decide +kernel) rfl, lw_in (i := 1170) (by decide +kernel) rfl, lw_in (i := 57) (by decide +kernel) rfl, ⟨by decide +kernel, by decide +kernel, by decide +kernel⟩⟩
theorem miX9_weekOf : MiV 9 yX9_weekOf cX9_weekOf 6 (some .int) 3 := ⟨⟨_, _, rfl⟩, lw_in (i := 1167) (by decide +kernel) rfl, lw_in (i := 70) (by decide +kernel) rfl, lw_in (i := 1166) (by decide +kernel) rfl, lw_in (i := 56) (by decide +kernel) rfl, ⟨by decide +kernel, by decide +kernel, by decide +kernel⟩⟩
theorem miX9_week : MiV 9 yX9_week cX9_week 4 (some .int) 3 := ⟨⟨_, _, rfl⟩, lw_in (i := 1162) (by decide +kernel) rfl, lw_in (i := 70) (by decide +kernel) rfl, lw_in (i := 1160) (by decide +kernel) rfl, lw_in (i := 1161) (by decide +kernel) rfl, ⟨by decide +kernel, by decide +kernel, by decide +kernel⟩⟩
theorem miX9_write : MiV 9 yX9_write cX9_write 4 (some .int) 1 := ⟨⟨_, _, rfl⟩, lw_in (i := 1176) (by decide +kernel) rfl, lw_in (i := 70) (by decide +kernel) rfl, lw_in (i := 1174) (by decide +kernel) rfl, lw_in (i := 1175) (by decide +kernel) rfl, ⟨by decide +kernel, by decide +kernel, by decide +kernel⟩⟩
theorem miX9_count : MiV 9 yX9_count cX9_count 2 (some .int) 1 := ⟨⟨_, _, rfl⟩, lw_in (i := 1183) (by decide +kernel) rfl, lw_in (i := 70) (by decide +kernel) rfl, lw_in (i := 1181) (by decide +kernel) rfl, lw_in (i := 1182) (by decide +kernel) rfl, ⟨by decide +kernel, by decide +kernel, by decide +kernel⟩⟩
theorem miX9_tellsCrosser : MiV 9 yX9_tellsCrosser cX9_tellsCrosser 7 (some .long) 2 := ⟨⟨_, _, rfl⟩, lw_in (i := 1195) (by decide +kernel) rfl, lw_in (i := 70) (by decide +kernel) rfl, lw_in (i := 1194) (by decide +kernel) rfl, lw_in (i := 58) (by decide +kernel) rfl, ⟨by decide +kernel, by decide +kernel, by decide +kernel⟩⟩
theorem miX9_digest : MiV 9 yX9_digest cX9_digest 5 (some .long) 0 := ⟨⟨_, _, rfl⟩, lw_in (i := 1187) (by decide +kernel) rfl, lw_in (i := 70) (by decide +kernel) rfl, lw_in (i := 1185) (by decide +kernel) rfl, lw_in (i := 1186) (by decide +kernel) rfl, ⟨by decide +kernel, by decide +kernel, by decide +kernel⟩⟩
theorem miJ9_floorMod_7cf53 : MiS yJ9_floorMod_7cf53 cJ9_floorMod_7cf53 3 (some .int) 2 := ⟨lw_in (i := 460) (by decide +kernel) rfl, lw_in (i := 68) (by decide +kernel) rfl, lw_in (i := 459) (by decide +kernel) rfl, ⟨by decide +kernel, by decide +kernel, by decide +kernel⟩⟩
theorem miJ9_max_7cf53 : MiS yJ9_max_7cf53 cJ9_max_7cf53 2 (some .int) 2 := ⟨lw_in (i := 237) (by decide +kernel) rfl, lw_in (i := 68) (by decide +kernel) rfl, lw_in (i := 236) (by decide +kernel) rfl, ⟨by decide +kernel, by decide +kernel, by decide +kernel⟩⟩
theorem miJ9_min_7cf53 : MiS yJ9_min_7cf53 cJ9_min_7cf53 2 (some .int) 2 := ⟨lw_in (i := 394) (by decide +kernel) rfl, lw_in (i := 68) (by decide +kernel) rfl, lw_in (i := 393) (by decide +kernel) rfl, ⟨by decide +kernel, by decide +kernel, by decide +kernel⟩⟩
theorem kmX8_87 : LkM RX8 87 yX8_textAt := Or.inl (lw_in (i := 322) (by decide +kernel) rfl)
theorem kmX8_91 : LkM RX8 91 yX8_within := Or.inl (lw_in (i := 326) (by decide +kernel) rfl)
theorem kmX8_95 : LkM RX8 95 yX7_isFull := Or.inl (lw_in (i := 329) (by decide +kernel) rfl)
theorem kmX8_99 : LkM RX8 99 yX7_append := Or.inl (lw_in (i := 333) (by decide +kernel) rfl)
theorem kmX8_106 : LkM RX8 106 yX8_faultOf := Or.inl (lw_in (i := 350) (by decide +kernel) rfl)
theorem kmX8_110 : LkM RX8 110 yX8_freshen := Or.inl (lw_in (i := 381) (by decide +kernel) rfl)
theorem kmX8_113 : LkM RX8 113 yX0_hasPlank := Or.inl (lw_in (i := 461) (by decide +kernel) rfl)
theorem kmX8_117 : LkM RX8 117 yX0_isRotten := Or.inl (lw_in (i := 466) (by decide +kernel) rfl)
theorem kmX8_120 : LkM RX8 120 yX2_at := Or.inl (lw_in (i := 475) (by decide +kernel) rfl)
theorem kmX8_138 : LkM RX8 138 yX3_whoAt := Or.inl (lw_in (i := 480) (by decide +kernel) rfl)
theorem kmX8_151 : LkM RX8 151 yX8_isNumberOfCrossings := Or.inl (lw_in (i := 493) (by decide +kernel) rfl)
theorem kmX8_157 : LkM RX8 157 yX0_outcome := Or.inl (lw_in (i := 501) (by decide +kernel) rfl)
theorem kmX8_161 : LkM RX8 161 yX0_toll := Or.inl (lw_in (i := 502) (by decide +kernel) rfl)
theorem kmX8_164 : LkM RX8 164 yX0_longestRow := Or.inl (lw_in (i := 506) (by decide +kernel) rfl)
theorem kmX8_167 : LkM RX8 167 yX8_outcomeOfCrossing := Or.inl (lw_in (i := 514) (by decide +kernel) rfl)
theorem kmX8_170 : LkM RX8 170 yX8_tollsBehind := Or.inl (lw_in (i := 522) (by decide +kernel) rfl)
theorem kmX8_173 : LkM RX8 173 yX8_countVisits := Or.inl (lw_in (i := 534) (by decide +kernel) rfl)
theorem kmX8_179 : LkM RX8 179 yX8_freshenPlan := Or.inl (lw_in (i := 542) (by decide +kernel) rfl)
theorem kmX8_188 : LkM RX8 188 yX4_whoAt := Or.inl (lw_in (i := 580) (by decide +kernel) rfl)
theorem kmX8_189 : LkM RX8 189 yX8_gapBehindAll := Or.inl (lw_in (i := 589) (by decide +kernel) rfl)
theorem kmX8_194 : LkM RX8 194 yX0_gapBehind := Or.inl (lw_in (i := 593) (by decide +kernel) rfl)
theorem kmX8_198 : LkM RX8 198 yX6_isPossible := Or.inl (lw_in (i := 602) (by decide +kernel) rfl)
theorem kmX8_202 : LkM RX8 202 yX6_isFull := Or.inl (lw_in (i := 606) (by decide +kernel) rfl)
theorem kmX8_203 : LkM RX8 203 yX6_add := Or.inl (lw_in (i := 610) (by decide +kernel) rfl)
theorem kmX8_208 : LkM RX8 208 yX8_sheetAt := Or.inl (lw_in (i := 623) (by decide +kernel) rfl)
theorem kmX8_215 : LkM RX8 215 yX8_finding := Or.inl (lw_in (i := 627) (by decide +kernel) rfl)
theorem kmX8_219 : LkM RX8 219 yX5_itemAt := Or.inl (lw_in (i := 631) (by decide +kernel) rfl)
theorem kmX8_228 : LkM RX8 228 yX0_firstGap := Or.inl (lw_in (i := 428) (by decide +kernel) rfl)
theorem kmX8_231 : LkM RX8 231 yX8_comesOutAsSeen := Or.inl (lw_in (i := 646) (by decide +kernel) rfl)
theorem kmX8_237 : LkM RX8 237 yX8_spreadChances := Or.inl (lw_in (i := 667) (by decide +kernel) rfl)
theorem kmX8_241 : LkM RX8 241 yX5_renew := Or.inl (lw_in (i := 684) (by decide +kernel) rfl)
theorem kmX8_244 : LkM RX8 244 yX5_findingAt := Or.inl (lw_in (i := 697) (by decide +kernel) rfl)
theorem kmX8_248 : LkM RX8 248 yX5_put := Or.inl (lw_in (i := 701) (by decide +kernel) rfl)
theorem kmX8_255 : LkM RX8 255 yX5_hasItems := Or.inl (lw_in (i := 718) (by decide +kernel) rfl)
theorem kmX8_261 : LkM RX8 261 yJ9_min_7cf53 := Or.inl (lw_in (i := 723) (by decide +kernel) rfl)
theorem kmX8_273 : LkM RX8 273 yX8_count := Or.inl (lw_in (i := 734) (by decide +kernel) rfl)
theorem kmX8_275 : LkM RX8 275 yX8_fault := Or.inl (lw_in (i := 735) (by decide +kernel) rfl)
theorem kmX8_278 : LkM RX8 278 yX8_digestPlanks := Or.inl (lw_in (i := 736) (by decide +kernel) rfl)
theorem kmX8_282 : LkM RX8 282 yX8_digestCrossers := Or.inl (lw_in (i := 742) (by decide +kernel) rfl)
theorem kmX8_285 : LkM RX8 285 yX8_digestCrossings := Or.inl (lw_in (i := 750) (by decide +kernel) rfl)
theorem kmX8_288 : LkM RX8 288 yX8_stuck := Or.inl (lw_in (i := 758) (by decide +kernel) rfl)
theorem kmX8_291 : LkM RX8 291 yX8_worn := Or.inl (lw_in (i := 759) (by decide +kernel) rfl)
theorem kmX8_294 : LkM RX8 294 yX8_order := Or.inl (lw_in (i := 760) (by decide +kernel) rfl)
theorem kmX8_297 : LkM RX8 297 yX8_rule := Or.inl (lw_in (i := 761) (by decide +kernel) rfl)
theorem kmX8_300 : LkM RX8 300 yX8_began := Or.inl (lw_in (i := 762) (by decide +kernel) rfl)
theorem kmX8_303 : LkM RX8 303 yX8_ask := Or.inl (lw_in (i := 763) (by decide +kernel) rfl)
theorem kmX8_306 : LkM RX8 306 yX8_week := Or.inl (lw_in (i := 764) (by decide +kernel) rfl)
theorem kmX8_310 : LkM RX8 310 yX8_plank := Or.inl (lw_in (i := 740) (by decide +kernel) rfl)
theorem kmX8_313 : LkM RX8 313 yX8_maybe := Or.inl (lw_in (i := 741) (by decide +kernel) rfl)
theorem kmX8_317 : LkM RX8 317 yX8_crosser := Or.inl (lw_in (i := 746) (by decide +kernel) rfl)
theorem kmX8_320 : LkM RX8 320 yX8_times := Or.inl (lw_in (i := 747) (by decide +kernel) rfl)
theorem kmX8_323 : LkM RX8 323 yX8_ahead := Or.inl (lw_in (i := 748) (by decide +kernel) rfl)
theorem kmX8_326 : LkM RX8 326 yX8_often := Or.inl (lw_in (i := 749) (by decide +kernel) rfl)
theorem kmX8_329 : LkM RX8 329 yX8_crossing := Or.inl (lw_in (i := 754) (by decide +kernel) rfl)
theorem kmX8_331 : LkM RX8 331 yX8_comes := Or.inl (lw_in (i := 755) (by decide +kernel) rfl)
theorem kmX8_334 : LkM RX8 334 yX8_gap := Or.inl (lw_in (i := 756) (by decide +kernel) rfl)
theorem kmX8_337 : LkM RX8 337 yX8_taken := Or.inl (lw_in (i := 757) (by decide +kernel) rfl)
theorem kmX8_362 : LkM RX8 362 yX7_at := Or.inl (lw_in (i := 353) (by decide +kernel) rfl)
theorem kmX8_364 : LkM RX8 364 yX8_signsFor := Or.inl (lw_in (i := 357) (by decide +kernel) rfl)
theorem kmX8_368 : LkM RX8 368 yX8_placeOf := Or.inl (lw_in (i := 374) (by decide +kernel) rfl)
theorem kmX8_372 : LkM RX8 372 yX8_lengthWithoutFault := Or.inl (lw_in (i := 385) (by decide +kernel) rfl)
theorem kmX8_375 : LkM RX8 375 yX0_take := Or.inl (lw_in (i := 388) (by decide +kernel) rfl)
theorem kmX8_379 : LkM RX8 379 yX2_take := Or.inl (lw_in (i := 405) (by decide +kernel) rfl)
theorem kmX8_380 : LkM RX8 380 yX3_take := Or.inl (lw_in (i := 420) (by decide +kernel) rfl)
theorem kmX8_381 : LkM RX8 381 yX3_follow := Or.inl (lw_in (i := 432) (by decide +kernel) rfl)
theorem kmX8_385 : LkM RX8 385 yX4_make := Or.inl (lw_in (i := 546) (by decide +kernel) rfl)
theorem kmX8_389 : LkM RX8 389 yX6_agreeWith := Or.inl (lw_in (i := 650) (by decide +kernel) rfl)
theorem kmX8_393 : LkM RX8 393 yX8_spreadOver := Or.inl (lw_in (i := 671) (by decide +kernel) rfl)
theorem kmX0_32 : LkM RX0 32 yJ9_min_7cf53 := Or.inl (lw_in (i := 392) (by decide +kernel) rfl)
theorem kmX0_41 : LkM RX0 41 yX7_at := Or.inl (lw_in (i := 395) (by decide +kernel) rfl)
theorem kmX0_47 : LkM RX0 47 yX0_measure := Or.inl (lw_in (i := 396) (by decide +kernel) rfl)
theorem kmX0_51 : LkM RX0 51 yX0_isHole := Or.inl (lw_in (i := 400) (by decide +kernel) rfl)
theorem kmX0_55 : LkM RX0 55 yJ9_max_7cf53 := Or.inl (lw_in (i := 404) (by decide +kernel) rfl)
theorem kmX0_58 : LkM RX0 58 yX8_within := Or.inr ⟨"MiddlePlank", by decide +kernel⟩
theorem kmX0_61 : LkM RX0 61 yX0_hasPlank := Or.inl (lw_in (i := 470) (by decide +kernel) rfl)
theorem kmX0_73 : LkM RX0 73 yX0_outcome := Or.inl (lw_in (i := 450) (by decide +kernel) rfl)
theorem kmX0_80 : LkM RX0 80 yX1_shiftBy := Or.inl (lw_in (i := 454) (by decide +kernel) rfl)
theorem kmX0_87 : LkM RX0 87 yJ9_floorMod_7cf53 := Or.inl (lw_in (i := 458) (by decide +kernel) rfl)
theorem kmX1_9 : LkM RX1 9 yX7_at := Or.inl (lw_in (i := 414) (by decide +kernel) rfl)
theorem kmX1_19 : LkM RX1 19 yX8_placeOf := Or.inr ⟨"MiddlePlank", by decide +kernel⟩
theorem kmX2_18 : LkM RX2 18 yJ9_min_7cf53 := Or.inl (lw_in (i := 409) (by decide +kernel) rfl)
theorem kmX2_28 : LkM RX2 28 yX1_take := Or.inl (lw_in (i := 410) (by decide +kernel) rfl)
theorem kmX2_32 : LkM RX2 32 yX8_within := Or.inr ⟨"MiddlePlank", by decide +kernel⟩
theorem kmX3_15 : LkM RX3 15 yJ9_min_7cf53 := Or.inl (lw_in (i := 424) (by decide +kernel) rfl)
theorem kmX3_25 : LkM RX3 25 yX7_at := Or.inl (lw_in (i := 425) (by decide +kernel) rfl)
theorem kmX3_35 : LkM RX3 35 yX8_placeOf := Or.inr ⟨"MiddlePlank", by decide +kernel⟩
theorem kmX3_39 : LkM RX3 39 yX8_within := Or.inr ⟨"MiddlePlank", by decide +kernel⟩
theorem kmX3_43 : LkM RX3 43 yX3_whoAt := Or.inl (lw_in (i := 436) (by decide +kernel) rfl)
theorem kmX3_46 : LkM RX3 46 yX2_at := Or.inl (lw_in (i := 441) (by decide +kernel) rfl)
theorem kmX3_51 : LkM RX3 51 yX0_gapBehind := Or.inl (lw_in (i := 446) (by decide +kernel) rfl)
theorem kmX4_30 : LkM RX4 30 yJ9_max_7cf53 := Or.inl (lw_in (i := 550) (by decide +kernel) rfl)
theorem kmX4_45 : LkM RX4 45 yX2_at := Or.inl (lw_in (i := 551) (by decide +kernel) rfl)
theorem kmX4_49 : LkM RX4 49 yX4_weigh := Or.inl (lw_in (i := 552) (by decide +kernel) rfl)
theorem kmX4_53 : LkM RX4 53 yX4_findBest := Or.inl (lw_in (i := 559) (by decide +kernel) rfl)
theorem kmX4_56 : LkM RX4 56 yX0_firstGap := Or.inl (lw_in (i := 571) (by decide +kernel) rfl)
theorem kmX4_60 : LkM RX4 60 yX4_followBest := Or.inl (lw_in (i := 572) (by decide +kernel) rfl)
theorem kmX4_64 : LkM RX4 64 yX8_within := Or.inr ⟨"MiddlePlank", by decide +kernel⟩
theorem kmX4_68 : LkM RX4 68 yX0_outcome := Or.inl (lw_in (i := 556) (by decide +kernel) rfl)
theorem kmX4_72 : LkM RX4 72 yX0_toll := Or.inl (lw_in (i := 557) (by decide +kernel) rfl)
theorem kmX4_78 : LkM RX4 78 yX0_gapBehind := Or.inl (lw_in (i := 558) (by decide +kernel) rfl)
theorem kmX4_82 : LkM RX4 82 yX4_bestOf := Or.inl (lw_in (i := 563) (by decide +kernel) rfl)
theorem kmX4_85 : LkM RX4 85 yX4_worthOf := Or.inl (lw_in (i := 567) (by decide +kernel) rfl)
theorem kmX4_95 : LkM RX4 95 yX4_leastOfBest := Or.inl (lw_in (i := 576) (by decide +kernel) rfl)
theorem kmX5_23 : LkM RX5 23 yJ9_min_7cf53 := Or.inl (lw_in (i := 688) (by decide +kernel) rfl)
theorem kmX5_32 : LkM RX5 32 yX5_hasItems := Or.inl (lw_in (i := 635) (by decide +kernel) rfl)
theorem kmX5_36 : LkM RX5 36 yX5_lowestBits := Or.inl (lw_in (i := 705) (by decide +kernel) rfl)
theorem kmX6_18 : LkM RX6 18 yX8_within := Or.inr ⟨"MiddlePlank", by decide +kernel⟩
theorem kmX6_26 : LkM RX6 26 yX6_isFull := Or.inl (lw_in (i := 614) (by decide +kernel) rfl)
theorem kmX7_9 : LkM RX7 9 yJ9_max_7cf53 := Or.inl (lw_in (i := 235) (by decide +kernel) rfl)
theorem kmX7_25 : LkM RX7 25 yX7_isFull := Or.inl (lw_in (i := 337) (by decide +kernel) rfl)
theorem kmL_13 : LkM RL 13 yX8_type := Or.inl (lw_in (i := 318) (by decide +kernel) rfl)
theorem kmL_17 : LkM RL 17 yX9_type := Or.inl (lw_in (i := 905) (by decide +kernel) rfl)
theorem kmL_18 : LkM RL 18 yX8_wipe := Or.inl (lw_in (i := 338) (by decide +kernel) rfl)
theorem kmL_22 : LkM RL 22 yX9_wipe := Or.inl (lw_in (i := 913) (by decide +kernel) rfl)
theorem kmL_23 : LkM RL 23 yX8_undo := Or.inl (lw_in (i := 342) (by decide +kernel) rfl)
theorem kmL_26 : LkM RL 26 yX9_undo := Or.inl (lw_in (i := 917) (by decide +kernel) rfl)
theorem kmL_27 : LkM RL 27 yX8_fault := Or.inl (lw_in (i := 346) (by decide +kernel) rfl)
theorem kmL_30 : LkM RL 30 yX9_fault := Or.inl (lw_in (i := 921) (by decide +kernel) rfl)
theorem kmL_31 : LkM RL 31 yX8_plank := Or.inl (lw_in (i := 377) (by decide +kernel) rfl)
theorem kmL_34 : LkM RL 34 yX9_plank := Or.inl (lw_in (i := 952) (by decide +kernel) rfl)
theorem kmL_35 : LkM RL 35 yX8_crosser := Or.inl (lw_in (i := 471) (by decide +kernel) rfl)
theorem kmL_38 : LkM RL 38 yX9_crosser := Or.inl (lw_in (i := 957) (by decide +kernel) rfl)
theorem kmL_39 : LkM RL 39 yX8_crossing := Or.inl (lw_in (i := 476) (by decide +kernel) rfl)
theorem kmL_42 : LkM RL 42 yX9_crossing := Or.inl (lw_in (i := 965) (by decide +kernel) rfl)
theorem kmL_43 : LkM RL 43 yX8_set := Or.inl (lw_in (i := 481) (by decide +kernel) rfl)
theorem kmL_46 : LkM RL 46 yX9_set := Or.inl (lw_in (i := 970) (by decide +kernel) rfl)
theorem kmL_47 : LkM RL 47 yX8_shift := Or.inl (lw_in (i := 485) (by decide +kernel) rfl)
theorem kmL_50 : LkM RL 50 yX9_shift := Or.inl (lw_in (i := 978) (by decide +kernel) rfl)
theorem kmL_51 : LkM RL 51 yX8_gap := Or.inl (lw_in (i := 489) (by decide +kernel) rfl)
theorem kmL_54 : LkM RL 54 yX9_gap := Or.inl (lw_in (i := 983) (by decide +kernel) rfl)
theorem kmL_55 : LkM RL 55 yX8_comes := Or.inl (lw_in (i := 497) (by decide +kernel) rfl)
theorem kmL_58 : LkM RL 58 yX9_comes := Or.inl (lw_in (i := 1025) (by decide +kernel) rfl)
theorem kmL_59 : LkM RL 59 yX8_times := Or.inl (lw_in (i := 510) (by decide +kernel) rfl)
theorem kmL_62 : LkM RL 62 yX9_times := Or.inl (lw_in (i := 1033) (by decide +kernel) rfl)
theorem kmL_63 : LkM RL 63 yX8_taken := Or.inl (lw_in (i := 518) (by decide +kernel) rfl)
theorem kmL_66 : LkM RL 66 yX9_taken := Or.inl (lw_in (i := 1041) (by decide +kernel) rfl)
theorem kmL_67 : LkM RL 67 yX8_stuck := Or.inl (lw_in (i := 526) (by decide +kernel) rfl)
theorem kmL_71 : LkM RL 71 yX9_stuck := Or.inl (lw_in (i := 1049) (by decide +kernel) rfl)
theorem kmL_72 : LkM RL 72 yX8_worn := Or.inl (lw_in (i := 530) (by decide +kernel) rfl)
theorem kmL_75 : LkM RL 75 yX9_worn := Or.inl (lw_in (i := 1057) (by decide +kernel) rfl)
theorem kmL_76 : LkM RL 76 yX8_order := Or.inl (lw_in (i := 538) (by decide +kernel) rfl)
theorem kmL_79 : LkM RL 79 yX9_order := Or.inl (lw_in (i := 1065) (by decide +kernel) rfl)
theorem kmL_80 : LkM RL 80 yX8_ahead := Or.inl (lw_in (i := 585) (by decide +kernel) rfl)
theorem kmL_83 : LkM RL 83 yX9_ahead := Or.inl (lw_in (i := 1085) (by decide +kernel) rfl)
theorem kmL_84 : LkM RL 84 yX8_often := Or.inl (lw_in (i := 594) (by decide +kernel) rfl)
theorem kmL_87 : LkM RL 87 yX9_often := Or.inl (lw_in (i := 1093) (by decide +kernel) rfl)
theorem kmL_88 : LkM RL 88 yX8_seen := Or.inl (lw_in (i := 598) (by decide +kernel) rfl)
theorem kmL_91 : LkM RL 91 yX9_seen := Or.inl (lw_in (i := 1101) (by decide +kernel) rfl)
theorem kmL_92 : LkM RL 92 yX8_forget := Or.inl (lw_in (i := 615) (by decide +kernel) rfl)
theorem kmL_95 : LkM RL 95 yX9_forget := Or.inl (lw_in (i := 1106) (by decide +kernel) rfl)
theorem kmL_96 : LkM RL 96 yX8_read := Or.inl (lw_in (i := 619) (by decide +kernel) rfl)
theorem kmL_99 : LkM RL 99 yX9_read := Or.inl (lw_in (i := 1110) (by decide +kernel) rfl)
theorem kmL_100 : LkM RL 100 yX8_rule := Or.inl (lw_in (i := 639) (by decide +kernel) rfl)
theorem kmL_103 : LkM RL 103 yX9_rule := Or.inl (lw_in (i := 1115) (by decide +kernel) rfl)
theorem kmL_104 : LkM RL 104 yX8_began := Or.inl (lw_in (i := 654) (by decide +kernel) rfl)
theorem kmL_107 : LkM RL 107 yX9_began := Or.inl (lw_in (i := 1127) (by decide +kernel) rfl)
theorem kmL_108 : LkM RL 108 yX8_ask := Or.inl (lw_in (i := 658) (by decide +kernel) rfl)
theorem kmL_111 : LkM RL 111 yX9_ask := Or.inl (lw_in (i := 1135) (by decide +kernel) rfl)
theorem kmL_112 : LkM RL 112 yX8_maybe := Or.inl (lw_in (i := 662) (by decide +kernel) rfl)
theorem kmL_116 : LkM RL 116 yX9_maybe := Or.inl (lw_in (i := 1143) (by decide +kernel) rfl)
theorem kmL_117 : LkM RL 117 yX8_week := Or.inl (lw_in (i := 675) (by decide +kernel) rfl)
theorem kmL_121 : LkM RL 121 yX9_week := Or.inl (lw_in (i := 1159) (by decide +kernel) rfl)
theorem kmL_122 : LkM RL 122 yX8_sheet := Or.inl (lw_in (i := 680) (by decide +kernel) rfl)
theorem kmL_125 : LkM RL 125 yX9_sheet := Or.inl (lw_in (i := 865) (by decide +kernel) rfl)
theorem kmL_126 : LkM RL 126 yX8_lose := Or.inl (lw_in (i := 689) (by decide +kernel) rfl)
theorem kmL_129 : LkM RL 129 yX9_lose := Or.inl (lw_in (i := 881) (by decide +kernel) rfl)
theorem kmL_130 : LkM RL 130 yX8_lay := Or.inl (lw_in (i := 693) (by decide +kernel) rfl)
theorem kmL_134 : LkM RL 134 yX9_lay := Or.inl (lw_in (i := 885) (by decide +kernel) rfl)
theorem kmL_135 : LkM RL 135 yX8_get := Or.inl (lw_in (i := 709) (by decide +kernel) rfl)
theorem kmL_138 : LkM RL 138 yX9_get := Or.inl (lw_in (i := 896) (by decide +kernel) rfl)
theorem kmL_139 : LkM RL 139 yX8_copy := Or.inl (lw_in (i := 714) (by decide +kernel) rfl)
theorem kmL_143 : LkM RL 143 yX9_copy := Or.inl (lw_in (i := 901) (by decide +kernel) rfl)
theorem kmL_144 : LkM RL 144 yX8_write := Or.inl (lw_in (i := 719) (by decide +kernel) rfl)
theorem kmL_147 : LkM RL 147 yX9_write := Or.inl (lw_in (i := 1173) (by decide +kernel) rfl)
theorem kmL_148 : LkM RL 148 yX8_count := Or.inl (lw_in (i := 724) (by decide +kernel) rfl)
theorem kmL_151 : LkM RL 151 yX9_count := Or.inl (lw_in (i := 1180) (by decide +kernel) rfl)
theorem kmL_152 : LkM RL 152 yX8_digest := Or.inl (lw_in (i := 728) (by decide +kernel) rfl)
theorem kmL_156 : LkM RL 156 yX9_digest := Or.inl (lw_in (i := 1184) (by decide +kernel) rfl)
theorem kmX9_69 : LkM RX9 69 yX9_in := Or.inl (lw_in (i := 873) (by decide +kernel) rfl)
theorem kmX9_79 : LkM RX9 79 yX9_isSheet := Or.inl (lw_in (i := 869) (by decide +kernel) rfl)
theorem kmX9_85 : LkM RX9 85 yX9_finds := Or.inl (lw_in (i := 877) (by decide +kernel) rfl)
theorem kmX9_89 : LkM RX9 89 yX9_lacks := Or.inl (lw_in (i := 889) (by decide +kernel) rfl)
theorem kmX9_93 : LkM RX9 93 yX9_cut := Or.inl (lw_in (i := 893) (by decide +kernel) rfl)
theorem kmX9_98 : LkM RX9 98 yX9_isText := Or.inl (lw_in (i := 909) (by decide +kernel) rfl)
theorem kmX9_106 : LkM RX9 106 yX9_kindOf := Or.inl (lw_in (i := 940) (by decide +kernel) rfl)
theorem kmX9_118 : LkM RX9 118 yX9_crosserOf := Or.inl (lw_in (i := 937) (by decide +kernel) rfl)
theorem kmX9_128 : LkM RX9 128 yX9_readsPlanks := Or.inl (lw_in (i := 929) (by decide +kernel) rfl)
theorem kmX9_132 : LkM RX9 132 yX9_readsCrossers := Or.inl (lw_in (i := 933) (by decide +kernel) rfl)
theorem kmX9_135 : LkM RX9 135 yX9_readsCrossings := Or.inl (lw_in (i := 946) (by decide +kernel) rfl)
theorem kmX9_138 : LkM RX9 138 yX9_readsText := Or.inl (lw_in (i := 925) (by decide +kernel) rfl)
theorem kmX9_143 : LkM RX9 143 yX9_isCrosser := Or.inl (lw_in (i := 961) (by decide +kernel) rfl)
theorem kmX9_148 : LkM RX9 148 yX9_isTwo := Or.inl (lw_in (i := 974) (by decide +kernel) rfl)
theorem kmX9_164 : LkM RX9 164 yX9_isHole := Or.inl (lw_in (i := 1010) (by decide +kernel) rfl)
theorem kmX9_168 : LkM RX9 168 yX9_greater := Or.inl (lw_in (i := 1014) (by decide +kernel) rfl)
theorem kmX9_171 : LkM RX9 171 yX9_looks := Or.inl (lw_in (i := 1006) (by decide +kernel) rfl)
theorem kmX9_175 : LkM RX9 175 yX9_moves := Or.inl (lw_in (i := 1017) (by decide +kernel) rfl)
theorem kmX9_178 : LkM RX9 178 yX9_begins := Or.inl (lw_in (i := 995) (by decide +kernel) rfl)
theorem kmX9_184 : LkM RX9 184 yX9_isIn := Or.inl (lw_in (i := 999) (by decide +kernel) rfl)
theorem kmX9_187 : LkM RX9 187 yX9_tries := Or.inl (lw_in (i := 1002) (by decide +kernel) rfl)
theorem kmX9_190 : LkM RX9 190 yX9_tollOf := Or.inl (lw_in (i := 1021) (by decide +kernel) rfl)
theorem kmX9_193 : LkM RX9 193 yX9_lives := Or.inl (lw_in (i := 991) (by decide +kernel) rfl)
theorem kmX9_196 : LkM RX9 196 yX9_find := Or.inl (lw_in (i := 987) (by decide +kernel) rfl)
theorem kmX9_199 : LkM RX9 199 yX9_comesBy := Or.inl (lw_in (i := 1029) (by decide +kernel) rfl)
theorem kmX9_202 : LkM RX9 202 yX9_timesBy := Or.inl (lw_in (i := 1037) (by decide +kernel) rfl)
theorem kmX9_205 : LkM RX9 205 yX9_takenBy := Or.inl (lw_in (i := 1045) (by decide +kernel) rfl)
theorem kmX9_208 : LkM RX9 208 yX9_stuckNow := Or.inl (lw_in (i := 1053) (by decide +kernel) rfl)
theorem kmX9_211 : LkM RX9 211 yX9_wornNow := Or.inl (lw_in (i := 1061) (by decide +kernel) rfl)
theorem kmX9_220 : LkM RX9 220 yX9_weighs := Or.inl (lw_in (i := 1073) (by decide +kernel) rfl)
theorem kmX9_223 : LkM RX9 223 yX9_nextRow := Or.inl (lw_in (i := 1077) (by decide +kernel) rfl)
theorem kmX9_227 : LkM RX9 227 yX9_findOrder := Or.inl (lw_in (i := 1069) (by decide +kernel) rfl)
theorem kmX9_230 : LkM RX9 230 yX9_orderBy := Or.inl (lw_in (i := 1081) (by decide +kernel) rfl)
theorem kmX9_233 : LkM RX9 233 yX9_aheadOf := Or.inl (lw_in (i := 1089) (by decide +kernel) rfl)
theorem kmX9_236 : LkM RX9 236 yX9_oftenOf := Or.inl (lw_in (i := 1097) (by decide +kernel) rfl)
theorem kmX9_244 : LkM RX9 244 yX9_seen := Or.inl (lw_in (i := 1114) (by decide +kernel) rfl)
theorem kmX9_247 : LkM RX9 247 yX9_isSeen := Or.inl (lw_in (i := 1123) (by decide +kernel) rfl)
theorem kmX9_250 : LkM RX9 250 yX9_ruleOf := Or.inl (lw_in (i := 1119) (by decide +kernel) rfl)
theorem kmX9_253 : LkM RX9 253 yX9_beganNow := Or.inl (lw_in (i := 1131) (by decide +kernel) rfl)
theorem kmX9_256 : LkM RX9 256 yX9_askNow := Or.inl (lw_in (i := 1139) (by decide +kernel) rfl)
theorem kmX9_259 : LkM RX9 259 yX9_part := Or.inl (lw_in (i := 1152) (by decide +kernel) rfl)
theorem kmX9_265 : LkM RX9 265 yX9_maybeOf := Or.inl (lw_in (i := 1148) (by decide +kernel) rfl)
theorem kmX9_269 : LkM RX9 269 yX9_no := Or.inl (lw_in (i := 1155) (by decide +kernel) rfl)
theorem kmX9_277 : LkM RX9 277 yX9_lot := Or.inl (lw_in (i := 1168) (by decide +kernel) rfl)
theorem kmX9_282 : LkM RX9 282 yX9_weekOf := Or.inl (lw_in (i := 1164) (by decide +kernel) rfl)
theorem kmX9_285 : LkM RX9 285 yX9_lesser := Or.inl (lw_in (i := 1177) (by decide +kernel) rfl)
theorem kmX9_290 : LkM RX9 290 yX9_often := Or.inl (lw_in (i := 1196) (by decide +kernel) rfl)
theorem kmX9_295 : LkM RX9 295 yX9_count := Or.inl (lw_in (i := 1190) (by decide +kernel) rfl)
theorem kmX9_298 : LkM RX9 298 yX9_maybe := Or.inl (lw_in (i := 1191) (by decide +kernel) rfl)
theorem kmX9_301 : LkM RX9 301 yX9_tellsCrosser := Or.inl (lw_in (i := 1192) (by decide +kernel) rfl)
theorem kna : Cond.native arraycopyName ∈ lw_g := lw_in (i := 645) (by decide +kernel) rfl
theorem kns : Cond.static arraycopyName ∈ lw_g := lw_in (i := 644) (by decide +kernel) rfl
theorem kni : Cond.initialized "java/lang/System" ∈ lw_g := lw_in (i := 71) (by decide +kernel) rfl
theorem kcX8_222 : Cond.methodLink RX8 222 arraycopyName ∈ lw_g := lw_in (i := 643) (by decide +kernel) rfl
theorem kkX8_235 : Cond.constantLong RX8 235 (-9223372036854775806 : Int64) ∈ lw_g := lw_in (i := 666) (by decide +kernel) rfl
theorem kkX8_240 : Cond.constant RX8 240 (1103515245 : Int32) ∈ lw_g := lw_in (i := 679) (by decide +kernel) rfl
theorem kkX8_251 : Cond.constant RX8 251 (-2147483648 : Int32) ∈ lw_g := lw_in (i := 713) (by decide +kernel) rfl
theorem kkX8_269 : Cond.constantLong RX8 269 (17 : Int64) ∈ lw_g := lw_in (i := 732) (by decide +kernel) rfl
theorem kkX8_271 : Cond.constantLong RX8 271 (31 : Int64) ∈ lw_g := lw_in (i := 733) (by decide +kernel) rfl
theorem kkX9_67 : Cond.constantLong RX9 67 (-9223372036854775808 : Int64) ∈ lw_g := lw_in (i := 1158) (by decide +kernel) rfl
theorem kkX9_77 : Cond.constantLong RX9 77 (3 : Int64) ∈ lw_g := lw_in (i := 872) (by decide +kernel) rfl
theorem kkX9_83 : Cond.constantLong RX9 83 (2 : Int64) ∈ lw_g := lw_in (i := 876) (by decide +kernel) rfl
theorem kkX9_97 : Cond.constant RX9 97 (-2147483648 : Int32) ∈ lw_g := lw_in (i := 900) (by decide +kernel) rfl
theorem kkX9_101 : Cond.constantLong RX9 101 (255 : Int64) ∈ lw_g := lw_in (i := 912) (by decide +kernel) rfl
theorem kkX9_109 : Cond.constantLong RX9 109 (49 : Int64) ∈ lw_g := lw_in (i := 943) (by decide +kernel) rfl
theorem kkX9_111 : Cond.constantLong RX9 111 (57 : Int64) ∈ lw_g := lw_in (i := 944) (by decide +kernel) rfl
theorem kkX9_113 : Cond.constantLong RX9 113 (48 : Int64) ∈ lw_g := lw_in (i := 945) (by decide +kernel) rfl
theorem kkX9_124 : Cond.constantLong RX9 124 (97 : Int64) ∈ lw_g := lw_in (i := 950) (by decide +kernel) rfl
theorem kkX9_126 : Cond.constantLong RX9 126 (104 : Int64) ∈ lw_g := lw_in (i := 951) (by decide +kernel) rfl
theorem kkX9_141 : Cond.constantLong RX9 141 (18 : Int64) ∈ lw_g := lw_in (i := 956) (by decide +kernel) rfl
theorem kkX9_146 : Cond.constantLong RX9 146 (23 : Int64) ∈ lw_g := lw_in (i := 969) (by decide +kernel) rfl
theorem kkX9_151 : Cond.constantLong RX9 151 (9 : Int64) ∈ lw_g := lw_in (i := 977) (by decide +kernel) rfl
theorem kkX9_153 : Cond.constantLong RX9 153 (-9 : Int64) ∈ lw_g := lw_in (i := 982) (by decide +kernel) rfl
theorem kkX9_239 : Cond.constantLong RX9 239 (24 : Int64) ∈ lw_g := lw_in (i := 1105) (by decide +kernel) rfl
theorem kkX9_263 : Cond.constantLong RX9 263 (16 : Int64) ∈ lw_g := lw_in (i := 1147) (by decide +kernel) rfl
theorem kkX9_273 : Cond.constant RX9 273 (1103515245 : Int32) ∈ lw_g := lw_in (i := 1172) (by decide +kernel) rfl
theorem kkX9_280 : Cond.constantLong RX9 280 (99 : Int64) ∈ lw_g := lw_in (i := 1163) (by decide +kernel) rfl
theorem kkX9_288 : Cond.constantLong RX9 288 (31 : Int64) ∈ lw_g := lw_in (i := 1189) (by decide +kernel) rfl
theorem kkX9_293 : Cond.constantLong RX9 293 (17 : Int64) ∈ lw_g := lw_in (i := 1188) (by decide +kernel) rfl
