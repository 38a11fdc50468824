theorem dX8_init_0 : decode cX8_init 0 = .ok (.aload_n 0, 1) := by decide +kernel
theorem dX8_init_1 : decode cX8_init 1 = .ok (.invokespecial 3, 3) := by decide +kernel
theorem dX8_init_4 : decode cX8_init 4 = .ok (.aload_n 0, 1) := by decide +kernel
theorem dX8_init_5 : decode cX8_init 5 = .ok (.iconst 3, 1) := by decide +kernel
theorem dX8_init_6 : decode cX8_init 6 = .ok (.anewarray 9, 3) := by decide +kernel
theorem dX8_init_9 : decode cX8_init 9 = .ok (.putfield 11, 3) := by decide +kernel
theorem dX8_init_12 : decode cX8_init 12 = .ok (.aload_n 0, 1) := by decide +kernel
theorem dX8_init_13 : decode cX8_init 13 = .ok (.new 15, 3) := by decide +kernel
theorem dX8_init_16 : decode cX8_init 16 = .ok (.dup, 1) := by decide +kernel
theorem dX8_init_17 : decode cX8_init 17 = .ok (.invokespecial 17, 3) := by decide +kernel
theorem dX8_init_20 : decode cX8_init 20 = .ok (.putfield 18, 3) := by decide +kernel
theorem dX8_init_23 : decode cX8_init 23 = .ok (.aload_n 0, 1) := by decide +kernel
theorem dX8_init_24 : decode cX8_init 24 = .ok (.new 22, 3) := by decide +kernel
theorem dX8_init_27 : decode cX8_init 27 = .ok (.dup, 1) := by decide +kernel
theorem dX8_init_28 : decode cX8_init 28 = .ok (.invokespecial 24, 3) := by decide +kernel
theorem dX8_init_31 : decode cX8_init 31 = .ok (.putfield 25, 3) := by decide +kernel
theorem dX8_init_34 : decode cX8_init 34 = .ok (.aload_n 0, 1) := by decide +kernel
theorem dX8_init_35 : decode cX8_init 35 = .ok (.new 29, 3) := by decide +kernel
theorem dX8_init_38 : decode cX8_init 38 = .ok (.dup, 1) := by decide +kernel
theorem dX8_init_39 : decode cX8_init 39 = .ok (.invokespecial 31, 3) := by decide +kernel
theorem dX8_init_42 : decode cX8_init 42 = .ok (.putfield 32, 3) := by decide +kernel
theorem dX8_init_45 : decode cX8_init 45 = .ok (.aload_n 0, 1) := by decide +kernel
theorem dX8_init_46 : decode cX8_init 46 = .ok (.bipush 25, 2) := by decide +kernel
theorem dX8_init_48 : decode cX8_init 48 = .ok (.newarray .int, 2) := by decide +kernel
theorem dX8_init_50 : decode cX8_init 50 = .ok (.putfield 36, 3) := by decide +kernel
theorem dX8_init_53 : decode cX8_init 53 = .ok (.aload_n 0, 1) := by decide +kernel
theorem dX8_init_54 : decode cX8_init 54 = .ok (.bipush 25, 2) := by decide +kernel
theorem dX8_init_56 : decode cX8_init 56 = .ok (.newarray .int, 2) := by decide +kernel
theorem dX8_init_58 : decode cX8_init 58 = .ok (.putfield 40, 3) := by decide +kernel
theorem dX8_init_61 : decode cX8_init 61 = .ok (.aload_n 0, 1) := by decide +kernel
theorem dX8_init_62 : decode cX8_init 62 = .ok (.iconst 4, 1) := by decide +kernel
theorem dX8_init_63 : decode cX8_init 63 = .ok (.newarray .int, 2) := by decide +kernel
theorem dX8_init_65 : decode cX8_init 65 = .ok (.putfield 43, 3) := by decide +kernel
theorem dX8_init_68 : decode cX8_init 68 = .ok (.aload_n 0, 1) := by decide +kernel
theorem dX8_init_69 : decode cX8_init 69 = .ok (.bipush 19, 2) := by decide +kernel
theorem dX8_init_71 : decode cX8_init 71 = .ok (.newarray .int, 2) := by decide +kernel
theorem dX8_init_73 : decode cX8_init 73 = .ok (.putfield 46, 3) := by decide +kernel
theorem dX8_init_76 : decode cX8_init 76 = .ok (.aload_n 0, 1) := by decide +kernel
theorem dX8_init_77 : decode cX8_init 77 = .ok (.new 49, 3) := by decide +kernel
theorem dX8_init_80 : decode cX8_init 80 = .ok (.dup, 1) := by decide +kernel
theorem dX8_init_81 : decode cX8_init 81 = .ok (.invokespecial 51, 3) := by decide +kernel
theorem dX8_init_84 : decode cX8_init 84 = .ok (.putfield 52, 3) := by decide +kernel
theorem dX8_init_87 : decode cX8_init 87 = .ok (.aload_n 0, 1) := by decide +kernel
theorem dX8_init_88 : decode cX8_init 88 = .ok (.new 56, 3) := by decide +kernel
theorem dX8_init_91 : decode cX8_init 91 = .ok (.dup, 1) := by decide +kernel
theorem dX8_init_92 : decode cX8_init 92 = .ok (.invokespecial 58, 3) := by decide +kernel
theorem dX8_init_95 : decode cX8_init 95 = .ok (.putfield 59, 3) := by decide +kernel
theorem dX8_init_98 : decode cX8_init 98 = .ok (.aload_n 0, 1) := by decide +kernel
theorem dX8_init_99 : decode cX8_init 99 = .ok (.bipush 19, 2) := by decide +kernel
theorem dX8_init_101 : decode cX8_init 101 = .ok (.newarray .long, 2) := by decide +kernel
theorem dX8_init_103 : decode cX8_init 103 = .ok (.putfield 63, 3) := by decide +kernel
theorem dX8_init_106 : decode cX8_init 106 = .ok (.aload_n 0, 1) := by decide +kernel
theorem dX8_init_107 : decode cX8_init 107 = .ok (.bipush 19, 2) := by decide +kernel
theorem dX8_init_109 : decode cX8_init 109 = .ok (.newarray .long, 2) := by decide +kernel
theorem dX8_init_111 : decode cX8_init 111 = .ok (.putfield 67, 3) := by decide +kernel
theorem dX8_init_114 : decode cX8_init 114 = .ok (.aload_n 0, 1) := by decide +kernel
theorem dX8_init_115 : decode cX8_init 115 = .ok (.iconst 4, 1) := by decide +kernel
theorem dX8_init_116 : decode cX8_init 116 = .ok (.anewarray 70, 3) := by decide +kernel
theorem dX8_init_119 : decode cX8_init 119 = .ok (.putfield 72, 3) := by decide +kernel
theorem dX8_init_122 : decode cX8_init 122 = .ok (.aload_n 0, 1) := by decide +kernel
theorem dX8_init_123 : decode cX8_init 123 = .ok (.iconst 1, 1) := by decide +kernel
theorem dX8_init_124 : decode cX8_init 124 = .ok (.putfield 76, 3) := by decide +kernel
theorem dX8_init_127 : decode cX8_init 127 = .ok (.aload_n 0, 1) := by decide +kernel
theorem dX8_init_128 : decode cX8_init 128 = .ok (.iconst 1, 1) := by decide +kernel
theorem dX8_init_129 : decode cX8_init 129 = .ok (.putfield 80, 3) := by decide +kernel
theorem dX8_init_132 : decode cX8_init 132 = .ok (.aload_n 0, 1) := by decide +kernel
theorem dX8_init_133 : decode cX8_init 133 = .ok (.getfield 11, 3) := by decide +kernel
theorem dX8_init_136 : decode cX8_init 136 = .ok (.iconst 0, 1) := by decide +kernel
theorem dX8_init_137 : decode cX8_init 137 = .ok (.new 9, 3) := by decide +kernel
theorem dX8_init_140 : decode cX8_init 140 = .ok (.dup, 1) := by decide +kernel
theorem dX8_init_141 : decode cX8_init 141 = .ok (.bipush 19, 2) := by decide +kernel
theorem dX8_init_143 : decode cX8_init 143 = .ok (.invokespecial 83, 3) := by decide +kernel
theorem dX8_init_146 : decode cX8_init 146 = .ok (.aastore, 1) := by decide +kernel
theorem dX8_init_147 : decode cX8_init 147 = .ok (.aload_n 0, 1) := by decide +kernel
theorem dX8_init_148 : decode cX8_init 148 = .ok (.getfield 11, 3) := by decide +kernel
theorem dX8_init_151 : decode cX8_init 151 = .ok (.iconst 1, 1) := by decide +kernel
theorem dX8_init_152 : decode cX8_init 152 = .ok (.new 9, 3) := by decide +kernel
theorem dX8_init_155 : decode cX8_init 155 = .ok (.dup, 1) := by decide +kernel
theorem dX8_init_156 : decode cX8_init 156 = .ok (.bipush 39, 2) := by decide +kernel
theorem dX8_init_158 : decode cX8_init 158 = .ok (.invokespecial 83, 3) := by decide +kernel
theorem dX8_init_161 : decode cX8_init 161 = .ok (.aastore, 1) := by decide +kernel
theorem dX8_init_162 : decode cX8_init 162 = .ok (.aload_n 0, 1) := by decide +kernel
theorem dX8_init_163 : decode cX8_init 163 = .ok (.getfield 11, 3) := by decide +kernel
theorem dX8_init_166 : decode cX8_init 166 = .ok (.iconst 2, 1) := by decide +kernel
theorem dX8_init_167 : decode cX8_init 167 = .ok (.new 9, 3) := by decide +kernel
theorem dX8_init_170 : decode cX8_init 170 = .ok (.dup, 1) := by decide +kernel
theorem dX8_init_171 : decode cX8_init 171 = .ok (.bipush 24, 2) := by decide +kernel
theorem dX8_init_173 : decode cX8_init 173 = .ok (.invokespecial 83, 3) := by decide +kernel
theorem dX8_init_176 : decode cX8_init 176 = .ok (.aastore, 1) := by decide +kernel
theorem dX8_init_177 : decode cX8_init 177 = .ok (.iconst 0, 1) := by decide +kernel
theorem dX8_init_178 : decode cX8_init 178 = .ok (.istore_n 1, 1) := by decide +kernel
theorem dX8_init_179 : decode cX8_init 179 = .ok (.iload_n 1, 1) := by decide +kernel
theorem dX8_init_180 : decode cX8_init 180 = .ok (.iconst 4, 1) := by decide +kernel
theorem dX8_init_181 : decode cX8_init 181 = .ok (.if_icmp .ge 22, 3) := by decide +kernel
theorem dX8_init_184 : decode cX8_init 184 = .ok (.aload_n 0, 1) := by decide +kernel
theorem dX8_init_185 : decode cX8_init 185 = .ok (.getfield 72, 3) := by decide +kernel
theorem dX8_init_188 : decode cX8_init 188 = .ok (.iload_n 1, 1) := by decide +kernel
theorem dX8_init_189 : decode cX8_init 189 = .ok (.new 70, 3) := by decide +kernel
theorem dX8_init_192 : decode cX8_init 192 = .ok (.dup, 1) := by decide +kernel
theorem dX8_init_193 : decode cX8_init 193 = .ok (.invokespecial 86, 3) := by decide +kernel
theorem dX8_init_196 : decode cX8_init 196 = .ok (.aastore, 1) := by decide +kernel
theorem dX8_init_197 : decode cX8_init 197 = .ok (.iinc 1 1, 3) := by decide +kernel
theorem dX8_init_200 : decode cX8_init 200 = .ok (.goto (-21), 3) := by decide +kernel
theorem dX8_init_203 : decode cX8_init 203 = .ok (.return_, 1) := by decide +kernel
theorem dX8_type_0 : decode cX8_type 0 = .ok (.aload_n 0, 1) := by decide +kernel
theorem dX8_type_1 : decode cX8_type 1 = .ok (.iload_n 1, 1) := by decide +kernel
theorem dX8_type_2 : decode cX8_type 2 = .ok (.invokevirtual 87, 3) := by decide +kernel
theorem dX8_type_5 : decode cX8_type 5 = .ok (.astore_n 3, 1) := by decide +kernel
theorem dX8_type_6 : decode cX8_type 6 = .ok (.aload_n 3, 1) := by decide +kernel
theorem dX8_type_7 : decode cX8_type 7 = .ok (.ifnull 14, 3) := by decide +kernel
theorem dX8_type_10 : decode cX8_type 10 = .ok (.iload_n 2, 1) := by decide +kernel
theorem dX8_type_11 : decode cX8_type 11 = .ok (.iconst 0, 1) := by decide +kernel
theorem dX8_type_12 : decode cX8_type 12 = .ok (.sipush 255, 3) := by decide +kernel
theorem dX8_type_15 : decode cX8_type 15 = .ok (.invokestatic 91, 3) := by decide +kernel
theorem dX8_type_18 : decode cX8_type 18 = .ok (.ifCond .ne 6, 3) := by decide +kernel
theorem dX8_type_21 : decode cX8_type 21 = .ok (.bipush (-2), 2) := by decide +kernel
theorem dX8_type_23 : decode cX8_type 23 = .ok (.ireturn, 1) := by decide +kernel
theorem dX8_type_24 : decode cX8_type 24 = .ok (.aload_n 3, 1) := by decide +kernel
theorem dX8_type_25 : decode cX8_type 25 = .ok (.invokevirtual 95, 3) := by decide +kernel
theorem dX8_type_28 : decode cX8_type 28 = .ok (.ifCond .eq 6, 3) := by decide +kernel
theorem dX8_type_31 : decode cX8_type 31 = .ok (.bipush (-4), 2) := by decide +kernel
theorem dX8_type_33 : decode cX8_type 33 = .ok (.ireturn, 1) := by decide +kernel
theorem dX8_type_34 : decode cX8_type 34 = .ok (.aload_n 3, 1) := by decide +kernel
theorem dX8_type_35 : decode cX8_type 35 = .ok (.iload_n 2, 1) := by decide +kernel
theorem dX8_type_36 : decode cX8_type 36 = .ok (.invokevirtual 99, 3) := by decide +kernel
theorem dX8_type_39 : decode cX8_type 39 = .ok (.aload_n 0, 1) := by decide +kernel
theorem dX8_type_40 : decode cX8_type 40 = .ok (.iconst 1, 1) := by decide +kernel
theorem dX8_type_41 : decode cX8_type 41 = .ok (.putfield 76, 3) := by decide +kernel
theorem dX8_type_44 : decode cX8_type 44 = .ok (.aload_n 3, 1) := by decide +kernel
theorem dX8_type_45 : decode cX8_type 45 = .ok (.getfield 102, 3) := by decide +kernel
theorem dX8_type_48 : decode cX8_type 48 = .ok (.ireturn, 1) := by decide +kernel
theorem dX8_wipe_0 : decode cX8_wipe 0 = .ok (.aload_n 0, 1) := by decide +kernel
theorem dX8_wipe_1 : decode cX8_wipe 1 = .ok (.iload_n 1, 1) := by decide +kernel
theorem dX8_wipe_2 : decode cX8_wipe 2 = .ok (.invokevirtual 87, 3) := by decide +kernel
theorem dX8_wipe_5 : decode cX8_wipe 5 = .ok (.astore_n 2, 1) := by decide +kernel
theorem dX8_wipe_6 : decode cX8_wipe 6 = .ok (.aload_n 2, 1) := by decide +kernel
theorem dX8_wipe_7 : decode cX8_wipe 7 = .ok (.ifnonnull 6, 3) := by decide +kernel
theorem dX8_wipe_10 : decode cX8_wipe 10 = .ok (.bipush (-2), 2) := by decide +kernel
theorem dX8_wipe_12 : decode cX8_wipe 12 = .ok (.ireturn, 1) := by decide +kernel
theorem dX8_wipe_13 : decode cX8_wipe 13 = .ok (.aload_n 2, 1) := by decide +kernel
theorem dX8_wipe_14 : decode cX8_wipe 14 = .ok (.getfield 102, 3) := by decide +kernel
theorem dX8_wipe_17 : decode cX8_wipe 17 = .ok (.istore_n 3, 1) := by decide +kernel
theorem dX8_wipe_18 : decode cX8_wipe 18 = .ok (.aload_n 2, 1) := by decide +kernel
theorem dX8_wipe_19 : decode cX8_wipe 19 = .ok (.iconst 0, 1) := by decide +kernel
theorem dX8_wipe_20 : decode cX8_wipe 20 = .ok (.putfield 102, 3) := by decide +kernel
theorem dX8_wipe_23 : decode cX8_wipe 23 = .ok (.aload_n 0, 1) := by decide +kernel
theorem dX8_wipe_24 : decode cX8_wipe 24 = .ok (.iconst 1, 1) := by decide +kernel
theorem dX8_wipe_25 : decode cX8_wipe 25 = .ok (.putfield 76, 3) := by decide +kernel
theorem dX8_wipe_28 : decode cX8_wipe 28 = .ok (.iload_n 3, 1) := by decide +kernel
theorem dX8_wipe_29 : decode cX8_wipe 29 = .ok (.ireturn, 1) := by decide +kernel
theorem dX8_undo_0 : decode cX8_undo 0 = .ok (.aload_n 0, 1) := by decide +kernel
theorem dX8_undo_1 : decode cX8_undo 1 = .ok (.iload_n 1, 1) := by decide +kernel
theorem dX8_undo_2 : decode cX8_undo 2 = .ok (.invokevirtual 87, 3) := by decide +kernel
theorem dX8_undo_5 : decode cX8_undo 5 = .ok (.astore_n 2, 1) := by decide +kernel
theorem dX8_undo_6 : decode cX8_undo 6 = .ok (.aload_n 2, 1) := by decide +kernel
theorem dX8_undo_7 : decode cX8_undo 7 = .ok (.ifnonnull 6, 3) := by decide +kernel
theorem dX8_undo_10 : decode cX8_undo 10 = .ok (.bipush (-2), 2) := by decide +kernel
theorem dX8_undo_12 : decode cX8_undo 12 = .ok (.ireturn, 1) := by decide +kernel
theorem dX8_undo_13 : decode cX8_undo 13 = .ok (.aload_n 2, 1) := by decide +kernel
theorem dX8_undo_14 : decode cX8_undo 14 = .ok (.getfield 102, 3) := by decide +kernel
theorem dX8_undo_17 : decode cX8_undo 17 = .ok (.ifCond .ne 6, 3) := by decide +kernel
theorem dX8_undo_20 : decode cX8_undo 20 = .ok (.bipush (-3), 2) := by decide +kernel
theorem dX8_undo_22 : decode cX8_undo 22 = .ok (.ireturn, 1) := by decide +kernel
theorem dX8_undo_23 : decode cX8_undo 23 = .ok (.aload_n 2, 1) := by decide +kernel
theorem dX8_undo_24 : decode cX8_undo 24 = .ok (.dup, 1) := by decide +kernel
theorem dX8_undo_25 : decode cX8_undo 25 = .ok (.getfield 102, 3) := by decide +kernel
theorem dX8_undo_28 : decode cX8_undo 28 = .ok (.iconst 1, 1) := by decide +kernel
theorem dX8_undo_29 : decode cX8_undo 29 = .ok (.isub, 1) := by decide +kernel
theorem dX8_undo_30 : decode cX8_undo 30 = .ok (.putfield 102, 3) := by decide +kernel
theorem dX8_undo_33 : decode cX8_undo 33 = .ok (.aload_n 0, 1) := by decide +kernel
theorem dX8_undo_34 : decode cX8_undo 34 = .ok (.iconst 1, 1) := by decide +kernel
theorem dX8_undo_35 : decode cX8_undo 35 = .ok (.putfield 76, 3) := by decide +kernel
theorem dX8_undo_38 : decode cX8_undo 38 = .ok (.aload_n 2, 1) := by decide +kernel
theorem dX8_undo_39 : decode cX8_undo 39 = .ok (.getfield 102, 3) := by decide +kernel
theorem dX8_undo_42 : decode cX8_undo 42 = .ok (.ireturn, 1) := by decide +kernel
theorem dX8_fault_0 : decode cX8_fault 0 = .ok (.aload_n 0, 1) := by decide +kernel
theorem dX8_fault_1 : decode cX8_fault 1 = .ok (.iload_n 1, 1) := by decide +kernel
theorem dX8_fault_2 : decode cX8_fault 2 = .ok (.invokevirtual 87, 3) := by decide +kernel
theorem dX8_fault_5 : decode cX8_fault 5 = .ok (.astore_n 2, 1) := by decide +kernel
theorem dX8_fault_6 : decode cX8_fault 6 = .ok (.aload_n 2, 1) := by decide +kernel
theorem dX8_fault_7 : decode cX8_fault 7 = .ok (.ifnonnull 8, 3) := by decide +kernel
theorem dX8_fault_10 : decode cX8_fault 10 = .ok (.bipush (-2), 2) := by decide +kernel
theorem dX8_fault_12 : decode cX8_fault 12 = .ok (.goto 8, 3) := by decide +kernel
theorem dX8_fault_15 : decode cX8_fault 15 = .ok (.iload_n 1, 1) := by decide +kernel
theorem dX8_fault_16 : decode cX8_fault 16 = .ok (.aload_n 2, 1) := by decide +kernel
theorem dX8_fault_17 : decode cX8_fault 17 = .ok (.invokestatic 106, 3) := by decide +kernel
theorem dX8_fault_20 : decode cX8_fault 20 = .ok (.ireturn, 1) := by decide +kernel
theorem dX8_plank_0 : decode cX8_plank 0 = .ok (.iload_n 1, 1) := by decide +kernel
theorem dX8_plank_1 : decode cX8_plank 1 = .ok (.iconst 0, 1) := by decide +kernel
theorem dX8_plank_2 : decode cX8_plank 2 = .ok (.bipush 18, 2) := by decide +kernel
theorem dX8_plank_4 : decode cX8_plank 4 = .ok (.invokestatic 91, 3) := by decide +kernel
theorem dX8_plank_7 : decode cX8_plank 7 = .ok (.ifCond .ne 6, 3) := by decide +kernel
theorem dX8_plank_10 : decode cX8_plank 10 = .ok (.bipush (-2), 2) := by decide +kernel
theorem dX8_plank_12 : decode cX8_plank 12 = .ok (.ireturn, 1) := by decide +kernel
theorem dX8_plank_13 : decode cX8_plank 13 = .ok (.aload_n 0, 1) := by decide +kernel
theorem dX8_plank_14 : decode cX8_plank 14 = .ok (.invokevirtual 110, 3) := by decide +kernel
theorem dX8_plank_17 : decode cX8_plank 17 = .ok (.aload_n 0, 1) := by decide +kernel
theorem dX8_plank_18 : decode cX8_plank 18 = .ok (.getfield 18, 3) := by decide +kernel
theorem dX8_plank_21 : decode cX8_plank 21 = .ok (.iload_n 1, 1) := by decide +kernel
theorem dX8_plank_22 : decode cX8_plank 22 = .ok (.invokevirtual 113, 3) := by decide +kernel
theorem dX8_plank_25 : decode cX8_plank 25 = .ok (.ifCond .ne 5, 3) := by decide +kernel
theorem dX8_plank_28 : decode cX8_plank 28 = .ok (.iconst (-1), 1) := by decide +kernel
theorem dX8_plank_29 : decode cX8_plank 29 = .ok (.ireturn, 1) := by decide +kernel
theorem dX8_plank_30 : decode cX8_plank 30 = .ok (.aload_n 0, 1) := by decide +kernel
theorem dX8_plank_31 : decode cX8_plank 31 = .ok (.getfield 18, 3) := by decide +kernel
theorem dX8_plank_34 : decode cX8_plank 34 = .ok (.iload_n 1, 1) := by decide +kernel
theorem dX8_plank_35 : decode cX8_plank 35 = .ok (.invokevirtual 117, 3) := by decide +kernel
theorem dX8_plank_38 : decode cX8_plank 38 = .ok (.ifCond .eq 7, 3) := by decide +kernel
theorem dX8_plank_41 : decode cX8_plank 41 = .ok (.iconst 1, 1) := by decide +kernel
theorem dX8_plank_42 : decode cX8_plank 42 = .ok (.goto 4, 3) := by decide +kernel
theorem dX8_plank_45 : decode cX8_plank 45 = .ok (.iconst 0, 1) := by decide +kernel
theorem dX8_plank_46 : decode cX8_plank 46 = .ok (.ireturn, 1) := by decide +kernel
theorem dX8_crosser_0 : decode cX8_crosser 0 = .ok (.aload_n 0, 1) := by decide +kernel
theorem dX8_crosser_1 : decode cX8_crosser 1 = .ok (.invokevirtual 110, 3) := by decide +kernel
theorem dX8_crosser_4 : decode cX8_crosser 4 = .ok (.aload_n 0, 1) := by decide +kernel
theorem dX8_crosser_5 : decode cX8_crosser 5 = .ok (.getfield 25, 3) := by decide +kernel
theorem dX8_crosser_8 : decode cX8_crosser 8 = .ok (.iload_n 1, 1) := by decide +kernel
theorem dX8_crosser_9 : decode cX8_crosser 9 = .ok (.invokevirtual 120, 3) := by decide +kernel
theorem dX8_crosser_12 : decode cX8_crosser 12 = .ok (.astore_n 3, 1) := by decide +kernel
theorem dX8_crosser_13 : decode cX8_crosser 13 = .ok (.aload_n 3, 1) := by decide +kernel
theorem dX8_crosser_14 : decode cX8_crosser 14 = .ok (.ifnonnull 6, 3) := by decide +kernel
theorem dX8_crosser_17 : decode cX8_crosser 17 = .ok (.bipush (-2), 2) := by decide +kernel
theorem dX8_crosser_19 : decode cX8_crosser 19 = .ok (.ireturn, 1) := by decide +kernel
theorem dX8_crosser_20 : decode cX8_crosser 20 = .ok (.iload_n 2, 1) := by decide +kernel
theorem dX8_crosser_21 : decode cX8_crosser 21 = .ok (.tableswitch 51 0 3 #[31, 36, 41, 46], 31) := by decide +kernel
theorem dX8_crosser_52 : decode cX8_crosser 52 = .ok (.aload_n 3, 1) := by decide +kernel
theorem dX8_crosser_53 : decode cX8_crosser 53 = .ok (.getfield 124, 3) := by decide +kernel
theorem dX8_crosser_56 : decode cX8_crosser 56 = .ok (.ireturn, 1) := by decide +kernel
theorem dX8_crosser_57 : decode cX8_crosser 57 = .ok (.aload_n 3, 1) := by decide +kernel
theorem dX8_crosser_58 : decode cX8_crosser 58 = .ok (.getfield 129, 3) := by decide +kernel
theorem dX8_crosser_61 : decode cX8_crosser 61 = .ok (.ireturn, 1) := by decide +kernel
theorem dX8_crosser_62 : decode cX8_crosser 62 = .ok (.aload_n 3, 1) := by decide +kernel
theorem dX8_crosser_63 : decode cX8_crosser 63 = .ok (.getfield 132, 3) := by decide +kernel
theorem dX8_crosser_66 : decode cX8_crosser 66 = .ok (.ireturn, 1) := by decide +kernel
theorem dX8_crosser_67 : decode cX8_crosser 67 = .ok (.aload_n 3, 1) := by decide +kernel
theorem dX8_crosser_68 : decode cX8_crosser 68 = .ok (.getfield 135, 3) := by decide +kernel
theorem dX8_crosser_71 : decode cX8_crosser 71 = .ok (.ireturn, 1) := by decide +kernel
theorem dX8_crosser_72 : decode cX8_crosser 72 = .ok (.bipush (-2), 2) := by decide +kernel
theorem dX8_crosser_74 : decode cX8_crosser 74 = .ok (.ireturn, 1) := by decide +kernel
theorem dX8_crossing_0 : decode cX8_crossing 0 = .ok (.iload_n 1, 1) := by decide +kernel
theorem dX8_crossing_1 : decode cX8_crossing 1 = .ok (.iconst 0, 1) := by decide +kernel
theorem dX8_crossing_2 : decode cX8_crossing 2 = .ok (.bipush 23, 2) := by decide +kernel
theorem dX8_crossing_4 : decode cX8_crossing 4 = .ok (.invokestatic 91, 3) := by decide +kernel
theorem dX8_crossing_7 : decode cX8_crossing 7 = .ok (.ifCond .ne 6, 3) := by decide +kernel
theorem dX8_crossing_10 : decode cX8_crossing 10 = .ok (.bipush (-2), 2) := by decide +kernel
theorem dX8_crossing_12 : decode cX8_crossing 12 = .ok (.ireturn, 1) := by decide +kernel
theorem dX8_crossing_13 : decode cX8_crossing 13 = .ok (.aload_n 0, 1) := by decide +kernel
theorem dX8_crossing_14 : decode cX8_crossing 14 = .ok (.invokevirtual 110, 3) := by decide +kernel
theorem dX8_crossing_17 : decode cX8_crossing 17 = .ok (.aload_n 0, 1) := by decide +kernel
theorem dX8_crossing_18 : decode cX8_crossing 18 = .ok (.getfield 32, 3) := by decide +kernel
theorem dX8_crossing_21 : decode cX8_crossing 21 = .ok (.iload_n 1, 1) := by decide +kernel
theorem dX8_crossing_22 : decode cX8_crossing 22 = .ok (.invokevirtual 138, 3) := by decide +kernel
theorem dX8_crossing_25 : decode cX8_crossing 25 = .ok (.ireturn, 1) := by decide +kernel
theorem dX8_set_0 : decode cX8_set 0 = .ok (.iload_n 1, 1) := by decide +kernel
theorem dX8_set_1 : decode cX8_set 1 = .ok (.ifCond .ne 36, 3) := by decide +kernel
theorem dX8_set_4 : decode cX8_set 4 = .ok (.iload_n 2, 1) := by decide +kernel
theorem dX8_set_5 : decode cX8_set 5 = .ok (.iconst 0, 1) := by decide +kernel
theorem dX8_set_6 : decode cX8_set 6 = .ok (.bipush 9, 2) := by decide +kernel
theorem dX8_set_8 : decode cX8_set 8 = .ok (.invokestatic 91, 3) := by decide +kernel
theorem dX8_set_11 : decode cX8_set 11 = .ok (.ifCond .eq 26, 3) := by decide +kernel
theorem dX8_set_14 : decode cX8_set 14 = .ok (.aload_n 0, 1) := by decide +kernel
theorem dX8_set_15 : decode cX8_set 15 = .ok (.getfield 18, 3) := by decide +kernel
theorem dX8_set_18 : decode cX8_set 18 = .ok (.getfield 142, 3) := by decide +kernel
theorem dX8_set_21 : decode cX8_set 21 = .ok (.istore_n 3, 1) := by decide +kernel
theorem dX8_set_22 : decode cX8_set 22 = .ok (.aload_n 0, 1) := by decide +kernel
theorem dX8_set_23 : decode cX8_set 23 = .ok (.getfield 18, 3) := by decide +kernel
theorem dX8_set_26 : decode cX8_set 26 = .ok (.iload_n 2, 1) := by decide +kernel
theorem dX8_set_27 : decode cX8_set 27 = .ok (.putfield 142, 3) := by decide +kernel
theorem dX8_set_30 : decode cX8_set 30 = .ok (.aload_n 0, 1) := by decide +kernel
theorem dX8_set_31 : decode cX8_set 31 = .ok (.iconst 1, 1) := by decide +kernel
theorem dX8_set_32 : decode cX8_set 32 = .ok (.putfield 76, 3) := by decide +kernel
theorem dX8_set_35 : decode cX8_set 35 = .ok (.iload_n 3, 1) := by decide +kernel
theorem dX8_set_36 : decode cX8_set 36 = .ok (.ireturn, 1) := by decide +kernel
theorem dX8_set_37 : decode cX8_set 37 = .ok (.iload_n 1, 1) := by decide +kernel
theorem dX8_set_38 : decode cX8_set 38 = .ok (.iconst 1, 1) := by decide +kernel
theorem dX8_set_39 : decode cX8_set 39 = .ok (.if_icmp .ne 36, 3) := by decide +kernel
theorem dX8_set_42 : decode cX8_set 42 = .ok (.iload_n 2, 1) := by decide +kernel
theorem dX8_set_43 : decode cX8_set 43 = .ok (.iconst 0, 1) := by decide +kernel
theorem dX8_set_44 : decode cX8_set 44 = .ok (.bipush 18, 2) := by decide +kernel
theorem dX8_set_46 : decode cX8_set 46 = .ok (.invokestatic 91, 3) := by decide +kernel
theorem dX8_set_49 : decode cX8_set 49 = .ok (.ifCond .eq 26, 3) := by decide +kernel
theorem dX8_set_52 : decode cX8_set 52 = .ok (.aload_n 0, 1) := by decide +kernel
theorem dX8_set_53 : decode cX8_set 53 = .ok (.getfield 18, 3) := by decide +kernel
theorem dX8_set_56 : decode cX8_set 56 = .ok (.getfield 145, 3) := by decide +kernel
theorem dX8_set_59 : decode cX8_set 59 = .ok (.istore_n 3, 1) := by decide +kernel
theorem dX8_set_60 : decode cX8_set 60 = .ok (.aload_n 0, 1) := by decide +kernel
theorem dX8_set_61 : decode cX8_set 61 = .ok (.getfield 18, 3) := by decide +kernel
theorem dX8_set_64 : decode cX8_set 64 = .ok (.iload_n 2, 1) := by decide +kernel
theorem dX8_set_65 : decode cX8_set 65 = .ok (.putfield 145, 3) := by decide +kernel
theorem dX8_set_68 : decode cX8_set 68 = .ok (.aload_n 0, 1) := by decide +kernel
theorem dX8_set_69 : decode cX8_set 69 = .ok (.iconst 1, 1) := by decide +kernel
theorem dX8_set_70 : decode cX8_set 70 = .ok (.putfield 76, 3) := by decide +kernel
theorem dX8_set_73 : decode cX8_set 73 = .ok (.iload_n 3, 1) := by decide +kernel
theorem dX8_set_74 : decode cX8_set 74 = .ok (.ireturn, 1) := by decide +kernel
theorem dX8_set_75 : decode cX8_set 75 = .ok (.bipush (-2), 2) := by decide +kernel
theorem dX8_set_77 : decode cX8_set 77 = .ok (.ireturn, 1) := by decide +kernel
theorem dX8_shift_0 : decode cX8_shift 0 = .ok (.iload_n 1, 1) := by decide +kernel
theorem dX8_shift_1 : decode cX8_shift 1 = .ok (.iconst 0, 1) := by decide +kernel
theorem dX8_shift_2 : decode cX8_shift 2 = .ok (.iconst 3, 1) := by decide +kernel
theorem dX8_shift_3 : decode cX8_shift 3 = .ok (.invokestatic 91, 3) := by decide +kernel
theorem dX8_shift_6 : decode cX8_shift 6 = .ok (.ifCond .eq 14, 3) := by decide +kernel
theorem dX8_shift_9 : decode cX8_shift 9 = .ok (.iload_n 2, 1) := by decide +kernel
theorem dX8_shift_10 : decode cX8_shift 10 = .ok (.bipush (-9), 2) := by decide +kernel
theorem dX8_shift_12 : decode cX8_shift 12 = .ok (.bipush 9, 2) := by decide +kernel
theorem dX8_shift_14 : decode cX8_shift 14 = .ok (.invokestatic 91, 3) := by decide +kernel
theorem dX8_shift_17 : decode cX8_shift 17 = .ok (.ifCond .ne 7, 3) := by decide +kernel
theorem dX8_shift_20 : decode cX8_shift 20 = .ok (.sipush (-10002), 3) := by decide +kernel
theorem dX8_shift_23 : decode cX8_shift 23 = .ok (.ireturn, 1) := by decide +kernel
theorem dX8_shift_24 : decode cX8_shift 24 = .ok (.aload_n 0, 1) := by decide +kernel
theorem dX8_shift_25 : decode cX8_shift 25 = .ok (.getfield 18, 3) := by decide +kernel
theorem dX8_shift_28 : decode cX8_shift 28 = .ok (.getfield 148, 3) := by decide +kernel
theorem dX8_shift_31 : decode cX8_shift 31 = .ok (.iload_n 1, 1) := by decide +kernel
theorem dX8_shift_32 : decode cX8_shift 32 = .ok (.iaload, 1) := by decide +kernel
theorem dX8_shift_33 : decode cX8_shift 33 = .ok (.istore_n 3, 1) := by decide +kernel
theorem dX8_shift_34 : decode cX8_shift 34 = .ok (.aload_n 0, 1) := by decide +kernel
theorem dX8_shift_35 : decode cX8_shift 35 = .ok (.getfield 18, 3) := by decide +kernel
theorem dX8_shift_38 : decode cX8_shift 38 = .ok (.getfield 148, 3) := by decide +kernel
theorem dX8_shift_41 : decode cX8_shift 41 = .ok (.iload_n 1, 1) := by decide +kernel
theorem dX8_shift_42 : decode cX8_shift 42 = .ok (.iload_n 2, 1) := by decide +kernel
theorem dX8_shift_43 : decode cX8_shift 43 = .ok (.iastore, 1) := by decide +kernel
theorem dX8_shift_44 : decode cX8_shift 44 = .ok (.aload_n 0, 1) := by decide +kernel
theorem dX8_shift_45 : decode cX8_shift 45 = .ok (.iconst 1, 1) := by decide +kernel
theorem dX8_shift_46 : decode cX8_shift 46 = .ok (.putfield 76, 3) := by decide +kernel
theorem dX8_shift_49 : decode cX8_shift 49 = .ok (.iload_n 3, 1) := by decide +kernel
theorem dX8_shift_50 : decode cX8_shift 50 = .ok (.ireturn, 1) := by decide +kernel
theorem dX8_gap_0 : decode cX8_gap 0 = .ok (.aload_n 0, 1) := by decide +kernel
theorem dX8_gap_1 : decode cX8_gap 1 = .ok (.invokevirtual 110, 3) := by decide +kernel
theorem dX8_gap_4 : decode cX8_gap 4 = .ok (.aload_n 0, 1) := by decide +kernel
theorem dX8_gap_5 : decode cX8_gap 5 = .ok (.iload_n 1, 1) := by decide +kernel
theorem dX8_gap_6 : decode cX8_gap 6 = .ok (.invokevirtual 151, 3) := by decide +kernel
theorem dX8_gap_9 : decode cX8_gap 9 = .ok (.ifCond .eq 12, 3) := by decide +kernel
theorem dX8_gap_12 : decode cX8_gap 12 = .ok (.aload_n 0, 1) := by decide +kernel
theorem dX8_gap_13 : decode cX8_gap 13 = .ok (.getfield 36, 3) := by decide +kernel
theorem dX8_gap_16 : decode cX8_gap 16 = .ok (.iload_n 1, 1) := by decide +kernel
theorem dX8_gap_17 : decode cX8_gap 17 = .ok (.iaload, 1) := by decide +kernel
theorem dX8_gap_18 : decode cX8_gap 18 = .ok (.goto 5, 3) := by decide +kernel
theorem dX8_gap_21 : decode cX8_gap 21 = .ok (.bipush (-2), 2) := by decide +kernel
theorem dX8_gap_23 : decode cX8_gap 23 = .ok (.ireturn, 1) := by decide +kernel
theorem dX8_comes_0 : decode cX8_comes 0 = .ok (.aload_n 0, 1) := by decide +kernel
theorem dX8_comes_1 : decode cX8_comes 1 = .ok (.invokevirtual 110, 3) := by decide +kernel
theorem dX8_comes_4 : decode cX8_comes 4 = .ok (.iload_n 1, 1) := by decide +kernel
theorem dX8_comes_5 : decode cX8_comes 5 = .ok (.iconst 0, 1) := by decide +kernel
theorem dX8_comes_6 : decode cX8_comes 6 = .ok (.aload_n 0, 1) := by decide +kernel
theorem dX8_comes_7 : decode cX8_comes 7 = .ok (.getfield 32, 3) := by decide +kernel
theorem dX8_comes_10 : decode cX8_comes 10 = .ok (.getfield 154, 3) := by decide +kernel
theorem dX8_comes_13 : decode cX8_comes 13 = .ok (.iconst 1, 1) := by decide +kernel
theorem dX8_comes_14 : decode cX8_comes 14 = .ok (.isub, 1) := by decide +kernel
theorem dX8_comes_15 : decode cX8_comes 15 = .ok (.invokestatic 91, 3) := by decide +kernel
theorem dX8_comes_18 : decode cX8_comes 18 = .ok (.ifCond .ne 6, 3) := by decide +kernel
theorem dX8_comes_21 : decode cX8_comes 21 = .ok (.bipush (-2), 2) := by decide +kernel
theorem dX8_comes_23 : decode cX8_comes 23 = .ok (.ireturn, 1) := by decide +kernel
theorem dX8_comes_24 : decode cX8_comes 24 = .ok (.aload_n 0, 1) := by decide +kernel
theorem dX8_comes_25 : decode cX8_comes 25 = .ok (.getfield 25, 3) := by decide +kernel
theorem dX8_comes_28 : decode cX8_comes 28 = .ok (.aload_n 0, 1) := by decide +kernel
theorem dX8_comes_29 : decode cX8_comes 29 = .ok (.getfield 32, 3) := by decide +kernel
theorem dX8_comes_32 : decode cX8_comes 32 = .ok (.iload_n 1, 1) := by decide +kernel
theorem dX8_comes_33 : decode cX8_comes 33 = .ok (.invokevirtual 138, 3) := by decide +kernel
theorem dX8_comes_36 : decode cX8_comes 36 = .ok (.invokevirtual 120, 3) := by decide +kernel
theorem dX8_comes_39 : decode cX8_comes 39 = .ok (.astore_n 3, 1) := by decide +kernel
theorem dX8_comes_40 : decode cX8_comes 40 = .ok (.aload_n 0, 1) := by decide +kernel
theorem dX8_comes_41 : decode cX8_comes 41 = .ok (.getfield 36, 3) := by decide +kernel
theorem dX8_comes_44 : decode cX8_comes 44 = .ok (.iload_n 1, 1) := by decide +kernel
theorem dX8_comes_45 : decode cX8_comes 45 = .ok (.iaload, 1) := by decide +kernel
theorem dX8_comes_46 : decode cX8_comes 46 = .ok (.istore 4, 2) := by decide +kernel
theorem dX8_comes_48 : decode cX8_comes 48 = .ok (.iload_n 2, 1) := by decide +kernel
theorem dX8_comes_49 : decode cX8_comes 49 = .ok (.tableswitch 60 0 2 #[27, 38, 49], 27) := by decide +kernel
theorem dX8_comes_76 : decode cX8_comes 76 = .ok (.aload_n 0, 1) := by decide +kernel
theorem dX8_comes_77 : decode cX8_comes 77 = .ok (.getfield 18, 3) := by decide +kernel
theorem dX8_comes_80 : decode cX8_comes 80 = .ok (.aload_n 3, 1) := by decide +kernel
theorem dX8_comes_81 : decode cX8_comes 81 = .ok (.iload 4, 2) := by decide +kernel
theorem dX8_comes_83 : decode cX8_comes 83 = .ok (.invokevirtual 157, 3) := by decide +kernel
theorem dX8_comes_86 : decode cX8_comes 86 = .ok (.ireturn, 1) := by decide +kernel
theorem dX8_comes_87 : decode cX8_comes 87 = .ok (.aload_n 0, 1) := by decide +kernel
theorem dX8_comes_88 : decode cX8_comes 88 = .ok (.getfield 18, 3) := by decide +kernel
theorem dX8_comes_91 : decode cX8_comes 91 = .ok (.aload_n 3, 1) := by decide +kernel
theorem dX8_comes_92 : decode cX8_comes 92 = .ok (.iload 4, 2) := by decide +kernel
theorem dX8_comes_94 : decode cX8_comes 94 = .ok (.invokevirtual 161, 3) := by decide +kernel
theorem dX8_comes_97 : decode cX8_comes 97 = .ok (.ireturn, 1) := by decide +kernel
theorem dX8_comes_98 : decode cX8_comes 98 = .ok (.aload_n 0, 1) := by decide +kernel
theorem dX8_comes_99 : decode cX8_comes 99 = .ok (.getfield 18, 3) := by decide +kernel
theorem dX8_comes_102 : decode cX8_comes 102 = .ok (.aload_n 3, 1) := by decide +kernel
theorem dX8_comes_103 : decode cX8_comes 103 = .ok (.iload 4, 2) := by decide +kernel
theorem dX8_comes_105 : decode cX8_comes 105 = .ok (.invokevirtual 164, 3) := by decide +kernel
theorem dX8_comes_108 : decode cX8_comes 108 = .ok (.ireturn, 1) := by decide +kernel
theorem dX8_comes_109 : decode cX8_comes 109 = .ok (.bipush (-2), 2) := by decide +kernel
theorem dX8_comes_111 : decode cX8_comes 111 = .ok (.ireturn, 1) := by decide +kernel
theorem dX8_times_0 : decode cX8_times 0 = .ok (.aload_n 0, 1) := by decide +kernel
theorem dX8_times_1 : decode cX8_times 1 = .ok (.invokevirtual 110, 3) := by decide +kernel
theorem dX8_times_4 : decode cX8_times 4 = .ok (.aload_n 0, 1) := by decide +kernel
theorem dX8_times_5 : decode cX8_times 5 = .ok (.getfield 25, 3) := by decide +kernel
theorem dX8_times_8 : decode cX8_times 8 = .ok (.iload_n 1, 1) := by decide +kernel
theorem dX8_times_9 : decode cX8_times 9 = .ok (.invokevirtual 120, 3) := by decide +kernel
theorem dX8_times_12 : decode cX8_times 12 = .ok (.ifnull 12, 3) := by decide +kernel
theorem dX8_times_15 : decode cX8_times 15 = .ok (.iload_n 2, 1) := by decide +kernel
theorem dX8_times_16 : decode cX8_times 16 = .ok (.iconst 0, 1) := by decide +kernel
theorem dX8_times_17 : decode cX8_times 17 = .ok (.iconst 1, 1) := by decide +kernel
theorem dX8_times_18 : decode cX8_times 18 = .ok (.invokestatic 91, 3) := by decide +kernel
theorem dX8_times_21 : decode cX8_times 21 = .ok (.ifCond .ne 6, 3) := by decide +kernel
theorem dX8_times_24 : decode cX8_times 24 = .ok (.bipush (-2), 2) := by decide +kernel
theorem dX8_times_26 : decode cX8_times 26 = .ok (.ireturn, 1) := by decide +kernel
theorem dX8_times_27 : decode cX8_times 27 = .ok (.iload_n 2, 1) := by decide +kernel
theorem dX8_times_28 : decode cX8_times 28 = .ok (.ifCond .ne 7, 3) := by decide +kernel
theorem dX8_times_31 : decode cX8_times 31 = .ok (.iconst 1, 1) := by decide +kernel
theorem dX8_times_32 : decode cX8_times 32 = .ok (.goto 4, 3) := by decide +kernel
theorem dX8_times_35 : decode cX8_times 35 = .ok (.iconst 2, 1) := by decide +kernel
theorem dX8_times_36 : decode cX8_times 36 = .ok (.istore_n 3, 1) := by decide +kernel
theorem dX8_times_37 : decode cX8_times 37 = .ok (.iconst 0, 1) := by decide +kernel
theorem dX8_times_38 : decode cX8_times 38 = .ok (.istore 4, 2) := by decide +kernel
theorem dX8_times_40 : decode cX8_times 40 = .ok (.iconst 0, 1) := by decide +kernel
theorem dX8_times_41 : decode cX8_times 41 = .ok (.istore 5, 2) := by decide +kernel
theorem dX8_times_43 : decode cX8_times 43 = .ok (.iload 5, 2) := by decide +kernel
theorem dX8_times_45 : decode cX8_times 45 = .ok (.aload_n 0, 1) := by decide +kernel
theorem dX8_times_46 : decode cX8_times 46 = .ok (.getfield 32, 3) := by decide +kernel
theorem dX8_times_49 : decode cX8_times 49 = .ok (.getfield 154, 3) := by decide +kernel
theorem dX8_times_52 : decode cX8_times 52 = .ok (.if_icmp .ge 35, 3) := by decide +kernel
theorem dX8_times_55 : decode cX8_times 55 = .ok (.aload_n 0, 1) := by decide +kernel
theorem dX8_times_56 : decode cX8_times 56 = .ok (.getfield 32, 3) := by decide +kernel
theorem dX8_times_59 : decode cX8_times 59 = .ok (.iload 5, 2) := by decide +kernel
theorem dX8_times_61 : decode cX8_times 61 = .ok (.invokevirtual 138, 3) := by decide +kernel
theorem dX8_times_64 : decode cX8_times 64 = .ok (.iload_n 1, 1) := by decide +kernel
theorem dX8_times_65 : decode cX8_times 65 = .ok (.if_icmp .ne 16, 3) := by decide +kernel
theorem dX8_times_68 : decode cX8_times 68 = .ok (.aload_n 0, 1) := by decide +kernel
theorem dX8_times_69 : decode cX8_times 69 = .ok (.iload 5, 2) := by decide +kernel
theorem dX8_times_71 : decode cX8_times 71 = .ok (.invokevirtual 167, 3) := by decide +kernel
theorem dX8_times_74 : decode cX8_times 74 = .ok (.iload_n 3, 1) := by decide +kernel
theorem dX8_times_75 : decode cX8_times 75 = .ok (.if_icmp .ne 6, 3) := by decide +kernel
theorem dX8_times_78 : decode cX8_times 78 = .ok (.iinc 4 1, 3) := by decide +kernel
theorem dX8_times_81 : decode cX8_times 81 = .ok (.iinc 5 1, 3) := by decide +kernel
theorem dX8_times_84 : decode cX8_times 84 = .ok (.goto (-41), 3) := by decide +kernel
theorem dX8_times_87 : decode cX8_times 87 = .ok (.iload 4, 2) := by decide +kernel
theorem dX8_times_89 : decode cX8_times 89 = .ok (.ireturn, 1) := by decide +kernel
theorem dX8_taken_0 : decode cX8_taken 0 = .ok (.aload_n 0, 1) := by decide +kernel
theorem dX8_taken_1 : decode cX8_taken 1 = .ok (.invokevirtual 110, 3) := by decide +kernel
theorem dX8_taken_4 : decode cX8_taken 4 = .ok (.aload_n 0, 1) := by decide +kernel
theorem dX8_taken_5 : decode cX8_taken 5 = .ok (.iload_n 1, 1) := by decide +kernel
theorem dX8_taken_6 : decode cX8_taken 6 = .ok (.invokevirtual 151, 3) := by decide +kernel
theorem dX8_taken_9 : decode cX8_taken 9 = .ok (.ifCond .eq 11, 3) := by decide +kernel
theorem dX8_taken_12 : decode cX8_taken 12 = .ok (.aload_n 0, 1) := by decide +kernel
theorem dX8_taken_13 : decode cX8_taken 13 = .ok (.iload_n 1, 1) := by decide +kernel
theorem dX8_taken_14 : decode cX8_taken 14 = .ok (.invokevirtual 170, 3) := by decide +kernel
theorem dX8_taken_17 : decode cX8_taken 17 = .ok (.goto 5, 3) := by decide +kernel
theorem dX8_taken_20 : decode cX8_taken 20 = .ok (.bipush (-2), 2) := by decide +kernel
theorem dX8_taken_22 : decode cX8_taken 22 = .ok (.ireturn, 1) := by decide +kernel
theorem dX8_stuck_0 : decode cX8_stuck 0 = .ok (.aload_n 0, 1) := by decide +kernel
theorem dX8_stuck_1 : decode cX8_stuck 1 = .ok (.invokevirtual 110, 3) := by decide +kernel
theorem dX8_stuck_4 : decode cX8_stuck 4 = .ok (.iconst 0, 1) := by decide +kernel
theorem dX8_stuck_5 : decode cX8_stuck 5 = .ok (.istore_n 1, 1) := by decide +kernel
theorem dX8_stuck_6 : decode cX8_stuck 6 = .ok (.iload_n 1, 1) := by decide +kernel
theorem dX8_stuck_7 : decode cX8_stuck 7 = .ok (.aload_n 0, 1) := by decide +kernel
theorem dX8_stuck_8 : decode cX8_stuck 8 = .ok (.getfield 32, 3) := by decide +kernel
theorem dX8_stuck_11 : decode cX8_stuck 11 = .ok (.getfield 154, 3) := by decide +kernel
theorem dX8_stuck_14 : decode cX8_stuck 14 = .ok (.if_icmp .ge 20, 3) := by decide +kernel
theorem dX8_stuck_17 : decode cX8_stuck 17 = .ok (.aload_n 0, 1) := by decide +kernel
theorem dX8_stuck_18 : decode cX8_stuck 18 = .ok (.iload_n 1, 1) := by decide +kernel
theorem dX8_stuck_19 : decode cX8_stuck 19 = .ok (.invokevirtual 167, 3) := by decide +kernel
theorem dX8_stuck_22 : decode cX8_stuck 22 = .ok (.iconst 2, 1) := by decide +kernel
theorem dX8_stuck_23 : decode cX8_stuck 23 = .ok (.if_icmp .ne 5, 3) := by decide +kernel
theorem dX8_stuck_26 : decode cX8_stuck 26 = .ok (.iload_n 1, 1) := by decide +kernel
theorem dX8_stuck_27 : decode cX8_stuck 27 = .ok (.ireturn, 1) := by decide +kernel
theorem dX8_stuck_28 : decode cX8_stuck 28 = .ok (.iinc 1 1, 3) := by decide +kernel
theorem dX8_stuck_31 : decode cX8_stuck 31 = .ok (.goto (-25), 3) := by decide +kernel
theorem dX8_stuck_34 : decode cX8_stuck 34 = .ok (.iconst (-1), 1) := by decide +kernel
theorem dX8_stuck_35 : decode cX8_stuck 35 = .ok (.ireturn, 1) := by decide +kernel
theorem dX8_worn_0 : decode cX8_worn 0 = .ok (.aload_n 0, 1) := by decide +kernel
theorem dX8_worn_1 : decode cX8_worn 1 = .ok (.invokevirtual 110, 3) := by decide +kernel
theorem dX8_worn_4 : decode cX8_worn 4 = .ok (.aload_n 0, 1) := by decide +kernel
theorem dX8_worn_5 : decode cX8_worn 5 = .ok (.invokevirtual 173, 3) := by decide +kernel
theorem dX8_worn_8 : decode cX8_worn 8 = .ok (.iconst (-1), 1) := by decide +kernel
theorem dX8_worn_9 : decode cX8_worn 9 = .ok (.istore_n 1, 1) := by decide +kernel
theorem dX8_worn_10 : decode cX8_worn 10 = .ok (.iconst 0, 1) := by decide +kernel
theorem dX8_worn_11 : decode cX8_worn 11 = .ok (.istore_n 2, 1) := by decide +kernel
theorem dX8_worn_12 : decode cX8_worn 12 = .ok (.iconst 0, 1) := by decide +kernel
theorem dX8_worn_13 : decode cX8_worn 13 = .ok (.istore_n 3, 1) := by decide +kernel
theorem dX8_worn_14 : decode cX8_worn 14 = .ok (.iload_n 3, 1) := by decide +kernel
theorem dX8_worn_15 : decode cX8_worn 15 = .ok (.aload_n 0, 1) := by decide +kernel
theorem dX8_worn_16 : decode cX8_worn 16 = .ok (.getfield 18, 3) := by decide +kernel
theorem dX8_worn_19 : decode cX8_worn 19 = .ok (.getfield 176, 3) := by decide +kernel
theorem dX8_worn_22 : decode cX8_worn 22 = .ok (.if_icmp .ge 28, 3) := by decide +kernel
theorem dX8_worn_25 : decode cX8_worn 25 = .ok (.aload_n 0, 1) := by decide +kernel
theorem dX8_worn_26 : decode cX8_worn 26 = .ok (.getfield 46, 3) := by decide +kernel
theorem dX8_worn_29 : decode cX8_worn 29 = .ok (.iload_n 3, 1) := by decide +kernel
theorem dX8_worn_30 : decode cX8_worn 30 = .ok (.iaload, 1) := by decide +kernel
theorem dX8_worn_31 : decode cX8_worn 31 = .ok (.iload_n 2, 1) := by decide +kernel
theorem dX8_worn_32 : decode cX8_worn 32 = .ok (.if_icmp .le 12, 3) := by decide +kernel
theorem dX8_worn_35 : decode cX8_worn 35 = .ok (.aload_n 0, 1) := by decide +kernel
theorem dX8_worn_36 : decode cX8_worn 36 = .ok (.getfield 46, 3) := by decide +kernel
theorem dX8_worn_39 : decode cX8_worn 39 = .ok (.iload_n 3, 1) := by decide +kernel
theorem dX8_worn_40 : decode cX8_worn 40 = .ok (.iaload, 1) := by decide +kernel
theorem dX8_worn_41 : decode cX8_worn 41 = .ok (.istore_n 2, 1) := by decide +kernel
theorem dX8_worn_42 : decode cX8_worn 42 = .ok (.iload_n 3, 1) := by decide +kernel
theorem dX8_worn_43 : decode cX8_worn 43 = .ok (.istore_n 1, 1) := by decide +kernel
theorem dX8_worn_44 : decode cX8_worn 44 = .ok (.iinc 3 1, 3) := by decide +kernel
theorem dX8_worn_47 : decode cX8_worn 47 = .ok (.goto (-33), 3) := by decide +kernel
theorem dX8_worn_50 : decode cX8_worn 50 = .ok (.iload_n 1, 1) := by decide +kernel
theorem dX8_worn_51 : decode cX8_worn 51 = .ok (.ireturn, 1) := by decide +kernel
theorem dX8_order_0 : decode cX8_order 0 = .ok (.iload_n 1, 1) := by decide +kernel
theorem dX8_order_1 : decode cX8_order 1 = .ok (.iconst 0, 1) := by decide +kernel
theorem dX8_order_2 : decode cX8_order 2 = .ok (.bipush 9, 2) := by decide +kernel
theorem dX8_order_4 : decode cX8_order 4 = .ok (.invokestatic 91, 3) := by decide +kernel
theorem dX8_order_7 : decode cX8_order 7 = .ok (.ifCond .ne 6, 3) := by decide +kernel
theorem dX8_order_10 : decode cX8_order 10 = .ok (.bipush (-2), 2) := by decide +kernel
theorem dX8_order_12 : decode cX8_order 12 = .ok (.ireturn, 1) := by decide +kernel
theorem dX8_order_13 : decode cX8_order 13 = .ok (.aload_n 0, 1) := by decide +kernel
theorem dX8_order_14 : decode cX8_order 14 = .ok (.invokevirtual 179, 3) := by decide +kernel
theorem dX8_order_17 : decode cX8_order 17 = .ok (.iload_n 1, 1) := by decide +kernel
theorem dX8_order_18 : decode cX8_order 18 = .ok (.lookupswitch 42 #[(0, 26), (1, 34)], 26) := by decide +kernel
theorem dX8_order_44 : decode cX8_order 44 = .ok (.aload_n 0, 1) := by decide +kernel
theorem dX8_order_45 : decode cX8_order 45 = .ok (.getfield 52, 3) := by decide +kernel
theorem dX8_order_48 : decode cX8_order 48 = .ok (.getfield 182, 3) := by decide +kernel
theorem dX8_order_51 : decode cX8_order 51 = .ok (.ireturn, 1) := by decide +kernel
theorem dX8_order_52 : decode cX8_order 52 = .ok (.aload_n 0, 1) := by decide +kernel
theorem dX8_order_53 : decode cX8_order 53 = .ok (.getfield 52, 3) := by decide +kernel
theorem dX8_order_56 : decode cX8_order 56 = .ok (.getfield 185, 3) := by decide +kernel
theorem dX8_order_59 : decode cX8_order 59 = .ok (.ireturn, 1) := by decide +kernel
theorem dX8_order_60 : decode cX8_order 60 = .ok (.aload_n 0, 1) := by decide +kernel
theorem dX8_order_61 : decode cX8_order 61 = .ok (.getfield 52, 3) := by decide +kernel
theorem dX8_order_64 : decode cX8_order 64 = .ok (.iload_n 1, 1) := by decide +kernel
theorem dX8_order_65 : decode cX8_order 65 = .ok (.iconst 2, 1) := by decide +kernel
theorem dX8_order_66 : decode cX8_order 66 = .ok (.isub, 1) := by decide +kernel
theorem dX8_order_67 : decode cX8_order 67 = .ok (.invokevirtual 188, 3) := by decide +kernel
theorem dX8_order_70 : decode cX8_order 70 = .ok (.ireturn, 1) := by decide +kernel
theorem dX8_ahead_0 : decode cX8_ahead 0 = .ok (.aload_n 0, 1) := by decide +kernel
theorem dX8_ahead_1 : decode cX8_ahead 1 = .ok (.invokevirtual 110, 3) := by decide +kernel
theorem dX8_ahead_4 : decode cX8_ahead 4 = .ok (.aload_n 0, 1) := by decide +kernel
theorem dX8_ahead_5 : decode cX8_ahead 5 = .ok (.getfield 25, 3) := by decide +kernel
theorem dX8_ahead_8 : decode cX8_ahead 8 = .ok (.iload_n 1, 1) := by decide +kernel
theorem dX8_ahead_9 : decode cX8_ahead 9 = .ok (.invokevirtual 120, 3) := by decide +kernel
theorem dX8_ahead_12 : decode cX8_ahead 12 = .ok (.astore_n 2, 1) := by decide +kernel
theorem dX8_ahead_13 : decode cX8_ahead 13 = .ok (.aload_n 2, 1) := by decide +kernel
theorem dX8_ahead_14 : decode cX8_ahead 14 = .ok (.ifnonnull 6, 3) := by decide +kernel
theorem dX8_ahead_17 : decode cX8_ahead 17 = .ok (.bipush (-2), 2) := by decide +kernel
theorem dX8_ahead_19 : decode cX8_ahead 19 = .ok (.ireturn, 1) := by decide +kernel
theorem dX8_ahead_20 : decode cX8_ahead 20 = .ok (.aload_n 0, 1) := by decide +kernel
theorem dX8_ahead_21 : decode cX8_ahead 21 = .ok (.invokevirtual 189, 3) := by decide +kernel
theorem dX8_ahead_24 : decode cX8_ahead 24 = .ok (.istore_n 3, 1) := by decide +kernel
theorem dX8_ahead_25 : decode cX8_ahead 25 = .ok (.aload_n 0, 1) := by decide +kernel
theorem dX8_ahead_26 : decode cX8_ahead 26 = .ok (.getfield 18, 3) := by decide +kernel
theorem dX8_ahead_29 : decode cX8_ahead 29 = .ok (.aload_n 2, 1) := by decide +kernel
theorem dX8_ahead_30 : decode cX8_ahead 30 = .ok (.iload_n 3, 1) := by decide +kernel
theorem dX8_ahead_31 : decode cX8_ahead 31 = .ok (.invokevirtual 157, 3) := by decide +kernel
theorem dX8_ahead_34 : decode cX8_ahead 34 = .ok (.iconst 1, 1) := by decide +kernel
theorem dX8_ahead_35 : decode cX8_ahead 35 = .ok (.if_icmp .ne 6, 3) := by decide +kernel
theorem dX8_ahead_38 : decode cX8_ahead 38 = .ok (.bipush (-3), 2) := by decide +kernel
theorem dX8_ahead_40 : decode cX8_ahead 40 = .ok (.ireturn, 1) := by decide +kernel
theorem dX8_ahead_41 : decode cX8_ahead 41 = .ok (.iconst 0, 1) := by decide +kernel
theorem dX8_ahead_42 : decode cX8_ahead 42 = .ok (.istore 4, 2) := by decide +kernel
theorem dX8_ahead_44 : decode cX8_ahead 44 = .ok (.iload 4, 2) := by decide +kernel
theorem dX8_ahead_46 : decode cX8_ahead 46 = .ok (.aload_n 0, 1) := by decide +kernel
theorem dX8_ahead_47 : decode cX8_ahead 47 = .ok (.getfield 25, 3) := by decide +kernel
theorem dX8_ahead_50 : decode cX8_ahead 50 = .ok (.getfield 193, 3) := by decide +kernel
theorem dX8_ahead_53 : decode cX8_ahead 53 = .ok (.if_icmp .ge 58, 3) := by decide +kernel
theorem dX8_ahead_56 : decode cX8_ahead 56 = .ok (.aload_n 0, 1) := by decide +kernel
theorem dX8_ahead_57 : decode cX8_ahead 57 = .ok (.getfield 18, 3) := by decide +kernel
theorem dX8_ahead_60 : decode cX8_ahead 60 = .ok (.aload_n 0, 1) := by decide +kernel
theorem dX8_ahead_61 : decode cX8_ahead 61 = .ok (.getfield 25, 3) := by decide +kernel
theorem dX8_ahead_64 : decode cX8_ahead 64 = .ok (.iload 4, 2) := by decide +kernel
theorem dX8_ahead_66 : decode cX8_ahead 66 = .ok (.invokevirtual 120, 3) := by decide +kernel
theorem dX8_ahead_69 : decode cX8_ahead 69 = .ok (.iload_n 3, 1) := by decide +kernel
theorem dX8_ahead_70 : decode cX8_ahead 70 = .ok (.aload_n 0, 1) := by decide +kernel
theorem dX8_ahead_71 : decode cX8_ahead 71 = .ok (.getfield 18, 3) := by decide +kernel
theorem dX8_ahead_74 : decode cX8_ahead 74 = .ok (.getfield 148, 3) := by decide +kernel
theorem dX8_ahead_77 : decode cX8_ahead 77 = .ok (.invokevirtual 194, 3) := by decide +kernel
theorem dX8_ahead_80 : decode cX8_ahead 80 = .ok (.istore 5, 2) := by decide +kernel
theorem dX8_ahead_82 : decode cX8_ahead 82 = .ok (.iload 4, 2) := by decide +kernel
theorem dX8_ahead_84 : decode cX8_ahead 84 = .ok (.iload_n 1, 1) := by decide +kernel
theorem dX8_ahead_85 : decode cX8_ahead 85 = .ok (.if_icmp .eq 20, 3) := by decide +kernel
theorem dX8_ahead_88 : decode cX8_ahead 88 = .ok (.aload_n 0, 1) := by decide +kernel
theorem dX8_ahead_89 : decode cX8_ahead 89 = .ok (.getfield 18, 3) := by decide +kernel
theorem dX8_ahead_92 : decode cX8_ahead 92 = .ok (.aload_n 2, 1) := by decide +kernel
theorem dX8_ahead_93 : decode cX8_ahead 93 = .ok (.iload 5, 2) := by decide +kernel
theorem dX8_ahead_95 : decode cX8_ahead 95 = .ok (.invokevirtual 157, 3) := by decide +kernel
theorem dX8_ahead_98 : decode cX8_ahead 98 = .ok (.iconst 1, 1) := by decide +kernel
theorem dX8_ahead_99 : decode cX8_ahead 99 = .ok (.if_icmp .ne 6, 3) := by decide +kernel
theorem dX8_ahead_102 : decode cX8_ahead 102 = .ok (.iload 4, 2) := by decide +kernel
theorem dX8_ahead_104 : decode cX8_ahead 104 = .ok (.ireturn, 1) := by decide +kernel
theorem dX8_ahead_105 : decode cX8_ahead 105 = .ok (.iinc 4 1, 3) := by decide +kernel
theorem dX8_ahead_108 : decode cX8_ahead 108 = .ok (.goto (-64), 3) := by decide +kernel
theorem dX8_ahead_111 : decode cX8_ahead 111 = .ok (.iconst (-1), 1) := by decide +kernel
theorem dX8_ahead_112 : decode cX8_ahead 112 = .ok (.ireturn, 1) := by decide +kernel
theorem dX8_often_0 : decode cX8_often 0 = .ok (.aload_n 0, 1) := by decide +kernel
theorem dX8_often_1 : decode cX8_often 1 = .ok (.invokevirtual 110, 3) := by decide +kernel
theorem dX8_often_4 : decode cX8_often 4 = .ok (.aload_n 0, 1) := by decide +kernel
theorem dX8_often_5 : decode cX8_often 5 = .ok (.getfield 25, 3) := by decide +kernel
theorem dX8_often_8 : decode cX8_often 8 = .ok (.iload_n 1, 1) := by decide +kernel
theorem dX8_often_9 : decode cX8_often 9 = .ok (.invokevirtual 120, 3) := by decide +kernel
theorem dX8_often_12 : decode cX8_often 12 = .ok (.astore_n 3, 1) := by decide +kernel
theorem dX8_often_13 : decode cX8_often 13 = .ok (.aload_n 0, 1) := by decide +kernel
theorem dX8_often_14 : decode cX8_often 14 = .ok (.getfield 25, 3) := by decide +kernel
theorem dX8_often_17 : decode cX8_often 17 = .ok (.iload_n 2, 1) := by decide +kernel
theorem dX8_often_18 : decode cX8_often 18 = .ok (.invokevirtual 120, 3) := by decide +kernel
theorem dX8_often_21 : decode cX8_often 21 = .ok (.astore 4, 2) := by decide +kernel
theorem dX8_often_23 : decode cX8_often 23 = .ok (.aload_n 3, 1) := by decide +kernel
theorem dX8_often_24 : decode cX8_often 24 = .ok (.ifnull 13, 3) := by decide +kernel
theorem dX8_often_27 : decode cX8_often 27 = .ok (.aload 4, 2) := by decide +kernel
theorem dX8_often_29 : decode cX8_often 29 = .ok (.ifnull 8, 3) := by decide +kernel
theorem dX8_often_32 : decode cX8_often 32 = .ok (.iload_n 1, 1) := by decide +kernel
theorem dX8_often_33 : decode cX8_often 33 = .ok (.iload_n 2, 1) := by decide +kernel
theorem dX8_often_34 : decode cX8_often 34 = .ok (.if_icmp .ne 6, 3) := by decide +kernel
theorem dX8_often_37 : decode cX8_often 37 = .ok (.bipush (-2), 2) := by decide +kernel
theorem dX8_often_39 : decode cX8_often 39 = .ok (.ireturn, 1) := by decide +kernel
theorem dX8_often_40 : decode cX8_often 40 = .ok (.aload_n 0, 1) := by decide +kernel
theorem dX8_often_41 : decode cX8_often 41 = .ok (.invokevirtual 189, 3) := by decide +kernel
theorem dX8_often_44 : decode cX8_often 44 = .ok (.istore 5, 2) := by decide +kernel
theorem dX8_often_46 : decode cX8_often 46 = .ok (.iconst 0, 1) := by decide +kernel
theorem dX8_often_47 : decode cX8_often 47 = .ok (.istore 6, 2) := by decide +kernel
theorem dX8_often_49 : decode cX8_often 49 = .ok (.iload 6, 2) := by decide +kernel
theorem dX8_often_51 : decode cX8_often 51 = .ok (.bipush 9, 2) := by decide +kernel
theorem dX8_often_53 : decode cX8_often 53 = .ok (.if_icmp .gt 46, 3) := by decide +kernel
theorem dX8_often_56 : decode cX8_often 56 = .ok (.aload_n 0, 1) := by decide +kernel
theorem dX8_often_57 : decode cX8_often 57 = .ok (.getfield 18, 3) := by decide +kernel
theorem dX8_often_60 : decode cX8_often 60 = .ok (.aload_n 3, 1) := by decide +kernel
theorem dX8_often_61 : decode cX8_often 61 = .ok (.iload 5, 2) := by decide +kernel
theorem dX8_often_63 : decode cX8_often 63 = .ok (.invokevirtual 157, 3) := by decide +kernel
theorem dX8_often_66 : decode cX8_often 66 = .ok (.iconst 1, 1) := by decide +kernel
theorem dX8_often_67 : decode cX8_often 67 = .ok (.if_icmp .ne 6, 3) := by decide +kernel
theorem dX8_often_70 : decode cX8_often 70 = .ok (.iload 6, 2) := by decide +kernel
theorem dX8_often_72 : decode cX8_often 72 = .ok (.ireturn, 1) := by decide +kernel
theorem dX8_often_73 : decode cX8_often 73 = .ok (.aload_n 0, 1) := by decide +kernel
theorem dX8_often_74 : decode cX8_often 74 = .ok (.getfield 18, 3) := by decide +kernel
theorem dX8_often_77 : decode cX8_often 77 = .ok (.aload 4, 2) := by decide +kernel
theorem dX8_often_79 : decode cX8_often 79 = .ok (.iload 5, 2) := by decide +kernel
theorem dX8_often_81 : decode cX8_often 81 = .ok (.aload_n 0, 1) := by decide +kernel
theorem dX8_often_82 : decode cX8_often 82 = .ok (.getfield 18, 3) := by decide +kernel
theorem dX8_often_85 : decode cX8_often 85 = .ok (.getfield 148, 3) := by decide +kernel
theorem dX8_often_88 : decode cX8_often 88 = .ok (.invokevirtual 194, 3) := by decide +kernel
theorem dX8_often_91 : decode cX8_often 91 = .ok (.istore 5, 2) := by decide +kernel
theorem dX8_often_93 : decode cX8_often 93 = .ok (.iinc 6 1, 3) := by decide +kernel
theorem dX8_often_96 : decode cX8_often 96 = .ok (.goto (-47), 3) := by decide +kernel
theorem dX8_often_99 : decode cX8_often 99 = .ok (.iconst (-1), 1) := by decide +kernel
theorem dX8_often_100 : decode cX8_often 100 = .ok (.ireturn, 1) := by decide +kernel
theorem dX8_seen_0 : decode cX8_seen 0 = .ok (.iload_n 1, 1) := by decide +kernel
theorem dX8_seen_1 : decode cX8_seen 1 = .ok (.iload_n 2, 1) := by decide +kernel
theorem dX8_seen_2 : decode cX8_seen 2 = .ok (.invokestatic 198, 3) := by decide +kernel
theorem dX8_seen_5 : decode cX8_seen 5 = .ok (.ifCond .ne 6, 3) := by decide +kernel
theorem dX8_seen_8 : decode cX8_seen 8 = .ok (.bipush (-2), 2) := by decide +kernel
theorem dX8_seen_10 : decode cX8_seen 10 = .ok (.ireturn, 1) := by decide +kernel
theorem dX8_seen_11 : decode cX8_seen 11 = .ok (.aload_n 0, 1) := by decide +kernel
theorem dX8_seen_12 : decode cX8_seen 12 = .ok (.getfield 59, 3) := by decide +kernel
theorem dX8_seen_15 : decode cX8_seen 15 = .ok (.invokevirtual 202, 3) := by decide +kernel
theorem dX8_seen_18 : decode cX8_seen 18 = .ok (.ifCond .eq 6, 3) := by decide +kernel
theorem dX8_seen_21 : decode cX8_seen 21 = .ok (.bipush (-4), 2) := by decide +kernel
theorem dX8_seen_23 : decode cX8_seen 23 = .ok (.ireturn, 1) := by decide +kernel
theorem dX8_seen_24 : decode cX8_seen 24 = .ok (.aload_n 0, 1) := by decide +kernel
theorem dX8_seen_25 : decode cX8_seen 25 = .ok (.getfield 59, 3) := by decide +kernel
theorem dX8_seen_28 : decode cX8_seen 28 = .ok (.iload_n 1, 1) := by decide +kernel
theorem dX8_seen_29 : decode cX8_seen 29 = .ok (.iload_n 2, 1) := by decide +kernel
theorem dX8_seen_30 : decode cX8_seen 30 = .ok (.invokevirtual 203, 3) := by decide +kernel
theorem dX8_seen_33 : decode cX8_seen 33 = .ok (.aload_n 0, 1) := by decide +kernel
theorem dX8_seen_34 : decode cX8_seen 34 = .ok (.getfield 59, 3) := by decide +kernel
theorem dX8_seen_37 : decode cX8_seen 37 = .ok (.getfield 207, 3) := by decide +kernel
theorem dX8_seen_40 : decode cX8_seen 40 = .ok (.ireturn, 1) := by decide +kernel
theorem dX8_forget_0 : decode cX8_forget 0 = .ok (.aload_n 0, 1) := by decide +kernel
theorem dX8_forget_1 : decode cX8_forget 1 = .ok (.getfield 59, 3) := by decide +kernel
theorem dX8_forget_4 : decode cX8_forget 4 = .ok (.getfield 207, 3) := by decide +kernel
theorem dX8_forget_7 : decode cX8_forget 7 = .ok (.istore_n 1, 1) := by decide +kernel
theorem dX8_forget_8 : decode cX8_forget 8 = .ok (.aload_n 0, 1) := by decide +kernel
theorem dX8_forget_9 : decode cX8_forget 9 = .ok (.getfield 59, 3) := by decide +kernel
theorem dX8_forget_12 : decode cX8_forget 12 = .ok (.iconst 0, 1) := by decide +kernel
theorem dX8_forget_13 : decode cX8_forget 13 = .ok (.putfield 207, 3) := by decide +kernel
theorem dX8_forget_16 : decode cX8_forget 16 = .ok (.iload_n 1, 1) := by decide +kernel
theorem dX8_forget_17 : decode cX8_forget 17 = .ok (.ireturn, 1) := by decide +kernel
theorem dX8_read_0 : decode cX8_read 0 = .ok (.aload_n 0, 1) := by decide +kernel
theorem dX8_read_1 : decode cX8_read 1 = .ok (.iload_n 1, 1) := by decide +kernel
theorem dX8_read_2 : decode cX8_read 2 = .ok (.invokevirtual 208, 3) := by decide +kernel
theorem dX8_read_5 : decode cX8_read 5 = .ok (.astore_n 2, 1) := by decide +kernel
theorem dX8_read_6 : decode cX8_read 6 = .ok (.aload_n 2, 1) := by decide +kernel
theorem dX8_read_7 : decode cX8_read 7 = .ok (.ifnonnull 6, 3) := by decide +kernel
theorem dX8_read_10 : decode cX8_read 10 = .ok (.bipush (-2), 2) := by decide +kernel
theorem dX8_read_12 : decode cX8_read 12 = .ok (.ireturn, 1) := by decide +kernel
theorem dX8_read_13 : decode cX8_read 13 = .ok (.aload_n 2, 1) := by decide +kernel
theorem dX8_read_14 : decode cX8_read 14 = .ok (.getfield 212, 3) := by decide +kernel
theorem dX8_read_17 : decode cX8_read 17 = .ok (.ifCond .eq 9, 3) := by decide +kernel
theorem dX8_read_20 : decode cX8_read 20 = .ok (.aload_n 0, 1) := by decide +kernel
theorem dX8_read_21 : decode cX8_read 21 = .ok (.iconst 1, 1) := by decide +kernel
theorem dX8_read_22 : decode cX8_read 22 = .ok (.invokevirtual 215, 3) := by decide +kernel
theorem dX8_read_25 : decode cX8_read 25 = .ok (.ireturn, 1) := by decide +kernel
theorem dX8_read_26 : decode cX8_read 26 = .ok (.iconst 0, 1) := by decide +kernel
theorem dX8_read_27 : decode cX8_read 27 = .ok (.istore_n 3, 1) := by decide +kernel
theorem dX8_read_28 : decode cX8_read 28 = .ok (.iconst 2, 1) := by decide +kernel
theorem dX8_read_29 : decode cX8_read 29 = .ok (.iload_n 3, 1) := by decide +kernel
theorem dX8_read_30 : decode cX8_read 30 = .ok (.imul, 1) := by decide +kernel
theorem dX8_read_31 : decode cX8_read 31 = .ok (.iconst 1, 1) := by decide +kernel
theorem dX8_read_32 : decode cX8_read 32 = .ok (.iadd, 1) := by decide +kernel
theorem dX8_read_33 : decode cX8_read 33 = .ok (.aload_n 2, 1) := by decide +kernel
theorem dX8_read_34 : decode cX8_read 34 = .ok (.getfield 218, 3) := by decide +kernel
theorem dX8_read_37 : decode cX8_read 37 = .ok (.if_icmp .ge 64, 3) := by decide +kernel
theorem dX8_read_40 : decode cX8_read 40 = .ok (.aload_n 0, 1) := by decide +kernel
theorem dX8_read_41 : decode cX8_read 41 = .ok (.getfield 59, 3) := by decide +kernel
theorem dX8_read_44 : decode cX8_read 44 = .ok (.invokevirtual 202, 3) := by decide +kernel
theorem dX8_read_47 : decode cX8_read 47 = .ok (.ifCond .ne 54, 3) := by decide +kernel
theorem dX8_read_50 : decode cX8_read 50 = .ok (.aload_n 2, 1) := by decide +kernel
theorem dX8_read_51 : decode cX8_read 51 = .ok (.iconst 2, 1) := by decide +kernel
theorem dX8_read_52 : decode cX8_read 52 = .ok (.iload_n 3, 1) := by decide +kernel
theorem dX8_read_53 : decode cX8_read 53 = .ok (.imul, 1) := by decide +kernel
theorem dX8_read_54 : decode cX8_read 54 = .ok (.invokevirtual 219, 3) := by decide +kernel
theorem dX8_read_57 : decode cX8_read 57 = .ok (.aload_n 2, 1) := by decide +kernel
theorem dX8_read_58 : decode cX8_read 58 = .ok (.iconst 2, 1) := by decide +kernel
theorem dX8_read_59 : decode cX8_read 59 = .ok (.iload_n 3, 1) := by decide +kernel
theorem dX8_read_60 : decode cX8_read 60 = .ok (.imul, 1) := by decide +kernel
theorem dX8_read_61 : decode cX8_read 61 = .ok (.iconst 1, 1) := by decide +kernel
theorem dX8_read_62 : decode cX8_read 62 = .ok (.iadd, 1) := by decide +kernel
theorem dX8_read_63 : decode cX8_read 63 = .ok (.invokevirtual 219, 3) := by decide +kernel
theorem dX8_read_66 : decode cX8_read 66 = .ok (.invokestatic 198, 3) := by decide +kernel
theorem dX8_read_69 : decode cX8_read 69 = .ok (.ifCond .eq 32, 3) := by decide +kernel
theorem dX8_read_72 : decode cX8_read 72 = .ok (.aload_n 0, 1) := by decide +kernel
theorem dX8_read_73 : decode cX8_read 73 = .ok (.getfield 59, 3) := by decide +kernel
theorem dX8_read_76 : decode cX8_read 76 = .ok (.aload_n 2, 1) := by decide +kernel
theorem dX8_read_77 : decode cX8_read 77 = .ok (.iconst 2, 1) := by decide +kernel
theorem dX8_read_78 : decode cX8_read 78 = .ok (.iload_n 3, 1) := by decide +kernel
theorem dX8_read_79 : decode cX8_read 79 = .ok (.imul, 1) := by decide +kernel
theorem dX8_read_80 : decode cX8_read 80 = .ok (.invokevirtual 219, 3) := by decide +kernel
theorem dX8_read_83 : decode cX8_read 83 = .ok (.aload_n 2, 1) := by decide +kernel
theorem dX8_read_84 : decode cX8_read 84 = .ok (.iconst 2, 1) := by decide +kernel
theorem dX8_read_85 : decode cX8_read 85 = .ok (.iload_n 3, 1) := by decide +kernel
theorem dX8_read_86 : decode cX8_read 86 = .ok (.imul, 1) := by decide +kernel
theorem dX8_read_87 : decode cX8_read 87 = .ok (.iconst 1, 1) := by decide +kernel
theorem dX8_read_88 : decode cX8_read 88 = .ok (.iadd, 1) := by decide +kernel
theorem dX8_read_89 : decode cX8_read 89 = .ok (.invokevirtual 219, 3) := by decide +kernel
theorem dX8_read_92 : decode cX8_read 92 = .ok (.invokevirtual 203, 3) := by decide +kernel
theorem dX8_read_95 : decode cX8_read 95 = .ok (.iinc 3 1, 3) := by decide +kernel
theorem dX8_read_98 : decode cX8_read 98 = .ok (.goto (-70), 3) := by decide +kernel
theorem dX8_read_101 : decode cX8_read 101 = .ok (.iload_n 3, 1) := by decide +kernel
theorem dX8_read_102 : decode cX8_read 102 = .ok (.ireturn, 1) := by decide +kernel
theorem dX8_rule_0 : decode cX8_rule 0 = .ok (.iload_n 1, 1) := by decide +kernel
theorem dX8_rule_1 : decode cX8_rule 1 = .ok (.iconst 0, 1) := by decide +kernel
theorem dX8_rule_2 : decode cX8_rule 2 = .ok (.iconst 3, 1) := by decide +kernel
theorem dX8_rule_3 : decode cX8_rule 3 = .ok (.invokestatic 91, 3) := by decide +kernel
theorem dX8_rule_6 : decode cX8_rule 6 = .ok (.ifCond .ne 6, 3) := by decide +kernel
theorem dX8_rule_9 : decode cX8_rule 9 = .ok (.bipush (-2), 2) := by decide +kernel
theorem dX8_rule_11 : decode cX8_rule 11 = .ok (.ireturn, 1) := by decide +kernel
theorem dX8_rule_12 : decode cX8_rule 12 = .ok (.aload_n 0, 1) := by decide +kernel
theorem dX8_rule_13 : decode cX8_rule 13 = .ok (.invokevirtual 110, 3) := by decide +kernel
theorem dX8_rule_16 : decode cX8_rule 16 = .ok (.aload_n 0, 1) := by decide +kernel
theorem dX8_rule_17 : decode cX8_rule 17 = .ok (.getfield 18, 3) := by decide +kernel
theorem dX8_rule_20 : decode cX8_rule 20 = .ok (.getfield 148, 3) := by decide +kernel
theorem dX8_rule_23 : decode cX8_rule 23 = .ok (.iconst 0, 1) := by decide +kernel
theorem dX8_rule_24 : decode cX8_rule 24 = .ok (.aload_n 0, 1) := by decide +kernel
theorem dX8_rule_25 : decode cX8_rule 25 = .ok (.getfield 43, 3) := by decide +kernel
theorem dX8_rule_28 : decode cX8_rule 28 = .ok (.iconst 0, 1) := by decide +kernel
theorem dX8_rule_29 : decode cX8_rule 29 = .ok (.iconst 4, 1) := by decide +kernel
theorem dX8_rule_30 : decode cX8_rule 30 = .ok (.invokestatic 222, 3) := by decide +kernel
theorem dX8_rule_33 : decode cX8_rule 33 = .ok (.iconst 0, 1) := by decide +kernel
theorem dX8_rule_34 : decode cX8_rule 34 = .ok (.istore_n 2, 1) := by decide +kernel
theorem dX8_rule_35 : decode cX8_rule 35 = .ok (.bipush (-9), 2) := by decide +kernel
theorem dX8_rule_37 : decode cX8_rule 37 = .ok (.istore_n 3, 1) := by decide +kernel
theorem dX8_rule_38 : decode cX8_rule 38 = .ok (.iload_n 3, 1) := by decide +kernel
theorem dX8_rule_39 : decode cX8_rule 39 = .ok (.bipush 9, 2) := by decide +kernel
theorem dX8_rule_41 : decode cX8_rule 41 = .ok (.if_icmp .gt 43, 3) := by decide +kernel
theorem dX8_rule_44 : decode cX8_rule 44 = .ok (.aload_n 0, 1) := by decide +kernel
theorem dX8_rule_45 : decode cX8_rule 45 = .ok (.getfield 43, 3) := by decide +kernel
theorem dX8_rule_48 : decode cX8_rule 48 = .ok (.iload_n 1, 1) := by decide +kernel
theorem dX8_rule_49 : decode cX8_rule 49 = .ok (.iload_n 3, 1) := by decide +kernel
theorem dX8_rule_50 : decode cX8_rule 50 = .ok (.iastore, 1) := by decide +kernel
theorem dX8_rule_51 : decode cX8_rule 51 = .ok (.aload_n 0, 1) := by decide +kernel
theorem dX8_rule_52 : decode cX8_rule 52 = .ok (.aload_n 0, 1) := by decide +kernel
theorem dX8_rule_53 : decode cX8_rule 53 = .ok (.getfield 18, 3) := by decide +kernel
theorem dX8_rule_56 : decode cX8_rule 56 = .ok (.invokevirtual 228, 3) := by decide +kernel
theorem dX8_rule_59 : decode cX8_rule 59 = .ok (.aload_n 0, 1) := by decide +kernel
theorem dX8_rule_60 : decode cX8_rule 60 = .ok (.getfield 43, 3) := by decide +kernel
theorem dX8_rule_63 : decode cX8_rule 63 = .ok (.invokevirtual 231, 3) := by decide +kernel
theorem dX8_rule_66 : decode cX8_rule 66 = .ok (.ifCond .eq 12, 3) := by decide +kernel
theorem dX8_rule_69 : decode cX8_rule 69 = .ok (.iload_n 2, 1) := by decide +kernel
theorem dX8_rule_70 : decode cX8_rule 70 = .ok (.iconst 1, 1) := by decide +kernel
theorem dX8_rule_71 : decode cX8_rule 71 = .ok (.iload_n 3, 1) := by decide +kernel
theorem dX8_rule_72 : decode cX8_rule 72 = .ok (.bipush 9, 2) := by decide +kernel
theorem dX8_rule_74 : decode cX8_rule 74 = .ok (.iadd, 1) := by decide +kernel
theorem dX8_rule_75 : decode cX8_rule 75 = .ok (.ishl, 1) := by decide +kernel
theorem dX8_rule_76 : decode cX8_rule 76 = .ok (.ior, 1) := by decide +kernel
theorem dX8_rule_77 : decode cX8_rule 77 = .ok (.istore_n 2, 1) := by decide +kernel
theorem dX8_rule_78 : decode cX8_rule 78 = .ok (.iinc 3 1, 3) := by decide +kernel
theorem dX8_rule_81 : decode cX8_rule 81 = .ok (.goto (-43), 3) := by decide +kernel
theorem dX8_rule_84 : decode cX8_rule 84 = .ok (.iload_n 2, 1) := by decide +kernel
theorem dX8_rule_85 : decode cX8_rule 85 = .ok (.ireturn, 1) := by decide +kernel
theorem dX8_began_0 : decode cX8_began 0 = .ok (.aload_n 0, 1) := by decide +kernel
theorem dX8_began_1 : decode cX8_began 1 = .ok (.invokevirtual 110, 3) := by decide +kernel
theorem dX8_began_4 : decode cX8_began 4 = .ok (.iconst 0, 1) := by decide +kernel
theorem dX8_began_5 : decode cX8_began 5 = .ok (.istore_n 1, 1) := by decide +kernel
theorem dX8_began_6 : decode cX8_began 6 = .ok (.iconst 0, 1) := by decide +kernel
theorem dX8_began_7 : decode cX8_began 7 = .ok (.istore_n 2, 1) := by decide +kernel
theorem dX8_began_8 : decode cX8_began 8 = .ok (.iload_n 2, 1) := by decide +kernel
theorem dX8_began_9 : decode cX8_began 9 = .ok (.aload_n 0, 1) := by decide +kernel
theorem dX8_began_10 : decode cX8_began 10 = .ok (.getfield 18, 3) := by decide +kernel
theorem dX8_began_13 : decode cX8_began 13 = .ok (.getfield 176, 3) := by decide +kernel
theorem dX8_began_16 : decode cX8_began 16 = .ok (.if_icmp .ge 30, 3) := by decide +kernel
theorem dX8_began_19 : decode cX8_began 19 = .ok (.aload_n 0, 1) := by decide +kernel
theorem dX8_began_20 : decode cX8_began 20 = .ok (.iload_n 2, 1) := by decide +kernel
theorem dX8_began_21 : decode cX8_began 21 = .ok (.aload_n 0, 1) := by decide +kernel
theorem dX8_began_22 : decode cX8_began 22 = .ok (.getfield 18, 3) := by decide +kernel
theorem dX8_began_25 : decode cX8_began 25 = .ok (.getfield 148, 3) := by decide +kernel
theorem dX8_began_28 : decode cX8_began 28 = .ok (.invokevirtual 231, 3) := by decide +kernel
theorem dX8_began_31 : decode cX8_began 31 = .ok (.ifCond .eq 9, 3) := by decide +kernel
theorem dX8_began_34 : decode cX8_began 34 = .ok (.iload_n 1, 1) := by decide +kernel
theorem dX8_began_35 : decode cX8_began 35 = .ok (.iconst 1, 1) := by decide +kernel
theorem dX8_began_36 : decode cX8_began 36 = .ok (.iload_n 2, 1) := by decide +kernel
theorem dX8_began_37 : decode cX8_began 37 = .ok (.ishl, 1) := by decide +kernel
theorem dX8_began_38 : decode cX8_began 38 = .ok (.ior, 1) := by decide +kernel
theorem dX8_began_39 : decode cX8_began 39 = .ok (.istore_n 1, 1) := by decide +kernel
theorem dX8_began_40 : decode cX8_began 40 = .ok (.iinc 2 1, 3) := by decide +kernel
theorem dX8_began_43 : decode cX8_began 43 = .ok (.goto (-35), 3) := by decide +kernel
theorem dX8_began_46 : decode cX8_began 46 = .ok (.iload_n 1, 1) := by decide +kernel
theorem dX8_began_47 : decode cX8_began 47 = .ok (.ireturn, 1) := by decide +kernel
theorem dX8_ask_0 : decode cX8_ask 0 = .ok (.iconst 0, 1) := by decide +kernel
theorem dX8_ask_1 : decode cX8_ask 1 = .ok (.ireturn, 1) := by decide +kernel
theorem dX8_maybe_0 : decode cX8_maybe 0 = .ok (.aload_n 0, 1) := by decide +kernel
theorem dX8_maybe_1 : decode cX8_maybe 1 = .ok (.invokevirtual 110, 3) := by decide +kernel
theorem dX8_maybe_4 : decode cX8_maybe 4 = .ok (.iload_n 1, 1) := by decide +kernel
theorem dX8_maybe_5 : decode cX8_maybe 5 = .ok (.iconst 0, 1) := by decide +kernel
theorem dX8_maybe_6 : decode cX8_maybe 6 = .ok (.bipush 16, 2) := by decide +kernel
theorem dX8_maybe_8 : decode cX8_maybe 8 = .ok (.invokestatic 91, 3) := by decide +kernel
theorem dX8_maybe_11 : decode cX8_maybe 11 = .ok (.ifCond .eq 35, 3) := by decide +kernel
theorem dX8_maybe_14 : decode cX8_maybe 14 = .ok (.aload_n 0, 1) := by decide +kernel
theorem dX8_maybe_15 : decode cX8_maybe 15 = .ok (.getfield 18, 3) := by decide +kernel
theorem dX8_maybe_18 : decode cX8_maybe 18 = .ok (.iload_n 2, 1) := by decide +kernel
theorem dX8_maybe_19 : decode cX8_maybe 19 = .ok (.invokevirtual 113, 3) := by decide +kernel
theorem dX8_maybe_22 : decode cX8_maybe 22 = .ok (.ifCond .eq 24, 3) := by decide +kernel
theorem dX8_maybe_25 : decode cX8_maybe 25 = .ok (.iload_n 3, 1) := by decide +kernel
theorem dX8_maybe_26 : decode cX8_maybe 26 = .ok (.iconst 0, 1) := by decide +kernel
theorem dX8_maybe_27 : decode cX8_maybe 27 = .ok (.iconst 1, 1) := by decide +kernel
theorem dX8_maybe_28 : decode cX8_maybe 28 = .ok (.invokestatic 91, 3) := by decide +kernel
theorem dX8_maybe_31 : decode cX8_maybe 31 = .ok (.ifCond .eq 15, 3) := by decide +kernel
theorem dX8_maybe_34 : decode cX8_maybe 34 = .ok (.aload_n 0, 1) := by decide +kernel
theorem dX8_maybe_35 : decode cX8_maybe 35 = .ok (.getfield 32, 3) := by decide +kernel
theorem dX8_maybe_38 : decode cX8_maybe 38 = .ok (.getfield 154, 3) := by decide +kernel
theorem dX8_maybe_41 : decode cX8_maybe 41 = .ok (.bipush 10, 2) := by decide +kernel
theorem dX8_maybe_43 : decode cX8_maybe 43 = .ok (.if_icmp .le 7, 3) := by decide +kernel
theorem dX8_maybe_46 : decode cX8_maybe 46 = .ok (.ldc2_w 235, 3) := by decide +kernel
theorem dX8_maybe_49 : decode cX8_maybe 49 = .ok (.lreturn, 1) := by decide +kernel
theorem dX8_maybe_50 : decode cX8_maybe 50 = .ok (.aload_n 0, 1) := by decide +kernel
theorem dX8_maybe_51 : decode cX8_maybe 51 = .ok (.iload_n 1, 1) := by decide +kernel
theorem dX8_maybe_52 : decode cX8_maybe 52 = .ok (.invokevirtual 237, 3) := by decide +kernel
theorem dX8_maybe_55 : decode cX8_maybe 55 = .ok (.aload_n 0, 1) := by decide +kernel
theorem dX8_maybe_56 : decode cX8_maybe 56 = .ok (.getfield 63, 3) := by decide +kernel
theorem dX8_maybe_59 : decode cX8_maybe 59 = .ok (.iload_n 2, 1) := by decide +kernel
theorem dX8_maybe_60 : decode cX8_maybe 60 = .ok (.laload, 1) := by decide +kernel
theorem dX8_maybe_61 : decode cX8_maybe 61 = .ok (.lstore 4, 2) := by decide +kernel
theorem dX8_maybe_63 : decode cX8_maybe 63 = .ok (.iconst 4, 1) := by decide +kernel
theorem dX8_maybe_64 : decode cX8_maybe 64 = .ok (.aload_n 0, 1) := by decide +kernel
theorem dX8_maybe_65 : decode cX8_maybe 65 = .ok (.getfield 32, 3) := by decide +kernel
theorem dX8_maybe_68 : decode cX8_maybe 68 = .ok (.getfield 154, 3) := by decide +kernel
theorem dX8_maybe_71 : decode cX8_maybe 71 = .ok (.imul, 1) := by decide +kernel
theorem dX8_maybe_72 : decode cX8_maybe 72 = .ok (.istore 6, 2) := by decide +kernel
theorem dX8_maybe_74 : decode cX8_maybe 74 = .ok (.iload 6, 2) := by decide +kernel
theorem dX8_maybe_76 : decode cX8_maybe 76 = .ok (.ifCond .le 24, 3) := by decide +kernel
theorem dX8_maybe_79 : decode cX8_maybe 79 = .ok (.lload 4, 2) := by decide +kernel
theorem dX8_maybe_81 : decode cX8_maybe 81 = .ok (.lconst 1, 1) := by decide +kernel
theorem dX8_maybe_82 : decode cX8_maybe 82 = .ok (.land, 1) := by decide +kernel
theorem dX8_maybe_83 : decode cX8_maybe 83 = .ok (.lconst 0, 1) := by decide +kernel
theorem dX8_maybe_84 : decode cX8_maybe 84 = .ok (.lcmp, 1) := by decide +kernel
theorem dX8_maybe_85 : decode cX8_maybe 85 = .ok (.ifCond .ne 15, 3) := by decide +kernel
theorem dX8_maybe_88 : decode cX8_maybe 88 = .ok (.lload 4, 2) := by decide +kernel
theorem dX8_maybe_90 : decode cX8_maybe 90 = .ok (.iconst 1, 1) := by decide +kernel
theorem dX8_maybe_91 : decode cX8_maybe 91 = .ok (.lshr, 1) := by decide +kernel
theorem dX8_maybe_92 : decode cX8_maybe 92 = .ok (.lstore 4, 2) := by decide +kernel
theorem dX8_maybe_94 : decode cX8_maybe 94 = .ok (.iinc 6 (-1), 3) := by decide +kernel
theorem dX8_maybe_97 : decode cX8_maybe 97 = .ok (.goto (-23), 3) := by decide +kernel
theorem dX8_maybe_100 : decode cX8_maybe 100 = .ok (.iload_n 3, 1) := by decide +kernel
theorem dX8_maybe_101 : decode cX8_maybe 101 = .ok (.ifCond .ne 8, 3) := by decide +kernel
theorem dX8_maybe_104 : decode cX8_maybe 104 = .ok (.lload 4, 2) := by decide +kernel
theorem dX8_maybe_106 : decode cX8_maybe 106 = .ok (.goto 7, 3) := by decide +kernel
theorem dX8_maybe_109 : decode cX8_maybe 109 = .ok (.lconst 1, 1) := by decide +kernel
theorem dX8_maybe_110 : decode cX8_maybe 110 = .ok (.iload 6, 2) := by decide +kernel
theorem dX8_maybe_112 : decode cX8_maybe 112 = .ok (.lshl, 1) := by decide +kernel
theorem dX8_maybe_113 : decode cX8_maybe 113 = .ok (.lreturn, 1) := by decide +kernel
theorem dX8_week_0 : decode cX8_week 0 = .ok (.iload_n 2, 1) := by decide +kernel
theorem dX8_week_1 : decode cX8_week 1 = .ok (.iconst 1, 1) := by decide +kernel
theorem dX8_week_2 : decode cX8_week 2 = .ok (.bipush 99, 2) := by decide +kernel
theorem dX8_week_4 : decode cX8_week 4 = .ok (.invokestatic 91, 3) := by decide +kernel
theorem dX8_week_7 : decode cX8_week 7 = .ok (.ifCond .eq 12, 3) := by decide +kernel
theorem dX8_week_10 : decode cX8_week 10 = .ok (.iload_n 3, 1) := by decide +kernel
theorem dX8_week_11 : decode cX8_week 11 = .ok (.iconst 0, 1) := by decide +kernel
theorem dX8_week_12 : decode cX8_week 12 = .ok (.iconst 1, 1) := by decide +kernel
theorem dX8_week_13 : decode cX8_week 13 = .ok (.invokestatic 91, 3) := by decide +kernel
theorem dX8_week_16 : decode cX8_week 16 = .ok (.ifCond .ne 6, 3) := by decide +kernel
theorem dX8_week_19 : decode cX8_week 19 = .ok (.bipush (-2), 2) := by decide +kernel
theorem dX8_week_21 : decode cX8_week 21 = .ok (.ireturn, 1) := by decide +kernel
theorem dX8_week_22 : decode cX8_week 22 = .ok (.aload_n 0, 1) := by decide +kernel
theorem dX8_week_23 : decode cX8_week 23 = .ok (.invokevirtual 110, 3) := by decide +kernel
theorem dX8_week_26 : decode cX8_week 26 = .ok (.aload_n 0, 1) := by decide +kernel
theorem dX8_week_27 : decode cX8_week 27 = .ok (.invokevirtual 189, 3) := by decide +kernel
theorem dX8_week_30 : decode cX8_week 30 = .ok (.istore 4, 2) := by decide +kernel
theorem dX8_week_32 : decode cX8_week 32 = .ok (.iconst 0, 1) := by decide +kernel
theorem dX8_week_33 : decode cX8_week 33 = .ok (.istore 5, 2) := by decide +kernel
theorem dX8_week_35 : decode cX8_week 35 = .ok (.iload_n 1, 1) := by decide +kernel
theorem dX8_week_36 : decode cX8_week 36 = .ok (.istore 6, 2) := by decide +kernel
theorem dX8_week_38 : decode cX8_week 38 = .ok (.iconst 0, 1) := by decide +kernel
theorem dX8_week_39 : decode cX8_week 39 = .ok (.istore 7, 2) := by decide +kernel
theorem dX8_week_41 : decode cX8_week 41 = .ok (.iload 7, 2) := by decide +kernel
theorem dX8_week_43 : decode cX8_week 43 = .ok (.iload_n 2, 1) := by decide +kernel
theorem dX8_week_44 : decode cX8_week 44 = .ok (.if_icmp .ge 90, 3) := by decide +kernel
theorem dX8_week_47 : decode cX8_week 47 = .ok (.aload_n 0, 1) := by decide +kernel
theorem dX8_week_48 : decode cX8_week 48 = .ok (.getfield 25, 3) := by decide +kernel
theorem dX8_week_51 : decode cX8_week 51 = .ok (.getfield 193, 3) := by decide +kernel
theorem dX8_week_54 : decode cX8_week 54 = .ok (.ifCond .le 80, 3) := by decide +kernel
theorem dX8_week_57 : decode cX8_week 57 = .ok (.ldc 240, 2) := by decide +kernel
theorem dX8_week_59 : decode cX8_week 59 = .ok (.iload 6, 2) := by decide +kernel
theorem dX8_week_61 : decode cX8_week 61 = .ok (.imul, 1) := by decide +kernel
theorem dX8_week_62 : decode cX8_week 62 = .ok (.sipush 12345, 3) := by decide +kernel
theorem dX8_week_65 : decode cX8_week 65 = .ok (.iadd, 1) := by decide +kernel
theorem dX8_week_66 : decode cX8_week 66 = .ok (.istore 6, 2) := by decide +kernel
theorem dX8_week_68 : decode cX8_week 68 = .ok (.aload_n 0, 1) := by decide +kernel
theorem dX8_week_69 : decode cX8_week 69 = .ok (.getfield 25, 3) := by decide +kernel
theorem dX8_week_72 : decode cX8_week 72 = .ok (.iload 6, 2) := by decide +kernel
theorem dX8_week_74 : decode cX8_week 74 = .ok (.bipush 16, 2) := by decide +kernel
theorem dX8_week_76 : decode cX8_week 76 = .ok (.iushr, 1) := by decide +kernel
theorem dX8_week_77 : decode cX8_week 77 = .ok (.aload_n 0, 1) := by decide +kernel
theorem dX8_week_78 : decode cX8_week 78 = .ok (.getfield 25, 3) := by decide +kernel
theorem dX8_week_81 : decode cX8_week 81 = .ok (.getfield 193, 3) := by decide +kernel
theorem dX8_week_84 : decode cX8_week 84 = .ok (.irem, 1) := by decide +kernel
theorem dX8_week_85 : decode cX8_week 85 = .ok (.invokevirtual 120, 3) := by decide +kernel
theorem dX8_week_88 : decode cX8_week 88 = .ok (.astore 8, 2) := by decide +kernel
theorem dX8_week_90 : decode cX8_week 90 = .ok (.aload_n 0, 1) := by decide +kernel
theorem dX8_week_91 : decode cX8_week 91 = .ok (.getfield 18, 3) := by decide +kernel
theorem dX8_week_94 : decode cX8_week 94 = .ok (.aload 8, 2) := by decide +kernel
theorem dX8_week_96 : decode cX8_week 96 = .ok (.iload 4, 2) := by decide +kernel
theorem dX8_week_98 : decode cX8_week 98 = .ok (.invokevirtual 157, 3) := by decide +kernel
theorem dX8_week_101 : decode cX8_week 101 = .ok (.iconst 1, 1) := by decide +kernel
theorem dX8_week_102 : decode cX8_week 102 = .ok (.if_icmp .ne 6, 3) := by decide +kernel
theorem dX8_week_105 : decode cX8_week 105 = .ok (.iinc 5 1, 3) := by decide +kernel
theorem dX8_week_108 : decode cX8_week 108 = .ok (.aload_n 0, 1) := by decide +kernel
theorem dX8_week_109 : decode cX8_week 109 = .ok (.getfield 18, 3) := by decide +kernel
theorem dX8_week_112 : decode cX8_week 112 = .ok (.aload 8, 2) := by decide +kernel
theorem dX8_week_114 : decode cX8_week 114 = .ok (.iload 4, 2) := by decide +kernel
theorem dX8_week_116 : decode cX8_week 116 = .ok (.aload_n 0, 1) := by decide +kernel
theorem dX8_week_117 : decode cX8_week 117 = .ok (.getfield 18, 3) := by decide +kernel
theorem dX8_week_120 : decode cX8_week 120 = .ok (.getfield 148, 3) := by decide +kernel
theorem dX8_week_123 : decode cX8_week 123 = .ok (.invokevirtual 194, 3) := by decide +kernel
theorem dX8_week_126 : decode cX8_week 126 = .ok (.istore 4, 2) := by decide +kernel
theorem dX8_week_128 : decode cX8_week 128 = .ok (.iinc 7 1, 3) := by decide +kernel
theorem dX8_week_131 : decode cX8_week 131 = .ok (.goto (-90), 3) := by decide +kernel
theorem dX8_week_134 : decode cX8_week 134 = .ok (.iload_n 3, 1) := by decide +kernel
theorem dX8_week_135 : decode cX8_week 135 = .ok (.ifCond .ne 8, 3) := by decide +kernel
theorem dX8_week_138 : decode cX8_week 138 = .ok (.iload 4, 2) := by decide +kernel
theorem dX8_week_140 : decode cX8_week 140 = .ok (.goto 5, 3) := by decide +kernel
theorem dX8_week_143 : decode cX8_week 143 = .ok (.iload 5, 2) := by decide +kernel
theorem dX8_week_145 : decode cX8_week 145 = .ok (.ireturn, 1) := by decide +kernel
theorem dX8_sheet_0 : decode cX8_sheet 0 = .ok (.aload_n 0, 1) := by decide +kernel
theorem dX8_sheet_1 : decode cX8_sheet 1 = .ok (.iload_n 1, 1) := by decide +kernel
theorem dX8_sheet_2 : decode cX8_sheet 2 = .ok (.invokevirtual 208, 3) := by decide +kernel
theorem dX8_sheet_5 : decode cX8_sheet 5 = .ok (.astore 4, 2) := by decide +kernel
theorem dX8_sheet_7 : decode cX8_sheet 7 = .ok (.aload 4, 2) := by decide +kernel
theorem dX8_sheet_9 : decode cX8_sheet 9 = .ok (.ifnull 18, 3) := by decide +kernel
theorem dX8_sheet_12 : decode cX8_sheet 12 = .ok (.iload_n 2, 1) := by decide +kernel
theorem dX8_sheet_13 : decode cX8_sheet 13 = .ok (.iconst 0, 1) := by decide +kernel
theorem dX8_sheet_14 : decode cX8_sheet 14 = .ok (.iconst 2, 1) := by decide +kernel
theorem dX8_sheet_15 : decode cX8_sheet 15 = .ok (.invokestatic 91, 3) := by decide +kernel
theorem dX8_sheet_18 : decode cX8_sheet 18 = .ok (.ifCond .eq 9, 3) := by decide +kernel
theorem dX8_sheet_21 : decode cX8_sheet 21 = .ok (.iload_n 3, 1) := by decide +kernel
theorem dX8_sheet_22 : decode cX8_sheet 22 = .ok (.bipush 60, 2) := by decide +kernel
theorem dX8_sheet_24 : decode cX8_sheet 24 = .ok (.if_icmp .le 6, 3) := by decide +kernel
theorem dX8_sheet_27 : decode cX8_sheet 27 = .ok (.bipush (-2), 2) := by decide +kernel
theorem dX8_sheet_29 : decode cX8_sheet 29 = .ok (.ireturn, 1) := by decide +kernel
theorem dX8_sheet_30 : decode cX8_sheet 30 = .ok (.iload_n 3, 1) := by decide +kernel
theorem dX8_sheet_31 : decode cX8_sheet 31 = .ok (.ifCond .ge 9, 3) := by decide +kernel
theorem dX8_sheet_34 : decode cX8_sheet 34 = .ok (.aload_n 0, 1) := by decide +kernel
theorem dX8_sheet_35 : decode cX8_sheet 35 = .ok (.iconst 5, 1) := by decide +kernel
theorem dX8_sheet_36 : decode cX8_sheet 36 = .ok (.invokevirtual 215, 3) := by decide +kernel
theorem dX8_sheet_39 : decode cX8_sheet 39 = .ok (.ireturn, 1) := by decide +kernel
theorem dX8_sheet_40 : decode cX8_sheet 40 = .ok (.aload 4, 2) := by decide +kernel
theorem dX8_sheet_42 : decode cX8_sheet 42 = .ok (.iload_n 2, 1) := by decide +kernel
theorem dX8_sheet_43 : decode cX8_sheet 43 = .ok (.iload_n 3, 1) := by decide +kernel
theorem dX8_sheet_44 : decode cX8_sheet 44 = .ok (.invokevirtual 241, 3) := by decide +kernel
theorem dX8_sheet_47 : decode cX8_sheet 47 = .ok (.iload_n 3, 1) := by decide +kernel
theorem dX8_sheet_48 : decode cX8_sheet 48 = .ok (.ireturn, 1) := by decide +kernel
theorem dX8_lose_0 : decode cX8_lose 0 = .ok (.aload_n 0, 1) := by decide +kernel
theorem dX8_lose_1 : decode cX8_lose 1 = .ok (.iload_n 1, 1) := by decide +kernel
theorem dX8_lose_2 : decode cX8_lose 2 = .ok (.invokevirtual 208, 3) := by decide +kernel
theorem dX8_lose_5 : decode cX8_lose 5 = .ok (.astore_n 2, 1) := by decide +kernel
theorem dX8_lose_6 : decode cX8_lose 6 = .ok (.aload_n 2, 1) := by decide +kernel
theorem dX8_lose_7 : decode cX8_lose 7 = .ok (.ifnonnull 6, 3) := by decide +kernel
theorem dX8_lose_10 : decode cX8_lose 10 = .ok (.bipush (-2), 2) := by decide +kernel
theorem dX8_lose_12 : decode cX8_lose 12 = .ok (.ireturn, 1) := by decide +kernel
theorem dX8_lose_13 : decode cX8_lose 13 = .ok (.aload_n 2, 1) := by decide +kernel
theorem dX8_lose_14 : decode cX8_lose 14 = .ok (.getfield 212, 3) := by decide +kernel
theorem dX8_lose_17 : decode cX8_lose 17 = .ok (.ifCond .eq 9, 3) := by decide +kernel
theorem dX8_lose_20 : decode cX8_lose 20 = .ok (.aload_n 0, 1) := by decide +kernel
theorem dX8_lose_21 : decode cX8_lose 21 = .ok (.iconst 1, 1) := by decide +kernel
theorem dX8_lose_22 : decode cX8_lose 22 = .ok (.invokevirtual 215, 3) := by decide +kernel
theorem dX8_lose_25 : decode cX8_lose 25 = .ok (.ireturn, 1) := by decide +kernel
theorem dX8_lose_26 : decode cX8_lose 26 = .ok (.aload_n 2, 1) := by decide +kernel
theorem dX8_lose_27 : decode cX8_lose 27 = .ok (.iconst 1, 1) := by decide +kernel
theorem dX8_lose_28 : decode cX8_lose 28 = .ok (.putfield 212, 3) := by decide +kernel
theorem dX8_lose_31 : decode cX8_lose 31 = .ok (.aload_n 2, 1) := by decide +kernel
theorem dX8_lose_32 : decode cX8_lose 32 = .ok (.getfield 218, 3) := by decide +kernel
theorem dX8_lose_35 : decode cX8_lose 35 = .ok (.ireturn, 1) := by decide +kernel
theorem dX8_lay_0 : decode cX8_lay 0 = .ok (.aload_n 0, 1) := by decide +kernel
theorem dX8_lay_1 : decode cX8_lay 1 = .ok (.iload_n 1, 1) := by decide +kernel
theorem dX8_lay_2 : decode cX8_lay 2 = .ok (.invokevirtual 208, 3) := by decide +kernel
theorem dX8_lay_5 : decode cX8_lay 5 = .ok (.astore 5, 2) := by decide +kernel
theorem dX8_lay_7 : decode cX8_lay 7 = .ok (.aload 5, 2) := by decide +kernel
theorem dX8_lay_9 : decode cX8_lay 9 = .ok (.ifnull 12, 3) := by decide +kernel
theorem dX8_lay_12 : decode cX8_lay 12 = .ok (.iload_n 2, 1) := by decide +kernel
theorem dX8_lay_13 : decode cX8_lay 13 = .ok (.iconst 0, 1) := by decide +kernel
theorem dX8_lay_14 : decode cX8_lay 14 = .ok (.iconst 2, 1) := by decide +kernel
theorem dX8_lay_15 : decode cX8_lay 15 = .ok (.invokestatic 91, 3) := by decide +kernel
theorem dX8_lay_18 : decode cX8_lay 18 = .ok (.ifCond .ne 6, 3) := by decide +kernel
theorem dX8_lay_21 : decode cX8_lay 21 = .ok (.bipush (-2), 2) := by decide +kernel
theorem dX8_lay_23 : decode cX8_lay 23 = .ok (.ireturn, 1) := by decide +kernel
theorem dX8_lay_24 : decode cX8_lay 24 = .ok (.aload 5, 2) := by decide +kernel
theorem dX8_lay_26 : decode cX8_lay 26 = .ok (.iload_n 2, 1) := by decide +kernel
theorem dX8_lay_27 : decode cX8_lay 27 = .ok (.iload_n 3, 1) := by decide +kernel
theorem dX8_lay_28 : decode cX8_lay 28 = .ok (.invokevirtual 244, 3) := by decide +kernel
theorem dX8_lay_31 : decode cX8_lay 31 = .ok (.istore 6, 2) := by decide +kernel
theorem dX8_lay_33 : decode cX8_lay 33 = .ok (.iload 6, 2) := by decide +kernel
theorem dX8_lay_35 : decode cX8_lay 35 = .ok (.ifCond .eq 10, 3) := by decide +kernel
theorem dX8_lay_38 : decode cX8_lay 38 = .ok (.aload_n 0, 1) := by decide +kernel
theorem dX8_lay_39 : decode cX8_lay 39 = .ok (.iload 6, 2) := by decide +kernel
theorem dX8_lay_41 : decode cX8_lay 41 = .ok (.invokevirtual 215, 3) := by decide +kernel
theorem dX8_lay_44 : decode cX8_lay 44 = .ok (.ireturn, 1) := by decide +kernel
theorem dX8_lay_45 : decode cX8_lay 45 = .ok (.aload 5, 2) := by decide +kernel
theorem dX8_lay_47 : decode cX8_lay 47 = .ok (.iload_n 3, 1) := by decide +kernel
theorem dX8_lay_48 : decode cX8_lay 48 = .ok (.iload 4, 2) := by decide +kernel
theorem dX8_lay_50 : decode cX8_lay 50 = .ok (.invokevirtual 248, 3) := by decide +kernel
theorem dX8_lay_53 : decode cX8_lay 53 = .ok (.iconst 1, 1) := by decide +kernel
theorem dX8_lay_54 : decode cX8_lay 54 = .ok (.ireturn, 1) := by decide +kernel
theorem dX8_get_0 : decode cX8_get 0 = .ok (.aload_n 0, 1) := by decide +kernel
theorem dX8_get_1 : decode cX8_get 1 = .ok (.iload_n 1, 1) := by decide +kernel
theorem dX8_get_2 : decode cX8_get 2 = .ok (.invokevirtual 208, 3) := by decide +kernel
theorem dX8_get_5 : decode cX8_get 5 = .ok (.astore 4, 2) := by decide +kernel
theorem dX8_get_7 : decode cX8_get 7 = .ok (.aload 4, 2) := by decide +kernel
theorem dX8_get_9 : decode cX8_get 9 = .ok (.ifnull 12, 3) := by decide +kernel
theorem dX8_get_12 : decode cX8_get 12 = .ok (.iload_n 2, 1) := by decide +kernel
theorem dX8_get_13 : decode cX8_get 13 = .ok (.iconst 0, 1) := by decide +kernel
theorem dX8_get_14 : decode cX8_get 14 = .ok (.iconst 2, 1) := by decide +kernel
theorem dX8_get_15 : decode cX8_get 15 = .ok (.invokestatic 91, 3) := by decide +kernel
theorem dX8_get_18 : decode cX8_get 18 = .ok (.ifCond .ne 6, 3) := by decide +kernel
theorem dX8_get_21 : decode cX8_get 21 = .ok (.ldc 251, 2) := by decide +kernel
theorem dX8_get_23 : decode cX8_get 23 = .ok (.ireturn, 1) := by decide +kernel
theorem dX8_get_24 : decode cX8_get 24 = .ok (.aload 4, 2) := by decide +kernel
theorem dX8_get_26 : decode cX8_get 26 = .ok (.iload_n 2, 1) := by decide +kernel
theorem dX8_get_27 : decode cX8_get 27 = .ok (.iload_n 3, 1) := by decide +kernel
theorem dX8_get_28 : decode cX8_get 28 = .ok (.invokevirtual 244, 3) := by decide +kernel
theorem dX8_get_31 : decode cX8_get 31 = .ok (.istore 5, 2) := by decide +kernel
theorem dX8_get_33 : decode cX8_get 33 = .ok (.iload 5, 2) := by decide +kernel
theorem dX8_get_35 : decode cX8_get 35 = .ok (.ifCond .eq 13, 3) := by decide +kernel
theorem dX8_get_38 : decode cX8_get 38 = .ok (.aload_n 0, 1) := by decide +kernel
theorem dX8_get_39 : decode cX8_get 39 = .ok (.iload 5, 2) := by decide +kernel
theorem dX8_get_41 : decode cX8_get 41 = .ok (.invokevirtual 215, 3) := by decide +kernel
theorem dX8_get_44 : decode cX8_get 44 = .ok (.pop, 1) := by decide +kernel
theorem dX8_get_45 : decode cX8_get 45 = .ok (.ldc 251, 2) := by decide +kernel
theorem dX8_get_47 : decode cX8_get 47 = .ok (.ireturn, 1) := by decide +kernel
theorem dX8_get_48 : decode cX8_get 48 = .ok (.aload 4, 2) := by decide +kernel
theorem dX8_get_50 : decode cX8_get 50 = .ok (.iload_n 3, 1) := by decide +kernel
theorem dX8_get_51 : decode cX8_get 51 = .ok (.invokevirtual 219, 3) := by decide +kernel
theorem dX8_get_54 : decode cX8_get 54 = .ok (.ireturn, 1) := by decide +kernel
theorem dX8_copy_0 : decode cX8_copy 0 = .ok (.aload_n 0, 1) := by decide +kernel
theorem dX8_copy_1 : decode cX8_copy 1 = .ok (.iload_n 1, 1) := by decide +kernel
theorem dX8_copy_2 : decode cX8_copy 2 = .ok (.invokevirtual 208, 3) := by decide +kernel
theorem dX8_copy_5 : decode cX8_copy 5 = .ok (.astore 6, 2) := by decide +kernel
theorem dX8_copy_7 : decode cX8_copy 7 = .ok (.aload_n 0, 1) := by decide +kernel
theorem dX8_copy_8 : decode cX8_copy 8 = .ok (.iload_n 3, 1) := by decide +kernel
theorem dX8_copy_9 : decode cX8_copy 9 = .ok (.invokevirtual 208, 3) := by decide +kernel
theorem dX8_copy_12 : decode cX8_copy 12 = .ok (.astore 7, 2) := by decide +kernel
theorem dX8_copy_14 : decode cX8_copy 14 = .ok (.aload 6, 2) := by decide +kernel
theorem dX8_copy_16 : decode cX8_copy 16 = .ok (.ifnull 8, 3) := by decide +kernel
theorem dX8_copy_19 : decode cX8_copy 19 = .ok (.aload 7, 2) := by decide +kernel
theorem dX8_copy_21 : decode cX8_copy 21 = .ok (.ifnonnull 6, 3) := by decide +kernel
theorem dX8_copy_24 : decode cX8_copy 24 = .ok (.bipush (-2), 2) := by decide +kernel
theorem dX8_copy_26 : decode cX8_copy 26 = .ok (.ireturn, 1) := by decide +kernel
theorem dX8_copy_27 : decode cX8_copy 27 = .ok (.aload 6, 2) := by decide +kernel
theorem dX8_copy_29 : decode cX8_copy 29 = .ok (.getfield 212, 3) := by decide +kernel
theorem dX8_copy_32 : decode cX8_copy 32 = .ok (.ifCond .ne 11, 3) := by decide +kernel
theorem dX8_copy_35 : decode cX8_copy 35 = .ok (.aload 7, 2) := by decide +kernel
theorem dX8_copy_37 : decode cX8_copy 37 = .ok (.getfield 212, 3) := by decide +kernel
theorem dX8_copy_40 : decode cX8_copy 40 = .ok (.ifCond .eq 9, 3) := by decide +kernel
theorem dX8_copy_43 : decode cX8_copy 43 = .ok (.aload_n 0, 1) := by decide +kernel
theorem dX8_copy_44 : decode cX8_copy 44 = .ok (.iconst 1, 1) := by decide +kernel
theorem dX8_copy_45 : decode cX8_copy 45 = .ok (.invokevirtual 215, 3) := by decide +kernel
theorem dX8_copy_48 : decode cX8_copy 48 = .ok (.ireturn, 1) := by decide +kernel
theorem dX8_copy_49 : decode cX8_copy 49 = .ok (.aload 6, 2) := by decide +kernel
theorem dX8_copy_51 : decode cX8_copy 51 = .ok (.getfield 252, 3) := by decide +kernel
theorem dX8_copy_54 : decode cX8_copy 54 = .ok (.aload 7, 2) := by decide +kernel
theorem dX8_copy_56 : decode cX8_copy 56 = .ok (.getfield 252, 3) := by decide +kernel
theorem dX8_copy_59 : decode cX8_copy 59 = .ok (.if_icmp .eq 9, 3) := by decide +kernel
theorem dX8_copy_62 : decode cX8_copy 62 = .ok (.aload_n 0, 1) := by decide +kernel
theorem dX8_copy_63 : decode cX8_copy 63 = .ok (.iconst 4, 1) := by decide +kernel
theorem dX8_copy_64 : decode cX8_copy 64 = .ok (.invokevirtual 215, 3) := by decide +kernel
theorem dX8_copy_67 : decode cX8_copy 67 = .ok (.ireturn, 1) := by decide +kernel
theorem dX8_copy_68 : decode cX8_copy 68 = .ok (.aload 6, 2) := by decide +kernel
theorem dX8_copy_70 : decode cX8_copy 70 = .ok (.iload_n 2, 1) := by decide +kernel
theorem dX8_copy_71 : decode cX8_copy 71 = .ok (.iload 5, 2) := by decide +kernel
theorem dX8_copy_73 : decode cX8_copy 73 = .ok (.invokevirtual 255, 3) := by decide +kernel
theorem dX8_copy_76 : decode cX8_copy 76 = .ok (.ifCond .eq 15, 3) := by decide +kernel
theorem dX8_copy_79 : decode cX8_copy 79 = .ok (.aload 7, 2) := by decide +kernel
theorem dX8_copy_81 : decode cX8_copy 81 = .ok (.iload 4, 2) := by decide +kernel
theorem dX8_copy_83 : decode cX8_copy 83 = .ok (.iload 5, 2) := by decide +kernel
theorem dX8_copy_85 : decode cX8_copy 85 = .ok (.invokevirtual 255, 3) := by decide +kernel
theorem dX8_copy_88 : decode cX8_copy 88 = .ok (.ifCond .ne 9, 3) := by decide +kernel
theorem dX8_copy_91 : decode cX8_copy 91 = .ok (.aload_n 0, 1) := by decide +kernel
theorem dX8_copy_92 : decode cX8_copy 92 = .ok (.iconst 2, 1) := by decide +kernel
theorem dX8_copy_93 : decode cX8_copy 93 = .ok (.invokevirtual 215, 3) := by decide +kernel
theorem dX8_copy_96 : decode cX8_copy 96 = .ok (.ireturn, 1) := by decide +kernel
theorem dX8_copy_97 : decode cX8_copy 97 = .ok (.aload 6, 2) := by decide +kernel
theorem dX8_copy_99 : decode cX8_copy 99 = .ok (.getfield 258, 3) := by decide +kernel
theorem dX8_copy_102 : decode cX8_copy 102 = .ok (.iload_n 2, 1) := by decide +kernel
theorem dX8_copy_103 : decode cX8_copy 103 = .ok (.aload 7, 2) := by decide +kernel
theorem dX8_copy_105 : decode cX8_copy 105 = .ok (.getfield 258, 3) := by decide +kernel
theorem dX8_copy_108 : decode cX8_copy 108 = .ok (.iload 4, 2) := by decide +kernel
theorem dX8_copy_110 : decode cX8_copy 110 = .ok (.iload 5, 2) := by decide +kernel
theorem dX8_copy_112 : decode cX8_copy 112 = .ok (.invokestatic 222, 3) := by decide +kernel
theorem dX8_copy_115 : decode cX8_copy 115 = .ok (.iconst 1, 1) := by decide +kernel
theorem dX8_copy_116 : decode cX8_copy 116 = .ok (.ireturn, 1) := by decide +kernel
theorem dX8_write_0 : decode cX8_write 0 = .ok (.aload_n 0, 1) := by decide +kernel
theorem dX8_write_1 : decode cX8_write 1 = .ok (.iload_n 1, 1) := by decide +kernel
theorem dX8_write_2 : decode cX8_write 2 = .ok (.invokevirtual 208, 3) := by decide +kernel
theorem dX8_write_5 : decode cX8_write 5 = .ok (.astore_n 2, 1) := by decide +kernel
theorem dX8_write_6 : decode cX8_write 6 = .ok (.aload_n 2, 1) := by decide +kernel
theorem dX8_write_7 : decode cX8_write 7 = .ok (.ifnonnull 6, 3) := by decide +kernel
theorem dX8_write_10 : decode cX8_write 10 = .ok (.bipush (-2), 2) := by decide +kernel
theorem dX8_write_12 : decode cX8_write 12 = .ok (.ireturn, 1) := by decide +kernel
theorem dX8_write_13 : decode cX8_write 13 = .ok (.aload_n 2, 1) := by decide +kernel
theorem dX8_write_14 : decode cX8_write 14 = .ok (.getfield 212, 3) := by decide +kernel
theorem dX8_write_17 : decode cX8_write 17 = .ok (.ifCond .eq 9, 3) := by decide +kernel
theorem dX8_write_20 : decode cX8_write 20 = .ok (.aload_n 0, 1) := by decide +kernel
theorem dX8_write_21 : decode cX8_write 21 = .ok (.iconst 1, 1) := by decide +kernel
theorem dX8_write_22 : decode cX8_write 22 = .ok (.invokevirtual 215, 3) := by decide +kernel
theorem dX8_write_25 : decode cX8_write 25 = .ok (.ireturn, 1) := by decide +kernel
theorem dX8_write_26 : decode cX8_write 26 = .ok (.aload_n 0, 1) := by decide +kernel
theorem dX8_write_27 : decode cX8_write 27 = .ok (.invokevirtual 110, 3) := by decide +kernel
theorem dX8_write_30 : decode cX8_write 30 = .ok (.aload_n 2, 1) := by decide +kernel
theorem dX8_write_31 : decode cX8_write 31 = .ok (.getfield 218, 3) := by decide +kernel
theorem dX8_write_34 : decode cX8_write 34 = .ok (.aload_n 0, 1) := by decide +kernel
theorem dX8_write_35 : decode cX8_write 35 = .ok (.getfield 32, 3) := by decide +kernel
theorem dX8_write_38 : decode cX8_write 38 = .ok (.getfield 154, 3) := by decide +kernel
theorem dX8_write_41 : decode cX8_write 41 = .ok (.iconst 1, 1) := by decide +kernel
theorem dX8_write_42 : decode cX8_write 42 = .ok (.iadd, 1) := by decide +kernel
theorem dX8_write_43 : decode cX8_write 43 = .ok (.invokestatic 261, 3) := by decide +kernel
theorem dX8_write_46 : decode cX8_write 46 = .ok (.istore_n 3, 1) := by decide +kernel
theorem dX8_write_47 : decode cX8_write 47 = .ok (.iconst 0, 1) := by decide +kernel
theorem dX8_write_48 : decode cX8_write 48 = .ok (.istore 4, 2) := by decide +kernel
theorem dX8_write_50 : decode cX8_write 50 = .ok (.iload 4, 2) := by decide +kernel
theorem dX8_write_52 : decode cX8_write 52 = .ok (.iload_n 3, 1) := by decide +kernel
theorem dX8_write_53 : decode cX8_write 53 = .ok (.if_icmp .ge 22, 3) := by decide +kernel
theorem dX8_write_56 : decode cX8_write 56 = .ok (.aload_n 2, 1) := by decide +kernel
theorem dX8_write_57 : decode cX8_write 57 = .ok (.iload 4, 2) := by decide +kernel
theorem dX8_write_59 : decode cX8_write 59 = .ok (.aload_n 0, 1) := by decide +kernel
theorem dX8_write_60 : decode cX8_write 60 = .ok (.getfield 36, 3) := by decide +kernel
theorem dX8_write_63 : decode cX8_write 63 = .ok (.iload 4, 2) := by decide +kernel
theorem dX8_write_65 : decode cX8_write 65 = .ok (.iaload, 1) := by decide +kernel
theorem dX8_write_66 : decode cX8_write 66 = .ok (.invokevirtual 248, 3) := by decide +kernel
theorem dX8_write_69 : decode cX8_write 69 = .ok (.iinc 4 1, 3) := by decide +kernel
theorem dX8_write_72 : decode cX8_write 72 = .ok (.goto (-22), 3) := by decide +kernel
theorem dX8_write_75 : decode cX8_write 75 = .ok (.iload_n 3, 1) := by decide +kernel
theorem dX8_write_76 : decode cX8_write 76 = .ok (.ireturn, 1) := by decide +kernel
theorem dX8_count_0 : decode cX8_count 0 = .ok (.aload_n 0, 1) := by decide +kernel
theorem dX8_count_1 : decode cX8_count 1 = .ok (.invokevirtual 110, 3) := by decide +kernel
theorem dX8_count_4 : decode cX8_count 4 = .ok (.iload_n 1, 1) := by decide +kernel
theorem dX8_count_5 : decode cX8_count 5 = .ok (.tableswitch 130 0 8 #[51, 59, 67, 75, 85, 95, 105, 117, 125], 51) := by decide +kernel
theorem dX8_count_56 : decode cX8_count 56 = .ok (.aload_n 0, 1) := by decide +kernel
theorem dX8_count_57 : decode cX8_count 57 = .ok (.getfield 18, 3) := by decide +kernel
theorem dX8_count_60 : decode cX8_count 60 = .ok (.getfield 176, 3) := by decide +kernel
theorem dX8_count_63 : decode cX8_count 63 = .ok (.ireturn, 1) := by decide +kernel
theorem dX8_count_64 : decode cX8_count 64 = .ok (.aload_n 0, 1) := by decide +kernel
theorem dX8_count_65 : decode cX8_count 65 = .ok (.getfield 25, 3) := by decide +kernel
theorem dX8_count_68 : decode cX8_count 68 = .ok (.getfield 193, 3) := by decide +kernel
theorem dX8_count_71 : decode cX8_count 71 = .ok (.ireturn, 1) := by decide +kernel
theorem dX8_count_72 : decode cX8_count 72 = .ok (.aload_n 0, 1) := by decide +kernel
theorem dX8_count_73 : decode cX8_count 73 = .ok (.getfield 32, 3) := by decide +kernel
theorem dX8_count_76 : decode cX8_count 76 = .ok (.getfield 154, 3) := by decide +kernel
theorem dX8_count_79 : decode cX8_count 79 = .ok (.ireturn, 1) := by decide +kernel
theorem dX8_count_80 : decode cX8_count 80 = .ok (.aload_n 0, 1) := by decide +kernel
theorem dX8_count_81 : decode cX8_count 81 = .ok (.getfield 11, 3) := by decide +kernel
theorem dX8_count_84 : decode cX8_count 84 = .ok (.iconst 0, 1) := by decide +kernel
theorem dX8_count_85 : decode cX8_count 85 = .ok (.aaload, 1) := by decide +kernel
theorem dX8_count_86 : decode cX8_count 86 = .ok (.getfield 102, 3) := by decide +kernel
theorem dX8_count_89 : decode cX8_count 89 = .ok (.ireturn, 1) := by decide +kernel
theorem dX8_count_90 : decode cX8_count 90 = .ok (.aload_n 0, 1) := by decide +kernel
theorem dX8_count_91 : decode cX8_count 91 = .ok (.getfield 11, 3) := by decide +kernel
theorem dX8_count_94 : decode cX8_count 94 = .ok (.iconst 1, 1) := by decide +kernel
theorem dX8_count_95 : decode cX8_count 95 = .ok (.aaload, 1) := by decide +kernel
theorem dX8_count_96 : decode cX8_count 96 = .ok (.getfield 102, 3) := by decide +kernel
theorem dX8_count_99 : decode cX8_count 99 = .ok (.ireturn, 1) := by decide +kernel
theorem dX8_count_100 : decode cX8_count 100 = .ok (.aload_n 0, 1) := by decide +kernel
theorem dX8_count_101 : decode cX8_count 101 = .ok (.getfield 11, 3) := by decide +kernel
theorem dX8_count_104 : decode cX8_count 104 = .ok (.iconst 2, 1) := by decide +kernel
theorem dX8_count_105 : decode cX8_count 105 = .ok (.aaload, 1) := by decide +kernel
theorem dX8_count_106 : decode cX8_count 106 = .ok (.getfield 102, 3) := by decide +kernel
theorem dX8_count_109 : decode cX8_count 109 = .ok (.ireturn, 1) := by decide +kernel
theorem dX8_count_110 : decode cX8_count 110 = .ok (.aload_n 0, 1) := by decide +kernel
theorem dX8_count_111 : decode cX8_count 111 = .ok (.aload_n 0, 1) := by decide +kernel
theorem dX8_count_112 : decode cX8_count 112 = .ok (.getfield 32, 3) := by decide +kernel
theorem dX8_count_115 : decode cX8_count 115 = .ok (.getfield 154, 3) := by decide +kernel
theorem dX8_count_118 : decode cX8_count 118 = .ok (.invokevirtual 170, 3) := by decide +kernel
theorem dX8_count_121 : decode cX8_count 121 = .ok (.ireturn, 1) := by decide +kernel
theorem dX8_count_122 : decode cX8_count 122 = .ok (.aload_n 0, 1) := by decide +kernel
theorem dX8_count_123 : decode cX8_count 123 = .ok (.getfield 59, 3) := by decide +kernel
theorem dX8_count_126 : decode cX8_count 126 = .ok (.getfield 207, 3) := by decide +kernel
theorem dX8_count_129 : decode cX8_count 129 = .ok (.ireturn, 1) := by decide +kernel
theorem dX8_count_130 : decode cX8_count 130 = .ok (.aload_n 0, 1) := by decide +kernel
theorem dX8_count_131 : decode cX8_count 131 = .ok (.getfield 266, 3) := by decide +kernel
theorem dX8_count_134 : decode cX8_count 134 = .ok (.ireturn, 1) := by decide +kernel
theorem dX8_count_135 : decode cX8_count 135 = .ok (.bipush (-2), 2) := by decide +kernel
theorem dX8_count_137 : decode cX8_count 137 = .ok (.ireturn, 1) := by decide +kernel
theorem dX8_digest_0 : decode cX8_digest 0 = .ok (.aload_n 0, 1) := by decide +kernel
theorem dX8_digest_1 : decode cX8_digest 1 = .ok (.invokevirtual 110, 3) := by decide +kernel
theorem dX8_digest_4 : decode cX8_digest 4 = .ok (.ldc2_w 269, 3) := by decide +kernel
theorem dX8_digest_7 : decode cX8_digest 7 = .ok (.lstore_n 1, 1) := by decide +kernel
theorem dX8_digest_8 : decode cX8_digest 8 = .ok (.iconst 0, 1) := by decide +kernel
theorem dX8_digest_9 : decode cX8_digest 9 = .ok (.istore_n 3, 1) := by decide +kernel
theorem dX8_digest_10 : decode cX8_digest 10 = .ok (.iload_n 3, 1) := by decide +kernel
theorem dX8_digest_11 : decode cX8_digest 11 = .ok (.bipush 7, 2) := by decide +kernel
theorem dX8_digest_13 : decode cX8_digest 13 = .ok (.if_icmp .gt 22, 3) := by decide +kernel
theorem dX8_digest_16 : decode cX8_digest 16 = .ok (.ldc2_w 271, 3) := by decide +kernel
theorem dX8_digest_19 : decode cX8_digest 19 = .ok (.lload_n 1, 1) := by decide +kernel
theorem dX8_digest_20 : decode cX8_digest 20 = .ok (.lmul, 1) := by decide +kernel
theorem dX8_digest_21 : decode cX8_digest 21 = .ok (.aload_n 0, 1) := by decide +kernel
theorem dX8_digest_22 : decode cX8_digest 22 = .ok (.iload_n 3, 1) := by decide +kernel
theorem dX8_digest_23 : decode cX8_digest 23 = .ok (.invokevirtual 273, 3) := by decide +kernel
theorem dX8_digest_26 : decode cX8_digest 26 = .ok (.i2l, 1) := by decide +kernel
theorem dX8_digest_27 : decode cX8_digest 27 = .ok (.ladd, 1) := by decide +kernel
theorem dX8_digest_28 : decode cX8_digest 28 = .ok (.lstore_n 1, 1) := by decide +kernel
theorem dX8_digest_29 : decode cX8_digest 29 = .ok (.iinc 3 1, 3) := by decide +kernel
theorem dX8_digest_32 : decode cX8_digest 32 = .ok (.goto (-22), 3) := by decide +kernel
theorem dX8_digest_35 : decode cX8_digest 35 = .ok (.iconst 0, 1) := by decide +kernel
theorem dX8_digest_36 : decode cX8_digest 36 = .ok (.istore_n 3, 1) := by decide +kernel
theorem dX8_digest_37 : decode cX8_digest 37 = .ok (.iload_n 3, 1) := by decide +kernel
theorem dX8_digest_38 : decode cX8_digest 38 = .ok (.aload_n 0, 1) := by decide +kernel
theorem dX8_digest_39 : decode cX8_digest 39 = .ok (.getfield 11, 3) := by decide +kernel
theorem dX8_digest_42 : decode cX8_digest 42 = .ok (.arraylength, 1) := by decide +kernel
theorem dX8_digest_43 : decode cX8_digest 43 = .ok (.if_icmp .ge 22, 3) := by decide +kernel
theorem dX8_digest_46 : decode cX8_digest 46 = .ok (.ldc2_w 271, 3) := by decide +kernel
theorem dX8_digest_49 : decode cX8_digest 49 = .ok (.lload_n 1, 1) := by decide +kernel
theorem dX8_digest_50 : decode cX8_digest 50 = .ok (.lmul, 1) := by decide +kernel
theorem dX8_digest_51 : decode cX8_digest 51 = .ok (.aload_n 0, 1) := by decide +kernel
theorem dX8_digest_52 : decode cX8_digest 52 = .ok (.iload_n 3, 1) := by decide +kernel
theorem dX8_digest_53 : decode cX8_digest 53 = .ok (.invokevirtual 275, 3) := by decide +kernel
theorem dX8_digest_56 : decode cX8_digest 56 = .ok (.i2l, 1) := by decide +kernel
theorem dX8_digest_57 : decode cX8_digest 57 = .ok (.ladd, 1) := by decide +kernel
theorem dX8_digest_58 : decode cX8_digest 58 = .ok (.lstore_n 1, 1) := by decide +kernel
theorem dX8_digest_59 : decode cX8_digest 59 = .ok (.iinc 3 1, 3) := by decide +kernel
theorem dX8_digest_62 : decode cX8_digest 62 = .ok (.goto (-25), 3) := by decide +kernel
theorem dX8_digest_65 : decode cX8_digest 65 = .ok (.aload_n 0, 1) := by decide +kernel
theorem dX8_digest_66 : decode cX8_digest 66 = .ok (.lload_n 1, 1) := by decide +kernel
theorem dX8_digest_67 : decode cX8_digest 67 = .ok (.invokevirtual 278, 3) := by decide +kernel
theorem dX8_digest_70 : decode cX8_digest 70 = .ok (.lstore_n 1, 1) := by decide +kernel
theorem dX8_digest_71 : decode cX8_digest 71 = .ok (.aload_n 0, 1) := by decide +kernel
theorem dX8_digest_72 : decode cX8_digest 72 = .ok (.lload_n 1, 1) := by decide +kernel
theorem dX8_digest_73 : decode cX8_digest 73 = .ok (.invokevirtual 282, 3) := by decide +kernel
theorem dX8_digest_76 : decode cX8_digest 76 = .ok (.lstore_n 1, 1) := by decide +kernel
theorem dX8_digest_77 : decode cX8_digest 77 = .ok (.aload_n 0, 1) := by decide +kernel
theorem dX8_digest_78 : decode cX8_digest 78 = .ok (.lload_n 1, 1) := by decide +kernel
theorem dX8_digest_79 : decode cX8_digest 79 = .ok (.invokevirtual 285, 3) := by decide +kernel
theorem dX8_digest_82 : decode cX8_digest 82 = .ok (.lstore_n 1, 1) := by decide +kernel
theorem dX8_digest_83 : decode cX8_digest 83 = .ok (.ldc2_w 271, 3) := by decide +kernel
theorem dX8_digest_86 : decode cX8_digest 86 = .ok (.lload_n 1, 1) := by decide +kernel
theorem dX8_digest_87 : decode cX8_digest 87 = .ok (.lmul, 1) := by decide +kernel
theorem dX8_digest_88 : decode cX8_digest 88 = .ok (.aload_n 0, 1) := by decide +kernel
theorem dX8_digest_89 : decode cX8_digest 89 = .ok (.invokevirtual 288, 3) := by decide +kernel
theorem dX8_digest_92 : decode cX8_digest 92 = .ok (.i2l, 1) := by decide +kernel
theorem dX8_digest_93 : decode cX8_digest 93 = .ok (.ladd, 1) := by decide +kernel
theorem dX8_digest_94 : decode cX8_digest 94 = .ok (.lstore_n 1, 1) := by decide +kernel
theorem dX8_digest_95 : decode cX8_digest 95 = .ok (.ldc2_w 271, 3) := by decide +kernel
theorem dX8_digest_98 : decode cX8_digest 98 = .ok (.lload_n 1, 1) := by decide +kernel
theorem dX8_digest_99 : decode cX8_digest 99 = .ok (.lmul, 1) := by decide +kernel
theorem dX8_digest_100 : decode cX8_digest 100 = .ok (.aload_n 0, 1) := by decide +kernel
theorem dX8_digest_101 : decode cX8_digest 101 = .ok (.invokevirtual 291, 3) := by decide +kernel
theorem dX8_digest_104 : decode cX8_digest 104 = .ok (.i2l, 1) := by decide +kernel
theorem dX8_digest_105 : decode cX8_digest 105 = .ok (.ladd, 1) := by decide +kernel
theorem dX8_digest_106 : decode cX8_digest 106 = .ok (.lstore_n 1, 1) := by decide +kernel
theorem dX8_digest_107 : decode cX8_digest 107 = .ok (.iconst 0, 1) := by decide +kernel
theorem dX8_digest_108 : decode cX8_digest 108 = .ok (.istore_n 3, 1) := by decide +kernel
theorem dX8_digest_109 : decode cX8_digest 109 = .ok (.iload_n 3, 1) := by decide +kernel
theorem dX8_digest_110 : decode cX8_digest 110 = .ok (.iconst 3, 1) := by decide +kernel
theorem dX8_digest_111 : decode cX8_digest 111 = .ok (.if_icmp .gt 22, 3) := by decide +kernel
theorem dX8_digest_114 : decode cX8_digest 114 = .ok (.ldc2_w 271, 3) := by decide +kernel
theorem dX8_digest_117 : decode cX8_digest 117 = .ok (.lload_n 1, 1) := by decide +kernel
theorem dX8_digest_118 : decode cX8_digest 118 = .ok (.lmul, 1) := by decide +kernel
theorem dX8_digest_119 : decode cX8_digest 119 = .ok (.aload_n 0, 1) := by decide +kernel
theorem dX8_digest_120 : decode cX8_digest 120 = .ok (.iload_n 3, 1) := by decide +kernel
theorem dX8_digest_121 : decode cX8_digest 121 = .ok (.invokevirtual 294, 3) := by decide +kernel
theorem dX8_digest_124 : decode cX8_digest 124 = .ok (.i2l, 1) := by decide +kernel
theorem dX8_digest_125 : decode cX8_digest 125 = .ok (.ladd, 1) := by decide +kernel
theorem dX8_digest_126 : decode cX8_digest 126 = .ok (.lstore_n 1, 1) := by decide +kernel
theorem dX8_digest_127 : decode cX8_digest 127 = .ok (.iinc 3 1, 3) := by decide +kernel
theorem dX8_digest_130 : decode cX8_digest 130 = .ok (.goto (-21), 3) := by decide +kernel
theorem dX8_digest_133 : decode cX8_digest 133 = .ok (.iconst 0, 1) := by decide +kernel
theorem dX8_digest_134 : decode cX8_digest 134 = .ok (.istore_n 3, 1) := by decide +kernel
theorem dX8_digest_135 : decode cX8_digest 135 = .ok (.iload_n 3, 1) := by decide +kernel
theorem dX8_digest_136 : decode cX8_digest 136 = .ok (.iconst 4, 1) := by decide +kernel
theorem dX8_digest_137 : decode cX8_digest 137 = .ok (.if_icmp .ge 22, 3) := by decide +kernel
theorem dX8_digest_140 : decode cX8_digest 140 = .ok (.ldc2_w 271, 3) := by decide +kernel
theorem dX8_digest_143 : decode cX8_digest 143 = .ok (.lload_n 1, 1) := by decide +kernel
theorem dX8_digest_144 : decode cX8_digest 144 = .ok (.lmul, 1) := by decide +kernel
theorem dX8_digest_145 : decode cX8_digest 145 = .ok (.aload_n 0, 1) := by decide +kernel
theorem dX8_digest_146 : decode cX8_digest 146 = .ok (.iload_n 3, 1) := by decide +kernel
theorem dX8_digest_147 : decode cX8_digest 147 = .ok (.invokevirtual 297, 3) := by decide +kernel
theorem dX8_digest_150 : decode cX8_digest 150 = .ok (.i2l, 1) := by decide +kernel
theorem dX8_digest_151 : decode cX8_digest 151 = .ok (.ladd, 1) := by decide +kernel
theorem dX8_digest_152 : decode cX8_digest 152 = .ok (.lstore_n 1, 1) := by decide +kernel
theorem dX8_digest_153 : decode cX8_digest 153 = .ok (.iinc 3 1, 3) := by decide +kernel
theorem dX8_digest_156 : decode cX8_digest 156 = .ok (.goto (-21), 3) := by decide +kernel
theorem dX8_digest_159 : decode cX8_digest 159 = .ok (.ldc2_w 271, 3) := by decide +kernel
theorem dX8_digest_162 : decode cX8_digest 162 = .ok (.lload_n 1, 1) := by decide +kernel
theorem dX8_digest_163 : decode cX8_digest 163 = .ok (.lmul, 1) := by decide +kernel
theorem dX8_digest_164 : decode cX8_digest 164 = .ok (.aload_n 0, 1) := by decide +kernel
theorem dX8_digest_165 : decode cX8_digest 165 = .ok (.invokevirtual 300, 3) := by decide +kernel
theorem dX8_digest_168 : decode cX8_digest 168 = .ok (.i2l, 1) := by decide +kernel
theorem dX8_digest_169 : decode cX8_digest 169 = .ok (.ladd, 1) := by decide +kernel
theorem dX8_digest_170 : decode cX8_digest 170 = .ok (.lstore_n 1, 1) := by decide +kernel
theorem dX8_digest_171 : decode cX8_digest 171 = .ok (.ldc2_w 271, 3) := by decide +kernel
theorem dX8_digest_174 : decode cX8_digest 174 = .ok (.lload_n 1, 1) := by decide +kernel
theorem dX8_digest_175 : decode cX8_digest 175 = .ok (.lmul, 1) := by decide +kernel
theorem dX8_digest_176 : decode cX8_digest 176 = .ok (.aload_n 0, 1) := by decide +kernel
theorem dX8_digest_177 : decode cX8_digest 177 = .ok (.invokevirtual 303, 3) := by decide +kernel
theorem dX8_digest_180 : decode cX8_digest 180 = .ok (.i2l, 1) := by decide +kernel
theorem dX8_digest_181 : decode cX8_digest 181 = .ok (.ladd, 1) := by decide +kernel
theorem dX8_digest_182 : decode cX8_digest 182 = .ok (.lstore_n 1, 1) := by decide +kernel
theorem dX8_digest_183 : decode cX8_digest 183 = .ok (.ldc2_w 271, 3) := by decide +kernel
theorem dX8_digest_186 : decode cX8_digest 186 = .ok (.lload_n 1, 1) := by decide +kernel
theorem dX8_digest_187 : decode cX8_digest 187 = .ok (.lmul, 1) := by decide +kernel
theorem dX8_digest_188 : decode cX8_digest 188 = .ok (.aload_n 0, 1) := by decide +kernel
theorem dX8_digest_189 : decode cX8_digest 189 = .ok (.bipush 7, 2) := by decide +kernel
theorem dX8_digest_191 : decode cX8_digest 191 = .ok (.bipush 30, 2) := by decide +kernel
theorem dX8_digest_193 : decode cX8_digest 193 = .ok (.iconst 0, 1) := by decide +kernel
theorem dX8_digest_194 : decode cX8_digest 194 = .ok (.invokevirtual 306, 3) := by decide +kernel
theorem dX8_digest_197 : decode cX8_digest 197 = .ok (.i2l, 1) := by decide +kernel
theorem dX8_digest_198 : decode cX8_digest 198 = .ok (.ladd, 1) := by decide +kernel
theorem dX8_digest_199 : decode cX8_digest 199 = .ok (.lstore_n 1, 1) := by decide +kernel
theorem dX8_digest_200 : decode cX8_digest 200 = .ok (.ldc2_w 271, 3) := by decide +kernel
theorem dX8_digest_203 : decode cX8_digest 203 = .ok (.lload_n 1, 1) := by decide +kernel
theorem dX8_digest_204 : decode cX8_digest 204 = .ok (.lmul, 1) := by decide +kernel
theorem dX8_digest_205 : decode cX8_digest 205 = .ok (.aload_n 0, 1) := by decide +kernel
theorem dX8_digest_206 : decode cX8_digest 206 = .ok (.bipush 7, 2) := by decide +kernel
theorem dX8_digest_208 : decode cX8_digest 208 = .ok (.bipush 30, 2) := by decide +kernel
theorem dX8_digest_210 : decode cX8_digest 210 = .ok (.iconst 1, 1) := by decide +kernel
theorem dX8_digest_211 : decode cX8_digest 211 = .ok (.invokevirtual 306, 3) := by decide +kernel
theorem dX8_digest_214 : decode cX8_digest 214 = .ok (.i2l, 1) := by decide +kernel
theorem dX8_digest_215 : decode cX8_digest 215 = .ok (.ladd, 1) := by decide +kernel
theorem dX8_digest_216 : decode cX8_digest 216 = .ok (.lreturn, 1) := by decide +kernel
theorem dX8_digestPlanks_0 : decode cX8_digestPlanks 0 = .ok (.lload_n 1, 1) := by decide +kernel
theorem dX8_digestPlanks_1 : decode cX8_digestPlanks 1 = .ok (.lstore_n 3, 1) := by decide +kernel
theorem dX8_digestPlanks_2 : decode cX8_digestPlanks 2 = .ok (.iconst 0, 1) := by decide +kernel
theorem dX8_digestPlanks_3 : decode cX8_digestPlanks 3 = .ok (.istore 5, 2) := by decide +kernel
theorem dX8_digestPlanks_5 : decode cX8_digestPlanks 5 = .ok (.iload 5, 2) := by decide +kernel
theorem dX8_digestPlanks_7 : decode cX8_digestPlanks 7 = .ok (.aload_n 0, 1) := by decide +kernel
theorem dX8_digestPlanks_8 : decode cX8_digestPlanks 8 = .ok (.getfield 18, 3) := by decide +kernel
theorem dX8_digestPlanks_11 : decode cX8_digestPlanks 11 = .ok (.getfield 176, 3) := by decide +kernel
theorem dX8_digestPlanks_14 : decode cX8_digestPlanks 14 = .ok (.if_icmp .ge 53, 3) := by decide +kernel
theorem dX8_digestPlanks_17 : decode cX8_digestPlanks 17 = .ok (.ldc2_w 271, 3) := by decide +kernel
theorem dX8_digestPlanks_20 : decode cX8_digestPlanks 20 = .ok (.lload_n 3, 1) := by decide +kernel
theorem dX8_digestPlanks_21 : decode cX8_digestPlanks 21 = .ok (.lmul, 1) := by decide +kernel
theorem dX8_digestPlanks_22 : decode cX8_digestPlanks 22 = .ok (.aload_n 0, 1) := by decide +kernel
theorem dX8_digestPlanks_23 : decode cX8_digestPlanks 23 = .ok (.iload 5, 2) := by decide +kernel
theorem dX8_digestPlanks_25 : decode cX8_digestPlanks 25 = .ok (.invokevirtual 310, 3) := by decide +kernel
theorem dX8_digestPlanks_28 : decode cX8_digestPlanks 28 = .ok (.i2l, 1) := by decide +kernel
theorem dX8_digestPlanks_29 : decode cX8_digestPlanks 29 = .ok (.ladd, 1) := by decide +kernel
theorem dX8_digestPlanks_30 : decode cX8_digestPlanks 30 = .ok (.lstore_n 3, 1) := by decide +kernel
theorem dX8_digestPlanks_31 : decode cX8_digestPlanks 31 = .ok (.ldc2_w 271, 3) := by decide +kernel
theorem dX8_digestPlanks_34 : decode cX8_digestPlanks 34 = .ok (.lload_n 3, 1) := by decide +kernel
theorem dX8_digestPlanks_35 : decode cX8_digestPlanks 35 = .ok (.lmul, 1) := by decide +kernel
theorem dX8_digestPlanks_36 : decode cX8_digestPlanks 36 = .ok (.aload_n 0, 1) := by decide +kernel
theorem dX8_digestPlanks_37 : decode cX8_digestPlanks 37 = .ok (.iconst 5, 1) := by decide +kernel
theorem dX8_digestPlanks_38 : decode cX8_digestPlanks 38 = .ok (.iload 5, 2) := by decide +kernel
theorem dX8_digestPlanks_40 : decode cX8_digestPlanks 40 = .ok (.iconst 0, 1) := by decide +kernel
theorem dX8_digestPlanks_41 : decode cX8_digestPlanks 41 = .ok (.invokevirtual 313, 3) := by decide +kernel
theorem dX8_digestPlanks_44 : decode cX8_digestPlanks 44 = .ok (.ladd, 1) := by decide +kernel
theorem dX8_digestPlanks_45 : decode cX8_digestPlanks 45 = .ok (.lstore_n 3, 1) := by decide +kernel
theorem dX8_digestPlanks_46 : decode cX8_digestPlanks 46 = .ok (.ldc2_w 271, 3) := by decide +kernel
theorem dX8_digestPlanks_49 : decode cX8_digestPlanks 49 = .ok (.lload_n 3, 1) := by decide +kernel
theorem dX8_digestPlanks_50 : decode cX8_digestPlanks 50 = .ok (.lmul, 1) := by decide +kernel
theorem dX8_digestPlanks_51 : decode cX8_digestPlanks 51 = .ok (.aload_n 0, 1) := by decide +kernel
theorem dX8_digestPlanks_52 : decode cX8_digestPlanks 52 = .ok (.iconst 5, 1) := by decide +kernel
theorem dX8_digestPlanks_53 : decode cX8_digestPlanks 53 = .ok (.iload 5, 2) := by decide +kernel
theorem dX8_digestPlanks_55 : decode cX8_digestPlanks 55 = .ok (.iconst 1, 1) := by decide +kernel
theorem dX8_digestPlanks_56 : decode cX8_digestPlanks 56 = .ok (.invokevirtual 313, 3) := by decide +kernel
theorem dX8_digestPlanks_59 : decode cX8_digestPlanks 59 = .ok (.ladd, 1) := by decide +kernel
theorem dX8_digestPlanks_60 : decode cX8_digestPlanks 60 = .ok (.lstore_n 3, 1) := by decide +kernel
theorem dX8_digestPlanks_61 : decode cX8_digestPlanks 61 = .ok (.iinc 5 1, 3) := by decide +kernel
theorem dX8_digestPlanks_64 : decode cX8_digestPlanks 64 = .ok (.goto (-59), 3) := by decide +kernel
theorem dX8_digestPlanks_67 : decode cX8_digestPlanks 67 = .ok (.lload_n 3, 1) := by decide +kernel
theorem dX8_digestPlanks_68 : decode cX8_digestPlanks 68 = .ok (.lreturn, 1) := by decide +kernel
theorem dX8_digestCrossers_0 : decode cX8_digestCrossers 0 = .ok (.lload_n 1, 1) := by decide +kernel
theorem dX8_digestCrossers_1 : decode cX8_digestCrossers 1 = .ok (.lstore_n 3, 1) := by decide +kernel
theorem dX8_digestCrossers_2 : decode cX8_digestCrossers 2 = .ok (.iconst 0, 1) := by decide +kernel
theorem dX8_digestCrossers_3 : decode cX8_digestCrossers 3 = .ok (.istore 5, 2) := by decide +kernel
theorem dX8_digestCrossers_5 : decode cX8_digestCrossers 5 = .ok (.iload 5, 2) := by decide +kernel
theorem dX8_digestCrossers_7 : decode cX8_digestCrossers 7 = .ok (.aload_n 0, 1) := by decide +kernel
theorem dX8_digestCrossers_8 : decode cX8_digestCrossers 8 = .ok (.getfield 25, 3) := by decide +kernel
theorem dX8_digestCrossers_11 : decode cX8_digestCrossers 11 = .ok (.getfield 193, 3) := by decide +kernel
theorem dX8_digestCrossers_14 : decode cX8_digestCrossers 14 = .ok (.if_icmp .ge 99, 3) := by decide +kernel
theorem dX8_digestCrossers_17 : decode cX8_digestCrossers 17 = .ok (.iconst 0, 1) := by decide +kernel
theorem dX8_digestCrossers_18 : decode cX8_digestCrossers 18 = .ok (.istore 6, 2) := by decide +kernel
theorem dX8_digestCrossers_20 : decode cX8_digestCrossers 20 = .ok (.iload 6, 2) := by decide +kernel
theorem dX8_digestCrossers_22 : decode cX8_digestCrossers 22 = .ok (.iconst 3, 1) := by decide +kernel
theorem dX8_digestCrossers_23 : decode cX8_digestCrossers 23 = .ok (.if_icmp .gt 25, 3) := by decide +kernel
theorem dX8_digestCrossers_26 : decode cX8_digestCrossers 26 = .ok (.ldc2_w 271, 3) := by decide +kernel
theorem dX8_digestCrossers_29 : decode cX8_digestCrossers 29 = .ok (.lload_n 3, 1) := by decide +kernel
theorem dX8_digestCrossers_30 : decode cX8_digestCrossers 30 = .ok (.lmul, 1) := by decide +kernel
theorem dX8_digestCrossers_31 : decode cX8_digestCrossers 31 = .ok (.aload_n 0, 1) := by decide +kernel
theorem dX8_digestCrossers_32 : decode cX8_digestCrossers 32 = .ok (.iload 5, 2) := by decide +kernel
theorem dX8_digestCrossers_34 : decode cX8_digestCrossers 34 = .ok (.iload 6, 2) := by decide +kernel
theorem dX8_digestCrossers_36 : decode cX8_digestCrossers 36 = .ok (.invokevirtual 317, 3) := by decide +kernel
theorem dX8_digestCrossers_39 : decode cX8_digestCrossers 39 = .ok (.i2l, 1) := by decide +kernel
theorem dX8_digestCrossers_40 : decode cX8_digestCrossers 40 = .ok (.ladd, 1) := by decide +kernel
theorem dX8_digestCrossers_41 : decode cX8_digestCrossers 41 = .ok (.lstore_n 3, 1) := by decide +kernel
theorem dX8_digestCrossers_42 : decode cX8_digestCrossers 42 = .ok (.iinc 6 1, 3) := by decide +kernel
theorem dX8_digestCrossers_45 : decode cX8_digestCrossers 45 = .ok (.goto (-25), 3) := by decide +kernel
theorem dX8_digestCrossers_48 : decode cX8_digestCrossers 48 = .ok (.ldc2_w 271, 3) := by decide +kernel
theorem dX8_digestCrossers_51 : decode cX8_digestCrossers 51 = .ok (.lload_n 3, 1) := by decide +kernel
theorem dX8_digestCrossers_52 : decode cX8_digestCrossers 52 = .ok (.lmul, 1) := by decide +kernel
theorem dX8_digestCrossers_53 : decode cX8_digestCrossers 53 = .ok (.aload_n 0, 1) := by decide +kernel
theorem dX8_digestCrossers_54 : decode cX8_digestCrossers 54 = .ok (.iload 5, 2) := by decide +kernel
theorem dX8_digestCrossers_56 : decode cX8_digestCrossers 56 = .ok (.iconst 0, 1) := by decide +kernel
theorem dX8_digestCrossers_57 : decode cX8_digestCrossers 57 = .ok (.invokevirtual 320, 3) := by decide +kernel
theorem dX8_digestCrossers_60 : decode cX8_digestCrossers 60 = .ok (.i2l, 1) := by decide +kernel
theorem dX8_digestCrossers_61 : decode cX8_digestCrossers 61 = .ok (.ladd, 1) := by decide +kernel
theorem dX8_digestCrossers_62 : decode cX8_digestCrossers 62 = .ok (.lstore_n 3, 1) := by decide +kernel
theorem dX8_digestCrossers_63 : decode cX8_digestCrossers 63 = .ok (.ldc2_w 271, 3) := by decide +kernel
theorem dX8_digestCrossers_66 : decode cX8_digestCrossers 66 = .ok (.lload_n 3, 1) := by decide +kernel
theorem dX8_digestCrossers_67 : decode cX8_digestCrossers 67 = .ok (.lmul, 1) := by decide +kernel
theorem dX8_digestCrossers_68 : decode cX8_digestCrossers 68 = .ok (.aload_n 0, 1) := by decide +kernel
theorem dX8_digestCrossers_69 : decode cX8_digestCrossers 69 = .ok (.iload 5, 2) := by decide +kernel
theorem dX8_digestCrossers_71 : decode cX8_digestCrossers 71 = .ok (.iconst 1, 1) := by decide +kernel
theorem dX8_digestCrossers_72 : decode cX8_digestCrossers 72 = .ok (.invokevirtual 320, 3) := by decide +kernel
theorem dX8_digestCrossers_75 : decode cX8_digestCrossers 75 = .ok (.i2l, 1) := by decide +kernel
theorem dX8_digestCrossers_76 : decode cX8_digestCrossers 76 = .ok (.ladd, 1) := by decide +kernel
theorem dX8_digestCrossers_77 : decode cX8_digestCrossers 77 = .ok (.lstore_n 3, 1) := by decide +kernel
theorem dX8_digestCrossers_78 : decode cX8_digestCrossers 78 = .ok (.ldc2_w 271, 3) := by decide +kernel
theorem dX8_digestCrossers_81 : decode cX8_digestCrossers 81 = .ok (.lload_n 3, 1) := by decide +kernel
theorem dX8_digestCrossers_82 : decode cX8_digestCrossers 82 = .ok (.lmul, 1) := by decide +kernel
theorem dX8_digestCrossers_83 : decode cX8_digestCrossers 83 = .ok (.aload_n 0, 1) := by decide +kernel
theorem dX8_digestCrossers_84 : decode cX8_digestCrossers 84 = .ok (.iload 5, 2) := by decide +kernel
theorem dX8_digestCrossers_86 : decode cX8_digestCrossers 86 = .ok (.invokevirtual 323, 3) := by decide +kernel
theorem dX8_digestCrossers_89 : decode cX8_digestCrossers 89 = .ok (.i2l, 1) := by decide +kernel
theorem dX8_digestCrossers_90 : decode cX8_digestCrossers 90 = .ok (.ladd, 1) := by decide +kernel
theorem dX8_digestCrossers_91 : decode cX8_digestCrossers 91 = .ok (.lstore_n 3, 1) := by decide +kernel
theorem dX8_digestCrossers_92 : decode cX8_digestCrossers 92 = .ok (.ldc2_w 271, 3) := by decide +kernel
theorem dX8_digestCrossers_95 : decode cX8_digestCrossers 95 = .ok (.lload_n 3, 1) := by decide +kernel
theorem dX8_digestCrossers_96 : decode cX8_digestCrossers 96 = .ok (.lmul, 1) := by decide +kernel
theorem dX8_digestCrossers_97 : decode cX8_digestCrossers 97 = .ok (.aload_n 0, 1) := by decide +kernel
theorem dX8_digestCrossers_98 : decode cX8_digestCrossers 98 = .ok (.iload 5, 2) := by decide +kernel
theorem dX8_digestCrossers_100 : decode cX8_digestCrossers 100 = .ok (.iconst 0, 1) := by decide +kernel
theorem dX8_digestCrossers_101 : decode cX8_digestCrossers 101 = .ok (.invokevirtual 326, 3) := by decide +kernel
theorem dX8_digestCrossers_104 : decode cX8_digestCrossers 104 = .ok (.i2l, 1) := by decide +kernel
theorem dX8_digestCrossers_105 : decode cX8_digestCrossers 105 = .ok (.ladd, 1) := by decide +kernel
theorem dX8_digestCrossers_106 : decode cX8_digestCrossers 106 = .ok (.lstore_n 3, 1) := by decide +kernel
theorem dX8_digestCrossers_107 : decode cX8_digestCrossers 107 = .ok (.iinc 5 1, 3) := by decide +kernel
theorem dX8_digestCrossers_110 : decode cX8_digestCrossers 110 = .ok (.goto (-105), 3) := by decide +kernel
theorem dX8_digestCrossers_113 : decode cX8_digestCrossers 113 = .ok (.lload_n 3, 1) := by decide +kernel
theorem dX8_digestCrossers_114 : decode cX8_digestCrossers 114 = .ok (.lreturn, 1) := by decide +kernel
theorem dX8_digestCrossings_0 : decode cX8_digestCrossings 0 = .ok (.lload_n 1, 1) := by decide +kernel
theorem dX8_digestCrossings_1 : decode cX8_digestCrossings 1 = .ok (.lstore_n 3, 1) := by decide +kernel
theorem dX8_digestCrossings_2 : decode cX8_digestCrossings 2 = .ok (.iconst 0, 1) := by decide +kernel
theorem dX8_digestCrossings_3 : decode cX8_digestCrossings 3 = .ok (.istore 5, 2) := by decide +kernel
theorem dX8_digestCrossings_5 : decode cX8_digestCrossings 5 = .ok (.iload 5, 2) := by decide +kernel
theorem dX8_digestCrossings_7 : decode cX8_digestCrossings 7 = .ok (.aload_n 0, 1) := by decide +kernel
theorem dX8_digestCrossings_8 : decode cX8_digestCrossings 8 = .ok (.getfield 32, 3) := by decide +kernel
theorem dX8_digestCrossings_11 : decode cX8_digestCrossings 11 = .ok (.getfield 154, 3) := by decide +kernel
theorem dX8_digestCrossings_14 : decode cX8_digestCrossings 14 = .ok (.if_icmp .ge 54, 3) := by decide +kernel
theorem dX8_digestCrossings_17 : decode cX8_digestCrossings 17 = .ok (.ldc2_w 271, 3) := by decide +kernel
theorem dX8_digestCrossings_20 : decode cX8_digestCrossings 20 = .ok (.lload_n 3, 1) := by decide +kernel
theorem dX8_digestCrossings_21 : decode cX8_digestCrossings 21 = .ok (.lmul, 1) := by decide +kernel
theorem dX8_digestCrossings_22 : decode cX8_digestCrossings 22 = .ok (.aload_n 0, 1) := by decide +kernel
theorem dX8_digestCrossings_23 : decode cX8_digestCrossings 23 = .ok (.iload 5, 2) := by decide +kernel
theorem dX8_digestCrossings_25 : decode cX8_digestCrossings 25 = .ok (.invokevirtual 329, 3) := by decide +kernel
theorem dX8_digestCrossings_28 : decode cX8_digestCrossings 28 = .ok (.i2l, 1) := by decide +kernel
theorem dX8_digestCrossings_29 : decode cX8_digestCrossings 29 = .ok (.ladd, 1) := by decide +kernel
theorem dX8_digestCrossings_30 : decode cX8_digestCrossings 30 = .ok (.lstore_n 3, 1) := by decide +kernel
theorem dX8_digestCrossings_31 : decode cX8_digestCrossings 31 = .ok (.iconst 0, 1) := by decide +kernel
theorem dX8_digestCrossings_32 : decode cX8_digestCrossings 32 = .ok (.istore 6, 2) := by decide +kernel
theorem dX8_digestCrossings_34 : decode cX8_digestCrossings 34 = .ok (.iload 6, 2) := by decide +kernel
theorem dX8_digestCrossings_36 : decode cX8_digestCrossings 36 = .ok (.iconst 2, 1) := by decide +kernel
theorem dX8_digestCrossings_37 : decode cX8_digestCrossings 37 = .ok (.if_icmp .gt 25, 3) := by decide +kernel
theorem dX8_digestCrossings_40 : decode cX8_digestCrossings 40 = .ok (.ldc2_w 271, 3) := by decide +kernel
theorem dX8_digestCrossings_43 : decode cX8_digestCrossings 43 = .ok (.lload_n 3, 1) := by decide +kernel
theorem dX8_digestCrossings_44 : decode cX8_digestCrossings 44 = .ok (.lmul, 1) := by decide +kernel
theorem dX8_digestCrossings_45 : decode cX8_digestCrossings 45 = .ok (.aload_n 0, 1) := by decide +kernel
theorem dX8_digestCrossings_46 : decode cX8_digestCrossings 46 = .ok (.iload 5, 2) := by decide +kernel
theorem dX8_digestCrossings_48 : decode cX8_digestCrossings 48 = .ok (.iload 6, 2) := by decide +kernel
theorem dX8_digestCrossings_50 : decode cX8_digestCrossings 50 = .ok (.invokevirtual 331, 3) := by decide +kernel
theorem dX8_digestCrossings_53 : decode cX8_digestCrossings 53 = .ok (.i2l, 1) := by decide +kernel
theorem dX8_digestCrossings_54 : decode cX8_digestCrossings 54 = .ok (.ladd, 1) := by decide +kernel
theorem dX8_digestCrossings_55 : decode cX8_digestCrossings 55 = .ok (.lstore_n 3, 1) := by decide +kernel
theorem dX8_digestCrossings_56 : decode cX8_digestCrossings 56 = .ok (.iinc 6 1, 3) := by decide +kernel
theorem dX8_digestCrossings_59 : decode cX8_digestCrossings 59 = .ok (.goto (-25), 3) := by decide +kernel
theorem dX8_digestCrossings_62 : decode cX8_digestCrossings 62 = .ok (.iinc 5 1, 3) := by decide +kernel
theorem dX8_digestCrossings_65 : decode cX8_digestCrossings 65 = .ok (.goto (-60), 3) := by decide +kernel
theorem dX8_digestCrossings_68 : decode cX8_digestCrossings 68 = .ok (.iconst 0, 1) := by decide +kernel
theorem dX8_digestCrossings_69 : decode cX8_digestCrossings 69 = .ok (.istore 5, 2) := by decide +kernel
theorem dX8_digestCrossings_71 : decode cX8_digestCrossings 71 = .ok (.iload 5, 2) := by decide +kernel
theorem dX8_digestCrossings_73 : decode cX8_digestCrossings 73 = .ok (.aload_n 0, 1) := by decide +kernel
theorem dX8_digestCrossings_74 : decode cX8_digestCrossings 74 = .ok (.getfield 32, 3) := by decide +kernel
theorem dX8_digestCrossings_77 : decode cX8_digestCrossings 77 = .ok (.getfield 154, 3) := by decide +kernel
theorem dX8_digestCrossings_80 : decode cX8_digestCrossings 80 = .ok (.if_icmp .gt 37, 3) := by decide +kernel
theorem dX8_digestCrossings_83 : decode cX8_digestCrossings 83 = .ok (.ldc2_w 271, 3) := by decide +kernel
theorem dX8_digestCrossings_86 : decode cX8_digestCrossings 86 = .ok (.lload_n 3, 1) := by decide +kernel
theorem dX8_digestCrossings_87 : decode cX8_digestCrossings 87 = .ok (.lmul, 1) := by decide +kernel
theorem dX8_digestCrossings_88 : decode cX8_digestCrossings 88 = .ok (.aload_n 0, 1) := by decide +kernel
theorem dX8_digestCrossings_89 : decode cX8_digestCrossings 89 = .ok (.iload 5, 2) := by decide +kernel
theorem dX8_digestCrossings_91 : decode cX8_digestCrossings 91 = .ok (.invokevirtual 334, 3) := by decide +kernel
theorem dX8_digestCrossings_94 : decode cX8_digestCrossings 94 = .ok (.i2l, 1) := by decide +kernel
theorem dX8_digestCrossings_95 : decode cX8_digestCrossings 95 = .ok (.ladd, 1) := by decide +kernel
theorem dX8_digestCrossings_96 : decode cX8_digestCrossings 96 = .ok (.lstore_n 3, 1) := by decide +kernel
theorem dX8_digestCrossings_97 : decode cX8_digestCrossings 97 = .ok (.ldc2_w 271, 3) := by decide +kernel
theorem dX8_digestCrossings_100 : decode cX8_digestCrossings 100 = .ok (.lload_n 3, 1) := by decide +kernel
theorem dX8_digestCrossings_101 : decode cX8_digestCrossings 101 = .ok (.lmul, 1) := by decide +kernel
theorem dX8_digestCrossings_102 : decode cX8_digestCrossings 102 = .ok (.aload_n 0, 1) := by decide +kernel
theorem dX8_digestCrossings_103 : decode cX8_digestCrossings 103 = .ok (.iload 5, 2) := by decide +kernel
theorem dX8_digestCrossings_105 : decode cX8_digestCrossings 105 = .ok (.invokevirtual 337, 3) := by decide +kernel
theorem dX8_digestCrossings_108 : decode cX8_digestCrossings 108 = .ok (.i2l, 1) := by decide +kernel
theorem dX8_digestCrossings_109 : decode cX8_digestCrossings 109 = .ok (.ladd, 1) := by decide +kernel
theorem dX8_digestCrossings_110 : decode cX8_digestCrossings 110 = .ok (.lstore_n 3, 1) := by decide +kernel
theorem dX8_digestCrossings_111 : decode cX8_digestCrossings 111 = .ok (.iinc 5 1, 3) := by decide +kernel
theorem dX8_digestCrossings_114 : decode cX8_digestCrossings 114 = .ok (.goto (-43), 3) := by decide +kernel
theorem dX8_digestCrossings_117 : decode cX8_digestCrossings 117 = .ok (.lload_n 3, 1) := by decide +kernel
theorem dX8_digestCrossings_118 : decode cX8_digestCrossings 118 = .ok (.lreturn, 1) := by decide +kernel
theorem dX8_within_0 : decode cX8_within 0 = .ok (.iload_n 0, 1) := by decide +kernel
theorem dX8_within_1 : decode cX8_within 1 = .ok (.iload_n 1, 1) := by decide +kernel
theorem dX8_within_2 : decode cX8_within 2 = .ok (.if_icmp .lt 12, 3) := by decide +kernel
theorem dX8_within_5 : decode cX8_within 5 = .ok (.iload_n 0, 1) := by decide +kernel
theorem dX8_within_6 : decode cX8_within 6 = .ok (.iload_n 2, 1) := by decide +kernel
theorem dX8_within_7 : decode cX8_within 7 = .ok (.if_icmp .gt 7, 3) := by decide +kernel
theorem dX8_within_10 : decode cX8_within 10 = .ok (.iconst 1, 1) := by decide +kernel
theorem dX8_within_11 : decode cX8_within 11 = .ok (.goto 4, 3) := by decide +kernel
theorem dX8_within_14 : decode cX8_within 14 = .ok (.iconst 0, 1) := by decide +kernel
theorem dX8_within_15 : decode cX8_within 15 = .ok (.ireturn, 1) := by decide +kernel
theorem dX8_textAt_0 : decode cX8_textAt 0 = .ok (.iload_n 1, 1) := by decide +kernel
theorem dX8_textAt_1 : decode cX8_textAt 1 = .ok (.iconst 0, 1) := by decide +kernel
theorem dX8_textAt_2 : decode cX8_textAt 2 = .ok (.aload_n 0, 1) := by decide +kernel
theorem dX8_textAt_3 : decode cX8_textAt 3 = .ok (.getfield 11, 3) := by decide +kernel
theorem dX8_textAt_6 : decode cX8_textAt 6 = .ok (.arraylength, 1) := by decide +kernel
theorem dX8_textAt_7 : decode cX8_textAt 7 = .ok (.iconst 1, 1) := by decide +kernel
theorem dX8_textAt_8 : decode cX8_textAt 8 = .ok (.isub, 1) := by decide +kernel
theorem dX8_textAt_9 : decode cX8_textAt 9 = .ok (.invokestatic 91, 3) := by decide +kernel
theorem dX8_textAt_12 : decode cX8_textAt 12 = .ok (.ifCond .eq 12, 3) := by decide +kernel
theorem dX8_textAt_15 : decode cX8_textAt 15 = .ok (.aload_n 0, 1) := by decide +kernel
theorem dX8_textAt_16 : decode cX8_textAt 16 = .ok (.getfield 11, 3) := by decide +kernel
theorem dX8_textAt_19 : decode cX8_textAt 19 = .ok (.iload_n 1, 1) := by decide +kernel
theorem dX8_textAt_20 : decode cX8_textAt 20 = .ok (.aaload, 1) := by decide +kernel
theorem dX8_textAt_21 : decode cX8_textAt 21 = .ok (.goto 4, 3) := by decide +kernel
theorem dX8_textAt_24 : decode cX8_textAt 24 = .ok (.aconst_null, 1) := by decide +kernel
theorem dX8_textAt_25 : decode cX8_textAt 25 = .ok (.areturn, 1) := by decide +kernel
theorem dX8_placeOf_0 : decode cX8_placeOf 0 = .ok (.iconst 0, 1) := by decide +kernel
theorem dX8_placeOf_1 : decode cX8_placeOf 1 = .ok (.istore_n 2, 1) := by decide +kernel
theorem dX8_placeOf_2 : decode cX8_placeOf 2 = .ok (.iload_n 2, 1) := by decide +kernel
theorem dX8_placeOf_3 : decode cX8_placeOf 3 = .ok (.aload_n 1, 1) := by decide +kernel
theorem dX8_placeOf_4 : decode cX8_placeOf 4 = .ok (.arraylength, 1) := by decide +kernel
theorem dX8_placeOf_5 : decode cX8_placeOf 5 = .ok (.if_icmp .ge 18, 3) := by decide +kernel
theorem dX8_placeOf_8 : decode cX8_placeOf 8 = .ok (.aload_n 1, 1) := by decide +kernel
theorem dX8_placeOf_9 : decode cX8_placeOf 9 = .ok (.iload_n 2, 1) := by decide +kernel
theorem dX8_placeOf_10 : decode cX8_placeOf 10 = .ok (.caload, 1) := by decide +kernel
theorem dX8_placeOf_11 : decode cX8_placeOf 11 = .ok (.iload_n 0, 1) := by decide +kernel
theorem dX8_placeOf_12 : decode cX8_placeOf 12 = .ok (.if_icmp .ne 5, 3) := by decide +kernel
theorem dX8_placeOf_15 : decode cX8_placeOf 15 = .ok (.iload_n 2, 1) := by decide +kernel
theorem dX8_placeOf_16 : decode cX8_placeOf 16 = .ok (.ireturn, 1) := by decide +kernel
theorem dX8_placeOf_17 : decode cX8_placeOf 17 = .ok (.iinc 2 1, 3) := by decide +kernel
theorem dX8_placeOf_20 : decode cX8_placeOf 20 = .ok (.goto (-18), 3) := by decide +kernel
theorem dX8_placeOf_23 : decode cX8_placeOf 23 = .ok (.iconst (-1), 1) := by decide +kernel
theorem dX8_placeOf_24 : decode cX8_placeOf 24 = .ok (.ireturn, 1) := by decide +kernel
theorem dX8_signsFor_0 : decode cX8_signsFor 0 = .ok (.iload_n 0, 1) := by decide +kernel
theorem dX8_signsFor_1 : decode cX8_signsFor 1 = .ok (.ifCond .ne 7, 3) := by decide +kernel
theorem dX8_signsFor_4 : decode cX8_signsFor 4 = .ok (.getstatic 340, 3) := by decide +kernel
theorem dX8_signsFor_7 : decode cX8_signsFor 7 = .ok (.areturn, 1) := by decide +kernel
theorem dX8_signsFor_8 : decode cX8_signsFor 8 = .ok (.iload_n 0, 1) := by decide +kernel
theorem dX8_signsFor_9 : decode cX8_signsFor 9 = .ok (.iconst 2, 1) := by decide +kernel
theorem dX8_signsFor_10 : decode cX8_signsFor 10 = .ok (.if_icmp .ne 7, 3) := by decide +kernel
theorem dX8_signsFor_13 : decode cX8_signsFor 13 = .ok (.getstatic 344, 3) := by decide +kernel
theorem dX8_signsFor_16 : decode cX8_signsFor 16 = .ok (.areturn, 1) := by decide +kernel
theorem dX8_signsFor_17 : decode cX8_signsFor 17 = .ok (.iload_n 1, 1) := by decide +kernel
theorem dX8_signsFor_18 : decode cX8_signsFor 18 = .ok (.iconst 5, 1) := by decide +kernel
theorem dX8_signsFor_19 : decode cX8_signsFor 19 = .ok (.irem, 1) := by decide +kernel
theorem dX8_signsFor_20 : decode cX8_signsFor 20 = .ok (.tableswitch 48 0 3 #[32, 36, 40, 44], 32) := by decide +kernel
theorem dX8_signsFor_52 : decode cX8_signsFor 52 = .ok (.getstatic 347, 3) := by decide +kernel
theorem dX8_signsFor_55 : decode cX8_signsFor 55 = .ok (.areturn, 1) := by decide +kernel
theorem dX8_signsFor_56 : decode cX8_signsFor 56 = .ok (.getstatic 350, 3) := by decide +kernel
theorem dX8_signsFor_59 : decode cX8_signsFor 59 = .ok (.areturn, 1) := by decide +kernel
theorem dX8_signsFor_60 : decode cX8_signsFor 60 = .ok (.getstatic 353, 3) := by decide +kernel
theorem dX8_signsFor_63 : decode cX8_signsFor 63 = .ok (.areturn, 1) := by decide +kernel
theorem dX8_signsFor_64 : decode cX8_signsFor 64 = .ok (.getstatic 356, 3) := by decide +kernel
theorem dX8_signsFor_67 : decode cX8_signsFor 67 = .ok (.areturn, 1) := by decide +kernel
theorem dX8_signsFor_68 : decode cX8_signsFor 68 = .ok (.getstatic 359, 3) := by decide +kernel
theorem dX8_signsFor_71 : decode cX8_signsFor 71 = .ok (.areturn, 1) := by decide +kernel
theorem dX8_faultOf_0 : decode cX8_faultOf 0 = .ok (.iconst 0, 1) := by decide +kernel
theorem dX8_faultOf_1 : decode cX8_faultOf 1 = .ok (.istore_n 2, 1) := by decide +kernel
theorem dX8_faultOf_2 : decode cX8_faultOf 2 = .ok (.iload_n 2, 1) := by decide +kernel
theorem dX8_faultOf_3 : decode cX8_faultOf 3 = .ok (.aload_n 1, 1) := by decide +kernel
theorem dX8_faultOf_4 : decode cX8_faultOf 4 = .ok (.getfield 102, 3) := by decide +kernel
theorem dX8_faultOf_7 : decode cX8_faultOf 7 = .ok (.if_icmp .ge 28, 3) := by decide +kernel
theorem dX8_faultOf_10 : decode cX8_faultOf 10 = .ok (.aload_n 1, 1) := by decide +kernel
theorem dX8_faultOf_11 : decode cX8_faultOf 11 = .ok (.iload_n 2, 1) := by decide +kernel
theorem dX8_faultOf_12 : decode cX8_faultOf 12 = .ok (.invokevirtual 362, 3) := by decide +kernel
theorem dX8_faultOf_15 : decode cX8_faultOf 15 = .ok (.iload_n 0, 1) := by decide +kernel
theorem dX8_faultOf_16 : decode cX8_faultOf 16 = .ok (.iload_n 2, 1) := by decide +kernel
theorem dX8_faultOf_17 : decode cX8_faultOf 17 = .ok (.invokestatic 364, 3) := by decide +kernel
theorem dX8_faultOf_20 : decode cX8_faultOf 20 = .ok (.invokestatic 368, 3) := by decide +kernel
theorem dX8_faultOf_23 : decode cX8_faultOf 23 = .ok (.iconst (-1), 1) := by decide +kernel
theorem dX8_faultOf_24 : decode cX8_faultOf 24 = .ok (.if_icmp .ne 5, 3) := by decide +kernel
theorem dX8_faultOf_27 : decode cX8_faultOf 27 = .ok (.iload_n 2, 1) := by decide +kernel
theorem dX8_faultOf_28 : decode cX8_faultOf 28 = .ok (.ireturn, 1) := by decide +kernel
theorem dX8_faultOf_29 : decode cX8_faultOf 29 = .ok (.iinc 2 1, 3) := by decide +kernel
theorem dX8_faultOf_32 : decode cX8_faultOf 32 = .ok (.goto (-30), 3) := by decide +kernel
theorem dX8_faultOf_35 : decode cX8_faultOf 35 = .ok (.iload_n 0, 1) := by decide +kernel
theorem dX8_faultOf_36 : decode cX8_faultOf 36 = .ok (.iconst 1, 1) := by decide +kernel
theorem dX8_faultOf_37 : decode cX8_faultOf 37 = .ok (.if_icmp .ne 20, 3) := by decide +kernel
theorem dX8_faultOf_40 : decode cX8_faultOf 40 = .ok (.aload_n 1, 1) := by decide +kernel
theorem dX8_faultOf_41 : decode cX8_faultOf 41 = .ok (.getfield 102, 3) := by decide +kernel
theorem dX8_faultOf_44 : decode cX8_faultOf 44 = .ok (.ifCond .eq 13, 3) := by decide +kernel
theorem dX8_faultOf_47 : decode cX8_faultOf 47 = .ok (.aload_n 1, 1) := by decide +kernel
theorem dX8_faultOf_48 : decode cX8_faultOf 48 = .ok (.getfield 102, 3) := by decide +kernel
theorem dX8_faultOf_51 : decode cX8_faultOf 51 = .ok (.iconst 5, 1) := by decide +kernel
theorem dX8_faultOf_52 : decode cX8_faultOf 52 = .ok (.irem, 1) := by decide +kernel
theorem dX8_faultOf_53 : decode cX8_faultOf 53 = .ok (.iconst 4, 1) := by decide +kernel
theorem dX8_faultOf_54 : decode cX8_faultOf 54 = .ok (.if_icmp .ne 7, 3) := by decide +kernel
theorem dX8_faultOf_57 : decode cX8_faultOf 57 = .ok (.iconst 1, 1) := by decide +kernel
theorem dX8_faultOf_58 : decode cX8_faultOf 58 = .ok (.goto 4, 3) := by decide +kernel
theorem dX8_faultOf_61 : decode cX8_faultOf 61 = .ok (.iconst 0, 1) := by decide +kernel
theorem dX8_faultOf_62 : decode cX8_faultOf 62 = .ok (.istore_n 2, 1) := by decide +kernel
theorem dX8_faultOf_63 : decode cX8_faultOf 63 = .ok (.iload_n 2, 1) := by decide +kernel
theorem dX8_faultOf_64 : decode cX8_faultOf 64 = .ok (.ifCond .eq 7, 3) := by decide +kernel
theorem dX8_faultOf_67 : decode cX8_faultOf 67 = .ok (.iconst (-1), 1) := by decide +kernel
theorem dX8_faultOf_68 : decode cX8_faultOf 68 = .ok (.goto 7, 3) := by decide +kernel
theorem dX8_faultOf_71 : decode cX8_faultOf 71 = .ok (.aload_n 1, 1) := by decide +kernel
theorem dX8_faultOf_72 : decode cX8_faultOf 72 = .ok (.getfield 102, 3) := by decide +kernel
theorem dX8_faultOf_75 : decode cX8_faultOf 75 = .ok (.ireturn, 1) := by decide +kernel
theorem dX8_lengthWithoutFault_0 : decode cX8_lengthWithoutFault 0 = .ok (.iload_n 0, 1) := by decide +kernel
theorem dX8_lengthWithoutFault_1 : decode cX8_lengthWithoutFault 1 = .ok (.aload_n 1, 1) := by decide +kernel
theorem dX8_lengthWithoutFault_2 : decode cX8_lengthWithoutFault 2 = .ok (.invokestatic 106, 3) := by decide +kernel
theorem dX8_lengthWithoutFault_5 : decode cX8_lengthWithoutFault 5 = .ok (.iconst (-1), 1) := by decide +kernel
theorem dX8_lengthWithoutFault_6 : decode cX8_lengthWithoutFault 6 = .ok (.if_icmp .ne 10, 3) := by decide +kernel
theorem dX8_lengthWithoutFault_9 : decode cX8_lengthWithoutFault 9 = .ok (.aload_n 1, 1) := by decide +kernel
theorem dX8_lengthWithoutFault_10 : decode cX8_lengthWithoutFault 10 = .ok (.getfield 102, 3) := by decide +kernel
theorem dX8_lengthWithoutFault_13 : decode cX8_lengthWithoutFault 13 = .ok (.goto 4, 3) := by decide +kernel
theorem dX8_lengthWithoutFault_16 : decode cX8_lengthWithoutFault 16 = .ok (.iconst 0, 1) := by decide +kernel
theorem dX8_lengthWithoutFault_17 : decode cX8_lengthWithoutFault 17 = .ok (.ireturn, 1) := by decide +kernel
theorem dX8_freshen_0 : decode cX8_freshen 0 = .ok (.aload_n 0, 1) := by decide +kernel
theorem dX8_freshen_1 : decode cX8_freshen 1 = .ok (.getfield 76, 3) := by decide +kernel
theorem dX8_freshen_4 : decode cX8_freshen 4 = .ok (.ifCond .ne 4, 3) := by decide +kernel
theorem dX8_freshen_7 : decode cX8_freshen 7 = .ok (.return_, 1) := by decide +kernel
theorem dX8_freshen_8 : decode cX8_freshen 8 = .ok (.aload_n 0, 1) := by decide +kernel
theorem dX8_freshen_9 : decode cX8_freshen 9 = .ok (.iconst 0, 1) := by decide +kernel
theorem dX8_freshen_10 : decode cX8_freshen 10 = .ok (.putfield 76, 3) := by decide +kernel
theorem dX8_freshen_13 : decode cX8_freshen 13 = .ok (.aload_n 0, 1) := by decide +kernel
theorem dX8_freshen_14 : decode cX8_freshen 14 = .ok (.iconst 1, 1) := by decide +kernel
theorem dX8_freshen_15 : decode cX8_freshen 15 = .ok (.putfield 80, 3) := by decide +kernel
theorem dX8_freshen_18 : decode cX8_freshen 18 = .ok (.aload_n 0, 1) := by decide +kernel
theorem dX8_freshen_19 : decode cX8_freshen 19 = .ok (.getfield 11, 3) := by decide +kernel
theorem dX8_freshen_22 : decode cX8_freshen 22 = .ok (.iconst 0, 1) := by decide +kernel
theorem dX8_freshen_23 : decode cX8_freshen 23 = .ok (.aaload, 1) := by decide +kernel
theorem dX8_freshen_24 : decode cX8_freshen 24 = .ok (.astore_n 1, 1) := by decide +kernel
theorem dX8_freshen_25 : decode cX8_freshen 25 = .ok (.aload_n 0, 1) := by decide +kernel
theorem dX8_freshen_26 : decode cX8_freshen 26 = .ok (.getfield 18, 3) := by decide +kernel
theorem dX8_freshen_29 : decode cX8_freshen 29 = .ok (.aload_n 1, 1) := by decide +kernel
theorem dX8_freshen_30 : decode cX8_freshen 30 = .ok (.iconst 0, 1) := by decide +kernel
theorem dX8_freshen_31 : decode cX8_freshen 31 = .ok (.aload_n 1, 1) := by decide +kernel
theorem dX8_freshen_32 : decode cX8_freshen 32 = .ok (.invokestatic 372, 3) := by decide +kernel
theorem dX8_freshen_35 : decode cX8_freshen 35 = .ok (.invokevirtual 375, 3) := by decide +kernel
theorem dX8_freshen_38 : decode cX8_freshen 38 = .ok (.aload_n 0, 1) := by decide +kernel
theorem dX8_freshen_39 : decode cX8_freshen 39 = .ok (.getfield 11, 3) := by decide +kernel
theorem dX8_freshen_42 : decode cX8_freshen 42 = .ok (.iconst 1, 1) := by decide +kernel
theorem dX8_freshen_43 : decode cX8_freshen 43 = .ok (.aaload, 1) := by decide +kernel
theorem dX8_freshen_44 : decode cX8_freshen 44 = .ok (.astore_n 2, 1) := by decide +kernel
theorem dX8_freshen_45 : decode cX8_freshen 45 = .ok (.aload_n 0, 1) := by decide +kernel
theorem dX8_freshen_46 : decode cX8_freshen 46 = .ok (.getfield 25, 3) := by decide +kernel
theorem dX8_freshen_49 : decode cX8_freshen 49 = .ok (.aload_n 2, 1) := by decide +kernel
theorem dX8_freshen_50 : decode cX8_freshen 50 = .ok (.iconst 1, 1) := by decide +kernel
theorem dX8_freshen_51 : decode cX8_freshen 51 = .ok (.aload_n 2, 1) := by decide +kernel
theorem dX8_freshen_52 : decode cX8_freshen 52 = .ok (.invokestatic 372, 3) := by decide +kernel
theorem dX8_freshen_55 : decode cX8_freshen 55 = .ok (.invokevirtual 379, 3) := by decide +kernel
theorem dX8_freshen_58 : decode cX8_freshen 58 = .ok (.aload_n 0, 1) := by decide +kernel
theorem dX8_freshen_59 : decode cX8_freshen 59 = .ok (.getfield 11, 3) := by decide +kernel
theorem dX8_freshen_62 : decode cX8_freshen 62 = .ok (.iconst 2, 1) := by decide +kernel
theorem dX8_freshen_63 : decode cX8_freshen 63 = .ok (.aaload, 1) := by decide +kernel
theorem dX8_freshen_64 : decode cX8_freshen 64 = .ok (.astore_n 3, 1) := by decide +kernel
theorem dX8_freshen_65 : decode cX8_freshen 65 = .ok (.aload_n 0, 1) := by decide +kernel
theorem dX8_freshen_66 : decode cX8_freshen 66 = .ok (.getfield 32, 3) := by decide +kernel
theorem dX8_freshen_69 : decode cX8_freshen 69 = .ok (.aload_n 3, 1) := by decide +kernel
theorem dX8_freshen_70 : decode cX8_freshen 70 = .ok (.iconst 2, 1) := by decide +kernel
theorem dX8_freshen_71 : decode cX8_freshen 71 = .ok (.aload_n 3, 1) := by decide +kernel
theorem dX8_freshen_72 : decode cX8_freshen 72 = .ok (.invokestatic 372, 3) := by decide +kernel
theorem dX8_freshen_75 : decode cX8_freshen 75 = .ok (.invokevirtual 380, 3) := by decide +kernel
theorem dX8_freshen_78 : decode cX8_freshen 78 = .ok (.aload_n 0, 1) := by decide +kernel
theorem dX8_freshen_79 : decode cX8_freshen 79 = .ok (.getfield 32, 3) := by decide +kernel
theorem dX8_freshen_82 : decode cX8_freshen 82 = .ok (.aload_n 0, 1) := by decide +kernel
theorem dX8_freshen_83 : decode cX8_freshen 83 = .ok (.getfield 18, 3) := by decide +kernel
theorem dX8_freshen_86 : decode cX8_freshen 86 = .ok (.aload_n 0, 1) := by decide +kernel
theorem dX8_freshen_87 : decode cX8_freshen 87 = .ok (.getfield 25, 3) := by decide +kernel
theorem dX8_freshen_90 : decode cX8_freshen 90 = .ok (.aload_n 0, 1) := by decide +kernel
theorem dX8_freshen_91 : decode cX8_freshen 91 = .ok (.getfield 18, 3) := by decide +kernel
theorem dX8_freshen_94 : decode cX8_freshen 94 = .ok (.invokevirtual 228, 3) := by decide +kernel
theorem dX8_freshen_97 : decode cX8_freshen 97 = .ok (.aload_n 0, 1) := by decide +kernel
theorem dX8_freshen_98 : decode cX8_freshen 98 = .ok (.getfield 18, 3) := by decide +kernel
theorem dX8_freshen_101 : decode cX8_freshen 101 = .ok (.getfield 148, 3) := by decide +kernel
theorem dX8_freshen_104 : decode cX8_freshen 104 = .ok (.aload_n 0, 1) := by decide +kernel
theorem dX8_freshen_105 : decode cX8_freshen 105 = .ok (.getfield 36, 3) := by decide +kernel
theorem dX8_freshen_108 : decode cX8_freshen 108 = .ok (.invokevirtual 381, 3) := by decide +kernel
theorem dX8_freshen_111 : decode cX8_freshen 111 = .ok (.return_, 1) := by decide +kernel
theorem dX8_freshenPlan_0 : decode cX8_freshenPlan 0 = .ok (.aload_n 0, 1) := by decide +kernel
theorem dX8_freshenPlan_1 : decode cX8_freshenPlan 1 = .ok (.invokevirtual 110, 3) := by decide +kernel
theorem dX8_freshenPlan_4 : decode cX8_freshenPlan 4 = .ok (.aload_n 0, 1) := by decide +kernel
theorem dX8_freshenPlan_5 : decode cX8_freshenPlan 5 = .ok (.getfield 80, 3) := by decide +kernel
theorem dX8_freshenPlan_8 : decode cX8_freshenPlan 8 = .ok (.ifCond .eq 23, 3) := by decide +kernel
theorem dX8_freshenPlan_11 : decode cX8_freshenPlan 11 = .ok (.aload_n 0, 1) := by decide +kernel
theorem dX8_freshenPlan_12 : decode cX8_freshenPlan 12 = .ok (.iconst 0, 1) := by decide +kernel
theorem dX8_freshenPlan_13 : decode cX8_freshenPlan 13 = .ok (.putfield 80, 3) := by decide +kernel
theorem dX8_freshenPlan_16 : decode cX8_freshenPlan 16 = .ok (.aload_n 0, 1) := by decide +kernel
theorem dX8_freshenPlan_17 : decode cX8_freshenPlan 17 = .ok (.getfield 52, 3) := by decide +kernel
theorem dX8_freshenPlan_20 : decode cX8_freshenPlan 20 = .ok (.aload_n 0, 1) := by decide +kernel
theorem dX8_freshenPlan_21 : decode cX8_freshenPlan 21 = .ok (.getfield 18, 3) := by decide +kernel
theorem dX8_freshenPlan_24 : decode cX8_freshenPlan 24 = .ok (.aload_n 0, 1) := by decide +kernel
theorem dX8_freshenPlan_25 : decode cX8_freshenPlan 25 = .ok (.getfield 25, 3) := by decide +kernel
theorem dX8_freshenPlan_28 : decode cX8_freshenPlan 28 = .ok (.invokevirtual 385, 3) := by decide +kernel
theorem dX8_freshenPlan_31 : decode cX8_freshenPlan 31 = .ok (.return_, 1) := by decide +kernel
theorem dX8_isNumberOfCrossings_0 : decode cX8_isNumberOfCrossings 0 = .ok (.iload_n 1, 1) := by decide +kernel
theorem dX8_isNumberOfCrossings_1 : decode cX8_isNumberOfCrossings 1 = .ok (.iconst 0, 1) := by decide +kernel
theorem dX8_isNumberOfCrossings_2 : decode cX8_isNumberOfCrossings 2 = .ok (.aload_n 0, 1) := by decide +kernel
theorem dX8_isNumberOfCrossings_3 : decode cX8_isNumberOfCrossings 3 = .ok (.getfield 32, 3) := by decide +kernel
theorem dX8_isNumberOfCrossings_6 : decode cX8_isNumberOfCrossings 6 = .ok (.getfield 154, 3) := by decide +kernel
theorem dX8_isNumberOfCrossings_9 : decode cX8_isNumberOfCrossings 9 = .ok (.invokestatic 91, 3) := by decide +kernel
theorem dX8_isNumberOfCrossings_12 : decode cX8_isNumberOfCrossings 12 = .ok (.ireturn, 1) := by decide +kernel
theorem dX8_gapBehindAll_0 : decode cX8_gapBehindAll 0 = .ok (.aload_n 0, 1) := by decide +kernel
theorem dX8_gapBehindAll_1 : decode cX8_gapBehindAll 1 = .ok (.getfield 36, 3) := by decide +kernel
theorem dX8_gapBehindAll_4 : decode cX8_gapBehindAll 4 = .ok (.aload_n 0, 1) := by decide +kernel
theorem dX8_gapBehindAll_5 : decode cX8_gapBehindAll 5 = .ok (.getfield 32, 3) := by decide +kernel
theorem dX8_gapBehindAll_8 : decode cX8_gapBehindAll 8 = .ok (.getfield 154, 3) := by decide +kernel
theorem dX8_gapBehindAll_11 : decode cX8_gapBehindAll 11 = .ok (.iaload, 1) := by decide +kernel
theorem dX8_gapBehindAll_12 : decode cX8_gapBehindAll 12 = .ok (.ireturn, 1) := by decide +kernel
theorem dX8_outcomeOfCrossing_0 : decode cX8_outcomeOfCrossing 0 = .ok (.aload_n 0, 1) := by decide +kernel
theorem dX8_outcomeOfCrossing_1 : decode cX8_outcomeOfCrossing 1 = .ok (.getfield 18, 3) := by decide +kernel
theorem dX8_outcomeOfCrossing_4 : decode cX8_outcomeOfCrossing 4 = .ok (.aload_n 0, 1) := by decide +kernel
theorem dX8_outcomeOfCrossing_5 : decode cX8_outcomeOfCrossing 5 = .ok (.getfield 25, 3) := by decide +kernel
theorem dX8_outcomeOfCrossing_8 : decode cX8_outcomeOfCrossing 8 = .ok (.aload_n 0, 1) := by decide +kernel
theorem dX8_outcomeOfCrossing_9 : decode cX8_outcomeOfCrossing 9 = .ok (.getfield 32, 3) := by decide +kernel
theorem dX8_outcomeOfCrossing_12 : decode cX8_outcomeOfCrossing 12 = .ok (.iload_n 1, 1) := by decide +kernel
theorem dX8_outcomeOfCrossing_13 : decode cX8_outcomeOfCrossing 13 = .ok (.invokevirtual 138, 3) := by decide +kernel
theorem dX8_outcomeOfCrossing_16 : decode cX8_outcomeOfCrossing 16 = .ok (.invokevirtual 120, 3) := by decide +kernel
theorem dX8_outcomeOfCrossing_19 : decode cX8_outcomeOfCrossing 19 = .ok (.aload_n 0, 1) := by decide +kernel
theorem dX8_outcomeOfCrossing_20 : decode cX8_outcomeOfCrossing 20 = .ok (.getfield 36, 3) := by decide +kernel
theorem dX8_outcomeOfCrossing_23 : decode cX8_outcomeOfCrossing 23 = .ok (.iload_n 1, 1) := by decide +kernel
theorem dX8_outcomeOfCrossing_24 : decode cX8_outcomeOfCrossing 24 = .ok (.iaload, 1) := by decide +kernel
theorem dX8_outcomeOfCrossing_25 : decode cX8_outcomeOfCrossing 25 = .ok (.invokevirtual 157, 3) := by decide +kernel
theorem dX8_outcomeOfCrossing_28 : decode cX8_outcomeOfCrossing 28 = .ok (.ireturn, 1) := by decide +kernel
theorem dX8_tollsBehind_0 : decode cX8_tollsBehind 0 = .ok (.iconst 0, 1) := by decide +kernel
theorem dX8_tollsBehind_1 : decode cX8_tollsBehind 1 = .ok (.istore_n 2, 1) := by decide +kernel
theorem dX8_tollsBehind_2 : decode cX8_tollsBehind 2 = .ok (.iconst 0, 1) := by decide +kernel
theorem dX8_tollsBehind_3 : decode cX8_tollsBehind 3 = .ok (.istore_n 3, 1) := by decide +kernel
theorem dX8_tollsBehind_4 : decode cX8_tollsBehind 4 = .ok (.iload_n 3, 1) := by decide +kernel
theorem dX8_tollsBehind_5 : decode cX8_tollsBehind 5 = .ok (.iload_n 1, 1) := by decide +kernel
theorem dX8_tollsBehind_6 : decode cX8_tollsBehind 6 = .ok (.if_icmp .ge 40, 3) := by decide +kernel
theorem dX8_tollsBehind_9 : decode cX8_tollsBehind 9 = .ok (.iload_n 2, 1) := by decide +kernel
theorem dX8_tollsBehind_10 : decode cX8_tollsBehind 10 = .ok (.aload_n 0, 1) := by decide +kernel
theorem dX8_tollsBehind_11 : decode cX8_tollsBehind 11 = .ok (.getfield 18, 3) := by decide +kernel
theorem dX8_tollsBehind_14 : decode cX8_tollsBehind 14 = .ok (.aload_n 0, 1) := by decide +kernel
theorem dX8_tollsBehind_15 : decode cX8_tollsBehind 15 = .ok (.getfield 25, 3) := by decide +kernel
theorem dX8_tollsBehind_18 : decode cX8_tollsBehind 18 = .ok (.aload_n 0, 1) := by decide +kernel
theorem dX8_tollsBehind_19 : decode cX8_tollsBehind 19 = .ok (.getfield 32, 3) := by decide +kernel
theorem dX8_tollsBehind_22 : decode cX8_tollsBehind 22 = .ok (.iload_n 3, 1) := by decide +kernel
theorem dX8_tollsBehind_23 : decode cX8_tollsBehind 23 = .ok (.invokevirtual 138, 3) := by decide +kernel
theorem dX8_tollsBehind_26 : decode cX8_tollsBehind 26 = .ok (.invokevirtual 120, 3) := by decide +kernel
theorem dX8_tollsBehind_29 : decode cX8_tollsBehind 29 = .ok (.aload_n 0, 1) := by decide +kernel
theorem dX8_tollsBehind_30 : decode cX8_tollsBehind 30 = .ok (.getfield 36, 3) := by decide +kernel
theorem dX8_tollsBehind_33 : decode cX8_tollsBehind 33 = .ok (.iload_n 3, 1) := by decide +kernel
theorem dX8_tollsBehind_34 : decode cX8_tollsBehind 34 = .ok (.iaload, 1) := by decide +kernel
theorem dX8_tollsBehind_35 : decode cX8_tollsBehind 35 = .ok (.invokevirtual 161, 3) := by decide +kernel
theorem dX8_tollsBehind_38 : decode cX8_tollsBehind 38 = .ok (.iadd, 1) := by decide +kernel
theorem dX8_tollsBehind_39 : decode cX8_tollsBehind 39 = .ok (.istore_n 2, 1) := by decide +kernel
theorem dX8_tollsBehind_40 : decode cX8_tollsBehind 40 = .ok (.iinc 3 1, 3) := by decide +kernel
theorem dX8_tollsBehind_43 : decode cX8_tollsBehind 43 = .ok (.goto (-39), 3) := by decide +kernel
theorem dX8_tollsBehind_46 : decode cX8_tollsBehind 46 = .ok (.iload_n 2, 1) := by decide +kernel
theorem dX8_tollsBehind_47 : decode cX8_tollsBehind 47 = .ok (.ireturn, 1) := by decide +kernel
theorem dX8_countVisits_0 : decode cX8_countVisits 0 = .ok (.iconst 0, 1) := by decide +kernel
theorem dX8_countVisits_1 : decode cX8_countVisits 1 = .ok (.istore_n 1, 1) := by decide +kernel
theorem dX8_countVisits_2 : decode cX8_countVisits 2 = .ok (.iload_n 1, 1) := by decide +kernel
theorem dX8_countVisits_3 : decode cX8_countVisits 3 = .ok (.bipush 19, 2) := by decide +kernel
theorem dX8_countVisits_5 : decode cX8_countVisits 5 = .ok (.if_icmp .ge 16, 3) := by decide +kernel
theorem dX8_countVisits_8 : decode cX8_countVisits 8 = .ok (.aload_n 0, 1) := by decide +kernel
theorem dX8_countVisits_9 : decode cX8_countVisits 9 = .ok (.getfield 46, 3) := by decide +kernel
theorem dX8_countVisits_12 : decode cX8_countVisits 12 = .ok (.iload_n 1, 1) := by decide +kernel
theorem dX8_countVisits_13 : decode cX8_countVisits 13 = .ok (.iconst 0, 1) := by decide +kernel
theorem dX8_countVisits_14 : decode cX8_countVisits 14 = .ok (.iastore, 1) := by decide +kernel
theorem dX8_countVisits_15 : decode cX8_countVisits 15 = .ok (.iinc 1 1, 3) := by decide +kernel
theorem dX8_countVisits_18 : decode cX8_countVisits 18 = .ok (.goto (-16), 3) := by decide +kernel
theorem dX8_countVisits_21 : decode cX8_countVisits 21 = .ok (.iconst 0, 1) := by decide +kernel
theorem dX8_countVisits_22 : decode cX8_countVisits 22 = .ok (.istore_n 1, 1) := by decide +kernel
theorem dX8_countVisits_23 : decode cX8_countVisits 23 = .ok (.iload_n 1, 1) := by decide +kernel
theorem dX8_countVisits_24 : decode cX8_countVisits 24 = .ok (.aload_n 0, 1) := by decide +kernel
theorem dX8_countVisits_25 : decode cX8_countVisits 25 = .ok (.getfield 32, 3) := by decide +kernel
theorem dX8_countVisits_28 : decode cX8_countVisits 28 = .ok (.getfield 154, 3) := by decide +kernel
theorem dX8_countVisits_31 : decode cX8_countVisits 31 = .ok (.if_icmp .gt 40, 3) := by decide +kernel
theorem dX8_countVisits_34 : decode cX8_countVisits 34 = .ok (.aload_n 0, 1) := by decide +kernel
theorem dX8_countVisits_35 : decode cX8_countVisits 35 = .ok (.getfield 18, 3) := by decide +kernel
theorem dX8_countVisits_38 : decode cX8_countVisits 38 = .ok (.aload_n 0, 1) := by decide +kernel
theorem dX8_countVisits_39 : decode cX8_countVisits 39 = .ok (.getfield 36, 3) := by decide +kernel
theorem dX8_countVisits_42 : decode cX8_countVisits 42 = .ok (.iload_n 1, 1) := by decide +kernel
theorem dX8_countVisits_43 : decode cX8_countVisits 43 = .ok (.iaload, 1) := by decide +kernel
theorem dX8_countVisits_44 : decode cX8_countVisits 44 = .ok (.invokevirtual 113, 3) := by decide +kernel
theorem dX8_countVisits_47 : decode cX8_countVisits 47 = .ok (.ifCond .eq 18, 3) := by decide +kernel
theorem dX8_countVisits_50 : decode cX8_countVisits 50 = .ok (.aload_n 0, 1) := by decide +kernel
theorem dX8_countVisits_51 : decode cX8_countVisits 51 = .ok (.getfield 46, 3) := by decide +kernel
theorem dX8_countVisits_54 : decode cX8_countVisits 54 = .ok (.aload_n 0, 1) := by decide +kernel
theorem dX8_countVisits_55 : decode cX8_countVisits 55 = .ok (.getfield 36, 3) := by decide +kernel
theorem dX8_countVisits_58 : decode cX8_countVisits 58 = .ok (.iload_n 1, 1) := by decide +kernel
theorem dX8_countVisits_59 : decode cX8_countVisits 59 = .ok (.iaload, 1) := by decide +kernel
theorem dX8_countVisits_60 : decode cX8_countVisits 60 = .ok (.dup2, 1) := by decide +kernel
theorem dX8_countVisits_61 : decode cX8_countVisits 61 = .ok (.iaload, 1) := by decide +kernel
theorem dX8_countVisits_62 : decode cX8_countVisits 62 = .ok (.iconst 1, 1) := by decide +kernel
theorem dX8_countVisits_63 : decode cX8_countVisits 63 = .ok (.iadd, 1) := by decide +kernel
theorem dX8_countVisits_64 : decode cX8_countVisits 64 = .ok (.iastore, 1) := by decide +kernel
theorem dX8_countVisits_65 : decode cX8_countVisits 65 = .ok (.iinc 1 1, 3) := by decide +kernel
theorem dX8_countVisits_68 : decode cX8_countVisits 68 = .ok (.goto (-45), 3) := by decide +kernel
theorem dX8_countVisits_71 : decode cX8_countVisits 71 = .ok (.return_, 1) := by decide +kernel
theorem dX8_comesOutAsSeen_0 : decode cX8_comesOutAsSeen 0 = .ok (.aload_n 0, 1) := by decide +kernel
theorem dX8_comesOutAsSeen_1 : decode cX8_comesOutAsSeen 1 = .ok (.getfield 32, 3) := by decide +kernel
theorem dX8_comesOutAsSeen_4 : decode cX8_comesOutAsSeen 4 = .ok (.aload_n 0, 1) := by decide +kernel
theorem dX8_comesOutAsSeen_5 : decode cX8_comesOutAsSeen 5 = .ok (.getfield 18, 3) := by decide +kernel
theorem dX8_comesOutAsSeen_8 : decode cX8_comesOutAsSeen 8 = .ok (.aload_n 0, 1) := by decide +kernel
theorem dX8_comesOutAsSeen_9 : decode cX8_comesOutAsSeen 9 = .ok (.getfield 25, 3) := by decide +kernel
theorem dX8_comesOutAsSeen_12 : decode cX8_comesOutAsSeen 12 = .ok (.iload_n 1, 1) := by decide +kernel
theorem dX8_comesOutAsSeen_13 : decode cX8_comesOutAsSeen 13 = .ok (.aload_n 2, 1) := by decide +kernel
theorem dX8_comesOutAsSeen_14 : decode cX8_comesOutAsSeen 14 = .ok (.aload_n 0, 1) := by decide +kernel
theorem dX8_comesOutAsSeen_15 : decode cX8_comesOutAsSeen 15 = .ok (.getfield 40, 3) := by decide +kernel
theorem dX8_comesOutAsSeen_18 : decode cX8_comesOutAsSeen 18 = .ok (.invokevirtual 381, 3) := by decide +kernel
theorem dX8_comesOutAsSeen_21 : decode cX8_comesOutAsSeen 21 = .ok (.aload_n 0, 1) := by decide +kernel
theorem dX8_comesOutAsSeen_22 : decode cX8_comesOutAsSeen 22 = .ok (.getfield 59, 3) := by decide +kernel
theorem dX8_comesOutAsSeen_25 : decode cX8_comesOutAsSeen 25 = .ok (.aload_n 0, 1) := by decide +kernel
theorem dX8_comesOutAsSeen_26 : decode cX8_comesOutAsSeen 26 = .ok (.getfield 40, 3) := by decide +kernel
theorem dX8_comesOutAsSeen_29 : decode cX8_comesOutAsSeen 29 = .ok (.aload_n 0, 1) := by decide +kernel
theorem dX8_comesOutAsSeen_30 : decode cX8_comesOutAsSeen 30 = .ok (.getfield 32, 3) := by decide +kernel
theorem dX8_comesOutAsSeen_33 : decode cX8_comesOutAsSeen 33 = .ok (.getfield 154, 3) := by decide +kernel
theorem dX8_comesOutAsSeen_36 : decode cX8_comesOutAsSeen 36 = .ok (.invokevirtual 389, 3) := by decide +kernel
theorem dX8_comesOutAsSeen_39 : decode cX8_comesOutAsSeen 39 = .ok (.ireturn, 1) := by decide +kernel
theorem dX8_spreadChances_0 : decode cX8_spreadChances 0 = .ok (.iconst 0, 1) := by decide +kernel
theorem dX8_spreadChances_1 : decode cX8_spreadChances 1 = .ok (.istore_n 2, 1) := by decide +kernel
theorem dX8_spreadChances_2 : decode cX8_spreadChances 2 = .ok (.iload_n 2, 1) := by decide +kernel
theorem dX8_spreadChances_3 : decode cX8_spreadChances 3 = .ok (.aload_n 0, 1) := by decide +kernel
theorem dX8_spreadChances_4 : decode cX8_spreadChances 4 = .ok (.getfield 18, 3) := by decide +kernel
theorem dX8_spreadChances_7 : decode cX8_spreadChances 7 = .ok (.getfield 176, 3) := by decide +kernel
theorem dX8_spreadChances_10 : decode cX8_spreadChances 10 = .ok (.if_icmp .ge 31, 3) := by decide +kernel
theorem dX8_spreadChances_13 : decode cX8_spreadChances 13 = .ok (.aload_n 0, 1) := by decide +kernel
theorem dX8_spreadChances_14 : decode cX8_spreadChances 14 = .ok (.getfield 63, 3) := by decide +kernel
theorem dX8_spreadChances_17 : decode cX8_spreadChances 17 = .ok (.iload_n 2, 1) := by decide +kernel
theorem dX8_spreadChances_18 : decode cX8_spreadChances 18 = .ok (.iload_n 2, 1) := by decide +kernel
theorem dX8_spreadChances_19 : decode cX8_spreadChances 19 = .ok (.aload_n 0, 1) := by decide +kernel
theorem dX8_spreadChances_20 : decode cX8_spreadChances 20 = .ok (.getfield 18, 3) := by decide +kernel
theorem dX8_spreadChances_23 : decode cX8_spreadChances 23 = .ok (.invokevirtual 228, 3) := by decide +kernel
theorem dX8_spreadChances_26 : decode cX8_spreadChances 26 = .ok (.if_icmp .ne 7, 3) := by decide +kernel
theorem dX8_spreadChances_29 : decode cX8_spreadChances 29 = .ok (.lconst 1, 1) := by decide +kernel
theorem dX8_spreadChances_30 : decode cX8_spreadChances 30 = .ok (.goto 4, 3) := by decide +kernel
theorem dX8_spreadChances_33 : decode cX8_spreadChances 33 = .ok (.lconst 0, 1) := by decide +kernel
theorem dX8_spreadChances_34 : decode cX8_spreadChances 34 = .ok (.lastore, 1) := by decide +kernel
theorem dX8_spreadChances_35 : decode cX8_spreadChances 35 = .ok (.iinc 2 1, 3) := by decide +kernel
theorem dX8_spreadChances_38 : decode cX8_spreadChances 38 = .ok (.goto (-36), 3) := by decide +kernel
theorem dX8_spreadChances_41 : decode cX8_spreadChances 41 = .ok (.iconst 0, 1) := by decide +kernel
theorem dX8_spreadChances_42 : decode cX8_spreadChances 42 = .ok (.istore_n 2, 1) := by decide +kernel
theorem dX8_spreadChances_43 : decode cX8_spreadChances 43 = .ok (.iload_n 2, 1) := by decide +kernel
theorem dX8_spreadChances_44 : decode cX8_spreadChances 44 = .ok (.aload_n 0, 1) := by decide +kernel
theorem dX8_spreadChances_45 : decode cX8_spreadChances 45 = .ok (.getfield 32, 3) := by decide +kernel
theorem dX8_spreadChances_48 : decode cX8_spreadChances 48 = .ok (.getfield 154, 3) := by decide +kernel
theorem dX8_spreadChances_51 : decode cX8_spreadChances 51 = .ok (.if_icmp .ge 29, 3) := by decide +kernel
theorem dX8_spreadChances_54 : decode cX8_spreadChances 54 = .ok (.aload_n 0, 1) := by decide +kernel
theorem dX8_spreadChances_55 : decode cX8_spreadChances 55 = .ok (.aload_n 0, 1) := by decide +kernel
theorem dX8_spreadChances_56 : decode cX8_spreadChances 56 = .ok (.getfield 25, 3) := by decide +kernel
theorem dX8_spreadChances_59 : decode cX8_spreadChances 59 = .ok (.aload_n 0, 1) := by decide +kernel
theorem dX8_spreadChances_60 : decode cX8_spreadChances 60 = .ok (.getfield 32, 3) := by decide +kernel
theorem dX8_spreadChances_63 : decode cX8_spreadChances 63 = .ok (.iload_n 2, 1) := by decide +kernel
theorem dX8_spreadChances_64 : decode cX8_spreadChances 64 = .ok (.invokevirtual 138, 3) := by decide +kernel
theorem dX8_spreadChances_67 : decode cX8_spreadChances 67 = .ok (.invokevirtual 120, 3) := by decide +kernel
theorem dX8_spreadChances_70 : decode cX8_spreadChances 70 = .ok (.iload_n 1, 1) := by decide +kernel
theorem dX8_spreadChances_71 : decode cX8_spreadChances 71 = .ok (.invokevirtual 393, 3) := by decide +kernel
theorem dX8_spreadChances_74 : decode cX8_spreadChances 74 = .ok (.iinc 2 1, 3) := by decide +kernel
theorem dX8_spreadChances_77 : decode cX8_spreadChances 77 = .ok (.goto (-34), 3) := by decide +kernel
theorem dX8_spreadChances_80 : decode cX8_spreadChances 80 = .ok (.return_, 1) := by decide +kernel
theorem dX8_spreadOver_0 : decode cX8_spreadOver 0 = .ok (.iconst 0, 1) := by decide +kernel
theorem dX8_spreadOver_1 : decode cX8_spreadOver 1 = .ok (.istore_n 3, 1) := by decide +kernel
theorem dX8_spreadOver_2 : decode cX8_spreadOver 2 = .ok (.iload_n 3, 1) := by decide +kernel
theorem dX8_spreadOver_3 : decode cX8_spreadOver 3 = .ok (.aload_n 0, 1) := by decide +kernel
theorem dX8_spreadOver_4 : decode cX8_spreadOver 4 = .ok (.getfield 18, 3) := by decide +kernel
theorem dX8_spreadOver_7 : decode cX8_spreadOver 7 = .ok (.getfield 176, 3) := by decide +kernel
theorem dX8_spreadOver_10 : decode cX8_spreadOver 10 = .ok (.if_icmp .ge 27, 3) := by decide +kernel
theorem dX8_spreadOver_13 : decode cX8_spreadOver 13 = .ok (.aload_n 0, 1) := by decide +kernel
theorem dX8_spreadOver_14 : decode cX8_spreadOver 14 = .ok (.getfield 67, 3) := by decide +kernel
theorem dX8_spreadOver_17 : decode cX8_spreadOver 17 = .ok (.iload_n 3, 1) := by decide +kernel
theorem dX8_spreadOver_18 : decode cX8_spreadOver 18 = .ok (.aload_n 0, 1) := by decide +kernel
theorem dX8_spreadOver_19 : decode cX8_spreadOver 19 = .ok (.getfield 63, 3) := by decide +kernel
theorem dX8_spreadOver_22 : decode cX8_spreadOver 22 = .ok (.iload_n 3, 1) := by decide +kernel
theorem dX8_spreadOver_23 : decode cX8_spreadOver 23 = .ok (.laload, 1) := by decide +kernel
theorem dX8_spreadOver_24 : decode cX8_spreadOver 24 = .ok (.bipush 16, 2) := by decide +kernel
theorem dX8_spreadOver_26 : decode cX8_spreadOver 26 = .ok (.iload_n 2, 1) := by decide +kernel
theorem dX8_spreadOver_27 : decode cX8_spreadOver 27 = .ok (.isub, 1) := by decide +kernel
theorem dX8_spreadOver_28 : decode cX8_spreadOver 28 = .ok (.i2l, 1) := by decide +kernel
theorem dX8_spreadOver_29 : decode cX8_spreadOver 29 = .ok (.lmul, 1) := by decide +kernel
theorem dX8_spreadOver_30 : decode cX8_spreadOver 30 = .ok (.lastore, 1) := by decide +kernel
theorem dX8_spreadOver_31 : decode cX8_spreadOver 31 = .ok (.iinc 3 1, 3) := by decide +kernel
theorem dX8_spreadOver_34 : decode cX8_spreadOver 34 = .ok (.goto (-32), 3) := by decide +kernel
theorem dX8_spreadOver_37 : decode cX8_spreadOver 37 = .ok (.iconst 0, 1) := by decide +kernel
theorem dX8_spreadOver_38 : decode cX8_spreadOver 38 = .ok (.istore_n 3, 1) := by decide +kernel
theorem dX8_spreadOver_39 : decode cX8_spreadOver 39 = .ok (.iload_n 3, 1) := by decide +kernel
theorem dX8_spreadOver_40 : decode cX8_spreadOver 40 = .ok (.aload_n 0, 1) := by decide +kernel
theorem dX8_spreadOver_41 : decode cX8_spreadOver 41 = .ok (.getfield 18, 3) := by decide +kernel
theorem dX8_spreadOver_44 : decode cX8_spreadOver 44 = .ok (.getfield 176, 3) := by decide +kernel
theorem dX8_spreadOver_47 : decode cX8_spreadOver 47 = .ok (.if_icmp .ge 58, 3) := by decide +kernel
theorem dX8_spreadOver_50 : decode cX8_spreadOver 50 = .ok (.aload_n 0, 1) := by decide +kernel
theorem dX8_spreadOver_51 : decode cX8_spreadOver 51 = .ok (.getfield 18, 3) := by decide +kernel
theorem dX8_spreadOver_54 : decode cX8_spreadOver 54 = .ok (.aload_n 1, 1) := by decide +kernel
theorem dX8_spreadOver_55 : decode cX8_spreadOver 55 = .ok (.iload_n 3, 1) := by decide +kernel
theorem dX8_spreadOver_56 : decode cX8_spreadOver 56 = .ok (.aload_n 0, 1) := by decide +kernel
theorem dX8_spreadOver_57 : decode cX8_spreadOver 57 = .ok (.getfield 18, 3) := by decide +kernel
theorem dX8_spreadOver_60 : decode cX8_spreadOver 60 = .ok (.getfield 148, 3) := by decide +kernel
theorem dX8_spreadOver_63 : decode cX8_spreadOver 63 = .ok (.invokevirtual 194, 3) := by decide +kernel
theorem dX8_spreadOver_66 : decode cX8_spreadOver 66 = .ok (.istore 4, 2) := by decide +kernel
theorem dX8_spreadOver_68 : decode cX8_spreadOver 68 = .ok (.aload_n 0, 1) := by decide +kernel
theorem dX8_spreadOver_69 : decode cX8_spreadOver 69 = .ok (.getfield 18, 3) := by decide +kernel
theorem dX8_spreadOver_72 : decode cX8_spreadOver 72 = .ok (.iload 4, 2) := by decide +kernel
theorem dX8_spreadOver_74 : decode cX8_spreadOver 74 = .ok (.invokevirtual 113, 3) := by decide +kernel
theorem dX8_spreadOver_77 : decode cX8_spreadOver 77 = .ok (.ifCond .eq 22, 3) := by decide +kernel
theorem dX8_spreadOver_80 : decode cX8_spreadOver 80 = .ok (.aload_n 0, 1) := by decide +kernel
theorem dX8_spreadOver_81 : decode cX8_spreadOver 81 = .ok (.getfield 67, 3) := by decide +kernel
theorem dX8_spreadOver_84 : decode cX8_spreadOver 84 = .ok (.iload 4, 2) := by decide +kernel
theorem dX8_spreadOver_86 : decode cX8_spreadOver 86 = .ok (.dup2, 1) := by decide +kernel
theorem dX8_spreadOver_87 : decode cX8_spreadOver 87 = .ok (.laload, 1) := by decide +kernel
theorem dX8_spreadOver_88 : decode cX8_spreadOver 88 = .ok (.aload_n 0, 1) := by decide +kernel
theorem dX8_spreadOver_89 : decode cX8_spreadOver 89 = .ok (.getfield 63, 3) := by decide +kernel
theorem dX8_spreadOver_92 : decode cX8_spreadOver 92 = .ok (.iload_n 3, 1) := by decide +kernel
theorem dX8_spreadOver_93 : decode cX8_spreadOver 93 = .ok (.laload, 1) := by decide +kernel
theorem dX8_spreadOver_94 : decode cX8_spreadOver 94 = .ok (.iload_n 2, 1) := by decide +kernel
theorem dX8_spreadOver_95 : decode cX8_spreadOver 95 = .ok (.i2l, 1) := by decide +kernel
theorem dX8_spreadOver_96 : decode cX8_spreadOver 96 = .ok (.lmul, 1) := by decide +kernel
theorem dX8_spreadOver_97 : decode cX8_spreadOver 97 = .ok (.ladd, 1) := by decide +kernel
theorem dX8_spreadOver_98 : decode cX8_spreadOver 98 = .ok (.lastore, 1) := by decide +kernel
theorem dX8_spreadOver_99 : decode cX8_spreadOver 99 = .ok (.iinc 3 1, 3) := by decide +kernel
theorem dX8_spreadOver_102 : decode cX8_spreadOver 102 = .ok (.goto (-63), 3) := by decide +kernel
theorem dX8_spreadOver_105 : decode cX8_spreadOver 105 = .ok (.aload_n 0, 1) := by decide +kernel
theorem dX8_spreadOver_106 : decode cX8_spreadOver 106 = .ok (.getfield 67, 3) := by decide +kernel
theorem dX8_spreadOver_109 : decode cX8_spreadOver 109 = .ok (.iconst 0, 1) := by decide +kernel
theorem dX8_spreadOver_110 : decode cX8_spreadOver 110 = .ok (.aload_n 0, 1) := by decide +kernel
theorem dX8_spreadOver_111 : decode cX8_spreadOver 111 = .ok (.getfield 63, 3) := by decide +kernel
theorem dX8_spreadOver_114 : decode cX8_spreadOver 114 = .ok (.iconst 0, 1) := by decide +kernel
theorem dX8_spreadOver_115 : decode cX8_spreadOver 115 = .ok (.bipush 19, 2) := by decide +kernel
theorem dX8_spreadOver_117 : decode cX8_spreadOver 117 = .ok (.invokestatic 222, 3) := by decide +kernel
theorem dX8_spreadOver_120 : decode cX8_spreadOver 120 = .ok (.return_, 1) := by decide +kernel
theorem dX8_sheetAt_0 : decode cX8_sheetAt 0 = .ok (.iload_n 1, 1) := by decide +kernel
theorem dX8_sheetAt_1 : decode cX8_sheetAt 1 = .ok (.iconst 0, 1) := by decide +kernel
theorem dX8_sheetAt_2 : decode cX8_sheetAt 2 = .ok (.iconst 3, 1) := by decide +kernel
theorem dX8_sheetAt_3 : decode cX8_sheetAt 3 = .ok (.invokestatic 91, 3) := by decide +kernel
theorem dX8_sheetAt_6 : decode cX8_sheetAt 6 = .ok (.ifCond .eq 12, 3) := by decide +kernel
theorem dX8_sheetAt_9 : decode cX8_sheetAt 9 = .ok (.aload_n 0, 1) := by decide +kernel
theorem dX8_sheetAt_10 : decode cX8_sheetAt 10 = .ok (.getfield 72, 3) := by decide +kernel
theorem dX8_sheetAt_13 : decode cX8_sheetAt 13 = .ok (.iload_n 1, 1) := by decide +kernel
theorem dX8_sheetAt_14 : decode cX8_sheetAt 14 = .ok (.aaload, 1) := by decide +kernel
theorem dX8_sheetAt_15 : decode cX8_sheetAt 15 = .ok (.goto 4, 3) := by decide +kernel
theorem dX8_sheetAt_18 : decode cX8_sheetAt 18 = .ok (.aconst_null, 1) := by decide +kernel
theorem dX8_sheetAt_19 : decode cX8_sheetAt 19 = .ok (.areturn, 1) := by decide +kernel
theorem dX8_finding_0 : decode cX8_finding 0 = .ok (.aload_n 0, 1) := by decide +kernel
theorem dX8_finding_1 : decode cX8_finding 1 = .ok (.iload_n 1, 1) := by decide +kernel
theorem dX8_finding_2 : decode cX8_finding 2 = .ok (.putfield 266, 3) := by decide +kernel
theorem dX8_finding_5 : decode cX8_finding 5 = .ok (.bipush (-10), 2) := by decide +kernel
theorem dX8_finding_7 : decode cX8_finding 7 = .ok (.iload_n 1, 1) := by decide +kernel
theorem dX8_finding_8 : decode cX8_finding 8 = .ok (.isub, 1) := by decide +kernel
theorem dX8_finding_9 : decode cX8_finding 9 = .ok (.ireturn, 1) := by decide +kernel
