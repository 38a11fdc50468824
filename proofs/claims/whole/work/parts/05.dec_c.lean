theorem dX9_init_0 : decode cX9_init 0 = .ok (.aload_n 0, 1) := by decide +kernel
theorem dX9_init_1 : decode cX9_init 1 = .ok (.invokespecial 1, 3) := by decide +kernel
theorem dX9_init_4 : decode cX9_init 4 = .ok (.aload_n 0, 1) := by decide +kernel
theorem dX9_init_5 : decode cX9_init 5 = .ok (.iconst 4, 1) := by decide +kernel
theorem dX9_init_6 : decode cX9_init 6 = .ok (.newarray .int, 2) := by decide +kernel
theorem dX9_init_8 : decode cX9_init 8 = .ok (.putfield 7, 3) := by decide +kernel
theorem dX9_init_11 : decode cX9_init 11 = .ok (.aload_n 0, 1) := by decide +kernel
theorem dX9_init_12 : decode cX9_init 12 = .ok (.iconst 4, 1) := by decide +kernel
theorem dX9_init_13 : decode cX9_init 13 = .ok (.newarray .int, 2) := by decide +kernel
theorem dX9_init_15 : decode cX9_init 15 = .ok (.putfield 13, 3) := by decide +kernel
theorem dX9_init_18 : decode cX9_init 18 = .ok (.aload_n 0, 1) := by decide +kernel
theorem dX9_init_19 : decode cX9_init 19 = .ok (.sipush 240, 3) := by decide +kernel
theorem dX9_init_22 : decode cX9_init 22 = .ok (.newarray .int, 2) := by decide +kernel
theorem dX9_init_24 : decode cX9_init 24 = .ok (.putfield 16, 3) := by decide +kernel
theorem dX9_init_27 : decode cX9_init 27 = .ok (.aload_n 0, 1) := by decide +kernel
theorem dX9_init_28 : decode cX9_init 28 = .ok (.bipush 60, 2) := by decide +kernel
theorem dX9_init_30 : decode cX9_init 30 = .ok (.newarray .int, 2) := by decide +kernel
theorem dX9_init_32 : decode cX9_init 32 = .ok (.putfield 19, 3) := by decide +kernel
theorem dX9_init_35 : decode cX9_init 35 = .ok (.aload_n 0, 1) := by decide +kernel
theorem dX9_init_36 : decode cX9_init 36 = .ok (.bipush 120, 2) := by decide +kernel
theorem dX9_init_38 : decode cX9_init 38 = .ok (.newarray .int, 2) := by decide +kernel
theorem dX9_init_40 : decode cX9_init 40 = .ok (.putfield 22, 3) := by decide +kernel
theorem dX9_init_43 : decode cX9_init 43 = .ok (.aload_n 0, 1) := by decide +kernel
theorem dX9_init_44 : decode cX9_init 44 = .ok (.iconst 3, 1) := by decide +kernel
theorem dX9_init_45 : decode cX9_init 45 = .ok (.newarray .int, 2) := by decide +kernel
theorem dX9_init_47 : decode cX9_init 47 = .ok (.putfield 25, 3) := by decide +kernel
theorem dX9_init_50 : decode cX9_init 50 = .ok (.aload_n 0, 1) := by decide +kernel
theorem dX9_init_51 : decode cX9_init 51 = .ok (.bipush 19, 2) := by decide +kernel
theorem dX9_init_53 : decode cX9_init 53 = .ok (.newarray .int, 2) := by decide +kernel
theorem dX9_init_55 : decode cX9_init 55 = .ok (.putfield 28, 3) := by decide +kernel
theorem dX9_init_58 : decode cX9_init 58 = .ok (.aload_n 0, 1) := by decide +kernel
theorem dX9_init_59 : decode cX9_init 59 = .ok (.bipush 32, 2) := by decide +kernel
theorem dX9_init_61 : decode cX9_init 61 = .ok (.newarray .int, 2) := by decide +kernel
theorem dX9_init_63 : decode cX9_init 63 = .ok (.putfield 31, 3) := by decide +kernel
theorem dX9_init_66 : decode cX9_init 66 = .ok (.aload_n 0, 1) := by decide +kernel
theorem dX9_init_67 : decode cX9_init 67 = .ok (.bipush 24, 2) := by decide +kernel
theorem dX9_init_69 : decode cX9_init 69 = .ok (.newarray .int, 2) := by decide +kernel
theorem dX9_init_71 : decode cX9_init 71 = .ok (.putfield 34, 3) := by decide +kernel
theorem dX9_init_74 : decode cX9_init 74 = .ok (.aload_n 0, 1) := by decide +kernel
theorem dX9_init_75 : decode cX9_init 75 = .ok (.iconst 2, 1) := by decide +kernel
theorem dX9_init_76 : decode cX9_init 76 = .ok (.newarray .int, 2) := by decide +kernel
theorem dX9_init_78 : decode cX9_init 78 = .ok (.putfield 37, 3) := by decide +kernel
theorem dX9_init_81 : decode cX9_init 81 = .ok (.aload_n 0, 1) := by decide +kernel
theorem dX9_init_82 : decode cX9_init 82 = .ok (.iconst 4, 1) := by decide +kernel
theorem dX9_init_83 : decode cX9_init 83 = .ok (.newarray .int, 2) := by decide +kernel
theorem dX9_init_85 : decode cX9_init 85 = .ok (.putfield 40, 3) := by decide +kernel
theorem dX9_init_88 : decode cX9_init 88 = .ok (.aload_n 0, 1) := by decide +kernel
theorem dX9_init_89 : decode cX9_init 89 = .ok (.bipush 25, 2) := by decide +kernel
theorem dX9_init_91 : decode cX9_init 91 = .ok (.newarray .int, 2) := by decide +kernel
theorem dX9_init_93 : decode cX9_init 93 = .ok (.putfield 43, 3) := by decide +kernel
theorem dX9_init_96 : decode cX9_init 96 = .ok (.aload_n 0, 1) := by decide +kernel
theorem dX9_init_97 : decode cX9_init 97 = .ok (.bipush 24, 2) := by decide +kernel
theorem dX9_init_99 : decode cX9_init 99 = .ok (.newarray .int, 2) := by decide +kernel
theorem dX9_init_101 : decode cX9_init 101 = .ok (.putfield 46, 3) := by decide +kernel
theorem dX9_init_104 : decode cX9_init 104 = .ok (.aload_n 0, 1) := by decide +kernel
theorem dX9_init_105 : decode cX9_init 105 = .ok (.bipush 24, 2) := by decide +kernel
theorem dX9_init_107 : decode cX9_init 107 = .ok (.newarray .int, 2) := by decide +kernel
theorem dX9_init_109 : decode cX9_init 109 = .ok (.putfield 49, 3) := by decide +kernel
theorem dX9_init_112 : decode cX9_init 112 = .ok (.aload_n 0, 1) := by decide +kernel
theorem dX9_init_113 : decode cX9_init 113 = .ok (.bipush 24, 2) := by decide +kernel
theorem dX9_init_115 : decode cX9_init 115 = .ok (.newarray .int, 2) := by decide +kernel
theorem dX9_init_117 : decode cX9_init 117 = .ok (.putfield 52, 3) := by decide +kernel
theorem dX9_init_120 : decode cX9_init 120 = .ok (.aload_n 0, 1) := by decide +kernel
theorem dX9_init_121 : decode cX9_init 121 = .ok (.bipush 8, 2) := by decide +kernel
theorem dX9_init_123 : decode cX9_init 123 = .ok (.newarray .int, 2) := by decide +kernel
theorem dX9_init_125 : decode cX9_init 125 = .ok (.putfield 55, 3) := by decide +kernel
theorem dX9_init_128 : decode cX9_init 128 = .ok (.aload_n 0, 1) := by decide +kernel
theorem dX9_init_129 : decode cX9_init 129 = .ok (.bipush 8, 2) := by decide +kernel
theorem dX9_init_131 : decode cX9_init 131 = .ok (.newarray .int, 2) := by decide +kernel
theorem dX9_init_133 : decode cX9_init 133 = .ok (.putfield 58, 3) := by decide +kernel
theorem dX9_init_136 : decode cX9_init 136 = .ok (.aload_n 0, 1) := by decide +kernel
theorem dX9_init_137 : decode cX9_init 137 = .ok (.bipush 16, 2) := by decide +kernel
theorem dX9_init_139 : decode cX9_init 139 = .ok (.newarray .int, 2) := by decide +kernel
theorem dX9_init_141 : decode cX9_init 141 = .ok (.putfield 61, 3) := by decide +kernel
theorem dX9_init_144 : decode cX9_init 144 = .ok (.aload_n 0, 1) := by decide +kernel
theorem dX9_init_145 : decode cX9_init 145 = .ok (.sipush 475, 3) := by decide +kernel
theorem dX9_init_148 : decode cX9_init 148 = .ok (.newarray .int, 2) := by decide +kernel
theorem dX9_init_150 : decode cX9_init 150 = .ok (.putfield 64, 3) := by decide +kernel
theorem dX9_init_153 : decode cX9_init 153 = .ok (.iconst 0, 1) := by decide +kernel
theorem dX9_init_154 : decode cX9_init 154 = .ok (.istore_n 1, 1) := by decide +kernel
theorem dX9_init_155 : decode cX9_init 155 = .ok (.iload_n 1, 1) := by decide +kernel
theorem dX9_init_156 : decode cX9_init 156 = .ok (.iconst 4, 1) := by decide +kernel
theorem dX9_init_157 : decode cX9_init 157 = .ok (.if_icmp .ge 16, 3) := by decide +kernel
theorem dX9_init_160 : decode cX9_init 160 = .ok (.aload_n 0, 1) := by decide +kernel
theorem dX9_init_161 : decode cX9_init 161 = .ok (.getfield 7, 3) := by decide +kernel
theorem dX9_init_164 : decode cX9_init 164 = .ok (.iload_n 1, 1) := by decide +kernel
theorem dX9_init_165 : decode cX9_init 165 = .ok (.iconst (-1), 1) := by decide +kernel
theorem dX9_init_166 : decode cX9_init 166 = .ok (.iastore, 1) := by decide +kernel
theorem dX9_init_167 : decode cX9_init 167 = .ok (.iinc 1 1, 3) := by decide +kernel
theorem dX9_init_170 : decode cX9_init 170 = .ok (.goto (-15), 3) := by decide +kernel
theorem dX9_init_173 : decode cX9_init 173 = .ok (.aload_n 0, 1) := by decide +kernel
theorem dX9_init_174 : decode cX9_init 174 = .ok (.getfield 37, 3) := by decide +kernel
theorem dX9_init_177 : decode cX9_init 177 = .ok (.iconst 0, 1) := by decide +kernel
theorem dX9_init_178 : decode cX9_init 178 = .ok (.iconst 5, 1) := by decide +kernel
theorem dX9_init_179 : decode cX9_init 179 = .ok (.iastore, 1) := by decide +kernel
theorem dX9_init_180 : decode cX9_init 180 = .ok (.aload_n 0, 1) := by decide +kernel
theorem dX9_init_181 : decode cX9_init 181 = .ok (.getfield 37, 3) := by decide +kernel
theorem dX9_init_184 : decode cX9_init 184 = .ok (.iconst 1, 1) := by decide +kernel
theorem dX9_init_185 : decode cX9_init 185 = .ok (.bipush 9, 2) := by decide +kernel
theorem dX9_init_187 : decode cX9_init 187 = .ok (.iastore, 1) := by decide +kernel
theorem dX9_init_188 : decode cX9_init 188 = .ok (.aload_n 0, 1) := by decide +kernel
theorem dX9_init_189 : decode cX9_init 189 = .ok (.getfield 40, 3) := by decide +kernel
theorem dX9_init_192 : decode cX9_init 192 = .ok (.iconst 0, 1) := by decide +kernel
theorem dX9_init_193 : decode cX9_init 193 = .ok (.iconst 1, 1) := by decide +kernel
theorem dX9_init_194 : decode cX9_init 194 = .ok (.iastore, 1) := by decide +kernel
theorem dX9_init_195 : decode cX9_init 195 = .ok (.aload_n 0, 1) := by decide +kernel
theorem dX9_init_196 : decode cX9_init 196 = .ok (.getfield 40, 3) := by decide +kernel
theorem dX9_init_199 : decode cX9_init 199 = .ok (.iconst 1, 1) := by decide +kernel
theorem dX9_init_200 : decode cX9_init 200 = .ok (.iconst 2, 1) := by decide +kernel
theorem dX9_init_201 : decode cX9_init 201 = .ok (.iastore, 1) := by decide +kernel
theorem dX9_init_202 : decode cX9_init 202 = .ok (.aload_n 0, 1) := by decide +kernel
theorem dX9_init_203 : decode cX9_init 203 = .ok (.getfield 40, 3) := by decide +kernel
theorem dX9_init_206 : decode cX9_init 206 = .ok (.iconst 2, 1) := by decide +kernel
theorem dX9_init_207 : decode cX9_init 207 = .ok (.iconst (-1), 1) := by decide +kernel
theorem dX9_init_208 : decode cX9_init 208 = .ok (.iastore, 1) := by decide +kernel
theorem dX9_init_209 : decode cX9_init 209 = .ok (.return_, 1) := by decide +kernel
theorem dX9_in_0 : decode cX9_in 0 = .ok (.lload_n 0, 1) := by decide +kernel
theorem dX9_in_1 : decode cX9_in 1 = .ok (.lload_n 2, 1) := by decide +kernel
theorem dX9_in_2 : decode cX9_in 2 = .ok (.lcmp, 1) := by decide +kernel
theorem dX9_in_3 : decode cX9_in 3 = .ok (.ifCond .lt 14, 3) := by decide +kernel
theorem dX9_in_6 : decode cX9_in 6 = .ok (.lload_n 0, 1) := by decide +kernel
theorem dX9_in_7 : decode cX9_in 7 = .ok (.lload 4, 2) := by decide +kernel
theorem dX9_in_9 : decode cX9_in 9 = .ok (.lcmp, 1) := by decide +kernel
theorem dX9_in_10 : decode cX9_in 10 = .ok (.ifCond .gt 7, 3) := by decide +kernel
theorem dX9_in_13 : decode cX9_in 13 = .ok (.iconst 1, 1) := by decide +kernel
theorem dX9_in_14 : decode cX9_in 14 = .ok (.goto 4, 3) := by decide +kernel
theorem dX9_in_17 : decode cX9_in 17 = .ok (.iconst 0, 1) := by decide +kernel
theorem dX9_in_18 : decode cX9_in 18 = .ok (.ireturn, 1) := by decide +kernel
theorem dX9_no_0 : decode cX9_no 0 = .ok (.ldc2_w 67, 3) := by decide +kernel
theorem dX9_no_3 : decode cX9_no 3 = .ok (.iload_n 0, 1) := by decide +kernel
theorem dX9_no_4 : decode cX9_no 4 = .ok (.i2l, 1) := by decide +kernel
theorem dX9_no_5 : decode cX9_no 5 = .ok (.lsub, 1) := by decide +kernel
theorem dX9_no_6 : decode cX9_no 6 = .ok (.lreturn, 1) := by decide +kernel
theorem dX9_isTwo_0 : decode cX9_isTwo 0 = .ok (.iload_n 0, 1) := by decide +kernel
theorem dX9_isTwo_1 : decode cX9_isTwo 1 = .ok (.i2l, 1) := by decide +kernel
theorem dX9_isTwo_2 : decode cX9_isTwo 2 = .ok (.lconst 0, 1) := by decide +kernel
theorem dX9_isTwo_3 : decode cX9_isTwo 3 = .ok (.lconst 1, 1) := by decide +kernel
theorem dX9_isTwo_4 : decode cX9_isTwo 4 = .ok (.invokestatic 69, 3) := by decide +kernel
theorem dX9_isTwo_7 : decode cX9_isTwo 7 = .ok (.ireturn, 1) := by decide +kernel
theorem dX9_isIn_0 : decode cX9_isIn 0 = .ok (.iload_n 0, 1) := by decide +kernel
theorem dX9_isIn_1 : decode cX9_isIn 1 = .ok (.iload_n 1, 1) := by decide +kernel
theorem dX9_isIn_2 : decode cX9_isIn 2 = .ok (.ishr, 1) := by decide +kernel
theorem dX9_isIn_3 : decode cX9_isIn 3 = .ok (.iconst 1, 1) := by decide +kernel
theorem dX9_isIn_4 : decode cX9_isIn 4 = .ok (.iand, 1) := by decide +kernel
theorem dX9_isIn_5 : decode cX9_isIn 5 = .ok (.iconst 1, 1) := by decide +kernel
theorem dX9_isIn_6 : decode cX9_isIn 6 = .ok (.if_icmp .ne 7, 3) := by decide +kernel
theorem dX9_isIn_9 : decode cX9_isIn 9 = .ok (.iconst 1, 1) := by decide +kernel
theorem dX9_isIn_10 : decode cX9_isIn 10 = .ok (.goto 4, 3) := by decide +kernel
theorem dX9_isIn_13 : decode cX9_isIn 13 = .ok (.iconst 0, 1) := by decide +kernel
theorem dX9_isIn_14 : decode cX9_isIn 14 = .ok (.ireturn, 1) := by decide +kernel
theorem dX9_lesser_0 : decode cX9_lesser 0 = .ok (.iload_n 0, 1) := by decide +kernel
theorem dX9_lesser_1 : decode cX9_lesser 1 = .ok (.iload_n 1, 1) := by decide +kernel
theorem dX9_lesser_2 : decode cX9_lesser 2 = .ok (.if_icmp .ge 7, 3) := by decide +kernel
theorem dX9_lesser_5 : decode cX9_lesser 5 = .ok (.iload_n 0, 1) := by decide +kernel
theorem dX9_lesser_6 : decode cX9_lesser 6 = .ok (.goto 4, 3) := by decide +kernel
theorem dX9_lesser_9 : decode cX9_lesser 9 = .ok (.iload_n 1, 1) := by decide +kernel
theorem dX9_lesser_10 : decode cX9_lesser 10 = .ok (.ireturn, 1) := by decide +kernel
theorem dX9_greater_0 : decode cX9_greater 0 = .ok (.iload_n 0, 1) := by decide +kernel
theorem dX9_greater_1 : decode cX9_greater 1 = .ok (.iload_n 1, 1) := by decide +kernel
theorem dX9_greater_2 : decode cX9_greater 2 = .ok (.if_icmp .le 7, 3) := by decide +kernel
theorem dX9_greater_5 : decode cX9_greater 5 = .ok (.iload_n 0, 1) := by decide +kernel
theorem dX9_greater_6 : decode cX9_greater 6 = .ok (.goto 4, 3) := by decide +kernel
theorem dX9_greater_9 : decode cX9_greater 9 = .ok (.iload_n 1, 1) := by decide +kernel
theorem dX9_greater_10 : decode cX9_greater 10 = .ok (.ireturn, 1) := by decide +kernel
theorem dX9_part_0 : decode cX9_part 0 = .ok (.lload_n 0, 1) := by decide +kernel
theorem dX9_part_1 : decode cX9_part 1 = .ok (.lstore 5, 2) := by decide +kernel
theorem dX9_part_3 : decode cX9_part 3 = .ok (.lload_n 2, 1) := by decide +kernel
theorem dX9_part_4 : decode cX9_part 4 = .ok (.lstore 7, 2) := by decide +kernel
theorem dX9_part_6 : decode cX9_part 6 = .ok (.lload 7, 2) := by decide +kernel
theorem dX9_part_8 : decode cX9_part 8 = .ok (.lconst 0, 1) := by decide +kernel
theorem dX9_part_9 : decode cX9_part 9 = .ok (.lcmp, 1) := by decide +kernel
theorem dX9_part_10 : decode cX9_part 10 = .ok (.ifCond .eq 21, 3) := by decide +kernel
theorem dX9_part_13 : decode cX9_part 13 = .ok (.lload 5, 2) := by decide +kernel
theorem dX9_part_15 : decode cX9_part 15 = .ok (.lload 7, 2) := by decide +kernel
theorem dX9_part_17 : decode cX9_part 17 = .ok (.lrem, 1) := by decide +kernel
theorem dX9_part_18 : decode cX9_part 18 = .ok (.lstore 9, 2) := by decide +kernel
theorem dX9_part_20 : decode cX9_part 20 = .ok (.lload 7, 2) := by decide +kernel
theorem dX9_part_22 : decode cX9_part 22 = .ok (.lstore 5, 2) := by decide +kernel
theorem dX9_part_24 : decode cX9_part 24 = .ok (.lload 9, 2) := by decide +kernel
theorem dX9_part_26 : decode cX9_part 26 = .ok (.lstore 7, 2) := by decide +kernel
theorem dX9_part_28 : decode cX9_part 28 = .ok (.goto (-22), 3) := by decide +kernel
theorem dX9_part_31 : decode cX9_part 31 = .ok (.iload 4, 2) := by decide +kernel
theorem dX9_part_33 : decode cX9_part 33 = .ok (.ifCond .ne 7, 3) := by decide +kernel
theorem dX9_part_36 : decode cX9_part 36 = .ok (.lload_n 0, 1) := by decide +kernel
theorem dX9_part_37 : decode cX9_part 37 = .ok (.goto 4, 3) := by decide +kernel
theorem dX9_part_40 : decode cX9_part 40 = .ok (.lload_n 2, 1) := by decide +kernel
theorem dX9_part_41 : decode cX9_part 41 = .ok (.lload 5, 2) := by decide +kernel
theorem dX9_part_43 : decode cX9_part 43 = .ok (.ldiv, 1) := by decide +kernel
theorem dX9_part_44 : decode cX9_part 44 = .ok (.lreturn, 1) := by decide +kernel
theorem dX9_finds_0 : decode cX9_finds 0 = .ok (.aload_n 0, 1) := by decide +kernel
theorem dX9_finds_1 : decode cX9_finds 1 = .ok (.iload_n 1, 1) := by decide +kernel
theorem dX9_finds_2 : decode cX9_finds 2 = .ok (.putfield 73, 3) := by decide +kernel
theorem dX9_finds_5 : decode cX9_finds 5 = .ok (.bipush (-10), 2) := by decide +kernel
theorem dX9_finds_7 : decode cX9_finds 7 = .ok (.iload_n 1, 1) := by decide +kernel
theorem dX9_finds_8 : decode cX9_finds 8 = .ok (.isub, 1) := by decide +kernel
theorem dX9_finds_9 : decode cX9_finds 9 = .ok (.ireturn, 1) := by decide +kernel
theorem dX9_isSheet_0 : decode cX9_isSheet 0 = .ok (.iload_n 0, 1) := by decide +kernel
theorem dX9_isSheet_1 : decode cX9_isSheet 1 = .ok (.i2l, 1) := by decide +kernel
theorem dX9_isSheet_2 : decode cX9_isSheet 2 = .ok (.lconst 0, 1) := by decide +kernel
theorem dX9_isSheet_3 : decode cX9_isSheet 3 = .ok (.ldc2_w 77, 3) := by decide +kernel
theorem dX9_isSheet_6 : decode cX9_isSheet 6 = .ok (.invokestatic 69, 3) := by decide +kernel
theorem dX9_isSheet_9 : decode cX9_isSheet 9 = .ok (.ireturn, 1) := by decide +kernel
theorem dX9_sheet_0 : decode cX9_sheet 0 = .ok (.iload_n 1, 1) := by decide +kernel
theorem dX9_sheet_1 : decode cX9_sheet 1 = .ok (.invokestatic 79, 3) := by decide +kernel
theorem dX9_sheet_4 : decode cX9_sheet 4 = .ok (.ifCond .eq 21, 3) := by decide +kernel
theorem dX9_sheet_7 : decode cX9_sheet 7 = .ok (.iload_n 2, 1) := by decide +kernel
theorem dX9_sheet_8 : decode cX9_sheet 8 = .ok (.i2l, 1) := by decide +kernel
theorem dX9_sheet_9 : decode cX9_sheet 9 = .ok (.lconst 0, 1) := by decide +kernel
theorem dX9_sheet_10 : decode cX9_sheet 10 = .ok (.ldc2_w 83, 3) := by decide +kernel
theorem dX9_sheet_13 : decode cX9_sheet 13 = .ok (.invokestatic 69, 3) := by decide +kernel
theorem dX9_sheet_16 : decode cX9_sheet 16 = .ok (.ifCond .eq 9, 3) := by decide +kernel
theorem dX9_sheet_19 : decode cX9_sheet 19 = .ok (.iload_n 3, 1) := by decide +kernel
theorem dX9_sheet_20 : decode cX9_sheet 20 = .ok (.bipush 60, 2) := by decide +kernel
theorem dX9_sheet_22 : decode cX9_sheet 22 = .ok (.if_icmp .le 6, 3) := by decide +kernel
theorem dX9_sheet_25 : decode cX9_sheet 25 = .ok (.bipush (-2), 2) := by decide +kernel
theorem dX9_sheet_27 : decode cX9_sheet 27 = .ok (.ireturn, 1) := by decide +kernel
theorem dX9_sheet_28 : decode cX9_sheet 28 = .ok (.iload_n 3, 1) := by decide +kernel
theorem dX9_sheet_29 : decode cX9_sheet 29 = .ok (.ifCond .ge 9, 3) := by decide +kernel
theorem dX9_sheet_32 : decode cX9_sheet 32 = .ok (.aload_n 0, 1) := by decide +kernel
theorem dX9_sheet_33 : decode cX9_sheet 33 = .ok (.iconst 5, 1) := by decide +kernel
theorem dX9_sheet_34 : decode cX9_sheet 34 = .ok (.invokevirtual 85, 3) := by decide +kernel
theorem dX9_sheet_37 : decode cX9_sheet 37 = .ok (.ireturn, 1) := by decide +kernel
theorem dX9_sheet_38 : decode cX9_sheet 38 = .ok (.aload_n 0, 1) := by decide +kernel
theorem dX9_sheet_39 : decode cX9_sheet 39 = .ok (.getfield 7, 3) := by decide +kernel
theorem dX9_sheet_42 : decode cX9_sheet 42 = .ok (.iload_n 1, 1) := by decide +kernel
theorem dX9_sheet_43 : decode cX9_sheet 43 = .ok (.iload_n 2, 1) := by decide +kernel
theorem dX9_sheet_44 : decode cX9_sheet 44 = .ok (.iastore, 1) := by decide +kernel
theorem dX9_sheet_45 : decode cX9_sheet 45 = .ok (.aload_n 0, 1) := by decide +kernel
theorem dX9_sheet_46 : decode cX9_sheet 46 = .ok (.getfield 13, 3) := by decide +kernel
theorem dX9_sheet_49 : decode cX9_sheet 49 = .ok (.iload_n 1, 1) := by decide +kernel
theorem dX9_sheet_50 : decode cX9_sheet 50 = .ok (.iload_n 3, 1) := by decide +kernel
theorem dX9_sheet_51 : decode cX9_sheet 51 = .ok (.iastore, 1) := by decide +kernel
theorem dX9_sheet_52 : decode cX9_sheet 52 = .ok (.iconst 0, 1) := by decide +kernel
theorem dX9_sheet_53 : decode cX9_sheet 53 = .ok (.istore 4, 2) := by decide +kernel
theorem dX9_sheet_55 : decode cX9_sheet 55 = .ok (.iload 4, 2) := by decide +kernel
theorem dX9_sheet_57 : decode cX9_sheet 57 = .ok (.iload_n 3, 1) := by decide +kernel
theorem dX9_sheet_58 : decode cX9_sheet 58 = .ok (.if_icmp .ge 22, 3) := by decide +kernel
theorem dX9_sheet_61 : decode cX9_sheet 61 = .ok (.aload_n 0, 1) := by decide +kernel
theorem dX9_sheet_62 : decode cX9_sheet 62 = .ok (.getfield 16, 3) := by decide +kernel
theorem dX9_sheet_65 : decode cX9_sheet 65 = .ok (.bipush 60, 2) := by decide +kernel
theorem dX9_sheet_67 : decode cX9_sheet 67 = .ok (.iload_n 1, 1) := by decide +kernel
theorem dX9_sheet_68 : decode cX9_sheet 68 = .ok (.imul, 1) := by decide +kernel
theorem dX9_sheet_69 : decode cX9_sheet 69 = .ok (.iload 4, 2) := by decide +kernel
theorem dX9_sheet_71 : decode cX9_sheet 71 = .ok (.iadd, 1) := by decide +kernel
theorem dX9_sheet_72 : decode cX9_sheet 72 = .ok (.iconst 0, 1) := by decide +kernel
theorem dX9_sheet_73 : decode cX9_sheet 73 = .ok (.iastore, 1) := by decide +kernel
theorem dX9_sheet_74 : decode cX9_sheet 74 = .ok (.iinc 4 1, 3) := by decide +kernel
theorem dX9_sheet_77 : decode cX9_sheet 77 = .ok (.goto (-22), 3) := by decide +kernel
theorem dX9_sheet_80 : decode cX9_sheet 80 = .ok (.iload_n 3, 1) := by decide +kernel
theorem dX9_sheet_81 : decode cX9_sheet 81 = .ok (.ireturn, 1) := by decide +kernel
theorem dX9_lose_0 : decode cX9_lose 0 = .ok (.iload_n 1, 1) := by decide +kernel
theorem dX9_lose_1 : decode cX9_lose 1 = .ok (.invokestatic 79, 3) := by decide +kernel
theorem dX9_lose_4 : decode cX9_lose 4 = .ok (.ifCond .ne 6, 3) := by decide +kernel
theorem dX9_lose_7 : decode cX9_lose 7 = .ok (.bipush (-2), 2) := by decide +kernel
theorem dX9_lose_9 : decode cX9_lose 9 = .ok (.ireturn, 1) := by decide +kernel
theorem dX9_lose_10 : decode cX9_lose 10 = .ok (.aload_n 0, 1) := by decide +kernel
theorem dX9_lose_11 : decode cX9_lose 11 = .ok (.getfield 7, 3) := by decide +kernel
theorem dX9_lose_14 : decode cX9_lose 14 = .ok (.iload_n 1, 1) := by decide +kernel
theorem dX9_lose_15 : decode cX9_lose 15 = .ok (.iaload, 1) := by decide +kernel
theorem dX9_lose_16 : decode cX9_lose 16 = .ok (.ifCond .ge 9, 3) := by decide +kernel
theorem dX9_lose_19 : decode cX9_lose 19 = .ok (.aload_n 0, 1) := by decide +kernel
theorem dX9_lose_20 : decode cX9_lose 20 = .ok (.iconst 1, 1) := by decide +kernel
theorem dX9_lose_21 : decode cX9_lose 21 = .ok (.invokevirtual 85, 3) := by decide +kernel
theorem dX9_lose_24 : decode cX9_lose 24 = .ok (.ireturn, 1) := by decide +kernel
theorem dX9_lose_25 : decode cX9_lose 25 = .ok (.aload_n 0, 1) := by decide +kernel
theorem dX9_lose_26 : decode cX9_lose 26 = .ok (.getfield 7, 3) := by decide +kernel
theorem dX9_lose_29 : decode cX9_lose 29 = .ok (.iload_n 1, 1) := by decide +kernel
theorem dX9_lose_30 : decode cX9_lose 30 = .ok (.iconst (-1), 1) := by decide +kernel
theorem dX9_lose_31 : decode cX9_lose 31 = .ok (.iastore, 1) := by decide +kernel
theorem dX9_lose_32 : decode cX9_lose 32 = .ok (.aload_n 0, 1) := by decide +kernel
theorem dX9_lose_33 : decode cX9_lose 33 = .ok (.getfield 13, 3) := by decide +kernel
theorem dX9_lose_36 : decode cX9_lose 36 = .ok (.iload_n 1, 1) := by decide +kernel
theorem dX9_lose_37 : decode cX9_lose 37 = .ok (.iaload, 1) := by decide +kernel
theorem dX9_lose_38 : decode cX9_lose 38 = .ok (.ireturn, 1) := by decide +kernel
theorem dX9_lacks_0 : decode cX9_lacks 0 = .ok (.aload_n 0, 1) := by decide +kernel
theorem dX9_lacks_1 : decode cX9_lacks 1 = .ok (.getfield 7, 3) := by decide +kernel
theorem dX9_lacks_4 : decode cX9_lacks 4 = .ok (.iload_n 1, 1) := by decide +kernel
theorem dX9_lacks_5 : decode cX9_lacks 5 = .ok (.iaload, 1) := by decide +kernel
theorem dX9_lacks_6 : decode cX9_lacks 6 = .ok (.ifCond .ge 9, 3) := by decide +kernel
theorem dX9_lacks_9 : decode cX9_lacks 9 = .ok (.aload_n 0, 1) := by decide +kernel
theorem dX9_lacks_10 : decode cX9_lacks 10 = .ok (.iconst 1, 1) := by decide +kernel
theorem dX9_lacks_11 : decode cX9_lacks 11 = .ok (.invokevirtual 85, 3) := by decide +kernel
theorem dX9_lacks_14 : decode cX9_lacks 14 = .ok (.ireturn, 1) := by decide +kernel
theorem dX9_lacks_15 : decode cX9_lacks 15 = .ok (.aload_n 0, 1) := by decide +kernel
theorem dX9_lacks_16 : decode cX9_lacks 16 = .ok (.getfield 7, 3) := by decide +kernel
theorem dX9_lacks_19 : decode cX9_lacks 19 = .ok (.iload_n 1, 1) := by decide +kernel
theorem dX9_lacks_20 : decode cX9_lacks 20 = .ok (.iaload, 1) := by decide +kernel
theorem dX9_lacks_21 : decode cX9_lacks 21 = .ok (.iload_n 2, 1) := by decide +kernel
theorem dX9_lacks_22 : decode cX9_lacks 22 = .ok (.if_icmp .eq 9, 3) := by decide +kernel
theorem dX9_lacks_25 : decode cX9_lacks 25 = .ok (.aload_n 0, 1) := by decide +kernel
theorem dX9_lacks_26 : decode cX9_lacks 26 = .ok (.iconst 3, 1) := by decide +kernel
theorem dX9_lacks_27 : decode cX9_lacks 27 = .ok (.invokevirtual 85, 3) := by decide +kernel
theorem dX9_lacks_30 : decode cX9_lacks 30 = .ok (.ireturn, 1) := by decide +kernel
theorem dX9_lacks_31 : decode cX9_lacks 31 = .ok (.iload_n 3, 1) := by decide +kernel
theorem dX9_lacks_32 : decode cX9_lacks 32 = .ok (.i2l, 1) := by decide +kernel
theorem dX9_lacks_33 : decode cX9_lacks 33 = .ok (.lconst 0, 1) := by decide +kernel
theorem dX9_lacks_34 : decode cX9_lacks 34 = .ok (.aload_n 0, 1) := by decide +kernel
theorem dX9_lacks_35 : decode cX9_lacks 35 = .ok (.getfield 13, 3) := by decide +kernel
theorem dX9_lacks_38 : decode cX9_lacks 38 = .ok (.iload_n 1, 1) := by decide +kernel
theorem dX9_lacks_39 : decode cX9_lacks 39 = .ok (.iaload, 1) := by decide +kernel
theorem dX9_lacks_40 : decode cX9_lacks 40 = .ok (.iconst 1, 1) := by decide +kernel
theorem dX9_lacks_41 : decode cX9_lacks 41 = .ok (.isub, 1) := by decide +kernel
theorem dX9_lacks_42 : decode cX9_lacks 42 = .ok (.i2l, 1) := by decide +kernel
theorem dX9_lacks_43 : decode cX9_lacks 43 = .ok (.invokestatic 69, 3) := by decide +kernel
theorem dX9_lacks_46 : decode cX9_lacks 46 = .ok (.ifCond .eq 7, 3) := by decide +kernel
theorem dX9_lacks_49 : decode cX9_lacks 49 = .ok (.iconst 0, 1) := by decide +kernel
theorem dX9_lacks_50 : decode cX9_lacks 50 = .ok (.goto 8, 3) := by decide +kernel
theorem dX9_lacks_53 : decode cX9_lacks 53 = .ok (.aload_n 0, 1) := by decide +kernel
theorem dX9_lacks_54 : decode cX9_lacks 54 = .ok (.iconst 2, 1) := by decide +kernel
theorem dX9_lacks_55 : decode cX9_lacks 55 = .ok (.invokevirtual 85, 3) := by decide +kernel
theorem dX9_lacks_58 : decode cX9_lacks 58 = .ok (.ireturn, 1) := by decide +kernel
theorem dX9_cut_0 : decode cX9_cut 0 = .ok (.iload_n 0, 1) := by decide +kernel
theorem dX9_cut_1 : decode cX9_cut 1 = .ok (.ifCond .ne 8, 3) := by decide +kernel
theorem dX9_cut_4 : decode cX9_cut 4 = .ok (.iload_n 1, 1) := by decide +kernel
theorem dX9_cut_5 : decode cX9_cut 5 = .ok (.i2b, 1) := by decide +kernel
theorem dX9_cut_6 : decode cX9_cut 6 = .ok (.goto 14, 3) := by decide +kernel
theorem dX9_cut_9 : decode cX9_cut 9 = .ok (.iload_n 0, 1) := by decide +kernel
theorem dX9_cut_10 : decode cX9_cut 10 = .ok (.iconst 1, 1) := by decide +kernel
theorem dX9_cut_11 : decode cX9_cut 11 = .ok (.if_icmp .ne 8, 3) := by decide +kernel
theorem dX9_cut_14 : decode cX9_cut 14 = .ok (.iload_n 1, 1) := by decide +kernel
theorem dX9_cut_15 : decode cX9_cut 15 = .ok (.i2s, 1) := by decide +kernel
theorem dX9_cut_16 : decode cX9_cut 16 = .ok (.goto 4, 3) := by decide +kernel
theorem dX9_cut_19 : decode cX9_cut 19 = .ok (.iload_n 1, 1) := by decide +kernel
theorem dX9_cut_20 : decode cX9_cut 20 = .ok (.ireturn, 1) := by decide +kernel
theorem dX9_lay_0 : decode cX9_lay 0 = .ok (.iload_n 1, 1) := by decide +kernel
theorem dX9_lay_1 : decode cX9_lay 1 = .ok (.invokestatic 79, 3) := by decide +kernel
theorem dX9_lay_4 : decode cX9_lay 4 = .ok (.ifCond .eq 15, 3) := by decide +kernel
theorem dX9_lay_7 : decode cX9_lay 7 = .ok (.iload_n 2, 1) := by decide +kernel
theorem dX9_lay_8 : decode cX9_lay 8 = .ok (.i2l, 1) := by decide +kernel
theorem dX9_lay_9 : decode cX9_lay 9 = .ok (.lconst 0, 1) := by decide +kernel
theorem dX9_lay_10 : decode cX9_lay 10 = .ok (.ldc2_w 83, 3) := by decide +kernel
theorem dX9_lay_13 : decode cX9_lay 13 = .ok (.invokestatic 69, 3) := by decide +kernel
theorem dX9_lay_16 : decode cX9_lay 16 = .ok (.ifCond .ne 6, 3) := by decide +kernel
theorem dX9_lay_19 : decode cX9_lay 19 = .ok (.bipush (-2), 2) := by decide +kernel
theorem dX9_lay_21 : decode cX9_lay 21 = .ok (.ireturn, 1) := by decide +kernel
theorem dX9_lay_22 : decode cX9_lay 22 = .ok (.aload_n 0, 1) := by decide +kernel
theorem dX9_lay_23 : decode cX9_lay 23 = .ok (.iload_n 1, 1) := by decide +kernel
theorem dX9_lay_24 : decode cX9_lay 24 = .ok (.iload_n 2, 1) := by decide +kernel
theorem dX9_lay_25 : decode cX9_lay 25 = .ok (.iload_n 3, 1) := by decide +kernel
theorem dX9_lay_26 : decode cX9_lay 26 = .ok (.invokevirtual 89, 3) := by decide +kernel
theorem dX9_lay_29 : decode cX9_lay 29 = .ok (.istore 5, 2) := by decide +kernel
theorem dX9_lay_31 : decode cX9_lay 31 = .ok (.iload 5, 2) := by decide +kernel
theorem dX9_lay_33 : decode cX9_lay 33 = .ok (.ifCond .eq 6, 3) := by decide +kernel
theorem dX9_lay_36 : decode cX9_lay 36 = .ok (.iload 5, 2) := by decide +kernel
theorem dX9_lay_38 : decode cX9_lay 38 = .ok (.ireturn, 1) := by decide +kernel
theorem dX9_lay_39 : decode cX9_lay 39 = .ok (.aload_n 0, 1) := by decide +kernel
theorem dX9_lay_40 : decode cX9_lay 40 = .ok (.getfield 16, 3) := by decide +kernel
theorem dX9_lay_43 : decode cX9_lay 43 = .ok (.bipush 60, 2) := by decide +kernel
theorem dX9_lay_45 : decode cX9_lay 45 = .ok (.iload_n 1, 1) := by decide +kernel
theorem dX9_lay_46 : decode cX9_lay 46 = .ok (.imul, 1) := by decide +kernel
theorem dX9_lay_47 : decode cX9_lay 47 = .ok (.iload_n 3, 1) := by decide +kernel
theorem dX9_lay_48 : decode cX9_lay 48 = .ok (.iadd, 1) := by decide +kernel
theorem dX9_lay_49 : decode cX9_lay 49 = .ok (.iload_n 2, 1) := by decide +kernel
theorem dX9_lay_50 : decode cX9_lay 50 = .ok (.iload 4, 2) := by decide +kernel
theorem dX9_lay_52 : decode cX9_lay 52 = .ok (.invokestatic 93, 3) := by decide +kernel
theorem dX9_lay_55 : decode cX9_lay 55 = .ok (.iastore, 1) := by decide +kernel
theorem dX9_lay_56 : decode cX9_lay 56 = .ok (.iconst 1, 1) := by decide +kernel
theorem dX9_lay_57 : decode cX9_lay 57 = .ok (.ireturn, 1) := by decide +kernel
theorem dX9_get_0 : decode cX9_get 0 = .ok (.iload_n 1, 1) := by decide +kernel
theorem dX9_get_1 : decode cX9_get 1 = .ok (.invokestatic 79, 3) := by decide +kernel
theorem dX9_get_4 : decode cX9_get 4 = .ok (.ifCond .eq 25, 3) := by decide +kernel
theorem dX9_get_7 : decode cX9_get 7 = .ok (.iload_n 2, 1) := by decide +kernel
theorem dX9_get_8 : decode cX9_get 8 = .ok (.i2l, 1) := by decide +kernel
theorem dX9_get_9 : decode cX9_get 9 = .ok (.lconst 0, 1) := by decide +kernel
theorem dX9_get_10 : decode cX9_get 10 = .ok (.ldc2_w 83, 3) := by decide +kernel
theorem dX9_get_13 : decode cX9_get 13 = .ok (.invokestatic 69, 3) := by decide +kernel
theorem dX9_get_16 : decode cX9_get 16 = .ok (.ifCond .eq 13, 3) := by decide +kernel
theorem dX9_get_19 : decode cX9_get 19 = .ok (.aload_n 0, 1) := by decide +kernel
theorem dX9_get_20 : decode cX9_get 20 = .ok (.iload_n 1, 1) := by decide +kernel
theorem dX9_get_21 : decode cX9_get 21 = .ok (.iload_n 2, 1) := by decide +kernel
theorem dX9_get_22 : decode cX9_get 22 = .ok (.iload_n 3, 1) := by decide +kernel
theorem dX9_get_23 : decode cX9_get 23 = .ok (.invokevirtual 89, 3) := by decide +kernel
theorem dX9_get_26 : decode cX9_get 26 = .ok (.ifCond .eq 6, 3) := by decide +kernel
theorem dX9_get_29 : decode cX9_get 29 = .ok (.ldc 97, 2) := by decide +kernel
theorem dX9_get_31 : decode cX9_get 31 = .ok (.ireturn, 1) := by decide +kernel
theorem dX9_get_32 : decode cX9_get 32 = .ok (.aload_n 0, 1) := by decide +kernel
theorem dX9_get_33 : decode cX9_get 33 = .ok (.getfield 16, 3) := by decide +kernel
theorem dX9_get_36 : decode cX9_get 36 = .ok (.bipush 60, 2) := by decide +kernel
theorem dX9_get_38 : decode cX9_get 38 = .ok (.iload_n 1, 1) := by decide +kernel
theorem dX9_get_39 : decode cX9_get 39 = .ok (.imul, 1) := by decide +kernel
theorem dX9_get_40 : decode cX9_get 40 = .ok (.iload_n 3, 1) := by decide +kernel
theorem dX9_get_41 : decode cX9_get 41 = .ok (.iadd, 1) := by decide +kernel
theorem dX9_get_42 : decode cX9_get 42 = .ok (.iaload, 1) := by decide +kernel
theorem dX9_get_43 : decode cX9_get 43 = .ok (.ireturn, 1) := by decide +kernel
theorem dX9_copy_0 : decode cX9_copy 0 = .ok (.iload_n 1, 1) := by decide +kernel
theorem dX9_copy_1 : decode cX9_copy 1 = .ok (.invokestatic 79, 3) := by decide +kernel
theorem dX9_copy_4 : decode cX9_copy 4 = .ok (.ifCond .eq 10, 3) := by decide +kernel
theorem dX9_copy_7 : decode cX9_copy 7 = .ok (.iload_n 3, 1) := by decide +kernel
theorem dX9_copy_8 : decode cX9_copy 8 = .ok (.invokestatic 79, 3) := by decide +kernel
theorem dX9_copy_11 : decode cX9_copy 11 = .ok (.ifCond .ne 6, 3) := by decide +kernel
theorem dX9_copy_14 : decode cX9_copy 14 = .ok (.bipush (-2), 2) := by decide +kernel
theorem dX9_copy_16 : decode cX9_copy 16 = .ok (.ireturn, 1) := by decide +kernel
theorem dX9_copy_17 : decode cX9_copy 17 = .ok (.aload_n 0, 1) := by decide +kernel
theorem dX9_copy_18 : decode cX9_copy 18 = .ok (.getfield 7, 3) := by decide +kernel
theorem dX9_copy_21 : decode cX9_copy 21 = .ok (.iload_n 1, 1) := by decide +kernel
theorem dX9_copy_22 : decode cX9_copy 22 = .ok (.iaload, 1) := by decide +kernel
theorem dX9_copy_23 : decode cX9_copy 23 = .ok (.ifCond .lt 12, 3) := by decide +kernel
theorem dX9_copy_26 : decode cX9_copy 26 = .ok (.aload_n 0, 1) := by decide +kernel
theorem dX9_copy_27 : decode cX9_copy 27 = .ok (.getfield 7, 3) := by decide +kernel
theorem dX9_copy_30 : decode cX9_copy 30 = .ok (.iload_n 3, 1) := by decide +kernel
theorem dX9_copy_31 : decode cX9_copy 31 = .ok (.iaload, 1) := by decide +kernel
theorem dX9_copy_32 : decode cX9_copy 32 = .ok (.ifCond .ge 9, 3) := by decide +kernel
theorem dX9_copy_35 : decode cX9_copy 35 = .ok (.aload_n 0, 1) := by decide +kernel
theorem dX9_copy_36 : decode cX9_copy 36 = .ok (.iconst 1, 1) := by decide +kernel
theorem dX9_copy_37 : decode cX9_copy 37 = .ok (.invokevirtual 85, 3) := by decide +kernel
theorem dX9_copy_40 : decode cX9_copy 40 = .ok (.ireturn, 1) := by decide +kernel
theorem dX9_copy_41 : decode cX9_copy 41 = .ok (.aload_n 0, 1) := by decide +kernel
theorem dX9_copy_42 : decode cX9_copy 42 = .ok (.getfield 7, 3) := by decide +kernel
theorem dX9_copy_45 : decode cX9_copy 45 = .ok (.iload_n 1, 1) := by decide +kernel
theorem dX9_copy_46 : decode cX9_copy 46 = .ok (.iaload, 1) := by decide +kernel
theorem dX9_copy_47 : decode cX9_copy 47 = .ok (.aload_n 0, 1) := by decide +kernel
theorem dX9_copy_48 : decode cX9_copy 48 = .ok (.getfield 7, 3) := by decide +kernel
theorem dX9_copy_51 : decode cX9_copy 51 = .ok (.iload_n 3, 1) := by decide +kernel
theorem dX9_copy_52 : decode cX9_copy 52 = .ok (.iaload, 1) := by decide +kernel
theorem dX9_copy_53 : decode cX9_copy 53 = .ok (.if_icmp .eq 9, 3) := by decide +kernel
theorem dX9_copy_56 : decode cX9_copy 56 = .ok (.aload_n 0, 1) := by decide +kernel
theorem dX9_copy_57 : decode cX9_copy 57 = .ok (.iconst 4, 1) := by decide +kernel
theorem dX9_copy_58 : decode cX9_copy 58 = .ok (.invokevirtual 85, 3) := by decide +kernel
theorem dX9_copy_61 : decode cX9_copy 61 = .ok (.ireturn, 1) := by decide +kernel
theorem dX9_copy_62 : decode cX9_copy 62 = .ok (.iload_n 2, 1) := by decide +kernel
theorem dX9_copy_63 : decode cX9_copy 63 = .ok (.ifCond .lt 48, 3) := by decide +kernel
theorem dX9_copy_66 : decode cX9_copy 66 = .ok (.iload 4, 2) := by decide +kernel
theorem dX9_copy_68 : decode cX9_copy 68 = .ok (.ifCond .lt 43, 3) := by decide +kernel
theorem dX9_copy_71 : decode cX9_copy 71 = .ok (.iload 5, 2) := by decide +kernel
theorem dX9_copy_73 : decode cX9_copy 73 = .ok (.ifCond .lt 38, 3) := by decide +kernel
theorem dX9_copy_76 : decode cX9_copy 76 = .ok (.iload_n 2, 1) := by decide +kernel
theorem dX9_copy_77 : decode cX9_copy 77 = .ok (.i2l, 1) := by decide +kernel
theorem dX9_copy_78 : decode cX9_copy 78 = .ok (.iload 5, 2) := by decide +kernel
theorem dX9_copy_80 : decode cX9_copy 80 = .ok (.i2l, 1) := by decide +kernel
theorem dX9_copy_81 : decode cX9_copy 81 = .ok (.ladd, 1) := by decide +kernel
theorem dX9_copy_82 : decode cX9_copy 82 = .ok (.aload_n 0, 1) := by decide +kernel
theorem dX9_copy_83 : decode cX9_copy 83 = .ok (.getfield 13, 3) := by decide +kernel
theorem dX9_copy_86 : decode cX9_copy 86 = .ok (.iload_n 1, 1) := by decide +kernel
theorem dX9_copy_87 : decode cX9_copy 87 = .ok (.iaload, 1) := by decide +kernel
theorem dX9_copy_88 : decode cX9_copy 88 = .ok (.i2l, 1) := by decide +kernel
theorem dX9_copy_89 : decode cX9_copy 89 = .ok (.lcmp, 1) := by decide +kernel
theorem dX9_copy_90 : decode cX9_copy 90 = .ok (.ifCond .gt 21, 3) := by decide +kernel
theorem dX9_copy_93 : decode cX9_copy 93 = .ok (.iload 4, 2) := by decide +kernel
theorem dX9_copy_95 : decode cX9_copy 95 = .ok (.i2l, 1) := by decide +kernel
theorem dX9_copy_96 : decode cX9_copy 96 = .ok (.iload 5, 2) := by decide +kernel
theorem dX9_copy_98 : decode cX9_copy 98 = .ok (.i2l, 1) := by decide +kernel
theorem dX9_copy_99 : decode cX9_copy 99 = .ok (.ladd, 1) := by decide +kernel
theorem dX9_copy_100 : decode cX9_copy 100 = .ok (.aload_n 0, 1) := by decide +kernel
theorem dX9_copy_101 : decode cX9_copy 101 = .ok (.getfield 13, 3) := by decide +kernel
theorem dX9_copy_104 : decode cX9_copy 104 = .ok (.iload_n 3, 1) := by decide +kernel
theorem dX9_copy_105 : decode cX9_copy 105 = .ok (.iaload, 1) := by decide +kernel
theorem dX9_copy_106 : decode cX9_copy 106 = .ok (.i2l, 1) := by decide +kernel
theorem dX9_copy_107 : decode cX9_copy 107 = .ok (.lcmp, 1) := by decide +kernel
theorem dX9_copy_108 : decode cX9_copy 108 = .ok (.ifCond .le 9, 3) := by decide +kernel
theorem dX9_copy_111 : decode cX9_copy 111 = .ok (.aload_n 0, 1) := by decide +kernel
theorem dX9_copy_112 : decode cX9_copy 112 = .ok (.iconst 2, 1) := by decide +kernel
theorem dX9_copy_113 : decode cX9_copy 113 = .ok (.invokevirtual 85, 3) := by decide +kernel
theorem dX9_copy_116 : decode cX9_copy 116 = .ok (.ireturn, 1) := by decide +kernel
theorem dX9_copy_117 : decode cX9_copy 117 = .ok (.iconst 0, 1) := by decide +kernel
theorem dX9_copy_118 : decode cX9_copy 118 = .ok (.istore 6, 2) := by decide +kernel
theorem dX9_copy_120 : decode cX9_copy 120 = .ok (.iload 6, 2) := by decide +kernel
theorem dX9_copy_122 : decode cX9_copy 122 = .ok (.iload 5, 2) := by decide +kernel
theorem dX9_copy_124 : decode cX9_copy 124 = .ok (.if_icmp .ge 30, 3) := by decide +kernel
theorem dX9_copy_127 : decode cX9_copy 127 = .ok (.aload_n 0, 1) := by decide +kernel
theorem dX9_copy_128 : decode cX9_copy 128 = .ok (.getfield 19, 3) := by decide +kernel
theorem dX9_copy_131 : decode cX9_copy 131 = .ok (.iload 6, 2) := by decide +kernel
theorem dX9_copy_133 : decode cX9_copy 133 = .ok (.aload_n 0, 1) := by decide +kernel
theorem dX9_copy_134 : decode cX9_copy 134 = .ok (.getfield 16, 3) := by decide +kernel
theorem dX9_copy_137 : decode cX9_copy 137 = .ok (.bipush 60, 2) := by decide +kernel
theorem dX9_copy_139 : decode cX9_copy 139 = .ok (.iload_n 1, 1) := by decide +kernel
theorem dX9_copy_140 : decode cX9_copy 140 = .ok (.imul, 1) := by decide +kernel
theorem dX9_copy_141 : decode cX9_copy 141 = .ok (.iload_n 2, 1) := by decide +kernel
theorem dX9_copy_142 : decode cX9_copy 142 = .ok (.iadd, 1) := by decide +kernel
theorem dX9_copy_143 : decode cX9_copy 143 = .ok (.iload 6, 2) := by decide +kernel
theorem dX9_copy_145 : decode cX9_copy 145 = .ok (.iadd, 1) := by decide +kernel
theorem dX9_copy_146 : decode cX9_copy 146 = .ok (.iaload, 1) := by decide +kernel
theorem dX9_copy_147 : decode cX9_copy 147 = .ok (.iastore, 1) := by decide +kernel
theorem dX9_copy_148 : decode cX9_copy 148 = .ok (.iinc 6 1, 3) := by decide +kernel
theorem dX9_copy_151 : decode cX9_copy 151 = .ok (.goto (-31), 3) := by decide +kernel
theorem dX9_copy_154 : decode cX9_copy 154 = .ok (.iconst 0, 1) := by decide +kernel
theorem dX9_copy_155 : decode cX9_copy 155 = .ok (.istore 6, 2) := by decide +kernel
theorem dX9_copy_157 : decode cX9_copy 157 = .ok (.iload 6, 2) := by decide +kernel
theorem dX9_copy_159 : decode cX9_copy 159 = .ok (.iload 5, 2) := by decide +kernel
theorem dX9_copy_161 : decode cX9_copy 161 = .ok (.if_icmp .ge 31, 3) := by decide +kernel
theorem dX9_copy_164 : decode cX9_copy 164 = .ok (.aload_n 0, 1) := by decide +kernel
theorem dX9_copy_165 : decode cX9_copy 165 = .ok (.getfield 16, 3) := by decide +kernel
theorem dX9_copy_168 : decode cX9_copy 168 = .ok (.bipush 60, 2) := by decide +kernel
theorem dX9_copy_170 : decode cX9_copy 170 = .ok (.iload_n 3, 1) := by decide +kernel
theorem dX9_copy_171 : decode cX9_copy 171 = .ok (.imul, 1) := by decide +kernel
theorem dX9_copy_172 : decode cX9_copy 172 = .ok (.iload 4, 2) := by decide +kernel
theorem dX9_copy_174 : decode cX9_copy 174 = .ok (.iadd, 1) := by decide +kernel
theorem dX9_copy_175 : decode cX9_copy 175 = .ok (.iload 6, 2) := by decide +kernel
theorem dX9_copy_177 : decode cX9_copy 177 = .ok (.iadd, 1) := by decide +kernel
theorem dX9_copy_178 : decode cX9_copy 178 = .ok (.aload_n 0, 1) := by decide +kernel
theorem dX9_copy_179 : decode cX9_copy 179 = .ok (.getfield 19, 3) := by decide +kernel
theorem dX9_copy_182 : decode cX9_copy 182 = .ok (.iload 6, 2) := by decide +kernel
theorem dX9_copy_184 : decode cX9_copy 184 = .ok (.iaload, 1) := by decide +kernel
theorem dX9_copy_185 : decode cX9_copy 185 = .ok (.iastore, 1) := by decide +kernel
theorem dX9_copy_186 : decode cX9_copy 186 = .ok (.iinc 6 1, 3) := by decide +kernel
theorem dX9_copy_189 : decode cX9_copy 189 = .ok (.goto (-32), 3) := by decide +kernel
theorem dX9_copy_192 : decode cX9_copy 192 = .ok (.iconst 1, 1) := by decide +kernel
theorem dX9_copy_193 : decode cX9_copy 193 = .ok (.ireturn, 1) := by decide +kernel
theorem dX9_isText_0 : decode cX9_isText 0 = .ok (.iload_n 0, 1) := by decide +kernel
theorem dX9_isText_1 : decode cX9_isText 1 = .ok (.i2l, 1) := by decide +kernel
theorem dX9_isText_2 : decode cX9_isText 2 = .ok (.lconst 0, 1) := by decide +kernel
theorem dX9_isText_3 : decode cX9_isText 3 = .ok (.ldc2_w 83, 3) := by decide +kernel
theorem dX9_isText_6 : decode cX9_isText 6 = .ok (.invokestatic 69, 3) := by decide +kernel
theorem dX9_isText_9 : decode cX9_isText 9 = .ok (.ireturn, 1) := by decide +kernel
theorem dX9_type_0 : decode cX9_type 0 = .ok (.iload_n 1, 1) := by decide +kernel
theorem dX9_type_1 : decode cX9_type 1 = .ok (.invokestatic 98, 3) := by decide +kernel
theorem dX9_type_4 : decode cX9_type 4 = .ok (.ifCond .eq 15, 3) := by decide +kernel
theorem dX9_type_7 : decode cX9_type 7 = .ok (.iload_n 2, 1) := by decide +kernel
theorem dX9_type_8 : decode cX9_type 8 = .ok (.i2l, 1) := by decide +kernel
theorem dX9_type_9 : decode cX9_type 9 = .ok (.lconst 0, 1) := by decide +kernel
theorem dX9_type_10 : decode cX9_type 10 = .ok (.ldc2_w 101, 3) := by decide +kernel
theorem dX9_type_13 : decode cX9_type 13 = .ok (.invokestatic 69, 3) := by decide +kernel
theorem dX9_type_16 : decode cX9_type 16 = .ok (.ifCond .ne 6, 3) := by decide +kernel
theorem dX9_type_19 : decode cX9_type 19 = .ok (.bipush (-2), 2) := by decide +kernel
theorem dX9_type_21 : decode cX9_type 21 = .ok (.ireturn, 1) := by decide +kernel
theorem dX9_type_22 : decode cX9_type 22 = .ok (.aload_n 0, 1) := by decide +kernel
theorem dX9_type_23 : decode cX9_type 23 = .ok (.getfield 25, 3) := by decide +kernel
theorem dX9_type_26 : decode cX9_type 26 = .ok (.iload_n 1, 1) := by decide +kernel
theorem dX9_type_27 : decode cX9_type 27 = .ok (.iaload, 1) := by decide +kernel
theorem dX9_type_28 : decode cX9_type 28 = .ok (.iload_n 1, 1) := by decide +kernel
theorem dX9_type_29 : decode cX9_type 29 = .ok (.ifCond .ne 8, 3) := by decide +kernel
theorem dX9_type_32 : decode cX9_type 32 = .ok (.bipush 19, 2) := by decide +kernel
theorem dX9_type_34 : decode cX9_type 34 = .ok (.goto 15, 3) := by decide +kernel
theorem dX9_type_37 : decode cX9_type 37 = .ok (.iload_n 1, 1) := by decide +kernel
theorem dX9_type_38 : decode cX9_type 38 = .ok (.iconst 1, 1) := by decide +kernel
theorem dX9_type_39 : decode cX9_type 39 = .ok (.if_icmp .ne 8, 3) := by decide +kernel
theorem dX9_type_42 : decode cX9_type 42 = .ok (.bipush 39, 2) := by decide +kernel
theorem dX9_type_44 : decode cX9_type 44 = .ok (.goto 5, 3) := by decide +kernel
theorem dX9_type_47 : decode cX9_type 47 = .ok (.bipush 24, 2) := by decide +kernel
theorem dX9_type_49 : decode cX9_type 49 = .ok (.if_icmp .ne 6, 3) := by decide +kernel
theorem dX9_type_52 : decode cX9_type 52 = .ok (.bipush (-4), 2) := by decide +kernel
theorem dX9_type_54 : decode cX9_type 54 = .ok (.ireturn, 1) := by decide +kernel
theorem dX9_type_55 : decode cX9_type 55 = .ok (.aload_n 0, 1) := by decide +kernel
theorem dX9_type_56 : decode cX9_type 56 = .ok (.getfield 22, 3) := by decide +kernel
theorem dX9_type_59 : decode cX9_type 59 = .ok (.bipush 40, 2) := by decide +kernel
theorem dX9_type_61 : decode cX9_type 61 = .ok (.iload_n 1, 1) := by decide +kernel
theorem dX9_type_62 : decode cX9_type 62 = .ok (.imul, 1) := by decide +kernel
theorem dX9_type_63 : decode cX9_type 63 = .ok (.aload_n 0, 1) := by decide +kernel
theorem dX9_type_64 : decode cX9_type 64 = .ok (.getfield 25, 3) := by decide +kernel
theorem dX9_type_67 : decode cX9_type 67 = .ok (.iload_n 1, 1) := by decide +kernel
theorem dX9_type_68 : decode cX9_type 68 = .ok (.iaload, 1) := by decide +kernel
theorem dX9_type_69 : decode cX9_type 69 = .ok (.iadd, 1) := by decide +kernel
theorem dX9_type_70 : decode cX9_type 70 = .ok (.iload_n 2, 1) := by decide +kernel
theorem dX9_type_71 : decode cX9_type 71 = .ok (.iastore, 1) := by decide +kernel
theorem dX9_type_72 : decode cX9_type 72 = .ok (.aload_n 0, 1) := by decide +kernel
theorem dX9_type_73 : decode cX9_type 73 = .ok (.getfield 25, 3) := by decide +kernel
theorem dX9_type_76 : decode cX9_type 76 = .ok (.iload_n 1, 1) := by decide +kernel
theorem dX9_type_77 : decode cX9_type 77 = .ok (.dup2, 1) := by decide +kernel
theorem dX9_type_78 : decode cX9_type 78 = .ok (.iaload, 1) := by decide +kernel
theorem dX9_type_79 : decode cX9_type 79 = .ok (.iconst 1, 1) := by decide +kernel
theorem dX9_type_80 : decode cX9_type 80 = .ok (.iadd, 1) := by decide +kernel
theorem dX9_type_81 : decode cX9_type 81 = .ok (.iastore, 1) := by decide +kernel
theorem dX9_type_82 : decode cX9_type 82 = .ok (.aload_n 0, 1) := by decide +kernel
theorem dX9_type_83 : decode cX9_type 83 = .ok (.getfield 25, 3) := by decide +kernel
theorem dX9_type_86 : decode cX9_type 86 = .ok (.iload_n 1, 1) := by decide +kernel
theorem dX9_type_87 : decode cX9_type 87 = .ok (.iaload, 1) := by decide +kernel
theorem dX9_type_88 : decode cX9_type 88 = .ok (.ireturn, 1) := by decide +kernel
theorem dX9_wipe_0 : decode cX9_wipe 0 = .ok (.iload_n 1, 1) := by decide +kernel
theorem dX9_wipe_1 : decode cX9_wipe 1 = .ok (.invokestatic 98, 3) := by decide +kernel
theorem dX9_wipe_4 : decode cX9_wipe 4 = .ok (.ifCond .ne 6, 3) := by decide +kernel
theorem dX9_wipe_7 : decode cX9_wipe 7 = .ok (.bipush (-2), 2) := by decide +kernel
theorem dX9_wipe_9 : decode cX9_wipe 9 = .ok (.ireturn, 1) := by decide +kernel
theorem dX9_wipe_10 : decode cX9_wipe 10 = .ok (.aload_n 0, 1) := by decide +kernel
theorem dX9_wipe_11 : decode cX9_wipe 11 = .ok (.getfield 25, 3) := by decide +kernel
theorem dX9_wipe_14 : decode cX9_wipe 14 = .ok (.iload_n 1, 1) := by decide +kernel
theorem dX9_wipe_15 : decode cX9_wipe 15 = .ok (.iaload, 1) := by decide +kernel
theorem dX9_wipe_16 : decode cX9_wipe 16 = .ok (.istore_n 2, 1) := by decide +kernel
theorem dX9_wipe_17 : decode cX9_wipe 17 = .ok (.aload_n 0, 1) := by decide +kernel
theorem dX9_wipe_18 : decode cX9_wipe 18 = .ok (.getfield 25, 3) := by decide +kernel
theorem dX9_wipe_21 : decode cX9_wipe 21 = .ok (.iload_n 1, 1) := by decide +kernel
theorem dX9_wipe_22 : decode cX9_wipe 22 = .ok (.iconst 0, 1) := by decide +kernel
theorem dX9_wipe_23 : decode cX9_wipe 23 = .ok (.iastore, 1) := by decide +kernel
theorem dX9_wipe_24 : decode cX9_wipe 24 = .ok (.iload_n 2, 1) := by decide +kernel
theorem dX9_wipe_25 : decode cX9_wipe 25 = .ok (.ireturn, 1) := by decide +kernel
theorem dX9_undo_0 : decode cX9_undo 0 = .ok (.iload_n 1, 1) := by decide +kernel
theorem dX9_undo_1 : decode cX9_undo 1 = .ok (.invokestatic 98, 3) := by decide +kernel
theorem dX9_undo_4 : decode cX9_undo 4 = .ok (.ifCond .ne 6, 3) := by decide +kernel
theorem dX9_undo_7 : decode cX9_undo 7 = .ok (.bipush (-2), 2) := by decide +kernel
theorem dX9_undo_9 : decode cX9_undo 9 = .ok (.ireturn, 1) := by decide +kernel
theorem dX9_undo_10 : decode cX9_undo 10 = .ok (.aload_n 0, 1) := by decide +kernel
theorem dX9_undo_11 : decode cX9_undo 11 = .ok (.getfield 25, 3) := by decide +kernel
theorem dX9_undo_14 : decode cX9_undo 14 = .ok (.iload_n 1, 1) := by decide +kernel
theorem dX9_undo_15 : decode cX9_undo 15 = .ok (.iaload, 1) := by decide +kernel
theorem dX9_undo_16 : decode cX9_undo 16 = .ok (.ifCond .ne 6, 3) := by decide +kernel
theorem dX9_undo_19 : decode cX9_undo 19 = .ok (.bipush (-3), 2) := by decide +kernel
theorem dX9_undo_21 : decode cX9_undo 21 = .ok (.ireturn, 1) := by decide +kernel
theorem dX9_undo_22 : decode cX9_undo 22 = .ok (.aload_n 0, 1) := by decide +kernel
theorem dX9_undo_23 : decode cX9_undo 23 = .ok (.getfield 25, 3) := by decide +kernel
theorem dX9_undo_26 : decode cX9_undo 26 = .ok (.iload_n 1, 1) := by decide +kernel
theorem dX9_undo_27 : decode cX9_undo 27 = .ok (.dup2, 1) := by decide +kernel
theorem dX9_undo_28 : decode cX9_undo 28 = .ok (.iaload, 1) := by decide +kernel
theorem dX9_undo_29 : decode cX9_undo 29 = .ok (.iconst 1, 1) := by decide +kernel
theorem dX9_undo_30 : decode cX9_undo 30 = .ok (.isub, 1) := by decide +kernel
theorem dX9_undo_31 : decode cX9_undo 31 = .ok (.iastore, 1) := by decide +kernel
theorem dX9_undo_32 : decode cX9_undo 32 = .ok (.aload_n 0, 1) := by decide +kernel
theorem dX9_undo_33 : decode cX9_undo 33 = .ok (.getfield 25, 3) := by decide +kernel
theorem dX9_undo_36 : decode cX9_undo 36 = .ok (.iload_n 1, 1) := by decide +kernel
theorem dX9_undo_37 : decode cX9_undo 37 = .ok (.iaload, 1) := by decide +kernel
theorem dX9_undo_38 : decode cX9_undo 38 = .ok (.ireturn, 1) := by decide +kernel
theorem dX9_readsPlanks_0 : decode cX9_readsPlanks 0 = .ok (.aload_n 0, 1) := by decide +kernel
theorem dX9_readsPlanks_1 : decode cX9_readsPlanks 1 = .ok (.iconst 0, 1) := by decide +kernel
theorem dX9_readsPlanks_2 : decode cX9_readsPlanks 2 = .ok (.putfield 103, 3) := by decide +kernel
theorem dX9_readsPlanks_5 : decode cX9_readsPlanks 5 = .ok (.iconst 0, 1) := by decide +kernel
theorem dX9_readsPlanks_6 : decode cX9_readsPlanks 6 = .ok (.istore_n 1, 1) := by decide +kernel
theorem dX9_readsPlanks_7 : decode cX9_readsPlanks 7 = .ok (.iload_n 1, 1) := by decide +kernel
theorem dX9_readsPlanks_8 : decode cX9_readsPlanks 8 = .ok (.aload_n 0, 1) := by decide +kernel
theorem dX9_readsPlanks_9 : decode cX9_readsPlanks 9 = .ok (.getfield 25, 3) := by decide +kernel
theorem dX9_readsPlanks_12 : decode cX9_readsPlanks 12 = .ok (.iconst 0, 1) := by decide +kernel
theorem dX9_readsPlanks_13 : decode cX9_readsPlanks 13 = .ok (.iaload, 1) := by decide +kernel
theorem dX9_readsPlanks_14 : decode cX9_readsPlanks 14 = .ok (.if_icmp .ge 62, 3) := by decide +kernel
theorem dX9_readsPlanks_17 : decode cX9_readsPlanks 17 = .ok (.aload_n 0, 1) := by decide +kernel
theorem dX9_readsPlanks_18 : decode cX9_readsPlanks 18 = .ok (.getfield 22, 3) := by decide +kernel
theorem dX9_readsPlanks_21 : decode cX9_readsPlanks 21 = .ok (.iload_n 1, 1) := by decide +kernel
theorem dX9_readsPlanks_22 : decode cX9_readsPlanks 22 = .ok (.iaload, 1) := by decide +kernel
theorem dX9_readsPlanks_23 : decode cX9_readsPlanks 23 = .ok (.istore_n 2, 1) := by decide +kernel
theorem dX9_readsPlanks_24 : decode cX9_readsPlanks 24 = .ok (.iload_n 2, 1) := by decide +kernel
theorem dX9_readsPlanks_25 : decode cX9_readsPlanks 25 = .ok (.bipush 46, 2) := by decide +kernel
theorem dX9_readsPlanks_27 : decode cX9_readsPlanks 27 = .ok (.if_icmp .eq 16, 3) := by decide +kernel
theorem dX9_readsPlanks_30 : decode cX9_readsPlanks 30 = .ok (.iload_n 2, 1) := by decide +kernel
theorem dX9_readsPlanks_31 : decode cX9_readsPlanks 31 = .ok (.bipush 114, 2) := by decide +kernel
theorem dX9_readsPlanks_33 : decode cX9_readsPlanks 33 = .ok (.if_icmp .eq 10, 3) := by decide +kernel
theorem dX9_readsPlanks_36 : decode cX9_readsPlanks 36 = .ok (.aload_n 0, 1) := by decide +kernel
theorem dX9_readsPlanks_37 : decode cX9_readsPlanks 37 = .ok (.iconst 0, 1) := by decide +kernel
theorem dX9_readsPlanks_38 : decode cX9_readsPlanks 38 = .ok (.putfield 103, 3) := by decide +kernel
theorem dX9_readsPlanks_41 : decode cX9_readsPlanks 41 = .ok (.iload_n 1, 1) := by decide +kernel
theorem dX9_readsPlanks_42 : decode cX9_readsPlanks 42 = .ok (.ireturn, 1) := by decide +kernel
theorem dX9_readsPlanks_43 : decode cX9_readsPlanks 43 = .ok (.aload_n 0, 1) := by decide +kernel
theorem dX9_readsPlanks_44 : decode cX9_readsPlanks 44 = .ok (.getfield 28, 3) := by decide +kernel
theorem dX9_readsPlanks_47 : decode cX9_readsPlanks 47 = .ok (.iload_n 1, 1) := by decide +kernel
theorem dX9_readsPlanks_48 : decode cX9_readsPlanks 48 = .ok (.iload_n 2, 1) := by decide +kernel
theorem dX9_readsPlanks_49 : decode cX9_readsPlanks 49 = .ok (.bipush 114, 2) := by decide +kernel
theorem dX9_readsPlanks_51 : decode cX9_readsPlanks 51 = .ok (.if_icmp .ne 7, 3) := by decide +kernel
theorem dX9_readsPlanks_54 : decode cX9_readsPlanks 54 = .ok (.iconst 1, 1) := by decide +kernel
theorem dX9_readsPlanks_55 : decode cX9_readsPlanks 55 = .ok (.goto 4, 3) := by decide +kernel
theorem dX9_readsPlanks_58 : decode cX9_readsPlanks 58 = .ok (.iconst 0, 1) := by decide +kernel
theorem dX9_readsPlanks_59 : decode cX9_readsPlanks 59 = .ok (.iastore, 1) := by decide +kernel
theorem dX9_readsPlanks_60 : decode cX9_readsPlanks 60 = .ok (.aload_n 0, 1) := by decide +kernel
theorem dX9_readsPlanks_61 : decode cX9_readsPlanks 61 = .ok (.dup, 1) := by decide +kernel
theorem dX9_readsPlanks_62 : decode cX9_readsPlanks 62 = .ok (.getfield 103, 3) := by decide +kernel
theorem dX9_readsPlanks_65 : decode cX9_readsPlanks 65 = .ok (.iconst 1, 1) := by decide +kernel
theorem dX9_readsPlanks_66 : decode cX9_readsPlanks 66 = .ok (.iadd, 1) := by decide +kernel
theorem dX9_readsPlanks_67 : decode cX9_readsPlanks 67 = .ok (.putfield 103, 3) := by decide +kernel
theorem dX9_readsPlanks_70 : decode cX9_readsPlanks 70 = .ok (.iinc 1 1, 3) := by decide +kernel
theorem dX9_readsPlanks_73 : decode cX9_readsPlanks 73 = .ok (.goto (-66), 3) := by decide +kernel
theorem dX9_readsPlanks_76 : decode cX9_readsPlanks 76 = .ok (.iconst (-1), 1) := by decide +kernel
theorem dX9_readsPlanks_77 : decode cX9_readsPlanks 77 = .ok (.ireturn, 1) := by decide +kernel
theorem dX9_kindOf_0 : decode cX9_kindOf 0 = .ok (.iload_n 0, 1) := by decide +kernel
theorem dX9_kindOf_1 : decode cX9_kindOf 1 = .ok (.bipush 112, 2) := by decide +kernel
theorem dX9_kindOf_3 : decode cX9_kindOf 3 = .ok (.if_icmp .ne 7, 3) := by decide +kernel
theorem dX9_kindOf_6 : decode cX9_kindOf 6 = .ok (.iconst 0, 1) := by decide +kernel
theorem dX9_kindOf_7 : decode cX9_kindOf 7 = .ok (.goto 45, 3) := by decide +kernel
theorem dX9_kindOf_10 : decode cX9_kindOf 10 = .ok (.iload_n 0, 1) := by decide +kernel
theorem dX9_kindOf_11 : decode cX9_kindOf 11 = .ok (.bipush 104, 2) := by decide +kernel
theorem dX9_kindOf_13 : decode cX9_kindOf 13 = .ok (.if_icmp .ne 7, 3) := by decide +kernel
theorem dX9_kindOf_16 : decode cX9_kindOf 16 = .ok (.iconst 1, 1) := by decide +kernel
theorem dX9_kindOf_17 : decode cX9_kindOf 17 = .ok (.goto 35, 3) := by decide +kernel
theorem dX9_kindOf_20 : decode cX9_kindOf 20 = .ok (.iload_n 0, 1) := by decide +kernel
theorem dX9_kindOf_21 : decode cX9_kindOf 21 = .ok (.bipush 99, 2) := by decide +kernel
theorem dX9_kindOf_23 : decode cX9_kindOf 23 = .ok (.if_icmp .ne 7, 3) := by decide +kernel
theorem dX9_kindOf_26 : decode cX9_kindOf 26 = .ok (.iconst 2, 1) := by decide +kernel
theorem dX9_kindOf_27 : decode cX9_kindOf 27 = .ok (.goto 25, 3) := by decide +kernel
theorem dX9_kindOf_30 : decode cX9_kindOf 30 = .ok (.iload_n 0, 1) := by decide +kernel
theorem dX9_kindOf_31 : decode cX9_kindOf 31 = .ok (.bipush 103, 2) := by decide +kernel
theorem dX9_kindOf_33 : decode cX9_kindOf 33 = .ok (.if_icmp .ne 7, 3) := by decide +kernel
theorem dX9_kindOf_36 : decode cX9_kindOf 36 = .ok (.iconst 3, 1) := by decide +kernel
theorem dX9_kindOf_37 : decode cX9_kindOf 37 = .ok (.goto 15, 3) := by decide +kernel
theorem dX9_kindOf_40 : decode cX9_kindOf 40 = .ok (.iload_n 0, 1) := by decide +kernel
theorem dX9_kindOf_41 : decode cX9_kindOf 41 = .ok (.bipush 98, 2) := by decide +kernel
theorem dX9_kindOf_43 : decode cX9_kindOf 43 = .ok (.if_icmp .ne 7, 3) := by decide +kernel
theorem dX9_kindOf_46 : decode cX9_kindOf 46 = .ok (.iconst 4, 1) := by decide +kernel
theorem dX9_kindOf_47 : decode cX9_kindOf 47 = .ok (.goto 5, 3) := by decide +kernel
theorem dX9_kindOf_50 : decode cX9_kindOf 50 = .ok (.bipush (-9), 2) := by decide +kernel
theorem dX9_kindOf_52 : decode cX9_kindOf 52 = .ok (.ireturn, 1) := by decide +kernel
theorem dX9_crosserOf_0 : decode cX9_crosserOf 0 = .ok (.iload_n 0, 1) := by decide +kernel
theorem dX9_crosserOf_1 : decode cX9_crosserOf 1 = .ok (.tableswitch 107 0 3 #[31, 36, 60, 83], 31) := by decide +kernel
theorem dX9_crosserOf_32 : decode cX9_crosserOf 32 = .ok (.iload_n 1, 1) := by decide +kernel
theorem dX9_crosserOf_33 : decode cX9_crosserOf 33 = .ok (.invokestatic 106, 3) := by decide +kernel
theorem dX9_crosserOf_36 : decode cX9_crosserOf 36 = .ok (.ireturn, 1) := by decide +kernel
theorem dX9_crosserOf_37 : decode cX9_crosserOf 37 = .ok (.iload_n 1, 1) := by decide +kernel
theorem dX9_crosserOf_38 : decode cX9_crosserOf 38 = .ok (.i2l, 1) := by decide +kernel
theorem dX9_crosserOf_39 : decode cX9_crosserOf 39 = .ok (.ldc2_w 109, 3) := by decide +kernel
theorem dX9_crosserOf_42 : decode cX9_crosserOf 42 = .ok (.ldc2_w 111, 3) := by decide +kernel
theorem dX9_crosserOf_45 : decode cX9_crosserOf 45 = .ok (.invokestatic 69, 3) := by decide +kernel
theorem dX9_crosserOf_48 : decode cX9_crosserOf 48 = .ok (.ifCond .eq 10, 3) := by decide +kernel
theorem dX9_crosserOf_51 : decode cX9_crosserOf 51 = .ok (.iload_n 1, 1) := by decide +kernel
theorem dX9_crosserOf_52 : decode cX9_crosserOf 52 = .ok (.bipush 48, 2) := by decide +kernel
theorem dX9_crosserOf_54 : decode cX9_crosserOf 54 = .ok (.isub, 1) := by decide +kernel
theorem dX9_crosserOf_55 : decode cX9_crosserOf 55 = .ok (.goto 5, 3) := by decide +kernel
theorem dX9_crosserOf_58 : decode cX9_crosserOf 58 = .ok (.bipush (-9), 2) := by decide +kernel
theorem dX9_crosserOf_60 : decode cX9_crosserOf 60 = .ok (.ireturn, 1) := by decide +kernel
theorem dX9_crosserOf_61 : decode cX9_crosserOf 61 = .ok (.iload_n 1, 1) := by decide +kernel
theorem dX9_crosserOf_62 : decode cX9_crosserOf 62 = .ok (.bipush 119, 2) := by decide +kernel
theorem dX9_crosserOf_64 : decode cX9_crosserOf 64 = .ok (.if_icmp .ne 7, 3) := by decide +kernel
theorem dX9_crosserOf_67 : decode cX9_crosserOf 67 = .ok (.iconst 0, 1) := by decide +kernel
theorem dX9_crosserOf_68 : decode cX9_crosserOf 68 = .ok (.goto 15, 3) := by decide +kernel
theorem dX9_crosserOf_71 : decode cX9_crosserOf 71 = .ok (.iload_n 1, 1) := by decide +kernel
theorem dX9_crosserOf_72 : decode cX9_crosserOf 72 = .ok (.bipush 101, 2) := by decide +kernel
theorem dX9_crosserOf_74 : decode cX9_crosserOf 74 = .ok (.if_icmp .ne 7, 3) := by decide +kernel
theorem dX9_crosserOf_77 : decode cX9_crosserOf 77 = .ok (.iconst 1, 1) := by decide +kernel
theorem dX9_crosserOf_78 : decode cX9_crosserOf 78 = .ok (.goto 5, 3) := by decide +kernel
theorem dX9_crosserOf_81 : decode cX9_crosserOf 81 = .ok (.bipush (-9), 2) := by decide +kernel
theorem dX9_crosserOf_83 : decode cX9_crosserOf 83 = .ok (.ireturn, 1) := by decide +kernel
theorem dX9_crosserOf_84 : decode cX9_crosserOf 84 = .ok (.iload_n 1, 1) := by decide +kernel
theorem dX9_crosserOf_85 : decode cX9_crosserOf 85 = .ok (.i2l, 1) := by decide +kernel
theorem dX9_crosserOf_86 : decode cX9_crosserOf 86 = .ok (.ldc2_w 113, 3) := by decide +kernel
theorem dX9_crosserOf_89 : decode cX9_crosserOf 89 = .ok (.ldc2_w 111, 3) := by decide +kernel
theorem dX9_crosserOf_92 : decode cX9_crosserOf 92 = .ok (.invokestatic 69, 3) := by decide +kernel
theorem dX9_crosserOf_95 : decode cX9_crosserOf 95 = .ok (.ifCond .eq 10, 3) := by decide +kernel
theorem dX9_crosserOf_98 : decode cX9_crosserOf 98 = .ok (.iload_n 1, 1) := by decide +kernel
theorem dX9_crosserOf_99 : decode cX9_crosserOf 99 = .ok (.bipush 48, 2) := by decide +kernel
theorem dX9_crosserOf_101 : decode cX9_crosserOf 101 = .ok (.isub, 1) := by decide +kernel
theorem dX9_crosserOf_102 : decode cX9_crosserOf 102 = .ok (.goto 5, 3) := by decide +kernel
theorem dX9_crosserOf_105 : decode cX9_crosserOf 105 = .ok (.bipush (-9), 2) := by decide +kernel
theorem dX9_crosserOf_107 : decode cX9_crosserOf 107 = .ok (.ireturn, 1) := by decide +kernel
theorem dX9_crosserOf_108 : decode cX9_crosserOf 108 = .ok (.iload_n 1, 1) := by decide +kernel
theorem dX9_crosserOf_109 : decode cX9_crosserOf 109 = .ok (.bipush 59, 2) := by decide +kernel
theorem dX9_crosserOf_111 : decode cX9_crosserOf 111 = .ok (.if_icmp .ne 7, 3) := by decide +kernel
theorem dX9_crosserOf_114 : decode cX9_crosserOf 114 = .ok (.iconst 0, 1) := by decide +kernel
theorem dX9_crosserOf_115 : decode cX9_crosserOf 115 = .ok (.goto 5, 3) := by decide +kernel
theorem dX9_crosserOf_118 : decode cX9_crosserOf 118 = .ok (.bipush (-9), 2) := by decide +kernel
theorem dX9_crosserOf_120 : decode cX9_crosserOf 120 = .ok (.ireturn, 1) := by decide +kernel
theorem dX9_readsCrossers_0 : decode cX9_readsCrossers 0 = .ok (.aload_n 0, 1) := by decide +kernel
theorem dX9_readsCrossers_1 : decode cX9_readsCrossers 1 = .ok (.iconst 0, 1) := by decide +kernel
theorem dX9_readsCrossers_2 : decode cX9_readsCrossers 2 = .ok (.putfield 115, 3) := by decide +kernel
theorem dX9_readsCrossers_5 : decode cX9_readsCrossers 5 = .ok (.aload_n 0, 1) := by decide +kernel
theorem dX9_readsCrossers_6 : decode cX9_readsCrossers 6 = .ok (.getfield 25, 3) := by decide +kernel
theorem dX9_readsCrossers_9 : decode cX9_readsCrossers 9 = .ok (.iconst 1, 1) := by decide +kernel
theorem dX9_readsCrossers_10 : decode cX9_readsCrossers 10 = .ok (.iaload, 1) := by decide +kernel
theorem dX9_readsCrossers_11 : decode cX9_readsCrossers 11 = .ok (.istore_n 1, 1) := by decide +kernel
theorem dX9_readsCrossers_12 : decode cX9_readsCrossers 12 = .ok (.iconst 0, 1) := by decide +kernel
theorem dX9_readsCrossers_13 : decode cX9_readsCrossers 13 = .ok (.istore_n 2, 1) := by decide +kernel
theorem dX9_readsCrossers_14 : decode cX9_readsCrossers 14 = .ok (.iload_n 2, 1) := by decide +kernel
theorem dX9_readsCrossers_15 : decode cX9_readsCrossers 15 = .ok (.iload_n 1, 1) := by decide +kernel
theorem dX9_readsCrossers_16 : decode cX9_readsCrossers 16 = .ok (.if_icmp .ge 80, 3) := by decide +kernel
theorem dX9_readsCrossers_19 : decode cX9_readsCrossers 19 = .ok (.iload_n 2, 1) := by decide +kernel
theorem dX9_readsCrossers_20 : decode cX9_readsCrossers 20 = .ok (.iconst 5, 1) := by decide +kernel
theorem dX9_readsCrossers_21 : decode cX9_readsCrossers 21 = .ok (.irem, 1) := by decide +kernel
theorem dX9_readsCrossers_22 : decode cX9_readsCrossers 22 = .ok (.istore_n 3, 1) := by decide +kernel
theorem dX9_readsCrossers_23 : decode cX9_readsCrossers 23 = .ok (.iload_n 3, 1) := by decide +kernel
theorem dX9_readsCrossers_24 : decode cX9_readsCrossers 24 = .ok (.aload_n 0, 1) := by decide +kernel
theorem dX9_readsCrossers_25 : decode cX9_readsCrossers 25 = .ok (.getfield 22, 3) := by decide +kernel
theorem dX9_readsCrossers_28 : decode cX9_readsCrossers 28 = .ok (.bipush 40, 2) := by decide +kernel
theorem dX9_readsCrossers_30 : decode cX9_readsCrossers 30 = .ok (.iload_n 2, 1) := by decide +kernel
theorem dX9_readsCrossers_31 : decode cX9_readsCrossers 31 = .ok (.iadd, 1) := by decide +kernel
theorem dX9_readsCrossers_32 : decode cX9_readsCrossers 32 = .ok (.iaload, 1) := by decide +kernel
theorem dX9_readsCrossers_33 : decode cX9_readsCrossers 33 = .ok (.invokestatic 118, 3) := by decide +kernel
theorem dX9_readsCrossers_36 : decode cX9_readsCrossers 36 = .ok (.istore 4, 2) := by decide +kernel
theorem dX9_readsCrossers_38 : decode cX9_readsCrossers 38 = .ok (.iload 4, 2) := by decide +kernel
theorem dX9_readsCrossers_40 : decode cX9_readsCrossers 40 = .ok (.bipush (-9), 2) := by decide +kernel
theorem dX9_readsCrossers_42 : decode cX9_readsCrossers 42 = .ok (.if_icmp .ne 10, 3) := by decide +kernel
theorem dX9_readsCrossers_45 : decode cX9_readsCrossers 45 = .ok (.aload_n 0, 1) := by decide +kernel
theorem dX9_readsCrossers_46 : decode cX9_readsCrossers 46 = .ok (.iconst 0, 1) := by decide +kernel
theorem dX9_readsCrossers_47 : decode cX9_readsCrossers 47 = .ok (.putfield 115, 3) := by decide +kernel
theorem dX9_readsCrossers_50 : decode cX9_readsCrossers 50 = .ok (.iload_n 2, 1) := by decide +kernel
theorem dX9_readsCrossers_51 : decode cX9_readsCrossers 51 = .ok (.ireturn, 1) := by decide +kernel
theorem dX9_readsCrossers_52 : decode cX9_readsCrossers 52 = .ok (.iload_n 3, 1) := by decide +kernel
theorem dX9_readsCrossers_53 : decode cX9_readsCrossers 53 = .ok (.iconst 4, 1) := by decide +kernel
theorem dX9_readsCrossers_54 : decode cX9_readsCrossers 54 = .ok (.if_icmp .ge 17, 3) := by decide +kernel
theorem dX9_readsCrossers_57 : decode cX9_readsCrossers 57 = .ok (.aload_n 0, 1) := by decide +kernel
theorem dX9_readsCrossers_58 : decode cX9_readsCrossers 58 = .ok (.getfield 31, 3) := by decide +kernel
theorem dX9_readsCrossers_61 : decode cX9_readsCrossers 61 = .ok (.iconst 4, 1) := by decide +kernel
theorem dX9_readsCrossers_62 : decode cX9_readsCrossers 62 = .ok (.iload_n 2, 1) := by decide +kernel
theorem dX9_readsCrossers_63 : decode cX9_readsCrossers 63 = .ok (.iconst 5, 1) := by decide +kernel
theorem dX9_readsCrossers_64 : decode cX9_readsCrossers 64 = .ok (.idiv, 1) := by decide +kernel
theorem dX9_readsCrossers_65 : decode cX9_readsCrossers 65 = .ok (.imul, 1) := by decide +kernel
theorem dX9_readsCrossers_66 : decode cX9_readsCrossers 66 = .ok (.iload_n 3, 1) := by decide +kernel
theorem dX9_readsCrossers_67 : decode cX9_readsCrossers 67 = .ok (.iadd, 1) := by decide +kernel
theorem dX9_readsCrossers_68 : decode cX9_readsCrossers 68 = .ok (.iload 4, 2) := by decide +kernel
theorem dX9_readsCrossers_70 : decode cX9_readsCrossers 70 = .ok (.iastore, 1) := by decide +kernel
theorem dX9_readsCrossers_71 : decode cX9_readsCrossers 71 = .ok (.aload_n 0, 1) := by decide +kernel
theorem dX9_readsCrossers_72 : decode cX9_readsCrossers 72 = .ok (.dup, 1) := by decide +kernel
theorem dX9_readsCrossers_73 : decode cX9_readsCrossers 73 = .ok (.getfield 115, 3) := by decide +kernel
theorem dX9_readsCrossers_76 : decode cX9_readsCrossers 76 = .ok (.iload_n 3, 1) := by decide +kernel
theorem dX9_readsCrossers_77 : decode cX9_readsCrossers 77 = .ok (.iconst 3, 1) := by decide +kernel
theorem dX9_readsCrossers_78 : decode cX9_readsCrossers 78 = .ok (.if_icmp .ne 7, 3) := by decide +kernel
theorem dX9_readsCrossers_81 : decode cX9_readsCrossers 81 = .ok (.iconst 1, 1) := by decide +kernel
theorem dX9_readsCrossers_82 : decode cX9_readsCrossers 82 = .ok (.goto 4, 3) := by decide +kernel
theorem dX9_readsCrossers_85 : decode cX9_readsCrossers 85 = .ok (.iconst 0, 1) := by decide +kernel
theorem dX9_readsCrossers_86 : decode cX9_readsCrossers 86 = .ok (.iadd, 1) := by decide +kernel
theorem dX9_readsCrossers_87 : decode cX9_readsCrossers 87 = .ok (.putfield 115, 3) := by decide +kernel
theorem dX9_readsCrossers_90 : decode cX9_readsCrossers 90 = .ok (.iinc 2 1, 3) := by decide +kernel
theorem dX9_readsCrossers_93 : decode cX9_readsCrossers 93 = .ok (.goto (-79), 3) := by decide +kernel
theorem dX9_readsCrossers_96 : decode cX9_readsCrossers 96 = .ok (.iload_n 1, 1) := by decide +kernel
theorem dX9_readsCrossers_97 : decode cX9_readsCrossers 97 = .ok (.ifCond .le 17, 3) := by decide +kernel
theorem dX9_readsCrossers_100 : decode cX9_readsCrossers 100 = .ok (.iload_n 1, 1) := by decide +kernel
theorem dX9_readsCrossers_101 : decode cX9_readsCrossers 101 = .ok (.iconst 5, 1) := by decide +kernel
theorem dX9_readsCrossers_102 : decode cX9_readsCrossers 102 = .ok (.irem, 1) := by decide +kernel
theorem dX9_readsCrossers_103 : decode cX9_readsCrossers 103 = .ok (.iconst 4, 1) := by decide +kernel
theorem dX9_readsCrossers_104 : decode cX9_readsCrossers 104 = .ok (.if_icmp .eq 10, 3) := by decide +kernel
theorem dX9_readsCrossers_107 : decode cX9_readsCrossers 107 = .ok (.aload_n 0, 1) := by decide +kernel
theorem dX9_readsCrossers_108 : decode cX9_readsCrossers 108 = .ok (.iconst 0, 1) := by decide +kernel
theorem dX9_readsCrossers_109 : decode cX9_readsCrossers 109 = .ok (.putfield 115, 3) := by decide +kernel
theorem dX9_readsCrossers_112 : decode cX9_readsCrossers 112 = .ok (.iload_n 1, 1) := by decide +kernel
theorem dX9_readsCrossers_113 : decode cX9_readsCrossers 113 = .ok (.ireturn, 1) := by decide +kernel
theorem dX9_readsCrossers_114 : decode cX9_readsCrossers 114 = .ok (.iconst (-1), 1) := by decide +kernel
theorem dX9_readsCrossers_115 : decode cX9_readsCrossers 115 = .ok (.ireturn, 1) := by decide +kernel
theorem dX9_readsCrossings_0 : decode cX9_readsCrossings 0 = .ok (.aload_n 0, 1) := by decide +kernel
theorem dX9_readsCrossings_1 : decode cX9_readsCrossings 1 = .ok (.iconst 0, 1) := by decide +kernel
theorem dX9_readsCrossings_2 : decode cX9_readsCrossings 2 = .ok (.putfield 121, 3) := by decide +kernel
theorem dX9_readsCrossings_5 : decode cX9_readsCrossings 5 = .ok (.iconst 0, 1) := by decide +kernel
theorem dX9_readsCrossings_6 : decode cX9_readsCrossings 6 = .ok (.istore_n 1, 1) := by decide +kernel
theorem dX9_readsCrossings_7 : decode cX9_readsCrossings 7 = .ok (.iload_n 1, 1) := by decide +kernel
theorem dX9_readsCrossings_8 : decode cX9_readsCrossings 8 = .ok (.aload_n 0, 1) := by decide +kernel
theorem dX9_readsCrossings_9 : decode cX9_readsCrossings 9 = .ok (.getfield 25, 3) := by decide +kernel
theorem dX9_readsCrossings_12 : decode cX9_readsCrossings 12 = .ok (.iconst 2, 1) := by decide +kernel
theorem dX9_readsCrossings_13 : decode cX9_readsCrossings 13 = .ok (.iaload, 1) := by decide +kernel
theorem dX9_readsCrossings_14 : decode cX9_readsCrossings 14 = .ok (.if_icmp .ge 60, 3) := by decide +kernel
theorem dX9_readsCrossings_17 : decode cX9_readsCrossings 17 = .ok (.aload_n 0, 1) := by decide +kernel
theorem dX9_readsCrossings_18 : decode cX9_readsCrossings 18 = .ok (.getfield 22, 3) := by decide +kernel
theorem dX9_readsCrossings_21 : decode cX9_readsCrossings 21 = .ok (.bipush 80, 2) := by decide +kernel
theorem dX9_readsCrossings_23 : decode cX9_readsCrossings 23 = .ok (.iload_n 1, 1) := by decide +kernel
theorem dX9_readsCrossings_24 : decode cX9_readsCrossings 24 = .ok (.iadd, 1) := by decide +kernel
theorem dX9_readsCrossings_25 : decode cX9_readsCrossings 25 = .ok (.iaload, 1) := by decide +kernel
theorem dX9_readsCrossings_26 : decode cX9_readsCrossings 26 = .ok (.istore_n 2, 1) := by decide +kernel
theorem dX9_readsCrossings_27 : decode cX9_readsCrossings 27 = .ok (.iload_n 2, 1) := by decide +kernel
theorem dX9_readsCrossings_28 : decode cX9_readsCrossings 28 = .ok (.i2l, 1) := by decide +kernel
theorem dX9_readsCrossings_29 : decode cX9_readsCrossings 29 = .ok (.ldc2_w 124, 3) := by decide +kernel
theorem dX9_readsCrossings_32 : decode cX9_readsCrossings 32 = .ok (.ldc2_w 126, 3) := by decide +kernel
theorem dX9_readsCrossings_35 : decode cX9_readsCrossings 35 = .ok (.invokestatic 69, 3) := by decide +kernel
theorem dX9_readsCrossings_38 : decode cX9_readsCrossings 38 = .ok (.ifCond .ne 10, 3) := by decide +kernel
theorem dX9_readsCrossings_41 : decode cX9_readsCrossings 41 = .ok (.aload_n 0, 1) := by decide +kernel
theorem dX9_readsCrossings_42 : decode cX9_readsCrossings 42 = .ok (.iconst 0, 1) := by decide +kernel
theorem dX9_readsCrossings_43 : decode cX9_readsCrossings 43 = .ok (.putfield 121, 3) := by decide +kernel
theorem dX9_readsCrossings_46 : decode cX9_readsCrossings 46 = .ok (.iload_n 1, 1) := by decide +kernel
theorem dX9_readsCrossings_47 : decode cX9_readsCrossings 47 = .ok (.ireturn, 1) := by decide +kernel
theorem dX9_readsCrossings_48 : decode cX9_readsCrossings 48 = .ok (.aload_n 0, 1) := by decide +kernel
theorem dX9_readsCrossings_49 : decode cX9_readsCrossings 49 = .ok (.getfield 34, 3) := by decide +kernel
theorem dX9_readsCrossings_52 : decode cX9_readsCrossings 52 = .ok (.iload_n 1, 1) := by decide +kernel
theorem dX9_readsCrossings_53 : decode cX9_readsCrossings 53 = .ok (.iload_n 2, 1) := by decide +kernel
theorem dX9_readsCrossings_54 : decode cX9_readsCrossings 54 = .ok (.bipush 97, 2) := by decide +kernel
theorem dX9_readsCrossings_56 : decode cX9_readsCrossings 56 = .ok (.isub, 1) := by decide +kernel
theorem dX9_readsCrossings_57 : decode cX9_readsCrossings 57 = .ok (.iastore, 1) := by decide +kernel
theorem dX9_readsCrossings_58 : decode cX9_readsCrossings 58 = .ok (.aload_n 0, 1) := by decide +kernel
theorem dX9_readsCrossings_59 : decode cX9_readsCrossings 59 = .ok (.dup, 1) := by decide +kernel
theorem dX9_readsCrossings_60 : decode cX9_readsCrossings 60 = .ok (.getfield 121, 3) := by decide +kernel
theorem dX9_readsCrossings_63 : decode cX9_readsCrossings 63 = .ok (.iconst 1, 1) := by decide +kernel
theorem dX9_readsCrossings_64 : decode cX9_readsCrossings 64 = .ok (.iadd, 1) := by decide +kernel
theorem dX9_readsCrossings_65 : decode cX9_readsCrossings 65 = .ok (.putfield 121, 3) := by decide +kernel
theorem dX9_readsCrossings_68 : decode cX9_readsCrossings 68 = .ok (.iinc 1 1, 3) := by decide +kernel
theorem dX9_readsCrossings_71 : decode cX9_readsCrossings 71 = .ok (.goto (-64), 3) := by decide +kernel
theorem dX9_readsCrossings_74 : decode cX9_readsCrossings 74 = .ok (.iconst (-1), 1) := by decide +kernel
theorem dX9_readsCrossings_75 : decode cX9_readsCrossings 75 = .ok (.ireturn, 1) := by decide +kernel
theorem dX9_readsText_0 : decode cX9_readsText 0 = .ok (.iload_n 1, 1) := by decide +kernel
theorem dX9_readsText_1 : decode cX9_readsText 1 = .ok (.ifCond .ne 10, 3) := by decide +kernel
theorem dX9_readsText_4 : decode cX9_readsText 4 = .ok (.aload_n 0, 1) := by decide +kernel
theorem dX9_readsText_5 : decode cX9_readsText 5 = .ok (.invokevirtual 128, 3) := by decide +kernel
theorem dX9_readsText_8 : decode cX9_readsText 8 = .ok (.goto 19, 3) := by decide +kernel
theorem dX9_readsText_11 : decode cX9_readsText 11 = .ok (.iload_n 1, 1) := by decide +kernel
theorem dX9_readsText_12 : decode cX9_readsText 12 = .ok (.iconst 1, 1) := by decide +kernel
theorem dX9_readsText_13 : decode cX9_readsText 13 = .ok (.if_icmp .ne 10, 3) := by decide +kernel
theorem dX9_readsText_16 : decode cX9_readsText 16 = .ok (.aload_n 0, 1) := by decide +kernel
theorem dX9_readsText_17 : decode cX9_readsText 17 = .ok (.invokevirtual 132, 3) := by decide +kernel
theorem dX9_readsText_20 : decode cX9_readsText 20 = .ok (.goto 7, 3) := by decide +kernel
theorem dX9_readsText_23 : decode cX9_readsText 23 = .ok (.aload_n 0, 1) := by decide +kernel
theorem dX9_readsText_24 : decode cX9_readsText 24 = .ok (.invokevirtual 135, 3) := by decide +kernel
theorem dX9_readsText_27 : decode cX9_readsText 27 = .ok (.ireturn, 1) := by decide +kernel
theorem dX9_fault_0 : decode cX9_fault 0 = .ok (.iload_n 1, 1) := by decide +kernel
theorem dX9_fault_1 : decode cX9_fault 1 = .ok (.invokestatic 98, 3) := by decide +kernel
theorem dX9_fault_4 : decode cX9_fault 4 = .ok (.ifCond .eq 11, 3) := by decide +kernel
theorem dX9_fault_7 : decode cX9_fault 7 = .ok (.aload_n 0, 1) := by decide +kernel
theorem dX9_fault_8 : decode cX9_fault 8 = .ok (.iload_n 1, 1) := by decide +kernel
theorem dX9_fault_9 : decode cX9_fault 9 = .ok (.invokevirtual 138, 3) := by decide +kernel
theorem dX9_fault_12 : decode cX9_fault 12 = .ok (.goto 5, 3) := by decide +kernel
theorem dX9_fault_15 : decode cX9_fault 15 = .ok (.bipush (-2), 2) := by decide +kernel
theorem dX9_fault_17 : decode cX9_fault 17 = .ok (.ireturn, 1) := by decide +kernel
theorem dX9_isCrosser_0 : decode cX9_isCrosser 0 = .ok (.iload_n 1, 1) := by decide +kernel
theorem dX9_isCrosser_1 : decode cX9_isCrosser 1 = .ok (.i2l, 1) := by decide +kernel
theorem dX9_isCrosser_2 : decode cX9_isCrosser 2 = .ok (.lconst 0, 1) := by decide +kernel
theorem dX9_isCrosser_3 : decode cX9_isCrosser 3 = .ok (.aload_n 0, 1) := by decide +kernel
theorem dX9_isCrosser_4 : decode cX9_isCrosser 4 = .ok (.getfield 115, 3) := by decide +kernel
theorem dX9_isCrosser_7 : decode cX9_isCrosser 7 = .ok (.iconst 1, 1) := by decide +kernel
theorem dX9_isCrosser_8 : decode cX9_isCrosser 8 = .ok (.isub, 1) := by decide +kernel
theorem dX9_isCrosser_9 : decode cX9_isCrosser 9 = .ok (.i2l, 1) := by decide +kernel
theorem dX9_isCrosser_10 : decode cX9_isCrosser 10 = .ok (.invokestatic 69, 3) := by decide +kernel
theorem dX9_isCrosser_13 : decode cX9_isCrosser 13 = .ok (.ireturn, 1) := by decide +kernel
theorem dX9_plank_0 : decode cX9_plank 0 = .ok (.aload_n 0, 1) := by decide +kernel
theorem dX9_plank_1 : decode cX9_plank 1 = .ok (.invokevirtual 128, 3) := by decide +kernel
theorem dX9_plank_4 : decode cX9_plank 4 = .ok (.pop, 1) := by decide +kernel
theorem dX9_plank_5 : decode cX9_plank 5 = .ok (.iload_n 1, 1) := by decide +kernel
theorem dX9_plank_6 : decode cX9_plank 6 = .ok (.i2l, 1) := by decide +kernel
theorem dX9_plank_7 : decode cX9_plank 7 = .ok (.lconst 0, 1) := by decide +kernel
theorem dX9_plank_8 : decode cX9_plank 8 = .ok (.ldc2_w 141, 3) := by decide +kernel
theorem dX9_plank_11 : decode cX9_plank 11 = .ok (.invokestatic 69, 3) := by decide +kernel
theorem dX9_plank_14 : decode cX9_plank 14 = .ok (.ifCond .ne 8, 3) := by decide +kernel
theorem dX9_plank_17 : decode cX9_plank 17 = .ok (.bipush (-2), 2) := by decide +kernel
theorem dX9_plank_19 : decode cX9_plank 19 = .ok (.goto 21, 3) := by decide +kernel
theorem dX9_plank_22 : decode cX9_plank 22 = .ok (.iload_n 1, 1) := by decide +kernel
theorem dX9_plank_23 : decode cX9_plank 23 = .ok (.aload_n 0, 1) := by decide +kernel
theorem dX9_plank_24 : decode cX9_plank 24 = .ok (.getfield 103, 3) := by decide +kernel
theorem dX9_plank_27 : decode cX9_plank 27 = .ok (.if_icmp .ge 12, 3) := by decide +kernel
theorem dX9_plank_30 : decode cX9_plank 30 = .ok (.aload_n 0, 1) := by decide +kernel
theorem dX9_plank_31 : decode cX9_plank 31 = .ok (.getfield 28, 3) := by decide +kernel
theorem dX9_plank_34 : decode cX9_plank 34 = .ok (.iload_n 1, 1) := by decide +kernel
theorem dX9_plank_35 : decode cX9_plank 35 = .ok (.iaload, 1) := by decide +kernel
theorem dX9_plank_36 : decode cX9_plank 36 = .ok (.goto 4, 3) := by decide +kernel
theorem dX9_plank_39 : decode cX9_plank 39 = .ok (.iconst (-1), 1) := by decide +kernel
theorem dX9_plank_40 : decode cX9_plank 40 = .ok (.ireturn, 1) := by decide +kernel
theorem dX9_crosser_0 : decode cX9_crosser 0 = .ok (.aload_n 0, 1) := by decide +kernel
theorem dX9_crosser_1 : decode cX9_crosser 1 = .ok (.invokevirtual 132, 3) := by decide +kernel
theorem dX9_crosser_4 : decode cX9_crosser 4 = .ok (.pop, 1) := by decide +kernel
theorem dX9_crosser_5 : decode cX9_crosser 5 = .ok (.aload_n 0, 1) := by decide +kernel
theorem dX9_crosser_6 : decode cX9_crosser 6 = .ok (.iload_n 1, 1) := by decide +kernel
theorem dX9_crosser_7 : decode cX9_crosser 7 = .ok (.invokevirtual 143, 3) := by decide +kernel
theorem dX9_crosser_10 : decode cX9_crosser 10 = .ok (.ifCond .eq 28, 3) := by decide +kernel
theorem dX9_crosser_13 : decode cX9_crosser 13 = .ok (.iload_n 2, 1) := by decide +kernel
theorem dX9_crosser_14 : decode cX9_crosser 14 = .ok (.i2l, 1) := by decide +kernel
theorem dX9_crosser_15 : decode cX9_crosser 15 = .ok (.lconst 0, 1) := by decide +kernel
theorem dX9_crosser_16 : decode cX9_crosser 16 = .ok (.ldc2_w 77, 3) := by decide +kernel
theorem dX9_crosser_19 : decode cX9_crosser 19 = .ok (.invokestatic 69, 3) := by decide +kernel
theorem dX9_crosser_22 : decode cX9_crosser 22 = .ok (.ifCond .eq 16, 3) := by decide +kernel
theorem dX9_crosser_25 : decode cX9_crosser 25 = .ok (.aload_n 0, 1) := by decide +kernel
theorem dX9_crosser_26 : decode cX9_crosser 26 = .ok (.getfield 31, 3) := by decide +kernel
theorem dX9_crosser_29 : decode cX9_crosser 29 = .ok (.iconst 4, 1) := by decide +kernel
theorem dX9_crosser_30 : decode cX9_crosser 30 = .ok (.iload_n 1, 1) := by decide +kernel
theorem dX9_crosser_31 : decode cX9_crosser 31 = .ok (.imul, 1) := by decide +kernel
theorem dX9_crosser_32 : decode cX9_crosser 32 = .ok (.iload_n 2, 1) := by decide +kernel
theorem dX9_crosser_33 : decode cX9_crosser 33 = .ok (.iadd, 1) := by decide +kernel
theorem dX9_crosser_34 : decode cX9_crosser 34 = .ok (.iaload, 1) := by decide +kernel
theorem dX9_crosser_35 : decode cX9_crosser 35 = .ok (.goto 5, 3) := by decide +kernel
theorem dX9_crosser_38 : decode cX9_crosser 38 = .ok (.bipush (-2), 2) := by decide +kernel
theorem dX9_crosser_40 : decode cX9_crosser 40 = .ok (.ireturn, 1) := by decide +kernel
theorem dX9_crossing_0 : decode cX9_crossing 0 = .ok (.aload_n 0, 1) := by decide +kernel
theorem dX9_crossing_1 : decode cX9_crossing 1 = .ok (.invokevirtual 135, 3) := by decide +kernel
theorem dX9_crossing_4 : decode cX9_crossing 4 = .ok (.pop, 1) := by decide +kernel
theorem dX9_crossing_5 : decode cX9_crossing 5 = .ok (.iload_n 1, 1) := by decide +kernel
theorem dX9_crossing_6 : decode cX9_crossing 6 = .ok (.i2l, 1) := by decide +kernel
theorem dX9_crossing_7 : decode cX9_crossing 7 = .ok (.lconst 0, 1) := by decide +kernel
theorem dX9_crossing_8 : decode cX9_crossing 8 = .ok (.ldc2_w 146, 3) := by decide +kernel
theorem dX9_crossing_11 : decode cX9_crossing 11 = .ok (.invokestatic 69, 3) := by decide +kernel
theorem dX9_crossing_14 : decode cX9_crossing 14 = .ok (.ifCond .ne 8, 3) := by decide +kernel
theorem dX9_crossing_17 : decode cX9_crossing 17 = .ok (.bipush (-2), 2) := by decide +kernel
theorem dX9_crossing_19 : decode cX9_crossing 19 = .ok (.goto 21, 3) := by decide +kernel
theorem dX9_crossing_22 : decode cX9_crossing 22 = .ok (.iload_n 1, 1) := by decide +kernel
theorem dX9_crossing_23 : decode cX9_crossing 23 = .ok (.aload_n 0, 1) := by decide +kernel
theorem dX9_crossing_24 : decode cX9_crossing 24 = .ok (.getfield 121, 3) := by decide +kernel
theorem dX9_crossing_27 : decode cX9_crossing 27 = .ok (.if_icmp .ge 12, 3) := by decide +kernel
theorem dX9_crossing_30 : decode cX9_crossing 30 = .ok (.aload_n 0, 1) := by decide +kernel
theorem dX9_crossing_31 : decode cX9_crossing 31 = .ok (.getfield 34, 3) := by decide +kernel
theorem dX9_crossing_34 : decode cX9_crossing 34 = .ok (.iload_n 1, 1) := by decide +kernel
theorem dX9_crossing_35 : decode cX9_crossing 35 = .ok (.iaload, 1) := by decide +kernel
theorem dX9_crossing_36 : decode cX9_crossing 36 = .ok (.goto 4, 3) := by decide +kernel
theorem dX9_crossing_39 : decode cX9_crossing 39 = .ok (.iconst (-1), 1) := by decide +kernel
theorem dX9_crossing_40 : decode cX9_crossing 40 = .ok (.ireturn, 1) := by decide +kernel
theorem dX9_set_0 : decode cX9_set 0 = .ok (.iload_n 1, 1) := by decide +kernel
theorem dX9_set_1 : decode cX9_set 1 = .ok (.invokestatic 148, 3) := by decide +kernel
theorem dX9_set_4 : decode cX9_set 4 = .ok (.ifCond .eq 25, 3) := by decide +kernel
theorem dX9_set_7 : decode cX9_set 7 = .ok (.iload_n 2, 1) := by decide +kernel
theorem dX9_set_8 : decode cX9_set 8 = .ok (.i2l, 1) := by decide +kernel
theorem dX9_set_9 : decode cX9_set 9 = .ok (.lconst 0, 1) := by decide +kernel
theorem dX9_set_10 : decode cX9_set 10 = .ok (.iload_n 1, 1) := by decide +kernel
theorem dX9_set_11 : decode cX9_set 11 = .ok (.ifCond .ne 9, 3) := by decide +kernel
theorem dX9_set_14 : decode cX9_set 14 = .ok (.ldc2_w 151, 3) := by decide +kernel
theorem dX9_set_17 : decode cX9_set 17 = .ok (.goto 6, 3) := by decide +kernel
theorem dX9_set_20 : decode cX9_set 20 = .ok (.ldc2_w 141, 3) := by decide +kernel
theorem dX9_set_23 : decode cX9_set 23 = .ok (.invokestatic 69, 3) := by decide +kernel
theorem dX9_set_26 : decode cX9_set 26 = .ok (.ifCond .ne 6, 3) := by decide +kernel
theorem dX9_set_29 : decode cX9_set 29 = .ok (.bipush (-2), 2) := by decide +kernel
theorem dX9_set_31 : decode cX9_set 31 = .ok (.ireturn, 1) := by decide +kernel
theorem dX9_set_32 : decode cX9_set 32 = .ok (.aload_n 0, 1) := by decide +kernel
theorem dX9_set_33 : decode cX9_set 33 = .ok (.getfield 37, 3) := by decide +kernel
theorem dX9_set_36 : decode cX9_set 36 = .ok (.iload_n 1, 1) := by decide +kernel
theorem dX9_set_37 : decode cX9_set 37 = .ok (.iaload, 1) := by decide +kernel
theorem dX9_set_38 : decode cX9_set 38 = .ok (.istore_n 3, 1) := by decide +kernel
theorem dX9_set_39 : decode cX9_set 39 = .ok (.aload_n 0, 1) := by decide +kernel
theorem dX9_set_40 : decode cX9_set 40 = .ok (.getfield 37, 3) := by decide +kernel
theorem dX9_set_43 : decode cX9_set 43 = .ok (.iload_n 1, 1) := by decide +kernel
theorem dX9_set_44 : decode cX9_set 44 = .ok (.iload_n 2, 1) := by decide +kernel
theorem dX9_set_45 : decode cX9_set 45 = .ok (.iastore, 1) := by decide +kernel
theorem dX9_set_46 : decode cX9_set 46 = .ok (.iload_n 3, 1) := by decide +kernel
theorem dX9_set_47 : decode cX9_set 47 = .ok (.ireturn, 1) := by decide +kernel
theorem dX9_shift_0 : decode cX9_shift 0 = .ok (.iload_n 1, 1) := by decide +kernel
theorem dX9_shift_1 : decode cX9_shift 1 = .ok (.i2l, 1) := by decide +kernel
theorem dX9_shift_2 : decode cX9_shift 2 = .ok (.lconst 0, 1) := by decide +kernel
theorem dX9_shift_3 : decode cX9_shift 3 = .ok (.ldc2_w 77, 3) := by decide +kernel
theorem dX9_shift_6 : decode cX9_shift 6 = .ok (.invokestatic 69, 3) := by decide +kernel
theorem dX9_shift_9 : decode cX9_shift 9 = .ok (.ifCond .eq 17, 3) := by decide +kernel
theorem dX9_shift_12 : decode cX9_shift 12 = .ok (.iload_n 2, 1) := by decide +kernel
theorem dX9_shift_13 : decode cX9_shift 13 = .ok (.i2l, 1) := by decide +kernel
theorem dX9_shift_14 : decode cX9_shift 14 = .ok (.ldc2_w 153, 3) := by decide +kernel
theorem dX9_shift_17 : decode cX9_shift 17 = .ok (.ldc2_w 151, 3) := by decide +kernel
theorem dX9_shift_20 : decode cX9_shift 20 = .ok (.invokestatic 69, 3) := by decide +kernel
theorem dX9_shift_23 : decode cX9_shift 23 = .ok (.ifCond .ne 7, 3) := by decide +kernel
theorem dX9_shift_26 : decode cX9_shift 26 = .ok (.sipush (-10002), 3) := by decide +kernel
theorem dX9_shift_29 : decode cX9_shift 29 = .ok (.ireturn, 1) := by decide +kernel
theorem dX9_shift_30 : decode cX9_shift 30 = .ok (.aload_n 0, 1) := by decide +kernel
theorem dX9_shift_31 : decode cX9_shift 31 = .ok (.getfield 40, 3) := by decide +kernel
theorem dX9_shift_34 : decode cX9_shift 34 = .ok (.iload_n 1, 1) := by decide +kernel
theorem dX9_shift_35 : decode cX9_shift 35 = .ok (.iaload, 1) := by decide +kernel
theorem dX9_shift_36 : decode cX9_shift 36 = .ok (.istore_n 3, 1) := by decide +kernel
theorem dX9_shift_37 : decode cX9_shift 37 = .ok (.aload_n 0, 1) := by decide +kernel
theorem dX9_shift_38 : decode cX9_shift 38 = .ok (.getfield 40, 3) := by decide +kernel
theorem dX9_shift_41 : decode cX9_shift 41 = .ok (.iload_n 1, 1) := by decide +kernel
theorem dX9_shift_42 : decode cX9_shift 42 = .ok (.iload_n 2, 1) := by decide +kernel
theorem dX9_shift_43 : decode cX9_shift 43 = .ok (.iastore, 1) := by decide +kernel
theorem dX9_shift_44 : decode cX9_shift 44 = .ok (.iload_n 3, 1) := by decide +kernel
theorem dX9_shift_45 : decode cX9_shift 45 = .ok (.ireturn, 1) := by decide +kernel
theorem dX9_isHole_0 : decode cX9_isHole 0 = .ok (.aload_n 0, 1) := by decide +kernel
theorem dX9_isHole_1 : decode cX9_isHole 1 = .ok (.getfield 37, 3) := by decide +kernel
theorem dX9_isHole_4 : decode cX9_isHole 4 = .ok (.iconst 0, 1) := by decide +kernel
theorem dX9_isHole_5 : decode cX9_isHole 5 = .ok (.iaload, 1) := by decide +kernel
theorem dX9_isHole_6 : decode cX9_isHole 6 = .ok (.bipush 6, 2) := by decide +kernel
theorem dX9_isHole_8 : decode cX9_isHole 8 = .ok (.if_icmp .le 22, 3) := by decide +kernel
theorem dX9_isHole_11 : decode cX9_isHole 11 = .ok (.iload_n 2, 1) := by decide +kernel
theorem dX9_isHole_12 : decode cX9_isHole 12 = .ok (.aload_n 0, 1) := by decide +kernel
theorem dX9_isHole_13 : decode cX9_isHole 13 = .ok (.getfield 155, 3) := by decide +kernel
theorem dX9_isHole_16 : decode cX9_isHole 16 = .ok (.iconst 1, 1) := by decide +kernel
theorem dX9_isHole_17 : decode cX9_isHole 17 = .ok (.iadd, 1) := by decide +kernel
theorem dX9_isHole_18 : decode cX9_isHole 18 = .ok (.aload_n 0, 1) := by decide +kernel
theorem dX9_isHole_19 : decode cX9_isHole 19 = .ok (.getfield 103, 3) := by decide +kernel
theorem dX9_isHole_22 : decode cX9_isHole 22 = .ok (.irem, 1) := by decide +kernel
theorem dX9_isHole_23 : decode cX9_isHole 23 = .ok (.if_icmp .ne 7, 3) := by decide +kernel
theorem dX9_isHole_26 : decode cX9_isHole 26 = .ok (.iconst 1, 1) := by decide +kernel
theorem dX9_isHole_27 : decode cX9_isHole 27 = .ok (.goto 4, 3) := by decide +kernel
theorem dX9_isHole_30 : decode cX9_isHole 30 = .ok (.iconst 0, 1) := by decide +kernel
theorem dX9_isHole_31 : decode cX9_isHole 31 = .ok (.istore_n 3, 1) := by decide +kernel
theorem dX9_isHole_32 : decode cX9_isHole 32 = .ok (.iload_n 2, 1) := by decide +kernel
theorem dX9_isHole_33 : decode cX9_isHole 33 = .ok (.aload_n 0, 1) := by decide +kernel
theorem dX9_isHole_34 : decode cX9_isHole 34 = .ok (.getfield 155, 3) := by decide +kernel
theorem dX9_isHole_37 : decode cX9_isHole 37 = .ok (.if_icmp .eq 31, 3) := by decide +kernel
theorem dX9_isHole_40 : decode cX9_isHole 40 = .ok (.iload_n 3, 1) := by decide +kernel
theorem dX9_isHole_41 : decode cX9_isHole 41 = .ok (.ifCond .ne 27, 3) := by decide +kernel
theorem dX9_isHole_44 : decode cX9_isHole 44 = .ok (.aload_n 0, 1) := by decide +kernel
theorem dX9_isHole_45 : decode cX9_isHole 45 = .ok (.getfield 28, 3) := by decide +kernel
theorem dX9_isHole_48 : decode cX9_isHole 48 = .ok (.iload_n 2, 1) := by decide +kernel
theorem dX9_isHole_49 : decode cX9_isHole 49 = .ok (.iaload, 1) := by decide +kernel
theorem dX9_isHole_50 : decode cX9_isHole 50 = .ok (.iconst 1, 1) := by decide +kernel
theorem dX9_isHole_51 : decode cX9_isHole 51 = .ok (.if_icmp .ne 21, 3) := by decide +kernel
theorem dX9_isHole_54 : decode cX9_isHole 54 = .ok (.aload_n 0, 1) := by decide +kernel
theorem dX9_isHole_55 : decode cX9_isHole 55 = .ok (.getfield 31, 3) := by decide +kernel
theorem dX9_isHole_58 : decode cX9_isHole 58 = .ok (.iconst 4, 1) := by decide +kernel
theorem dX9_isHole_59 : decode cX9_isHole 59 = .ok (.iload_n 1, 1) := by decide +kernel
theorem dX9_isHole_60 : decode cX9_isHole 60 = .ok (.imul, 1) := by decide +kernel
theorem dX9_isHole_61 : decode cX9_isHole 61 = .ok (.iconst 1, 1) := by decide +kernel
theorem dX9_isHole_62 : decode cX9_isHole 62 = .ok (.iadd, 1) := by decide +kernel
theorem dX9_isHole_63 : decode cX9_isHole 63 = .ok (.iaload, 1) := by decide +kernel
theorem dX9_isHole_64 : decode cX9_isHole 64 = .ok (.iconst 5, 1) := by decide +kernel
theorem dX9_isHole_65 : decode cX9_isHole 65 = .ok (.if_icmp .le 7, 3) := by decide +kernel
theorem dX9_isHole_68 : decode cX9_isHole 68 = .ok (.iconst 1, 1) := by decide +kernel
theorem dX9_isHole_69 : decode cX9_isHole 69 = .ok (.goto 4, 3) := by decide +kernel
theorem dX9_isHole_72 : decode cX9_isHole 72 = .ok (.iconst 0, 1) := by decide +kernel
theorem dX9_isHole_73 : decode cX9_isHole 73 = .ok (.ireturn, 1) := by decide +kernel
theorem dX9_looks_0 : decode cX9_looks 0 = .ok (.aload_n 0, 1) := by decide +kernel
theorem dX9_looks_1 : decode cX9_looks 1 = .ok (.iconst 0, 1) := by decide +kernel
theorem dX9_looks_2 : decode cX9_looks 2 = .ok (.putfield 158, 3) := by decide +kernel
theorem dX9_looks_5 : decode cX9_looks 5 = .ok (.aload_n 0, 1) := by decide +kernel
theorem dX9_looks_6 : decode cX9_looks 6 = .ok (.iconst 0, 1) := by decide +kernel
theorem dX9_looks_7 : decode cX9_looks 7 = .ok (.putfield 161, 3) := by decide +kernel
theorem dX9_looks_10 : decode cX9_looks 10 = .ok (.iconst 0, 1) := by decide +kernel
theorem dX9_looks_11 : decode cX9_looks 11 = .ok (.istore_n 2, 1) := by decide +kernel
theorem dX9_looks_12 : decode cX9_looks 12 = .ok (.iconst 0, 1) := by decide +kernel
theorem dX9_looks_13 : decode cX9_looks 13 = .ok (.istore_n 3, 1) := by decide +kernel
theorem dX9_looks_14 : decode cX9_looks 14 = .ok (.iload_n 3, 1) := by decide +kernel
theorem dX9_looks_15 : decode cX9_looks 15 = .ok (.aload_n 0, 1) := by decide +kernel
theorem dX9_looks_16 : decode cX9_looks 16 = .ok (.getfield 103, 3) := by decide +kernel
theorem dX9_looks_19 : decode cX9_looks 19 = .ok (.if_icmp .ge 65, 3) := by decide +kernel
theorem dX9_looks_22 : decode cX9_looks 22 = .ok (.aload_n 0, 1) := by decide +kernel
theorem dX9_looks_23 : decode cX9_looks 23 = .ok (.iload_n 1, 1) := by decide +kernel
theorem dX9_looks_24 : decode cX9_looks 24 = .ok (.iload_n 3, 1) := by decide +kernel
theorem dX9_looks_25 : decode cX9_looks 25 = .ok (.invokevirtual 164, 3) := by decide +kernel
theorem dX9_looks_28 : decode cX9_looks 28 = .ok (.istore 4, 2) := by decide +kernel
theorem dX9_looks_30 : decode cX9_looks 30 = .ok (.aload_n 0, 1) := by decide +kernel
theorem dX9_looks_31 : decode cX9_looks 31 = .ok (.dup, 1) := by decide +kernel
theorem dX9_looks_32 : decode cX9_looks 32 = .ok (.getfield 158, 3) := by decide +kernel
theorem dX9_looks_35 : decode cX9_looks 35 = .ok (.iload 4, 2) := by decide +kernel
theorem dX9_looks_37 : decode cX9_looks 37 = .ok (.ifCond .eq 11, 3) := by decide +kernel
theorem dX9_looks_40 : decode cX9_looks 40 = .ok (.iload_n 2, 1) := by decide +kernel
theorem dX9_looks_41 : decode cX9_looks 41 = .ok (.ifCond .ne 7, 3) := by decide +kernel
theorem dX9_looks_44 : decode cX9_looks 44 = .ok (.iconst 1, 1) := by decide +kernel
theorem dX9_looks_45 : decode cX9_looks 45 = .ok (.goto 4, 3) := by decide +kernel
theorem dX9_looks_48 : decode cX9_looks 48 = .ok (.iconst 0, 1) := by decide +kernel
theorem dX9_looks_49 : decode cX9_looks 49 = .ok (.iadd, 1) := by decide +kernel
theorem dX9_looks_50 : decode cX9_looks 50 = .ok (.putfield 158, 3) := by decide +kernel
theorem dX9_looks_53 : decode cX9_looks 53 = .ok (.iload 4, 2) := by decide +kernel
theorem dX9_looks_55 : decode cX9_looks 55 = .ok (.ifCond .eq 9, 3) := by decide +kernel
theorem dX9_looks_58 : decode cX9_looks 58 = .ok (.iload_n 2, 1) := by decide +kernel
theorem dX9_looks_59 : decode cX9_looks 59 = .ok (.iconst 1, 1) := by decide +kernel
theorem dX9_looks_60 : decode cX9_looks 60 = .ok (.iadd, 1) := by decide +kernel
theorem dX9_looks_61 : decode cX9_looks 61 = .ok (.goto 4, 3) := by decide +kernel
theorem dX9_looks_64 : decode cX9_looks 64 = .ok (.iconst 0, 1) := by decide +kernel
theorem dX9_looks_65 : decode cX9_looks 65 = .ok (.istore_n 2, 1) := by decide +kernel
theorem dX9_looks_66 : decode cX9_looks 66 = .ok (.aload_n 0, 1) := by decide +kernel
theorem dX9_looks_67 : decode cX9_looks 67 = .ok (.iload_n 2, 1) := by decide +kernel
theorem dX9_looks_68 : decode cX9_looks 68 = .ok (.aload_n 0, 1) := by decide +kernel
theorem dX9_looks_69 : decode cX9_looks 69 = .ok (.getfield 161, 3) := by decide +kernel
theorem dX9_looks_72 : decode cX9_looks 72 = .ok (.invokestatic 168, 3) := by decide +kernel
theorem dX9_looks_75 : decode cX9_looks 75 = .ok (.putfield 161, 3) := by decide +kernel
theorem dX9_looks_78 : decode cX9_looks 78 = .ok (.iinc 3 1, 3) := by decide +kernel
theorem dX9_looks_81 : decode cX9_looks 81 = .ok (.goto (-67), 3) := by decide +kernel
theorem dX9_looks_84 : decode cX9_looks 84 = .ok (.return_, 1) := by decide +kernel
theorem dX9_moves_0 : decode cX9_moves 0 = .ok (.aload_n 0, 1) := by decide +kernel
theorem dX9_moves_1 : decode cX9_moves 1 = .ok (.getfield 31, 3) := by decide +kernel
theorem dX9_moves_4 : decode cX9_moves 4 = .ok (.iconst 4, 1) := by decide +kernel
theorem dX9_moves_5 : decode cX9_moves 5 = .ok (.iload_n 1, 1) := by decide +kernel
theorem dX9_moves_6 : decode cX9_moves 6 = .ok (.imul, 1) := by decide +kernel
theorem dX9_moves_7 : decode cX9_moves 7 = .ok (.iaload, 1) := by decide +kernel
theorem dX9_moves_8 : decode cX9_moves 8 = .ok (.iconst 4, 1) := by decide +kernel
theorem dX9_moves_9 : decode cX9_moves 9 = .ok (.if_icmp .ne 15, 3) := by decide +kernel
theorem dX9_moves_12 : decode cX9_moves 12 = .ok (.aload_n 0, 1) := by decide +kernel
theorem dX9_moves_13 : decode cX9_moves 13 = .ok (.getfield 103, 3) := by decide +kernel
theorem dX9_moves_16 : decode cX9_moves 16 = .ok (.iconst 1, 1) := by decide +kernel
theorem dX9_moves_17 : decode cX9_moves 17 = .ok (.isub, 1) := by decide +kernel
theorem dX9_moves_18 : decode cX9_moves 18 = .ok (.aload_n 0, 1) := by decide +kernel
theorem dX9_moves_19 : decode cX9_moves 19 = .ok (.getfield 155, 3) := by decide +kernel
theorem dX9_moves_22 : decode cX9_moves 22 = .ok (.isub, 1) := by decide +kernel
theorem dX9_moves_23 : decode cX9_moves 23 = .ok (.ireturn, 1) := by decide +kernel
theorem dX9_moves_24 : decode cX9_moves 24 = .ok (.aload_n 0, 1) := by decide +kernel
theorem dX9_moves_25 : decode cX9_moves 25 = .ok (.getfield 40, 3) := by decide +kernel
theorem dX9_moves_28 : decode cX9_moves 28 = .ok (.aload_n 0, 1) := by decide +kernel
theorem dX9_moves_29 : decode cX9_moves 29 = .ok (.getfield 31, 3) := by decide +kernel
theorem dX9_moves_32 : decode cX9_moves 32 = .ok (.iconst 4, 1) := by decide +kernel
theorem dX9_moves_33 : decode cX9_moves 33 = .ok (.iload_n 1, 1) := by decide +kernel
theorem dX9_moves_34 : decode cX9_moves 34 = .ok (.imul, 1) := by decide +kernel
theorem dX9_moves_35 : decode cX9_moves 35 = .ok (.iaload, 1) := by decide +kernel
theorem dX9_moves_36 : decode cX9_moves 36 = .ok (.iaload, 1) := by decide +kernel
theorem dX9_moves_37 : decode cX9_moves 37 = .ok (.aload_n 0, 1) := by decide +kernel
theorem dX9_moves_38 : decode cX9_moves 38 = .ok (.getfield 103, 3) := by decide +kernel
theorem dX9_moves_41 : decode cX9_moves 41 = .ok (.irem, 1) := by decide +kernel
theorem dX9_moves_42 : decode cX9_moves 42 = .ok (.istore_n 2, 1) := by decide +kernel
theorem dX9_moves_43 : decode cX9_moves 43 = .ok (.aload_n 0, 1) := by decide +kernel
theorem dX9_moves_44 : decode cX9_moves 44 = .ok (.getfield 155, 3) := by decide +kernel
theorem dX9_moves_47 : decode cX9_moves 47 = .ok (.aload_n 0, 1) := by decide +kernel
theorem dX9_moves_48 : decode cX9_moves 48 = .ok (.getfield 31, 3) := by decide +kernel
theorem dX9_moves_51 : decode cX9_moves 51 = .ok (.iconst 4, 1) := by decide +kernel
theorem dX9_moves_52 : decode cX9_moves 52 = .ok (.iload_n 1, 1) := by decide +kernel
theorem dX9_moves_53 : decode cX9_moves 53 = .ok (.imul, 1) := by decide +kernel
theorem dX9_moves_54 : decode cX9_moves 54 = .ok (.iconst 2, 1) := by decide +kernel
theorem dX9_moves_55 : decode cX9_moves 55 = .ok (.iadd, 1) := by decide +kernel
theorem dX9_moves_56 : decode cX9_moves 56 = .ok (.iaload, 1) := by decide +kernel
theorem dX9_moves_57 : decode cX9_moves 57 = .ok (.ifCond .ne 7, 3) := by decide +kernel
theorem dX9_moves_60 : decode cX9_moves 60 = .ok (.iload_n 2, 1) := by decide +kernel
theorem dX9_moves_61 : decode cX9_moves 61 = .ok (.goto 5, 3) := by decide +kernel
theorem dX9_moves_64 : decode cX9_moves 64 = .ok (.iload_n 2, 1) := by decide +kernel
theorem dX9_moves_65 : decode cX9_moves 65 = .ok (.ineg, 1) := by decide +kernel
theorem dX9_moves_66 : decode cX9_moves 66 = .ok (.iadd, 1) := by decide +kernel
theorem dX9_moves_67 : decode cX9_moves 67 = .ok (.aload_n 0, 1) := by decide +kernel
theorem dX9_moves_68 : decode cX9_moves 68 = .ok (.getfield 103, 3) := by decide +kernel
theorem dX9_moves_71 : decode cX9_moves 71 = .ok (.iadd, 1) := by decide +kernel
theorem dX9_moves_72 : decode cX9_moves 72 = .ok (.aload_n 0, 1) := by decide +kernel
theorem dX9_moves_73 : decode cX9_moves 73 = .ok (.getfield 103, 3) := by decide +kernel
theorem dX9_moves_76 : decode cX9_moves 76 = .ok (.irem, 1) := by decide +kernel
theorem dX9_moves_77 : decode cX9_moves 77 = .ok (.ireturn, 1) := by decide +kernel
theorem dX9_tries_0 : decode cX9_tries 0 = .ok (.aload_n 0, 1) := by decide +kernel
theorem dX9_tries_1 : decode cX9_tries 1 = .ok (.iconst 0, 1) := by decide +kernel
theorem dX9_tries_2 : decode cX9_tries 2 = .ok (.putfield 158, 3) := by decide +kernel
theorem dX9_tries_5 : decode cX9_tries 5 = .ok (.aload_n 0, 1) := by decide +kernel
theorem dX9_tries_6 : decode cX9_tries 6 = .ok (.iconst 0, 1) := by decide +kernel
theorem dX9_tries_7 : decode cX9_tries 7 = .ok (.putfield 161, 3) := by decide +kernel
theorem dX9_tries_10 : decode cX9_tries 10 = .ok (.aload_n 0, 1) := by decide +kernel
theorem dX9_tries_11 : decode cX9_tries 11 = .ok (.getfield 37, 3) := by decide +kernel
theorem dX9_tries_14 : decode cX9_tries 14 = .ok (.iconst 0, 1) := by decide +kernel
theorem dX9_tries_15 : decode cX9_tries 15 = .ok (.iaload, 1) := by decide +kernel
theorem dX9_tries_16 : decode cX9_tries 16 = .ok (.iconst 2, 1) := by decide +kernel
theorem dX9_tries_17 : decode cX9_tries 17 = .ok (.if_icmp .lt 18, 3) := by decide +kernel
theorem dX9_tries_20 : decode cX9_tries 20 = .ok (.aload_n 0, 1) := by decide +kernel
theorem dX9_tries_21 : decode cX9_tries 21 = .ok (.getfield 103, 3) := by decide +kernel
theorem dX9_tries_24 : decode cX9_tries 24 = .ok (.ifCond .eq 11, 3) := by decide +kernel
theorem dX9_tries_27 : decode cX9_tries 27 = .ok (.aload_n 0, 1) := by decide +kernel
theorem dX9_tries_28 : decode cX9_tries 28 = .ok (.iload_n 1, 1) := by decide +kernel
theorem dX9_tries_29 : decode cX9_tries 29 = .ok (.invokevirtual 143, 3) := by decide +kernel
theorem dX9_tries_32 : decode cX9_tries 32 = .ok (.ifCond .ne 5, 3) := by decide +kernel
theorem dX9_tries_35 : decode cX9_tries 35 = .ok (.iconst 0, 1) := by decide +kernel
theorem dX9_tries_36 : decode cX9_tries 36 = .ok (.ireturn, 1) := by decide +kernel
theorem dX9_tries_37 : decode cX9_tries 37 = .ok (.aload_n 0, 1) := by decide +kernel
theorem dX9_tries_38 : decode cX9_tries 38 = .ok (.iload_n 1, 1) := by decide +kernel
theorem dX9_tries_39 : decode cX9_tries 39 = .ok (.invokevirtual 171, 3) := by decide +kernel
theorem dX9_tries_42 : decode cX9_tries 42 = .ok (.aload_n 0, 1) := by decide +kernel
theorem dX9_tries_43 : decode cX9_tries 43 = .ok (.getfield 161, 3) := by decide +kernel
theorem dX9_tries_46 : decode cX9_tries 46 = .ok (.aload_n 0, 1) := by decide +kernel
theorem dX9_tries_47 : decode cX9_tries 47 = .ok (.getfield 31, 3) := by decide +kernel
theorem dX9_tries_50 : decode cX9_tries 50 = .ok (.iconst 4, 1) := by decide +kernel
theorem dX9_tries_51 : decode cX9_tries 51 = .ok (.iload_n 1, 1) := by decide +kernel
theorem dX9_tries_52 : decode cX9_tries 52 = .ok (.imul, 1) := by decide +kernel
theorem dX9_tries_53 : decode cX9_tries 53 = .ok (.iconst 3, 1) := by decide +kernel
theorem dX9_tries_54 : decode cX9_tries 54 = .ok (.iadd, 1) := by decide +kernel
theorem dX9_tries_55 : decode cX9_tries 55 = .ok (.iaload, 1) := by decide +kernel
theorem dX9_tries_56 : decode cX9_tries 56 = .ok (.if_icmp .le 5, 3) := by decide +kernel
theorem dX9_tries_59 : decode cX9_tries 59 = .ok (.iconst 2, 1) := by decide +kernel
theorem dX9_tries_60 : decode cX9_tries 60 = .ok (.ireturn, 1) := by decide +kernel
theorem dX9_tries_61 : decode cX9_tries 61 = .ok (.aload_n 0, 1) := by decide +kernel
theorem dX9_tries_62 : decode cX9_tries 62 = .ok (.aload_n 0, 1) := by decide +kernel
theorem dX9_tries_63 : decode cX9_tries 63 = .ok (.iload_n 1, 1) := by decide +kernel
theorem dX9_tries_64 : decode cX9_tries 64 = .ok (.invokevirtual 175, 3) := by decide +kernel
theorem dX9_tries_67 : decode cX9_tries 67 = .ok (.putfield 155, 3) := by decide +kernel
theorem dX9_tries_70 : decode cX9_tries 70 = .ok (.iconst 1, 1) := by decide +kernel
theorem dX9_tries_71 : decode cX9_tries 71 = .ok (.ireturn, 1) := by decide +kernel
theorem dX9_tollOf_0 : decode cX9_tollOf 0 = .ok (.iload_n 2, 1) := by decide +kernel
theorem dX9_tollOf_1 : decode cX9_tollOf 1 = .ok (.iconst 1, 1) := by decide +kernel
theorem dX9_tollOf_2 : decode cX9_tollOf 2 = .ok (.if_icmp .ne 22, 3) := by decide +kernel
theorem dX9_tollOf_5 : decode cX9_tollOf 5 = .ok (.aload_n 0, 1) := by decide +kernel
theorem dX9_tollOf_6 : decode cX9_tollOf 6 = .ok (.getfield 31, 3) := by decide +kernel
theorem dX9_tollOf_9 : decode cX9_tollOf 9 = .ok (.iconst 4, 1) := by decide +kernel
theorem dX9_tollOf_10 : decode cX9_tollOf 10 = .ok (.iload_n 1, 1) := by decide +kernel
theorem dX9_tollOf_11 : decode cX9_tollOf 11 = .ok (.imul, 1) := by decide +kernel
theorem dX9_tollOf_12 : decode cX9_tollOf 12 = .ok (.iaload, 1) := by decide +kernel
theorem dX9_tollOf_13 : decode cX9_tollOf 13 = .ok (.iconst 4, 1) := by decide +kernel
theorem dX9_tollOf_14 : decode cX9_tollOf 14 = .ok (.if_icmp .eq 10, 3) := by decide +kernel
theorem dX9_tollOf_17 : decode cX9_tollOf 17 = .ok (.aload_n 0, 1) := by decide +kernel
theorem dX9_tollOf_18 : decode cX9_tollOf 18 = .ok (.getfield 158, 3) := by decide +kernel
theorem dX9_tollOf_21 : decode cX9_tollOf 21 = .ok (.goto 4, 3) := by decide +kernel
theorem dX9_tollOf_24 : decode cX9_tollOf 24 = .ok (.iconst 0, 1) := by decide +kernel
theorem dX9_tollOf_25 : decode cX9_tollOf 25 = .ok (.ireturn, 1) := by decide +kernel
theorem dX9_begins_0 : decode cX9_begins 0 = .ok (.aload_n 0, 1) := by decide +kernel
theorem dX9_begins_1 : decode cX9_begins 1 = .ok (.aload_n 0, 1) := by decide +kernel
theorem dX9_begins_2 : decode cX9_begins 2 = .ok (.getfield 103, 3) := by decide +kernel
theorem dX9_begins_5 : decode cX9_begins 5 = .ok (.ifCond .ne 7, 3) := by decide +kernel
theorem dX9_begins_8 : decode cX9_begins 8 = .ok (.iconst (-1), 1) := by decide +kernel
theorem dX9_begins_9 : decode cX9_begins 9 = .ok (.goto 14, 3) := by decide +kernel
theorem dX9_begins_12 : decode cX9_begins 12 = .ok (.aload_n 0, 1) := by decide +kernel
theorem dX9_begins_13 : decode cX9_begins 13 = .ok (.getfield 37, 3) := by decide +kernel
theorem dX9_begins_16 : decode cX9_begins 16 = .ok (.iconst 1, 1) := by decide +kernel
theorem dX9_begins_17 : decode cX9_begins 17 = .ok (.iaload, 1) := by decide +kernel
theorem dX9_begins_18 : decode cX9_begins 18 = .ok (.aload_n 0, 1) := by decide +kernel
theorem dX9_begins_19 : decode cX9_begins 19 = .ok (.getfield 103, 3) := by decide +kernel
theorem dX9_begins_22 : decode cX9_begins 22 = .ok (.irem, 1) := by decide +kernel
theorem dX9_begins_23 : decode cX9_begins 23 = .ok (.putfield 155, 3) := by decide +kernel
theorem dX9_begins_26 : decode cX9_begins 26 = .ok (.return_, 1) := by decide +kernel
theorem dX9_lives_0 : decode cX9_lives 0 = .ok (.aload_n 0, 1) := by decide +kernel
theorem dX9_lives_1 : decode cX9_lives 1 = .ok (.invokevirtual 178, 3) := by decide +kernel
theorem dX9_lives_4 : decode cX9_lives 4 = .ok (.aload_n 0, 1) := by decide +kernel
theorem dX9_lives_5 : decode cX9_lives 5 = .ok (.getfield 43, 3) := by decide +kernel
theorem dX9_lives_8 : decode cX9_lives 8 = .ok (.iconst 0, 1) := by decide +kernel
theorem dX9_lives_9 : decode cX9_lives 9 = .ok (.aload_n 0, 1) := by decide +kernel
theorem dX9_lives_10 : decode cX9_lives 10 = .ok (.getfield 155, 3) := by decide +kernel
theorem dX9_lives_13 : decode cX9_lives 13 = .ok (.iastore, 1) := by decide +kernel
theorem dX9_lives_14 : decode cX9_lives 14 = .ok (.iconst 0, 1) := by decide +kernel
theorem dX9_lives_15 : decode cX9_lives 15 = .ok (.istore_n 1, 1) := by decide +kernel
theorem dX9_lives_16 : decode cX9_lives 16 = .ok (.iload_n 1, 1) := by decide +kernel
theorem dX9_lives_17 : decode cX9_lives 17 = .ok (.aload_n 0, 1) := by decide +kernel
theorem dX9_lives_18 : decode cX9_lives 18 = .ok (.getfield 121, 3) := by decide +kernel
theorem dX9_lives_21 : decode cX9_lives 21 = .ok (.if_icmp .ge 110, 3) := by decide +kernel
theorem dX9_lives_24 : decode cX9_lives 24 = .ok (.aload_n 0, 1) := by decide +kernel
theorem dX9_lives_25 : decode cX9_lives 25 = .ok (.getfield 181, 3) := by decide +kernel
theorem dX9_lives_28 : decode cX9_lives 28 = .ok (.iload_n 1, 1) := by decide +kernel
theorem dX9_lives_29 : decode cX9_lives 29 = .ok (.invokestatic 184, 3) := by decide +kernel
theorem dX9_lives_32 : decode cX9_lives 32 = .ok (.ifCond .ne 7, 3) := by decide +kernel
theorem dX9_lives_35 : decode cX9_lives 35 = .ok (.iconst 1, 1) := by decide +kernel
theorem dX9_lives_36 : decode cX9_lives 36 = .ok (.goto 4, 3) := by decide +kernel
theorem dX9_lives_39 : decode cX9_lives 39 = .ok (.iconst 0, 1) := by decide +kernel
theorem dX9_lives_40 : decode cX9_lives 40 = .ok (.istore_n 2, 1) := by decide +kernel
theorem dX9_lives_41 : decode cX9_lives 41 = .ok (.aload_n 0, 1) := by decide +kernel
theorem dX9_lives_42 : decode cX9_lives 42 = .ok (.getfield 46, 3) := by decide +kernel
theorem dX9_lives_45 : decode cX9_lives 45 = .ok (.iload_n 1, 1) := by decide +kernel
theorem dX9_lives_46 : decode cX9_lives 46 = .ok (.iload_n 2, 1) := by decide +kernel
theorem dX9_lives_47 : decode cX9_lives 47 = .ok (.ifCond .eq 16, 3) := by decide +kernel
theorem dX9_lives_50 : decode cX9_lives 50 = .ok (.aload_n 0, 1) := by decide +kernel
theorem dX9_lives_51 : decode cX9_lives 51 = .ok (.aload_n 0, 1) := by decide +kernel
theorem dX9_lives_52 : decode cX9_lives 52 = .ok (.getfield 34, 3) := by decide +kernel
theorem dX9_lives_55 : decode cX9_lives 55 = .ok (.iload_n 1, 1) := by decide +kernel
theorem dX9_lives_56 : decode cX9_lives 56 = .ok (.iaload, 1) := by decide +kernel
theorem dX9_lives_57 : decode cX9_lives 57 = .ok (.invokevirtual 187, 3) := by decide +kernel
theorem dX9_lives_60 : decode cX9_lives 60 = .ok (.goto 4, 3) := by decide +kernel
theorem dX9_lives_63 : decode cX9_lives 63 = .ok (.iconst 0, 1) := by decide +kernel
theorem dX9_lives_64 : decode cX9_lives 64 = .ok (.iastore, 1) := by decide +kernel
theorem dX9_lives_65 : decode cX9_lives 65 = .ok (.aload_n 0, 1) := by decide +kernel
theorem dX9_lives_66 : decode cX9_lives 66 = .ok (.getfield 49, 3) := by decide +kernel
theorem dX9_lives_69 : decode cX9_lives 69 = .ok (.iload_n 1, 1) := by decide +kernel
theorem dX9_lives_70 : decode cX9_lives 70 = .ok (.iload_n 2, 1) := by decide +kernel
theorem dX9_lives_71 : decode cX9_lives 71 = .ok (.ifCond .eq 22, 3) := by decide +kernel
theorem dX9_lives_74 : decode cX9_lives 74 = .ok (.aload_n 0, 1) := by decide +kernel
theorem dX9_lives_75 : decode cX9_lives 75 = .ok (.aload_n 0, 1) := by decide +kernel
theorem dX9_lives_76 : decode cX9_lives 76 = .ok (.getfield 34, 3) := by decide +kernel
theorem dX9_lives_79 : decode cX9_lives 79 = .ok (.iload_n 1, 1) := by decide +kernel
theorem dX9_lives_80 : decode cX9_lives 80 = .ok (.iaload, 1) := by decide +kernel
theorem dX9_lives_81 : decode cX9_lives 81 = .ok (.aload_n 0, 1) := by decide +kernel
theorem dX9_lives_82 : decode cX9_lives 82 = .ok (.getfield 46, 3) := by decide +kernel
theorem dX9_lives_85 : decode cX9_lives 85 = .ok (.iload_n 1, 1) := by decide +kernel
theorem dX9_lives_86 : decode cX9_lives 86 = .ok (.iaload, 1) := by decide +kernel
theorem dX9_lives_87 : decode cX9_lives 87 = .ok (.invokevirtual 190, 3) := by decide +kernel
theorem dX9_lives_90 : decode cX9_lives 90 = .ok (.goto 4, 3) := by decide +kernel
theorem dX9_lives_93 : decode cX9_lives 93 = .ok (.iconst 0, 1) := by decide +kernel
theorem dX9_lives_94 : decode cX9_lives 94 = .ok (.iastore, 1) := by decide +kernel
theorem dX9_lives_95 : decode cX9_lives 95 = .ok (.aload_n 0, 1) := by decide +kernel
theorem dX9_lives_96 : decode cX9_lives 96 = .ok (.getfield 52, 3) := by decide +kernel
theorem dX9_lives_99 : decode cX9_lives 99 = .ok (.iload_n 1, 1) := by decide +kernel
theorem dX9_lives_100 : decode cX9_lives 100 = .ok (.iload_n 2, 1) := by decide +kernel
theorem dX9_lives_101 : decode cX9_lives 101 = .ok (.ifCond .eq 10, 3) := by decide +kernel
theorem dX9_lives_104 : decode cX9_lives 104 = .ok (.aload_n 0, 1) := by decide +kernel
theorem dX9_lives_105 : decode cX9_lives 105 = .ok (.getfield 161, 3) := by decide +kernel
theorem dX9_lives_108 : decode cX9_lives 108 = .ok (.goto 4, 3) := by decide +kernel
theorem dX9_lives_111 : decode cX9_lives 111 = .ok (.iconst 0, 1) := by decide +kernel
theorem dX9_lives_112 : decode cX9_lives 112 = .ok (.iastore, 1) := by decide +kernel
theorem dX9_lives_113 : decode cX9_lives 113 = .ok (.aload_n 0, 1) := by decide +kernel
theorem dX9_lives_114 : decode cX9_lives 114 = .ok (.getfield 43, 3) := by decide +kernel
theorem dX9_lives_117 : decode cX9_lives 117 = .ok (.iload_n 1, 1) := by decide +kernel
theorem dX9_lives_118 : decode cX9_lives 118 = .ok (.iconst 1, 1) := by decide +kernel
theorem dX9_lives_119 : decode cX9_lives 119 = .ok (.iadd, 1) := by decide +kernel
theorem dX9_lives_120 : decode cX9_lives 120 = .ok (.aload_n 0, 1) := by decide +kernel
theorem dX9_lives_121 : decode cX9_lives 121 = .ok (.getfield 155, 3) := by decide +kernel
theorem dX9_lives_124 : decode cX9_lives 124 = .ok (.iastore, 1) := by decide +kernel
theorem dX9_lives_125 : decode cX9_lives 125 = .ok (.iinc 1 1, 3) := by decide +kernel
theorem dX9_lives_128 : decode cX9_lives 128 = .ok (.goto (-112), 3) := by decide +kernel
theorem dX9_lives_131 : decode cX9_lives 131 = .ok (.return_, 1) := by decide +kernel
theorem dX9_find_0 : decode cX9_find 0 = .ok (.aload_n 0, 1) := by decide +kernel
theorem dX9_find_1 : decode cX9_find 1 = .ok (.invokevirtual 128, 3) := by decide +kernel
theorem dX9_find_4 : decode cX9_find 4 = .ok (.pop, 1) := by decide +kernel
theorem dX9_find_5 : decode cX9_find 5 = .ok (.aload_n 0, 1) := by decide +kernel
theorem dX9_find_6 : decode cX9_find 6 = .ok (.invokevirtual 132, 3) := by decide +kernel
theorem dX9_find_9 : decode cX9_find 9 = .ok (.pop, 1) := by decide +kernel
theorem dX9_find_10 : decode cX9_find 10 = .ok (.aload_n 0, 1) := by decide +kernel
theorem dX9_find_11 : decode cX9_find 11 = .ok (.invokevirtual 135, 3) := by decide +kernel
theorem dX9_find_14 : decode cX9_find 14 = .ok (.pop, 1) := by decide +kernel
theorem dX9_find_15 : decode cX9_find 15 = .ok (.aload_n 0, 1) := by decide +kernel
theorem dX9_find_16 : decode cX9_find 16 = .ok (.invokevirtual 193, 3) := by decide +kernel
theorem dX9_find_19 : decode cX9_find 19 = .ok (.return_, 1) := by decide +kernel
theorem dX9_gap_0 : decode cX9_gap 0 = .ok (.aload_n 0, 1) := by decide +kernel
theorem dX9_gap_1 : decode cX9_gap 1 = .ok (.invokevirtual 196, 3) := by decide +kernel
theorem dX9_gap_4 : decode cX9_gap 4 = .ok (.iload_n 1, 1) := by decide +kernel
theorem dX9_gap_5 : decode cX9_gap 5 = .ok (.i2l, 1) := by decide +kernel
theorem dX9_gap_6 : decode cX9_gap 6 = .ok (.lconst 0, 1) := by decide +kernel
theorem dX9_gap_7 : decode cX9_gap 7 = .ok (.aload_n 0, 1) := by decide +kernel
theorem dX9_gap_8 : decode cX9_gap 8 = .ok (.getfield 121, 3) := by decide +kernel
theorem dX9_gap_11 : decode cX9_gap 11 = .ok (.i2l, 1) := by decide +kernel
theorem dX9_gap_12 : decode cX9_gap 12 = .ok (.invokestatic 69, 3) := by decide +kernel
theorem dX9_gap_15 : decode cX9_gap 15 = .ok (.ifCond .eq 12, 3) := by decide +kernel
theorem dX9_gap_18 : decode cX9_gap 18 = .ok (.aload_n 0, 1) := by decide +kernel
theorem dX9_gap_19 : decode cX9_gap 19 = .ok (.getfield 43, 3) := by decide +kernel
theorem dX9_gap_22 : decode cX9_gap 22 = .ok (.iload_n 1, 1) := by decide +kernel
theorem dX9_gap_23 : decode cX9_gap 23 = .ok (.iaload, 1) := by decide +kernel
theorem dX9_gap_24 : decode cX9_gap 24 = .ok (.goto 5, 3) := by decide +kernel
theorem dX9_gap_27 : decode cX9_gap 27 = .ok (.bipush (-2), 2) := by decide +kernel
theorem dX9_gap_29 : decode cX9_gap 29 = .ok (.ireturn, 1) := by decide +kernel
theorem dX9_comesBy_0 : decode cX9_comesBy 0 = .ok (.iload_n 2, 1) := by decide +kernel
theorem dX9_comesBy_1 : decode cX9_comesBy 1 = .ok (.ifCond .ne 12, 3) := by decide +kernel
theorem dX9_comesBy_4 : decode cX9_comesBy 4 = .ok (.aload_n 0, 1) := by decide +kernel
theorem dX9_comesBy_5 : decode cX9_comesBy 5 = .ok (.getfield 46, 3) := by decide +kernel
theorem dX9_comesBy_8 : decode cX9_comesBy 8 = .ok (.iload_n 1, 1) := by decide +kernel
theorem dX9_comesBy_9 : decode cX9_comesBy 9 = .ok (.iaload, 1) := by decide +kernel
theorem dX9_comesBy_10 : decode cX9_comesBy 10 = .ok (.goto 23, 3) := by decide +kernel
theorem dX9_comesBy_13 : decode cX9_comesBy 13 = .ok (.iload_n 2, 1) := by decide +kernel
theorem dX9_comesBy_14 : decode cX9_comesBy 14 = .ok (.iconst 1, 1) := by decide +kernel
theorem dX9_comesBy_15 : decode cX9_comesBy 15 = .ok (.if_icmp .ne 12, 3) := by decide +kernel
theorem dX9_comesBy_18 : decode cX9_comesBy 18 = .ok (.aload_n 0, 1) := by decide +kernel
theorem dX9_comesBy_19 : decode cX9_comesBy 19 = .ok (.getfield 49, 3) := by decide +kernel
theorem dX9_comesBy_22 : decode cX9_comesBy 22 = .ok (.iload_n 1, 1) := by decide +kernel
theorem dX9_comesBy_23 : decode cX9_comesBy 23 = .ok (.iaload, 1) := by decide +kernel
theorem dX9_comesBy_24 : decode cX9_comesBy 24 = .ok (.goto 9, 3) := by decide +kernel
theorem dX9_comesBy_27 : decode cX9_comesBy 27 = .ok (.aload_n 0, 1) := by decide +kernel
theorem dX9_comesBy_28 : decode cX9_comesBy 28 = .ok (.getfield 52, 3) := by decide +kernel
theorem dX9_comesBy_31 : decode cX9_comesBy 31 = .ok (.iload_n 1, 1) := by decide +kernel
theorem dX9_comesBy_32 : decode cX9_comesBy 32 = .ok (.iaload, 1) := by decide +kernel
theorem dX9_comesBy_33 : decode cX9_comesBy 33 = .ok (.ireturn, 1) := by decide +kernel
theorem dX9_comes_0 : decode cX9_comes 0 = .ok (.aload_n 0, 1) := by decide +kernel
theorem dX9_comes_1 : decode cX9_comes 1 = .ok (.invokevirtual 196, 3) := by decide +kernel
theorem dX9_comes_4 : decode cX9_comes 4 = .ok (.iload_n 1, 1) := by decide +kernel
theorem dX9_comes_5 : decode cX9_comes 5 = .ok (.i2l, 1) := by decide +kernel
theorem dX9_comes_6 : decode cX9_comes 6 = .ok (.lconst 0, 1) := by decide +kernel
theorem dX9_comes_7 : decode cX9_comes 7 = .ok (.aload_n 0, 1) := by decide +kernel
theorem dX9_comes_8 : decode cX9_comes 8 = .ok (.getfield 121, 3) := by decide +kernel
theorem dX9_comes_11 : decode cX9_comes 11 = .ok (.iconst 1, 1) := by decide +kernel
theorem dX9_comes_12 : decode cX9_comes 12 = .ok (.isub, 1) := by decide +kernel
theorem dX9_comes_13 : decode cX9_comes 13 = .ok (.i2l, 1) := by decide +kernel
theorem dX9_comes_14 : decode cX9_comes 14 = .ok (.invokestatic 69, 3) := by decide +kernel
theorem dX9_comes_17 : decode cX9_comes 17 = .ok (.ifCond .eq 24, 3) := by decide +kernel
theorem dX9_comes_20 : decode cX9_comes 20 = .ok (.iload_n 2, 1) := by decide +kernel
theorem dX9_comes_21 : decode cX9_comes 21 = .ok (.i2l, 1) := by decide +kernel
theorem dX9_comes_22 : decode cX9_comes 22 = .ok (.lconst 0, 1) := by decide +kernel
theorem dX9_comes_23 : decode cX9_comes 23 = .ok (.ldc2_w 83, 3) := by decide +kernel
theorem dX9_comes_26 : decode cX9_comes 26 = .ok (.invokestatic 69, 3) := by decide +kernel
theorem dX9_comes_29 : decode cX9_comes 29 = .ok (.ifCond .eq 12, 3) := by decide +kernel
theorem dX9_comes_32 : decode cX9_comes 32 = .ok (.aload_n 0, 1) := by decide +kernel
theorem dX9_comes_33 : decode cX9_comes 33 = .ok (.iload_n 1, 1) := by decide +kernel
theorem dX9_comes_34 : decode cX9_comes 34 = .ok (.iload_n 2, 1) := by decide +kernel
theorem dX9_comes_35 : decode cX9_comes 35 = .ok (.invokevirtual 199, 3) := by decide +kernel
theorem dX9_comes_38 : decode cX9_comes 38 = .ok (.goto 5, 3) := by decide +kernel
theorem dX9_comes_41 : decode cX9_comes 41 = .ok (.bipush (-2), 2) := by decide +kernel
theorem dX9_comes_43 : decode cX9_comes 43 = .ok (.ireturn, 1) := by decide +kernel
theorem dX9_timesBy_0 : decode cX9_timesBy 0 = .ok (.iconst 0, 1) := by decide +kernel
theorem dX9_timesBy_1 : decode cX9_timesBy 1 = .ok (.istore_n 3, 1) := by decide +kernel
theorem dX9_timesBy_2 : decode cX9_timesBy 2 = .ok (.iconst 0, 1) := by decide +kernel
theorem dX9_timesBy_3 : decode cX9_timesBy 3 = .ok (.istore 4, 2) := by decide +kernel
theorem dX9_timesBy_5 : decode cX9_timesBy 5 = .ok (.iload 4, 2) := by decide +kernel
theorem dX9_timesBy_7 : decode cX9_timesBy 7 = .ok (.aload_n 0, 1) := by decide +kernel
theorem dX9_timesBy_8 : decode cX9_timesBy 8 = .ok (.getfield 121, 3) := by decide +kernel
theorem dX9_timesBy_11 : decode cX9_timesBy 11 = .ok (.if_icmp .ge 41, 3) := by decide +kernel
theorem dX9_timesBy_14 : decode cX9_timesBy 14 = .ok (.iload_n 3, 1) := by decide +kernel
theorem dX9_timesBy_15 : decode cX9_timesBy 15 = .ok (.aload_n 0, 1) := by decide +kernel
theorem dX9_timesBy_16 : decode cX9_timesBy 16 = .ok (.getfield 34, 3) := by decide +kernel
theorem dX9_timesBy_19 : decode cX9_timesBy 19 = .ok (.iload 4, 2) := by decide +kernel
theorem dX9_timesBy_21 : decode cX9_timesBy 21 = .ok (.iaload, 1) := by decide +kernel
theorem dX9_timesBy_22 : decode cX9_timesBy 22 = .ok (.iload_n 1, 1) := by decide +kernel
theorem dX9_timesBy_23 : decode cX9_timesBy 23 = .ok (.if_icmp .ne 20, 3) := by decide +kernel
theorem dX9_timesBy_26 : decode cX9_timesBy 26 = .ok (.aload_n 0, 1) := by decide +kernel
theorem dX9_timesBy_27 : decode cX9_timesBy 27 = .ok (.getfield 46, 3) := by decide +kernel
theorem dX9_timesBy_30 : decode cX9_timesBy 30 = .ok (.iload 4, 2) := by decide +kernel
theorem dX9_timesBy_32 : decode cX9_timesBy 32 = .ok (.iaload, 1) := by decide +kernel
theorem dX9_timesBy_33 : decode cX9_timesBy 33 = .ok (.iload_n 2, 1) := by decide +kernel
theorem dX9_timesBy_34 : decode cX9_timesBy 34 = .ok (.iconst 1, 1) := by decide +kernel
theorem dX9_timesBy_35 : decode cX9_timesBy 35 = .ok (.iadd, 1) := by decide +kernel
theorem dX9_timesBy_36 : decode cX9_timesBy 36 = .ok (.if_icmp .ne 7, 3) := by decide +kernel
theorem dX9_timesBy_39 : decode cX9_timesBy 39 = .ok (.iconst 1, 1) := by decide +kernel
theorem dX9_timesBy_40 : decode cX9_timesBy 40 = .ok (.goto 4, 3) := by decide +kernel
theorem dX9_timesBy_43 : decode cX9_timesBy 43 = .ok (.iconst 0, 1) := by decide +kernel
theorem dX9_timesBy_44 : decode cX9_timesBy 44 = .ok (.iadd, 1) := by decide +kernel
theorem dX9_timesBy_45 : decode cX9_timesBy 45 = .ok (.istore_n 3, 1) := by decide +kernel
theorem dX9_timesBy_46 : decode cX9_timesBy 46 = .ok (.iinc 4 1, 3) := by decide +kernel
theorem dX9_timesBy_49 : decode cX9_timesBy 49 = .ok (.goto (-44), 3) := by decide +kernel
theorem dX9_timesBy_52 : decode cX9_timesBy 52 = .ok (.iload_n 3, 1) := by decide +kernel
theorem dX9_timesBy_53 : decode cX9_timesBy 53 = .ok (.ireturn, 1) := by decide +kernel
theorem dX9_times_0 : decode cX9_times 0 = .ok (.aload_n 0, 1) := by decide +kernel
theorem dX9_times_1 : decode cX9_times 1 = .ok (.invokevirtual 196, 3) := by decide +kernel
theorem dX9_times_4 : decode cX9_times 4 = .ok (.aload_n 0, 1) := by decide +kernel
