theorem dX0_init_0 : decode cX0_init 0 = .ok (.aload_n 0, 1) := by decide +kernel
theorem dX0_init_1 : decode cX0_init 1 = .ok (.invokespecial 3, 3) := by decide +kernel
theorem dX0_init_4 : decode cX0_init 4 = .ok (.aload_n 0, 1) := by decide +kernel
theorem dX0_init_5 : decode cX0_init 5 = .ok (.iconst 5, 1) := by decide +kernel
theorem dX0_init_6 : decode cX0_init 6 = .ok (.putfield 9, 3) := by decide +kernel
theorem dX0_init_9 : decode cX0_init 9 = .ok (.aload_n 0, 1) := by decide +kernel
theorem dX0_init_10 : decode cX0_init 10 = .ok (.bipush 9, 2) := by decide +kernel
theorem dX0_init_12 : decode cX0_init 12 = .ok (.putfield 15, 3) := by decide +kernel
theorem dX0_init_15 : decode cX0_init 15 = .ok (.aload_n 0, 1) := by decide +kernel
theorem dX0_init_16 : decode cX0_init 16 = .ok (.iconst 4, 1) := by decide +kernel
theorem dX0_init_17 : decode cX0_init 17 = .ok (.newarray .int, 2) := by decide +kernel
theorem dX0_init_19 : decode cX0_init 19 = .ok (.dup, 1) := by decide +kernel
theorem dX0_init_20 : decode cX0_init 20 = .ok (.iconst 0, 1) := by decide +kernel
theorem dX0_init_21 : decode cX0_init 21 = .ok (.iconst 1, 1) := by decide +kernel
theorem dX0_init_22 : decode cX0_init 22 = .ok (.iastore, 1) := by decide +kernel
theorem dX0_init_23 : decode cX0_init 23 = .ok (.dup, 1) := by decide +kernel
theorem dX0_init_24 : decode cX0_init 24 = .ok (.iconst 1, 1) := by decide +kernel
theorem dX0_init_25 : decode cX0_init 25 = .ok (.iconst 2, 1) := by decide +kernel
theorem dX0_init_26 : decode cX0_init 26 = .ok (.iastore, 1) := by decide +kernel
theorem dX0_init_27 : decode cX0_init 27 = .ok (.dup, 1) := by decide +kernel
theorem dX0_init_28 : decode cX0_init 28 = .ok (.iconst 2, 1) := by decide +kernel
theorem dX0_init_29 : decode cX0_init 29 = .ok (.iconst (-1), 1) := by decide +kernel
theorem dX0_init_30 : decode cX0_init 30 = .ok (.iastore, 1) := by decide +kernel
theorem dX0_init_31 : decode cX0_init 31 = .ok (.dup, 1) := by decide +kernel
theorem dX0_init_32 : decode cX0_init 32 = .ok (.iconst 3, 1) := by decide +kernel
theorem dX0_init_33 : decode cX0_init 33 = .ok (.iconst 0, 1) := by decide +kernel
theorem dX0_init_34 : decode cX0_init 34 = .ok (.iastore, 1) := by decide +kernel
theorem dX0_init_35 : decode cX0_init 35 = .ok (.putfield 18, 3) := by decide +kernel
theorem dX0_init_38 : decode cX0_init 38 = .ok (.aload_n 0, 1) := by decide +kernel
theorem dX0_init_39 : decode cX0_init 39 = .ok (.bipush 19, 2) := by decide +kernel
theorem dX0_init_41 : decode cX0_init 41 = .ok (.newarray .boolean, 2) := by decide +kernel
theorem dX0_init_43 : decode cX0_init 43 = .ok (.putfield 22, 3) := by decide +kernel
theorem dX0_init_46 : decode cX0_init 46 = .ok (.aload_n 0, 1) := by decide +kernel
theorem dX0_init_47 : decode cX0_init 47 = .ok (.bipush 38, 2) := by decide +kernel
theorem dX0_init_49 : decode cX0_init 49 = .ok (.newarray .int, 2) := by decide +kernel
theorem dX0_init_51 : decode cX0_init 51 = .ok (.putfield 26, 3) := by decide +kernel
theorem dX0_init_54 : decode cX0_init 54 = .ok (.aload_n 0, 1) := by decide +kernel
theorem dX0_init_55 : decode cX0_init 55 = .ok (.bipush 38, 2) := by decide +kernel
theorem dX0_init_57 : decode cX0_init 57 = .ok (.newarray .int, 2) := by decide +kernel
theorem dX0_init_59 : decode cX0_init 59 = .ok (.putfield 29, 3) := by decide +kernel
theorem dX0_init_62 : decode cX0_init 62 = .ok (.return_, 1) := by decide +kernel
theorem dX0_take_0 : decode cX0_take 0 = .ok (.aload_n 0, 1) := by decide +kernel
theorem dX0_take_1 : decode cX0_take 1 = .ok (.iload_n 2, 1) := by decide +kernel
theorem dX0_take_2 : decode cX0_take 2 = .ok (.bipush 19, 2) := by decide +kernel
theorem dX0_take_4 : decode cX0_take 4 = .ok (.invokestatic 32, 3) := by decide +kernel
theorem dX0_take_7 : decode cX0_take 7 = .ok (.putfield 38, 3) := by decide +kernel
theorem dX0_take_10 : decode cX0_take 10 = .ok (.iconst 0, 1) := by decide +kernel
theorem dX0_take_11 : decode cX0_take 11 = .ok (.istore_n 3, 1) := by decide +kernel
theorem dX0_take_12 : decode cX0_take 12 = .ok (.iload_n 3, 1) := by decide +kernel
theorem dX0_take_13 : decode cX0_take 13 = .ok (.aload_n 0, 1) := by decide +kernel
theorem dX0_take_14 : decode cX0_take 14 = .ok (.getfield 38, 3) := by decide +kernel
theorem dX0_take_17 : decode cX0_take 17 = .ok (.if_icmp .ge 30, 3) := by decide +kernel
theorem dX0_take_20 : decode cX0_take 20 = .ok (.aload_n 0, 1) := by decide +kernel
theorem dX0_take_21 : decode cX0_take 21 = .ok (.getfield 22, 3) := by decide +kernel
theorem dX0_take_24 : decode cX0_take 24 = .ok (.iload_n 3, 1) := by decide +kernel
theorem dX0_take_25 : decode cX0_take 25 = .ok (.aload_n 1, 1) := by decide +kernel
theorem dX0_take_26 : decode cX0_take 26 = .ok (.iload_n 3, 1) := by decide +kernel
theorem dX0_take_27 : decode cX0_take 27 = .ok (.invokevirtual 41, 3) := by decide +kernel
theorem dX0_take_30 : decode cX0_take 30 = .ok (.bipush 114, 2) := by decide +kernel
theorem dX0_take_32 : decode cX0_take 32 = .ok (.if_icmp .ne 7, 3) := by decide +kernel
theorem dX0_take_35 : decode cX0_take 35 = .ok (.iconst 1, 1) := by decide +kernel
theorem dX0_take_36 : decode cX0_take 36 = .ok (.goto 4, 3) := by decide +kernel
theorem dX0_take_39 : decode cX0_take 39 = .ok (.iconst 0, 1) := by decide +kernel
theorem dX0_take_40 : decode cX0_take 40 = .ok (.bastore, 1) := by decide +kernel
theorem dX0_take_41 : decode cX0_take 41 = .ok (.iinc 3 1, 3) := by decide +kernel
theorem dX0_take_44 : decode cX0_take 44 = .ok (.goto (-32), 3) := by decide +kernel
theorem dX0_take_47 : decode cX0_take 47 = .ok (.iconst 0, 1) := by decide +kernel
theorem dX0_take_48 : decode cX0_take 48 = .ok (.istore_n 3, 1) := by decide +kernel
theorem dX0_take_49 : decode cX0_take 49 = .ok (.iload_n 3, 1) := by decide +kernel
theorem dX0_take_50 : decode cX0_take 50 = .ok (.aload_n 0, 1) := by decide +kernel
theorem dX0_take_51 : decode cX0_take 51 = .ok (.getfield 38, 3) := by decide +kernel
theorem dX0_take_54 : decode cX0_take 54 = .ok (.if_icmp .ge 21, 3) := by decide +kernel
theorem dX0_take_57 : decode cX0_take 57 = .ok (.aload_n 0, 1) := by decide +kernel
theorem dX0_take_58 : decode cX0_take 58 = .ok (.iconst 0, 1) := by decide +kernel
theorem dX0_take_59 : decode cX0_take 59 = .ok (.iload_n 3, 1) := by decide +kernel
theorem dX0_take_60 : decode cX0_take 60 = .ok (.invokevirtual 47, 3) := by decide +kernel
theorem dX0_take_63 : decode cX0_take 63 = .ok (.aload_n 0, 1) := by decide +kernel
theorem dX0_take_64 : decode cX0_take 64 = .ok (.iconst 1, 1) := by decide +kernel
theorem dX0_take_65 : decode cX0_take 65 = .ok (.iload_n 3, 1) := by decide +kernel
theorem dX0_take_66 : decode cX0_take 66 = .ok (.invokevirtual 47, 3) := by decide +kernel
theorem dX0_take_69 : decode cX0_take 69 = .ok (.iinc 3 1, 3) := by decide +kernel
theorem dX0_take_72 : decode cX0_take 72 = .ok (.goto (-23), 3) := by decide +kernel
theorem dX0_take_75 : decode cX0_take 75 = .ok (.return_, 1) := by decide +kernel
theorem dX0_measure_0 : decode cX0_measure 0 = .ok (.iconst 0, 1) := by decide +kernel
theorem dX0_measure_1 : decode cX0_measure 1 = .ok (.istore_n 3, 1) := by decide +kernel
theorem dX0_measure_2 : decode cX0_measure 2 = .ok (.iconst 0, 1) := by decide +kernel
theorem dX0_measure_3 : decode cX0_measure 3 = .ok (.istore 4, 2) := by decide +kernel
theorem dX0_measure_5 : decode cX0_measure 5 = .ok (.iconst 0, 1) := by decide +kernel
theorem dX0_measure_6 : decode cX0_measure 6 = .ok (.istore 5, 2) := by decide +kernel
theorem dX0_measure_8 : decode cX0_measure 8 = .ok (.iconst 0, 1) := by decide +kernel
theorem dX0_measure_9 : decode cX0_measure 9 = .ok (.istore 6, 2) := by decide +kernel
theorem dX0_measure_11 : decode cX0_measure 11 = .ok (.iload 6, 2) := by decide +kernel
theorem dX0_measure_13 : decode cX0_measure 13 = .ok (.aload_n 0, 1) := by decide +kernel
theorem dX0_measure_14 : decode cX0_measure 14 = .ok (.getfield 38, 3) := by decide +kernel
theorem dX0_measure_17 : decode cX0_measure 17 = .ok (.if_icmp .ge 48, 3) := by decide +kernel
theorem dX0_measure_20 : decode cX0_measure 20 = .ok (.aload_n 0, 1) := by decide +kernel
theorem dX0_measure_21 : decode cX0_measure 21 = .ok (.iload 6, 2) := by decide +kernel
theorem dX0_measure_23 : decode cX0_measure 23 = .ok (.iload_n 1, 1) := by decide +kernel
theorem dX0_measure_24 : decode cX0_measure 24 = .ok (.iload_n 2, 1) := by decide +kernel
theorem dX0_measure_25 : decode cX0_measure 25 = .ok (.invokevirtual 51, 3) := by decide +kernel
theorem dX0_measure_28 : decode cX0_measure 28 = .ok (.ifCond .eq 10, 3) := by decide +kernel
theorem dX0_measure_31 : decode cX0_measure 31 = .ok (.iload 5, 2) := by decide +kernel
theorem dX0_measure_33 : decode cX0_measure 33 = .ok (.iconst 1, 1) := by decide +kernel
theorem dX0_measure_34 : decode cX0_measure 34 = .ok (.iadd, 1) := by decide +kernel
theorem dX0_measure_35 : decode cX0_measure 35 = .ok (.goto 4, 3) := by decide +kernel
theorem dX0_measure_38 : decode cX0_measure 38 = .ok (.iconst 0, 1) := by decide +kernel
theorem dX0_measure_39 : decode cX0_measure 39 = .ok (.istore 5, 2) := by decide +kernel
theorem dX0_measure_41 : decode cX0_measure 41 = .ok (.iload 4, 2) := by decide +kernel
theorem dX0_measure_43 : decode cX0_measure 43 = .ok (.iload 5, 2) := by decide +kernel
theorem dX0_measure_45 : decode cX0_measure 45 = .ok (.invokestatic 55, 3) := by decide +kernel
theorem dX0_measure_48 : decode cX0_measure 48 = .ok (.istore 4, 2) := by decide +kernel
theorem dX0_measure_50 : decode cX0_measure 50 = .ok (.iload 5, 2) := by decide +kernel
theorem dX0_measure_52 : decode cX0_measure 52 = .ok (.iconst 1, 1) := by decide +kernel
theorem dX0_measure_53 : decode cX0_measure 53 = .ok (.if_icmp .ne 6, 3) := by decide +kernel
theorem dX0_measure_56 : decode cX0_measure 56 = .ok (.iinc 3 1, 3) := by decide +kernel
theorem dX0_measure_59 : decode cX0_measure 59 = .ok (.iinc 6 1, 3) := by decide +kernel
theorem dX0_measure_62 : decode cX0_measure 62 = .ok (.goto (-51), 3) := by decide +kernel
theorem dX0_measure_65 : decode cX0_measure 65 = .ok (.aload_n 0, 1) := by decide +kernel
theorem dX0_measure_66 : decode cX0_measure 66 = .ok (.getfield 26, 3) := by decide +kernel
theorem dX0_measure_69 : decode cX0_measure 69 = .ok (.iload_n 1, 1) := by decide +kernel
theorem dX0_measure_70 : decode cX0_measure 70 = .ok (.bipush 19, 2) := by decide +kernel
theorem dX0_measure_72 : decode cX0_measure 72 = .ok (.imul, 1) := by decide +kernel
theorem dX0_measure_73 : decode cX0_measure 73 = .ok (.iload_n 2, 1) := by decide +kernel
theorem dX0_measure_74 : decode cX0_measure 74 = .ok (.iadd, 1) := by decide +kernel
theorem dX0_measure_75 : decode cX0_measure 75 = .ok (.iload_n 3, 1) := by decide +kernel
theorem dX0_measure_76 : decode cX0_measure 76 = .ok (.iastore, 1) := by decide +kernel
theorem dX0_measure_77 : decode cX0_measure 77 = .ok (.aload_n 0, 1) := by decide +kernel
theorem dX0_measure_78 : decode cX0_measure 78 = .ok (.getfield 29, 3) := by decide +kernel
theorem dX0_measure_81 : decode cX0_measure 81 = .ok (.iload_n 1, 1) := by decide +kernel
theorem dX0_measure_82 : decode cX0_measure 82 = .ok (.bipush 19, 2) := by decide +kernel
theorem dX0_measure_84 : decode cX0_measure 84 = .ok (.imul, 1) := by decide +kernel
theorem dX0_measure_85 : decode cX0_measure 85 = .ok (.iload_n 2, 1) := by decide +kernel
theorem dX0_measure_86 : decode cX0_measure 86 = .ok (.iadd, 1) := by decide +kernel
theorem dX0_measure_87 : decode cX0_measure 87 = .ok (.iload 4, 2) := by decide +kernel
theorem dX0_measure_89 : decode cX0_measure 89 = .ok (.iastore, 1) := by decide +kernel
theorem dX0_measure_90 : decode cX0_measure 90 = .ok (.return_, 1) := by decide +kernel
theorem dX0_isHole_0 : decode cX0_isHole 0 = .ok (.iload_n 1, 1) := by decide +kernel
theorem dX0_isHole_1 : decode cX0_isHole 1 = .ok (.iload_n 3, 1) := by decide +kernel
theorem dX0_isHole_2 : decode cX0_isHole 2 = .ok (.if_icmp .eq 17, 3) := by decide +kernel
theorem dX0_isHole_5 : decode cX0_isHole 5 = .ok (.iload_n 2, 1) := by decide +kernel
theorem dX0_isHole_6 : decode cX0_isHole 6 = .ok (.iconst 1, 1) := by decide +kernel
theorem dX0_isHole_7 : decode cX0_isHole 7 = .ok (.if_icmp .ne 14, 3) := by decide +kernel
theorem dX0_isHole_10 : decode cX0_isHole 10 = .ok (.aload_n 0, 1) := by decide +kernel
theorem dX0_isHole_11 : decode cX0_isHole 11 = .ok (.getfield 22, 3) := by decide +kernel
theorem dX0_isHole_14 : decode cX0_isHole 14 = .ok (.iload_n 1, 1) := by decide +kernel
theorem dX0_isHole_15 : decode cX0_isHole 15 = .ok (.baload, 1) := by decide +kernel
theorem dX0_isHole_16 : decode cX0_isHole 16 = .ok (.ifCond .eq 5, 3) := by decide +kernel
theorem dX0_isHole_19 : decode cX0_isHole 19 = .ok (.iconst 1, 1) := by decide +kernel
theorem dX0_isHole_20 : decode cX0_isHole 20 = .ok (.ireturn, 1) := by decide +kernel
theorem dX0_isHole_21 : decode cX0_isHole 21 = .ok (.iload_n 3, 1) := by decide +kernel
theorem dX0_isHole_22 : decode cX0_isHole 22 = .ok (.iconst 1, 1) := by decide +kernel
theorem dX0_isHole_23 : decode cX0_isHole 23 = .ok (.iadd, 1) := by decide +kernel
theorem dX0_isHole_24 : decode cX0_isHole 24 = .ok (.aload_n 0, 1) := by decide +kernel
theorem dX0_isHole_25 : decode cX0_isHole 25 = .ok (.getfield 38, 3) := by decide +kernel
theorem dX0_isHole_28 : decode cX0_isHole 28 = .ok (.if_icmp .ge 9, 3) := by decide +kernel
theorem dX0_isHole_31 : decode cX0_isHole 31 = .ok (.iload_n 3, 1) := by decide +kernel
theorem dX0_isHole_32 : decode cX0_isHole 32 = .ok (.iconst 1, 1) := by decide +kernel
theorem dX0_isHole_33 : decode cX0_isHole 33 = .ok (.iadd, 1) := by decide +kernel
theorem dX0_isHole_34 : decode cX0_isHole 34 = .ok (.goto 4, 3) := by decide +kernel
theorem dX0_isHole_37 : decode cX0_isHole 37 = .ok (.iconst 0, 1) := by decide +kernel
theorem dX0_isHole_38 : decode cX0_isHole 38 = .ok (.istore 4, 2) := by decide +kernel
theorem dX0_isHole_40 : decode cX0_isHole 40 = .ok (.aload_n 0, 1) := by decide +kernel
theorem dX0_isHole_41 : decode cX0_isHole 41 = .ok (.getfield 9, 3) := by decide +kernel
theorem dX0_isHole_44 : decode cX0_isHole 44 = .ok (.bipush 7, 2) := by decide +kernel
theorem dX0_isHole_46 : decode cX0_isHole 46 = .ok (.if_icmp .lt 13, 3) := by decide +kernel
theorem dX0_isHole_49 : decode cX0_isHole 49 = .ok (.iload_n 1, 1) := by decide +kernel
theorem dX0_isHole_50 : decode cX0_isHole 50 = .ok (.iload 4, 2) := by decide +kernel
theorem dX0_isHole_52 : decode cX0_isHole 52 = .ok (.if_icmp .ne 7, 3) := by decide +kernel
theorem dX0_isHole_55 : decode cX0_isHole 55 = .ok (.iconst 1, 1) := by decide +kernel
theorem dX0_isHole_56 : decode cX0_isHole 56 = .ok (.goto 4, 3) := by decide +kernel
theorem dX0_isHole_59 : decode cX0_isHole 59 = .ok (.iconst 0, 1) := by decide +kernel
theorem dX0_isHole_60 : decode cX0_isHole 60 = .ok (.ireturn, 1) := by decide +kernel
theorem dX0_hasPlank_0 : decode cX0_hasPlank 0 = .ok (.iload_n 1, 1) := by decide +kernel
theorem dX0_hasPlank_1 : decode cX0_hasPlank 1 = .ok (.iconst 0, 1) := by decide +kernel
theorem dX0_hasPlank_2 : decode cX0_hasPlank 2 = .ok (.aload_n 0, 1) := by decide +kernel
theorem dX0_hasPlank_3 : decode cX0_hasPlank 3 = .ok (.getfield 38, 3) := by decide +kernel
theorem dX0_hasPlank_6 : decode cX0_hasPlank 6 = .ok (.iconst 1, 1) := by decide +kernel
theorem dX0_hasPlank_7 : decode cX0_hasPlank 7 = .ok (.isub, 1) := by decide +kernel
theorem dX0_hasPlank_8 : decode cX0_hasPlank 8 = .ok (.invokestatic 58, 3) := by decide +kernel
theorem dX0_hasPlank_11 : decode cX0_hasPlank 11 = .ok (.ireturn, 1) := by decide +kernel
theorem dX0_isRotten_0 : decode cX0_isRotten 0 = .ok (.aload_n 0, 1) := by decide +kernel
theorem dX0_isRotten_1 : decode cX0_isRotten 1 = .ok (.iload_n 1, 1) := by decide +kernel
theorem dX0_isRotten_2 : decode cX0_isRotten 2 = .ok (.invokevirtual 61, 3) := by decide +kernel
theorem dX0_isRotten_5 : decode cX0_isRotten 5 = .ok (.ifCond .eq 16, 3) := by decide +kernel
theorem dX0_isRotten_8 : decode cX0_isRotten 8 = .ok (.aload_n 0, 1) := by decide +kernel
theorem dX0_isRotten_9 : decode cX0_isRotten 9 = .ok (.getfield 22, 3) := by decide +kernel
theorem dX0_isRotten_12 : decode cX0_isRotten 12 = .ok (.iload_n 1, 1) := by decide +kernel
theorem dX0_isRotten_13 : decode cX0_isRotten 13 = .ok (.baload, 1) := by decide +kernel
theorem dX0_isRotten_14 : decode cX0_isRotten 14 = .ok (.ifCond .eq 7, 3) := by decide +kernel
theorem dX0_isRotten_17 : decode cX0_isRotten 17 = .ok (.iconst 1, 1) := by decide +kernel
theorem dX0_isRotten_18 : decode cX0_isRotten 18 = .ok (.goto 4, 3) := by decide +kernel
theorem dX0_isRotten_21 : decode cX0_isRotten 21 = .ok (.iconst 0, 1) := by decide +kernel
theorem dX0_isRotten_22 : decode cX0_isRotten 22 = .ok (.ireturn, 1) := by decide +kernel
theorem dX0_firstGap_0 : decode cX0_firstGap 0 = .ok (.aload_n 0, 1) := by decide +kernel
theorem dX0_firstGap_1 : decode cX0_firstGap 1 = .ok (.getfield 38, 3) := by decide +kernel
theorem dX0_firstGap_4 : decode cX0_firstGap 4 = .ok (.ifCond .ne 7, 3) := by decide +kernel
theorem dX0_firstGap_7 : decode cX0_firstGap 7 = .ok (.iconst (-1), 1) := by decide +kernel
theorem dX0_firstGap_8 : decode cX0_firstGap 8 = .ok (.goto 12, 3) := by decide +kernel
theorem dX0_firstGap_11 : decode cX0_firstGap 11 = .ok (.aload_n 0, 1) := by decide +kernel
theorem dX0_firstGap_12 : decode cX0_firstGap 12 = .ok (.getfield 15, 3) := by decide +kernel
theorem dX0_firstGap_15 : decode cX0_firstGap 15 = .ok (.aload_n 0, 1) := by decide +kernel
theorem dX0_firstGap_16 : decode cX0_firstGap 16 = .ok (.getfield 38, 3) := by decide +kernel
theorem dX0_firstGap_19 : decode cX0_firstGap 19 = .ok (.irem, 1) := by decide +kernel
theorem dX0_firstGap_20 : decode cX0_firstGap 20 = .ok (.ireturn, 1) := by decide +kernel
theorem dX0_outcome_0 : decode cX0_outcome 0 = .ok (.aload_n 1, 1) := by decide +kernel
theorem dX0_outcome_1 : decode cX0_outcome 1 = .ok (.ifnull 23, 3) := by decide +kernel
theorem dX0_outcome_4 : decode cX0_outcome 4 = .ok (.aload_n 0, 1) := by decide +kernel
theorem dX0_outcome_5 : decode cX0_outcome 5 = .ok (.getfield 9, 3) := by decide +kernel
theorem dX0_outcome_8 : decode cX0_outcome 8 = .ok (.iconst 1, 1) := by decide +kernel
theorem dX0_outcome_9 : decode cX0_outcome 9 = .ok (.if_icmp .le 15, 3) := by decide +kernel
theorem dX0_outcome_12 : decode cX0_outcome 12 = .ok (.iload_n 2, 1) := by decide +kernel
theorem dX0_outcome_13 : decode cX0_outcome 13 = .ok (.ifCond .lt 11, 3) := by decide +kernel
theorem dX0_outcome_16 : decode cX0_outcome 16 = .ok (.iload_n 2, 1) := by decide +kernel
theorem dX0_outcome_17 : decode cX0_outcome 17 = .ok (.aload_n 0, 1) := by decide +kernel
theorem dX0_outcome_18 : decode cX0_outcome 18 = .ok (.getfield 38, 3) := by decide +kernel
theorem dX0_outcome_21 : decode cX0_outcome 21 = .ok (.if_icmp .lt 5, 3) := by decide +kernel
theorem dX0_outcome_24 : decode cX0_outcome 24 = .ok (.iconst 0, 1) := by decide +kernel
theorem dX0_outcome_25 : decode cX0_outcome 25 = .ok (.ireturn, 1) := by decide +kernel
theorem dX0_outcome_26 : decode cX0_outcome 26 = .ok (.aload_n 0, 1) := by decide +kernel
theorem dX0_outcome_27 : decode cX0_outcome 27 = .ok (.getfield 29, 3) := by decide +kernel
theorem dX0_outcome_30 : decode cX0_outcome 30 = .ok (.aload_n 1, 1) := by decide +kernel
theorem dX0_outcome_31 : decode cX0_outcome 31 = .ok (.getfield 65, 3) := by decide +kernel
theorem dX0_outcome_34 : decode cX0_outcome 34 = .ok (.bipush 19, 2) := by decide +kernel
theorem dX0_outcome_36 : decode cX0_outcome 36 = .ok (.imul, 1) := by decide +kernel
theorem dX0_outcome_37 : decode cX0_outcome 37 = .ok (.iload_n 2, 1) := by decide +kernel
theorem dX0_outcome_38 : decode cX0_outcome 38 = .ok (.iadd, 1) := by decide +kernel
theorem dX0_outcome_39 : decode cX0_outcome 39 = .ok (.iaload, 1) := by decide +kernel
theorem dX0_outcome_40 : decode cX0_outcome 40 = .ok (.aload_n 1, 1) := by decide +kernel
theorem dX0_outcome_41 : decode cX0_outcome 41 = .ok (.getfield 70, 3) := by decide +kernel
theorem dX0_outcome_44 : decode cX0_outcome 44 = .ok (.if_icmp .le 7, 3) := by decide +kernel
theorem dX0_outcome_47 : decode cX0_outcome 47 = .ok (.iconst 2, 1) := by decide +kernel
theorem dX0_outcome_48 : decode cX0_outcome 48 = .ok (.goto 4, 3) := by decide +kernel
theorem dX0_outcome_51 : decode cX0_outcome 51 = .ok (.iconst 1, 1) := by decide +kernel
theorem dX0_outcome_52 : decode cX0_outcome 52 = .ok (.ireturn, 1) := by decide +kernel
theorem dX0_toll_0 : decode cX0_toll 0 = .ok (.aload_n 0, 1) := by decide +kernel
theorem dX0_toll_1 : decode cX0_toll 1 = .ok (.aload_n 1, 1) := by decide +kernel
theorem dX0_toll_2 : decode cX0_toll 2 = .ok (.iload_n 2, 1) := by decide +kernel
theorem dX0_toll_3 : decode cX0_toll 3 = .ok (.invokevirtual 73, 3) := by decide +kernel
theorem dX0_toll_6 : decode cX0_toll 6 = .ok (.iconst 1, 1) := by decide +kernel
theorem dX0_toll_7 : decode cX0_toll 7 = .ok (.if_icmp .ne 11, 3) := by decide +kernel
theorem dX0_toll_10 : decode cX0_toll 10 = .ok (.aload_n 1, 1) := by decide +kernel
theorem dX0_toll_11 : decode cX0_toll 11 = .ok (.getfield 77, 3) := by decide +kernel
theorem dX0_toll_14 : decode cX0_toll 14 = .ok (.iconst 4, 1) := by decide +kernel
theorem dX0_toll_15 : decode cX0_toll 15 = .ok (.if_icmp .ne 5, 3) := by decide +kernel
theorem dX0_toll_18 : decode cX0_toll 18 = .ok (.iconst 0, 1) := by decide +kernel
theorem dX0_toll_19 : decode cX0_toll 19 = .ok (.ireturn, 1) := by decide +kernel
theorem dX0_toll_20 : decode cX0_toll 20 = .ok (.aload_n 0, 1) := by decide +kernel
theorem dX0_toll_21 : decode cX0_toll 21 = .ok (.getfield 26, 3) := by decide +kernel
theorem dX0_toll_24 : decode cX0_toll 24 = .ok (.aload_n 1, 1) := by decide +kernel
theorem dX0_toll_25 : decode cX0_toll 25 = .ok (.getfield 65, 3) := by decide +kernel
theorem dX0_toll_28 : decode cX0_toll 28 = .ok (.bipush 19, 2) := by decide +kernel
theorem dX0_toll_30 : decode cX0_toll 30 = .ok (.imul, 1) := by decide +kernel
theorem dX0_toll_31 : decode cX0_toll 31 = .ok (.iload_n 2, 1) := by decide +kernel
theorem dX0_toll_32 : decode cX0_toll 32 = .ok (.iadd, 1) := by decide +kernel
theorem dX0_toll_33 : decode cX0_toll 33 = .ok (.iaload, 1) := by decide +kernel
theorem dX0_toll_34 : decode cX0_toll 34 = .ok (.ireturn, 1) := by decide +kernel
theorem dX0_longestRow_0 : decode cX0_longestRow 0 = .ok (.aload_n 0, 1) := by decide +kernel
theorem dX0_longestRow_1 : decode cX0_longestRow 1 = .ok (.aload_n 1, 1) := by decide +kernel
theorem dX0_longestRow_2 : decode cX0_longestRow 2 = .ok (.iload_n 2, 1) := by decide +kernel
theorem dX0_longestRow_3 : decode cX0_longestRow 3 = .ok (.invokevirtual 73, 3) := by decide +kernel
theorem dX0_longestRow_6 : decode cX0_longestRow 6 = .ok (.ifCond .ne 7, 3) := by decide +kernel
theorem dX0_longestRow_9 : decode cX0_longestRow 9 = .ok (.iconst 0, 1) := by decide +kernel
theorem dX0_longestRow_10 : decode cX0_longestRow 10 = .ok (.goto 17, 3) := by decide +kernel
theorem dX0_longestRow_13 : decode cX0_longestRow 13 = .ok (.aload_n 0, 1) := by decide +kernel
theorem dX0_longestRow_14 : decode cX0_longestRow 14 = .ok (.getfield 29, 3) := by decide +kernel
theorem dX0_longestRow_17 : decode cX0_longestRow 17 = .ok (.aload_n 1, 1) := by decide +kernel
theorem dX0_longestRow_18 : decode cX0_longestRow 18 = .ok (.getfield 65, 3) := by decide +kernel
theorem dX0_longestRow_21 : decode cX0_longestRow 21 = .ok (.bipush 19, 2) := by decide +kernel
theorem dX0_longestRow_23 : decode cX0_longestRow 23 = .ok (.imul, 1) := by decide +kernel
theorem dX0_longestRow_24 : decode cX0_longestRow 24 = .ok (.iload_n 2, 1) := by decide +kernel
theorem dX0_longestRow_25 : decode cX0_longestRow 25 = .ok (.iadd, 1) := by decide +kernel
theorem dX0_longestRow_26 : decode cX0_longestRow 26 = .ok (.iaload, 1) := by decide +kernel
theorem dX0_longestRow_27 : decode cX0_longestRow 27 = .ok (.ireturn, 1) := by decide +kernel
theorem dX0_gapBehind_0 : decode cX0_gapBehind 0 = .ok (.aload_n 0, 1) := by decide +kernel
theorem dX0_gapBehind_1 : decode cX0_gapBehind 1 = .ok (.aload_n 1, 1) := by decide +kernel
theorem dX0_gapBehind_2 : decode cX0_gapBehind 2 = .ok (.iload_n 2, 1) := by decide +kernel
theorem dX0_gapBehind_3 : decode cX0_gapBehind 3 = .ok (.invokevirtual 73, 3) := by decide +kernel
theorem dX0_gapBehind_6 : decode cX0_gapBehind 6 = .ok (.iconst 1, 1) := by decide +kernel
theorem dX0_gapBehind_7 : decode cX0_gapBehind 7 = .ok (.if_icmp .eq 5, 3) := by decide +kernel
theorem dX0_gapBehind_10 : decode cX0_gapBehind 10 = .ok (.iload_n 2, 1) := by decide +kernel
theorem dX0_gapBehind_11 : decode cX0_gapBehind 11 = .ok (.ireturn, 1) := by decide +kernel
theorem dX0_gapBehind_12 : decode cX0_gapBehind 12 = .ok (.aload_n 1, 1) := by decide +kernel
theorem dX0_gapBehind_13 : decode cX0_gapBehind 13 = .ok (.getfield 77, 3) := by decide +kernel
theorem dX0_gapBehind_16 : decode cX0_gapBehind 16 = .ok (.iconst 4, 1) := by decide +kernel
theorem dX0_gapBehind_17 : decode cX0_gapBehind 17 = .ok (.if_icmp .ne 12, 3) := by decide +kernel
theorem dX0_gapBehind_20 : decode cX0_gapBehind 20 = .ok (.aload_n 0, 1) := by decide +kernel
theorem dX0_gapBehind_21 : decode cX0_gapBehind 21 = .ok (.getfield 38, 3) := by decide +kernel
theorem dX0_gapBehind_24 : decode cX0_gapBehind 24 = .ok (.iconst 1, 1) := by decide +kernel
theorem dX0_gapBehind_25 : decode cX0_gapBehind 25 = .ok (.isub, 1) := by decide +kernel
theorem dX0_gapBehind_26 : decode cX0_gapBehind 26 = .ok (.iload_n 2, 1) := by decide +kernel
theorem dX0_gapBehind_27 : decode cX0_gapBehind 27 = .ok (.isub, 1) := by decide +kernel
theorem dX0_gapBehind_28 : decode cX0_gapBehind 28 = .ok (.ireturn, 1) := by decide +kernel
theorem dX0_gapBehind_29 : decode cX0_gapBehind 29 = .ok (.aload_n 1, 1) := by decide +kernel
theorem dX0_gapBehind_30 : decode cX0_gapBehind 30 = .ok (.aload_n 3, 1) := by decide +kernel
theorem dX0_gapBehind_31 : decode cX0_gapBehind 31 = .ok (.invokevirtual 80, 3) := by decide +kernel
theorem dX0_gapBehind_34 : decode cX0_gapBehind 34 = .ok (.istore 4, 2) := by decide +kernel
theorem dX0_gapBehind_36 : decode cX0_gapBehind 36 = .ok (.aload_n 1, 1) := by decide +kernel
theorem dX0_gapBehind_37 : decode cX0_gapBehind 37 = .ok (.getfield 84, 3) := by decide +kernel
theorem dX0_gapBehind_40 : decode cX0_gapBehind 40 = .ok (.ifCond .ne 10, 3) := by decide +kernel
theorem dX0_gapBehind_43 : decode cX0_gapBehind 43 = .ok (.iload_n 2, 1) := by decide +kernel
theorem dX0_gapBehind_44 : decode cX0_gapBehind 44 = .ok (.iload 4, 2) := by decide +kernel
theorem dX0_gapBehind_46 : decode cX0_gapBehind 46 = .ok (.iadd, 1) := by decide +kernel
theorem dX0_gapBehind_47 : decode cX0_gapBehind 47 = .ok (.goto 7, 3) := by decide +kernel
theorem dX0_gapBehind_50 : decode cX0_gapBehind 50 = .ok (.iload_n 2, 1) := by decide +kernel
theorem dX0_gapBehind_51 : decode cX0_gapBehind 51 = .ok (.iload 4, 2) := by decide +kernel
theorem dX0_gapBehind_53 : decode cX0_gapBehind 53 = .ok (.isub, 1) := by decide +kernel
theorem dX0_gapBehind_54 : decode cX0_gapBehind 54 = .ok (.aload_n 0, 1) := by decide +kernel
theorem dX0_gapBehind_55 : decode cX0_gapBehind 55 = .ok (.getfield 38, 3) := by decide +kernel
theorem dX0_gapBehind_58 : decode cX0_gapBehind 58 = .ok (.invokestatic 87, 3) := by decide +kernel
theorem dX0_gapBehind_61 : decode cX0_gapBehind 61 = .ok (.ireturn, 1) := by decide +kernel
theorem dX1_init_0 : decode cX1_init 0 = .ok (.aload_n 0, 1) := by decide +kernel
theorem dX1_init_1 : decode cX1_init 1 = .ok (.invokespecial 3, 3) := by decide +kernel
theorem dX1_init_4 : decode cX1_init 4 = .ok (.return_, 1) := by decide +kernel
theorem dX1_take_0 : decode cX1_take 0 = .ok (.aload_n 0, 1) := by decide +kernel
theorem dX1_take_1 : decode cX1_take 1 = .ok (.aload_n 1, 1) := by decide +kernel
theorem dX1_take_2 : decode cX1_take 2 = .ok (.iload_n 2, 1) := by decide +kernel
theorem dX1_take_3 : decode cX1_take 3 = .ok (.invokevirtual 9, 3) := by decide +kernel
theorem dX1_take_6 : decode cX1_take 6 = .ok (.getstatic 15, 3) := by decide +kernel
theorem dX1_take_9 : decode cX1_take 9 = .ok (.invokestatic 19, 3) := by decide +kernel
theorem dX1_take_12 : decode cX1_take 12 = .ok (.putfield 23, 3) := by decide +kernel
theorem dX1_take_15 : decode cX1_take 15 = .ok (.aload_n 0, 1) := by decide +kernel
theorem dX1_take_16 : decode cX1_take 16 = .ok (.iconst 1, 1) := by decide +kernel
theorem dX1_take_17 : decode cX1_take 17 = .ok (.aload_n 1, 1) := by decide +kernel
theorem dX1_take_18 : decode cX1_take 18 = .ok (.iload_n 2, 1) := by decide +kernel
theorem dX1_take_19 : decode cX1_take 19 = .ok (.iconst 1, 1) := by decide +kernel
theorem dX1_take_20 : decode cX1_take 20 = .ok (.iadd, 1) := by decide +kernel
theorem dX1_take_21 : decode cX1_take 21 = .ok (.invokevirtual 9, 3) := by decide +kernel
theorem dX1_take_24 : decode cX1_take 24 = .ok (.getstatic 29, 3) := by decide +kernel
theorem dX1_take_27 : decode cX1_take 27 = .ok (.invokestatic 19, 3) := by decide +kernel
theorem dX1_take_30 : decode cX1_take 30 = .ok (.iadd, 1) := by decide +kernel
theorem dX1_take_31 : decode cX1_take 31 = .ok (.putfield 32, 3) := by decide +kernel
theorem dX1_take_34 : decode cX1_take 34 = .ok (.aload_n 0, 1) := by decide +kernel
theorem dX1_take_35 : decode cX1_take 35 = .ok (.aload_n 0, 1) := by decide +kernel
theorem dX1_take_36 : decode cX1_take 36 = .ok (.getfield 32, 3) := by decide +kernel
theorem dX1_take_39 : decode cX1_take 39 = .ok (.bipush 6, 2) := by decide +kernel
theorem dX1_take_41 : decode cX1_take 41 = .ok (.if_icmp .lt 7, 3) := by decide +kernel
theorem dX1_take_44 : decode cX1_take 44 = .ok (.iconst 1, 1) := by decide +kernel
theorem dX1_take_45 : decode cX1_take 45 = .ok (.goto 4, 3) := by decide +kernel
theorem dX1_take_48 : decode cX1_take 48 = .ok (.iconst 0, 1) := by decide +kernel
theorem dX1_take_49 : decode cX1_take 49 = .ok (.putfield 35, 3) := by decide +kernel
theorem dX1_take_52 : decode cX1_take 52 = .ok (.aload_n 0, 1) := by decide +kernel
theorem dX1_take_53 : decode cX1_take 53 = .ok (.aload_n 1, 1) := by decide +kernel
theorem dX1_take_54 : decode cX1_take 54 = .ok (.iload_n 2, 1) := by decide +kernel
theorem dX1_take_55 : decode cX1_take 55 = .ok (.iconst 2, 1) := by decide +kernel
theorem dX1_take_56 : decode cX1_take 56 = .ok (.iadd, 1) := by decide +kernel
theorem dX1_take_57 : decode cX1_take 57 = .ok (.invokevirtual 9, 3) := by decide +kernel
theorem dX1_take_60 : decode cX1_take 60 = .ok (.getstatic 38, 3) := by decide +kernel
theorem dX1_take_63 : decode cX1_take 63 = .ok (.invokestatic 19, 3) := by decide +kernel
theorem dX1_take_66 : decode cX1_take 66 = .ok (.putfield 41, 3) := by decide +kernel
theorem dX1_take_69 : decode cX1_take 69 = .ok (.aload_n 0, 1) := by decide +kernel
theorem dX1_take_70 : decode cX1_take 70 = .ok (.aload_n 1, 1) := by decide +kernel
theorem dX1_take_71 : decode cX1_take 71 = .ok (.iload_n 2, 1) := by decide +kernel
theorem dX1_take_72 : decode cX1_take 72 = .ok (.iconst 3, 1) := by decide +kernel
theorem dX1_take_73 : decode cX1_take 73 = .ok (.iadd, 1) := by decide +kernel
theorem dX1_take_74 : decode cX1_take 74 = .ok (.invokevirtual 9, 3) := by decide +kernel
theorem dX1_take_77 : decode cX1_take 77 = .ok (.getstatic 44, 3) := by decide +kernel
theorem dX1_take_80 : decode cX1_take 80 = .ok (.invokestatic 19, 3) := by decide +kernel
theorem dX1_take_83 : decode cX1_take 83 = .ok (.putfield 47, 3) := by decide +kernel
theorem dX1_take_86 : decode cX1_take 86 = .ok (.return_, 1) := by decide +kernel
theorem dX1_shiftBy_0 : decode cX1_shiftBy 0 = .ok (.aload_n 0, 1) := by decide +kernel
theorem dX1_shiftBy_1 : decode cX1_shiftBy 1 = .ok (.getfield 23, 3) := by decide +kernel
theorem dX1_shiftBy_4 : decode cX1_shiftBy 4 = .ok (.ifCond .lt 21, 3) := by decide +kernel
theorem dX1_shiftBy_7 : decode cX1_shiftBy 7 = .ok (.aload_n 0, 1) := by decide +kernel
theorem dX1_shiftBy_8 : decode cX1_shiftBy 8 = .ok (.getfield 23, 3) := by decide +kernel
theorem dX1_shiftBy_11 : decode cX1_shiftBy 11 = .ok (.aload_n 1, 1) := by decide +kernel
theorem dX1_shiftBy_12 : decode cX1_shiftBy 12 = .ok (.arraylength, 1) := by decide +kernel
theorem dX1_shiftBy_13 : decode cX1_shiftBy 13 = .ok (.if_icmp .ge 12, 3) := by decide +kernel
theorem dX1_shiftBy_16 : decode cX1_shiftBy 16 = .ok (.aload_n 1, 1) := by decide +kernel
theorem dX1_shiftBy_17 : decode cX1_shiftBy 17 = .ok (.aload_n 0, 1) := by decide +kernel
theorem dX1_shiftBy_18 : decode cX1_shiftBy 18 = .ok (.getfield 23, 3) := by decide +kernel
theorem dX1_shiftBy_21 : decode cX1_shiftBy 21 = .ok (.iaload, 1) := by decide +kernel
theorem dX1_shiftBy_22 : decode cX1_shiftBy 22 = .ok (.goto 4, 3) := by decide +kernel
theorem dX1_shiftBy_25 : decode cX1_shiftBy 25 = .ok (.iconst 0, 1) := by decide +kernel
theorem dX1_shiftBy_26 : decode cX1_shiftBy 26 = .ok (.ireturn, 1) := by decide +kernel
theorem dX2_init_0 : decode cX2_init 0 = .ok (.aload_n 0, 1) := by decide +kernel
theorem dX2_init_1 : decode cX2_init 1 = .ok (.invokespecial 3, 3) := by decide +kernel
theorem dX2_init_4 : decode cX2_init 4 = .ok (.aload_n 0, 1) := by decide +kernel
theorem dX2_init_5 : decode cX2_init 5 = .ok (.bipush 8, 2) := by decide +kernel
theorem dX2_init_7 : decode cX2_init 7 = .ok (.anewarray 9, 3) := by decide +kernel
theorem dX2_init_10 : decode cX2_init 10 = .ok (.putfield 11, 3) := by decide +kernel
theorem dX2_init_13 : decode cX2_init 13 = .ok (.iconst 0, 1) := by decide +kernel
theorem dX2_init_14 : decode cX2_init 14 = .ok (.istore_n 1, 1) := by decide +kernel
theorem dX2_init_15 : decode cX2_init 15 = .ok (.iload_n 1, 1) := by decide +kernel
theorem dX2_init_16 : decode cX2_init 16 = .ok (.bipush 8, 2) := by decide +kernel
theorem dX2_init_18 : decode cX2_init 18 = .ok (.if_icmp .ge 22, 3) := by decide +kernel
theorem dX2_init_21 : decode cX2_init 21 = .ok (.aload_n 0, 1) := by decide +kernel
theorem dX2_init_22 : decode cX2_init 22 = .ok (.getfield 11, 3) := by decide +kernel
theorem dX2_init_25 : decode cX2_init 25 = .ok (.iload_n 1, 1) := by decide +kernel
theorem dX2_init_26 : decode cX2_init 26 = .ok (.new 9, 3) := by decide +kernel
theorem dX2_init_29 : decode cX2_init 29 = .ok (.dup, 1) := by decide +kernel
theorem dX2_init_30 : decode cX2_init 30 = .ok (.invokespecial 17, 3) := by decide +kernel
theorem dX2_init_33 : decode cX2_init 33 = .ok (.aastore, 1) := by decide +kernel
theorem dX2_init_34 : decode cX2_init 34 = .ok (.iinc 1 1, 3) := by decide +kernel
theorem dX2_init_37 : decode cX2_init 37 = .ok (.goto (-22), 3) := by decide +kernel
theorem dX2_init_40 : decode cX2_init 40 = .ok (.return_, 1) := by decide +kernel
theorem dX2_take_0 : decode cX2_take 0 = .ok (.aload_n 0, 1) := by decide +kernel
theorem dX2_take_1 : decode cX2_take 1 = .ok (.iload_n 2, 1) := by decide +kernel
theorem dX2_take_2 : decode cX2_take 2 = .ok (.iconst 1, 1) := by decide +kernel
theorem dX2_take_3 : decode cX2_take 3 = .ok (.iadd, 1) := by decide +kernel
theorem dX2_take_4 : decode cX2_take 4 = .ok (.iconst 5, 1) := by decide +kernel
theorem dX2_take_5 : decode cX2_take 5 = .ok (.idiv, 1) := by decide +kernel
theorem dX2_take_6 : decode cX2_take 6 = .ok (.bipush 8, 2) := by decide +kernel
theorem dX2_take_8 : decode cX2_take 8 = .ok (.invokestatic 18, 3) := by decide +kernel
theorem dX2_take_11 : decode cX2_take 11 = .ok (.putfield 24, 3) := by decide +kernel
theorem dX2_take_14 : decode cX2_take 14 = .ok (.iconst 0, 1) := by decide +kernel
theorem dX2_take_15 : decode cX2_take 15 = .ok (.istore_n 3, 1) := by decide +kernel
theorem dX2_take_16 : decode cX2_take 16 = .ok (.iload_n 3, 1) := by decide +kernel
theorem dX2_take_17 : decode cX2_take 17 = .ok (.aload_n 0, 1) := by decide +kernel
theorem dX2_take_18 : decode cX2_take 18 = .ok (.getfield 24, 3) := by decide +kernel
theorem dX2_take_21 : decode cX2_take 21 = .ok (.if_icmp .ge 22, 3) := by decide +kernel
theorem dX2_take_24 : decode cX2_take 24 = .ok (.aload_n 0, 1) := by decide +kernel
theorem dX2_take_25 : decode cX2_take 25 = .ok (.getfield 11, 3) := by decide +kernel
theorem dX2_take_28 : decode cX2_take 28 = .ok (.iload_n 3, 1) := by decide +kernel
theorem dX2_take_29 : decode cX2_take 29 = .ok (.aaload, 1) := by decide +kernel
theorem dX2_take_30 : decode cX2_take 30 = .ok (.aload_n 1, 1) := by decide +kernel
theorem dX2_take_31 : decode cX2_take 31 = .ok (.iload_n 3, 1) := by decide +kernel
theorem dX2_take_32 : decode cX2_take 32 = .ok (.iconst 5, 1) := by decide +kernel
theorem dX2_take_33 : decode cX2_take 33 = .ok (.imul, 1) := by decide +kernel
theorem dX2_take_34 : decode cX2_take 34 = .ok (.invokevirtual 28, 3) := by decide +kernel
theorem dX2_take_37 : decode cX2_take 37 = .ok (.iinc 3 1, 3) := by decide +kernel
theorem dX2_take_40 : decode cX2_take 40 = .ok (.goto (-24), 3) := by decide +kernel
theorem dX2_take_43 : decode cX2_take 43 = .ok (.return_, 1) := by decide +kernel
theorem dX2_at_0 : decode cX2_at 0 = .ok (.iload_n 1, 1) := by decide +kernel
theorem dX2_at_1 : decode cX2_at 1 = .ok (.iconst 0, 1) := by decide +kernel
theorem dX2_at_2 : decode cX2_at 2 = .ok (.aload_n 0, 1) := by decide +kernel
theorem dX2_at_3 : decode cX2_at 3 = .ok (.getfield 24, 3) := by decide +kernel
theorem dX2_at_6 : decode cX2_at 6 = .ok (.iconst 1, 1) := by decide +kernel
theorem dX2_at_7 : decode cX2_at 7 = .ok (.isub, 1) := by decide +kernel
theorem dX2_at_8 : decode cX2_at 8 = .ok (.invokestatic 32, 3) := by decide +kernel
theorem dX2_at_11 : decode cX2_at 11 = .ok (.ifCond .eq 12, 3) := by decide +kernel
theorem dX2_at_14 : decode cX2_at 14 = .ok (.aload_n 0, 1) := by decide +kernel
theorem dX2_at_15 : decode cX2_at 15 = .ok (.getfield 11, 3) := by decide +kernel
theorem dX2_at_18 : decode cX2_at 18 = .ok (.iload_n 1, 1) := by decide +kernel
theorem dX2_at_19 : decode cX2_at 19 = .ok (.aaload, 1) := by decide +kernel
theorem dX2_at_20 : decode cX2_at 20 = .ok (.goto 4, 3) := by decide +kernel
theorem dX2_at_23 : decode cX2_at 23 = .ok (.aconst_null, 1) := by decide +kernel
theorem dX2_at_24 : decode cX2_at 24 = .ok (.areturn, 1) := by decide +kernel
theorem dX3_init_0 : decode cX3_init 0 = .ok (.aload_n 0, 1) := by decide +kernel
theorem dX3_init_1 : decode cX3_init 1 = .ok (.invokespecial 3, 3) := by decide +kernel
theorem dX3_init_4 : decode cX3_init 4 = .ok (.aload_n 0, 1) := by decide +kernel
theorem dX3_init_5 : decode cX3_init 5 = .ok (.bipush 24, 2) := by decide +kernel
theorem dX3_init_7 : decode cX3_init 7 = .ok (.newarray .int, 2) := by decide +kernel
theorem dX3_init_9 : decode cX3_init 9 = .ok (.putfield 9, 3) := by decide +kernel
theorem dX3_init_12 : decode cX3_init 12 = .ok (.return_, 1) := by decide +kernel
theorem dX3_take_0 : decode cX3_take 0 = .ok (.aload_n 0, 1) := by decide +kernel
theorem dX3_take_1 : decode cX3_take 1 = .ok (.iload_n 2, 1) := by decide +kernel
theorem dX3_take_2 : decode cX3_take 2 = .ok (.bipush 24, 2) := by decide +kernel
theorem dX3_take_4 : decode cX3_take 4 = .ok (.invokestatic 15, 3) := by decide +kernel
theorem dX3_take_7 : decode cX3_take 7 = .ok (.putfield 21, 3) := by decide +kernel
theorem dX3_take_10 : decode cX3_take 10 = .ok (.iconst 0, 1) := by decide +kernel
theorem dX3_take_11 : decode cX3_take 11 = .ok (.istore_n 3, 1) := by decide +kernel
theorem dX3_take_12 : decode cX3_take 12 = .ok (.iload_n 3, 1) := by decide +kernel
theorem dX3_take_13 : decode cX3_take 13 = .ok (.aload_n 0, 1) := by decide +kernel
theorem dX3_take_14 : decode cX3_take 14 = .ok (.getfield 21, 3) := by decide +kernel
theorem dX3_take_17 : decode cX3_take 17 = .ok (.if_icmp .ge 26, 3) := by decide +kernel
theorem dX3_take_20 : decode cX3_take 20 = .ok (.aload_n 0, 1) := by decide +kernel
theorem dX3_take_21 : decode cX3_take 21 = .ok (.getfield 9, 3) := by decide +kernel
theorem dX3_take_24 : decode cX3_take 24 = .ok (.iload_n 3, 1) := by decide +kernel
theorem dX3_take_25 : decode cX3_take 25 = .ok (.aload_n 1, 1) := by decide +kernel
theorem dX3_take_26 : decode cX3_take 26 = .ok (.iload_n 3, 1) := by decide +kernel
theorem dX3_take_27 : decode cX3_take 27 = .ok (.invokevirtual 25, 3) := by decide +kernel
theorem dX3_take_30 : decode cX3_take 30 = .ok (.getstatic 31, 3) := by decide +kernel
theorem dX3_take_33 : decode cX3_take 33 = .ok (.invokestatic 35, 3) := by decide +kernel
theorem dX3_take_36 : decode cX3_take 36 = .ok (.iastore, 1) := by decide +kernel
theorem dX3_take_37 : decode cX3_take 37 = .ok (.iinc 3 1, 3) := by decide +kernel
theorem dX3_take_40 : decode cX3_take 40 = .ok (.goto (-28), 3) := by decide +kernel
theorem dX3_take_43 : decode cX3_take 43 = .ok (.return_, 1) := by decide +kernel
theorem dX3_whoAt_0 : decode cX3_whoAt 0 = .ok (.iload_n 1, 1) := by decide +kernel
theorem dX3_whoAt_1 : decode cX3_whoAt 1 = .ok (.iconst 0, 1) := by decide +kernel
theorem dX3_whoAt_2 : decode cX3_whoAt 2 = .ok (.aload_n 0, 1) := by decide +kernel
theorem dX3_whoAt_3 : decode cX3_whoAt 3 = .ok (.getfield 21, 3) := by decide +kernel
theorem dX3_whoAt_6 : decode cX3_whoAt 6 = .ok (.iconst 1, 1) := by decide +kernel
theorem dX3_whoAt_7 : decode cX3_whoAt 7 = .ok (.isub, 1) := by decide +kernel
theorem dX3_whoAt_8 : decode cX3_whoAt 8 = .ok (.invokestatic 39, 3) := by decide +kernel
theorem dX3_whoAt_11 : decode cX3_whoAt 11 = .ok (.ifCond .eq 12, 3) := by decide +kernel
theorem dX3_whoAt_14 : decode cX3_whoAt 14 = .ok (.aload_n 0, 1) := by decide +kernel
theorem dX3_whoAt_15 : decode cX3_whoAt 15 = .ok (.getfield 9, 3) := by decide +kernel
theorem dX3_whoAt_18 : decode cX3_whoAt 18 = .ok (.iload_n 1, 1) := by decide +kernel
theorem dX3_whoAt_19 : decode cX3_whoAt 19 = .ok (.iaload, 1) := by decide +kernel
theorem dX3_whoAt_20 : decode cX3_whoAt 20 = .ok (.goto 4, 3) := by decide +kernel
theorem dX3_whoAt_23 : decode cX3_whoAt 23 = .ok (.iconst (-1), 1) := by decide +kernel
theorem dX3_whoAt_24 : decode cX3_whoAt 24 = .ok (.ireturn, 1) := by decide +kernel
theorem dX3_follow_0 : decode cX3_follow 0 = .ok (.iload_n 3, 1) := by decide +kernel
theorem dX3_follow_1 : decode cX3_follow 1 = .ok (.istore 6, 2) := by decide +kernel
theorem dX3_follow_3 : decode cX3_follow 3 = .ok (.iconst 0, 1) := by decide +kernel
theorem dX3_follow_4 : decode cX3_follow 4 = .ok (.istore 7, 2) := by decide +kernel
theorem dX3_follow_6 : decode cX3_follow 6 = .ok (.iload 7, 2) := by decide +kernel
theorem dX3_follow_8 : decode cX3_follow 8 = .ok (.aload_n 0, 1) := by decide +kernel
theorem dX3_follow_9 : decode cX3_follow 9 = .ok (.getfield 21, 3) := by decide +kernel
theorem dX3_follow_12 : decode cX3_follow 12 = .ok (.if_icmp .gt 44, 3) := by decide +kernel
theorem dX3_follow_15 : decode cX3_follow 15 = .ok (.iload 7, 2) := by decide +kernel
theorem dX3_follow_17 : decode cX3_follow 17 = .ok (.aload 5, 2) := by decide +kernel
theorem dX3_follow_19 : decode cX3_follow 19 = .ok (.arraylength, 1) := by decide +kernel
theorem dX3_follow_20 : decode cX3_follow 20 = .ok (.if_icmp .ge 36, 3) := by decide +kernel
theorem dX3_follow_23 : decode cX3_follow 23 = .ok (.aload 5, 2) := by decide +kernel
theorem dX3_follow_25 : decode cX3_follow 25 = .ok (.iload 7, 2) := by decide +kernel
theorem dX3_follow_27 : decode cX3_follow 27 = .ok (.iload 6, 2) := by decide +kernel
theorem dX3_follow_29 : decode cX3_follow 29 = .ok (.iastore, 1) := by decide +kernel
theorem dX3_follow_30 : decode cX3_follow 30 = .ok (.aload_n 1, 1) := by decide +kernel
theorem dX3_follow_31 : decode cX3_follow 31 = .ok (.aload_n 2, 1) := by decide +kernel
theorem dX3_follow_32 : decode cX3_follow 32 = .ok (.aload_n 0, 1) := by decide +kernel
theorem dX3_follow_33 : decode cX3_follow 33 = .ok (.iload 7, 2) := by decide +kernel
theorem dX3_follow_35 : decode cX3_follow 35 = .ok (.invokevirtual 43, 3) := by decide +kernel
theorem dX3_follow_38 : decode cX3_follow 38 = .ok (.invokevirtual 46, 3) := by decide +kernel
theorem dX3_follow_41 : decode cX3_follow 41 = .ok (.iload 6, 2) := by decide +kernel
theorem dX3_follow_43 : decode cX3_follow 43 = .ok (.aload 4, 2) := by decide +kernel
theorem dX3_follow_45 : decode cX3_follow 45 = .ok (.invokevirtual 51, 3) := by decide +kernel
theorem dX3_follow_48 : decode cX3_follow 48 = .ok (.istore 6, 2) := by decide +kernel
theorem dX3_follow_50 : decode cX3_follow 50 = .ok (.iinc 7 1, 3) := by decide +kernel
theorem dX3_follow_53 : decode cX3_follow 53 = .ok (.goto (-47), 3) := by decide +kernel
theorem dX3_follow_56 : decode cX3_follow 56 = .ok (.return_, 1) := by decide +kernel
theorem dX4_init_0 : decode cX4_init 0 = .ok (.aload_n 0, 1) := by decide +kernel
theorem dX4_init_1 : decode cX4_init 1 = .ok (.invokespecial 3, 3) := by decide +kernel
theorem dX4_init_4 : decode cX4_init 4 = .ok (.aload_n 0, 1) := by decide +kernel
theorem dX4_init_5 : decode cX4_init 5 = .ok (.sipush 4864, 3) := by decide +kernel
theorem dX4_init_8 : decode cX4_init 8 = .ok (.newarray .int, 2) := by decide +kernel
theorem dX4_init_10 : decode cX4_init 10 = .ok (.putfield 9, 3) := by decide +kernel
theorem dX4_init_13 : decode cX4_init 13 = .ok (.aload_n 0, 1) := by decide +kernel
theorem dX4_init_14 : decode cX4_init 14 = .ok (.sipush 152, 3) := by decide +kernel
theorem dX4_init_17 : decode cX4_init 17 = .ok (.newarray .int, 2) := by decide +kernel
theorem dX4_init_19 : decode cX4_init 19 = .ok (.putfield 15, 3) := by decide +kernel
theorem dX4_init_22 : decode cX4_init 22 = .ok (.aload_n 0, 1) := by decide +kernel
theorem dX4_init_23 : decode cX4_init 23 = .ok (.sipush 152, 3) := by decide +kernel
theorem dX4_init_26 : decode cX4_init 26 = .ok (.newarray .int, 2) := by decide +kernel
theorem dX4_init_28 : decode cX4_init 28 = .ok (.putfield 18, 3) := by decide +kernel
theorem dX4_init_31 : decode cX4_init 31 = .ok (.aload_n 0, 1) := by decide +kernel
theorem dX4_init_32 : decode cX4_init 32 = .ok (.bipush 8, 2) := by decide +kernel
theorem dX4_init_34 : decode cX4_init 34 = .ok (.newarray .int, 2) := by decide +kernel
theorem dX4_init_36 : decode cX4_init 36 = .ok (.putfield 21, 3) := by decide +kernel
theorem dX4_init_39 : decode cX4_init 39 = .ok (.return_, 1) := by decide +kernel
theorem dX4_make_0 : decode cX4_make 0 = .ok (.aload_n 0, 1) := by decide +kernel
theorem dX4_make_1 : decode cX4_make 1 = .ok (.aload_n 1, 1) := by decide +kernel
theorem dX4_make_2 : decode cX4_make 2 = .ok (.getfield 24, 3) := by decide +kernel
theorem dX4_make_5 : decode cX4_make 5 = .ok (.iconst 1, 1) := by decide +kernel
theorem dX4_make_6 : decode cX4_make 6 = .ok (.invokestatic 30, 3) := by decide +kernel
theorem dX4_make_9 : decode cX4_make 9 = .ok (.putfield 36, 3) := by decide +kernel
theorem dX4_make_12 : decode cX4_make 12 = .ok (.aload_n 0, 1) := by decide +kernel
theorem dX4_make_13 : decode cX4_make 13 = .ok (.aload_n 2, 1) := by decide +kernel
theorem dX4_make_14 : decode cX4_make 14 = .ok (.getfield 39, 3) := by decide +kernel
theorem dX4_make_17 : decode cX4_make 17 = .ok (.putfield 44, 3) := by decide +kernel
theorem dX4_make_20 : decode cX4_make 20 = .ok (.iconst 0, 1) := by decide +kernel
theorem dX4_make_21 : decode cX4_make 21 = .ok (.istore_n 3, 1) := by decide +kernel
theorem dX4_make_22 : decode cX4_make 22 = .ok (.iload_n 3, 1) := by decide +kernel
theorem dX4_make_23 : decode cX4_make 23 = .ok (.aload_n 0, 1) := by decide +kernel
theorem dX4_make_24 : decode cX4_make 24 = .ok (.getfield 44, 3) := by decide +kernel
theorem dX4_make_27 : decode cX4_make 27 = .ok (.if_icmp .ge 20, 3) := by decide +kernel
theorem dX4_make_30 : decode cX4_make 30 = .ok (.aload_n 0, 1) := by decide +kernel
theorem dX4_make_31 : decode cX4_make 31 = .ok (.aload_n 1, 1) := by decide +kernel
theorem dX4_make_32 : decode cX4_make 32 = .ok (.aload_n 2, 1) := by decide +kernel
theorem dX4_make_33 : decode cX4_make 33 = .ok (.iload_n 3, 1) := by decide +kernel
theorem dX4_make_34 : decode cX4_make 34 = .ok (.invokevirtual 45, 3) := by decide +kernel
theorem dX4_make_37 : decode cX4_make 37 = .ok (.iload_n 3, 1) := by decide +kernel
theorem dX4_make_38 : decode cX4_make 38 = .ok (.invokevirtual 49, 3) := by decide +kernel
theorem dX4_make_41 : decode cX4_make 41 = .ok (.iinc 3 1, 3) := by decide +kernel
theorem dX4_make_44 : decode cX4_make 44 = .ok (.goto (-22), 3) := by decide +kernel
theorem dX4_make_47 : decode cX4_make 47 = .ok (.aload_n 0, 1) := by decide +kernel
theorem dX4_make_48 : decode cX4_make 48 = .ok (.invokevirtual 53, 3) := by decide +kernel
theorem dX4_make_51 : decode cX4_make 51 = .ok (.aload_n 0, 1) := by decide +kernel
theorem dX4_make_52 : decode cX4_make 52 = .ok (.aload_n 1, 1) := by decide +kernel
theorem dX4_make_53 : decode cX4_make 53 = .ok (.aload_n 2, 1) := by decide +kernel
theorem dX4_make_54 : decode cX4_make 54 = .ok (.aload_n 1, 1) := by decide +kernel
theorem dX4_make_55 : decode cX4_make 55 = .ok (.invokevirtual 56, 3) := by decide +kernel
theorem dX4_make_58 : decode cX4_make 58 = .ok (.iconst 0, 1) := by decide +kernel
theorem dX4_make_59 : decode cX4_make 59 = .ok (.invokestatic 30, 3) := by decide +kernel
theorem dX4_make_62 : decode cX4_make 62 = .ok (.invokevirtual 60, 3) := by decide +kernel
theorem dX4_make_65 : decode cX4_make 65 = .ok (.return_, 1) := by decide +kernel
theorem dX4_whoAt_0 : decode cX4_whoAt 0 = .ok (.iload_n 1, 1) := by decide +kernel
theorem dX4_whoAt_1 : decode cX4_whoAt 1 = .ok (.iconst 0, 1) := by decide +kernel
theorem dX4_whoAt_2 : decode cX4_whoAt 2 = .ok (.aload_n 0, 1) := by decide +kernel
theorem dX4_whoAt_3 : decode cX4_whoAt 3 = .ok (.getfield 44, 3) := by decide +kernel
theorem dX4_whoAt_6 : decode cX4_whoAt 6 = .ok (.iconst 1, 1) := by decide +kernel
theorem dX4_whoAt_7 : decode cX4_whoAt 7 = .ok (.isub, 1) := by decide +kernel
theorem dX4_whoAt_8 : decode cX4_whoAt 8 = .ok (.invokestatic 64, 3) := by decide +kernel
theorem dX4_whoAt_11 : decode cX4_whoAt 11 = .ok (.ifCond .eq 12, 3) := by decide +kernel
theorem dX4_whoAt_14 : decode cX4_whoAt 14 = .ok (.aload_n 0, 1) := by decide +kernel
theorem dX4_whoAt_15 : decode cX4_whoAt 15 = .ok (.getfield 21, 3) := by decide +kernel
theorem dX4_whoAt_18 : decode cX4_whoAt 18 = .ok (.iload_n 1, 1) := by decide +kernel
theorem dX4_whoAt_19 : decode cX4_whoAt 19 = .ok (.iaload, 1) := by decide +kernel
theorem dX4_whoAt_20 : decode cX4_whoAt 20 = .ok (.goto 4, 3) := by decide +kernel
theorem dX4_whoAt_23 : decode cX4_whoAt 23 = .ok (.iconst (-1), 1) := by decide +kernel
theorem dX4_whoAt_24 : decode cX4_whoAt 24 = .ok (.ireturn, 1) := by decide +kernel
theorem dX4_weigh_0 : decode cX4_weigh 0 = .ok (.iconst 0, 1) := by decide +kernel
theorem dX4_weigh_1 : decode cX4_weigh 1 = .ok (.istore 4, 2) := by decide +kernel
theorem dX4_weigh_3 : decode cX4_weigh 3 = .ok (.iload 4, 2) := by decide +kernel
theorem dX4_weigh_5 : decode cX4_weigh 5 = .ok (.aload_n 0, 1) := by decide +kernel
theorem dX4_weigh_6 : decode cX4_weigh 6 = .ok (.getfield 36, 3) := by decide +kernel
theorem dX4_weigh_9 : decode cX4_weigh 9 = .ok (.if_icmp .ge 81, 3) := by decide +kernel
theorem dX4_weigh_12 : decode cX4_weigh 12 = .ok (.aload_n 1, 1) := by decide +kernel
theorem dX4_weigh_13 : decode cX4_weigh 13 = .ok (.aload_n 2, 1) := by decide +kernel
theorem dX4_weigh_14 : decode cX4_weigh 14 = .ok (.iload 4, 2) := by decide +kernel
theorem dX4_weigh_16 : decode cX4_weigh 16 = .ok (.invokevirtual 68, 3) := by decide +kernel
theorem dX4_weigh_19 : decode cX4_weigh 19 = .ok (.iconst 1, 1) := by decide +kernel
theorem dX4_weigh_20 : decode cX4_weigh 20 = .ok (.if_icmp .ne 7, 3) := by decide +kernel
theorem dX4_weigh_23 : decode cX4_weigh 23 = .ok (.iconst 1, 1) := by decide +kernel
theorem dX4_weigh_24 : decode cX4_weigh 24 = .ok (.goto 4, 3) := by decide +kernel
theorem dX4_weigh_27 : decode cX4_weigh 27 = .ok (.iconst 0, 1) := by decide +kernel
theorem dX4_weigh_28 : decode cX4_weigh 28 = .ok (.istore 5, 2) := by decide +kernel
theorem dX4_weigh_30 : decode cX4_weigh 30 = .ok (.iload_n 3, 1) := by decide +kernel
theorem dX4_weigh_31 : decode cX4_weigh 31 = .ok (.bipush 19, 2) := by decide +kernel
theorem dX4_weigh_33 : decode cX4_weigh 33 = .ok (.imul, 1) := by decide +kernel
theorem dX4_weigh_34 : decode cX4_weigh 34 = .ok (.iload 4, 2) := by decide +kernel
theorem dX4_weigh_36 : decode cX4_weigh 36 = .ok (.iadd, 1) := by decide +kernel
theorem dX4_weigh_37 : decode cX4_weigh 37 = .ok (.istore 6, 2) := by decide +kernel
theorem dX4_weigh_39 : decode cX4_weigh 39 = .ok (.aload_n 0, 1) := by decide +kernel
theorem dX4_weigh_40 : decode cX4_weigh 40 = .ok (.getfield 15, 3) := by decide +kernel
theorem dX4_weigh_43 : decode cX4_weigh 43 = .ok (.iload 6, 2) := by decide +kernel
theorem dX4_weigh_45 : decode cX4_weigh 45 = .ok (.iload 5, 2) := by decide +kernel
theorem dX4_weigh_47 : decode cX4_weigh 47 = .ok (.ifCond .eq 17, 3) := by decide +kernel
theorem dX4_weigh_50 : decode cX4_weigh 50 = .ok (.sipush 1000, 3) := by decide +kernel
theorem dX4_weigh_53 : decode cX4_weigh 53 = .ok (.aload_n 1, 1) := by decide +kernel
theorem dX4_weigh_54 : decode cX4_weigh 54 = .ok (.aload_n 2, 1) := by decide +kernel
theorem dX4_weigh_55 : decode cX4_weigh 55 = .ok (.iload 4, 2) := by decide +kernel
theorem dX4_weigh_57 : decode cX4_weigh 57 = .ok (.invokevirtual 72, 3) := by decide +kernel
theorem dX4_weigh_60 : decode cX4_weigh 60 = .ok (.isub, 1) := by decide +kernel
theorem dX4_weigh_61 : decode cX4_weigh 61 = .ok (.goto 4, 3) := by decide +kernel
theorem dX4_weigh_64 : decode cX4_weigh 64 = .ok (.iconst 0, 1) := by decide +kernel
theorem dX4_weigh_65 : decode cX4_weigh 65 = .ok (.iastore, 1) := by decide +kernel
theorem dX4_weigh_66 : decode cX4_weigh 66 = .ok (.aload_n 0, 1) := by decide +kernel
theorem dX4_weigh_67 : decode cX4_weigh 67 = .ok (.getfield 18, 3) := by decide +kernel
theorem dX4_weigh_70 : decode cX4_weigh 70 = .ok (.iload 6, 2) := by decide +kernel
theorem dX4_weigh_72 : decode cX4_weigh 72 = .ok (.aload_n 1, 1) := by decide +kernel
theorem dX4_weigh_73 : decode cX4_weigh 73 = .ok (.aload_n 2, 1) := by decide +kernel
theorem dX4_weigh_74 : decode cX4_weigh 74 = .ok (.iload 4, 2) := by decide +kernel
theorem dX4_weigh_76 : decode cX4_weigh 76 = .ok (.aload_n 1, 1) := by decide +kernel
theorem dX4_weigh_77 : decode cX4_weigh 77 = .ok (.getfield 75, 3) := by decide +kernel
theorem dX4_weigh_80 : decode cX4_weigh 80 = .ok (.invokevirtual 78, 3) := by decide +kernel
theorem dX4_weigh_83 : decode cX4_weigh 83 = .ok (.iastore, 1) := by decide +kernel
theorem dX4_weigh_84 : decode cX4_weigh 84 = .ok (.iinc 4 1, 3) := by decide +kernel
theorem dX4_weigh_87 : decode cX4_weigh 87 = .ok (.goto (-84), 3) := by decide +kernel
theorem dX4_weigh_90 : decode cX4_weigh 90 = .ok (.return_, 1) := by decide +kernel
theorem dX4_findBest_0 : decode cX4_findBest 0 = .ok (.iconst 1, 1) := by decide +kernel
theorem dX4_findBest_1 : decode cX4_findBest 1 = .ok (.aload_n 0, 1) := by decide +kernel
theorem dX4_findBest_2 : decode cX4_findBest 2 = .ok (.getfield 44, 3) := by decide +kernel
theorem dX4_findBest_5 : decode cX4_findBest 5 = .ok (.ishl, 1) := by decide +kernel
theorem dX4_findBest_6 : decode cX4_findBest 6 = .ok (.iconst 1, 1) := by decide +kernel
theorem dX4_findBest_7 : decode cX4_findBest 7 = .ok (.isub, 1) := by decide +kernel
theorem dX4_findBest_8 : decode cX4_findBest 8 = .ok (.istore_n 1, 1) := by decide +kernel
theorem dX4_findBest_9 : decode cX4_findBest 9 = .ok (.iconst 0, 1) := by decide +kernel
theorem dX4_findBest_10 : decode cX4_findBest 10 = .ok (.istore_n 2, 1) := by decide +kernel
theorem dX4_findBest_11 : decode cX4_findBest 11 = .ok (.iload_n 2, 1) := by decide +kernel
theorem dX4_findBest_12 : decode cX4_findBest 12 = .ok (.aload_n 0, 1) := by decide +kernel
theorem dX4_findBest_13 : decode cX4_findBest 13 = .ok (.getfield 36, 3) := by decide +kernel
theorem dX4_findBest_16 : decode cX4_findBest 16 = .ok (.if_icmp .ge 21, 3) := by decide +kernel
theorem dX4_findBest_19 : decode cX4_findBest 19 = .ok (.aload_n 0, 1) := by decide +kernel
theorem dX4_findBest_20 : decode cX4_findBest 20 = .ok (.getfield 9, 3) := by decide +kernel
theorem dX4_findBest_23 : decode cX4_findBest 23 = .ok (.iload_n 1, 1) := by decide +kernel
theorem dX4_findBest_24 : decode cX4_findBest 24 = .ok (.bipush 19, 2) := by decide +kernel
theorem dX4_findBest_26 : decode cX4_findBest 26 = .ok (.imul, 1) := by decide +kernel
theorem dX4_findBest_27 : decode cX4_findBest 27 = .ok (.iload_n 2, 1) := by decide +kernel
theorem dX4_findBest_28 : decode cX4_findBest 28 = .ok (.iadd, 1) := by decide +kernel
theorem dX4_findBest_29 : decode cX4_findBest 29 = .ok (.iconst 0, 1) := by decide +kernel
theorem dX4_findBest_30 : decode cX4_findBest 30 = .ok (.iastore, 1) := by decide +kernel
theorem dX4_findBest_31 : decode cX4_findBest 31 = .ok (.iinc 2 1, 3) := by decide +kernel
theorem dX4_findBest_34 : decode cX4_findBest 34 = .ok (.goto (-23), 3) := by decide +kernel
theorem dX4_findBest_37 : decode cX4_findBest 37 = .ok (.iload_n 1, 1) := by decide +kernel
theorem dX4_findBest_38 : decode cX4_findBest 38 = .ok (.iconst 1, 1) := by decide +kernel
theorem dX4_findBest_39 : decode cX4_findBest 39 = .ok (.isub, 1) := by decide +kernel
theorem dX4_findBest_40 : decode cX4_findBest 40 = .ok (.istore_n 2, 1) := by decide +kernel
theorem dX4_findBest_41 : decode cX4_findBest 41 = .ok (.iload_n 2, 1) := by decide +kernel
theorem dX4_findBest_42 : decode cX4_findBest 42 = .ok (.ifCond .lt 42, 3) := by decide +kernel
theorem dX4_findBest_45 : decode cX4_findBest 45 = .ok (.iconst 0, 1) := by decide +kernel
theorem dX4_findBest_46 : decode cX4_findBest 46 = .ok (.istore_n 3, 1) := by decide +kernel
theorem dX4_findBest_47 : decode cX4_findBest 47 = .ok (.iload_n 3, 1) := by decide +kernel
theorem dX4_findBest_48 : decode cX4_findBest 48 = .ok (.aload_n 0, 1) := by decide +kernel
theorem dX4_findBest_49 : decode cX4_findBest 49 = .ok (.getfield 36, 3) := by decide +kernel
theorem dX4_findBest_52 : decode cX4_findBest 52 = .ok (.if_icmp .ge 26, 3) := by decide +kernel
theorem dX4_findBest_55 : decode cX4_findBest 55 = .ok (.aload_n 0, 1) := by decide +kernel
theorem dX4_findBest_56 : decode cX4_findBest 56 = .ok (.getfield 9, 3) := by decide +kernel
theorem dX4_findBest_59 : decode cX4_findBest 59 = .ok (.iload_n 2, 1) := by decide +kernel
theorem dX4_findBest_60 : decode cX4_findBest 60 = .ok (.bipush 19, 2) := by decide +kernel
theorem dX4_findBest_62 : decode cX4_findBest 62 = .ok (.imul, 1) := by decide +kernel
theorem dX4_findBest_63 : decode cX4_findBest 63 = .ok (.iload_n 3, 1) := by decide +kernel
theorem dX4_findBest_64 : decode cX4_findBest 64 = .ok (.iadd, 1) := by decide +kernel
theorem dX4_findBest_65 : decode cX4_findBest 65 = .ok (.aload_n 0, 1) := by decide +kernel
theorem dX4_findBest_66 : decode cX4_findBest 66 = .ok (.iload_n 2, 1) := by decide +kernel
theorem dX4_findBest_67 : decode cX4_findBest 67 = .ok (.iload_n 3, 1) := by decide +kernel
theorem dX4_findBest_68 : decode cX4_findBest 68 = .ok (.invokevirtual 82, 3) := by decide +kernel
theorem dX4_findBest_71 : decode cX4_findBest 71 = .ok (.iastore, 1) := by decide +kernel
theorem dX4_findBest_72 : decode cX4_findBest 72 = .ok (.iinc 3 1, 3) := by decide +kernel
theorem dX4_findBest_75 : decode cX4_findBest 75 = .ok (.goto (-28), 3) := by decide +kernel
theorem dX4_findBest_78 : decode cX4_findBest 78 = .ok (.iinc 2 (-1), 3) := by decide +kernel
theorem dX4_findBest_81 : decode cX4_findBest 81 = .ok (.goto (-40), 3) := by decide +kernel
theorem dX4_findBest_84 : decode cX4_findBest 84 = .ok (.return_, 1) := by decide +kernel
theorem dX4_bestOf_0 : decode cX4_bestOf 0 = .ok (.iconst 0, 1) := by decide +kernel
theorem dX4_bestOf_1 : decode cX4_bestOf 1 = .ok (.istore_n 3, 1) := by decide +kernel
theorem dX4_bestOf_2 : decode cX4_bestOf 2 = .ok (.iconst 0, 1) := by decide +kernel
theorem dX4_bestOf_3 : decode cX4_bestOf 3 = .ok (.istore 4, 2) := by decide +kernel
theorem dX4_bestOf_5 : decode cX4_bestOf 5 = .ok (.iload 4, 2) := by decide +kernel
theorem dX4_bestOf_7 : decode cX4_bestOf 7 = .ok (.aload_n 0, 1) := by decide +kernel
theorem dX4_bestOf_8 : decode cX4_bestOf 8 = .ok (.getfield 44, 3) := by decide +kernel
theorem dX4_bestOf_11 : decode cX4_bestOf 11 = .ok (.if_icmp .ge 31, 3) := by decide +kernel
theorem dX4_bestOf_14 : decode cX4_bestOf 14 = .ok (.iload_n 1, 1) := by decide +kernel
theorem dX4_bestOf_15 : decode cX4_bestOf 15 = .ok (.iconst 1, 1) := by decide +kernel
theorem dX4_bestOf_16 : decode cX4_bestOf 16 = .ok (.iload 4, 2) := by decide +kernel
theorem dX4_bestOf_18 : decode cX4_bestOf 18 = .ok (.ishl, 1) := by decide +kernel
theorem dX4_bestOf_19 : decode cX4_bestOf 19 = .ok (.iand, 1) := by decide +kernel
theorem dX4_bestOf_20 : decode cX4_bestOf 20 = .ok (.ifCond .ne 16, 3) := by decide +kernel
theorem dX4_bestOf_23 : decode cX4_bestOf 23 = .ok (.iload_n 3, 1) := by decide +kernel
theorem dX4_bestOf_24 : decode cX4_bestOf 24 = .ok (.aload_n 0, 1) := by decide +kernel
theorem dX4_bestOf_25 : decode cX4_bestOf 25 = .ok (.iload_n 1, 1) := by decide +kernel
theorem dX4_bestOf_26 : decode cX4_bestOf 26 = .ok (.iload_n 2, 1) := by decide +kernel
theorem dX4_bestOf_27 : decode cX4_bestOf 27 = .ok (.iload 4, 2) := by decide +kernel
theorem dX4_bestOf_29 : decode cX4_bestOf 29 = .ok (.invokevirtual 85, 3) := by decide +kernel
theorem dX4_bestOf_32 : decode cX4_bestOf 32 = .ok (.invokestatic 30, 3) := by decide +kernel
theorem dX4_bestOf_35 : decode cX4_bestOf 35 = .ok (.istore_n 3, 1) := by decide +kernel
theorem dX4_bestOf_36 : decode cX4_bestOf 36 = .ok (.iinc 4 1, 3) := by decide +kernel
theorem dX4_bestOf_39 : decode cX4_bestOf 39 = .ok (.goto (-34), 3) := by decide +kernel
theorem dX4_bestOf_42 : decode cX4_bestOf 42 = .ok (.iload_n 3, 1) := by decide +kernel
theorem dX4_bestOf_43 : decode cX4_bestOf 43 = .ok (.ireturn, 1) := by decide +kernel
theorem dX4_worthOf_0 : decode cX4_worthOf 0 = .ok (.iload_n 3, 1) := by decide +kernel
theorem dX4_worthOf_1 : decode cX4_worthOf 1 = .ok (.bipush 19, 2) := by decide +kernel
theorem dX4_worthOf_3 : decode cX4_worthOf 3 = .ok (.imul, 1) := by decide +kernel
theorem dX4_worthOf_4 : decode cX4_worthOf 4 = .ok (.iload_n 2, 1) := by decide +kernel
theorem dX4_worthOf_5 : decode cX4_worthOf 5 = .ok (.iadd, 1) := by decide +kernel
theorem dX4_worthOf_6 : decode cX4_worthOf 6 = .ok (.istore 4, 2) := by decide +kernel
theorem dX4_worthOf_8 : decode cX4_worthOf 8 = .ok (.aload_n 0, 1) := by decide +kernel
theorem dX4_worthOf_9 : decode cX4_worthOf 9 = .ok (.getfield 15, 3) := by decide +kernel
theorem dX4_worthOf_12 : decode cX4_worthOf 12 = .ok (.iload 4, 2) := by decide +kernel
theorem dX4_worthOf_14 : decode cX4_worthOf 14 = .ok (.iaload, 1) := by decide +kernel
theorem dX4_worthOf_15 : decode cX4_worthOf 15 = .ok (.aload_n 0, 1) := by decide +kernel
theorem dX4_worthOf_16 : decode cX4_worthOf 16 = .ok (.getfield 9, 3) := by decide +kernel
theorem dX4_worthOf_19 : decode cX4_worthOf 19 = .ok (.iload_n 1, 1) := by decide +kernel
theorem dX4_worthOf_20 : decode cX4_worthOf 20 = .ok (.iconst 1, 1) := by decide +kernel
theorem dX4_worthOf_21 : decode cX4_worthOf 21 = .ok (.iload_n 3, 1) := by decide +kernel
theorem dX4_worthOf_22 : decode cX4_worthOf 22 = .ok (.ishl, 1) := by decide +kernel
theorem dX4_worthOf_23 : decode cX4_worthOf 23 = .ok (.ior, 1) := by decide +kernel
theorem dX4_worthOf_24 : decode cX4_worthOf 24 = .ok (.bipush 19, 2) := by decide +kernel
theorem dX4_worthOf_26 : decode cX4_worthOf 26 = .ok (.imul, 1) := by decide +kernel
theorem dX4_worthOf_27 : decode cX4_worthOf 27 = .ok (.aload_n 0, 1) := by decide +kernel
theorem dX4_worthOf_28 : decode cX4_worthOf 28 = .ok (.getfield 18, 3) := by decide +kernel
theorem dX4_worthOf_31 : decode cX4_worthOf 31 = .ok (.iload 4, 2) := by decide +kernel
theorem dX4_worthOf_33 : decode cX4_worthOf 33 = .ok (.iaload, 1) := by decide +kernel
theorem dX4_worthOf_34 : decode cX4_worthOf 34 = .ok (.iadd, 1) := by decide +kernel
theorem dX4_worthOf_35 : decode cX4_worthOf 35 = .ok (.iaload, 1) := by decide +kernel
theorem dX4_worthOf_36 : decode cX4_worthOf 36 = .ok (.iadd, 1) := by decide +kernel
theorem dX4_worthOf_37 : decode cX4_worthOf 37 = .ok (.ireturn, 1) := by decide +kernel
theorem dX4_followBest_0 : decode cX4_followBest 0 = .ok (.aload_n 0, 1) := by decide +kernel
theorem dX4_followBest_1 : decode cX4_followBest 1 = .ok (.iconst 0, 1) := by decide +kernel
theorem dX4_followBest_2 : decode cX4_followBest 2 = .ok (.putfield 89, 3) := by decide +kernel
theorem dX4_followBest_5 : decode cX4_followBest 5 = .ok (.aload_n 0, 1) := by decide +kernel
theorem dX4_followBest_6 : decode cX4_followBest 6 = .ok (.iconst 0, 1) := by decide +kernel
theorem dX4_followBest_7 : decode cX4_followBest 7 = .ok (.putfield 92, 3) := by decide +kernel
theorem dX4_followBest_10 : decode cX4_followBest 10 = .ok (.iconst 0, 1) := by decide +kernel
theorem dX4_followBest_11 : decode cX4_followBest 11 = .ok (.istore 4, 2) := by decide +kernel
theorem dX4_followBest_13 : decode cX4_followBest 13 = .ok (.iload_n 3, 1) := by decide +kernel
theorem dX4_followBest_14 : decode cX4_followBest 14 = .ok (.istore 5, 2) := by decide +kernel
theorem dX4_followBest_16 : decode cX4_followBest 16 = .ok (.iconst 0, 1) := by decide +kernel
theorem dX4_followBest_17 : decode cX4_followBest 17 = .ok (.istore 6, 2) := by decide +kernel
theorem dX4_followBest_19 : decode cX4_followBest 19 = .ok (.iload 6, 2) := by decide +kernel
theorem dX4_followBest_21 : decode cX4_followBest 21 = .ok (.aload_n 0, 1) := by decide +kernel
theorem dX4_followBest_22 : decode cX4_followBest 22 = .ok (.getfield 44, 3) := by decide +kernel
theorem dX4_followBest_25 : decode cX4_followBest 25 = .ok (.if_icmp .ge 103, 3) := by decide +kernel
theorem dX4_followBest_28 : decode cX4_followBest 28 = .ok (.aload_n 0, 1) := by decide +kernel
theorem dX4_followBest_29 : decode cX4_followBest 29 = .ok (.iload 4, 2) := by decide +kernel
theorem dX4_followBest_31 : decode cX4_followBest 31 = .ok (.iload 5, 2) := by decide +kernel
theorem dX4_followBest_33 : decode cX4_followBest 33 = .ok (.invokevirtual 95, 3) := by decide +kernel
theorem dX4_followBest_36 : decode cX4_followBest 36 = .ok (.istore 7, 2) := by decide +kernel
theorem dX4_followBest_38 : decode cX4_followBest 38 = .ok (.aload_n 0, 1) := by decide +kernel
theorem dX4_followBest_39 : decode cX4_followBest 39 = .ok (.getfield 21, 3) := by decide +kernel
theorem dX4_followBest_42 : decode cX4_followBest 42 = .ok (.iload 6, 2) := by decide +kernel
theorem dX4_followBest_44 : decode cX4_followBest 44 = .ok (.iload 7, 2) := by decide +kernel
theorem dX4_followBest_46 : decode cX4_followBest 46 = .ok (.iastore, 1) := by decide +kernel
theorem dX4_followBest_47 : decode cX4_followBest 47 = .ok (.aload_n 0, 1) := by decide +kernel
theorem dX4_followBest_48 : decode cX4_followBest 48 = .ok (.dup, 1) := by decide +kernel
theorem dX4_followBest_49 : decode cX4_followBest 49 = .ok (.getfield 89, 3) := by decide +kernel
theorem dX4_followBest_52 : decode cX4_followBest 52 = .ok (.aload_n 1, 1) := by decide +kernel
theorem dX4_followBest_53 : decode cX4_followBest 53 = .ok (.aload_n 2, 1) := by decide +kernel
theorem dX4_followBest_54 : decode cX4_followBest 54 = .ok (.iload 7, 2) := by decide +kernel
theorem dX4_followBest_56 : decode cX4_followBest 56 = .ok (.invokevirtual 45, 3) := by decide +kernel
theorem dX4_followBest_59 : decode cX4_followBest 59 = .ok (.iload 5, 2) := by decide +kernel
theorem dX4_followBest_61 : decode cX4_followBest 61 = .ok (.invokevirtual 68, 3) := by decide +kernel
theorem dX4_followBest_64 : decode cX4_followBest 64 = .ok (.iconst 1, 1) := by decide +kernel
theorem dX4_followBest_65 : decode cX4_followBest 65 = .ok (.if_icmp .ne 7, 3) := by decide +kernel
theorem dX4_followBest_68 : decode cX4_followBest 68 = .ok (.iconst 1, 1) := by decide +kernel
theorem dX4_followBest_69 : decode cX4_followBest 69 = .ok (.goto 4, 3) := by decide +kernel
theorem dX4_followBest_72 : decode cX4_followBest 72 = .ok (.iconst 0, 1) := by decide +kernel
theorem dX4_followBest_73 : decode cX4_followBest 73 = .ok (.iadd, 1) := by decide +kernel
theorem dX4_followBest_74 : decode cX4_followBest 74 = .ok (.putfield 89, 3) := by decide +kernel
theorem dX4_followBest_77 : decode cX4_followBest 77 = .ok (.aload_n 0, 1) := by decide +kernel
theorem dX4_followBest_78 : decode cX4_followBest 78 = .ok (.dup, 1) := by decide +kernel
theorem dX4_followBest_79 : decode cX4_followBest 79 = .ok (.getfield 92, 3) := by decide +kernel
theorem dX4_followBest_82 : decode cX4_followBest 82 = .ok (.aload_n 1, 1) := by decide +kernel
theorem dX4_followBest_83 : decode cX4_followBest 83 = .ok (.aload_n 2, 1) := by decide +kernel
theorem dX4_followBest_84 : decode cX4_followBest 84 = .ok (.iload 7, 2) := by decide +kernel
theorem dX4_followBest_86 : decode cX4_followBest 86 = .ok (.invokevirtual 45, 3) := by decide +kernel
theorem dX4_followBest_89 : decode cX4_followBest 89 = .ok (.iload 5, 2) := by decide +kernel
theorem dX4_followBest_91 : decode cX4_followBest 91 = .ok (.invokevirtual 72, 3) := by decide +kernel
theorem dX4_followBest_94 : decode cX4_followBest 94 = .ok (.iadd, 1) := by decide +kernel
theorem dX4_followBest_95 : decode cX4_followBest 95 = .ok (.putfield 92, 3) := by decide +kernel
theorem dX4_followBest_98 : decode cX4_followBest 98 = .ok (.iload 4, 2) := by decide +kernel
theorem dX4_followBest_100 : decode cX4_followBest 100 = .ok (.iconst 1, 1) := by decide +kernel
theorem dX4_followBest_101 : decode cX4_followBest 101 = .ok (.iload 7, 2) := by decide +kernel
theorem dX4_followBest_103 : decode cX4_followBest 103 = .ok (.ishl, 1) := by decide +kernel
theorem dX4_followBest_104 : decode cX4_followBest 104 = .ok (.ior, 1) := by decide +kernel
theorem dX4_followBest_105 : decode cX4_followBest 105 = .ok (.istore 4, 2) := by decide +kernel
theorem dX4_followBest_107 : decode cX4_followBest 107 = .ok (.aload_n 0, 1) := by decide +kernel
theorem dX4_followBest_108 : decode cX4_followBest 108 = .ok (.getfield 18, 3) := by decide +kernel
theorem dX4_followBest_111 : decode cX4_followBest 111 = .ok (.iload 7, 2) := by decide +kernel
theorem dX4_followBest_113 : decode cX4_followBest 113 = .ok (.bipush 19, 2) := by decide +kernel
theorem dX4_followBest_115 : decode cX4_followBest 115 = .ok (.imul, 1) := by decide +kernel
theorem dX4_followBest_116 : decode cX4_followBest 116 = .ok (.iload 5, 2) := by decide +kernel
theorem dX4_followBest_118 : decode cX4_followBest 118 = .ok (.iadd, 1) := by decide +kernel
theorem dX4_followBest_119 : decode cX4_followBest 119 = .ok (.iaload, 1) := by decide +kernel
theorem dX4_followBest_120 : decode cX4_followBest 120 = .ok (.istore 5, 2) := by decide +kernel
theorem dX4_followBest_122 : decode cX4_followBest 122 = .ok (.iinc 6 1, 3) := by decide +kernel
theorem dX4_followBest_125 : decode cX4_followBest 125 = .ok (.goto (-106), 3) := by decide +kernel
theorem dX4_followBest_128 : decode cX4_followBest 128 = .ok (.return_, 1) := by decide +kernel
theorem dX4_leastOfBest_0 : decode cX4_leastOfBest 0 = .ok (.iconst 0, 1) := by decide +kernel
theorem dX4_leastOfBest_1 : decode cX4_leastOfBest 1 = .ok (.istore_n 3, 1) := by decide +kernel
theorem dX4_leastOfBest_2 : decode cX4_leastOfBest 2 = .ok (.iload_n 3, 1) := by decide +kernel
theorem dX4_leastOfBest_3 : decode cX4_leastOfBest 3 = .ok (.aload_n 0, 1) := by decide +kernel
theorem dX4_leastOfBest_4 : decode cX4_leastOfBest 4 = .ok (.getfield 44, 3) := by decide +kernel
theorem dX4_leastOfBest_7 : decode cX4_leastOfBest 7 = .ok (.if_icmp .ge 40, 3) := by decide +kernel
theorem dX4_leastOfBest_10 : decode cX4_leastOfBest 10 = .ok (.iload_n 1, 1) := by decide +kernel
theorem dX4_leastOfBest_11 : decode cX4_leastOfBest 11 = .ok (.iconst 1, 1) := by decide +kernel
theorem dX4_leastOfBest_12 : decode cX4_leastOfBest 12 = .ok (.iload_n 3, 1) := by decide +kernel
theorem dX4_leastOfBest_13 : decode cX4_leastOfBest 13 = .ok (.ishl, 1) := by decide +kernel
theorem dX4_leastOfBest_14 : decode cX4_leastOfBest 14 = .ok (.iand, 1) := by decide +kernel
theorem dX4_leastOfBest_15 : decode cX4_leastOfBest 15 = .ok (.ifCond .ne 26, 3) := by decide +kernel
theorem dX4_leastOfBest_18 : decode cX4_leastOfBest 18 = .ok (.aload_n 0, 1) := by decide +kernel
theorem dX4_leastOfBest_19 : decode cX4_leastOfBest 19 = .ok (.iload_n 1, 1) := by decide +kernel
theorem dX4_leastOfBest_20 : decode cX4_leastOfBest 20 = .ok (.iload_n 2, 1) := by decide +kernel
theorem dX4_leastOfBest_21 : decode cX4_leastOfBest 21 = .ok (.iload_n 3, 1) := by decide +kernel
theorem dX4_leastOfBest_22 : decode cX4_leastOfBest 22 = .ok (.invokevirtual 85, 3) := by decide +kernel
theorem dX4_leastOfBest_25 : decode cX4_leastOfBest 25 = .ok (.aload_n 0, 1) := by decide +kernel
theorem dX4_leastOfBest_26 : decode cX4_leastOfBest 26 = .ok (.getfield 9, 3) := by decide +kernel
theorem dX4_leastOfBest_29 : decode cX4_leastOfBest 29 = .ok (.iload_n 1, 1) := by decide +kernel
theorem dX4_leastOfBest_30 : decode cX4_leastOfBest 30 = .ok (.bipush 19, 2) := by decide +kernel
theorem dX4_leastOfBest_32 : decode cX4_leastOfBest 32 = .ok (.imul, 1) := by decide +kernel
theorem dX4_leastOfBest_33 : decode cX4_leastOfBest 33 = .ok (.iload_n 2, 1) := by decide +kernel
theorem dX4_leastOfBest_34 : decode cX4_leastOfBest 34 = .ok (.iadd, 1) := by decide +kernel
theorem dX4_leastOfBest_35 : decode cX4_leastOfBest 35 = .ok (.iaload, 1) := by decide +kernel
theorem dX4_leastOfBest_36 : decode cX4_leastOfBest 36 = .ok (.if_icmp .ne 5, 3) := by decide +kernel
theorem dX4_leastOfBest_39 : decode cX4_leastOfBest 39 = .ok (.iload_n 3, 1) := by decide +kernel
theorem dX4_leastOfBest_40 : decode cX4_leastOfBest 40 = .ok (.ireturn, 1) := by decide +kernel
theorem dX4_leastOfBest_41 : decode cX4_leastOfBest 41 = .ok (.iinc 3 1, 3) := by decide +kernel
theorem dX4_leastOfBest_44 : decode cX4_leastOfBest 44 = .ok (.goto (-42), 3) := by decide +kernel
theorem dX4_leastOfBest_47 : decode cX4_leastOfBest 47 = .ok (.iconst 0, 1) := by decide +kernel
theorem dX4_leastOfBest_48 : decode cX4_leastOfBest 48 = .ok (.ireturn, 1) := by decide +kernel
theorem dX5_init_0 : decode cX5_init 0 = .ok (.aload_n 0, 1) := by decide +kernel
theorem dX5_init_1 : decode cX5_init 1 = .ok (.invokespecial 3, 3) := by decide +kernel
theorem dX5_init_4 : decode cX5_init 4 = .ok (.aload_n 0, 1) := by decide +kernel
theorem dX5_init_5 : decode cX5_init 5 = .ok (.bipush 60, 2) := by decide +kernel
theorem dX5_init_7 : decode cX5_init 7 = .ok (.newarray .int, 2) := by decide +kernel
theorem dX5_init_9 : decode cX5_init 9 = .ok (.putfield 9, 3) := by decide +kernel
theorem dX5_init_12 : decode cX5_init 12 = .ok (.aload_n 0, 1) := by decide +kernel
theorem dX5_init_13 : decode cX5_init 13 = .ok (.iconst 1, 1) := by decide +kernel
theorem dX5_init_14 : decode cX5_init 14 = .ok (.putfield 15, 3) := by decide +kernel
theorem dX5_init_17 : decode cX5_init 17 = .ok (.return_, 1) := by decide +kernel
theorem dX5_renew_0 : decode cX5_renew 0 = .ok (.aload_n 0, 1) := by decide +kernel
theorem dX5_renew_1 : decode cX5_renew 1 = .ok (.iconst 0, 1) := by decide +kernel
theorem dX5_renew_2 : decode cX5_renew 2 = .ok (.putfield 15, 3) := by decide +kernel
theorem dX5_renew_5 : decode cX5_renew 5 = .ok (.aload_n 0, 1) := by decide +kernel
theorem dX5_renew_6 : decode cX5_renew 6 = .ok (.iload_n 1, 1) := by decide +kernel
theorem dX5_renew_7 : decode cX5_renew 7 = .ok (.putfield 19, 3) := by decide +kernel
theorem dX5_renew_10 : decode cX5_renew 10 = .ok (.aload_n 0, 1) := by decide +kernel
theorem dX5_renew_11 : decode cX5_renew 11 = .ok (.iload_n 2, 1) := by decide +kernel
theorem dX5_renew_12 : decode cX5_renew 12 = .ok (.bipush 60, 2) := by decide +kernel
theorem dX5_renew_14 : decode cX5_renew 14 = .ok (.invokestatic 23, 3) := by decide +kernel
theorem dX5_renew_17 : decode cX5_renew 17 = .ok (.putfield 29, 3) := by decide +kernel
theorem dX5_renew_20 : decode cX5_renew 20 = .ok (.iconst 0, 1) := by decide +kernel
theorem dX5_renew_21 : decode cX5_renew 21 = .ok (.istore_n 3, 1) := by decide +kernel
theorem dX5_renew_22 : decode cX5_renew 22 = .ok (.iload_n 3, 1) := by decide +kernel
theorem dX5_renew_23 : decode cX5_renew 23 = .ok (.aload_n 0, 1) := by decide +kernel
theorem dX5_renew_24 : decode cX5_renew 24 = .ok (.getfield 29, 3) := by decide +kernel
theorem dX5_renew_27 : decode cX5_renew 27 = .ok (.if_icmp .ge 16, 3) := by decide +kernel
theorem dX5_renew_30 : decode cX5_renew 30 = .ok (.aload_n 0, 1) := by decide +kernel
theorem dX5_renew_31 : decode cX5_renew 31 = .ok (.getfield 9, 3) := by decide +kernel
theorem dX5_renew_34 : decode cX5_renew 34 = .ok (.iload_n 3, 1) := by decide +kernel
theorem dX5_renew_35 : decode cX5_renew 35 = .ok (.iconst 0, 1) := by decide +kernel
theorem dX5_renew_36 : decode cX5_renew 36 = .ok (.iastore, 1) := by decide +kernel
theorem dX5_renew_37 : decode cX5_renew 37 = .ok (.iinc 3 1, 3) := by decide +kernel
theorem dX5_renew_40 : decode cX5_renew 40 = .ok (.goto (-18), 3) := by decide +kernel
theorem dX5_renew_43 : decode cX5_renew 43 = .ok (.return_, 1) := by decide +kernel
theorem dX5_hasItems_0 : decode cX5_hasItems 0 = .ok (.iload_n 1, 1) := by decide +kernel
theorem dX5_hasItems_1 : decode cX5_hasItems 1 = .ok (.ifCond .lt 21, 3) := by decide +kernel
theorem dX5_hasItems_4 : decode cX5_hasItems 4 = .ok (.iload_n 2, 1) := by decide +kernel
theorem dX5_hasItems_5 : decode cX5_hasItems 5 = .ok (.ifCond .lt 17, 3) := by decide +kernel
theorem dX5_hasItems_8 : decode cX5_hasItems 8 = .ok (.iload_n 1, 1) := by decide +kernel
theorem dX5_hasItems_9 : decode cX5_hasItems 9 = .ok (.aload_n 0, 1) := by decide +kernel
theorem dX5_hasItems_10 : decode cX5_hasItems 10 = .ok (.getfield 29, 3) := by decide +kernel
theorem dX5_hasItems_13 : decode cX5_hasItems 13 = .ok (.iload_n 2, 1) := by decide +kernel
theorem dX5_hasItems_14 : decode cX5_hasItems 14 = .ok (.isub, 1) := by decide +kernel
theorem dX5_hasItems_15 : decode cX5_hasItems 15 = .ok (.if_icmp .gt 7, 3) := by decide +kernel
theorem dX5_hasItems_18 : decode cX5_hasItems 18 = .ok (.iconst 1, 1) := by decide +kernel
theorem dX5_hasItems_19 : decode cX5_hasItems 19 = .ok (.goto 4, 3) := by decide +kernel
theorem dX5_hasItems_22 : decode cX5_hasItems 22 = .ok (.iconst 0, 1) := by decide +kernel
theorem dX5_hasItems_23 : decode cX5_hasItems 23 = .ok (.ireturn, 1) := by decide +kernel
theorem dX5_findingAt_0 : decode cX5_findingAt 0 = .ok (.aload_n 0, 1) := by decide +kernel
theorem dX5_findingAt_1 : decode cX5_findingAt 1 = .ok (.getfield 15, 3) := by decide +kernel
theorem dX5_findingAt_4 : decode cX5_findingAt 4 = .ok (.ifCond .eq 5, 3) := by decide +kernel
theorem dX5_findingAt_7 : decode cX5_findingAt 7 = .ok (.iconst 1, 1) := by decide +kernel
theorem dX5_findingAt_8 : decode cX5_findingAt 8 = .ok (.ireturn, 1) := by decide +kernel
theorem dX5_findingAt_9 : decode cX5_findingAt 9 = .ok (.iload_n 1, 1) := by decide +kernel
theorem dX5_findingAt_10 : decode cX5_findingAt 10 = .ok (.aload_n 0, 1) := by decide +kernel
theorem dX5_findingAt_11 : decode cX5_findingAt 11 = .ok (.getfield 19, 3) := by decide +kernel
theorem dX5_findingAt_14 : decode cX5_findingAt 14 = .ok (.if_icmp .eq 5, 3) := by decide +kernel
theorem dX5_findingAt_17 : decode cX5_findingAt 17 = .ok (.iconst 3, 1) := by decide +kernel
theorem dX5_findingAt_18 : decode cX5_findingAt 18 = .ok (.ireturn, 1) := by decide +kernel
theorem dX5_findingAt_19 : decode cX5_findingAt 19 = .ok (.aload_n 0, 1) := by decide +kernel
theorem dX5_findingAt_20 : decode cX5_findingAt 20 = .ok (.iload_n 2, 1) := by decide +kernel
theorem dX5_findingAt_21 : decode cX5_findingAt 21 = .ok (.iconst 1, 1) := by decide +kernel
theorem dX5_findingAt_22 : decode cX5_findingAt 22 = .ok (.invokevirtual 32, 3) := by decide +kernel
theorem dX5_findingAt_25 : decode cX5_findingAt 25 = .ok (.ifCond .eq 7, 3) := by decide +kernel
theorem dX5_findingAt_28 : decode cX5_findingAt 28 = .ok (.iconst 0, 1) := by decide +kernel
theorem dX5_findingAt_29 : decode cX5_findingAt 29 = .ok (.goto 4, 3) := by decide +kernel
theorem dX5_findingAt_32 : decode cX5_findingAt 32 = .ok (.iconst 2, 1) := by decide +kernel
theorem dX5_findingAt_33 : decode cX5_findingAt 33 = .ok (.ireturn, 1) := by decide +kernel
theorem dX5_itemAt_0 : decode cX5_itemAt 0 = .ok (.aload_n 0, 1) := by decide +kernel
theorem dX5_itemAt_1 : decode cX5_itemAt 1 = .ok (.iload_n 1, 1) := by decide +kernel
theorem dX5_itemAt_2 : decode cX5_itemAt 2 = .ok (.iconst 1, 1) := by decide +kernel
theorem dX5_itemAt_3 : decode cX5_itemAt 3 = .ok (.invokevirtual 32, 3) := by decide +kernel
theorem dX5_itemAt_6 : decode cX5_itemAt 6 = .ok (.ifCond .eq 12, 3) := by decide +kernel
theorem dX5_itemAt_9 : decode cX5_itemAt 9 = .ok (.aload_n 0, 1) := by decide +kernel
theorem dX5_itemAt_10 : decode cX5_itemAt 10 = .ok (.getfield 9, 3) := by decide +kernel
theorem dX5_itemAt_13 : decode cX5_itemAt 13 = .ok (.iload_n 1, 1) := by decide +kernel
theorem dX5_itemAt_14 : decode cX5_itemAt 14 = .ok (.iaload, 1) := by decide +kernel
theorem dX5_itemAt_15 : decode cX5_itemAt 15 = .ok (.goto 4, 3) := by decide +kernel
theorem dX5_itemAt_18 : decode cX5_itemAt 18 = .ok (.iconst 0, 1) := by decide +kernel
theorem dX5_itemAt_19 : decode cX5_itemAt 19 = .ok (.ireturn, 1) := by decide +kernel
theorem dX5_put_0 : decode cX5_put 0 = .ok (.aload_n 0, 1) := by decide +kernel
theorem dX5_put_1 : decode cX5_put 1 = .ok (.iload_n 1, 1) := by decide +kernel
theorem dX5_put_2 : decode cX5_put 2 = .ok (.iconst 1, 1) := by decide +kernel
theorem dX5_put_3 : decode cX5_put 3 = .ok (.invokevirtual 32, 3) := by decide +kernel
theorem dX5_put_6 : decode cX5_put 6 = .ok (.ifCond .eq 14, 3) := by decide +kernel
theorem dX5_put_9 : decode cX5_put 9 = .ok (.aload_n 0, 1) := by decide +kernel
theorem dX5_put_10 : decode cX5_put 10 = .ok (.getfield 9, 3) := by decide +kernel
theorem dX5_put_13 : decode cX5_put 13 = .ok (.iload_n 1, 1) := by decide +kernel
theorem dX5_put_14 : decode cX5_put 14 = .ok (.aload_n 0, 1) := by decide +kernel
theorem dX5_put_15 : decode cX5_put 15 = .ok (.iload_n 2, 1) := by decide +kernel
theorem dX5_put_16 : decode cX5_put 16 = .ok (.invokevirtual 36, 3) := by decide +kernel
theorem dX5_put_19 : decode cX5_put 19 = .ok (.iastore, 1) := by decide +kernel
theorem dX5_put_20 : decode cX5_put 20 = .ok (.return_, 1) := by decide +kernel
theorem dX5_lowestBits_0 : decode cX5_lowestBits 0 = .ok (.aload_n 0, 1) := by decide +kernel
theorem dX5_lowestBits_1 : decode cX5_lowestBits 1 = .ok (.getfield 19, 3) := by decide +kernel
theorem dX5_lowestBits_4 : decode cX5_lowestBits 4 = .ok (.ifCond .ne 6, 3) := by decide +kernel
theorem dX5_lowestBits_7 : decode cX5_lowestBits 7 = .ok (.iload_n 1, 1) := by decide +kernel
theorem dX5_lowestBits_8 : decode cX5_lowestBits 8 = .ok (.i2b, 1) := by decide +kernel
theorem dX5_lowestBits_9 : decode cX5_lowestBits 9 = .ok (.ireturn, 1) := by decide +kernel
theorem dX5_lowestBits_10 : decode cX5_lowestBits 10 = .ok (.aload_n 0, 1) := by decide +kernel
theorem dX5_lowestBits_11 : decode cX5_lowestBits 11 = .ok (.getfield 19, 3) := by decide +kernel
theorem dX5_lowestBits_14 : decode cX5_lowestBits 14 = .ok (.iconst 1, 1) := by decide +kernel
theorem dX5_lowestBits_15 : decode cX5_lowestBits 15 = .ok (.if_icmp .ne 8, 3) := by decide +kernel
theorem dX5_lowestBits_18 : decode cX5_lowestBits 18 = .ok (.iload_n 1, 1) := by decide +kernel
theorem dX5_lowestBits_19 : decode cX5_lowestBits 19 = .ok (.i2s, 1) := by decide +kernel
theorem dX5_lowestBits_20 : decode cX5_lowestBits 20 = .ok (.goto 4, 3) := by decide +kernel
theorem dX5_lowestBits_23 : decode cX5_lowestBits 23 = .ok (.iload_n 1, 1) := by decide +kernel
theorem dX5_lowestBits_24 : decode cX5_lowestBits 24 = .ok (.ireturn, 1) := by decide +kernel
theorem dX6_init_0 : decode cX6_init 0 = .ok (.aload_n 0, 1) := by decide +kernel
theorem dX6_init_1 : decode cX6_init 1 = .ok (.invokespecial 3, 3) := by decide +kernel
theorem dX6_init_4 : decode cX6_init 4 = .ok (.aload_n 0, 1) := by decide +kernel
theorem dX6_init_5 : decode cX6_init 5 = .ok (.bipush 8, 2) := by decide +kernel
theorem dX6_init_7 : decode cX6_init 7 = .ok (.newarray .int, 2) := by decide +kernel
theorem dX6_init_9 : decode cX6_init 9 = .ok (.putfield 9, 3) := by decide +kernel
theorem dX6_init_12 : decode cX6_init 12 = .ok (.aload_n 0, 1) := by decide +kernel
theorem dX6_init_13 : decode cX6_init 13 = .ok (.bipush 8, 2) := by decide +kernel
theorem dX6_init_15 : decode cX6_init 15 = .ok (.newarray .int, 2) := by decide +kernel
theorem dX6_init_17 : decode cX6_init 17 = .ok (.putfield 15, 3) := by decide +kernel
theorem dX6_init_20 : decode cX6_init 20 = .ok (.return_, 1) := by decide +kernel
theorem dX6_isPossible_0 : decode cX6_isPossible 0 = .ok (.iload_n 0, 1) := by decide +kernel
theorem dX6_isPossible_1 : decode cX6_isPossible 1 = .ok (.iconst 0, 1) := by decide +kernel
theorem dX6_isPossible_2 : decode cX6_isPossible 2 = .ok (.bipush 24, 2) := by decide +kernel
theorem dX6_isPossible_4 : decode cX6_isPossible 4 = .ok (.invokestatic 18, 3) := by decide +kernel
theorem dX6_isPossible_7 : decode cX6_isPossible 7 = .ok (.ifCond .eq 17, 3) := by decide +kernel
theorem dX6_isPossible_10 : decode cX6_isPossible 10 = .ok (.iload_n 1, 1) := by decide +kernel
theorem dX6_isPossible_11 : decode cX6_isPossible 11 = .ok (.iconst 0, 1) := by decide +kernel
theorem dX6_isPossible_12 : decode cX6_isPossible 12 = .ok (.bipush 18, 2) := by decide +kernel
theorem dX6_isPossible_14 : decode cX6_isPossible 14 = .ok (.invokestatic 18, 3) := by decide +kernel
theorem dX6_isPossible_17 : decode cX6_isPossible 17 = .ok (.ifCond .eq 7, 3) := by decide +kernel
theorem dX6_isPossible_20 : decode cX6_isPossible 20 = .ok (.iconst 1, 1) := by decide +kernel
theorem dX6_isPossible_21 : decode cX6_isPossible 21 = .ok (.goto 4, 3) := by decide +kernel
theorem dX6_isPossible_24 : decode cX6_isPossible 24 = .ok (.iconst 0, 1) := by decide +kernel
theorem dX6_isPossible_25 : decode cX6_isPossible 25 = .ok (.ireturn, 1) := by decide +kernel
theorem dX6_isFull_0 : decode cX6_isFull 0 = .ok (.aload_n 0, 1) := by decide +kernel
theorem dX6_isFull_1 : decode cX6_isFull 1 = .ok (.getfield 22, 3) := by decide +kernel
theorem dX6_isFull_4 : decode cX6_isFull 4 = .ok (.bipush 8, 2) := by decide +kernel
theorem dX6_isFull_6 : decode cX6_isFull 6 = .ok (.if_icmp .lt 7, 3) := by decide +kernel
theorem dX6_isFull_9 : decode cX6_isFull 9 = .ok (.iconst 1, 1) := by decide +kernel
theorem dX6_isFull_10 : decode cX6_isFull 10 = .ok (.goto 4, 3) := by decide +kernel
theorem dX6_isFull_13 : decode cX6_isFull 13 = .ok (.iconst 0, 1) := by decide +kernel
theorem dX6_isFull_14 : decode cX6_isFull 14 = .ok (.ireturn, 1) := by decide +kernel
theorem dX6_add_0 : decode cX6_add 0 = .ok (.aload_n 0, 1) := by decide +kernel
theorem dX6_add_1 : decode cX6_add 1 = .ok (.invokevirtual 26, 3) := by decide +kernel
theorem dX6_add_4 : decode cX6_add 4 = .ok (.ifCond .ne 33, 3) := by decide +kernel
theorem dX6_add_7 : decode cX6_add 7 = .ok (.aload_n 0, 1) := by decide +kernel
theorem dX6_add_8 : decode cX6_add 8 = .ok (.getfield 9, 3) := by decide +kernel
theorem dX6_add_11 : decode cX6_add 11 = .ok (.aload_n 0, 1) := by decide +kernel
theorem dX6_add_12 : decode cX6_add 12 = .ok (.getfield 22, 3) := by decide +kernel
theorem dX6_add_15 : decode cX6_add 15 = .ok (.iload_n 1, 1) := by decide +kernel
theorem dX6_add_16 : decode cX6_add 16 = .ok (.iastore, 1) := by decide +kernel
theorem dX6_add_17 : decode cX6_add 17 = .ok (.aload_n 0, 1) := by decide +kernel
theorem dX6_add_18 : decode cX6_add 18 = .ok (.getfield 15, 3) := by decide +kernel
theorem dX6_add_21 : decode cX6_add 21 = .ok (.aload_n 0, 1) := by decide +kernel
theorem dX6_add_22 : decode cX6_add 22 = .ok (.getfield 22, 3) := by decide +kernel
theorem dX6_add_25 : decode cX6_add 25 = .ok (.iload_n 2, 1) := by decide +kernel
theorem dX6_add_26 : decode cX6_add 26 = .ok (.iastore, 1) := by decide +kernel
theorem dX6_add_27 : decode cX6_add 27 = .ok (.aload_n 0, 1) := by decide +kernel
theorem dX6_add_28 : decode cX6_add 28 = .ok (.dup, 1) := by decide +kernel
theorem dX6_add_29 : decode cX6_add 29 = .ok (.getfield 22, 3) := by decide +kernel
theorem dX6_add_32 : decode cX6_add 32 = .ok (.iconst 1, 1) := by decide +kernel
theorem dX6_add_33 : decode cX6_add 33 = .ok (.iadd, 1) := by decide +kernel
theorem dX6_add_34 : decode cX6_add 34 = .ok (.putfield 22, 3) := by decide +kernel
theorem dX6_add_37 : decode cX6_add 37 = .ok (.return_, 1) := by decide +kernel
theorem dX6_agreeWith_0 : decode cX6_agreeWith 0 = .ok (.iconst 0, 1) := by decide +kernel
theorem dX6_agreeWith_1 : decode cX6_agreeWith 1 = .ok (.istore_n 3, 1) := by decide +kernel
theorem dX6_agreeWith_2 : decode cX6_agreeWith 2 = .ok (.iload_n 3, 1) := by decide +kernel
theorem dX6_agreeWith_3 : decode cX6_agreeWith 3 = .ok (.aload_n 0, 1) := by decide +kernel
theorem dX6_agreeWith_4 : decode cX6_agreeWith 4 = .ok (.getfield 22, 3) := by decide +kernel
theorem dX6_agreeWith_7 : decode cX6_agreeWith 7 = .ok (.if_icmp .ge 45, 3) := by decide +kernel
theorem dX6_agreeWith_10 : decode cX6_agreeWith 10 = .ok (.aload_n 0, 1) := by decide +kernel
theorem dX6_agreeWith_11 : decode cX6_agreeWith 11 = .ok (.getfield 9, 3) := by decide +kernel
theorem dX6_agreeWith_14 : decode cX6_agreeWith 14 = .ok (.iload_n 3, 1) := by decide +kernel
theorem dX6_agreeWith_15 : decode cX6_agreeWith 15 = .ok (.iaload, 1) := by decide +kernel
theorem dX6_agreeWith_16 : decode cX6_agreeWith 16 = .ok (.istore 4, 2) := by decide +kernel
theorem dX6_agreeWith_18 : decode cX6_agreeWith 18 = .ok (.iload 4, 2) := by decide +kernel
theorem dX6_agreeWith_20 : decode cX6_agreeWith 20 = .ok (.iload_n 2, 1) := by decide +kernel
theorem dX6_agreeWith_21 : decode cX6_agreeWith 21 = .ok (.if_icmp .gt 23, 3) := by decide +kernel
theorem dX6_agreeWith_24 : decode cX6_agreeWith 24 = .ok (.iload 4, 2) := by decide +kernel
theorem dX6_agreeWith_26 : decode cX6_agreeWith 26 = .ok (.aload_n 1, 1) := by decide +kernel
theorem dX6_agreeWith_27 : decode cX6_agreeWith 27 = .ok (.arraylength, 1) := by decide +kernel
theorem dX6_agreeWith_28 : decode cX6_agreeWith 28 = .ok (.if_icmp .ge 16, 3) := by decide +kernel
theorem dX6_agreeWith_31 : decode cX6_agreeWith 31 = .ok (.aload_n 1, 1) := by decide +kernel
theorem dX6_agreeWith_32 : decode cX6_agreeWith 32 = .ok (.iload 4, 2) := by decide +kernel
theorem dX6_agreeWith_34 : decode cX6_agreeWith 34 = .ok (.iaload, 1) := by decide +kernel
theorem dX6_agreeWith_35 : decode cX6_agreeWith 35 = .ok (.aload_n 0, 1) := by decide +kernel
theorem dX6_agreeWith_36 : decode cX6_agreeWith 36 = .ok (.getfield 15, 3) := by decide +kernel
theorem dX6_agreeWith_39 : decode cX6_agreeWith 39 = .ok (.iload_n 3, 1) := by decide +kernel
theorem dX6_agreeWith_40 : decode cX6_agreeWith 40 = .ok (.iaload, 1) := by decide +kernel
theorem dX6_agreeWith_41 : decode cX6_agreeWith 41 = .ok (.if_icmp .eq 5, 3) := by decide +kernel
theorem dX6_agreeWith_44 : decode cX6_agreeWith 44 = .ok (.iconst 0, 1) := by decide +kernel
theorem dX6_agreeWith_45 : decode cX6_agreeWith 45 = .ok (.ireturn, 1) := by decide +kernel
theorem dX6_agreeWith_46 : decode cX6_agreeWith 46 = .ok (.iinc 3 1, 3) := by decide +kernel
theorem dX6_agreeWith_49 : decode cX6_agreeWith 49 = .ok (.goto (-47), 3) := by decide +kernel
theorem dX6_agreeWith_52 : decode cX6_agreeWith 52 = .ok (.iconst 1, 1) := by decide +kernel
theorem dX6_agreeWith_53 : decode cX6_agreeWith 53 = .ok (.ireturn, 1) := by decide +kernel
theorem dX7_init_0 : decode cX7_init 0 = .ok (.aload_n 0, 1) := by decide +kernel
theorem dX7_init_1 : decode cX7_init 1 = .ok (.invokespecial 3, 3) := by decide +kernel
theorem dX7_init_4 : decode cX7_init 4 = .ok (.aload_n 0, 1) := by decide +kernel
theorem dX7_init_5 : decode cX7_init 5 = .ok (.iload_n 1, 1) := by decide +kernel
theorem dX7_init_6 : decode cX7_init 6 = .ok (.iconst 0, 1) := by decide +kernel
theorem dX7_init_7 : decode cX7_init 7 = .ok (.invokestatic 9, 3) := by decide +kernel
theorem dX7_init_10 : decode cX7_init 10 = .ok (.newarray .int, 2) := by decide +kernel
theorem dX7_init_12 : decode cX7_init 12 = .ok (.putfield 15, 3) := by decide +kernel
theorem dX7_init_15 : decode cX7_init 15 = .ok (.return_, 1) := by decide +kernel
theorem dX7_isFull_0 : decode cX7_isFull 0 = .ok (.aload_n 0, 1) := by decide +kernel
theorem dX7_isFull_1 : decode cX7_isFull 1 = .ok (.getfield 21, 3) := by decide +kernel
theorem dX7_isFull_4 : decode cX7_isFull 4 = .ok (.aload_n 0, 1) := by decide +kernel
theorem dX7_isFull_5 : decode cX7_isFull 5 = .ok (.getfield 15, 3) := by decide +kernel
theorem dX7_isFull_8 : decode cX7_isFull 8 = .ok (.arraylength, 1) := by decide +kernel
theorem dX7_isFull_9 : decode cX7_isFull 9 = .ok (.if_icmp .lt 7, 3) := by decide +kernel
theorem dX7_isFull_12 : decode cX7_isFull 12 = .ok (.iconst 1, 1) := by decide +kernel
theorem dX7_isFull_13 : decode cX7_isFull 13 = .ok (.goto 4, 3) := by decide +kernel
theorem dX7_isFull_16 : decode cX7_isFull 16 = .ok (.iconst 0, 1) := by decide +kernel
theorem dX7_isFull_17 : decode cX7_isFull 17 = .ok (.ireturn, 1) := by decide +kernel
theorem dX7_append_0 : decode cX7_append 0 = .ok (.aload_n 0, 1) := by decide +kernel
theorem dX7_append_1 : decode cX7_append 1 = .ok (.invokevirtual 25, 3) := by decide +kernel
theorem dX7_append_4 : decode cX7_append 4 = .ok (.ifCond .ne 23, 3) := by decide +kernel
theorem dX7_append_7 : decode cX7_append 7 = .ok (.aload_n 0, 1) := by decide +kernel
theorem dX7_append_8 : decode cX7_append 8 = .ok (.getfield 15, 3) := by decide +kernel
theorem dX7_append_11 : decode cX7_append 11 = .ok (.aload_n 0, 1) := by decide +kernel
theorem dX7_append_12 : decode cX7_append 12 = .ok (.getfield 21, 3) := by decide +kernel
theorem dX7_append_15 : decode cX7_append 15 = .ok (.iload_n 1, 1) := by decide +kernel
theorem dX7_append_16 : decode cX7_append 16 = .ok (.iastore, 1) := by decide +kernel
theorem dX7_append_17 : decode cX7_append 17 = .ok (.aload_n 0, 1) := by decide +kernel
theorem dX7_append_18 : decode cX7_append 18 = .ok (.dup, 1) := by decide +kernel
theorem dX7_append_19 : decode cX7_append 19 = .ok (.getfield 21, 3) := by decide +kernel
theorem dX7_append_22 : decode cX7_append 22 = .ok (.iconst 1, 1) := by decide +kernel
theorem dX7_append_23 : decode cX7_append 23 = .ok (.iadd, 1) := by decide +kernel
theorem dX7_append_24 : decode cX7_append 24 = .ok (.putfield 21, 3) := by decide +kernel
theorem dX7_append_27 : decode cX7_append 27 = .ok (.return_, 1) := by decide +kernel
theorem dX7_at_0 : decode cX7_at 0 = .ok (.iload_n 1, 1) := by decide +kernel
theorem dX7_at_1 : decode cX7_at 1 = .ok (.ifCond .lt 20, 3) := by decide +kernel
theorem dX7_at_4 : decode cX7_at 4 = .ok (.iload_n 1, 1) := by decide +kernel
theorem dX7_at_5 : decode cX7_at 5 = .ok (.aload_n 0, 1) := by decide +kernel
theorem dX7_at_6 : decode cX7_at 6 = .ok (.getfield 21, 3) := by decide +kernel
theorem dX7_at_9 : decode cX7_at 9 = .ok (.if_icmp .ge 12, 3) := by decide +kernel
theorem dX7_at_12 : decode cX7_at 12 = .ok (.aload_n 0, 1) := by decide +kernel
theorem dX7_at_13 : decode cX7_at 13 = .ok (.getfield 15, 3) := by decide +kernel
theorem dX7_at_16 : decode cX7_at 16 = .ok (.iload_n 1, 1) := by decide +kernel
theorem dX7_at_17 : decode cX7_at 17 = .ok (.iaload, 1) := by decide +kernel
theorem dX7_at_18 : decode cX7_at 18 = .ok (.goto 4, 3) := by decide +kernel
theorem dX7_at_21 : decode cX7_at 21 = .ok (.iconst (-1), 1) := by decide +kernel
theorem dX7_at_22 : decode cX7_at 22 = .ok (.ireturn, 1) := by decide +kernel
theorem dJ9_floorMod_7cf53_0 : decode cJ9_floorMod_7cf53 0 = .ok (.iload_n 0, 1) := by decide +kernel
theorem dJ9_floorMod_7cf53_1 : decode cJ9_floorMod_7cf53 1 = .ok (.iload_n 1, 1) := by decide +kernel
theorem dJ9_floorMod_7cf53_2 : decode cJ9_floorMod_7cf53 2 = .ok (.irem, 1) := by decide +kernel
theorem dJ9_floorMod_7cf53_3 : decode cJ9_floorMod_7cf53 3 = .ok (.istore_n 2, 1) := by decide +kernel
theorem dJ9_floorMod_7cf53_4 : decode cJ9_floorMod_7cf53 4 = .ok (.iload_n 0, 1) := by decide +kernel
theorem dJ9_floorMod_7cf53_5 : decode cJ9_floorMod_7cf53 5 = .ok (.iload_n 1, 1) := by decide +kernel
theorem dJ9_floorMod_7cf53_6 : decode cJ9_floorMod_7cf53 6 = .ok (.ixor, 1) := by decide +kernel
theorem dJ9_floorMod_7cf53_7 : decode cJ9_floorMod_7cf53 7 = .ok (.ifCond .ge 11, 3) := by decide +kernel
theorem dJ9_floorMod_7cf53_10 : decode cJ9_floorMod_7cf53 10 = .ok (.iload_n 2, 1) := by decide +kernel
theorem dJ9_floorMod_7cf53_11 : decode cJ9_floorMod_7cf53 11 = .ok (.ifCond .eq 7, 3) := by decide +kernel
theorem dJ9_floorMod_7cf53_14 : decode cJ9_floorMod_7cf53 14 = .ok (.iload_n 2, 1) := by decide +kernel
theorem dJ9_floorMod_7cf53_15 : decode cJ9_floorMod_7cf53 15 = .ok (.iload_n 1, 1) := by decide +kernel
theorem dJ9_floorMod_7cf53_16 : decode cJ9_floorMod_7cf53 16 = .ok (.iadd, 1) := by decide +kernel
theorem dJ9_floorMod_7cf53_17 : decode cJ9_floorMod_7cf53 17 = .ok (.ireturn, 1) := by decide +kernel
theorem dJ9_floorMod_7cf53_18 : decode cJ9_floorMod_7cf53 18 = .ok (.iload_n 2, 1) := by decide +kernel
theorem dJ9_floorMod_7cf53_19 : decode cJ9_floorMod_7cf53 19 = .ok (.ireturn, 1) := by decide +kernel
theorem dJ9_max_7cf53_0 : decode cJ9_max_7cf53 0 = .ok (.iload_n 0, 1) := by decide +kernel
theorem dJ9_max_7cf53_1 : decode cJ9_max_7cf53 1 = .ok (.iload_n 1, 1) := by decide +kernel
theorem dJ9_max_7cf53_2 : decode cJ9_max_7cf53 2 = .ok (.if_icmp .lt 7, 3) := by decide +kernel
theorem dJ9_max_7cf53_5 : decode cJ9_max_7cf53 5 = .ok (.iload_n 0, 1) := by decide +kernel
theorem dJ9_max_7cf53_6 : decode cJ9_max_7cf53 6 = .ok (.goto 4, 3) := by decide +kernel
theorem dJ9_max_7cf53_9 : decode cJ9_max_7cf53 9 = .ok (.iload_n 1, 1) := by decide +kernel
theorem dJ9_max_7cf53_10 : decode cJ9_max_7cf53 10 = .ok (.ireturn, 1) := by decide +kernel
theorem dJ9_min_7cf53_0 : decode cJ9_min_7cf53 0 = .ok (.iload_n 0, 1) := by decide +kernel
theorem dJ9_min_7cf53_1 : decode cJ9_min_7cf53 1 = .ok (.iload_n 1, 1) := by decide +kernel
theorem dJ9_min_7cf53_2 : decode cJ9_min_7cf53 2 = .ok (.if_icmp .gt 7, 3) := by decide +kernel
theorem dJ9_min_7cf53_5 : decode cJ9_min_7cf53 5 = .ok (.iload_n 0, 1) := by decide +kernel
theorem dJ9_min_7cf53_6 : decode cJ9_min_7cf53 6 = .ok (.goto 4, 3) := by decide +kernel
theorem dJ9_min_7cf53_9 : decode cJ9_min_7cf53 9 = .ok (.iload_n 1, 1) := by decide +kernel
theorem dJ9_min_7cf53_10 : decode cJ9_min_7cf53 10 = .ok (.ireturn, 1) := by decide +kernel
