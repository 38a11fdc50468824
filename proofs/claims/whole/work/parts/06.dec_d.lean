theorem dX9_times_5 : decode cX9_times 5 = .ok (.iload_n 1, 1) := by decide +kernel
theorem dX9_times_6 : decode cX9_times 6 = .ok (.invokevirtual 143, 3) := by decide +kernel
theorem dX9_times_9 : decode cX9_times 9 = .ok (.ifCond .eq 19, 3) := by decide +kernel
theorem dX9_times_12 : decode cX9_times 12 = .ok (.iload_n 2, 1) := by decide +kernel
theorem dX9_times_13 : decode cX9_times 13 = .ok (.invokestatic 148, 3) := by decide +kernel
theorem dX9_times_16 : decode cX9_times 16 = .ok (.ifCond .eq 12, 3) := by decide +kernel
theorem dX9_times_19 : decode cX9_times 19 = .ok (.aload_n 0, 1) := by decide +kernel
theorem dX9_times_20 : decode cX9_times 20 = .ok (.iload_n 1, 1) := by decide +kernel
theorem dX9_times_21 : decode cX9_times 21 = .ok (.iload_n 2, 1) := by decide +kernel
theorem dX9_times_22 : decode cX9_times 22 = .ok (.invokevirtual 202, 3) := by decide +kernel
theorem dX9_times_25 : decode cX9_times 25 = .ok (.goto 5, 3) := by decide +kernel
theorem dX9_times_28 : decode cX9_times 28 = .ok (.bipush (-2), 2) := by decide +kernel
theorem dX9_times_30 : decode cX9_times 30 = .ok (.ireturn, 1) := by decide +kernel
theorem dX9_takenBy_0 : decode cX9_takenBy 0 = .ok (.iconst 0, 1) := by decide +kernel
theorem dX9_takenBy_1 : decode cX9_takenBy 1 = .ok (.istore_n 2, 1) := by decide +kernel
theorem dX9_takenBy_2 : decode cX9_takenBy 2 = .ok (.iconst 0, 1) := by decide +kernel
theorem dX9_takenBy_3 : decode cX9_takenBy 3 = .ok (.istore_n 3, 1) := by decide +kernel
theorem dX9_takenBy_4 : decode cX9_takenBy 4 = .ok (.iload_n 3, 1) := by decide +kernel
theorem dX9_takenBy_5 : decode cX9_takenBy 5 = .ok (.iload_n 1, 1) := by decide +kernel
theorem dX9_takenBy_6 : decode cX9_takenBy 6 = .ok (.if_icmp .ge 18, 3) := by decide +kernel
theorem dX9_takenBy_9 : decode cX9_takenBy 9 = .ok (.iload_n 2, 1) := by decide +kernel
theorem dX9_takenBy_10 : decode cX9_takenBy 10 = .ok (.aload_n 0, 1) := by decide +kernel
theorem dX9_takenBy_11 : decode cX9_takenBy 11 = .ok (.getfield 49, 3) := by decide +kernel
theorem dX9_takenBy_14 : decode cX9_takenBy 14 = .ok (.iload_n 3, 1) := by decide +kernel
theorem dX9_takenBy_15 : decode cX9_takenBy 15 = .ok (.iaload, 1) := by decide +kernel
theorem dX9_takenBy_16 : decode cX9_takenBy 16 = .ok (.iadd, 1) := by decide +kernel
theorem dX9_takenBy_17 : decode cX9_takenBy 17 = .ok (.istore_n 2, 1) := by decide +kernel
theorem dX9_takenBy_18 : decode cX9_takenBy 18 = .ok (.iinc 3 1, 3) := by decide +kernel
theorem dX9_takenBy_21 : decode cX9_takenBy 21 = .ok (.goto (-17), 3) := by decide +kernel
theorem dX9_takenBy_24 : decode cX9_takenBy 24 = .ok (.iload_n 2, 1) := by decide +kernel
theorem dX9_takenBy_25 : decode cX9_takenBy 25 = .ok (.ireturn, 1) := by decide +kernel
theorem dX9_taken_0 : decode cX9_taken 0 = .ok (.aload_n 0, 1) := by decide +kernel
theorem dX9_taken_1 : decode cX9_taken 1 = .ok (.invokevirtual 196, 3) := by decide +kernel
theorem dX9_taken_4 : decode cX9_taken 4 = .ok (.iload_n 1, 1) := by decide +kernel
theorem dX9_taken_5 : decode cX9_taken 5 = .ok (.i2l, 1) := by decide +kernel
theorem dX9_taken_6 : decode cX9_taken 6 = .ok (.lconst 0, 1) := by decide +kernel
theorem dX9_taken_7 : decode cX9_taken 7 = .ok (.aload_n 0, 1) := by decide +kernel
theorem dX9_taken_8 : decode cX9_taken 8 = .ok (.getfield 121, 3) := by decide +kernel
theorem dX9_taken_11 : decode cX9_taken 11 = .ok (.i2l, 1) := by decide +kernel
theorem dX9_taken_12 : decode cX9_taken 12 = .ok (.invokestatic 69, 3) := by decide +kernel
theorem dX9_taken_15 : decode cX9_taken 15 = .ok (.ifCond .eq 11, 3) := by decide +kernel
theorem dX9_taken_18 : decode cX9_taken 18 = .ok (.aload_n 0, 1) := by decide +kernel
theorem dX9_taken_19 : decode cX9_taken 19 = .ok (.iload_n 1, 1) := by decide +kernel
theorem dX9_taken_20 : decode cX9_taken 20 = .ok (.invokevirtual 205, 3) := by decide +kernel
theorem dX9_taken_23 : decode cX9_taken 23 = .ok (.goto 5, 3) := by decide +kernel
theorem dX9_taken_26 : decode cX9_taken 26 = .ok (.bipush (-2), 2) := by decide +kernel
theorem dX9_taken_28 : decode cX9_taken 28 = .ok (.ireturn, 1) := by decide +kernel
theorem dX9_stuckNow_0 : decode cX9_stuckNow 0 = .ok (.iconst 0, 1) := by decide +kernel
theorem dX9_stuckNow_1 : decode cX9_stuckNow 1 = .ok (.istore_n 1, 1) := by decide +kernel
theorem dX9_stuckNow_2 : decode cX9_stuckNow 2 = .ok (.iload_n 1, 1) := by decide +kernel
theorem dX9_stuckNow_3 : decode cX9_stuckNow 3 = .ok (.aload_n 0, 1) := by decide +kernel
theorem dX9_stuckNow_4 : decode cX9_stuckNow 4 = .ok (.getfield 121, 3) := by decide +kernel
theorem dX9_stuckNow_7 : decode cX9_stuckNow 7 = .ok (.if_icmp .ge 21, 3) := by decide +kernel
theorem dX9_stuckNow_10 : decode cX9_stuckNow 10 = .ok (.aload_n 0, 1) := by decide +kernel
theorem dX9_stuckNow_11 : decode cX9_stuckNow 11 = .ok (.getfield 46, 3) := by decide +kernel
theorem dX9_stuckNow_14 : decode cX9_stuckNow 14 = .ok (.iload_n 1, 1) := by decide +kernel
theorem dX9_stuckNow_15 : decode cX9_stuckNow 15 = .ok (.iaload, 1) := by decide +kernel
theorem dX9_stuckNow_16 : decode cX9_stuckNow 16 = .ok (.iconst 2, 1) := by decide +kernel
theorem dX9_stuckNow_17 : decode cX9_stuckNow 17 = .ok (.if_icmp .ne 5, 3) := by decide +kernel
theorem dX9_stuckNow_20 : decode cX9_stuckNow 20 = .ok (.iload_n 1, 1) := by decide +kernel
theorem dX9_stuckNow_21 : decode cX9_stuckNow 21 = .ok (.ireturn, 1) := by decide +kernel
theorem dX9_stuckNow_22 : decode cX9_stuckNow 22 = .ok (.iinc 1 1, 3) := by decide +kernel
theorem dX9_stuckNow_25 : decode cX9_stuckNow 25 = .ok (.goto (-23), 3) := by decide +kernel
theorem dX9_stuckNow_28 : decode cX9_stuckNow 28 = .ok (.iconst (-1), 1) := by decide +kernel
theorem dX9_stuckNow_29 : decode cX9_stuckNow 29 = .ok (.ireturn, 1) := by decide +kernel
theorem dX9_stuck_0 : decode cX9_stuck 0 = .ok (.aload_n 0, 1) := by decide +kernel
theorem dX9_stuck_1 : decode cX9_stuck 1 = .ok (.invokevirtual 196, 3) := by decide +kernel
theorem dX9_stuck_4 : decode cX9_stuck 4 = .ok (.aload_n 0, 1) := by decide +kernel
theorem dX9_stuck_5 : decode cX9_stuck 5 = .ok (.invokevirtual 208, 3) := by decide +kernel
theorem dX9_stuck_8 : decode cX9_stuck 8 = .ok (.ireturn, 1) := by decide +kernel
theorem dX9_wornNow_0 : decode cX9_wornNow 0 = .ok (.iconst (-1), 1) := by decide +kernel
theorem dX9_wornNow_1 : decode cX9_wornNow 1 = .ok (.istore_n 1, 1) := by decide +kernel
theorem dX9_wornNow_2 : decode cX9_wornNow 2 = .ok (.iconst 0, 1) := by decide +kernel
theorem dX9_wornNow_3 : decode cX9_wornNow 3 = .ok (.istore_n 2, 1) := by decide +kernel
theorem dX9_wornNow_4 : decode cX9_wornNow 4 = .ok (.iconst 0, 1) := by decide +kernel
theorem dX9_wornNow_5 : decode cX9_wornNow 5 = .ok (.istore_n 3, 1) := by decide +kernel
theorem dX9_wornNow_6 : decode cX9_wornNow 6 = .ok (.iload_n 3, 1) := by decide +kernel
theorem dX9_wornNow_7 : decode cX9_wornNow 7 = .ok (.aload_n 0, 1) := by decide +kernel
theorem dX9_wornNow_8 : decode cX9_wornNow 8 = .ok (.getfield 103, 3) := by decide +kernel
theorem dX9_wornNow_11 : decode cX9_wornNow 11 = .ok (.if_icmp .ge 70, 3) := by decide +kernel
theorem dX9_wornNow_14 : decode cX9_wornNow 14 = .ok (.iconst 0, 1) := by decide +kernel
theorem dX9_wornNow_15 : decode cX9_wornNow 15 = .ok (.istore 4, 2) := by decide +kernel
theorem dX9_wornNow_17 : decode cX9_wornNow 17 = .ok (.iconst 0, 1) := by decide +kernel
theorem dX9_wornNow_18 : decode cX9_wornNow 18 = .ok (.istore 5, 2) := by decide +kernel
theorem dX9_wornNow_20 : decode cX9_wornNow 20 = .ok (.iload 5, 2) := by decide +kernel
theorem dX9_wornNow_22 : decode cX9_wornNow 22 = .ok (.aload_n 0, 1) := by decide +kernel
theorem dX9_wornNow_23 : decode cX9_wornNow 23 = .ok (.getfield 121, 3) := by decide +kernel
theorem dX9_wornNow_26 : decode cX9_wornNow 26 = .ok (.if_icmp .gt 30, 3) := by decide +kernel
theorem dX9_wornNow_29 : decode cX9_wornNow 29 = .ok (.iload 4, 2) := by decide +kernel
theorem dX9_wornNow_31 : decode cX9_wornNow 31 = .ok (.aload_n 0, 1) := by decide +kernel
theorem dX9_wornNow_32 : decode cX9_wornNow 32 = .ok (.getfield 43, 3) := by decide +kernel
theorem dX9_wornNow_35 : decode cX9_wornNow 35 = .ok (.iload 5, 2) := by decide +kernel
theorem dX9_wornNow_37 : decode cX9_wornNow 37 = .ok (.iaload, 1) := by decide +kernel
theorem dX9_wornNow_38 : decode cX9_wornNow 38 = .ok (.iload_n 3, 1) := by decide +kernel
theorem dX9_wornNow_39 : decode cX9_wornNow 39 = .ok (.if_icmp .ne 7, 3) := by decide +kernel
theorem dX9_wornNow_42 : decode cX9_wornNow 42 = .ok (.iconst 1, 1) := by decide +kernel
theorem dX9_wornNow_43 : decode cX9_wornNow 43 = .ok (.goto 4, 3) := by decide +kernel
theorem dX9_wornNow_46 : decode cX9_wornNow 46 = .ok (.iconst 0, 1) := by decide +kernel
theorem dX9_wornNow_47 : decode cX9_wornNow 47 = .ok (.iadd, 1) := by decide +kernel
theorem dX9_wornNow_48 : decode cX9_wornNow 48 = .ok (.istore 4, 2) := by decide +kernel
theorem dX9_wornNow_50 : decode cX9_wornNow 50 = .ok (.iinc 5 1, 3) := by decide +kernel
theorem dX9_wornNow_53 : decode cX9_wornNow 53 = .ok (.goto (-33), 3) := by decide +kernel
theorem dX9_wornNow_56 : decode cX9_wornNow 56 = .ok (.iload 4, 2) := by decide +kernel
theorem dX9_wornNow_58 : decode cX9_wornNow 58 = .ok (.iload_n 2, 1) := by decide +kernel
theorem dX9_wornNow_59 : decode cX9_wornNow 59 = .ok (.if_icmp .le 7, 3) := by decide +kernel
theorem dX9_wornNow_62 : decode cX9_wornNow 62 = .ok (.iload_n 3, 1) := by decide +kernel
theorem dX9_wornNow_63 : decode cX9_wornNow 63 = .ok (.goto 4, 3) := by decide +kernel
theorem dX9_wornNow_66 : decode cX9_wornNow 66 = .ok (.iload_n 1, 1) := by decide +kernel
theorem dX9_wornNow_67 : decode cX9_wornNow 67 = .ok (.istore_n 1, 1) := by decide +kernel
theorem dX9_wornNow_68 : decode cX9_wornNow 68 = .ok (.iload 4, 2) := by decide +kernel
theorem dX9_wornNow_70 : decode cX9_wornNow 70 = .ok (.iload_n 2, 1) := by decide +kernel
theorem dX9_wornNow_71 : decode cX9_wornNow 71 = .ok (.invokestatic 168, 3) := by decide +kernel
theorem dX9_wornNow_74 : decode cX9_wornNow 74 = .ok (.istore_n 2, 1) := by decide +kernel
theorem dX9_wornNow_75 : decode cX9_wornNow 75 = .ok (.iinc 3 1, 3) := by decide +kernel
theorem dX9_wornNow_78 : decode cX9_wornNow 78 = .ok (.goto (-72), 3) := by decide +kernel
theorem dX9_wornNow_81 : decode cX9_wornNow 81 = .ok (.iload_n 1, 1) := by decide +kernel
theorem dX9_wornNow_82 : decode cX9_wornNow 82 = .ok (.ireturn, 1) := by decide +kernel
theorem dX9_worn_0 : decode cX9_worn 0 = .ok (.aload_n 0, 1) := by decide +kernel
theorem dX9_worn_1 : decode cX9_worn 1 = .ok (.invokevirtual 196, 3) := by decide +kernel
theorem dX9_worn_4 : decode cX9_worn 4 = .ok (.aload_n 0, 1) := by decide +kernel
theorem dX9_worn_5 : decode cX9_worn 5 = .ok (.invokevirtual 211, 3) := by decide +kernel
theorem dX9_worn_8 : decode cX9_worn 8 = .ok (.ireturn, 1) := by decide +kernel
theorem dX9_nextRow_0 : decode cX9_nextRow 0 = .ok (.aload_n 0, 1) := by decide +kernel
theorem dX9_nextRow_1 : decode cX9_nextRow 1 = .ok (.getfield 115, 3) := by decide +kernel
theorem dX9_nextRow_4 : decode cX9_nextRow 4 = .ok (.iconst 2, 1) := by decide +kernel
theorem dX9_nextRow_5 : decode cX9_nextRow 5 = .ok (.isub, 1) := by decide +kernel
theorem dX9_nextRow_6 : decode cX9_nextRow 6 = .ok (.istore_n 1, 1) := by decide +kernel
theorem dX9_nextRow_7 : decode cX9_nextRow 7 = .ok (.iload_n 1, 1) := by decide +kernel
theorem dX9_nextRow_8 : decode cX9_nextRow 8 = .ok (.ifCond .lt 26, 3) := by decide +kernel
theorem dX9_nextRow_11 : decode cX9_nextRow 11 = .ok (.aload_n 0, 1) := by decide +kernel
theorem dX9_nextRow_12 : decode cX9_nextRow 12 = .ok (.getfield 55, 3) := by decide +kernel
theorem dX9_nextRow_15 : decode cX9_nextRow 15 = .ok (.iload_n 1, 1) := by decide +kernel
theorem dX9_nextRow_16 : decode cX9_nextRow 16 = .ok (.iaload, 1) := by decide +kernel
theorem dX9_nextRow_17 : decode cX9_nextRow 17 = .ok (.aload_n 0, 1) := by decide +kernel
theorem dX9_nextRow_18 : decode cX9_nextRow 18 = .ok (.getfield 55, 3) := by decide +kernel
theorem dX9_nextRow_21 : decode cX9_nextRow 21 = .ok (.iload_n 1, 1) := by decide +kernel
theorem dX9_nextRow_22 : decode cX9_nextRow 22 = .ok (.iconst 1, 1) := by decide +kernel
theorem dX9_nextRow_23 : decode cX9_nextRow 23 = .ok (.iadd, 1) := by decide +kernel
theorem dX9_nextRow_24 : decode cX9_nextRow 24 = .ok (.iaload, 1) := by decide +kernel
theorem dX9_nextRow_25 : decode cX9_nextRow 25 = .ok (.if_icmp .le 9, 3) := by decide +kernel
theorem dX9_nextRow_28 : decode cX9_nextRow 28 = .ok (.iinc 1 (-1), 3) := by decide +kernel
theorem dX9_nextRow_31 : decode cX9_nextRow 31 = .ok (.goto (-24), 3) := by decide +kernel
theorem dX9_nextRow_34 : decode cX9_nextRow 34 = .ok (.iload_n 1, 1) := by decide +kernel
theorem dX9_nextRow_35 : decode cX9_nextRow 35 = .ok (.ifCond .ge 5, 3) := by decide +kernel
theorem dX9_nextRow_38 : decode cX9_nextRow 38 = .ok (.iconst 0, 1) := by decide +kernel
theorem dX9_nextRow_39 : decode cX9_nextRow 39 = .ok (.ireturn, 1) := by decide +kernel
theorem dX9_nextRow_40 : decode cX9_nextRow 40 = .ok (.aload_n 0, 1) := by decide +kernel
theorem dX9_nextRow_41 : decode cX9_nextRow 41 = .ok (.getfield 115, 3) := by decide +kernel
theorem dX9_nextRow_44 : decode cX9_nextRow 44 = .ok (.iconst 1, 1) := by decide +kernel
theorem dX9_nextRow_45 : decode cX9_nextRow 45 = .ok (.isub, 1) := by decide +kernel
theorem dX9_nextRow_46 : decode cX9_nextRow 46 = .ok (.istore_n 2, 1) := by decide +kernel
theorem dX9_nextRow_47 : decode cX9_nextRow 47 = .ok (.aload_n 0, 1) := by decide +kernel
theorem dX9_nextRow_48 : decode cX9_nextRow 48 = .ok (.getfield 55, 3) := by decide +kernel
theorem dX9_nextRow_51 : decode cX9_nextRow 51 = .ok (.iload_n 2, 1) := by decide +kernel
theorem dX9_nextRow_52 : decode cX9_nextRow 52 = .ok (.iaload, 1) := by decide +kernel
theorem dX9_nextRow_53 : decode cX9_nextRow 53 = .ok (.aload_n 0, 1) := by decide +kernel
theorem dX9_nextRow_54 : decode cX9_nextRow 54 = .ok (.getfield 55, 3) := by decide +kernel
theorem dX9_nextRow_57 : decode cX9_nextRow 57 = .ok (.iload_n 1, 1) := by decide +kernel
theorem dX9_nextRow_58 : decode cX9_nextRow 58 = .ok (.iaload, 1) := by decide +kernel
theorem dX9_nextRow_59 : decode cX9_nextRow 59 = .ok (.if_icmp .ge 9, 3) := by decide +kernel
theorem dX9_nextRow_62 : decode cX9_nextRow 62 = .ok (.iinc 2 (-1), 3) := by decide +kernel
theorem dX9_nextRow_65 : decode cX9_nextRow 65 = .ok (.goto (-18), 3) := by decide +kernel
theorem dX9_nextRow_68 : decode cX9_nextRow 68 = .ok (.aload_n 0, 1) := by decide +kernel
theorem dX9_nextRow_69 : decode cX9_nextRow 69 = .ok (.getfield 55, 3) := by decide +kernel
theorem dX9_nextRow_72 : decode cX9_nextRow 72 = .ok (.iload_n 1, 1) := by decide +kernel
theorem dX9_nextRow_73 : decode cX9_nextRow 73 = .ok (.iaload, 1) := by decide +kernel
theorem dX9_nextRow_74 : decode cX9_nextRow 74 = .ok (.istore_n 3, 1) := by decide +kernel
theorem dX9_nextRow_75 : decode cX9_nextRow 75 = .ok (.aload_n 0, 1) := by decide +kernel
theorem dX9_nextRow_76 : decode cX9_nextRow 76 = .ok (.getfield 55, 3) := by decide +kernel
theorem dX9_nextRow_79 : decode cX9_nextRow 79 = .ok (.iload_n 1, 1) := by decide +kernel
theorem dX9_nextRow_80 : decode cX9_nextRow 80 = .ok (.aload_n 0, 1) := by decide +kernel
theorem dX9_nextRow_81 : decode cX9_nextRow 81 = .ok (.getfield 55, 3) := by decide +kernel
theorem dX9_nextRow_84 : decode cX9_nextRow 84 = .ok (.iload_n 2, 1) := by decide +kernel
theorem dX9_nextRow_85 : decode cX9_nextRow 85 = .ok (.iaload, 1) := by decide +kernel
theorem dX9_nextRow_86 : decode cX9_nextRow 86 = .ok (.iastore, 1) := by decide +kernel
theorem dX9_nextRow_87 : decode cX9_nextRow 87 = .ok (.aload_n 0, 1) := by decide +kernel
theorem dX9_nextRow_88 : decode cX9_nextRow 88 = .ok (.getfield 55, 3) := by decide +kernel
theorem dX9_nextRow_91 : decode cX9_nextRow 91 = .ok (.iload_n 2, 1) := by decide +kernel
theorem dX9_nextRow_92 : decode cX9_nextRow 92 = .ok (.iload_n 3, 1) := by decide +kernel
theorem dX9_nextRow_93 : decode cX9_nextRow 93 = .ok (.iastore, 1) := by decide +kernel
theorem dX9_nextRow_94 : decode cX9_nextRow 94 = .ok (.iload_n 1, 1) := by decide +kernel
theorem dX9_nextRow_95 : decode cX9_nextRow 95 = .ok (.iconst 1, 1) := by decide +kernel
theorem dX9_nextRow_96 : decode cX9_nextRow 96 = .ok (.iadd, 1) := by decide +kernel
theorem dX9_nextRow_97 : decode cX9_nextRow 97 = .ok (.istore 4, 2) := by decide +kernel
theorem dX9_nextRow_99 : decode cX9_nextRow 99 = .ok (.aload_n 0, 1) := by decide +kernel
theorem dX9_nextRow_100 : decode cX9_nextRow 100 = .ok (.getfield 115, 3) := by decide +kernel
theorem dX9_nextRow_103 : decode cX9_nextRow 103 = .ok (.iconst 1, 1) := by decide +kernel
theorem dX9_nextRow_104 : decode cX9_nextRow 104 = .ok (.isub, 1) := by decide +kernel
theorem dX9_nextRow_105 : decode cX9_nextRow 105 = .ok (.istore 5, 2) := by decide +kernel
theorem dX9_nextRow_107 : decode cX9_nextRow 107 = .ok (.iload 4, 2) := by decide +kernel
theorem dX9_nextRow_109 : decode cX9_nextRow 109 = .ok (.iload 5, 2) := by decide +kernel
theorem dX9_nextRow_111 : decode cX9_nextRow 111 = .ok (.if_icmp .ge 42, 3) := by decide +kernel
theorem dX9_nextRow_114 : decode cX9_nextRow 114 = .ok (.aload_n 0, 1) := by decide +kernel
theorem dX9_nextRow_115 : decode cX9_nextRow 115 = .ok (.getfield 55, 3) := by decide +kernel
theorem dX9_nextRow_118 : decode cX9_nextRow 118 = .ok (.iload 4, 2) := by decide +kernel
theorem dX9_nextRow_120 : decode cX9_nextRow 120 = .ok (.iaload, 1) := by decide +kernel
theorem dX9_nextRow_121 : decode cX9_nextRow 121 = .ok (.istore_n 3, 1) := by decide +kernel
theorem dX9_nextRow_122 : decode cX9_nextRow 122 = .ok (.aload_n 0, 1) := by decide +kernel
theorem dX9_nextRow_123 : decode cX9_nextRow 123 = .ok (.getfield 55, 3) := by decide +kernel
theorem dX9_nextRow_126 : decode cX9_nextRow 126 = .ok (.iload 4, 2) := by decide +kernel
theorem dX9_nextRow_128 : decode cX9_nextRow 128 = .ok (.aload_n 0, 1) := by decide +kernel
theorem dX9_nextRow_129 : decode cX9_nextRow 129 = .ok (.getfield 55, 3) := by decide +kernel
theorem dX9_nextRow_132 : decode cX9_nextRow 132 = .ok (.iload 5, 2) := by decide +kernel
theorem dX9_nextRow_134 : decode cX9_nextRow 134 = .ok (.iaload, 1) := by decide +kernel
theorem dX9_nextRow_135 : decode cX9_nextRow 135 = .ok (.iastore, 1) := by decide +kernel
theorem dX9_nextRow_136 : decode cX9_nextRow 136 = .ok (.aload_n 0, 1) := by decide +kernel
theorem dX9_nextRow_137 : decode cX9_nextRow 137 = .ok (.getfield 55, 3) := by decide +kernel
theorem dX9_nextRow_140 : decode cX9_nextRow 140 = .ok (.iload 5, 2) := by decide +kernel
theorem dX9_nextRow_142 : decode cX9_nextRow 142 = .ok (.iload_n 3, 1) := by decide +kernel
theorem dX9_nextRow_143 : decode cX9_nextRow 143 = .ok (.iastore, 1) := by decide +kernel
theorem dX9_nextRow_144 : decode cX9_nextRow 144 = .ok (.iinc 4 1, 3) := by decide +kernel
theorem dX9_nextRow_147 : decode cX9_nextRow 147 = .ok (.iinc 5 (-1), 3) := by decide +kernel
theorem dX9_nextRow_150 : decode cX9_nextRow 150 = .ok (.goto (-43), 3) := by decide +kernel
theorem dX9_nextRow_153 : decode cX9_nextRow 153 = .ok (.iconst 1, 1) := by decide +kernel
theorem dX9_nextRow_154 : decode cX9_nextRow 154 = .ok (.ireturn, 1) := by decide +kernel
theorem dX9_weighs_0 : decode cX9_weighs 0 = .ok (.aload_n 0, 1) := by decide +kernel
theorem dX9_weighs_1 : decode cX9_weighs 1 = .ok (.invokevirtual 178, 3) := by decide +kernel
theorem dX9_weighs_4 : decode cX9_weighs 4 = .ok (.iconst 0, 1) := by decide +kernel
theorem dX9_weighs_5 : decode cX9_weighs 5 = .ok (.istore_n 1, 1) := by decide +kernel
theorem dX9_weighs_6 : decode cX9_weighs 6 = .ok (.iconst 0, 1) := by decide +kernel
theorem dX9_weighs_7 : decode cX9_weighs 7 = .ok (.istore_n 2, 1) := by decide +kernel
theorem dX9_weighs_8 : decode cX9_weighs 8 = .ok (.iconst 0, 1) := by decide +kernel
theorem dX9_weighs_9 : decode cX9_weighs 9 = .ok (.istore_n 3, 1) := by decide +kernel
theorem dX9_weighs_10 : decode cX9_weighs 10 = .ok (.iload_n 3, 1) := by decide +kernel
theorem dX9_weighs_11 : decode cX9_weighs 11 = .ok (.aload_n 0, 1) := by decide +kernel
theorem dX9_weighs_12 : decode cX9_weighs 12 = .ok (.getfield 115, 3) := by decide +kernel
theorem dX9_weighs_15 : decode cX9_weighs 15 = .ok (.if_icmp .ge 50, 3) := by decide +kernel
theorem dX9_weighs_18 : decode cX9_weighs 18 = .ok (.aload_n 0, 1) := by decide +kernel
theorem dX9_weighs_19 : decode cX9_weighs 19 = .ok (.aload_n 0, 1) := by decide +kernel
theorem dX9_weighs_20 : decode cX9_weighs 20 = .ok (.getfield 55, 3) := by decide +kernel
theorem dX9_weighs_23 : decode cX9_weighs 23 = .ok (.iload_n 3, 1) := by decide +kernel
theorem dX9_weighs_24 : decode cX9_weighs 24 = .ok (.iaload, 1) := by decide +kernel
theorem dX9_weighs_25 : decode cX9_weighs 25 = .ok (.invokevirtual 187, 3) := by decide +kernel
theorem dX9_weighs_28 : decode cX9_weighs 28 = .ok (.istore 4, 2) := by decide +kernel
theorem dX9_weighs_30 : decode cX9_weighs 30 = .ok (.iload_n 1, 1) := by decide +kernel
theorem dX9_weighs_31 : decode cX9_weighs 31 = .ok (.iload 4, 2) := by decide +kernel
theorem dX9_weighs_33 : decode cX9_weighs 33 = .ok (.iconst 1, 1) := by decide +kernel
theorem dX9_weighs_34 : decode cX9_weighs 34 = .ok (.if_icmp .ne 7, 3) := by decide +kernel
theorem dX9_weighs_37 : decode cX9_weighs 37 = .ok (.iconst 1, 1) := by decide +kernel
theorem dX9_weighs_38 : decode cX9_weighs 38 = .ok (.goto 4, 3) := by decide +kernel
theorem dX9_weighs_41 : decode cX9_weighs 41 = .ok (.iconst 0, 1) := by decide +kernel
theorem dX9_weighs_42 : decode cX9_weighs 42 = .ok (.iadd, 1) := by decide +kernel
theorem dX9_weighs_43 : decode cX9_weighs 43 = .ok (.istore_n 1, 1) := by decide +kernel
theorem dX9_weighs_44 : decode cX9_weighs 44 = .ok (.iload_n 2, 1) := by decide +kernel
theorem dX9_weighs_45 : decode cX9_weighs 45 = .ok (.aload_n 0, 1) := by decide +kernel
theorem dX9_weighs_46 : decode cX9_weighs 46 = .ok (.aload_n 0, 1) := by decide +kernel
theorem dX9_weighs_47 : decode cX9_weighs 47 = .ok (.getfield 55, 3) := by decide +kernel
theorem dX9_weighs_50 : decode cX9_weighs 50 = .ok (.iload_n 3, 1) := by decide +kernel
theorem dX9_weighs_51 : decode cX9_weighs 51 = .ok (.iaload, 1) := by decide +kernel
theorem dX9_weighs_52 : decode cX9_weighs 52 = .ok (.iload 4, 2) := by decide +kernel
theorem dX9_weighs_54 : decode cX9_weighs 54 = .ok (.invokevirtual 190, 3) := by decide +kernel
theorem dX9_weighs_57 : decode cX9_weighs 57 = .ok (.iadd, 1) := by decide +kernel
theorem dX9_weighs_58 : decode cX9_weighs 58 = .ok (.istore_n 2, 1) := by decide +kernel
theorem dX9_weighs_59 : decode cX9_weighs 59 = .ok (.iinc 3 1, 3) := by decide +kernel
theorem dX9_weighs_62 : decode cX9_weighs 62 = .ok (.goto (-52), 3) := by decide +kernel
theorem dX9_weighs_65 : decode cX9_weighs 65 = .ok (.iload_n 1, 1) := by decide +kernel
theorem dX9_weighs_66 : decode cX9_weighs 66 = .ok (.aload_n 0, 1) := by decide +kernel
theorem dX9_weighs_67 : decode cX9_weighs 67 = .ok (.getfield 214, 3) := by decide +kernel
theorem dX9_weighs_70 : decode cX9_weighs 70 = .ok (.if_icmp .gt 19, 3) := by decide +kernel
theorem dX9_weighs_73 : decode cX9_weighs 73 = .ok (.iload_n 1, 1) := by decide +kernel
theorem dX9_weighs_74 : decode cX9_weighs 74 = .ok (.aload_n 0, 1) := by decide +kernel
theorem dX9_weighs_75 : decode cX9_weighs 75 = .ok (.getfield 214, 3) := by decide +kernel
theorem dX9_weighs_78 : decode cX9_weighs 78 = .ok (.if_icmp .ne 49, 3) := by decide +kernel
theorem dX9_weighs_81 : decode cX9_weighs 81 = .ok (.iload_n 2, 1) := by decide +kernel
theorem dX9_weighs_82 : decode cX9_weighs 82 = .ok (.aload_n 0, 1) := by decide +kernel
theorem dX9_weighs_83 : decode cX9_weighs 83 = .ok (.getfield 217, 3) := by decide +kernel
theorem dX9_weighs_86 : decode cX9_weighs 86 = .ok (.if_icmp .ge 41, 3) := by decide +kernel
theorem dX9_weighs_89 : decode cX9_weighs 89 = .ok (.aload_n 0, 1) := by decide +kernel
theorem dX9_weighs_90 : decode cX9_weighs 90 = .ok (.iload_n 1, 1) := by decide +kernel
theorem dX9_weighs_91 : decode cX9_weighs 91 = .ok (.putfield 214, 3) := by decide +kernel
theorem dX9_weighs_94 : decode cX9_weighs 94 = .ok (.aload_n 0, 1) := by decide +kernel
theorem dX9_weighs_95 : decode cX9_weighs 95 = .ok (.iload_n 2, 1) := by decide +kernel
theorem dX9_weighs_96 : decode cX9_weighs 96 = .ok (.putfield 217, 3) := by decide +kernel
theorem dX9_weighs_99 : decode cX9_weighs 99 = .ok (.iconst 0, 1) := by decide +kernel
theorem dX9_weighs_100 : decode cX9_weighs 100 = .ok (.istore_n 3, 1) := by decide +kernel
theorem dX9_weighs_101 : decode cX9_weighs 101 = .ok (.iload_n 3, 1) := by decide +kernel
theorem dX9_weighs_102 : decode cX9_weighs 102 = .ok (.aload_n 0, 1) := by decide +kernel
theorem dX9_weighs_103 : decode cX9_weighs 103 = .ok (.getfield 115, 3) := by decide +kernel
theorem dX9_weighs_106 : decode cX9_weighs 106 = .ok (.if_icmp .ge 21, 3) := by decide +kernel
theorem dX9_weighs_109 : decode cX9_weighs 109 = .ok (.aload_n 0, 1) := by decide +kernel
theorem dX9_weighs_110 : decode cX9_weighs 110 = .ok (.getfield 58, 3) := by decide +kernel
theorem dX9_weighs_113 : decode cX9_weighs 113 = .ok (.iload_n 3, 1) := by decide +kernel
theorem dX9_weighs_114 : decode cX9_weighs 114 = .ok (.aload_n 0, 1) := by decide +kernel
theorem dX9_weighs_115 : decode cX9_weighs 115 = .ok (.getfield 55, 3) := by decide +kernel
theorem dX9_weighs_118 : decode cX9_weighs 118 = .ok (.iload_n 3, 1) := by decide +kernel
theorem dX9_weighs_119 : decode cX9_weighs 119 = .ok (.iaload, 1) := by decide +kernel
theorem dX9_weighs_120 : decode cX9_weighs 120 = .ok (.iastore, 1) := by decide +kernel
theorem dX9_weighs_121 : decode cX9_weighs 121 = .ok (.iinc 3 1, 3) := by decide +kernel
theorem dX9_weighs_124 : decode cX9_weighs 124 = .ok (.goto (-23), 3) := by decide +kernel
theorem dX9_weighs_127 : decode cX9_weighs 127 = .ok (.return_, 1) := by decide +kernel
theorem dX9_findOrder_0 : decode cX9_findOrder 0 = .ok (.aload_n 0, 1) := by decide +kernel
theorem dX9_findOrder_1 : decode cX9_findOrder 1 = .ok (.iconst (-1), 1) := by decide +kernel
theorem dX9_findOrder_2 : decode cX9_findOrder 2 = .ok (.putfield 214, 3) := by decide +kernel
theorem dX9_findOrder_5 : decode cX9_findOrder 5 = .ok (.aload_n 0, 1) := by decide +kernel
theorem dX9_findOrder_6 : decode cX9_findOrder 6 = .ok (.iconst 0, 1) := by decide +kernel
theorem dX9_findOrder_7 : decode cX9_findOrder 7 = .ok (.putfield 217, 3) := by decide +kernel
theorem dX9_findOrder_10 : decode cX9_findOrder 10 = .ok (.iconst 0, 1) := by decide +kernel
theorem dX9_findOrder_11 : decode cX9_findOrder 11 = .ok (.istore_n 1, 1) := by decide +kernel
theorem dX9_findOrder_12 : decode cX9_findOrder 12 = .ok (.iload_n 1, 1) := by decide +kernel
theorem dX9_findOrder_13 : decode cX9_findOrder 13 = .ok (.aload_n 0, 1) := by decide +kernel
theorem dX9_findOrder_14 : decode cX9_findOrder 14 = .ok (.getfield 115, 3) := by decide +kernel
theorem dX9_findOrder_17 : decode cX9_findOrder 17 = .ok (.if_icmp .ge 16, 3) := by decide +kernel
theorem dX9_findOrder_20 : decode cX9_findOrder 20 = .ok (.aload_n 0, 1) := by decide +kernel
theorem dX9_findOrder_21 : decode cX9_findOrder 21 = .ok (.getfield 55, 3) := by decide +kernel
theorem dX9_findOrder_24 : decode cX9_findOrder 24 = .ok (.iload_n 1, 1) := by decide +kernel
theorem dX9_findOrder_25 : decode cX9_findOrder 25 = .ok (.iload_n 1, 1) := by decide +kernel
theorem dX9_findOrder_26 : decode cX9_findOrder 26 = .ok (.iastore, 1) := by decide +kernel
theorem dX9_findOrder_27 : decode cX9_findOrder 27 = .ok (.iinc 1 1, 3) := by decide +kernel
theorem dX9_findOrder_30 : decode cX9_findOrder 30 = .ok (.goto (-18), 3) := by decide +kernel
theorem dX9_findOrder_33 : decode cX9_findOrder 33 = .ok (.iconst 1, 1) := by decide +kernel
theorem dX9_findOrder_34 : decode cX9_findOrder 34 = .ok (.istore_n 1, 1) := by decide +kernel
theorem dX9_findOrder_35 : decode cX9_findOrder 35 = .ok (.iload_n 1, 1) := by decide +kernel
theorem dX9_findOrder_36 : decode cX9_findOrder 36 = .ok (.ifCond .eq 15, 3) := by decide +kernel
theorem dX9_findOrder_39 : decode cX9_findOrder 39 = .ok (.aload_n 0, 1) := by decide +kernel
theorem dX9_findOrder_40 : decode cX9_findOrder 40 = .ok (.invokevirtual 220, 3) := by decide +kernel
theorem dX9_findOrder_43 : decode cX9_findOrder 43 = .ok (.aload_n 0, 1) := by decide +kernel
theorem dX9_findOrder_44 : decode cX9_findOrder 44 = .ok (.invokevirtual 223, 3) := by decide +kernel
theorem dX9_findOrder_47 : decode cX9_findOrder 47 = .ok (.istore_n 1, 1) := by decide +kernel
theorem dX9_findOrder_48 : decode cX9_findOrder 48 = .ok (.goto (-13), 3) := by decide +kernel
theorem dX9_findOrder_51 : decode cX9_findOrder 51 = .ok (.return_, 1) := by decide +kernel
theorem dX9_orderBy_0 : decode cX9_orderBy 0 = .ok (.iload_n 1, 1) := by decide +kernel
theorem dX9_orderBy_1 : decode cX9_orderBy 1 = .ok (.ifCond .ne 10, 3) := by decide +kernel
theorem dX9_orderBy_4 : decode cX9_orderBy 4 = .ok (.aload_n 0, 1) := by decide +kernel
theorem dX9_orderBy_5 : decode cX9_orderBy 5 = .ok (.getfield 214, 3) := by decide +kernel
theorem dX9_orderBy_8 : decode cX9_orderBy 8 = .ok (.goto 37, 3) := by decide +kernel
theorem dX9_orderBy_11 : decode cX9_orderBy 11 = .ok (.iload_n 1, 1) := by decide +kernel
theorem dX9_orderBy_12 : decode cX9_orderBy 12 = .ok (.iconst 1, 1) := by decide +kernel
theorem dX9_orderBy_13 : decode cX9_orderBy 13 = .ok (.if_icmp .ne 10, 3) := by decide +kernel
theorem dX9_orderBy_16 : decode cX9_orderBy 16 = .ok (.aload_n 0, 1) := by decide +kernel
theorem dX9_orderBy_17 : decode cX9_orderBy 17 = .ok (.getfield 217, 3) := by decide +kernel
theorem dX9_orderBy_20 : decode cX9_orderBy 20 = .ok (.goto 25, 3) := by decide +kernel
theorem dX9_orderBy_23 : decode cX9_orderBy 23 = .ok (.iload_n 1, 1) := by decide +kernel
theorem dX9_orderBy_24 : decode cX9_orderBy 24 = .ok (.iconst 2, 1) := by decide +kernel
theorem dX9_orderBy_25 : decode cX9_orderBy 25 = .ok (.isub, 1) := by decide +kernel
theorem dX9_orderBy_26 : decode cX9_orderBy 26 = .ok (.aload_n 0, 1) := by decide +kernel
theorem dX9_orderBy_27 : decode cX9_orderBy 27 = .ok (.getfield 115, 3) := by decide +kernel
theorem dX9_orderBy_30 : decode cX9_orderBy 30 = .ok (.if_icmp .ge 14, 3) := by decide +kernel
theorem dX9_orderBy_33 : decode cX9_orderBy 33 = .ok (.aload_n 0, 1) := by decide +kernel
theorem dX9_orderBy_34 : decode cX9_orderBy 34 = .ok (.getfield 58, 3) := by decide +kernel
theorem dX9_orderBy_37 : decode cX9_orderBy 37 = .ok (.iload_n 1, 1) := by decide +kernel
theorem dX9_orderBy_38 : decode cX9_orderBy 38 = .ok (.iconst 2, 1) := by decide +kernel
theorem dX9_orderBy_39 : decode cX9_orderBy 39 = .ok (.isub, 1) := by decide +kernel
theorem dX9_orderBy_40 : decode cX9_orderBy 40 = .ok (.iaload, 1) := by decide +kernel
theorem dX9_orderBy_41 : decode cX9_orderBy 41 = .ok (.goto 4, 3) := by decide +kernel
theorem dX9_orderBy_44 : decode cX9_orderBy 44 = .ok (.iconst (-1), 1) := by decide +kernel
theorem dX9_orderBy_45 : decode cX9_orderBy 45 = .ok (.ireturn, 1) := by decide +kernel
theorem dX9_order_0 : decode cX9_order 0 = .ok (.aload_n 0, 1) := by decide +kernel
theorem dX9_order_1 : decode cX9_order 1 = .ok (.invokevirtual 196, 3) := by decide +kernel
theorem dX9_order_4 : decode cX9_order 4 = .ok (.iload_n 1, 1) := by decide +kernel
theorem dX9_order_5 : decode cX9_order 5 = .ok (.i2l, 1) := by decide +kernel
theorem dX9_order_6 : decode cX9_order 6 = .ok (.lconst 0, 1) := by decide +kernel
theorem dX9_order_7 : decode cX9_order 7 = .ok (.ldc2_w 151, 3) := by decide +kernel
theorem dX9_order_10 : decode cX9_order 10 = .ok (.invokestatic 69, 3) := by decide +kernel
theorem dX9_order_13 : decode cX9_order 13 = .ok (.ifCond .ne 6, 3) := by decide +kernel
theorem dX9_order_16 : decode cX9_order 16 = .ok (.bipush (-2), 2) := by decide +kernel
theorem dX9_order_18 : decode cX9_order 18 = .ok (.ireturn, 1) := by decide +kernel
theorem dX9_order_19 : decode cX9_order 19 = .ok (.aload_n 0, 1) := by decide +kernel
theorem dX9_order_20 : decode cX9_order 20 = .ok (.invokevirtual 227, 3) := by decide +kernel
theorem dX9_order_23 : decode cX9_order 23 = .ok (.aload_n 0, 1) := by decide +kernel
theorem dX9_order_24 : decode cX9_order 24 = .ok (.iload_n 1, 1) := by decide +kernel
theorem dX9_order_25 : decode cX9_order 25 = .ok (.invokevirtual 230, 3) := by decide +kernel
theorem dX9_order_28 : decode cX9_order 28 = .ok (.ireturn, 1) := by decide +kernel
theorem dX9_aheadOf_0 : decode cX9_aheadOf 0 = .ok (.aload_n 0, 1) := by decide +kernel
theorem dX9_aheadOf_1 : decode cX9_aheadOf 1 = .ok (.invokevirtual 193, 3) := by decide +kernel
theorem dX9_aheadOf_4 : decode cX9_aheadOf 4 = .ok (.aload_n 0, 1) := by decide +kernel
theorem dX9_aheadOf_5 : decode cX9_aheadOf 5 = .ok (.getfield 155, 3) := by decide +kernel
theorem dX9_aheadOf_8 : decode cX9_aheadOf 8 = .ok (.istore_n 2, 1) := by decide +kernel
theorem dX9_aheadOf_9 : decode cX9_aheadOf 9 = .ok (.aload_n 0, 1) := by decide +kernel
theorem dX9_aheadOf_10 : decode cX9_aheadOf 10 = .ok (.iload_n 1, 1) := by decide +kernel
theorem dX9_aheadOf_11 : decode cX9_aheadOf 11 = .ok (.invokevirtual 187, 3) := by decide +kernel
theorem dX9_aheadOf_14 : decode cX9_aheadOf 14 = .ok (.iconst 1, 1) := by decide +kernel
theorem dX9_aheadOf_15 : decode cX9_aheadOf 15 = .ok (.if_icmp .ne 6, 3) := by decide +kernel
theorem dX9_aheadOf_18 : decode cX9_aheadOf 18 = .ok (.bipush (-3), 2) := by decide +kernel
theorem dX9_aheadOf_20 : decode cX9_aheadOf 20 = .ok (.ireturn, 1) := by decide +kernel
theorem dX9_aheadOf_21 : decode cX9_aheadOf 21 = .ok (.iconst 0, 1) := by decide +kernel
theorem dX9_aheadOf_22 : decode cX9_aheadOf 22 = .ok (.istore_n 3, 1) := by decide +kernel
theorem dX9_aheadOf_23 : decode cX9_aheadOf 23 = .ok (.iload_n 3, 1) := by decide +kernel
theorem dX9_aheadOf_24 : decode cX9_aheadOf 24 = .ok (.aload_n 0, 1) := by decide +kernel
theorem dX9_aheadOf_25 : decode cX9_aheadOf 25 = .ok (.getfield 115, 3) := by decide +kernel
theorem dX9_aheadOf_28 : decode cX9_aheadOf 28 = .ok (.if_icmp .ge 36, 3) := by decide +kernel
theorem dX9_aheadOf_31 : decode cX9_aheadOf 31 = .ok (.iload_n 3, 1) := by decide +kernel
theorem dX9_aheadOf_32 : decode cX9_aheadOf 32 = .ok (.iload_n 1, 1) := by decide +kernel
theorem dX9_aheadOf_33 : decode cX9_aheadOf 33 = .ok (.if_icmp .eq 25, 3) := by decide +kernel
theorem dX9_aheadOf_36 : decode cX9_aheadOf 36 = .ok (.aload_n 0, 1) := by decide +kernel
theorem dX9_aheadOf_37 : decode cX9_aheadOf 37 = .ok (.iload_n 2, 1) := by decide +kernel
theorem dX9_aheadOf_38 : decode cX9_aheadOf 38 = .ok (.putfield 155, 3) := by decide +kernel
theorem dX9_aheadOf_41 : decode cX9_aheadOf 41 = .ok (.aload_n 0, 1) := by decide +kernel
theorem dX9_aheadOf_42 : decode cX9_aheadOf 42 = .ok (.iload_n 3, 1) := by decide +kernel
theorem dX9_aheadOf_43 : decode cX9_aheadOf 43 = .ok (.invokevirtual 187, 3) := by decide +kernel
theorem dX9_aheadOf_46 : decode cX9_aheadOf 46 = .ok (.pop, 1) := by decide +kernel
theorem dX9_aheadOf_47 : decode cX9_aheadOf 47 = .ok (.aload_n 0, 1) := by decide +kernel
theorem dX9_aheadOf_48 : decode cX9_aheadOf 48 = .ok (.iload_n 1, 1) := by decide +kernel
theorem dX9_aheadOf_49 : decode cX9_aheadOf 49 = .ok (.invokevirtual 187, 3) := by decide +kernel
theorem dX9_aheadOf_52 : decode cX9_aheadOf 52 = .ok (.iconst 1, 1) := by decide +kernel
theorem dX9_aheadOf_53 : decode cX9_aheadOf 53 = .ok (.if_icmp .ne 5, 3) := by decide +kernel
theorem dX9_aheadOf_56 : decode cX9_aheadOf 56 = .ok (.iload_n 3, 1) := by decide +kernel
theorem dX9_aheadOf_57 : decode cX9_aheadOf 57 = .ok (.ireturn, 1) := by decide +kernel
theorem dX9_aheadOf_58 : decode cX9_aheadOf 58 = .ok (.iinc 3 1, 3) := by decide +kernel
theorem dX9_aheadOf_61 : decode cX9_aheadOf 61 = .ok (.goto (-38), 3) := by decide +kernel
theorem dX9_aheadOf_64 : decode cX9_aheadOf 64 = .ok (.iconst (-1), 1) := by decide +kernel
theorem dX9_aheadOf_65 : decode cX9_aheadOf 65 = .ok (.ireturn, 1) := by decide +kernel
theorem dX9_ahead_0 : decode cX9_ahead 0 = .ok (.aload_n 0, 1) := by decide +kernel
theorem dX9_ahead_1 : decode cX9_ahead 1 = .ok (.invokevirtual 196, 3) := by decide +kernel
theorem dX9_ahead_4 : decode cX9_ahead 4 = .ok (.aload_n 0, 1) := by decide +kernel
theorem dX9_ahead_5 : decode cX9_ahead 5 = .ok (.iload_n 1, 1) := by decide +kernel
theorem dX9_ahead_6 : decode cX9_ahead 6 = .ok (.invokevirtual 143, 3) := by decide +kernel
theorem dX9_ahead_9 : decode cX9_ahead 9 = .ok (.ifCond .eq 11, 3) := by decide +kernel
theorem dX9_ahead_12 : decode cX9_ahead 12 = .ok (.aload_n 0, 1) := by decide +kernel
theorem dX9_ahead_13 : decode cX9_ahead 13 = .ok (.iload_n 1, 1) := by decide +kernel
theorem dX9_ahead_14 : decode cX9_ahead 14 = .ok (.invokevirtual 233, 3) := by decide +kernel
theorem dX9_ahead_17 : decode cX9_ahead 17 = .ok (.goto 5, 3) := by decide +kernel
theorem dX9_ahead_20 : decode cX9_ahead 20 = .ok (.bipush (-2), 2) := by decide +kernel
theorem dX9_ahead_22 : decode cX9_ahead 22 = .ok (.ireturn, 1) := by decide +kernel
theorem dX9_oftenOf_0 : decode cX9_oftenOf 0 = .ok (.aload_n 0, 1) := by decide +kernel
theorem dX9_oftenOf_1 : decode cX9_oftenOf 1 = .ok (.invokevirtual 193, 3) := by decide +kernel
theorem dX9_oftenOf_4 : decode cX9_oftenOf 4 = .ok (.iconst 0, 1) := by decide +kernel
theorem dX9_oftenOf_5 : decode cX9_oftenOf 5 = .ok (.istore_n 3, 1) := by decide +kernel
theorem dX9_oftenOf_6 : decode cX9_oftenOf 6 = .ok (.iload_n 3, 1) := by decide +kernel
theorem dX9_oftenOf_7 : decode cX9_oftenOf 7 = .ok (.bipush 10, 2) := by decide +kernel
theorem dX9_oftenOf_9 : decode cX9_oftenOf 9 = .ok (.if_icmp .ge 38, 3) := by decide +kernel
theorem dX9_oftenOf_12 : decode cX9_oftenOf 12 = .ok (.aload_n 0, 1) := by decide +kernel
theorem dX9_oftenOf_13 : decode cX9_oftenOf 13 = .ok (.getfield 155, 3) := by decide +kernel
theorem dX9_oftenOf_16 : decode cX9_oftenOf 16 = .ok (.istore 4, 2) := by decide +kernel
theorem dX9_oftenOf_18 : decode cX9_oftenOf 18 = .ok (.aload_n 0, 1) := by decide +kernel
theorem dX9_oftenOf_19 : decode cX9_oftenOf 19 = .ok (.iload_n 1, 1) := by decide +kernel
theorem dX9_oftenOf_20 : decode cX9_oftenOf 20 = .ok (.invokevirtual 187, 3) := by decide +kernel
theorem dX9_oftenOf_23 : decode cX9_oftenOf 23 = .ok (.iconst 1, 1) := by decide +kernel
theorem dX9_oftenOf_24 : decode cX9_oftenOf 24 = .ok (.if_icmp .ne 5, 3) := by decide +kernel
theorem dX9_oftenOf_27 : decode cX9_oftenOf 27 = .ok (.iload_n 3, 1) := by decide +kernel
theorem dX9_oftenOf_28 : decode cX9_oftenOf 28 = .ok (.ireturn, 1) := by decide +kernel
theorem dX9_oftenOf_29 : decode cX9_oftenOf 29 = .ok (.aload_n 0, 1) := by decide +kernel
theorem dX9_oftenOf_30 : decode cX9_oftenOf 30 = .ok (.iload 4, 2) := by decide +kernel
theorem dX9_oftenOf_32 : decode cX9_oftenOf 32 = .ok (.putfield 155, 3) := by decide +kernel
theorem dX9_oftenOf_35 : decode cX9_oftenOf 35 = .ok (.aload_n 0, 1) := by decide +kernel
theorem dX9_oftenOf_36 : decode cX9_oftenOf 36 = .ok (.iload_n 2, 1) := by decide +kernel
theorem dX9_oftenOf_37 : decode cX9_oftenOf 37 = .ok (.invokevirtual 187, 3) := by decide +kernel
theorem dX9_oftenOf_40 : decode cX9_oftenOf 40 = .ok (.pop, 1) := by decide +kernel
theorem dX9_oftenOf_41 : decode cX9_oftenOf 41 = .ok (.iinc 3 1, 3) := by decide +kernel
theorem dX9_oftenOf_44 : decode cX9_oftenOf 44 = .ok (.goto (-38), 3) := by decide +kernel
theorem dX9_oftenOf_47 : decode cX9_oftenOf 47 = .ok (.iconst (-1), 1) := by decide +kernel
theorem dX9_oftenOf_48 : decode cX9_oftenOf 48 = .ok (.ireturn, 1) := by decide +kernel
theorem dX9_often_0 : decode cX9_often 0 = .ok (.aload_n 0, 1) := by decide +kernel
theorem dX9_often_1 : decode cX9_often 1 = .ok (.invokevirtual 196, 3) := by decide +kernel
theorem dX9_often_4 : decode cX9_often 4 = .ok (.aload_n 0, 1) := by decide +kernel
theorem dX9_often_5 : decode cX9_often 5 = .ok (.iload_n 1, 1) := by decide +kernel
theorem dX9_often_6 : decode cX9_often 6 = .ok (.invokevirtual 143, 3) := by decide +kernel
theorem dX9_often_9 : decode cX9_often 9 = .ok (.ifCond .eq 25, 3) := by decide +kernel
theorem dX9_often_12 : decode cX9_often 12 = .ok (.aload_n 0, 1) := by decide +kernel
theorem dX9_often_13 : decode cX9_often 13 = .ok (.iload_n 2, 1) := by decide +kernel
theorem dX9_often_14 : decode cX9_often 14 = .ok (.invokevirtual 143, 3) := by decide +kernel
theorem dX9_often_17 : decode cX9_often 17 = .ok (.ifCond .eq 17, 3) := by decide +kernel
theorem dX9_often_20 : decode cX9_often 20 = .ok (.iload_n 1, 1) := by decide +kernel
theorem dX9_often_21 : decode cX9_often 21 = .ok (.iload_n 2, 1) := by decide +kernel
theorem dX9_often_22 : decode cX9_often 22 = .ok (.if_icmp .eq 12, 3) := by decide +kernel
theorem dX9_often_25 : decode cX9_often 25 = .ok (.aload_n 0, 1) := by decide +kernel
theorem dX9_often_26 : decode cX9_often 26 = .ok (.iload_n 1, 1) := by decide +kernel
theorem dX9_often_27 : decode cX9_often 27 = .ok (.iload_n 2, 1) := by decide +kernel
theorem dX9_often_28 : decode cX9_often 28 = .ok (.invokevirtual 236, 3) := by decide +kernel
theorem dX9_often_31 : decode cX9_often 31 = .ok (.goto 5, 3) := by decide +kernel
theorem dX9_often_34 : decode cX9_often 34 = .ok (.bipush (-2), 2) := by decide +kernel
theorem dX9_often_36 : decode cX9_often 36 = .ok (.ireturn, 1) := by decide +kernel
theorem dX9_seen_0 : decode cX9_seen 0 = .ok (.iload_n 1, 1) := by decide +kernel
theorem dX9_seen_1 : decode cX9_seen 1 = .ok (.i2l, 1) := by decide +kernel
theorem dX9_seen_2 : decode cX9_seen 2 = .ok (.lconst 0, 1) := by decide +kernel
theorem dX9_seen_3 : decode cX9_seen 3 = .ok (.ldc2_w 239, 3) := by decide +kernel
theorem dX9_seen_6 : decode cX9_seen 6 = .ok (.invokestatic 69, 3) := by decide +kernel
theorem dX9_seen_9 : decode cX9_seen 9 = .ok (.ifCond .eq 15, 3) := by decide +kernel
theorem dX9_seen_12 : decode cX9_seen 12 = .ok (.iload_n 2, 1) := by decide +kernel
theorem dX9_seen_13 : decode cX9_seen 13 = .ok (.i2l, 1) := by decide +kernel
theorem dX9_seen_14 : decode cX9_seen 14 = .ok (.lconst 0, 1) := by decide +kernel
theorem dX9_seen_15 : decode cX9_seen 15 = .ok (.ldc2_w 141, 3) := by decide +kernel
theorem dX9_seen_18 : decode cX9_seen 18 = .ok (.invokestatic 69, 3) := by decide +kernel
theorem dX9_seen_21 : decode cX9_seen 21 = .ok (.ifCond .ne 6, 3) := by decide +kernel
theorem dX9_seen_24 : decode cX9_seen 24 = .ok (.bipush (-2), 2) := by decide +kernel
theorem dX9_seen_26 : decode cX9_seen 26 = .ok (.ireturn, 1) := by decide +kernel
theorem dX9_seen_27 : decode cX9_seen 27 = .ok (.aload_n 0, 1) := by decide +kernel
theorem dX9_seen_28 : decode cX9_seen 28 = .ok (.getfield 241, 3) := by decide +kernel
theorem dX9_seen_31 : decode cX9_seen 31 = .ok (.bipush 8, 2) := by decide +kernel
theorem dX9_seen_33 : decode cX9_seen 33 = .ok (.if_icmp .ne 6, 3) := by decide +kernel
theorem dX9_seen_36 : decode cX9_seen 36 = .ok (.bipush (-4), 2) := by decide +kernel
theorem dX9_seen_38 : decode cX9_seen 38 = .ok (.ireturn, 1) := by decide +kernel
theorem dX9_seen_39 : decode cX9_seen 39 = .ok (.aload_n 0, 1) := by decide +kernel
theorem dX9_seen_40 : decode cX9_seen 40 = .ok (.getfield 61, 3) := by decide +kernel
theorem dX9_seen_43 : decode cX9_seen 43 = .ok (.iconst 2, 1) := by decide +kernel
theorem dX9_seen_44 : decode cX9_seen 44 = .ok (.aload_n 0, 1) := by decide +kernel
theorem dX9_seen_45 : decode cX9_seen 45 = .ok (.getfield 241, 3) := by decide +kernel
theorem dX9_seen_48 : decode cX9_seen 48 = .ok (.imul, 1) := by decide +kernel
theorem dX9_seen_49 : decode cX9_seen 49 = .ok (.iload_n 1, 1) := by decide +kernel
theorem dX9_seen_50 : decode cX9_seen 50 = .ok (.iastore, 1) := by decide +kernel
theorem dX9_seen_51 : decode cX9_seen 51 = .ok (.aload_n 0, 1) := by decide +kernel
theorem dX9_seen_52 : decode cX9_seen 52 = .ok (.getfield 61, 3) := by decide +kernel
theorem dX9_seen_55 : decode cX9_seen 55 = .ok (.iconst 2, 1) := by decide +kernel
theorem dX9_seen_56 : decode cX9_seen 56 = .ok (.aload_n 0, 1) := by decide +kernel
theorem dX9_seen_57 : decode cX9_seen 57 = .ok (.getfield 241, 3) := by decide +kernel
theorem dX9_seen_60 : decode cX9_seen 60 = .ok (.imul, 1) := by decide +kernel
theorem dX9_seen_61 : decode cX9_seen 61 = .ok (.iconst 1, 1) := by decide +kernel
theorem dX9_seen_62 : decode cX9_seen 62 = .ok (.iadd, 1) := by decide +kernel
theorem dX9_seen_63 : decode cX9_seen 63 = .ok (.iload_n 2, 1) := by decide +kernel
theorem dX9_seen_64 : decode cX9_seen 64 = .ok (.iastore, 1) := by decide +kernel
theorem dX9_seen_65 : decode cX9_seen 65 = .ok (.aload_n 0, 1) := by decide +kernel
theorem dX9_seen_66 : decode cX9_seen 66 = .ok (.dup, 1) := by decide +kernel
theorem dX9_seen_67 : decode cX9_seen 67 = .ok (.getfield 241, 3) := by decide +kernel
theorem dX9_seen_70 : decode cX9_seen 70 = .ok (.iconst 1, 1) := by decide +kernel
theorem dX9_seen_71 : decode cX9_seen 71 = .ok (.iadd, 1) := by decide +kernel
theorem dX9_seen_72 : decode cX9_seen 72 = .ok (.putfield 241, 3) := by decide +kernel
theorem dX9_seen_75 : decode cX9_seen 75 = .ok (.aload_n 0, 1) := by decide +kernel
theorem dX9_seen_76 : decode cX9_seen 76 = .ok (.getfield 241, 3) := by decide +kernel
theorem dX9_seen_79 : decode cX9_seen 79 = .ok (.ireturn, 1) := by decide +kernel
theorem dX9_forget_0 : decode cX9_forget 0 = .ok (.aload_n 0, 1) := by decide +kernel
theorem dX9_forget_1 : decode cX9_forget 1 = .ok (.getfield 241, 3) := by decide +kernel
theorem dX9_forget_4 : decode cX9_forget 4 = .ok (.istore_n 1, 1) := by decide +kernel
theorem dX9_forget_5 : decode cX9_forget 5 = .ok (.aload_n 0, 1) := by decide +kernel
theorem dX9_forget_6 : decode cX9_forget 6 = .ok (.iconst 0, 1) := by decide +kernel
theorem dX9_forget_7 : decode cX9_forget 7 = .ok (.putfield 241, 3) := by decide +kernel
theorem dX9_forget_10 : decode cX9_forget 10 = .ok (.iload_n 1, 1) := by decide +kernel
theorem dX9_forget_11 : decode cX9_forget 11 = .ok (.ireturn, 1) := by decide +kernel
theorem dX9_read_0 : decode cX9_read 0 = .ok (.iload_n 1, 1) := by decide +kernel
theorem dX9_read_1 : decode cX9_read 1 = .ok (.invokestatic 79, 3) := by decide +kernel
theorem dX9_read_4 : decode cX9_read 4 = .ok (.ifCond .ne 6, 3) := by decide +kernel
theorem dX9_read_7 : decode cX9_read 7 = .ok (.bipush (-2), 2) := by decide +kernel
theorem dX9_read_9 : decode cX9_read 9 = .ok (.ireturn, 1) := by decide +kernel
theorem dX9_read_10 : decode cX9_read 10 = .ok (.aload_n 0, 1) := by decide +kernel
theorem dX9_read_11 : decode cX9_read 11 = .ok (.getfield 7, 3) := by decide +kernel
theorem dX9_read_14 : decode cX9_read 14 = .ok (.iload_n 1, 1) := by decide +kernel
theorem dX9_read_15 : decode cX9_read 15 = .ok (.iaload, 1) := by decide +kernel
theorem dX9_read_16 : decode cX9_read 16 = .ok (.ifCond .ge 9, 3) := by decide +kernel
theorem dX9_read_19 : decode cX9_read 19 = .ok (.aload_n 0, 1) := by decide +kernel
theorem dX9_read_20 : decode cX9_read 20 = .ok (.iconst 1, 1) := by decide +kernel
theorem dX9_read_21 : decode cX9_read 21 = .ok (.invokevirtual 85, 3) := by decide +kernel
theorem dX9_read_24 : decode cX9_read 24 = .ok (.ireturn, 1) := by decide +kernel
theorem dX9_read_25 : decode cX9_read 25 = .ok (.iconst 0, 1) := by decide +kernel
theorem dX9_read_26 : decode cX9_read 26 = .ok (.istore_n 2, 1) := by decide +kernel
theorem dX9_read_27 : decode cX9_read 27 = .ok (.iconst 1, 1) := by decide +kernel
theorem dX9_read_28 : decode cX9_read 28 = .ok (.istore_n 3, 1) := by decide +kernel
theorem dX9_read_29 : decode cX9_read 29 = .ok (.iload_n 3, 1) := by decide +kernel
theorem dX9_read_30 : decode cX9_read 30 = .ok (.ifCond .eq 73, 3) := by decide +kernel
theorem dX9_read_33 : decode cX9_read 33 = .ok (.iconst 2, 1) := by decide +kernel
theorem dX9_read_34 : decode cX9_read 34 = .ok (.iload_n 2, 1) := by decide +kernel
theorem dX9_read_35 : decode cX9_read 35 = .ok (.imul, 1) := by decide +kernel
theorem dX9_read_36 : decode cX9_read 36 = .ok (.iconst 2, 1) := by decide +kernel
theorem dX9_read_37 : decode cX9_read 37 = .ok (.iadd, 1) := by decide +kernel
theorem dX9_read_38 : decode cX9_read 38 = .ok (.aload_n 0, 1) := by decide +kernel
theorem dX9_read_39 : decode cX9_read 39 = .ok (.getfield 13, 3) := by decide +kernel
theorem dX9_read_42 : decode cX9_read 42 = .ok (.iload_n 1, 1) := by decide +kernel
theorem dX9_read_43 : decode cX9_read 43 = .ok (.iaload, 1) := by decide +kernel
theorem dX9_read_44 : decode cX9_read 44 = .ok (.if_icmp .gt 59, 3) := by decide +kernel
theorem dX9_read_47 : decode cX9_read 47 = .ok (.aload_n 0, 1) := by decide +kernel
theorem dX9_read_48 : decode cX9_read 48 = .ok (.aload_n 0, 1) := by decide +kernel
theorem dX9_read_49 : decode cX9_read 49 = .ok (.getfield 16, 3) := by decide +kernel
theorem dX9_read_52 : decode cX9_read 52 = .ok (.bipush 60, 2) := by decide +kernel
theorem dX9_read_54 : decode cX9_read 54 = .ok (.iload_n 1, 1) := by decide +kernel
theorem dX9_read_55 : decode cX9_read 55 = .ok (.imul, 1) := by decide +kernel
theorem dX9_read_56 : decode cX9_read 56 = .ok (.iconst 2, 1) := by decide +kernel
theorem dX9_read_57 : decode cX9_read 57 = .ok (.iload_n 2, 1) := by decide +kernel
theorem dX9_read_58 : decode cX9_read 58 = .ok (.imul, 1) := by decide +kernel
theorem dX9_read_59 : decode cX9_read 59 = .ok (.iadd, 1) := by decide +kernel
theorem dX9_read_60 : decode cX9_read 60 = .ok (.iaload, 1) := by decide +kernel
theorem dX9_read_61 : decode cX9_read 61 = .ok (.aload_n 0, 1) := by decide +kernel
theorem dX9_read_62 : decode cX9_read 62 = .ok (.getfield 16, 3) := by decide +kernel
theorem dX9_read_65 : decode cX9_read 65 = .ok (.bipush 60, 2) := by decide +kernel
theorem dX9_read_67 : decode cX9_read 67 = .ok (.iload_n 1, 1) := by decide +kernel
theorem dX9_read_68 : decode cX9_read 68 = .ok (.imul, 1) := by decide +kernel
theorem dX9_read_69 : decode cX9_read 69 = .ok (.iconst 2, 1) := by decide +kernel
theorem dX9_read_70 : decode cX9_read 70 = .ok (.iload_n 2, 1) := by decide +kernel
theorem dX9_read_71 : decode cX9_read 71 = .ok (.imul, 1) := by decide +kernel
theorem dX9_read_72 : decode cX9_read 72 = .ok (.iadd, 1) := by decide +kernel
theorem dX9_read_73 : decode cX9_read 73 = .ok (.iconst 1, 1) := by decide +kernel
theorem dX9_read_74 : decode cX9_read 74 = .ok (.iadd, 1) := by decide +kernel
theorem dX9_read_75 : decode cX9_read 75 = .ok (.iaload, 1) := by decide +kernel
theorem dX9_read_76 : decode cX9_read 76 = .ok (.invokevirtual 244, 3) := by decide +kernel
theorem dX9_read_79 : decode cX9_read 79 = .ok (.ifCond .lt 7, 3) := by decide +kernel
theorem dX9_read_82 : decode cX9_read 82 = .ok (.iconst 1, 1) := by decide +kernel
theorem dX9_read_83 : decode cX9_read 83 = .ok (.goto 4, 3) := by decide +kernel
theorem dX9_read_86 : decode cX9_read 86 = .ok (.iconst 0, 1) := by decide +kernel
theorem dX9_read_87 : decode cX9_read 87 = .ok (.istore_n 3, 1) := by decide +kernel
theorem dX9_read_88 : decode cX9_read 88 = .ok (.iload_n 2, 1) := by decide +kernel
theorem dX9_read_89 : decode cX9_read 89 = .ok (.iload_n 3, 1) := by decide +kernel
theorem dX9_read_90 : decode cX9_read 90 = .ok (.ifCond .eq 7, 3) := by decide +kernel
theorem dX9_read_93 : decode cX9_read 93 = .ok (.iconst 1, 1) := by decide +kernel
theorem dX9_read_94 : decode cX9_read 94 = .ok (.goto 4, 3) := by decide +kernel
theorem dX9_read_97 : decode cX9_read 97 = .ok (.iconst 0, 1) := by decide +kernel
theorem dX9_read_98 : decode cX9_read 98 = .ok (.iadd, 1) := by decide +kernel
theorem dX9_read_99 : decode cX9_read 99 = .ok (.istore_n 2, 1) := by decide +kernel
theorem dX9_read_100 : decode cX9_read 100 = .ok (.goto (-71), 3) := by decide +kernel
theorem dX9_read_103 : decode cX9_read 103 = .ok (.iload_n 2, 1) := by decide +kernel
theorem dX9_read_104 : decode cX9_read 104 = .ok (.ireturn, 1) := by decide +kernel
theorem dX9_isSeen_0 : decode cX9_isSeen 0 = .ok (.aload_n 0, 1) := by decide +kernel
theorem dX9_isSeen_1 : decode cX9_isSeen 1 = .ok (.invokevirtual 193, 3) := by decide +kernel
theorem dX9_isSeen_4 : decode cX9_isSeen 4 = .ok (.iconst 1, 1) := by decide +kernel
theorem dX9_isSeen_5 : decode cX9_isSeen 5 = .ok (.istore_n 1, 1) := by decide +kernel
theorem dX9_isSeen_6 : decode cX9_isSeen 6 = .ok (.iconst 0, 1) := by decide +kernel
theorem dX9_isSeen_7 : decode cX9_isSeen 7 = .ok (.istore_n 2, 1) := by decide +kernel
theorem dX9_isSeen_8 : decode cX9_isSeen 8 = .ok (.iload_n 2, 1) := by decide +kernel
theorem dX9_isSeen_9 : decode cX9_isSeen 9 = .ok (.aload_n 0, 1) := by decide +kernel
theorem dX9_isSeen_10 : decode cX9_isSeen 10 = .ok (.getfield 241, 3) := by decide +kernel
theorem dX9_isSeen_13 : decode cX9_isSeen 13 = .ok (.if_icmp .ge 60, 3) := by decide +kernel
theorem dX9_isSeen_16 : decode cX9_isSeen 16 = .ok (.iload_n 1, 1) := by decide +kernel
theorem dX9_isSeen_17 : decode cX9_isSeen 17 = .ok (.ifCond .eq 48, 3) := by decide +kernel
theorem dX9_isSeen_20 : decode cX9_isSeen 20 = .ok (.aload_n 0, 1) := by decide +kernel
theorem dX9_isSeen_21 : decode cX9_isSeen 21 = .ok (.getfield 61, 3) := by decide +kernel
theorem dX9_isSeen_24 : decode cX9_isSeen 24 = .ok (.iconst 2, 1) := by decide +kernel
theorem dX9_isSeen_25 : decode cX9_isSeen 25 = .ok (.iload_n 2, 1) := by decide +kernel
theorem dX9_isSeen_26 : decode cX9_isSeen 26 = .ok (.imul, 1) := by decide +kernel
theorem dX9_isSeen_27 : decode cX9_isSeen 27 = .ok (.iaload, 1) := by decide +kernel
theorem dX9_isSeen_28 : decode cX9_isSeen 28 = .ok (.aload_n 0, 1) := by decide +kernel
theorem dX9_isSeen_29 : decode cX9_isSeen 29 = .ok (.getfield 121, 3) := by decide +kernel
theorem dX9_isSeen_32 : decode cX9_isSeen 32 = .ok (.if_icmp .gt 33, 3) := by decide +kernel
theorem dX9_isSeen_35 : decode cX9_isSeen 35 = .ok (.aload_n 0, 1) := by decide +kernel
theorem dX9_isSeen_36 : decode cX9_isSeen 36 = .ok (.getfield 43, 3) := by decide +kernel
theorem dX9_isSeen_39 : decode cX9_isSeen 39 = .ok (.aload_n 0, 1) := by decide +kernel
theorem dX9_isSeen_40 : decode cX9_isSeen 40 = .ok (.getfield 61, 3) := by decide +kernel
theorem dX9_isSeen_43 : decode cX9_isSeen 43 = .ok (.iconst 2, 1) := by decide +kernel
theorem dX9_isSeen_44 : decode cX9_isSeen 44 = .ok (.iload_n 2, 1) := by decide +kernel
theorem dX9_isSeen_45 : decode cX9_isSeen 45 = .ok (.imul, 1) := by decide +kernel
theorem dX9_isSeen_46 : decode cX9_isSeen 46 = .ok (.iaload, 1) := by decide +kernel
theorem dX9_isSeen_47 : decode cX9_isSeen 47 = .ok (.iaload, 1) := by decide +kernel
theorem dX9_isSeen_48 : decode cX9_isSeen 48 = .ok (.aload_n 0, 1) := by decide +kernel
theorem dX9_isSeen_49 : decode cX9_isSeen 49 = .ok (.getfield 61, 3) := by decide +kernel
theorem dX9_isSeen_52 : decode cX9_isSeen 52 = .ok (.iconst 2, 1) := by decide +kernel
theorem dX9_isSeen_53 : decode cX9_isSeen 53 = .ok (.iload_n 2, 1) := by decide +kernel
theorem dX9_isSeen_54 : decode cX9_isSeen 54 = .ok (.imul, 1) := by decide +kernel
theorem dX9_isSeen_55 : decode cX9_isSeen 55 = .ok (.iconst 1, 1) := by decide +kernel
theorem dX9_isSeen_56 : decode cX9_isSeen 56 = .ok (.iadd, 1) := by decide +kernel
theorem dX9_isSeen_57 : decode cX9_isSeen 57 = .ok (.iaload, 1) := by decide +kernel
theorem dX9_isSeen_58 : decode cX9_isSeen 58 = .ok (.if_icmp .ne 7, 3) := by decide +kernel
theorem dX9_isSeen_61 : decode cX9_isSeen 61 = .ok (.iconst 1, 1) := by decide +kernel
theorem dX9_isSeen_62 : decode cX9_isSeen 62 = .ok (.goto 4, 3) := by decide +kernel
theorem dX9_isSeen_65 : decode cX9_isSeen 65 = .ok (.iconst 0, 1) := by decide +kernel
theorem dX9_isSeen_66 : decode cX9_isSeen 66 = .ok (.istore_n 1, 1) := by decide +kernel
theorem dX9_isSeen_67 : decode cX9_isSeen 67 = .ok (.iinc 2 1, 3) := by decide +kernel
theorem dX9_isSeen_70 : decode cX9_isSeen 70 = .ok (.goto (-62), 3) := by decide +kernel
theorem dX9_isSeen_73 : decode cX9_isSeen 73 = .ok (.iload_n 1, 1) := by decide +kernel
theorem dX9_isSeen_74 : decode cX9_isSeen 74 = .ok (.ireturn, 1) := by decide +kernel
theorem dX9_ruleOf_0 : decode cX9_ruleOf 0 = .ok (.aload_n 0, 1) := by decide +kernel
theorem dX9_ruleOf_1 : decode cX9_ruleOf 1 = .ok (.getfield 40, 3) := by decide +kernel
theorem dX9_ruleOf_4 : decode cX9_ruleOf 4 = .ok (.iload_n 1, 1) := by decide +kernel
theorem dX9_ruleOf_5 : decode cX9_ruleOf 5 = .ok (.iaload, 1) := by decide +kernel
theorem dX9_ruleOf_6 : decode cX9_ruleOf 6 = .ok (.istore_n 2, 1) := by decide +kernel
theorem dX9_ruleOf_7 : decode cX9_ruleOf 7 = .ok (.iconst 0, 1) := by decide +kernel
theorem dX9_ruleOf_8 : decode cX9_ruleOf 8 = .ok (.istore_n 3, 1) := by decide +kernel
theorem dX9_ruleOf_9 : decode cX9_ruleOf 9 = .ok (.iconst 0, 1) := by decide +kernel
theorem dX9_ruleOf_10 : decode cX9_ruleOf 10 = .ok (.istore 4, 2) := by decide +kernel
theorem dX9_ruleOf_12 : decode cX9_ruleOf 12 = .ok (.iload 4, 2) := by decide +kernel
theorem dX9_ruleOf_14 : decode cX9_ruleOf 14 = .ok (.bipush 19, 2) := by decide +kernel
theorem dX9_ruleOf_16 : decode cX9_ruleOf 16 = .ok (.if_icmp .ge 38, 3) := by decide +kernel
theorem dX9_ruleOf_19 : decode cX9_ruleOf 19 = .ok (.aload_n 0, 1) := by decide +kernel
theorem dX9_ruleOf_20 : decode cX9_ruleOf 20 = .ok (.getfield 40, 3) := by decide +kernel
theorem dX9_ruleOf_23 : decode cX9_ruleOf 23 = .ok (.iload_n 1, 1) := by decide +kernel
theorem dX9_ruleOf_24 : decode cX9_ruleOf 24 = .ok (.iload 4, 2) := by decide +kernel
theorem dX9_ruleOf_26 : decode cX9_ruleOf 26 = .ok (.bipush 9, 2) := by decide +kernel
theorem dX9_ruleOf_28 : decode cX9_ruleOf 28 = .ok (.isub, 1) := by decide +kernel
theorem dX9_ruleOf_29 : decode cX9_ruleOf 29 = .ok (.iastore, 1) := by decide +kernel
theorem dX9_ruleOf_30 : decode cX9_ruleOf 30 = .ok (.iload_n 3, 1) := by decide +kernel
theorem dX9_ruleOf_31 : decode cX9_ruleOf 31 = .ok (.aload_n 0, 1) := by decide +kernel
theorem dX9_ruleOf_32 : decode cX9_ruleOf 32 = .ok (.invokevirtual 247, 3) := by decide +kernel
theorem dX9_ruleOf_35 : decode cX9_ruleOf 35 = .ok (.ifCond .eq 10, 3) := by decide +kernel
theorem dX9_ruleOf_38 : decode cX9_ruleOf 38 = .ok (.iconst 1, 1) := by decide +kernel
theorem dX9_ruleOf_39 : decode cX9_ruleOf 39 = .ok (.iload 4, 2) := by decide +kernel
theorem dX9_ruleOf_41 : decode cX9_ruleOf 41 = .ok (.ishl, 1) := by decide +kernel
theorem dX9_ruleOf_42 : decode cX9_ruleOf 42 = .ok (.goto 4, 3) := by decide +kernel
theorem dX9_ruleOf_45 : decode cX9_ruleOf 45 = .ok (.iconst 0, 1) := by decide +kernel
theorem dX9_ruleOf_46 : decode cX9_ruleOf 46 = .ok (.ior, 1) := by decide +kernel
theorem dX9_ruleOf_47 : decode cX9_ruleOf 47 = .ok (.istore_n 3, 1) := by decide +kernel
theorem dX9_ruleOf_48 : decode cX9_ruleOf 48 = .ok (.iinc 4 1, 3) := by decide +kernel
theorem dX9_ruleOf_51 : decode cX9_ruleOf 51 = .ok (.goto (-39), 3) := by decide +kernel
theorem dX9_ruleOf_54 : decode cX9_ruleOf 54 = .ok (.aload_n 0, 1) := by decide +kernel
theorem dX9_ruleOf_55 : decode cX9_ruleOf 55 = .ok (.getfield 40, 3) := by decide +kernel
theorem dX9_ruleOf_58 : decode cX9_ruleOf 58 = .ok (.iload_n 1, 1) := by decide +kernel
theorem dX9_ruleOf_59 : decode cX9_ruleOf 59 = .ok (.iload_n 2, 1) := by decide +kernel
theorem dX9_ruleOf_60 : decode cX9_ruleOf 60 = .ok (.iastore, 1) := by decide +kernel
theorem dX9_ruleOf_61 : decode cX9_ruleOf 61 = .ok (.iload_n 3, 1) := by decide +kernel
theorem dX9_ruleOf_62 : decode cX9_ruleOf 62 = .ok (.ireturn, 1) := by decide +kernel
theorem dX9_rule_0 : decode cX9_rule 0 = .ok (.aload_n 0, 1) := by decide +kernel
theorem dX9_rule_1 : decode cX9_rule 1 = .ok (.invokevirtual 196, 3) := by decide +kernel
theorem dX9_rule_4 : decode cX9_rule 4 = .ok (.iload_n 1, 1) := by decide +kernel
theorem dX9_rule_5 : decode cX9_rule 5 = .ok (.i2l, 1) := by decide +kernel
theorem dX9_rule_6 : decode cX9_rule 6 = .ok (.lconst 0, 1) := by decide +kernel
theorem dX9_rule_7 : decode cX9_rule 7 = .ok (.ldc2_w 77, 3) := by decide +kernel
theorem dX9_rule_10 : decode cX9_rule 10 = .ok (.invokestatic 69, 3) := by decide +kernel
theorem dX9_rule_13 : decode cX9_rule 13 = .ok (.ifCond .eq 11, 3) := by decide +kernel
theorem dX9_rule_16 : decode cX9_rule 16 = .ok (.aload_n 0, 1) := by decide +kernel
theorem dX9_rule_17 : decode cX9_rule 17 = .ok (.iload_n 1, 1) := by decide +kernel
theorem dX9_rule_18 : decode cX9_rule 18 = .ok (.invokevirtual 250, 3) := by decide +kernel
theorem dX9_rule_21 : decode cX9_rule 21 = .ok (.goto 5, 3) := by decide +kernel
theorem dX9_rule_24 : decode cX9_rule 24 = .ok (.bipush (-2), 2) := by decide +kernel
theorem dX9_rule_26 : decode cX9_rule 26 = .ok (.ireturn, 1) := by decide +kernel
theorem dX9_beganNow_0 : decode cX9_beganNow 0 = .ok (.aload_n 0, 1) := by decide +kernel
theorem dX9_beganNow_1 : decode cX9_beganNow 1 = .ok (.getfield 37, 3) := by decide +kernel
theorem dX9_beganNow_4 : decode cX9_beganNow 4 = .ok (.iconst 1, 1) := by decide +kernel
theorem dX9_beganNow_5 : decode cX9_beganNow 5 = .ok (.iaload, 1) := by decide +kernel
theorem dX9_beganNow_6 : decode cX9_beganNow 6 = .ok (.istore_n 1, 1) := by decide +kernel
theorem dX9_beganNow_7 : decode cX9_beganNow 7 = .ok (.iconst 0, 1) := by decide +kernel
theorem dX9_beganNow_8 : decode cX9_beganNow 8 = .ok (.istore_n 2, 1) := by decide +kernel
theorem dX9_beganNow_9 : decode cX9_beganNow 9 = .ok (.iconst 0, 1) := by decide +kernel
theorem dX9_beganNow_10 : decode cX9_beganNow 10 = .ok (.istore_n 3, 1) := by decide +kernel
theorem dX9_beganNow_11 : decode cX9_beganNow 11 = .ok (.iload_n 3, 1) := by decide +kernel
theorem dX9_beganNow_12 : decode cX9_beganNow 12 = .ok (.aload_n 0, 1) := by decide +kernel
theorem dX9_beganNow_13 : decode cX9_beganNow 13 = .ok (.getfield 103, 3) := by decide +kernel
theorem dX9_beganNow_16 : decode cX9_beganNow 16 = .ok (.if_icmp .ge 33, 3) := by decide +kernel
theorem dX9_beganNow_19 : decode cX9_beganNow 19 = .ok (.aload_n 0, 1) := by decide +kernel
theorem dX9_beganNow_20 : decode cX9_beganNow 20 = .ok (.getfield 37, 3) := by decide +kernel
theorem dX9_beganNow_23 : decode cX9_beganNow 23 = .ok (.iconst 1, 1) := by decide +kernel
theorem dX9_beganNow_24 : decode cX9_beganNow 24 = .ok (.iload_n 3, 1) := by decide +kernel
theorem dX9_beganNow_25 : decode cX9_beganNow 25 = .ok (.iastore, 1) := by decide +kernel
theorem dX9_beganNow_26 : decode cX9_beganNow 26 = .ok (.iload_n 2, 1) := by decide +kernel
theorem dX9_beganNow_27 : decode cX9_beganNow 27 = .ok (.aload_n 0, 1) := by decide +kernel
theorem dX9_beganNow_28 : decode cX9_beganNow 28 = .ok (.invokevirtual 247, 3) := by decide +kernel
theorem dX9_beganNow_31 : decode cX9_beganNow 31 = .ok (.ifCond .eq 9, 3) := by decide +kernel
theorem dX9_beganNow_34 : decode cX9_beganNow 34 = .ok (.iconst 1, 1) := by decide +kernel
theorem dX9_beganNow_35 : decode cX9_beganNow 35 = .ok (.iload_n 3, 1) := by decide +kernel
theorem dX9_beganNow_36 : decode cX9_beganNow 36 = .ok (.ishl, 1) := by decide +kernel
theorem dX9_beganNow_37 : decode cX9_beganNow 37 = .ok (.goto 4, 3) := by decide +kernel
theorem dX9_beganNow_40 : decode cX9_beganNow 40 = .ok (.iconst 0, 1) := by decide +kernel
theorem dX9_beganNow_41 : decode cX9_beganNow 41 = .ok (.ior, 1) := by decide +kernel
theorem dX9_beganNow_42 : decode cX9_beganNow 42 = .ok (.istore_n 2, 1) := by decide +kernel
theorem dX9_beganNow_43 : decode cX9_beganNow 43 = .ok (.iinc 3 1, 3) := by decide +kernel
theorem dX9_beganNow_46 : decode cX9_beganNow 46 = .ok (.goto (-35), 3) := by decide +kernel
theorem dX9_beganNow_49 : decode cX9_beganNow 49 = .ok (.aload_n 0, 1) := by decide +kernel
theorem dX9_beganNow_50 : decode cX9_beganNow 50 = .ok (.getfield 37, 3) := by decide +kernel
theorem dX9_beganNow_53 : decode cX9_beganNow 53 = .ok (.iconst 1, 1) := by decide +kernel
theorem dX9_beganNow_54 : decode cX9_beganNow 54 = .ok (.iload_n 1, 1) := by decide +kernel
theorem dX9_beganNow_55 : decode cX9_beganNow 55 = .ok (.iastore, 1) := by decide +kernel
theorem dX9_beganNow_56 : decode cX9_beganNow 56 = .ok (.iload_n 2, 1) := by decide +kernel
theorem dX9_beganNow_57 : decode cX9_beganNow 57 = .ok (.ireturn, 1) := by decide +kernel
theorem dX9_began_0 : decode cX9_began 0 = .ok (.aload_n 0, 1) := by decide +kernel
theorem dX9_began_1 : decode cX9_began 1 = .ok (.invokevirtual 196, 3) := by decide +kernel
theorem dX9_began_4 : decode cX9_began 4 = .ok (.aload_n 0, 1) := by decide +kernel
theorem dX9_began_5 : decode cX9_began 5 = .ok (.invokevirtual 253, 3) := by decide +kernel
theorem dX9_began_8 : decode cX9_began 8 = .ok (.ireturn, 1) := by decide +kernel
theorem dX9_askNow_0 : decode cX9_askNow 0 = .ok (.aload_n 0, 1) := by decide +kernel
theorem dX9_askNow_1 : decode cX9_askNow 1 = .ok (.invokevirtual 253, 3) := by decide +kernel
theorem dX9_askNow_4 : decode cX9_askNow 4 = .ok (.istore_n 1, 1) := by decide +kernel
theorem dX9_askNow_5 : decode cX9_askNow 5 = .ok (.aload_n 0, 1) := by decide +kernel
theorem dX9_askNow_6 : decode cX9_askNow 6 = .ok (.getfield 37, 3) := by decide +kernel
theorem dX9_askNow_9 : decode cX9_askNow 9 = .ok (.iconst 1, 1) := by decide +kernel
theorem dX9_askNow_10 : decode cX9_askNow 10 = .ok (.iaload, 1) := by decide +kernel
theorem dX9_askNow_11 : decode cX9_askNow 11 = .ok (.istore_n 2, 1) := by decide +kernel
theorem dX9_askNow_12 : decode cX9_askNow 12 = .ok (.iconst 0, 1) := by decide +kernel
theorem dX9_askNow_13 : decode cX9_askNow 13 = .ok (.istore_n 3, 1) := by decide +kernel
theorem dX9_askNow_14 : decode cX9_askNow 14 = .ok (.iload_n 3, 1) := by decide +kernel
theorem dX9_askNow_15 : decode cX9_askNow 15 = .ok (.sipush 475, 3) := by decide +kernel
theorem dX9_askNow_18 : decode cX9_askNow 18 = .ok (.if_icmp .ge 16, 3) := by decide +kernel
theorem dX9_askNow_21 : decode cX9_askNow 21 = .ok (.aload_n 0, 1) := by decide +kernel
theorem dX9_askNow_22 : decode cX9_askNow 22 = .ok (.getfield 64, 3) := by decide +kernel
theorem dX9_askNow_25 : decode cX9_askNow 25 = .ok (.iload_n 3, 1) := by decide +kernel
theorem dX9_askNow_26 : decode cX9_askNow 26 = .ok (.iconst 0, 1) := by decide +kernel
theorem dX9_askNow_27 : decode cX9_askNow 27 = .ok (.iastore, 1) := by decide +kernel
theorem dX9_askNow_28 : decode cX9_askNow 28 = .ok (.iinc 3 1, 3) := by decide +kernel
theorem dX9_askNow_31 : decode cX9_askNow 31 = .ok (.goto (-17), 3) := by decide +kernel
theorem dX9_askNow_34 : decode cX9_askNow 34 = .ok (.iconst 0, 1) := by decide +kernel
theorem dX9_askNow_35 : decode cX9_askNow 35 = .ok (.istore_n 3, 1) := by decide +kernel
theorem dX9_askNow_36 : decode cX9_askNow 36 = .ok (.iload_n 3, 1) := by decide +kernel
theorem dX9_askNow_37 : decode cX9_askNow 37 = .ok (.aload_n 0, 1) := by decide +kernel
theorem dX9_askNow_38 : decode cX9_askNow 38 = .ok (.getfield 103, 3) := by decide +kernel
theorem dX9_askNow_41 : decode cX9_askNow 41 = .ok (.if_icmp .ge 68, 3) := by decide +kernel
theorem dX9_askNow_44 : decode cX9_askNow 44 = .ok (.iload_n 1, 1) := by decide +kernel
theorem dX9_askNow_45 : decode cX9_askNow 45 = .ok (.iload_n 3, 1) := by decide +kernel
theorem dX9_askNow_46 : decode cX9_askNow 46 = .ok (.invokestatic 184, 3) := by decide +kernel
theorem dX9_askNow_49 : decode cX9_askNow 49 = .ok (.ifCond .eq 54, 3) := by decide +kernel
theorem dX9_askNow_52 : decode cX9_askNow 52 = .ok (.aload_n 0, 1) := by decide +kernel
theorem dX9_askNow_53 : decode cX9_askNow 53 = .ok (.getfield 37, 3) := by decide +kernel
theorem dX9_askNow_56 : decode cX9_askNow 56 = .ok (.iconst 1, 1) := by decide +kernel
theorem dX9_askNow_57 : decode cX9_askNow 57 = .ok (.iload_n 3, 1) := by decide +kernel
theorem dX9_askNow_58 : decode cX9_askNow 58 = .ok (.iastore, 1) := by decide +kernel
theorem dX9_askNow_59 : decode cX9_askNow 59 = .ok (.aload_n 0, 1) := by decide +kernel
theorem dX9_askNow_60 : decode cX9_askNow 60 = .ok (.invokevirtual 193, 3) := by decide +kernel
theorem dX9_askNow_63 : decode cX9_askNow 63 = .ok (.iconst 0, 1) := by decide +kernel
theorem dX9_askNow_64 : decode cX9_askNow 64 = .ok (.istore 4, 2) := by decide +kernel
theorem dX9_askNow_66 : decode cX9_askNow 66 = .ok (.iload 4, 2) := by decide +kernel
theorem dX9_askNow_68 : decode cX9_askNow 68 = .ok (.aload_n 0, 1) := by decide +kernel
theorem dX9_askNow_69 : decode cX9_askNow 69 = .ok (.getfield 121, 3) := by decide +kernel
theorem dX9_askNow_72 : decode cX9_askNow 72 = .ok (.if_icmp .gt 31, 3) := by decide +kernel
theorem dX9_askNow_75 : decode cX9_askNow 75 = .ok (.aload_n 0, 1) := by decide +kernel
theorem dX9_askNow_76 : decode cX9_askNow 76 = .ok (.getfield 64, 3) := by decide +kernel
theorem dX9_askNow_79 : decode cX9_askNow 79 = .ok (.bipush 19, 2) := by decide +kernel
theorem dX9_askNow_81 : decode cX9_askNow 81 = .ok (.iload 4, 2) := by decide +kernel
theorem dX9_askNow_83 : decode cX9_askNow 83 = .ok (.imul, 1) := by decide +kernel
theorem dX9_askNow_84 : decode cX9_askNow 84 = .ok (.aload_n 0, 1) := by decide +kernel
theorem dX9_askNow_85 : decode cX9_askNow 85 = .ok (.getfield 43, 3) := by decide +kernel
theorem dX9_askNow_88 : decode cX9_askNow 88 = .ok (.iload 4, 2) := by decide +kernel
theorem dX9_askNow_90 : decode cX9_askNow 90 = .ok (.iaload, 1) := by decide +kernel
theorem dX9_askNow_91 : decode cX9_askNow 91 = .ok (.iadd, 1) := by decide +kernel
theorem dX9_askNow_92 : decode cX9_askNow 92 = .ok (.dup2, 1) := by decide +kernel
theorem dX9_askNow_93 : decode cX9_askNow 93 = .ok (.iaload, 1) := by decide +kernel
theorem dX9_askNow_94 : decode cX9_askNow 94 = .ok (.iconst 1, 1) := by decide +kernel
theorem dX9_askNow_95 : decode cX9_askNow 95 = .ok (.iadd, 1) := by decide +kernel
theorem dX9_askNow_96 : decode cX9_askNow 96 = .ok (.iastore, 1) := by decide +kernel
theorem dX9_askNow_97 : decode cX9_askNow 97 = .ok (.iinc 4 1, 3) := by decide +kernel
theorem dX9_askNow_100 : decode cX9_askNow 100 = .ok (.goto (-34), 3) := by decide +kernel
theorem dX9_askNow_103 : decode cX9_askNow 103 = .ok (.iinc 3 1, 3) := by decide +kernel
theorem dX9_askNow_106 : decode cX9_askNow 106 = .ok (.goto (-70), 3) := by decide +kernel
theorem dX9_askNow_109 : decode cX9_askNow 109 = .ok (.aload_n 0, 1) := by decide +kernel
theorem dX9_askNow_110 : decode cX9_askNow 110 = .ok (.getfield 37, 3) := by decide +kernel
theorem dX9_askNow_113 : decode cX9_askNow 113 = .ok (.iconst 1, 1) := by decide +kernel
theorem dX9_askNow_114 : decode cX9_askNow 114 = .ok (.iload_n 2, 1) := by decide +kernel
theorem dX9_askNow_115 : decode cX9_askNow 115 = .ok (.iastore, 1) := by decide +kernel
theorem dX9_askNow_116 : decode cX9_askNow 116 = .ok (.iconst (-1), 1) := by decide +kernel
theorem dX9_askNow_117 : decode cX9_askNow 117 = .ok (.istore_n 3, 1) := by decide +kernel
theorem dX9_askNow_118 : decode cX9_askNow 118 = .ok (.iconst 0, 1) := by decide +kernel
theorem dX9_askNow_119 : decode cX9_askNow 119 = .ok (.istore 4, 2) := by decide +kernel
theorem dX9_askNow_121 : decode cX9_askNow 121 = .ok (.iconst 0, 1) := by decide +kernel
theorem dX9_askNow_122 : decode cX9_askNow 122 = .ok (.istore 5, 2) := by decide +kernel
theorem dX9_askNow_124 : decode cX9_askNow 124 = .ok (.iload 5, 2) := by decide +kernel
theorem dX9_askNow_126 : decode cX9_askNow 126 = .ok (.aload_n 0, 1) := by decide +kernel
theorem dX9_askNow_127 : decode cX9_askNow 127 = .ok (.getfield 121, 3) := by decide +kernel
theorem dX9_askNow_130 : decode cX9_askNow 130 = .ok (.if_icmp .gt 93, 3) := by decide +kernel
theorem dX9_askNow_133 : decode cX9_askNow 133 = .ok (.iconst 0, 1) := by decide +kernel
theorem dX9_askNow_134 : decode cX9_askNow 134 = .ok (.istore 6, 2) := by decide +kernel
theorem dX9_askNow_136 : decode cX9_askNow 136 = .ok (.iconst 0, 1) := by decide +kernel
theorem dX9_askNow_137 : decode cX9_askNow 137 = .ok (.istore 7, 2) := by decide +kernel
theorem dX9_askNow_139 : decode cX9_askNow 139 = .ok (.iload 7, 2) := by decide +kernel
theorem dX9_askNow_141 : decode cX9_askNow 141 = .ok (.bipush 19, 2) := by decide +kernel
theorem dX9_askNow_143 : decode cX9_askNow 143 = .ok (.if_icmp .ge 29, 3) := by decide +kernel
theorem dX9_askNow_146 : decode cX9_askNow 146 = .ok (.aload_n 0, 1) := by decide +kernel
theorem dX9_askNow_147 : decode cX9_askNow 147 = .ok (.getfield 64, 3) := by decide +kernel
theorem dX9_askNow_150 : decode cX9_askNow 150 = .ok (.bipush 19, 2) := by decide +kernel
theorem dX9_askNow_152 : decode cX9_askNow 152 = .ok (.iload 5, 2) := by decide +kernel
theorem dX9_askNow_154 : decode cX9_askNow 154 = .ok (.imul, 1) := by decide +kernel
theorem dX9_askNow_155 : decode cX9_askNow 155 = .ok (.iload 7, 2) := by decide +kernel
theorem dX9_askNow_157 : decode cX9_askNow 157 = .ok (.iadd, 1) := by decide +kernel
theorem dX9_askNow_158 : decode cX9_askNow 158 = .ok (.iaload, 1) := by decide +kernel
theorem dX9_askNow_159 : decode cX9_askNow 159 = .ok (.iload 6, 2) := by decide +kernel
theorem dX9_askNow_161 : decode cX9_askNow 161 = .ok (.invokestatic 168, 3) := by decide +kernel
theorem dX9_askNow_164 : decode cX9_askNow 164 = .ok (.istore 6, 2) := by decide +kernel
theorem dX9_askNow_166 : decode cX9_askNow 166 = .ok (.iinc 7 1, 3) := by decide +kernel
theorem dX9_askNow_169 : decode cX9_askNow 169 = .ok (.goto (-30), 3) := by decide +kernel
theorem dX9_askNow_172 : decode cX9_askNow 172 = .ok (.iload_n 3, 1) := by decide +kernel
theorem dX9_askNow_173 : decode cX9_askNow 173 = .ok (.iconst (-1), 1) := by decide +kernel
theorem dX9_askNow_174 : decode cX9_askNow 174 = .ok (.if_icmp .eq 10, 3) := by decide +kernel
theorem dX9_askNow_177 : decode cX9_askNow 177 = .ok (.iload 6, 2) := by decide +kernel
theorem dX9_askNow_179 : decode cX9_askNow 179 = .ok (.iload 4, 2) := by decide +kernel
theorem dX9_askNow_181 : decode cX9_askNow 181 = .ok (.if_icmp .ge 7, 3) := by decide +kernel
theorem dX9_askNow_184 : decode cX9_askNow 184 = .ok (.iconst 1, 1) := by decide +kernel
theorem dX9_askNow_185 : decode cX9_askNow 185 = .ok (.goto 4, 3) := by decide +kernel
theorem dX9_askNow_188 : decode cX9_askNow 188 = .ok (.iconst 0, 1) := by decide +kernel
theorem dX9_askNow_189 : decode cX9_askNow 189 = .ok (.istore 7, 2) := by decide +kernel
theorem dX9_askNow_191 : decode cX9_askNow 191 = .ok (.iload 7, 2) := by decide +kernel
theorem dX9_askNow_193 : decode cX9_askNow 193 = .ok (.ifCond .eq 8, 3) := by decide +kernel
theorem dX9_askNow_196 : decode cX9_askNow 196 = .ok (.iload 5, 2) := by decide +kernel
theorem dX9_askNow_198 : decode cX9_askNow 198 = .ok (.goto 4, 3) := by decide +kernel
theorem dX9_askNow_201 : decode cX9_askNow 201 = .ok (.iload_n 3, 1) := by decide +kernel
theorem dX9_askNow_202 : decode cX9_askNow 202 = .ok (.istore_n 3, 1) := by decide +kernel
theorem dX9_askNow_203 : decode cX9_askNow 203 = .ok (.iload 7, 2) := by decide +kernel
theorem dX9_askNow_205 : decode cX9_askNow 205 = .ok (.ifCond .eq 8, 3) := by decide +kernel
theorem dX9_askNow_208 : decode cX9_askNow 208 = .ok (.iload 6, 2) := by decide +kernel
theorem dX9_askNow_210 : decode cX9_askNow 210 = .ok (.goto 5, 3) := by decide +kernel
theorem dX9_askNow_213 : decode cX9_askNow 213 = .ok (.iload 4, 2) := by decide +kernel
theorem dX9_askNow_215 : decode cX9_askNow 215 = .ok (.istore 4, 2) := by decide +kernel
theorem dX9_askNow_217 : decode cX9_askNow 217 = .ok (.iinc 5 1, 3) := by decide +kernel
theorem dX9_askNow_220 : decode cX9_askNow 220 = .ok (.goto (-96), 3) := by decide +kernel
theorem dX9_askNow_223 : decode cX9_askNow 223 = .ok (.iload_n 3, 1) := by decide +kernel
theorem dX9_askNow_224 : decode cX9_askNow 224 = .ok (.ireturn, 1) := by decide +kernel
theorem dX9_ask_0 : decode cX9_ask 0 = .ok (.aload_n 0, 1) := by decide +kernel
theorem dX9_ask_1 : decode cX9_ask 1 = .ok (.invokevirtual 196, 3) := by decide +kernel
theorem dX9_ask_4 : decode cX9_ask 4 = .ok (.aload_n 0, 1) := by decide +kernel
theorem dX9_ask_5 : decode cX9_ask 5 = .ok (.invokevirtual 256, 3) := by decide +kernel
theorem dX9_ask_8 : decode cX9_ask 8 = .ok (.ireturn, 1) := by decide +kernel
theorem dX9_maybeOf_0 : decode cX9_maybeOf 0 = .ok (.lconst 0, 1) := by decide +kernel
theorem dX9_maybeOf_1 : decode cX9_maybeOf 1 = .ok (.lstore 4, 2) := by decide +kernel
theorem dX9_maybeOf_3 : decode cX9_maybeOf 3 = .ok (.iconst 0, 1) := by decide +kernel
theorem dX9_maybeOf_4 : decode cX9_maybeOf 4 = .ok (.istore 6, 2) := by decide +kernel
theorem dX9_maybeOf_6 : decode cX9_maybeOf 6 = .ok (.iload 6, 2) := by decide +kernel
theorem dX9_maybeOf_8 : decode cX9_maybeOf 8 = .ok (.iconst 1, 1) := by decide +kernel
theorem dX9_maybeOf_9 : decode cX9_maybeOf 9 = .ok (.aload_n 0, 1) := by decide +kernel
theorem dX9_maybeOf_10 : decode cX9_maybeOf 10 = .ok (.getfield 121, 3) := by decide +kernel
theorem dX9_maybeOf_13 : decode cX9_maybeOf 13 = .ok (.ishl, 1) := by decide +kernel
theorem dX9_maybeOf_14 : decode cX9_maybeOf 14 = .ok (.if_icmp .ge 80, 3) := by decide +kernel
theorem dX9_maybeOf_17 : decode cX9_maybeOf 17 = .ok (.aload_n 0, 1) := by decide +kernel
theorem dX9_maybeOf_18 : decode cX9_maybeOf 18 = .ok (.iload 6, 2) := by decide +kernel
theorem dX9_maybeOf_20 : decode cX9_maybeOf 20 = .ok (.putfield 181, 3) := by decide +kernel
theorem dX9_maybeOf_23 : decode cX9_maybeOf 23 = .ok (.aload_n 0, 1) := by decide +kernel
theorem dX9_maybeOf_24 : decode cX9_maybeOf 24 = .ok (.invokevirtual 193, 3) := by decide +kernel
theorem dX9_maybeOf_27 : decode cX9_maybeOf 27 = .ok (.aload_n 0, 1) := by decide +kernel
theorem dX9_maybeOf_28 : decode cX9_maybeOf 28 = .ok (.getfield 155, 3) := by decide +kernel
theorem dX9_maybeOf_31 : decode cX9_maybeOf 31 = .ok (.iload_n 2, 1) := by decide +kernel
theorem dX9_maybeOf_32 : decode cX9_maybeOf 32 = .ok (.if_icmp .ne 56, 3) := by decide +kernel
theorem dX9_maybeOf_35 : decode cX9_maybeOf 35 = .ok (.lconst 1, 1) := by decide +kernel
theorem dX9_maybeOf_36 : decode cX9_maybeOf 36 = .ok (.lstore 7, 2) := by decide +kernel
theorem dX9_maybeOf_38 : decode cX9_maybeOf 38 = .ok (.iconst 0, 1) := by decide +kernel
theorem dX9_maybeOf_39 : decode cX9_maybeOf 39 = .ok (.istore 9, 2) := by decide +kernel
theorem dX9_maybeOf_41 : decode cX9_maybeOf 41 = .ok (.iload 9, 2) := by decide +kernel
theorem dX9_maybeOf_43 : decode cX9_maybeOf 43 = .ok (.aload_n 0, 1) := by decide +kernel
theorem dX9_maybeOf_44 : decode cX9_maybeOf 44 = .ok (.getfield 121, 3) := by decide +kernel
theorem dX9_maybeOf_47 : decode cX9_maybeOf 47 = .ok (.if_icmp .ge 34, 3) := by decide +kernel
theorem dX9_maybeOf_50 : decode cX9_maybeOf 50 = .ok (.lload 7, 2) := by decide +kernel
theorem dX9_maybeOf_52 : decode cX9_maybeOf 52 = .ok (.iload 6, 2) := by decide +kernel
theorem dX9_maybeOf_54 : decode cX9_maybeOf 54 = .ok (.iload 9, 2) := by decide +kernel
theorem dX9_maybeOf_56 : decode cX9_maybeOf 56 = .ok (.invokestatic 184, 3) := by decide +kernel
theorem dX9_maybeOf_59 : decode cX9_maybeOf 59 = .ok (.ifCond .eq 11, 3) := by decide +kernel
theorem dX9_maybeOf_62 : decode cX9_maybeOf 62 = .ok (.bipush 16, 2) := by decide +kernel
theorem dX9_maybeOf_64 : decode cX9_maybeOf 64 = .ok (.iload_n 1, 1) := by decide +kernel
theorem dX9_maybeOf_65 : decode cX9_maybeOf 65 = .ok (.isub, 1) := by decide +kernel
theorem dX9_maybeOf_66 : decode cX9_maybeOf 66 = .ok (.i2l, 1) := by decide +kernel
theorem dX9_maybeOf_67 : decode cX9_maybeOf 67 = .ok (.goto 5, 3) := by decide +kernel
theorem dX9_maybeOf_70 : decode cX9_maybeOf 70 = .ok (.iload_n 1, 1) := by decide +kernel
theorem dX9_maybeOf_71 : decode cX9_maybeOf 71 = .ok (.i2l, 1) := by decide +kernel
theorem dX9_maybeOf_72 : decode cX9_maybeOf 72 = .ok (.lmul, 1) := by decide +kernel
theorem dX9_maybeOf_73 : decode cX9_maybeOf 73 = .ok (.lstore 7, 2) := by decide +kernel
theorem dX9_maybeOf_75 : decode cX9_maybeOf 75 = .ok (.iinc 9 1, 3) := by decide +kernel
theorem dX9_maybeOf_78 : decode cX9_maybeOf 78 = .ok (.goto (-37), 3) := by decide +kernel
theorem dX9_maybeOf_81 : decode cX9_maybeOf 81 = .ok (.lload 4, 2) := by decide +kernel
theorem dX9_maybeOf_83 : decode cX9_maybeOf 83 = .ok (.lload 7, 2) := by decide +kernel
theorem dX9_maybeOf_85 : decode cX9_maybeOf 85 = .ok (.ladd, 1) := by decide +kernel
theorem dX9_maybeOf_86 : decode cX9_maybeOf 86 = .ok (.lstore 4, 2) := by decide +kernel
theorem dX9_maybeOf_88 : decode cX9_maybeOf 88 = .ok (.iinc 6 1, 3) := by decide +kernel
theorem dX9_maybeOf_91 : decode cX9_maybeOf 91 = .ok (.goto (-85), 3) := by decide +kernel
theorem dX9_maybeOf_94 : decode cX9_maybeOf 94 = .ok (.aload_n 0, 1) := by decide +kernel
theorem dX9_maybeOf_95 : decode cX9_maybeOf 95 = .ok (.iconst 0, 1) := by decide +kernel
theorem dX9_maybeOf_96 : decode cX9_maybeOf 96 = .ok (.putfield 181, 3) := by decide +kernel
theorem dX9_maybeOf_99 : decode cX9_maybeOf 99 = .ok (.lload 4, 2) := by decide +kernel
theorem dX9_maybeOf_101 : decode cX9_maybeOf 101 = .ok (.lconst 1, 1) := by decide +kernel
theorem dX9_maybeOf_102 : decode cX9_maybeOf 102 = .ok (.iconst 4, 1) := by decide +kernel
theorem dX9_maybeOf_103 : decode cX9_maybeOf 103 = .ok (.aload_n 0, 1) := by decide +kernel
theorem dX9_maybeOf_104 : decode cX9_maybeOf 104 = .ok (.getfield 121, 3) := by decide +kernel
theorem dX9_maybeOf_107 : decode cX9_maybeOf 107 = .ok (.imul, 1) := by decide +kernel
theorem dX9_maybeOf_108 : decode cX9_maybeOf 108 = .ok (.lshl, 1) := by decide +kernel
theorem dX9_maybeOf_109 : decode cX9_maybeOf 109 = .ok (.iload_n 3, 1) := by decide +kernel
theorem dX9_maybeOf_110 : decode cX9_maybeOf 110 = .ok (.invokestatic 259, 3) := by decide +kernel
theorem dX9_maybeOf_113 : decode cX9_maybeOf 113 = .ok (.lreturn, 1) := by decide +kernel
theorem dX9_maybe_0 : decode cX9_maybe 0 = .ok (.aload_n 0, 1) := by decide +kernel
theorem dX9_maybe_1 : decode cX9_maybe 1 = .ok (.invokevirtual 196, 3) := by decide +kernel
theorem dX9_maybe_4 : decode cX9_maybe 4 = .ok (.iload_n 1, 1) := by decide +kernel
theorem dX9_maybe_5 : decode cX9_maybe 5 = .ok (.i2l, 1) := by decide +kernel
theorem dX9_maybe_6 : decode cX9_maybe 6 = .ok (.lconst 0, 1) := by decide +kernel
theorem dX9_maybe_7 : decode cX9_maybe 7 = .ok (.ldc2_w 263, 3) := by decide +kernel
theorem dX9_maybe_10 : decode cX9_maybe 10 = .ok (.invokestatic 69, 3) := by decide +kernel
theorem dX9_maybe_13 : decode cX9_maybe 13 = .ok (.ifCond .eq 45, 3) := by decide +kernel
theorem dX9_maybe_16 : decode cX9_maybe 16 = .ok (.iload_n 2, 1) := by decide +kernel
theorem dX9_maybe_17 : decode cX9_maybe 17 = .ok (.i2l, 1) := by decide +kernel
theorem dX9_maybe_18 : decode cX9_maybe 18 = .ok (.lconst 0, 1) := by decide +kernel
theorem dX9_maybe_19 : decode cX9_maybe 19 = .ok (.aload_n 0, 1) := by decide +kernel
theorem dX9_maybe_20 : decode cX9_maybe 20 = .ok (.getfield 103, 3) := by decide +kernel
theorem dX9_maybe_23 : decode cX9_maybe 23 = .ok (.iconst 1, 1) := by decide +kernel
theorem dX9_maybe_24 : decode cX9_maybe 24 = .ok (.isub, 1) := by decide +kernel
theorem dX9_maybe_25 : decode cX9_maybe 25 = .ok (.i2l, 1) := by decide +kernel
theorem dX9_maybe_26 : decode cX9_maybe 26 = .ok (.invokestatic 69, 3) := by decide +kernel
theorem dX9_maybe_29 : decode cX9_maybe 29 = .ok (.ifCond .eq 29, 3) := by decide +kernel
theorem dX9_maybe_32 : decode cX9_maybe 32 = .ok (.iload_n 3, 1) := by decide +kernel
theorem dX9_maybe_33 : decode cX9_maybe 33 = .ok (.invokestatic 148, 3) := by decide +kernel
theorem dX9_maybe_36 : decode cX9_maybe 36 = .ok (.ifCond .eq 22, 3) := by decide +kernel
theorem dX9_maybe_39 : decode cX9_maybe 39 = .ok (.aload_n 0, 1) := by decide +kernel
theorem dX9_maybe_40 : decode cX9_maybe 40 = .ok (.getfield 121, 3) := by decide +kernel
theorem dX9_maybe_43 : decode cX9_maybe 43 = .ok (.bipush 10, 2) := by decide +kernel
theorem dX9_maybe_45 : decode cX9_maybe 45 = .ok (.if_icmp .gt 13, 3) := by decide +kernel
theorem dX9_maybe_48 : decode cX9_maybe 48 = .ok (.aload_n 0, 1) := by decide +kernel
theorem dX9_maybe_49 : decode cX9_maybe 49 = .ok (.iload_n 1, 1) := by decide +kernel
theorem dX9_maybe_50 : decode cX9_maybe 50 = .ok (.iload_n 2, 1) := by decide +kernel
theorem dX9_maybe_51 : decode cX9_maybe 51 = .ok (.iload_n 3, 1) := by decide +kernel
theorem dX9_maybe_52 : decode cX9_maybe 52 = .ok (.invokevirtual 265, 3) := by decide +kernel
theorem dX9_maybe_55 : decode cX9_maybe 55 = .ok (.goto 8, 3) := by decide +kernel
theorem dX9_maybe_58 : decode cX9_maybe 58 = .ok (.bipush (-2), 2) := by decide +kernel
theorem dX9_maybe_60 : decode cX9_maybe 60 = .ok (.invokestatic 269, 3) := by decide +kernel
theorem dX9_maybe_63 : decode cX9_maybe 63 = .ok (.lreturn, 1) := by decide +kernel
theorem dX9_lot_0 : decode cX9_lot 0 = .ok (.aload_n 0, 1) := by decide +kernel
theorem dX9_lot_1 : decode cX9_lot 1 = .ok (.ldc_w 273, 3) := by decide +kernel
theorem dX9_lot_4 : decode cX9_lot 4 = .ok (.aload_n 0, 1) := by decide +kernel
theorem dX9_lot_5 : decode cX9_lot 5 = .ok (.getfield 274, 3) := by decide +kernel
theorem dX9_lot_8 : decode cX9_lot 8 = .ok (.imul, 1) := by decide +kernel
theorem dX9_lot_9 : decode cX9_lot 9 = .ok (.sipush 12345, 3) := by decide +kernel
theorem dX9_lot_12 : decode cX9_lot 12 = .ok (.iadd, 1) := by decide +kernel
theorem dX9_lot_13 : decode cX9_lot 13 = .ok (.putfield 274, 3) := by decide +kernel
theorem dX9_lot_16 : decode cX9_lot 16 = .ok (.aload_n 0, 1) := by decide +kernel
theorem dX9_lot_17 : decode cX9_lot 17 = .ok (.getfield 274, 3) := by decide +kernel
theorem dX9_lot_20 : decode cX9_lot 20 = .ok (.bipush 16, 2) := by decide +kernel
theorem dX9_lot_22 : decode cX9_lot 22 = .ok (.iushr, 1) := by decide +kernel
theorem dX9_lot_23 : decode cX9_lot 23 = .ok (.iload_n 1, 1) := by decide +kernel
theorem dX9_lot_24 : decode cX9_lot 24 = .ok (.irem, 1) := by decide +kernel
theorem dX9_lot_25 : decode cX9_lot 25 = .ok (.ireturn, 1) := by decide +kernel
theorem dX9_weekOf_0 : decode cX9_weekOf 0 = .ok (.aload_n 0, 1) := by decide +kernel
theorem dX9_weekOf_1 : decode cX9_weekOf 1 = .ok (.invokevirtual 193, 3) := by decide +kernel
theorem dX9_weekOf_4 : decode cX9_weekOf 4 = .ok (.aload_n 0, 1) := by decide +kernel
theorem dX9_weekOf_5 : decode cX9_weekOf 5 = .ok (.iload_n 1, 1) := by decide +kernel
theorem dX9_weekOf_6 : decode cX9_weekOf 6 = .ok (.putfield 274, 3) := by decide +kernel
theorem dX9_weekOf_9 : decode cX9_weekOf 9 = .ok (.iconst 0, 1) := by decide +kernel
theorem dX9_weekOf_10 : decode cX9_weekOf 10 = .ok (.istore 4, 2) := by decide +kernel
theorem dX9_weekOf_12 : decode cX9_weekOf 12 = .ok (.iconst 0, 1) := by decide +kernel
theorem dX9_weekOf_13 : decode cX9_weekOf 13 = .ok (.istore 5, 2) := by decide +kernel
theorem dX9_weekOf_15 : decode cX9_weekOf 15 = .ok (.iload 5, 2) := by decide +kernel
theorem dX9_weekOf_17 : decode cX9_weekOf 17 = .ok (.iload_n 2, 1) := by decide +kernel
theorem dX9_weekOf_18 : decode cX9_weekOf 18 = .ok (.if_icmp .ge 42, 3) := by decide +kernel
theorem dX9_weekOf_21 : decode cX9_weekOf 21 = .ok (.aload_n 0, 1) := by decide +kernel
theorem dX9_weekOf_22 : decode cX9_weekOf 22 = .ok (.getfield 115, 3) := by decide +kernel
theorem dX9_weekOf_25 : decode cX9_weekOf 25 = .ok (.ifCond .le 35, 3) := by decide +kernel
theorem dX9_weekOf_28 : decode cX9_weekOf 28 = .ok (.iload 4, 2) := by decide +kernel
theorem dX9_weekOf_30 : decode cX9_weekOf 30 = .ok (.aload_n 0, 1) := by decide +kernel
theorem dX9_weekOf_31 : decode cX9_weekOf 31 = .ok (.aload_n 0, 1) := by decide +kernel
theorem dX9_weekOf_32 : decode cX9_weekOf 32 = .ok (.aload_n 0, 1) := by decide +kernel
theorem dX9_weekOf_33 : decode cX9_weekOf 33 = .ok (.getfield 115, 3) := by decide +kernel
theorem dX9_weekOf_36 : decode cX9_weekOf 36 = .ok (.invokevirtual 277, 3) := by decide +kernel
theorem dX9_weekOf_39 : decode cX9_weekOf 39 = .ok (.invokevirtual 187, 3) := by decide +kernel
theorem dX9_weekOf_42 : decode cX9_weekOf 42 = .ok (.iconst 1, 1) := by decide +kernel
theorem dX9_weekOf_43 : decode cX9_weekOf 43 = .ok (.if_icmp .ne 7, 3) := by decide +kernel
theorem dX9_weekOf_46 : decode cX9_weekOf 46 = .ok (.iconst 1, 1) := by decide +kernel
theorem dX9_weekOf_47 : decode cX9_weekOf 47 = .ok (.goto 4, 3) := by decide +kernel
theorem dX9_weekOf_50 : decode cX9_weekOf 50 = .ok (.iconst 0, 1) := by decide +kernel
theorem dX9_weekOf_51 : decode cX9_weekOf 51 = .ok (.iadd, 1) := by decide +kernel
theorem dX9_weekOf_52 : decode cX9_weekOf 52 = .ok (.istore 4, 2) := by decide +kernel
theorem dX9_weekOf_54 : decode cX9_weekOf 54 = .ok (.iinc 5 1, 3) := by decide +kernel
theorem dX9_weekOf_57 : decode cX9_weekOf 57 = .ok (.goto (-42), 3) := by decide +kernel
theorem dX9_weekOf_60 : decode cX9_weekOf 60 = .ok (.iload_n 3, 1) := by decide +kernel
theorem dX9_weekOf_61 : decode cX9_weekOf 61 = .ok (.ifCond .ne 10, 3) := by decide +kernel
theorem dX9_weekOf_64 : decode cX9_weekOf 64 = .ok (.aload_n 0, 1) := by decide +kernel
theorem dX9_weekOf_65 : decode cX9_weekOf 65 = .ok (.getfield 155, 3) := by decide +kernel
theorem dX9_weekOf_68 : decode cX9_weekOf 68 = .ok (.goto 5, 3) := by decide +kernel
theorem dX9_weekOf_71 : decode cX9_weekOf 71 = .ok (.iload 4, 2) := by decide +kernel
theorem dX9_weekOf_73 : decode cX9_weekOf 73 = .ok (.ireturn, 1) := by decide +kernel
theorem dX9_week_0 : decode cX9_week 0 = .ok (.aload_n 0, 1) := by decide +kernel
theorem dX9_week_1 : decode cX9_week 1 = .ok (.invokevirtual 196, 3) := by decide +kernel
theorem dX9_week_4 : decode cX9_week 4 = .ok (.iload_n 2, 1) := by decide +kernel
theorem dX9_week_5 : decode cX9_week 5 = .ok (.i2l, 1) := by decide +kernel
theorem dX9_week_6 : decode cX9_week 6 = .ok (.lconst 1, 1) := by decide +kernel
theorem dX9_week_7 : decode cX9_week 7 = .ok (.ldc2_w 280, 3) := by decide +kernel
theorem dX9_week_10 : decode cX9_week 10 = .ok (.invokestatic 69, 3) := by decide +kernel
theorem dX9_week_13 : decode cX9_week 13 = .ok (.ifCond .eq 20, 3) := by decide +kernel
theorem dX9_week_16 : decode cX9_week 16 = .ok (.iload_n 3, 1) := by decide +kernel
theorem dX9_week_17 : decode cX9_week 17 = .ok (.invokestatic 148, 3) := by decide +kernel
theorem dX9_week_20 : decode cX9_week 20 = .ok (.ifCond .eq 13, 3) := by decide +kernel
theorem dX9_week_23 : decode cX9_week 23 = .ok (.aload_n 0, 1) := by decide +kernel
theorem dX9_week_24 : decode cX9_week 24 = .ok (.iload_n 1, 1) := by decide +kernel
theorem dX9_week_25 : decode cX9_week 25 = .ok (.iload_n 2, 1) := by decide +kernel
theorem dX9_week_26 : decode cX9_week 26 = .ok (.iload_n 3, 1) := by decide +kernel
theorem dX9_week_27 : decode cX9_week 27 = .ok (.invokevirtual 282, 3) := by decide +kernel
theorem dX9_week_30 : decode cX9_week 30 = .ok (.goto 5, 3) := by decide +kernel
theorem dX9_week_33 : decode cX9_week 33 = .ok (.bipush (-2), 2) := by decide +kernel
theorem dX9_week_35 : decode cX9_week 35 = .ok (.ireturn, 1) := by decide +kernel
theorem dX9_write_0 : decode cX9_write 0 = .ok (.iload_n 1, 1) := by decide +kernel
theorem dX9_write_1 : decode cX9_write 1 = .ok (.invokestatic 79, 3) := by decide +kernel
theorem dX9_write_4 : decode cX9_write 4 = .ok (.ifCond .ne 6, 3) := by decide +kernel
theorem dX9_write_7 : decode cX9_write 7 = .ok (.bipush (-2), 2) := by decide +kernel
theorem dX9_write_9 : decode cX9_write 9 = .ok (.ireturn, 1) := by decide +kernel
theorem dX9_write_10 : decode cX9_write 10 = .ok (.aload_n 0, 1) := by decide +kernel
theorem dX9_write_11 : decode cX9_write 11 = .ok (.getfield 7, 3) := by decide +kernel
theorem dX9_write_14 : decode cX9_write 14 = .ok (.iload_n 1, 1) := by decide +kernel
theorem dX9_write_15 : decode cX9_write 15 = .ok (.iaload, 1) := by decide +kernel
theorem dX9_write_16 : decode cX9_write 16 = .ok (.ifCond .ge 9, 3) := by decide +kernel
theorem dX9_write_19 : decode cX9_write 19 = .ok (.aload_n 0, 1) := by decide +kernel
theorem dX9_write_20 : decode cX9_write 20 = .ok (.iconst 1, 1) := by decide +kernel
theorem dX9_write_21 : decode cX9_write 21 = .ok (.invokevirtual 85, 3) := by decide +kernel
theorem dX9_write_24 : decode cX9_write 24 = .ok (.ireturn, 1) := by decide +kernel
theorem dX9_write_25 : decode cX9_write 25 = .ok (.aload_n 0, 1) := by decide +kernel
theorem dX9_write_26 : decode cX9_write 26 = .ok (.invokevirtual 196, 3) := by decide +kernel
theorem dX9_write_29 : decode cX9_write 29 = .ok (.aload_n 0, 1) := by decide +kernel
theorem dX9_write_30 : decode cX9_write 30 = .ok (.getfield 13, 3) := by decide +kernel
theorem dX9_write_33 : decode cX9_write 33 = .ok (.iload_n 1, 1) := by decide +kernel
theorem dX9_write_34 : decode cX9_write 34 = .ok (.iaload, 1) := by decide +kernel
theorem dX9_write_35 : decode cX9_write 35 = .ok (.aload_n 0, 1) := by decide +kernel
theorem dX9_write_36 : decode cX9_write 36 = .ok (.getfield 121, 3) := by decide +kernel
theorem dX9_write_39 : decode cX9_write 39 = .ok (.iconst 1, 1) := by decide +kernel
theorem dX9_write_40 : decode cX9_write 40 = .ok (.iadd, 1) := by decide +kernel
theorem dX9_write_41 : decode cX9_write 41 = .ok (.invokestatic 285, 3) := by decide +kernel
theorem dX9_write_44 : decode cX9_write 44 = .ok (.istore_n 2, 1) := by decide +kernel
theorem dX9_write_45 : decode cX9_write 45 = .ok (.iconst 0, 1) := by decide +kernel
theorem dX9_write_46 : decode cX9_write 46 = .ok (.istore_n 3, 1) := by decide +kernel
theorem dX9_write_47 : decode cX9_write 47 = .ok (.iload_n 3, 1) := by decide +kernel
theorem dX9_write_48 : decode cX9_write 48 = .ok (.iload_n 2, 1) := by decide +kernel
theorem dX9_write_49 : decode cX9_write 49 = .ok (.if_icmp .ge 35, 3) := by decide +kernel
theorem dX9_write_52 : decode cX9_write 52 = .ok (.aload_n 0, 1) := by decide +kernel
theorem dX9_write_53 : decode cX9_write 53 = .ok (.getfield 16, 3) := by decide +kernel
theorem dX9_write_56 : decode cX9_write 56 = .ok (.bipush 60, 2) := by decide +kernel
theorem dX9_write_58 : decode cX9_write 58 = .ok (.iload_n 1, 1) := by decide +kernel
theorem dX9_write_59 : decode cX9_write 59 = .ok (.imul, 1) := by decide +kernel
theorem dX9_write_60 : decode cX9_write 60 = .ok (.iload_n 3, 1) := by decide +kernel
theorem dX9_write_61 : decode cX9_write 61 = .ok (.iadd, 1) := by decide +kernel
theorem dX9_write_62 : decode cX9_write 62 = .ok (.aload_n 0, 1) := by decide +kernel
theorem dX9_write_63 : decode cX9_write 63 = .ok (.getfield 7, 3) := by decide +kernel
theorem dX9_write_66 : decode cX9_write 66 = .ok (.iload_n 1, 1) := by decide +kernel
theorem dX9_write_67 : decode cX9_write 67 = .ok (.iaload, 1) := by decide +kernel
theorem dX9_write_68 : decode cX9_write 68 = .ok (.aload_n 0, 1) := by decide +kernel
theorem dX9_write_69 : decode cX9_write 69 = .ok (.getfield 43, 3) := by decide +kernel
theorem dX9_write_72 : decode cX9_write 72 = .ok (.iload_n 3, 1) := by decide +kernel
theorem dX9_write_73 : decode cX9_write 73 = .ok (.iaload, 1) := by decide +kernel
theorem dX9_write_74 : decode cX9_write 74 = .ok (.invokestatic 93, 3) := by decide +kernel
theorem dX9_write_77 : decode cX9_write 77 = .ok (.iastore, 1) := by decide +kernel
theorem dX9_write_78 : decode cX9_write 78 = .ok (.iinc 3 1, 3) := by decide +kernel
theorem dX9_write_81 : decode cX9_write 81 = .ok (.goto (-34), 3) := by decide +kernel
theorem dX9_write_84 : decode cX9_write 84 = .ok (.iload_n 2, 1) := by decide +kernel
theorem dX9_write_85 : decode cX9_write 85 = .ok (.ireturn, 1) := by decide +kernel
theorem dX9_count_0 : decode cX9_count 0 = .ok (.aload_n 0, 1) := by decide +kernel
theorem dX9_count_1 : decode cX9_count 1 = .ok (.invokevirtual 196, 3) := by decide +kernel
theorem dX9_count_4 : decode cX9_count 4 = .ok (.iload_n 1, 1) := by decide +kernel
theorem dX9_count_5 : decode cX9_count 5 = .ok (.tableswitch 94 0 8 #[51, 56, 61, 66, 66, 66, 75, 84, 89], 51) := by decide +kernel
theorem dX9_count_56 : decode cX9_count 56 = .ok (.aload_n 0, 1) := by decide +kernel
theorem dX9_count_57 : decode cX9_count 57 = .ok (.getfield 103, 3) := by decide +kernel
theorem dX9_count_60 : decode cX9_count 60 = .ok (.ireturn, 1) := by decide +kernel
theorem dX9_count_61 : decode cX9_count 61 = .ok (.aload_n 0, 1) := by decide +kernel
theorem dX9_count_62 : decode cX9_count 62 = .ok (.getfield 115, 3) := by decide +kernel
theorem dX9_count_65 : decode cX9_count 65 = .ok (.ireturn, 1) := by decide +kernel
theorem dX9_count_66 : decode cX9_count 66 = .ok (.aload_n 0, 1) := by decide +kernel
theorem dX9_count_67 : decode cX9_count 67 = .ok (.getfield 121, 3) := by decide +kernel
theorem dX9_count_70 : decode cX9_count 70 = .ok (.ireturn, 1) := by decide +kernel
theorem dX9_count_71 : decode cX9_count 71 = .ok (.aload_n 0, 1) := by decide +kernel
theorem dX9_count_72 : decode cX9_count 72 = .ok (.getfield 25, 3) := by decide +kernel
theorem dX9_count_75 : decode cX9_count 75 = .ok (.iload_n 1, 1) := by decide +kernel
theorem dX9_count_76 : decode cX9_count 76 = .ok (.iconst 3, 1) := by decide +kernel
theorem dX9_count_77 : decode cX9_count 77 = .ok (.isub, 1) := by decide +kernel
theorem dX9_count_78 : decode cX9_count 78 = .ok (.iaload, 1) := by decide +kernel
theorem dX9_count_79 : decode cX9_count 79 = .ok (.ireturn, 1) := by decide +kernel
theorem dX9_count_80 : decode cX9_count 80 = .ok (.aload_n 0, 1) := by decide +kernel
theorem dX9_count_81 : decode cX9_count 81 = .ok (.aload_n 0, 1) := by decide +kernel
theorem dX9_count_82 : decode cX9_count 82 = .ok (.getfield 121, 3) := by decide +kernel
theorem dX9_count_85 : decode cX9_count 85 = .ok (.invokevirtual 205, 3) := by decide +kernel
theorem dX9_count_88 : decode cX9_count 88 = .ok (.ireturn, 1) := by decide +kernel
theorem dX9_count_89 : decode cX9_count 89 = .ok (.aload_n 0, 1) := by decide +kernel
theorem dX9_count_90 : decode cX9_count 90 = .ok (.getfield 241, 3) := by decide +kernel
theorem dX9_count_93 : decode cX9_count 93 = .ok (.ireturn, 1) := by decide +kernel
theorem dX9_count_94 : decode cX9_count 94 = .ok (.aload_n 0, 1) := by decide +kernel
theorem dX9_count_95 : decode cX9_count 95 = .ok (.getfield 73, 3) := by decide +kernel
theorem dX9_count_98 : decode cX9_count 98 = .ok (.ireturn, 1) := by decide +kernel
theorem dX9_count_99 : decode cX9_count 99 = .ok (.bipush (-2), 2) := by decide +kernel
theorem dX9_count_101 : decode cX9_count 101 = .ok (.ireturn, 1) := by decide +kernel
theorem dX9_tellsCrosser_0 : decode cX9_tellsCrosser 0 = .ok (.aload_n 0, 1) := by decide +kernel
theorem dX9_tellsCrosser_1 : decode cX9_tellsCrosser 1 = .ok (.invokevirtual 193, 3) := by decide +kernel
theorem dX9_tellsCrosser_4 : decode cX9_tellsCrosser 4 = .ok (.lload_n 1, 1) := by decide +kernel
theorem dX9_tellsCrosser_5 : decode cX9_tellsCrosser 5 = .ok (.lstore 4, 2) := by decide +kernel
theorem dX9_tellsCrosser_7 : decode cX9_tellsCrosser 7 = .ok (.iconst 0, 1) := by decide +kernel
theorem dX9_tellsCrosser_8 : decode cX9_tellsCrosser 8 = .ok (.istore 6, 2) := by decide +kernel
theorem dX9_tellsCrosser_10 : decode cX9_tellsCrosser 10 = .ok (.iload 6, 2) := by decide +kernel
theorem dX9_tellsCrosser_12 : decode cX9_tellsCrosser 12 = .ok (.iconst 4, 1) := by decide +kernel
theorem dX9_tellsCrosser_13 : decode cX9_tellsCrosser 13 = .ok (.if_icmp .ge 30, 3) := by decide +kernel
theorem dX9_tellsCrosser_16 : decode cX9_tellsCrosser 16 = .ok (.ldc2_w 288, 3) := by decide +kernel
theorem dX9_tellsCrosser_19 : decode cX9_tellsCrosser 19 = .ok (.lload 4, 2) := by decide +kernel
theorem dX9_tellsCrosser_21 : decode cX9_tellsCrosser 21 = .ok (.lmul, 1) := by decide +kernel
theorem dX9_tellsCrosser_22 : decode cX9_tellsCrosser 22 = .ok (.aload_n 0, 1) := by decide +kernel
theorem dX9_tellsCrosser_23 : decode cX9_tellsCrosser 23 = .ok (.getfield 31, 3) := by decide +kernel
theorem dX9_tellsCrosser_26 : decode cX9_tellsCrosser 26 = .ok (.iconst 4, 1) := by decide +kernel
theorem dX9_tellsCrosser_27 : decode cX9_tellsCrosser 27 = .ok (.iload_n 3, 1) := by decide +kernel
theorem dX9_tellsCrosser_28 : decode cX9_tellsCrosser 28 = .ok (.imul, 1) := by decide +kernel
theorem dX9_tellsCrosser_29 : decode cX9_tellsCrosser 29 = .ok (.iload 6, 2) := by decide +kernel
theorem dX9_tellsCrosser_31 : decode cX9_tellsCrosser 31 = .ok (.iadd, 1) := by decide +kernel
theorem dX9_tellsCrosser_32 : decode cX9_tellsCrosser 32 = .ok (.iaload, 1) := by decide +kernel
theorem dX9_tellsCrosser_33 : decode cX9_tellsCrosser 33 = .ok (.i2l, 1) := by decide +kernel
theorem dX9_tellsCrosser_34 : decode cX9_tellsCrosser 34 = .ok (.ladd, 1) := by decide +kernel
theorem dX9_tellsCrosser_35 : decode cX9_tellsCrosser 35 = .ok (.lstore 4, 2) := by decide +kernel
theorem dX9_tellsCrosser_37 : decode cX9_tellsCrosser 37 = .ok (.iinc 6 1, 3) := by decide +kernel
theorem dX9_tellsCrosser_40 : decode cX9_tellsCrosser 40 = .ok (.goto (-30), 3) := by decide +kernel
theorem dX9_tellsCrosser_43 : decode cX9_tellsCrosser 43 = .ok (.ldc2_w 288, 3) := by decide +kernel
theorem dX9_tellsCrosser_46 : decode cX9_tellsCrosser 46 = .ok (.lload 4, 2) := by decide +kernel
theorem dX9_tellsCrosser_48 : decode cX9_tellsCrosser 48 = .ok (.lmul, 1) := by decide +kernel
theorem dX9_tellsCrosser_49 : decode cX9_tellsCrosser 49 = .ok (.aload_n 0, 1) := by decide +kernel
theorem dX9_tellsCrosser_50 : decode cX9_tellsCrosser 50 = .ok (.iload_n 3, 1) := by decide +kernel
theorem dX9_tellsCrosser_51 : decode cX9_tellsCrosser 51 = .ok (.iconst 0, 1) := by decide +kernel
theorem dX9_tellsCrosser_52 : decode cX9_tellsCrosser 52 = .ok (.invokevirtual 202, 3) := by decide +kernel
theorem dX9_tellsCrosser_55 : decode cX9_tellsCrosser 55 = .ok (.i2l, 1) := by decide +kernel
theorem dX9_tellsCrosser_56 : decode cX9_tellsCrosser 56 = .ok (.ladd, 1) := by decide +kernel
theorem dX9_tellsCrosser_57 : decode cX9_tellsCrosser 57 = .ok (.lstore 4, 2) := by decide +kernel
theorem dX9_tellsCrosser_59 : decode cX9_tellsCrosser 59 = .ok (.ldc2_w 288, 3) := by decide +kernel
theorem dX9_tellsCrosser_62 : decode cX9_tellsCrosser 62 = .ok (.lload 4, 2) := by decide +kernel
theorem dX9_tellsCrosser_64 : decode cX9_tellsCrosser 64 = .ok (.lmul, 1) := by decide +kernel
theorem dX9_tellsCrosser_65 : decode cX9_tellsCrosser 65 = .ok (.aload_n 0, 1) := by decide +kernel
theorem dX9_tellsCrosser_66 : decode cX9_tellsCrosser 66 = .ok (.iload_n 3, 1) := by decide +kernel
theorem dX9_tellsCrosser_67 : decode cX9_tellsCrosser 67 = .ok (.iconst 1, 1) := by decide +kernel
theorem dX9_tellsCrosser_68 : decode cX9_tellsCrosser 68 = .ok (.invokevirtual 202, 3) := by decide +kernel
theorem dX9_tellsCrosser_71 : decode cX9_tellsCrosser 71 = .ok (.i2l, 1) := by decide +kernel
theorem dX9_tellsCrosser_72 : decode cX9_tellsCrosser 72 = .ok (.ladd, 1) := by decide +kernel
theorem dX9_tellsCrosser_73 : decode cX9_tellsCrosser 73 = .ok (.lstore 4, 2) := by decide +kernel
theorem dX9_tellsCrosser_75 : decode cX9_tellsCrosser 75 = .ok (.ldc2_w 288, 3) := by decide +kernel
theorem dX9_tellsCrosser_78 : decode cX9_tellsCrosser 78 = .ok (.lload 4, 2) := by decide +kernel
theorem dX9_tellsCrosser_80 : decode cX9_tellsCrosser 80 = .ok (.lmul, 1) := by decide +kernel
theorem dX9_tellsCrosser_81 : decode cX9_tellsCrosser 81 = .ok (.aload_n 0, 1) := by decide +kernel
theorem dX9_tellsCrosser_82 : decode cX9_tellsCrosser 82 = .ok (.iload_n 3, 1) := by decide +kernel
theorem dX9_tellsCrosser_83 : decode cX9_tellsCrosser 83 = .ok (.invokevirtual 233, 3) := by decide +kernel
theorem dX9_tellsCrosser_86 : decode cX9_tellsCrosser 86 = .ok (.i2l, 1) := by decide +kernel
theorem dX9_tellsCrosser_87 : decode cX9_tellsCrosser 87 = .ok (.ladd, 1) := by decide +kernel
theorem dX9_tellsCrosser_88 : decode cX9_tellsCrosser 88 = .ok (.lstore 4, 2) := by decide +kernel
theorem dX9_tellsCrosser_90 : decode cX9_tellsCrosser 90 = .ok (.ldc2_w 288, 3) := by decide +kernel
theorem dX9_tellsCrosser_93 : decode cX9_tellsCrosser 93 = .ok (.lload 4, 2) := by decide +kernel
theorem dX9_tellsCrosser_95 : decode cX9_tellsCrosser 95 = .ok (.lmul, 1) := by decide +kernel
theorem dX9_tellsCrosser_96 : decode cX9_tellsCrosser 96 = .ok (.aload_n 0, 1) := by decide +kernel
theorem dX9_tellsCrosser_97 : decode cX9_tellsCrosser 97 = .ok (.iload_n 3, 1) := by decide +kernel
theorem dX9_tellsCrosser_98 : decode cX9_tellsCrosser 98 = .ok (.iconst 0, 1) := by decide +kernel
theorem dX9_tellsCrosser_99 : decode cX9_tellsCrosser 99 = .ok (.invokevirtual 290, 3) := by decide +kernel
theorem dX9_tellsCrosser_102 : decode cX9_tellsCrosser 102 = .ok (.i2l, 1) := by decide +kernel
theorem dX9_tellsCrosser_103 : decode cX9_tellsCrosser 103 = .ok (.ladd, 1) := by decide +kernel
theorem dX9_tellsCrosser_104 : decode cX9_tellsCrosser 104 = .ok (.lreturn, 1) := by decide +kernel
theorem dX9_digest_0 : decode cX9_digest 0 = .ok (.ldc2_w 293, 3) := by decide +kernel
theorem dX9_digest_3 : decode cX9_digest 3 = .ok (.lstore_n 1, 1) := by decide +kernel
theorem dX9_digest_4 : decode cX9_digest 4 = .ok (.iconst 0, 1) := by decide +kernel
theorem dX9_digest_5 : decode cX9_digest 5 = .ok (.istore_n 3, 1) := by decide +kernel
theorem dX9_digest_6 : decode cX9_digest 6 = .ok (.iload_n 3, 1) := by decide +kernel
theorem dX9_digest_7 : decode cX9_digest 7 = .ok (.bipush 8, 2) := by decide +kernel
theorem dX9_digest_9 : decode cX9_digest 9 = .ok (.if_icmp .ge 22, 3) := by decide +kernel
theorem dX9_digest_12 : decode cX9_digest 12 = .ok (.ldc2_w 288, 3) := by decide +kernel
theorem dX9_digest_15 : decode cX9_digest 15 = .ok (.lload_n 1, 1) := by decide +kernel
theorem dX9_digest_16 : decode cX9_digest 16 = .ok (.lmul, 1) := by decide +kernel
theorem dX9_digest_17 : decode cX9_digest 17 = .ok (.aload_n 0, 1) := by decide +kernel
theorem dX9_digest_18 : decode cX9_digest 18 = .ok (.iload_n 3, 1) := by decide +kernel
theorem dX9_digest_19 : decode cX9_digest 19 = .ok (.invokevirtual 295, 3) := by decide +kernel
theorem dX9_digest_22 : decode cX9_digest 22 = .ok (.i2l, 1) := by decide +kernel
theorem dX9_digest_23 : decode cX9_digest 23 = .ok (.ladd, 1) := by decide +kernel
theorem dX9_digest_24 : decode cX9_digest 24 = .ok (.lstore_n 1, 1) := by decide +kernel
theorem dX9_digest_25 : decode cX9_digest 25 = .ok (.iinc 3 1, 3) := by decide +kernel
theorem dX9_digest_28 : decode cX9_digest 28 = .ok (.goto (-22), 3) := by decide +kernel
theorem dX9_digest_31 : decode cX9_digest 31 = .ok (.iconst 0, 1) := by decide +kernel
theorem dX9_digest_32 : decode cX9_digest 32 = .ok (.istore_n 3, 1) := by decide +kernel
theorem dX9_digest_33 : decode cX9_digest 33 = .ok (.iload_n 3, 1) := by decide +kernel
theorem dX9_digest_34 : decode cX9_digest 34 = .ok (.iconst 3, 1) := by decide +kernel
theorem dX9_digest_35 : decode cX9_digest 35 = .ok (.if_icmp .ge 22, 3) := by decide +kernel
theorem dX9_digest_38 : decode cX9_digest 38 = .ok (.ldc2_w 288, 3) := by decide +kernel
theorem dX9_digest_41 : decode cX9_digest 41 = .ok (.lload_n 1, 1) := by decide +kernel
theorem dX9_digest_42 : decode cX9_digest 42 = .ok (.lmul, 1) := by decide +kernel
theorem dX9_digest_43 : decode cX9_digest 43 = .ok (.aload_n 0, 1) := by decide +kernel
theorem dX9_digest_44 : decode cX9_digest 44 = .ok (.iload_n 3, 1) := by decide +kernel
theorem dX9_digest_45 : decode cX9_digest 45 = .ok (.invokevirtual 138, 3) := by decide +kernel
theorem dX9_digest_48 : decode cX9_digest 48 = .ok (.i2l, 1) := by decide +kernel
theorem dX9_digest_49 : decode cX9_digest 49 = .ok (.ladd, 1) := by decide +kernel
theorem dX9_digest_50 : decode cX9_digest 50 = .ok (.lstore_n 1, 1) := by decide +kernel
theorem dX9_digest_51 : decode cX9_digest 51 = .ok (.iinc 3 1, 3) := by decide +kernel
theorem dX9_digest_54 : decode cX9_digest 54 = .ok (.goto (-21), 3) := by decide +kernel
theorem dX9_digest_57 : decode cX9_digest 57 = .ok (.iconst 0, 1) := by decide +kernel
theorem dX9_digest_58 : decode cX9_digest 58 = .ok (.istore_n 3, 1) := by decide +kernel
theorem dX9_digest_59 : decode cX9_digest 59 = .ok (.iload_n 3, 1) := by decide +kernel
theorem dX9_digest_60 : decode cX9_digest 60 = .ok (.aload_n 0, 1) := by decide +kernel
theorem dX9_digest_61 : decode cX9_digest 61 = .ok (.getfield 103, 3) := by decide +kernel
theorem dX9_digest_64 : decode cX9_digest 64 = .ok (.if_icmp .ge 51, 3) := by decide +kernel
theorem dX9_digest_67 : decode cX9_digest 67 = .ok (.ldc2_w 288, 3) := by decide +kernel
theorem dX9_digest_70 : decode cX9_digest 70 = .ok (.lload_n 1, 1) := by decide +kernel
theorem dX9_digest_71 : decode cX9_digest 71 = .ok (.lmul, 1) := by decide +kernel
theorem dX9_digest_72 : decode cX9_digest 72 = .ok (.aload_n 0, 1) := by decide +kernel
theorem dX9_digest_73 : decode cX9_digest 73 = .ok (.getfield 28, 3) := by decide +kernel
theorem dX9_digest_76 : decode cX9_digest 76 = .ok (.iload_n 3, 1) := by decide +kernel
theorem dX9_digest_77 : decode cX9_digest 77 = .ok (.iaload, 1) := by decide +kernel
theorem dX9_digest_78 : decode cX9_digest 78 = .ok (.i2l, 1) := by decide +kernel
theorem dX9_digest_79 : decode cX9_digest 79 = .ok (.ladd, 1) := by decide +kernel
theorem dX9_digest_80 : decode cX9_digest 80 = .ok (.lstore_n 1, 1) := by decide +kernel
theorem dX9_digest_81 : decode cX9_digest 81 = .ok (.ldc2_w 288, 3) := by decide +kernel
theorem dX9_digest_84 : decode cX9_digest 84 = .ok (.lload_n 1, 1) := by decide +kernel
theorem dX9_digest_85 : decode cX9_digest 85 = .ok (.lmul, 1) := by decide +kernel
theorem dX9_digest_86 : decode cX9_digest 86 = .ok (.aload_n 0, 1) := by decide +kernel
theorem dX9_digest_87 : decode cX9_digest 87 = .ok (.iconst 5, 1) := by decide +kernel
theorem dX9_digest_88 : decode cX9_digest 88 = .ok (.iload_n 3, 1) := by decide +kernel
theorem dX9_digest_89 : decode cX9_digest 89 = .ok (.iconst 0, 1) := by decide +kernel
theorem dX9_digest_90 : decode cX9_digest 90 = .ok (.invokevirtual 298, 3) := by decide +kernel
theorem dX9_digest_93 : decode cX9_digest 93 = .ok (.ladd, 1) := by decide +kernel
theorem dX9_digest_94 : decode cX9_digest 94 = .ok (.lstore_n 1, 1) := by decide +kernel
theorem dX9_digest_95 : decode cX9_digest 95 = .ok (.ldc2_w 288, 3) := by decide +kernel
theorem dX9_digest_98 : decode cX9_digest 98 = .ok (.lload_n 1, 1) := by decide +kernel
theorem dX9_digest_99 : decode cX9_digest 99 = .ok (.lmul, 1) := by decide +kernel
theorem dX9_digest_100 : decode cX9_digest 100 = .ok (.aload_n 0, 1) := by decide +kernel
theorem dX9_digest_101 : decode cX9_digest 101 = .ok (.iconst 5, 1) := by decide +kernel
theorem dX9_digest_102 : decode cX9_digest 102 = .ok (.iload_n 3, 1) := by decide +kernel
theorem dX9_digest_103 : decode cX9_digest 103 = .ok (.iconst 1, 1) := by decide +kernel
theorem dX9_digest_104 : decode cX9_digest 104 = .ok (.invokevirtual 298, 3) := by decide +kernel
theorem dX9_digest_107 : decode cX9_digest 107 = .ok (.ladd, 1) := by decide +kernel
theorem dX9_digest_108 : decode cX9_digest 108 = .ok (.lstore_n 1, 1) := by decide +kernel
theorem dX9_digest_109 : decode cX9_digest 109 = .ok (.iinc 3 1, 3) := by decide +kernel
theorem dX9_digest_112 : decode cX9_digest 112 = .ok (.goto (-53), 3) := by decide +kernel
theorem dX9_digest_115 : decode cX9_digest 115 = .ok (.iconst 0, 1) := by decide +kernel
theorem dX9_digest_116 : decode cX9_digest 116 = .ok (.istore_n 3, 1) := by decide +kernel
theorem dX9_digest_117 : decode cX9_digest 117 = .ok (.iload_n 3, 1) := by decide +kernel
theorem dX9_digest_118 : decode cX9_digest 118 = .ok (.aload_n 0, 1) := by decide +kernel
theorem dX9_digest_119 : decode cX9_digest 119 = .ok (.getfield 115, 3) := by decide +kernel
theorem dX9_digest_122 : decode cX9_digest 122 = .ok (.if_icmp .ge 16, 3) := by decide +kernel
theorem dX9_digest_125 : decode cX9_digest 125 = .ok (.aload_n 0, 1) := by decide +kernel
theorem dX9_digest_126 : decode cX9_digest 126 = .ok (.lload_n 1, 1) := by decide +kernel
theorem dX9_digest_127 : decode cX9_digest 127 = .ok (.iload_n 3, 1) := by decide +kernel
theorem dX9_digest_128 : decode cX9_digest 128 = .ok (.invokevirtual 301, 3) := by decide +kernel
theorem dX9_digest_131 : decode cX9_digest 131 = .ok (.lstore_n 1, 1) := by decide +kernel
theorem dX9_digest_132 : decode cX9_digest 132 = .ok (.iinc 3 1, 3) := by decide +kernel
theorem dX9_digest_135 : decode cX9_digest 135 = .ok (.goto (-18), 3) := by decide +kernel
theorem dX9_digest_138 : decode cX9_digest 138 = .ok (.aload_n 0, 1) := by decide +kernel
theorem dX9_digest_139 : decode cX9_digest 139 = .ok (.invokevirtual 193, 3) := by decide +kernel
theorem dX9_digest_142 : decode cX9_digest 142 = .ok (.iconst 0, 1) := by decide +kernel
theorem dX9_digest_143 : decode cX9_digest 143 = .ok (.istore_n 3, 1) := by decide +kernel
theorem dX9_digest_144 : decode cX9_digest 144 = .ok (.iload_n 3, 1) := by decide +kernel
theorem dX9_digest_145 : decode cX9_digest 145 = .ok (.aload_n 0, 1) := by decide +kernel
theorem dX9_digest_146 : decode cX9_digest 146 = .ok (.getfield 121, 3) := by decide +kernel
theorem dX9_digest_149 : decode cX9_digest 149 = .ok (.if_icmp .ge 53, 3) := by decide +kernel
theorem dX9_digest_152 : decode cX9_digest 152 = .ok (.ldc2_w 288, 3) := by decide +kernel
theorem dX9_digest_155 : decode cX9_digest 155 = .ok (.lload_n 1, 1) := by decide +kernel
theorem dX9_digest_156 : decode cX9_digest 156 = .ok (.lmul, 1) := by decide +kernel
theorem dX9_digest_157 : decode cX9_digest 157 = .ok (.aload_n 0, 1) := by decide +kernel
theorem dX9_digest_158 : decode cX9_digest 158 = .ok (.getfield 34, 3) := by decide +kernel
theorem dX9_digest_161 : decode cX9_digest 161 = .ok (.iload_n 3, 1) := by decide +kernel
theorem dX9_digest_162 : decode cX9_digest 162 = .ok (.iaload, 1) := by decide +kernel
theorem dX9_digest_163 : decode cX9_digest 163 = .ok (.i2l, 1) := by decide +kernel
theorem dX9_digest_164 : decode cX9_digest 164 = .ok (.ladd, 1) := by decide +kernel
theorem dX9_digest_165 : decode cX9_digest 165 = .ok (.lstore_n 1, 1) := by decide +kernel
theorem dX9_digest_166 : decode cX9_digest 166 = .ok (.iconst 0, 1) := by decide +kernel
theorem dX9_digest_167 : decode cX9_digest 167 = .ok (.istore 4, 2) := by decide +kernel
theorem dX9_digest_169 : decode cX9_digest 169 = .ok (.iload 4, 2) := by decide +kernel
theorem dX9_digest_171 : decode cX9_digest 171 = .ok (.iconst 3, 1) := by decide +kernel
theorem dX9_digest_172 : decode cX9_digest 172 = .ok (.if_icmp .ge 24, 3) := by decide +kernel
theorem dX9_digest_175 : decode cX9_digest 175 = .ok (.ldc2_w 288, 3) := by decide +kernel
theorem dX9_digest_178 : decode cX9_digest 178 = .ok (.lload_n 1, 1) := by decide +kernel
theorem dX9_digest_179 : decode cX9_digest 179 = .ok (.lmul, 1) := by decide +kernel
theorem dX9_digest_180 : decode cX9_digest 180 = .ok (.aload_n 0, 1) := by decide +kernel
theorem dX9_digest_181 : decode cX9_digest 181 = .ok (.iload_n 3, 1) := by decide +kernel
theorem dX9_digest_182 : decode cX9_digest 182 = .ok (.iload 4, 2) := by decide +kernel
theorem dX9_digest_184 : decode cX9_digest 184 = .ok (.invokevirtual 199, 3) := by decide +kernel
theorem dX9_digest_187 : decode cX9_digest 187 = .ok (.i2l, 1) := by decide +kernel
theorem dX9_digest_188 : decode cX9_digest 188 = .ok (.ladd, 1) := by decide +kernel
theorem dX9_digest_189 : decode cX9_digest 189 = .ok (.lstore_n 1, 1) := by decide +kernel
theorem dX9_digest_190 : decode cX9_digest 190 = .ok (.iinc 4 1, 3) := by decide +kernel
theorem dX9_digest_193 : decode cX9_digest 193 = .ok (.goto (-24), 3) := by decide +kernel
theorem dX9_digest_196 : decode cX9_digest 196 = .ok (.iinc 3 1, 3) := by decide +kernel
theorem dX9_digest_199 : decode cX9_digest 199 = .ok (.goto (-55), 3) := by decide +kernel
theorem dX9_digest_202 : decode cX9_digest 202 = .ok (.iconst 0, 1) := by decide +kernel
theorem dX9_digest_203 : decode cX9_digest 203 = .ok (.istore_n 3, 1) := by decide +kernel
theorem dX9_digest_204 : decode cX9_digest 204 = .ok (.iload_n 3, 1) := by decide +kernel
theorem dX9_digest_205 : decode cX9_digest 205 = .ok (.aload_n 0, 1) := by decide +kernel
theorem dX9_digest_206 : decode cX9_digest 206 = .ok (.getfield 121, 3) := by decide +kernel
theorem dX9_digest_209 : decode cX9_digest 209 = .ok (.if_icmp .gt 36, 3) := by decide +kernel
theorem dX9_digest_212 : decode cX9_digest 212 = .ok (.ldc2_w 288, 3) := by decide +kernel
theorem dX9_digest_215 : decode cX9_digest 215 = .ok (.lload_n 1, 1) := by decide +kernel
theorem dX9_digest_216 : decode cX9_digest 216 = .ok (.lmul, 1) := by decide +kernel
theorem dX9_digest_217 : decode cX9_digest 217 = .ok (.aload_n 0, 1) := by decide +kernel
theorem dX9_digest_218 : decode cX9_digest 218 = .ok (.getfield 43, 3) := by decide +kernel
theorem dX9_digest_221 : decode cX9_digest 221 = .ok (.iload_n 3, 1) := by decide +kernel
theorem dX9_digest_222 : decode cX9_digest 222 = .ok (.iaload, 1) := by decide +kernel
theorem dX9_digest_223 : decode cX9_digest 223 = .ok (.i2l, 1) := by decide +kernel
theorem dX9_digest_224 : decode cX9_digest 224 = .ok (.ladd, 1) := by decide +kernel
theorem dX9_digest_225 : decode cX9_digest 225 = .ok (.lstore_n 1, 1) := by decide +kernel
theorem dX9_digest_226 : decode cX9_digest 226 = .ok (.ldc2_w 288, 3) := by decide +kernel
theorem dX9_digest_229 : decode cX9_digest 229 = .ok (.lload_n 1, 1) := by decide +kernel
theorem dX9_digest_230 : decode cX9_digest 230 = .ok (.lmul, 1) := by decide +kernel
theorem dX9_digest_231 : decode cX9_digest 231 = .ok (.aload_n 0, 1) := by decide +kernel
theorem dX9_digest_232 : decode cX9_digest 232 = .ok (.iload_n 3, 1) := by decide +kernel
theorem dX9_digest_233 : decode cX9_digest 233 = .ok (.invokevirtual 205, 3) := by decide +kernel
theorem dX9_digest_236 : decode cX9_digest 236 = .ok (.i2l, 1) := by decide +kernel
theorem dX9_digest_237 : decode cX9_digest 237 = .ok (.ladd, 1) := by decide +kernel
theorem dX9_digest_238 : decode cX9_digest 238 = .ok (.lstore_n 1, 1) := by decide +kernel
theorem dX9_digest_239 : decode cX9_digest 239 = .ok (.iinc 3 1, 3) := by decide +kernel
theorem dX9_digest_242 : decode cX9_digest 242 = .ok (.goto (-38), 3) := by decide +kernel
theorem dX9_digest_245 : decode cX9_digest 245 = .ok (.ldc2_w 288, 3) := by decide +kernel
theorem dX9_digest_248 : decode cX9_digest 248 = .ok (.lload_n 1, 1) := by decide +kernel
theorem dX9_digest_249 : decode cX9_digest 249 = .ok (.lmul, 1) := by decide +kernel
theorem dX9_digest_250 : decode cX9_digest 250 = .ok (.aload_n 0, 1) := by decide +kernel
theorem dX9_digest_251 : decode cX9_digest 251 = .ok (.invokevirtual 208, 3) := by decide +kernel
theorem dX9_digest_254 : decode cX9_digest 254 = .ok (.i2l, 1) := by decide +kernel
theorem dX9_digest_255 : decode cX9_digest 255 = .ok (.ladd, 1) := by decide +kernel
theorem dX9_digest_256 : decode cX9_digest 256 = .ok (.lstore_n 1, 1) := by decide +kernel
theorem dX9_digest_257 : decode cX9_digest 257 = .ok (.ldc2_w 288, 3) := by decide +kernel
theorem dX9_digest_260 : decode cX9_digest 260 = .ok (.lload_n 1, 1) := by decide +kernel
theorem dX9_digest_261 : decode cX9_digest 261 = .ok (.lmul, 1) := by decide +kernel
theorem dX9_digest_262 : decode cX9_digest 262 = .ok (.aload_n 0, 1) := by decide +kernel
theorem dX9_digest_263 : decode cX9_digest 263 = .ok (.invokevirtual 211, 3) := by decide +kernel
theorem dX9_digest_266 : decode cX9_digest 266 = .ok (.i2l, 1) := by decide +kernel
theorem dX9_digest_267 : decode cX9_digest 267 = .ok (.ladd, 1) := by decide +kernel
theorem dX9_digest_268 : decode cX9_digest 268 = .ok (.lstore_n 1, 1) := by decide +kernel
theorem dX9_digest_269 : decode cX9_digest 269 = .ok (.aload_n 0, 1) := by decide +kernel
theorem dX9_digest_270 : decode cX9_digest 270 = .ok (.invokevirtual 227, 3) := by decide +kernel
theorem dX9_digest_273 : decode cX9_digest 273 = .ok (.iconst 0, 1) := by decide +kernel
theorem dX9_digest_274 : decode cX9_digest 274 = .ok (.istore_n 3, 1) := by decide +kernel
theorem dX9_digest_275 : decode cX9_digest 275 = .ok (.iload_n 3, 1) := by decide +kernel
theorem dX9_digest_276 : decode cX9_digest 276 = .ok (.iconst 4, 1) := by decide +kernel
theorem dX9_digest_277 : decode cX9_digest 277 = .ok (.if_icmp .ge 22, 3) := by decide +kernel
theorem dX9_digest_280 : decode cX9_digest 280 = .ok (.ldc2_w 288, 3) := by decide +kernel
theorem dX9_digest_283 : decode cX9_digest 283 = .ok (.lload_n 1, 1) := by decide +kernel
theorem dX9_digest_284 : decode cX9_digest 284 = .ok (.lmul, 1) := by decide +kernel
theorem dX9_digest_285 : decode cX9_digest 285 = .ok (.aload_n 0, 1) := by decide +kernel
theorem dX9_digest_286 : decode cX9_digest 286 = .ok (.iload_n 3, 1) := by decide +kernel
theorem dX9_digest_287 : decode cX9_digest 287 = .ok (.invokevirtual 230, 3) := by decide +kernel
theorem dX9_digest_290 : decode cX9_digest 290 = .ok (.i2l, 1) := by decide +kernel
theorem dX9_digest_291 : decode cX9_digest 291 = .ok (.ladd, 1) := by decide +kernel
theorem dX9_digest_292 : decode cX9_digest 292 = .ok (.lstore_n 1, 1) := by decide +kernel
theorem dX9_digest_293 : decode cX9_digest 293 = .ok (.iinc 3 1, 3) := by decide +kernel
theorem dX9_digest_296 : decode cX9_digest 296 = .ok (.goto (-21), 3) := by decide +kernel
theorem dX9_digest_299 : decode cX9_digest 299 = .ok (.iconst 0, 1) := by decide +kernel
theorem dX9_digest_300 : decode cX9_digest 300 = .ok (.istore_n 3, 1) := by decide +kernel
theorem dX9_digest_301 : decode cX9_digest 301 = .ok (.iload_n 3, 1) := by decide +kernel
theorem dX9_digest_302 : decode cX9_digest 302 = .ok (.iconst 4, 1) := by decide +kernel
theorem dX9_digest_303 : decode cX9_digest 303 = .ok (.if_icmp .ge 22, 3) := by decide +kernel
theorem dX9_digest_306 : decode cX9_digest 306 = .ok (.ldc2_w 288, 3) := by decide +kernel
theorem dX9_digest_309 : decode cX9_digest 309 = .ok (.lload_n 1, 1) := by decide +kernel
theorem dX9_digest_310 : decode cX9_digest 310 = .ok (.lmul, 1) := by decide +kernel
theorem dX9_digest_311 : decode cX9_digest 311 = .ok (.aload_n 0, 1) := by decide +kernel
theorem dX9_digest_312 : decode cX9_digest 312 = .ok (.iload_n 3, 1) := by decide +kernel
theorem dX9_digest_313 : decode cX9_digest 313 = .ok (.invokevirtual 250, 3) := by decide +kernel
theorem dX9_digest_316 : decode cX9_digest 316 = .ok (.i2l, 1) := by decide +kernel
theorem dX9_digest_317 : decode cX9_digest 317 = .ok (.ladd, 1) := by decide +kernel
theorem dX9_digest_318 : decode cX9_digest 318 = .ok (.lstore_n 1, 1) := by decide +kernel
theorem dX9_digest_319 : decode cX9_digest 319 = .ok (.iinc 3 1, 3) := by decide +kernel
theorem dX9_digest_322 : decode cX9_digest 322 = .ok (.goto (-21), 3) := by decide +kernel
theorem dX9_digest_325 : decode cX9_digest 325 = .ok (.ldc2_w 288, 3) := by decide +kernel
theorem dX9_digest_328 : decode cX9_digest 328 = .ok (.lload_n 1, 1) := by decide +kernel
theorem dX9_digest_329 : decode cX9_digest 329 = .ok (.lmul, 1) := by decide +kernel
theorem dX9_digest_330 : decode cX9_digest 330 = .ok (.aload_n 0, 1) := by decide +kernel
theorem dX9_digest_331 : decode cX9_digest 331 = .ok (.invokevirtual 253, 3) := by decide +kernel
theorem dX9_digest_334 : decode cX9_digest 334 = .ok (.i2l, 1) := by decide +kernel
theorem dX9_digest_335 : decode cX9_digest 335 = .ok (.ladd, 1) := by decide +kernel
theorem dX9_digest_336 : decode cX9_digest 336 = .ok (.lstore_n 1, 1) := by decide +kernel
theorem dX9_digest_337 : decode cX9_digest 337 = .ok (.ldc2_w 288, 3) := by decide +kernel
theorem dX9_digest_340 : decode cX9_digest 340 = .ok (.lload_n 1, 1) := by decide +kernel
theorem dX9_digest_341 : decode cX9_digest 341 = .ok (.lmul, 1) := by decide +kernel
theorem dX9_digest_342 : decode cX9_digest 342 = .ok (.aload_n 0, 1) := by decide +kernel
theorem dX9_digest_343 : decode cX9_digest 343 = .ok (.invokevirtual 256, 3) := by decide +kernel
theorem dX9_digest_346 : decode cX9_digest 346 = .ok (.i2l, 1) := by decide +kernel
theorem dX9_digest_347 : decode cX9_digest 347 = .ok (.ladd, 1) := by decide +kernel
theorem dX9_digest_348 : decode cX9_digest 348 = .ok (.lstore_n 1, 1) := by decide +kernel
theorem dX9_digest_349 : decode cX9_digest 349 = .ok (.ldc2_w 288, 3) := by decide +kernel
theorem dX9_digest_352 : decode cX9_digest 352 = .ok (.lload_n 1, 1) := by decide +kernel
theorem dX9_digest_353 : decode cX9_digest 353 = .ok (.lmul, 1) := by decide +kernel
theorem dX9_digest_354 : decode cX9_digest 354 = .ok (.aload_n 0, 1) := by decide +kernel
theorem dX9_digest_355 : decode cX9_digest 355 = .ok (.bipush 7, 2) := by decide +kernel
theorem dX9_digest_357 : decode cX9_digest 357 = .ok (.bipush 30, 2) := by decide +kernel
theorem dX9_digest_359 : decode cX9_digest 359 = .ok (.iconst 0, 1) := by decide +kernel
theorem dX9_digest_360 : decode cX9_digest 360 = .ok (.invokevirtual 282, 3) := by decide +kernel
theorem dX9_digest_363 : decode cX9_digest 363 = .ok (.i2l, 1) := by decide +kernel
theorem dX9_digest_364 : decode cX9_digest 364 = .ok (.ladd, 1) := by decide +kernel
theorem dX9_digest_365 : decode cX9_digest 365 = .ok (.lstore_n 1, 1) := by decide +kernel
theorem dX9_digest_366 : decode cX9_digest 366 = .ok (.ldc2_w 288, 3) := by decide +kernel
theorem dX9_digest_369 : decode cX9_digest 369 = .ok (.lload_n 1, 1) := by decide +kernel
theorem dX9_digest_370 : decode cX9_digest 370 = .ok (.lmul, 1) := by decide +kernel
theorem dX9_digest_371 : decode cX9_digest 371 = .ok (.aload_n 0, 1) := by decide +kernel
theorem dX9_digest_372 : decode cX9_digest 372 = .ok (.bipush 7, 2) := by decide +kernel
theorem dX9_digest_374 : decode cX9_digest 374 = .ok (.bipush 30, 2) := by decide +kernel
theorem dX9_digest_376 : decode cX9_digest 376 = .ok (.iconst 1, 1) := by decide +kernel
theorem dX9_digest_377 : decode cX9_digest 377 = .ok (.invokevirtual 282, 3) := by decide +kernel
theorem dX9_digest_380 : decode cX9_digest 380 = .ok (.i2l, 1) := by decide +kernel
theorem dX9_digest_381 : decode cX9_digest 381 = .ok (.ladd, 1) := by decide +kernel
theorem dX9_digest_382 : decode cX9_digest 382 = .ok (.lreturn, 1) := by decide +kernel
