theorem dX10_alongWith_13 : decode cX10_alongWith 13 = .ok (.aload_n 0, 1) := by decide +kernel
theorem dX10_alongWith_14 : decode cX10_alongWith 14 = .ok (.getfield 45, 3) := by decide +kernel
theorem dX10_alongWith_17 : decode cX10_alongWith 17 = .ok (.iload_n 2, 1) := by decide +kernel
theorem dX10_alongWith_18 : decode cX10_alongWith 18 = .ok (.iaload, 1) := by decide +kernel
theorem dX10_alongWith_19 : decode cX10_alongWith 19 = .ok (.iastore, 1) := by decide +kernel
theorem dX10_alongWith_20 : decode cX10_alongWith 20 = .ok (.iconst 0, 1) := by decide +kernel
theorem dX10_alongWith_21 : decode cX10_alongWith 21 = .ok (.istore_n 3, 1) := by decide +kernel
theorem dX10_alongWith_22 : decode cX10_alongWith 22 = .ok (.iconst 0, 1) := by decide +kernel
theorem dX10_alongWith_23 : decode cX10_alongWith 23 = .ok (.istore 4, 2) := by decide +kernel
theorem dX10_alongWith_25 : decode cX10_alongWith 25 = .ok (.iload 4, 2) := by decide +kernel
theorem dX10_alongWith_27 : decode cX10_alongWith 27 = .ok (.aload_n 0, 1) := by decide +kernel
theorem dX10_alongWith_28 : decode cX10_alongWith 28 = .ok (.getfield 237, 3) := by decide +kernel
theorem dX10_alongWith_31 : decode cX10_alongWith 31 = .ok (.if_icmp .ge 36, 3) := by decide +kernel
theorem dX10_alongWith_34 : decode cX10_alongWith 34 = .ok (.aload_n 0, 1) := by decide +kernel
theorem dX10_alongWith_35 : decode cX10_alongWith 35 = .ok (.getfield 42, 3) := by decide +kernel
theorem dX10_alongWith_38 : decode cX10_alongWith 38 = .ok (.iload 4, 2) := by decide +kernel
theorem dX10_alongWith_40 : decode cX10_alongWith 40 = .ok (.iaload, 1) := by decide +kernel
theorem dX10_alongWith_41 : decode cX10_alongWith 41 = .ok (.iload_n 1, 1) := by decide +kernel
theorem dX10_alongWith_42 : decode cX10_alongWith 42 = .ok (.if_icmp .eq 19, 3) := by decide +kernel
theorem dX10_alongWith_45 : decode cX10_alongWith 45 = .ok (.aload_n 0, 1) := by decide +kernel
theorem dX10_alongWith_46 : decode cX10_alongWith 46 = .ok (.getfield 42, 3) := by decide +kernel
theorem dX10_alongWith_49 : decode cX10_alongWith 49 = .ok (.iload_n 3, 1) := by decide +kernel
theorem dX10_alongWith_50 : decode cX10_alongWith 50 = .ok (.aload_n 0, 1) := by decide +kernel
theorem dX10_alongWith_51 : decode cX10_alongWith 51 = .ok (.getfield 42, 3) := by decide +kernel
theorem dX10_alongWith_54 : decode cX10_alongWith 54 = .ok (.iload 4, 2) := by decide +kernel
theorem dX10_alongWith_56 : decode cX10_alongWith 56 = .ok (.iaload, 1) := by decide +kernel
theorem dX10_alongWith_57 : decode cX10_alongWith 57 = .ok (.iastore, 1) := by decide +kernel
theorem dX10_alongWith_58 : decode cX10_alongWith 58 = .ok (.iinc 3 1, 3) := by decide +kernel
theorem dX10_alongWith_61 : decode cX10_alongWith 61 = .ok (.iinc 4 1, 3) := by decide +kernel
theorem dX10_alongWith_64 : decode cX10_alongWith 64 = .ok (.goto (-39), 3) := by decide +kernel
theorem dX10_alongWith_67 : decode cX10_alongWith 67 = .ok (.iload_n 3, 1) := by decide +kernel
theorem dX10_alongWith_68 : decode cX10_alongWith 68 = .ok (.istore 4, 2) := by decide +kernel
theorem dX10_alongWith_70 : decode cX10_alongWith 70 = .ok (.aload_n 0, 1) := by decide +kernel
theorem dX10_alongWith_71 : decode cX10_alongWith 71 = .ok (.getfield 42, 3) := by decide +kernel
theorem dX10_alongWith_74 : decode cX10_alongWith 74 = .ok (.iload 4, 2) := by decide +kernel
theorem dX10_alongWith_76 : decode cX10_alongWith 76 = .ok (.iconst 1, 1) := by decide +kernel
theorem dX10_alongWith_77 : decode cX10_alongWith 77 = .ok (.isub, 1) := by decide +kernel
theorem dX10_alongWith_78 : decode cX10_alongWith 78 = .ok (.iaload, 1) := by decide +kernel
theorem dX10_alongWith_79 : decode cX10_alongWith 79 = .ok (.iload_n 2, 1) := by decide +kernel
theorem dX10_alongWith_80 : decode cX10_alongWith 80 = .ok (.if_icmp .eq 25, 3) := by decide +kernel
theorem dX10_alongWith_83 : decode cX10_alongWith 83 = .ok (.aload_n 0, 1) := by decide +kernel
theorem dX10_alongWith_84 : decode cX10_alongWith 84 = .ok (.getfield 42, 3) := by decide +kernel
theorem dX10_alongWith_87 : decode cX10_alongWith 87 = .ok (.iload 4, 2) := by decide +kernel
theorem dX10_alongWith_89 : decode cX10_alongWith 89 = .ok (.aload_n 0, 1) := by decide +kernel
theorem dX10_alongWith_90 : decode cX10_alongWith 90 = .ok (.getfield 42, 3) := by decide +kernel
theorem dX10_alongWith_93 : decode cX10_alongWith 93 = .ok (.iload 4, 2) := by decide +kernel
theorem dX10_alongWith_95 : decode cX10_alongWith 95 = .ok (.iconst 1, 1) := by decide +kernel
theorem dX10_alongWith_96 : decode cX10_alongWith 96 = .ok (.isub, 1) := by decide +kernel
theorem dX10_alongWith_97 : decode cX10_alongWith 97 = .ok (.iaload, 1) := by decide +kernel
theorem dX10_alongWith_98 : decode cX10_alongWith 98 = .ok (.iastore, 1) := by decide +kernel
theorem dX10_alongWith_99 : decode cX10_alongWith 99 = .ok (.iinc 4 (-1), 3) := by decide +kernel
theorem dX10_alongWith_102 : decode cX10_alongWith 102 = .ok (.goto (-32), 3) := by decide +kernel
theorem dX10_alongWith_105 : decode cX10_alongWith 105 = .ok (.aload_n 0, 1) := by decide +kernel
theorem dX10_alongWith_106 : decode cX10_alongWith 106 = .ok (.getfield 42, 3) := by decide +kernel
theorem dX10_alongWith_109 : decode cX10_alongWith 109 = .ok (.iload 4, 2) := by decide +kernel
theorem dX10_alongWith_111 : decode cX10_alongWith 111 = .ok (.iload_n 1, 1) := by decide +kernel
theorem dX10_alongWith_112 : decode cX10_alongWith 112 = .ok (.iastore, 1) := by decide +kernel
theorem dX10_alongWith_113 : decode cX10_alongWith 113 = .ok (.aload_n 0, 1) := by decide +kernel
theorem dX10_alongWith_114 : decode cX10_alongWith 114 = .ok (.aload_n 0, 1) := by decide +kernel
theorem dX10_alongWith_115 : decode cX10_alongWith 115 = .ok (.getfield 237, 3) := by decide +kernel
theorem dX10_alongWith_118 : decode cX10_alongWith 118 = .ok (.ldc_w 305, 3) := by decide +kernel
theorem dX10_alongWith_121 : decode cX10_alongWith 121 = .ok (.invokevirtual 306, 3) := by decide +kernel
theorem dX10_alongWith_124 : decode cX10_alongWith 124 = .ok (.ireturn, 1) := by decide +kernel
theorem dX10_along_0 : decode cX10_along 0 = .ok (.aload_n 0, 1) := by decide +kernel
theorem dX10_along_1 : decode cX10_along 1 = .ok (.iload_n 1, 1) := by decide +kernel
theorem dX10_along_2 : decode cX10_along 2 = .ok (.invokevirtual 176, 3) := by decide +kernel
theorem dX10_along_5 : decode cX10_along 5 = .ok (.ifCond .eq 12, 3) := by decide +kernel
theorem dX10_along_8 : decode cX10_along 8 = .ok (.iload_n 2, 1) := by decide +kernel
theorem dX10_along_9 : decode cX10_along 9 = .ok (.iconst 0, 1) := by decide +kernel
theorem dX10_along_10 : decode cX10_along 10 = .ok (.iconst 1, 1) := by decide +kernel
theorem dX10_along_11 : decode cX10_along 11 = .ok (.invokestatic 121, 3) := by decide +kernel
theorem dX10_along_14 : decode cX10_along 14 = .ok (.ifCond .ne 5, 3) := by decide +kernel
theorem dX10_along_17 : decode cX10_along 17 = .ok (.iconst (-1), 1) := by decide +kernel
theorem dX10_along_18 : decode cX10_along 18 = .ok (.ireturn, 1) := by decide +kernel
theorem dX10_along_19 : decode cX10_along 19 = .ok (.bipush (-4), 2) := by decide +kernel
theorem dX10_along_21 : decode cX10_along 21 = .ok (.istore_n 3, 1) := by decide +kernel
theorem dX10_along_22 : decode cX10_along 22 = .ok (.aload_n 0, 1) := by decide +kernel
theorem dX10_along_23 : decode cX10_along 23 = .ok (.invokevirtual 312, 3) := by decide +kernel
theorem dX10_along_26 : decode cX10_along 26 = .ok (.istore 4, 2) := by decide +kernel
theorem dX10_along_28 : decode cX10_along 28 = .ok (.iconst 0, 1) := by decide +kernel
theorem dX10_along_29 : decode cX10_along 29 = .ok (.istore 5, 2) := by decide +kernel
theorem dX10_along_31 : decode cX10_along 31 = .ok (.iload 5, 2) := by decide +kernel
theorem dX10_along_33 : decode cX10_along 33 = .ok (.aload_n 0, 1) := by decide +kernel
theorem dX10_along_34 : decode cX10_along 34 = .ok (.getfield 118, 3) := by decide +kernel
theorem dX10_along_37 : decode cX10_along 37 = .ok (.if_icmp .ge 61, 3) := by decide +kernel
theorem dX10_along_40 : decode cX10_along 40 = .ok (.aload_n 0, 1) := by decide +kernel
theorem dX10_along_41 : decode cX10_along 41 = .ok (.invokevirtual 244, 3) := by decide +kernel
theorem dX10_along_44 : decode cX10_along 44 = .ok (.iload 5, 2) := by decide +kernel
theorem dX10_along_46 : decode cX10_along 46 = .ok (.iload_n 1, 1) := by decide +kernel
theorem dX10_along_47 : decode cX10_along 47 = .ok (.if_icmp .eq 45, 3) := by decide +kernel
theorem dX10_along_50 : decode cX10_along 50 = .ok (.aload_n 0, 1) := by decide +kernel
theorem dX10_along_51 : decode cX10_along 51 = .ok (.iload 5, 2) := by decide +kernel
theorem dX10_along_53 : decode cX10_along 53 = .ok (.iload_n 1, 1) := by decide +kernel
theorem dX10_along_54 : decode cX10_along 54 = .ok (.invokevirtual 240, 3) := by decide +kernel
theorem dX10_along_57 : decode cX10_along 57 = .ok (.ifCond .eq 35, 3) := by decide +kernel
theorem dX10_along_60 : decode cX10_along 60 = .ok (.aload_n 0, 1) := by decide +kernel
theorem dX10_along_61 : decode cX10_along 61 = .ok (.iload_n 1, 1) := by decide +kernel
theorem dX10_along_62 : decode cX10_along 62 = .ok (.iload 5, 2) := by decide +kernel
theorem dX10_along_64 : decode cX10_along 64 = .ok (.invokevirtual 342, 3) := by decide +kernel
theorem dX10_along_67 : decode cX10_along 67 = .ok (.istore 6, 2) := by decide +kernel
theorem dX10_along_69 : decode cX10_along 69 = .ok (.iload 6, 2) := by decide +kernel
theorem dX10_along_71 : decode cX10_along 71 = .ok (.iload 4, 2) := by decide +kernel
theorem dX10_along_73 : decode cX10_along 73 = .ok (.if_icmp .ge 8, 3) := by decide +kernel
theorem dX10_along_76 : decode cX10_along 76 = .ok (.iload 5, 2) := by decide +kernel
theorem dX10_along_78 : decode cX10_along 78 = .ok (.goto 4, 3) := by decide +kernel
theorem dX10_along_81 : decode cX10_along 81 = .ok (.iload_n 3, 1) := by decide +kernel
theorem dX10_along_82 : decode cX10_along 82 = .ok (.istore_n 3, 1) := by decide +kernel
theorem dX10_along_83 : decode cX10_along 83 = .ok (.iload 4, 2) := by decide +kernel
theorem dX10_along_85 : decode cX10_along 85 = .ok (.iload 6, 2) := by decide +kernel
theorem dX10_along_87 : decode cX10_along 87 = .ok (.invokestatic 333, 3) := by decide +kernel
theorem dX10_along_90 : decode cX10_along 90 = .ok (.istore 4, 2) := by decide +kernel
theorem dX10_along_92 : decode cX10_along 92 = .ok (.iinc 5 1, 3) := by decide +kernel
theorem dX10_along_95 : decode cX10_along 95 = .ok (.goto (-64), 3) := by decide +kernel
theorem dX10_along_98 : decode cX10_along 98 = .ok (.iload_n 2, 1) := by decide +kernel
theorem dX10_along_99 : decode cX10_along 99 = .ok (.ifCond .eq 9, 3) := by decide +kernel
theorem dX10_along_102 : decode cX10_along 102 = .ok (.iload_n 3, 1) := by decide +kernel
theorem dX10_along_103 : decode cX10_along 103 = .ok (.bipush (-4), 2) := by decide +kernel
theorem dX10_along_105 : decode cX10_along 105 = .ok (.if_icmp .ne 7, 3) := by decide +kernel
theorem dX10_along_108 : decode cX10_along 108 = .ok (.iload_n 3, 1) := by decide +kernel
theorem dX10_along_109 : decode cX10_along 109 = .ok (.goto 5, 3) := by decide +kernel
theorem dX10_along_112 : decode cX10_along 112 = .ok (.iload 4, 2) := by decide +kernel
theorem dX10_along_114 : decode cX10_along 114 = .ok (.ireturn, 1) := by decide +kernel
theorem dX10_byTurn_0 : decode cX10_byTurn 0 = .ok (.aload_n 0, 1) := by decide +kernel
theorem dX10_byTurn_1 : decode cX10_byTurn 1 = .ok (.invokevirtual 225, 3) := by decide +kernel
theorem dX10_byTurn_4 : decode cX10_byTurn 4 = .ok (.aload_n 0, 1) := by decide +kernel
theorem dX10_byTurn_5 : decode cX10_byTurn 5 = .ok (.invokevirtual 228, 3) := by decide +kernel
theorem dX10_byTurn_8 : decode cX10_byTurn 8 = .ok (.aload_n 0, 1) := by decide +kernel
theorem dX10_byTurn_9 : decode cX10_byTurn 9 = .ok (.aload_n 0, 1) := by decide +kernel
theorem dX10_byTurn_10 : decode cX10_byTurn 10 = .ok (.getfield 237, 3) := by decide +kernel
theorem dX10_byTurn_13 : decode cX10_byTurn 13 = .ok (.iload_n 1, 1) := by decide +kernel
theorem dX10_byTurn_14 : decode cX10_byTurn 14 = .ok (.invokevirtual 306, 3) := by decide +kernel
theorem dX10_byTurn_17 : decode cX10_byTurn 17 = .ok (.ireturn, 1) := by decide +kernel
theorem dX10_turn_0 : decode cX10_turn 0 = .ok (.iload_n 1, 1) := by decide +kernel
theorem dX10_turn_1 : decode cX10_turn 1 = .ok (.iconst 0, 1) := by decide +kernel
theorem dX10_turn_2 : decode cX10_turn 2 = .ok (.bipush 99, 2) := by decide +kernel
theorem dX10_turn_4 : decode cX10_turn 4 = .ok (.invokestatic 121, 3) := by decide +kernel
theorem dX10_turn_7 : decode cX10_turn 7 = .ok (.ifCond .eq 11, 3) := by decide +kernel
theorem dX10_turn_10 : decode cX10_turn 10 = .ok (.aload_n 0, 1) := by decide +kernel
theorem dX10_turn_11 : decode cX10_turn 11 = .ok (.iload_n 1, 1) := by decide +kernel
theorem dX10_turn_12 : decode cX10_turn 12 = .ok (.invokevirtual 345, 3) := by decide +kernel
theorem dX10_turn_15 : decode cX10_turn 15 = .ok (.goto 4, 3) := by decide +kernel
theorem dX10_turn_18 : decode cX10_turn 18 = .ok (.iconst (-1), 1) := by decide +kernel
theorem dX10_turn_19 : decode cX10_turn 19 = .ok (.ireturn, 1) := by decide +kernel
theorem dX10_bestTurn_0 : decode cX10_bestTurn 0 = .ok (.bipush (-4), 2) := by decide +kernel
theorem dX10_bestTurn_2 : decode cX10_bestTurn 2 = .ok (.istore_n 1, 1) := by decide +kernel
theorem dX10_bestTurn_3 : decode cX10_bestTurn 3 = .ok (.aload_n 0, 1) := by decide +kernel
theorem dX10_bestTurn_4 : decode cX10_bestTurn 4 = .ok (.invokevirtual 312, 3) := by decide +kernel
theorem dX10_bestTurn_7 : decode cX10_bestTurn 7 = .ok (.istore_n 2, 1) := by decide +kernel
theorem dX10_bestTurn_8 : decode cX10_bestTurn 8 = .ok (.iconst 0, 1) := by decide +kernel
theorem dX10_bestTurn_9 : decode cX10_bestTurn 9 = .ok (.istore_n 3, 1) := by decide +kernel
theorem dX10_bestTurn_10 : decode cX10_bestTurn 10 = .ok (.iload_n 3, 1) := by decide +kernel
theorem dX10_bestTurn_11 : decode cX10_bestTurn 11 = .ok (.bipush 100, 2) := by decide +kernel
theorem dX10_bestTurn_13 : decode cX10_bestTurn 13 = .ok (.if_icmp .ge 35, 3) := by decide +kernel
theorem dX10_bestTurn_16 : decode cX10_bestTurn 16 = .ok (.aload_n 0, 1) := by decide +kernel
theorem dX10_bestTurn_17 : decode cX10_bestTurn 17 = .ok (.iload_n 3, 1) := by decide +kernel
theorem dX10_bestTurn_18 : decode cX10_bestTurn 18 = .ok (.invokevirtual 345, 3) := by decide +kernel
theorem dX10_bestTurn_21 : decode cX10_bestTurn 21 = .ok (.istore 4, 2) := by decide +kernel
theorem dX10_bestTurn_23 : decode cX10_bestTurn 23 = .ok (.iload 4, 2) := by decide +kernel
theorem dX10_bestTurn_25 : decode cX10_bestTurn 25 = .ok (.iload_n 2, 1) := by decide +kernel
theorem dX10_bestTurn_26 : decode cX10_bestTurn 26 = .ok (.if_icmp .ge 7, 3) := by decide +kernel
theorem dX10_bestTurn_29 : decode cX10_bestTurn 29 = .ok (.iload_n 3, 1) := by decide +kernel
theorem dX10_bestTurn_30 : decode cX10_bestTurn 30 = .ok (.goto 4, 3) := by decide +kernel
theorem dX10_bestTurn_33 : decode cX10_bestTurn 33 = .ok (.iload_n 1, 1) := by decide +kernel
theorem dX10_bestTurn_34 : decode cX10_bestTurn 34 = .ok (.istore_n 1, 1) := by decide +kernel
theorem dX10_bestTurn_35 : decode cX10_bestTurn 35 = .ok (.iload_n 2, 1) := by decide +kernel
theorem dX10_bestTurn_36 : decode cX10_bestTurn 36 = .ok (.iload 4, 2) := by decide +kernel
theorem dX10_bestTurn_38 : decode cX10_bestTurn 38 = .ok (.invokestatic 333, 3) := by decide +kernel
theorem dX10_bestTurn_41 : decode cX10_bestTurn 41 = .ok (.istore_n 2, 1) := by decide +kernel
theorem dX10_bestTurn_42 : decode cX10_bestTurn 42 = .ok (.iinc 3 1, 3) := by decide +kernel
theorem dX10_bestTurn_45 : decode cX10_bestTurn 45 = .ok (.goto (-35), 3) := by decide +kernel
theorem dX10_bestTurn_48 : decode cX10_bestTurn 48 = .ok (.iload_n 1, 1) := by decide +kernel
theorem dX10_bestTurn_49 : decode cX10_bestTurn 49 = .ok (.ireturn, 1) := by decide +kernel
theorem dX10_swap_0 : decode cX10_swap 0 = .ok (.aload_n 1, 1) := by decide +kernel
theorem dX10_swap_1 : decode cX10_swap 1 = .ok (.iload_n 2, 1) := by decide +kernel
theorem dX10_swap_2 : decode cX10_swap 2 = .ok (.iaload, 1) := by decide +kernel
theorem dX10_swap_3 : decode cX10_swap 3 = .ok (.istore 4, 2) := by decide +kernel
theorem dX10_swap_5 : decode cX10_swap 5 = .ok (.aload_n 1, 1) := by decide +kernel
theorem dX10_swap_6 : decode cX10_swap 6 = .ok (.iload_n 2, 1) := by decide +kernel
theorem dX10_swap_7 : decode cX10_swap 7 = .ok (.aload_n 1, 1) := by decide +kernel
theorem dX10_swap_8 : decode cX10_swap 8 = .ok (.iload_n 3, 1) := by decide +kernel
theorem dX10_swap_9 : decode cX10_swap 9 = .ok (.iaload, 1) := by decide +kernel
theorem dX10_swap_10 : decode cX10_swap 10 = .ok (.iastore, 1) := by decide +kernel
theorem dX10_swap_11 : decode cX10_swap 11 = .ok (.aload_n 1, 1) := by decide +kernel
theorem dX10_swap_12 : decode cX10_swap 12 = .ok (.iload_n 3, 1) := by decide +kernel
theorem dX10_swap_13 : decode cX10_swap 13 = .ok (.iload 4, 2) := by decide +kernel
theorem dX10_swap_15 : decode cX10_swap 15 = .ok (.iastore, 1) := by decide +kernel
theorem dX10_swap_16 : decode cX10_swap 16 = .ok (.return_, 1) := by decide +kernel
theorem dX10_nextOrder_0 : decode cX10_nextOrder 0 = .ok (.iload_n 2, 1) := by decide +kernel
theorem dX10_nextOrder_1 : decode cX10_nextOrder 1 = .ok (.iconst 2, 1) := by decide +kernel
theorem dX10_nextOrder_2 : decode cX10_nextOrder 2 = .ok (.isub, 1) := by decide +kernel
theorem dX10_nextOrder_3 : decode cX10_nextOrder 3 = .ok (.istore_n 3, 1) := by decide +kernel
theorem dX10_nextOrder_4 : decode cX10_nextOrder 4 = .ok (.iload_n 3, 1) := by decide +kernel
theorem dX10_nextOrder_5 : decode cX10_nextOrder 5 = .ok (.ifCond .lt 20, 3) := by decide +kernel
theorem dX10_nextOrder_8 : decode cX10_nextOrder 8 = .ok (.aload_n 1, 1) := by decide +kernel
theorem dX10_nextOrder_9 : decode cX10_nextOrder 9 = .ok (.iload_n 3, 1) := by decide +kernel
theorem dX10_nextOrder_10 : decode cX10_nextOrder 10 = .ok (.iaload, 1) := by decide +kernel
theorem dX10_nextOrder_11 : decode cX10_nextOrder 11 = .ok (.aload_n 1, 1) := by decide +kernel
theorem dX10_nextOrder_12 : decode cX10_nextOrder 12 = .ok (.iload_n 3, 1) := by decide +kernel
theorem dX10_nextOrder_13 : decode cX10_nextOrder 13 = .ok (.iconst 1, 1) := by decide +kernel
theorem dX10_nextOrder_14 : decode cX10_nextOrder 14 = .ok (.iadd, 1) := by decide +kernel
theorem dX10_nextOrder_15 : decode cX10_nextOrder 15 = .ok (.iaload, 1) := by decide +kernel
theorem dX10_nextOrder_16 : decode cX10_nextOrder 16 = .ok (.if_icmp .le 9, 3) := by decide +kernel
theorem dX10_nextOrder_19 : decode cX10_nextOrder 19 = .ok (.iinc 3 (-1), 3) := by decide +kernel
theorem dX10_nextOrder_22 : decode cX10_nextOrder 22 = .ok (.goto (-18), 3) := by decide +kernel
theorem dX10_nextOrder_25 : decode cX10_nextOrder 25 = .ok (.iload_n 3, 1) := by decide +kernel
theorem dX10_nextOrder_26 : decode cX10_nextOrder 26 = .ok (.ifCond .ge 5, 3) := by decide +kernel
theorem dX10_nextOrder_29 : decode cX10_nextOrder 29 = .ok (.iconst 0, 1) := by decide +kernel
theorem dX10_nextOrder_30 : decode cX10_nextOrder 30 = .ok (.ireturn, 1) := by decide +kernel
theorem dX10_nextOrder_31 : decode cX10_nextOrder 31 = .ok (.iload_n 2, 1) := by decide +kernel
theorem dX10_nextOrder_32 : decode cX10_nextOrder 32 = .ok (.iconst 1, 1) := by decide +kernel
theorem dX10_nextOrder_33 : decode cX10_nextOrder 33 = .ok (.isub, 1) := by decide +kernel
theorem dX10_nextOrder_34 : decode cX10_nextOrder 34 = .ok (.istore 4, 2) := by decide +kernel
theorem dX10_nextOrder_36 : decode cX10_nextOrder 36 = .ok (.aload_n 1, 1) := by decide +kernel
theorem dX10_nextOrder_37 : decode cX10_nextOrder 37 = .ok (.iload 4, 2) := by decide +kernel
theorem dX10_nextOrder_39 : decode cX10_nextOrder 39 = .ok (.iaload, 1) := by decide +kernel
theorem dX10_nextOrder_40 : decode cX10_nextOrder 40 = .ok (.aload_n 1, 1) := by decide +kernel
theorem dX10_nextOrder_41 : decode cX10_nextOrder 41 = .ok (.iload_n 3, 1) := by decide +kernel
theorem dX10_nextOrder_42 : decode cX10_nextOrder 42 = .ok (.iaload, 1) := by decide +kernel
theorem dX10_nextOrder_43 : decode cX10_nextOrder 43 = .ok (.if_icmp .ge 9, 3) := by decide +kernel
theorem dX10_nextOrder_46 : decode cX10_nextOrder 46 = .ok (.iinc 4 (-1), 3) := by decide +kernel
theorem dX10_nextOrder_49 : decode cX10_nextOrder 49 = .ok (.goto (-13), 3) := by decide +kernel
theorem dX10_nextOrder_52 : decode cX10_nextOrder 52 = .ok (.aload_n 0, 1) := by decide +kernel
theorem dX10_nextOrder_53 : decode cX10_nextOrder 53 = .ok (.aload_n 1, 1) := by decide +kernel
theorem dX10_nextOrder_54 : decode cX10_nextOrder 54 = .ok (.iload_n 3, 1) := by decide +kernel
theorem dX10_nextOrder_55 : decode cX10_nextOrder 55 = .ok (.iload 4, 2) := by decide +kernel
theorem dX10_nextOrder_57 : decode cX10_nextOrder 57 = .ok (.invokevirtual 348, 3) := by decide +kernel
theorem dX10_nextOrder_60 : decode cX10_nextOrder 60 = .ok (.iload_n 3, 1) := by decide +kernel
theorem dX10_nextOrder_61 : decode cX10_nextOrder 61 = .ok (.iconst 1, 1) := by decide +kernel
theorem dX10_nextOrder_62 : decode cX10_nextOrder 62 = .ok (.iadd, 1) := by decide +kernel
theorem dX10_nextOrder_63 : decode cX10_nextOrder 63 = .ok (.istore 5, 2) := by decide +kernel
theorem dX10_nextOrder_65 : decode cX10_nextOrder 65 = .ok (.iload_n 2, 1) := by decide +kernel
theorem dX10_nextOrder_66 : decode cX10_nextOrder 66 = .ok (.iconst 1, 1) := by decide +kernel
theorem dX10_nextOrder_67 : decode cX10_nextOrder 67 = .ok (.isub, 1) := by decide +kernel
theorem dX10_nextOrder_68 : decode cX10_nextOrder 68 = .ok (.istore 6, 2) := by decide +kernel
theorem dX10_nextOrder_70 : decode cX10_nextOrder 70 = .ok (.iload 5, 2) := by decide +kernel
theorem dX10_nextOrder_72 : decode cX10_nextOrder 72 = .ok (.iload 6, 2) := by decide +kernel
theorem dX10_nextOrder_74 : decode cX10_nextOrder 74 = .ok (.if_icmp .ge 21, 3) := by decide +kernel
theorem dX10_nextOrder_77 : decode cX10_nextOrder 77 = .ok (.aload_n 0, 1) := by decide +kernel
theorem dX10_nextOrder_78 : decode cX10_nextOrder 78 = .ok (.aload_n 1, 1) := by decide +kernel
theorem dX10_nextOrder_79 : decode cX10_nextOrder 79 = .ok (.iload 5, 2) := by decide +kernel
theorem dX10_nextOrder_81 : decode cX10_nextOrder 81 = .ok (.iload 6, 2) := by decide +kernel
theorem dX10_nextOrder_83 : decode cX10_nextOrder 83 = .ok (.invokevirtual 348, 3) := by decide +kernel
theorem dX10_nextOrder_86 : decode cX10_nextOrder 86 = .ok (.iinc 5 1, 3) := by decide +kernel
theorem dX10_nextOrder_89 : decode cX10_nextOrder 89 = .ok (.iinc 6 (-1), 3) := by decide +kernel
theorem dX10_nextOrder_92 : decode cX10_nextOrder 92 = .ok (.goto (-22), 3) := by decide +kernel
theorem dX10_nextOrder_95 : decode cX10_nextOrder 95 = .ok (.iconst 1, 1) := by decide +kernel
theorem dX10_nextOrder_96 : decode cX10_nextOrder 96 = .ok (.ireturn, 1) := by decide +kernel
theorem dX10_allOrders_0 : decode cX10_allOrders 0 = .ok (.aload_n 0, 1) := by decide +kernel
theorem dX10_allOrders_1 : decode cX10_allOrders 1 = .ok (.invokevirtual 225, 3) := by decide +kernel
theorem dX10_allOrders_4 : decode cX10_allOrders 4 = .ok (.aload_n 0, 1) := by decide +kernel
theorem dX10_allOrders_5 : decode cX10_allOrders 5 = .ok (.iconst 0, 1) := by decide +kernel
theorem dX10_allOrders_6 : decode cX10_allOrders 6 = .ok (.putfield 352, 3) := by decide +kernel
theorem dX10_allOrders_9 : decode cX10_allOrders 9 = .ok (.aload_n 0, 1) := by decide +kernel
theorem dX10_allOrders_10 : decode cX10_allOrders 10 = .ok (.ldc_w 305, 3) := by decide +kernel
theorem dX10_allOrders_13 : decode cX10_allOrders 13 = .ok (.putfield 355, 3) := by decide +kernel
theorem dX10_allOrders_16 : decode cX10_allOrders 16 = .ok (.aload_n 0, 1) := by decide +kernel
theorem dX10_allOrders_17 : decode cX10_allOrders 17 = .ok (.iconst 0, 1) := by decide +kernel
theorem dX10_allOrders_18 : decode cX10_allOrders 18 = .ok (.putfield 358, 3) := by decide +kernel
theorem dX10_allOrders_21 : decode cX10_allOrders 21 = .ok (.aload_n 0, 1) := by decide +kernel
theorem dX10_allOrders_22 : decode cX10_allOrders 22 = .ok (.iconst 0, 1) := by decide +kernel
theorem dX10_allOrders_23 : decode cX10_allOrders 23 = .ok (.putfield 361, 3) := by decide +kernel
theorem dX10_allOrders_26 : decode cX10_allOrders 26 = .ok (.iconst 0, 1) := by decide +kernel
theorem dX10_allOrders_27 : decode cX10_allOrders 27 = .ok (.istore_n 1, 1) := by decide +kernel
theorem dX10_allOrders_28 : decode cX10_allOrders 28 = .ok (.iload_n 1, 1) := by decide +kernel
theorem dX10_allOrders_29 : decode cX10_allOrders 29 = .ok (.aload_n 0, 1) := by decide +kernel
theorem dX10_allOrders_30 : decode cX10_allOrders 30 = .ok (.getfield 118, 3) := by decide +kernel
theorem dX10_allOrders_33 : decode cX10_allOrders 33 = .ok (.if_icmp .ge 16, 3) := by decide +kernel
theorem dX10_allOrders_36 : decode cX10_allOrders 36 = .ok (.aload_n 0, 1) := by decide +kernel
theorem dX10_allOrders_37 : decode cX10_allOrders 37 = .ok (.getfield 42, 3) := by decide +kernel
theorem dX10_allOrders_40 : decode cX10_allOrders 40 = .ok (.iload_n 1, 1) := by decide +kernel
theorem dX10_allOrders_41 : decode cX10_allOrders 41 = .ok (.iload_n 1, 1) := by decide +kernel
theorem dX10_allOrders_42 : decode cX10_allOrders 42 = .ok (.iastore, 1) := by decide +kernel
theorem dX10_allOrders_43 : decode cX10_allOrders 43 = .ok (.iinc 1 1, 3) := by decide +kernel
theorem dX10_allOrders_46 : decode cX10_allOrders 46 = .ok (.goto (-18), 3) := by decide +kernel
theorem dX10_allOrders_49 : decode cX10_allOrders 49 = .ok (.iconst 1, 1) := by decide +kernel
theorem dX10_allOrders_50 : decode cX10_allOrders 50 = .ok (.istore_n 1, 1) := by decide +kernel
theorem dX10_allOrders_51 : decode cX10_allOrders 51 = .ok (.iload_n 1, 1) := by decide +kernel
theorem dX10_allOrders_52 : decode cX10_allOrders 52 = .ok (.ifCond .eq 68, 3) := by decide +kernel
theorem dX10_allOrders_55 : decode cX10_allOrders 55 = .ok (.aload_n 0, 1) := by decide +kernel
theorem dX10_allOrders_56 : decode cX10_allOrders 56 = .ok (.invokevirtual 309, 3) := by decide +kernel
theorem dX10_allOrders_59 : decode cX10_allOrders 59 = .ok (.istore_n 2, 1) := by decide +kernel
theorem dX10_allOrders_60 : decode cX10_allOrders 60 = .ok (.aload_n 0, 1) := by decide +kernel
theorem dX10_allOrders_61 : decode cX10_allOrders 61 = .ok (.aload_n 0, 1) := by decide +kernel
theorem dX10_allOrders_62 : decode cX10_allOrders 62 = .ok (.getfield 352, 3) := by decide +kernel
theorem dX10_allOrders_65 : decode cX10_allOrders 65 = .ok (.iload_n 2, 1) := by decide +kernel
theorem dX10_allOrders_66 : decode cX10_allOrders 66 = .ok (.invokestatic 125, 3) := by decide +kernel
theorem dX10_allOrders_69 : decode cX10_allOrders 69 = .ok (.putfield 352, 3) := by decide +kernel
theorem dX10_allOrders_72 : decode cX10_allOrders 72 = .ok (.aload_n 0, 1) := by decide +kernel
theorem dX10_allOrders_73 : decode cX10_allOrders 73 = .ok (.aload_n 0, 1) := by decide +kernel
theorem dX10_allOrders_74 : decode cX10_allOrders 74 = .ok (.getfield 355, 3) := by decide +kernel
theorem dX10_allOrders_77 : decode cX10_allOrders 77 = .ok (.iload_n 2, 1) := by decide +kernel
theorem dX10_allOrders_78 : decode cX10_allOrders 78 = .ok (.invokestatic 333, 3) := by decide +kernel
theorem dX10_allOrders_81 : decode cX10_allOrders 81 = .ok (.putfield 355, 3) := by decide +kernel
theorem dX10_allOrders_84 : decode cX10_allOrders 84 = .ok (.aload_n 0, 1) := by decide +kernel
theorem dX10_allOrders_85 : decode cX10_allOrders 85 = .ok (.dup, 1) := by decide +kernel
theorem dX10_allOrders_86 : decode cX10_allOrders 86 = .ok (.getfield 361, 3) := by decide +kernel
theorem dX10_allOrders_89 : decode cX10_allOrders 89 = .ok (.iload_n 2, 1) := by decide +kernel
theorem dX10_allOrders_90 : decode cX10_allOrders 90 = .ok (.iadd, 1) := by decide +kernel
theorem dX10_allOrders_91 : decode cX10_allOrders 91 = .ok (.putfield 361, 3) := by decide +kernel
theorem dX10_allOrders_94 : decode cX10_allOrders 94 = .ok (.aload_n 0, 1) := by decide +kernel
theorem dX10_allOrders_95 : decode cX10_allOrders 95 = .ok (.dup, 1) := by decide +kernel
theorem dX10_allOrders_96 : decode cX10_allOrders 96 = .ok (.getfield 358, 3) := by decide +kernel
theorem dX10_allOrders_99 : decode cX10_allOrders 99 = .ok (.iconst 1, 1) := by decide +kernel
theorem dX10_allOrders_100 : decode cX10_allOrders 100 = .ok (.iadd, 1) := by decide +kernel
theorem dX10_allOrders_101 : decode cX10_allOrders 101 = .ok (.putfield 358, 3) := by decide +kernel
theorem dX10_allOrders_104 : decode cX10_allOrders 104 = .ok (.aload_n 0, 1) := by decide +kernel
theorem dX10_allOrders_105 : decode cX10_allOrders 105 = .ok (.aload_n 0, 1) := by decide +kernel
theorem dX10_allOrders_106 : decode cX10_allOrders 106 = .ok (.getfield 42, 3) := by decide +kernel
theorem dX10_allOrders_109 : decode cX10_allOrders 109 = .ok (.aload_n 0, 1) := by decide +kernel
theorem dX10_allOrders_110 : decode cX10_allOrders 110 = .ok (.getfield 118, 3) := by decide +kernel
theorem dX10_allOrders_113 : decode cX10_allOrders 113 = .ok (.invokevirtual 364, 3) := by decide +kernel
theorem dX10_allOrders_116 : decode cX10_allOrders 116 = .ok (.istore_n 1, 1) := by decide +kernel
theorem dX10_allOrders_117 : decode cX10_allOrders 117 = .ok (.goto (-66), 3) := by decide +kernel
theorem dX10_allOrders_120 : decode cX10_allOrders 120 = .ok (.return_, 1) := by decide +kernel
theorem dX10_mean_0 : decode cX10_mean 0 = .ok (.iload_n 1, 1) := by decide +kernel
theorem dX10_mean_1 : decode cX10_mean 1 = .ok (.iconst 0, 1) := by decide +kernel
theorem dX10_mean_2 : decode cX10_mean 2 = .ok (.iconst 1, 1) := by decide +kernel
theorem dX10_mean_3 : decode cX10_mean 3 = .ok (.invokestatic 121, 3) := by decide +kernel
theorem dX10_mean_6 : decode cX10_mean 6 = .ok (.ifCond .ne 7, 3) := by decide +kernel
theorem dX10_mean_9 : decode cX10_mean 9 = .ok (.ldc2_w 368, 3) := by decide +kernel
theorem dX10_mean_12 : decode cX10_mean 12 = .ok (.lreturn, 1) := by decide +kernel
theorem dX10_mean_13 : decode cX10_mean 13 = .ok (.aload_n 0, 1) := by decide +kernel
theorem dX10_mean_14 : decode cX10_mean 14 = .ok (.getfield 118, 3) := by decide +kernel
theorem dX10_mean_17 : decode cX10_mean 17 = .ok (.iconst 5, 1) := by decide +kernel
theorem dX10_mean_18 : decode cX10_mean 18 = .ok (.if_icmp .le 7, 3) := by decide +kernel
theorem dX10_mean_21 : decode cX10_mean 21 = .ok (.ldc2_w 370, 3) := by decide +kernel
theorem dX10_mean_24 : decode cX10_mean 24 = .ok (.lreturn, 1) := by decide +kernel
theorem dX10_mean_25 : decode cX10_mean 25 = .ok (.aload_n 0, 1) := by decide +kernel
theorem dX10_mean_26 : decode cX10_mean 26 = .ok (.invokevirtual 372, 3) := by decide +kernel
theorem dX10_mean_29 : decode cX10_mean 29 = .ok (.aload_n 0, 1) := by decide +kernel
theorem dX10_mean_30 : decode cX10_mean 30 = .ok (.getfield 361, 3) := by decide +kernel
theorem dX10_mean_33 : decode cX10_mean 33 = .ok (.istore_n 2, 1) := by decide +kernel
theorem dX10_mean_34 : decode cX10_mean 34 = .ok (.aload_n 0, 1) := by decide +kernel
theorem dX10_mean_35 : decode cX10_mean 35 = .ok (.getfield 358, 3) := by decide +kernel
theorem dX10_mean_38 : decode cX10_mean 38 = .ok (.istore_n 3, 1) := by decide +kernel
theorem dX10_mean_39 : decode cX10_mean 39 = .ok (.iload_n 3, 1) := by decide +kernel
theorem dX10_mean_40 : decode cX10_mean 40 = .ok (.ifCond .eq 16, 3) := by decide +kernel
theorem dX10_mean_43 : decode cX10_mean 43 = .ok (.iload_n 2, 1) := by decide +kernel
theorem dX10_mean_44 : decode cX10_mean 44 = .ok (.iload_n 3, 1) := by decide +kernel
theorem dX10_mean_45 : decode cX10_mean 45 = .ok (.irem, 1) := by decide +kernel
theorem dX10_mean_46 : decode cX10_mean 46 = .ok (.istore 4, 2) := by decide +kernel
theorem dX10_mean_48 : decode cX10_mean 48 = .ok (.iload_n 3, 1) := by decide +kernel
theorem dX10_mean_49 : decode cX10_mean 49 = .ok (.istore_n 2, 1) := by decide +kernel
theorem dX10_mean_50 : decode cX10_mean 50 = .ok (.iload 4, 2) := by decide +kernel
theorem dX10_mean_52 : decode cX10_mean 52 = .ok (.istore_n 3, 1) := by decide +kernel
theorem dX10_mean_53 : decode cX10_mean 53 = .ok (.goto (-14), 3) := by decide +kernel
theorem dX10_mean_56 : decode cX10_mean 56 = .ok (.iload_n 1, 1) := by decide +kernel
theorem dX10_mean_57 : decode cX10_mean 57 = .ok (.ifCond .ne 13, 3) := by decide +kernel
theorem dX10_mean_60 : decode cX10_mean 60 = .ok (.aload_n 0, 1) := by decide +kernel
theorem dX10_mean_61 : decode cX10_mean 61 = .ok (.getfield 361, 3) := by decide +kernel
theorem dX10_mean_64 : decode cX10_mean 64 = .ok (.iload_n 2, 1) := by decide +kernel
theorem dX10_mean_65 : decode cX10_mean 65 = .ok (.idiv, 1) := by decide +kernel
theorem dX10_mean_66 : decode cX10_mean 66 = .ok (.i2l, 1) := by decide +kernel
theorem dX10_mean_67 : decode cX10_mean 67 = .ok (.goto 10, 3) := by decide +kernel
theorem dX10_mean_70 : decode cX10_mean 70 = .ok (.aload_n 0, 1) := by decide +kernel
theorem dX10_mean_71 : decode cX10_mean 71 = .ok (.getfield 358, 3) := by decide +kernel
theorem dX10_mean_74 : decode cX10_mean 74 = .ok (.iload_n 2, 1) := by decide +kernel
theorem dX10_mean_75 : decode cX10_mean 75 = .ok (.idiv, 1) := by decide +kernel
theorem dX10_mean_76 : decode cX10_mean 76 = .ok (.i2l, 1) := by decide +kernel
theorem dX10_mean_77 : decode cX10_mean 77 = .ok (.lreturn, 1) := by decide +kernel
theorem dX10_orders_0 : decode cX10_orders 0 = .ok (.iload_n 1, 1) := by decide +kernel
theorem dX10_orders_1 : decode cX10_orders 1 = .ok (.iconst 0, 1) := by decide +kernel
theorem dX10_orders_2 : decode cX10_orders 2 = .ok (.iconst 1, 1) := by decide +kernel
theorem dX10_orders_3 : decode cX10_orders 3 = .ok (.invokestatic 121, 3) := by decide +kernel
theorem dX10_orders_6 : decode cX10_orders 6 = .ok (.ifCond .ne 5, 3) := by decide +kernel
theorem dX10_orders_9 : decode cX10_orders 9 = .ok (.iconst (-1), 1) := by decide +kernel
theorem dX10_orders_10 : decode cX10_orders 10 = .ok (.ireturn, 1) := by decide +kernel
theorem dX10_orders_11 : decode cX10_orders 11 = .ok (.aload_n 0, 1) := by decide +kernel
theorem dX10_orders_12 : decode cX10_orders 12 = .ok (.getfield 118, 3) := by decide +kernel
theorem dX10_orders_15 : decode cX10_orders 15 = .ok (.iconst 5, 1) := by decide +kernel
theorem dX10_orders_16 : decode cX10_orders 16 = .ok (.if_icmp .le 6, 3) := by decide +kernel
theorem dX10_orders_19 : decode cX10_orders 19 = .ok (.bipush (-3), 2) := by decide +kernel
theorem dX10_orders_21 : decode cX10_orders 21 = .ok (.ireturn, 1) := by decide +kernel
theorem dX10_orders_22 : decode cX10_orders 22 = .ok (.aload_n 0, 1) := by decide +kernel
theorem dX10_orders_23 : decode cX10_orders 23 = .ok (.invokevirtual 372, 3) := by decide +kernel
theorem dX10_orders_26 : decode cX10_orders 26 = .ok (.iload_n 1, 1) := by decide +kernel
theorem dX10_orders_27 : decode cX10_orders 27 = .ok (.ifCond .ne 10, 3) := by decide +kernel
theorem dX10_orders_30 : decode cX10_orders 30 = .ok (.aload_n 0, 1) := by decide +kernel
theorem dX10_orders_31 : decode cX10_orders 31 = .ok (.getfield 352, 3) := by decide +kernel
theorem dX10_orders_34 : decode cX10_orders 34 = .ok (.goto 7, 3) := by decide +kernel
theorem dX10_orders_37 : decode cX10_orders 37 = .ok (.aload_n 0, 1) := by decide +kernel
theorem dX10_orders_38 : decode cX10_orders 38 = .ok (.getfield 355, 3) := by decide +kernel
theorem dX10_orders_41 : decode cX10_orders 41 = .ok (.ireturn, 1) := by decide +kernel
theorem dX10_byLetter_0 : decode cX10_byLetter 0 = .ok (.aload_n 0, 1) := by decide +kernel
theorem dX10_byLetter_1 : decode cX10_byLetter 1 = .ok (.getfield 190, 3) := by decide +kernel
theorem dX10_byLetter_4 : decode cX10_byLetter 4 = .ok (.istore_n 2, 1) := by decide +kernel
theorem dX10_byLetter_5 : decode cX10_byLetter 5 = .ok (.aload_n 0, 1) := by decide +kernel
theorem dX10_byLetter_6 : decode cX10_byLetter 6 = .ok (.getfield 26, 3) := by decide +kernel
theorem dX10_byLetter_9 : decode cX10_byLetter 9 = .ok (.iconst 0, 1) := by decide +kernel
theorem dX10_byLetter_10 : decode cX10_byLetter 10 = .ok (.iaload, 1) := by decide +kernel
theorem dX10_byLetter_11 : decode cX10_byLetter 11 = .ok (.istore_n 3, 1) := by decide +kernel
theorem dX10_byLetter_12 : decode cX10_byLetter 12 = .ok (.aload_n 0, 1) := by decide +kernel
theorem dX10_byLetter_13 : decode cX10_byLetter 13 = .ok (.iconst 1, 1) := by decide +kernel
theorem dX10_byLetter_14 : decode cX10_byLetter 14 = .ok (.putfield 190, 3) := by decide +kernel
theorem dX10_byLetter_17 : decode cX10_byLetter 17 = .ok (.aload_n 0, 1) := by decide +kernel
theorem dX10_byLetter_18 : decode cX10_byLetter 18 = .ok (.getfield 26, 3) := by decide +kernel
theorem dX10_byLetter_21 : decode cX10_byLetter 21 = .ok (.iconst 0, 1) := by decide +kernel
theorem dX10_byLetter_22 : decode cX10_byLetter 22 = .ok (.iload_n 1, 1) := by decide +kernel
theorem dX10_byLetter_23 : decode cX10_byLetter 23 = .ok (.iastore, 1) := by decide +kernel
theorem dX10_byLetter_24 : decode cX10_byLetter 24 = .ok (.aload_n 0, 1) := by decide +kernel
theorem dX10_byLetter_25 : decode cX10_byLetter 25 = .ok (.invokevirtual 312, 3) := by decide +kernel
theorem dX10_byLetter_28 : decode cX10_byLetter 28 = .ok (.istore 4, 2) := by decide +kernel
theorem dX10_byLetter_30 : decode cX10_byLetter 30 = .ok (.aload_n 0, 1) := by decide +kernel
theorem dX10_byLetter_31 : decode cX10_byLetter 31 = .ok (.iload_n 2, 1) := by decide +kernel
theorem dX10_byLetter_32 : decode cX10_byLetter 32 = .ok (.putfield 190, 3) := by decide +kernel
theorem dX10_byLetter_35 : decode cX10_byLetter 35 = .ok (.aload_n 0, 1) := by decide +kernel
theorem dX10_byLetter_36 : decode cX10_byLetter 36 = .ok (.getfield 26, 3) := by decide +kernel
theorem dX10_byLetter_39 : decode cX10_byLetter 39 = .ok (.iconst 0, 1) := by decide +kernel
theorem dX10_byLetter_40 : decode cX10_byLetter 40 = .ok (.iload_n 3, 1) := by decide +kernel
theorem dX10_byLetter_41 : decode cX10_byLetter 41 = .ok (.iastore, 1) := by decide +kernel
theorem dX10_byLetter_42 : decode cX10_byLetter 42 = .ok (.iload 4, 2) := by decide +kernel
theorem dX10_byLetter_44 : decode cX10_byLetter 44 = .ok (.ireturn, 1) := by decide +kernel
theorem dX10_rival_0 : decode cX10_rival 0 = .ok (.iload_n 1, 1) := by decide +kernel
theorem dX10_rival_1 : decode cX10_rival 1 = .ok (.iconst 0, 1) := by decide +kernel
theorem dX10_rival_2 : decode cX10_rival 2 = .ok (.iconst 5, 1) := by decide +kernel
theorem dX10_rival_3 : decode cX10_rival 3 = .ok (.invokestatic 121, 3) := by decide +kernel
theorem dX10_rival_6 : decode cX10_rival 6 = .ok (.ifCond .eq 11, 3) := by decide +kernel
theorem dX10_rival_9 : decode cX10_rival 9 = .ok (.aload_n 0, 1) := by decide +kernel
theorem dX10_rival_10 : decode cX10_rival 10 = .ok (.iload_n 1, 1) := by decide +kernel
theorem dX10_rival_11 : decode cX10_rival 11 = .ok (.invokevirtual 375, 3) := by decide +kernel
theorem dX10_rival_14 : decode cX10_rival 14 = .ok (.goto 4, 3) := by decide +kernel
theorem dX10_rival_17 : decode cX10_rival 17 = .ok (.iconst (-1), 1) := by decide +kernel
theorem dX10_rival_18 : decode cX10_rival 18 = .ok (.ireturn, 1) := by decide +kernel
theorem dX10_bestRule_0 : decode cX10_bestRule 0 = .ok (.iconst 0, 1) := by decide +kernel
theorem dX10_bestRule_1 : decode cX10_bestRule 1 = .ok (.istore_n 1, 1) := by decide +kernel
theorem dX10_bestRule_2 : decode cX10_bestRule 2 = .ok (.iconst 1, 1) := by decide +kernel
theorem dX10_bestRule_3 : decode cX10_bestRule 3 = .ok (.istore_n 2, 1) := by decide +kernel
theorem dX10_bestRule_4 : decode cX10_bestRule 4 = .ok (.iload_n 2, 1) := by decide +kernel
theorem dX10_bestRule_5 : decode cX10_bestRule 5 = .ok (.bipush 6, 2) := by decide +kernel
theorem dX10_bestRule_7 : decode cX10_bestRule 7 = .ok (.if_icmp .ge 28, 3) := by decide +kernel
theorem dX10_bestRule_10 : decode cX10_bestRule 10 = .ok (.aload_n 0, 1) := by decide +kernel
theorem dX10_bestRule_11 : decode cX10_bestRule 11 = .ok (.iload_n 2, 1) := by decide +kernel
theorem dX10_bestRule_12 : decode cX10_bestRule 12 = .ok (.invokevirtual 375, 3) := by decide +kernel
theorem dX10_bestRule_15 : decode cX10_bestRule 15 = .ok (.aload_n 0, 1) := by decide +kernel
theorem dX10_bestRule_16 : decode cX10_bestRule 16 = .ok (.iload_n 1, 1) := by decide +kernel
theorem dX10_bestRule_17 : decode cX10_bestRule 17 = .ok (.invokevirtual 375, 3) := by decide +kernel
theorem dX10_bestRule_20 : decode cX10_bestRule 20 = .ok (.if_icmp .ge 7, 3) := by decide +kernel
theorem dX10_bestRule_23 : decode cX10_bestRule 23 = .ok (.iload_n 2, 1) := by decide +kernel
theorem dX10_bestRule_24 : decode cX10_bestRule 24 = .ok (.goto 4, 3) := by decide +kernel
theorem dX10_bestRule_27 : decode cX10_bestRule 27 = .ok (.iload_n 1, 1) := by decide +kernel
theorem dX10_bestRule_28 : decode cX10_bestRule 28 = .ok (.istore_n 1, 1) := by decide +kernel
theorem dX10_bestRule_29 : decode cX10_bestRule 29 = .ok (.iinc 2 1, 3) := by decide +kernel
theorem dX10_bestRule_32 : decode cX10_bestRule 32 = .ok (.goto (-28), 3) := by decide +kernel
theorem dX10_bestRule_35 : decode cX10_bestRule 35 = .ok (.iload_n 1, 1) := by decide +kernel
theorem dX10_bestRule_36 : decode cX10_bestRule 36 = .ok (.ireturn, 1) := by decide +kernel
theorem dX10_whose_0 : decode cX10_whose 0 = .ok (.aload_n 0, 1) := by decide +kernel
theorem dX10_whose_1 : decode cX10_whose 1 = .ok (.iload_n 1, 1) := by decide +kernel
theorem dX10_whose_2 : decode cX10_whose 2 = .ok (.invokevirtual 176, 3) := by decide +kernel
theorem dX10_whose_5 : decode cX10_whose 5 = .ok (.ifCond .ne 5, 3) := by decide +kernel
theorem dX10_whose_8 : decode cX10_whose 8 = .ok (.iconst (-1), 1) := by decide +kernel
theorem dX10_whose_9 : decode cX10_whose 9 = .ok (.ireturn, 1) := by decide +kernel
theorem dX10_whose_10 : decode cX10_whose 10 = .ok (.aload_n 0, 1) := by decide +kernel
theorem dX10_whose_11 : decode cX10_whose 11 = .ok (.invokevirtual 312, 3) := by decide +kernel
theorem dX10_whose_14 : decode cX10_whose 14 = .ok (.pop, 1) := by decide +kernel
theorem dX10_whose_15 : decode cX10_whose 15 = .ok (.aload_n 0, 1) := by decide +kernel
theorem dX10_whose_16 : decode cX10_whose 16 = .ok (.getfield 57, 3) := by decide +kernel
theorem dX10_whose_19 : decode cX10_whose 19 = .ok (.iload_n 1, 1) := by decide +kernel
theorem dX10_whose_20 : decode cX10_whose 20 = .ok (.iaload, 1) := by decide +kernel
theorem dX10_whose_21 : decode cX10_whose 21 = .ok (.istore_n 2, 1) := by decide +kernel
theorem dX10_whose_22 : decode cX10_whose 22 = .ok (.iconst 0, 1) := by decide +kernel
theorem dX10_whose_23 : decode cX10_whose 23 = .ok (.istore_n 3, 1) := by decide +kernel
theorem dX10_whose_24 : decode cX10_whose 24 = .ok (.iconst 0, 1) := by decide +kernel
theorem dX10_whose_25 : decode cX10_whose 25 = .ok (.istore 4, 2) := by decide +kernel
theorem dX10_whose_27 : decode cX10_whose 27 = .ok (.iload 4, 2) := by decide +kernel
theorem dX10_whose_29 : decode cX10_whose 29 = .ok (.aload_n 0, 1) := by decide +kernel
theorem dX10_whose_30 : decode cX10_whose 30 = .ok (.getfield 118, 3) := by decide +kernel
theorem dX10_whose_33 : decode cX10_whose 33 = .ok (.if_icmp .ge 55, 3) := by decide +kernel
theorem dX10_whose_36 : decode cX10_whose 36 = .ok (.iload 4, 2) := by decide +kernel
theorem dX10_whose_38 : decode cX10_whose 38 = .ok (.iload_n 1, 1) := by decide +kernel
theorem dX10_whose_39 : decode cX10_whose 39 = .ok (.if_icmp .eq 43, 3) := by decide +kernel
theorem dX10_whose_42 : decode cX10_whose 42 = .ok (.aload_n 0, 1) := by decide +kernel
theorem dX10_whose_43 : decode cX10_whose 43 = .ok (.invokevirtual 244, 3) := by decide +kernel
theorem dX10_whose_46 : decode cX10_whose 46 = .ok (.aload_n 0, 1) := by decide +kernel
theorem dX10_whose_47 : decode cX10_whose 47 = .ok (.iload 4, 2) := by decide +kernel
theorem dX10_whose_49 : decode cX10_whose 49 = .ok (.invokevirtual 247, 3) := by decide +kernel
theorem dX10_whose_52 : decode cX10_whose 52 = .ok (.aload_n 0, 1) := by decide +kernel
theorem dX10_whose_53 : decode cX10_whose 53 = .ok (.invokevirtual 251, 3) := by decide +kernel
theorem dX10_whose_56 : decode cX10_whose 56 = .ok (.aload_n 0, 1) := by decide +kernel
theorem dX10_whose_57 : decode cX10_whose 57 = .ok (.invokevirtual 309, 3) := by decide +kernel
theorem dX10_whose_60 : decode cX10_whose 60 = .ok (.pop, 1) := by decide +kernel
theorem dX10_whose_61 : decode cX10_whose 61 = .ok (.iload_n 3, 1) := by decide +kernel
theorem dX10_whose_62 : decode cX10_whose 62 = .ok (.aload_n 0, 1) := by decide +kernel
theorem dX10_whose_63 : decode cX10_whose 63 = .ok (.getfield 57, 3) := by decide +kernel
theorem dX10_whose_66 : decode cX10_whose 66 = .ok (.iload_n 1, 1) := by decide +kernel
theorem dX10_whose_67 : decode cX10_whose 67 = .ok (.iaload, 1) := by decide +kernel
theorem dX10_whose_68 : decode cX10_whose 68 = .ok (.iload_n 2, 1) := by decide +kernel
theorem dX10_whose_69 : decode cX10_whose 69 = .ok (.if_icmp .ge 10, 3) := by decide +kernel
theorem dX10_whose_72 : decode cX10_whose 72 = .ok (.iconst 1, 1) := by decide +kernel
theorem dX10_whose_73 : decode cX10_whose 73 = .ok (.iload 4, 2) := by decide +kernel
theorem dX10_whose_75 : decode cX10_whose 75 = .ok (.ishl, 1) := by decide +kernel
theorem dX10_whose_76 : decode cX10_whose 76 = .ok (.goto 4, 3) := by decide +kernel
theorem dX10_whose_79 : decode cX10_whose 79 = .ok (.iconst 0, 1) := by decide +kernel
theorem dX10_whose_80 : decode cX10_whose 80 = .ok (.ior, 1) := by decide +kernel
theorem dX10_whose_81 : decode cX10_whose 81 = .ok (.istore_n 3, 1) := by decide +kernel
theorem dX10_whose_82 : decode cX10_whose 82 = .ok (.iinc 4 1, 3) := by decide +kernel
theorem dX10_whose_85 : decode cX10_whose 85 = .ok (.goto (-58), 3) := by decide +kernel
theorem dX10_whose_88 : decode cX10_whose 88 = .ok (.iload_n 3, 1) := by decide +kernel
theorem dX10_whose_89 : decode cX10_whose 89 = .ok (.ireturn, 1) := by decide +kernel
theorem dX10_two_0 : decode cX10_two 0 = .ok (.aload_n 0, 1) := by decide +kernel
theorem dX10_two_1 : decode cX10_two 1 = .ok (.iload_n 1, 1) := by decide +kernel
theorem dX10_two_2 : decode cX10_two 2 = .ok (.invokevirtual 176, 3) := by decide +kernel
theorem dX10_two_5 : decode cX10_two 5 = .ok (.ifCond .eq 16, 3) := by decide +kernel
theorem dX10_two_8 : decode cX10_two 8 = .ok (.aload_n 0, 1) := by decide +kernel
theorem dX10_two_9 : decode cX10_two 9 = .ok (.iload_n 2, 1) := by decide +kernel
theorem dX10_two_10 : decode cX10_two 10 = .ok (.invokevirtual 176, 3) := by decide +kernel
theorem dX10_two_13 : decode cX10_two 13 = .ok (.ifCond .eq 8, 3) := by decide +kernel
theorem dX10_two_16 : decode cX10_two 16 = .ok (.iload_n 1, 1) := by decide +kernel
theorem dX10_two_17 : decode cX10_two 17 = .ok (.iload_n 2, 1) := by decide +kernel
theorem dX10_two_18 : decode cX10_two 18 = .ok (.if_icmp .ne 5, 3) := by decide +kernel
theorem dX10_two_21 : decode cX10_two 21 = .ok (.iconst (-1), 1) := by decide +kernel
theorem dX10_two_22 : decode cX10_two 22 = .ok (.ireturn, 1) := by decide +kernel
theorem dX10_two_23 : decode cX10_two 23 = .ok (.iconst 0, 1) := by decide +kernel
theorem dX10_two_24 : decode cX10_two 24 = .ok (.istore_n 3, 1) := by decide +kernel
theorem dX10_two_25 : decode cX10_two 25 = .ok (.iload_n 3, 1) := by decide +kernel
theorem dX10_two_26 : decode cX10_two 26 = .ok (.bipush 9, 2) := by decide +kernel
theorem dX10_two_28 : decode cX10_two 28 = .ok (.if_icmp .ge 117, 3) := by decide +kernel
theorem dX10_two_31 : decode cX10_two 31 = .ok (.aload_n 0, 1) := by decide +kernel
theorem dX10_two_32 : decode cX10_two 32 = .ok (.invokevirtual 244, 3) := by decide +kernel
theorem dX10_two_35 : decode cX10_two 35 = .ok (.aload_n 0, 1) := by decide +kernel
theorem dX10_two_36 : decode cX10_two 36 = .ok (.getfield 45, 3) := by decide +kernel
theorem dX10_two_39 : decode cX10_two 39 = .ok (.iload_n 1, 1) := by decide +kernel
theorem dX10_two_40 : decode cX10_two 40 = .ok (.aload_n 0, 1) := by decide +kernel
theorem dX10_two_41 : decode cX10_two 41 = .ok (.getfield 7, 3) := by decide +kernel
theorem dX10_two_44 : decode cX10_two 44 = .ok (.iload_n 1, 1) := by decide +kernel
theorem dX10_two_45 : decode cX10_two 45 = .ok (.iaload, 1) := by decide +kernel
theorem dX10_two_46 : decode cX10_two 46 = .ok (.aload_n 0, 1) := by decide +kernel
theorem dX10_two_47 : decode cX10_two 47 = .ok (.getfield 13, 3) := by decide +kernel
theorem dX10_two_50 : decode cX10_two 50 = .ok (.iload_n 1, 1) := by decide +kernel
theorem dX10_two_51 : decode cX10_two 51 = .ok (.iaload, 1) := by decide +kernel
theorem dX10_two_52 : decode cX10_two 52 = .ok (.aload_n 0, 1) := by decide +kernel
theorem dX10_two_53 : decode cX10_two 53 = .ok (.getfield 16, 3) := by decide +kernel
theorem dX10_two_56 : decode cX10_two 56 = .ok (.iload_n 1, 1) := by decide +kernel
theorem dX10_two_57 : decode cX10_two 57 = .ok (.iaload, 1) := by decide +kernel
theorem dX10_two_58 : decode cX10_two 58 = .ok (.iconst 5, 1) := by decide +kernel
theorem dX10_two_59 : decode cX10_two 59 = .ok (.iload_n 3, 1) := by decide +kernel
theorem dX10_two_60 : decode cX10_two 60 = .ok (.iconst 3, 1) := by decide +kernel
theorem dX10_two_61 : decode cX10_two 61 = .ok (.idiv, 1) := by decide +kernel
theorem dX10_two_62 : decode cX10_two 62 = .ok (.imul, 1) := by decide +kernel
theorem dX10_two_63 : decode cX10_two 63 = .ok (.iadd, 1) := by decide +kernel
theorem dX10_two_64 : decode cX10_two 64 = .ok (.invokestatic 213, 3) := by decide +kernel
theorem dX10_two_67 : decode cX10_two 67 = .ok (.iastore, 1) := by decide +kernel
theorem dX10_two_68 : decode cX10_two 68 = .ok (.aload_n 0, 1) := by decide +kernel
theorem dX10_two_69 : decode cX10_two 69 = .ok (.getfield 45, 3) := by decide +kernel
theorem dX10_two_72 : decode cX10_two 72 = .ok (.iload_n 2, 1) := by decide +kernel
theorem dX10_two_73 : decode cX10_two 73 = .ok (.aload_n 0, 1) := by decide +kernel
theorem dX10_two_74 : decode cX10_two 74 = .ok (.getfield 7, 3) := by decide +kernel
theorem dX10_two_77 : decode cX10_two 77 = .ok (.iload_n 2, 1) := by decide +kernel
theorem dX10_two_78 : decode cX10_two 78 = .ok (.iaload, 1) := by decide +kernel
theorem dX10_two_79 : decode cX10_two 79 = .ok (.aload_n 0, 1) := by decide +kernel
theorem dX10_two_80 : decode cX10_two 80 = .ok (.getfield 13, 3) := by decide +kernel
theorem dX10_two_83 : decode cX10_two 83 = .ok (.iload_n 2, 1) := by decide +kernel
theorem dX10_two_84 : decode cX10_two 84 = .ok (.iaload, 1) := by decide +kernel
theorem dX10_two_85 : decode cX10_two 85 = .ok (.aload_n 0, 1) := by decide +kernel
theorem dX10_two_86 : decode cX10_two 86 = .ok (.getfield 16, 3) := by decide +kernel
theorem dX10_two_89 : decode cX10_two 89 = .ok (.iload_n 2, 1) := by decide +kernel
theorem dX10_two_90 : decode cX10_two 90 = .ok (.iaload, 1) := by decide +kernel
theorem dX10_two_91 : decode cX10_two 91 = .ok (.iconst 5, 1) := by decide +kernel
theorem dX10_two_92 : decode cX10_two 92 = .ok (.iload_n 3, 1) := by decide +kernel
theorem dX10_two_93 : decode cX10_two 93 = .ok (.iconst 3, 1) := by decide +kernel
theorem dX10_two_94 : decode cX10_two 94 = .ok (.irem, 1) := by decide +kernel
theorem dX10_two_95 : decode cX10_two 95 = .ok (.imul, 1) := by decide +kernel
theorem dX10_two_96 : decode cX10_two 96 = .ok (.iadd, 1) := by decide +kernel
theorem dX10_two_97 : decode cX10_two 97 = .ok (.invokestatic 213, 3) := by decide +kernel
theorem dX10_two_100 : decode cX10_two 100 = .ok (.iastore, 1) := by decide +kernel
theorem dX10_two_101 : decode cX10_two 101 = .ok (.aload_n 0, 1) := by decide +kernel
theorem dX10_two_102 : decode cX10_two 102 = .ok (.iconst (-1), 1) := by decide +kernel
theorem dX10_two_103 : decode cX10_two 103 = .ok (.invokevirtual 247, 3) := by decide +kernel
theorem dX10_two_106 : decode cX10_two 106 = .ok (.aload_n 0, 1) := by decide +kernel
theorem dX10_two_107 : decode cX10_two 107 = .ok (.invokevirtual 251, 3) := by decide +kernel
theorem dX10_two_110 : decode cX10_two 110 = .ok (.aload_n 0, 1) := by decide +kernel
theorem dX10_two_111 : decode cX10_two 111 = .ok (.invokevirtual 309, 3) := by decide +kernel
theorem dX10_two_114 : decode cX10_two 114 = .ok (.pop, 1) := by decide +kernel
theorem dX10_two_115 : decode cX10_two 115 = .ok (.aload_n 0, 1) := by decide +kernel
theorem dX10_two_116 : decode cX10_two 116 = .ok (.getfield 85, 3) := by decide +kernel
theorem dX10_two_119 : decode cX10_two 119 = .ok (.iload_n 3, 1) := by decide +kernel
theorem dX10_two_120 : decode cX10_two 120 = .ok (.aload_n 0, 1) := by decide +kernel
theorem dX10_two_121 : decode cX10_two 121 = .ok (.getfield 57, 3) := by decide +kernel
theorem dX10_two_124 : decode cX10_two 124 = .ok (.iload_n 1, 1) := by decide +kernel
theorem dX10_two_125 : decode cX10_two 125 = .ok (.iaload, 1) := by decide +kernel
theorem dX10_two_126 : decode cX10_two 126 = .ok (.iastore, 1) := by decide +kernel
theorem dX10_two_127 : decode cX10_two 127 = .ok (.aload_n 0, 1) := by decide +kernel
theorem dX10_two_128 : decode cX10_two 128 = .ok (.getfield 88, 3) := by decide +kernel
theorem dX10_two_131 : decode cX10_two 131 = .ok (.iload_n 3, 1) := by decide +kernel
theorem dX10_two_132 : decode cX10_two 132 = .ok (.aload_n 0, 1) := by decide +kernel
theorem dX10_two_133 : decode cX10_two 133 = .ok (.getfield 57, 3) := by decide +kernel
theorem dX10_two_136 : decode cX10_two 136 = .ok (.iload_n 2, 1) := by decide +kernel
theorem dX10_two_137 : decode cX10_two 137 = .ok (.iaload, 1) := by decide +kernel
theorem dX10_two_138 : decode cX10_two 138 = .ok (.iastore, 1) := by decide +kernel
theorem dX10_two_139 : decode cX10_two 139 = .ok (.iinc 3 1, 3) := by decide +kernel
theorem dX10_two_142 : decode cX10_two 142 = .ok (.goto (-117), 3) := by decide +kernel
theorem dX10_two_145 : decode cX10_two 145 = .ok (.iconst 0, 1) := by decide +kernel
theorem dX10_two_146 : decode cX10_two 146 = .ok (.istore_n 3, 1) := by decide +kernel
theorem dX10_two_147 : decode cX10_two 147 = .ok (.iload_n 3, 1) := by decide +kernel
theorem dX10_two_148 : decode cX10_two 148 = .ok (.bipush 9, 2) := by decide +kernel
theorem dX10_two_150 : decode cX10_two 150 = .ok (.if_icmp .ge 99, 3) := by decide +kernel
theorem dX10_two_153 : decode cX10_two 153 = .ok (.iconst 1, 1) := by decide +kernel
theorem dX10_two_154 : decode cX10_two 154 = .ok (.istore 4, 2) := by decide +kernel
theorem dX10_two_156 : decode cX10_two 156 = .ok (.iconst 0, 1) := by decide +kernel
theorem dX10_two_157 : decode cX10_two 157 = .ok (.istore 5, 2) := by decide +kernel
theorem dX10_two_159 : decode cX10_two 159 = .ok (.iload 5, 2) := by decide +kernel
theorem dX10_two_161 : decode cX10_two 161 = .ok (.iconst 3, 1) := by decide +kernel
theorem dX10_two_162 : decode cX10_two 162 = .ok (.if_icmp .ge 65, 3) := by decide +kernel
theorem dX10_two_165 : decode cX10_two 165 = .ok (.iload 4, 2) := by decide +kernel
theorem dX10_two_167 : decode cX10_two 167 = .ok (.ifCond .eq 51, 3) := by decide +kernel
theorem dX10_two_170 : decode cX10_two 170 = .ok (.aload_n 0, 1) := by decide +kernel
theorem dX10_two_171 : decode cX10_two 171 = .ok (.getfield 85, 3) := by decide +kernel
theorem dX10_two_174 : decode cX10_two 174 = .ok (.iconst 3, 1) := by decide +kernel
theorem dX10_two_175 : decode cX10_two 175 = .ok (.iload 5, 2) := by decide +kernel
theorem dX10_two_177 : decode cX10_two 177 = .ok (.imul, 1) := by decide +kernel
theorem dX10_two_178 : decode cX10_two 178 = .ok (.iload_n 3, 1) := by decide +kernel
theorem dX10_two_179 : decode cX10_two 179 = .ok (.iconst 3, 1) := by decide +kernel
theorem dX10_two_180 : decode cX10_two 180 = .ok (.irem, 1) := by decide +kernel
theorem dX10_two_181 : decode cX10_two 181 = .ok (.iadd, 1) := by decide +kernel
theorem dX10_two_182 : decode cX10_two 182 = .ok (.iaload, 1) := by decide +kernel
theorem dX10_two_183 : decode cX10_two 183 = .ok (.aload_n 0, 1) := by decide +kernel
theorem dX10_two_184 : decode cX10_two 184 = .ok (.getfield 85, 3) := by decide +kernel
theorem dX10_two_187 : decode cX10_two 187 = .ok (.iload_n 3, 1) := by decide +kernel
theorem dX10_two_188 : decode cX10_two 188 = .ok (.iaload, 1) := by decide +kernel
theorem dX10_two_189 : decode cX10_two 189 = .ok (.if_icmp .lt 29, 3) := by decide +kernel
theorem dX10_two_192 : decode cX10_two 192 = .ok (.aload_n 0, 1) := by decide +kernel
theorem dX10_two_193 : decode cX10_two 193 = .ok (.getfield 88, 3) := by decide +kernel
theorem dX10_two_196 : decode cX10_two 196 = .ok (.iload_n 3, 1) := by decide +kernel
theorem dX10_two_197 : decode cX10_two 197 = .ok (.iconst 3, 1) := by decide +kernel
theorem dX10_two_198 : decode cX10_two 198 = .ok (.idiv, 1) := by decide +kernel
theorem dX10_two_199 : decode cX10_two 199 = .ok (.iconst 3, 1) := by decide +kernel
theorem dX10_two_200 : decode cX10_two 200 = .ok (.imul, 1) := by decide +kernel
theorem dX10_two_201 : decode cX10_two 201 = .ok (.iload 5, 2) := by decide +kernel
theorem dX10_two_203 : decode cX10_two 203 = .ok (.iadd, 1) := by decide +kernel
theorem dX10_two_204 : decode cX10_two 204 = .ok (.iaload, 1) := by decide +kernel
theorem dX10_two_205 : decode cX10_two 205 = .ok (.aload_n 0, 1) := by decide +kernel
theorem dX10_two_206 : decode cX10_two 206 = .ok (.getfield 88, 3) := by decide +kernel
theorem dX10_two_209 : decode cX10_two 209 = .ok (.iload_n 3, 1) := by decide +kernel
theorem dX10_two_210 : decode cX10_two 210 = .ok (.iaload, 1) := by decide +kernel
theorem dX10_two_211 : decode cX10_two 211 = .ok (.if_icmp .lt 7, 3) := by decide +kernel
theorem dX10_two_214 : decode cX10_two 214 = .ok (.iconst 1, 1) := by decide +kernel
theorem dX10_two_215 : decode cX10_two 215 = .ok (.goto 4, 3) := by decide +kernel
theorem dX10_two_218 : decode cX10_two 218 = .ok (.iconst 0, 1) := by decide +kernel
theorem dX10_two_219 : decode cX10_two 219 = .ok (.istore 4, 2) := by decide +kernel
theorem dX10_two_221 : decode cX10_two 221 = .ok (.iinc 5 1, 3) := by decide +kernel
theorem dX10_two_224 : decode cX10_two 224 = .ok (.goto (-65), 3) := by decide +kernel
theorem dX10_two_227 : decode cX10_two 227 = .ok (.iload 4, 2) := by decide +kernel
theorem dX10_two_229 : decode cX10_two 229 = .ok (.ifCond .eq 14, 3) := by decide +kernel
theorem dX10_two_232 : decode cX10_two 232 = .ok (.bipush 10, 2) := by decide +kernel
theorem dX10_two_234 : decode cX10_two 234 = .ok (.iload_n 3, 1) := by decide +kernel
theorem dX10_two_235 : decode cX10_two 235 = .ok (.iconst 3, 1) := by decide +kernel
theorem dX10_two_236 : decode cX10_two 236 = .ok (.idiv, 1) := by decide +kernel
theorem dX10_two_237 : decode cX10_two 237 = .ok (.imul, 1) := by decide +kernel
theorem dX10_two_238 : decode cX10_two 238 = .ok (.iload_n 3, 1) := by decide +kernel
theorem dX10_two_239 : decode cX10_two 239 = .ok (.iconst 3, 1) := by decide +kernel
theorem dX10_two_240 : decode cX10_two 240 = .ok (.irem, 1) := by decide +kernel
theorem dX10_two_241 : decode cX10_two 241 = .ok (.iadd, 1) := by decide +kernel
theorem dX10_two_242 : decode cX10_two 242 = .ok (.ireturn, 1) := by decide +kernel
theorem dX10_two_243 : decode cX10_two 243 = .ok (.iinc 3 1, 3) := by decide +kernel
theorem dX10_two_246 : decode cX10_two 246 = .ok (.goto (-99), 3) := by decide +kernel
theorem dX10_two_249 : decode cX10_two 249 = .ok (.bipush (-4), 2) := by decide +kernel
theorem dX10_two_251 : decode cX10_two 251 = .ok (.ireturn, 1) := by decide +kernel
theorem dX10_chain_0 : decode cX10_chain 0 = .ok (.aload_n 0, 1) := by decide +kernel
theorem dX10_chain_1 : decode cX10_chain 1 = .ok (.iload_n 1, 1) := by decide +kernel
theorem dX10_chain_2 : decode cX10_chain 2 = .ok (.invokevirtual 176, 3) := by decide +kernel
theorem dX10_chain_5 : decode cX10_chain 5 = .ok (.ifCond .ne 5, 3) := by decide +kernel
theorem dX10_chain_8 : decode cX10_chain 8 = .ok (.iconst (-1), 1) := by decide +kernel
theorem dX10_chain_9 : decode cX10_chain 9 = .ok (.ireturn, 1) := by decide +kernel
theorem dX10_chain_10 : decode cX10_chain 10 = .ok (.aload_n 0, 1) := by decide +kernel
theorem dX10_chain_11 : decode cX10_chain 11 = .ok (.invokevirtual 312, 3) := by decide +kernel
theorem dX10_chain_14 : decode cX10_chain 14 = .ok (.pop, 1) := by decide +kernel
theorem dX10_chain_15 : decode cX10_chain 15 = .ok (.aload_n 0, 1) := by decide +kernel
theorem dX10_chain_16 : decode cX10_chain 16 = .ok (.getfield 66, 3) := by decide +kernel
theorem dX10_chain_19 : decode cX10_chain 19 = .ok (.iload_n 1, 1) := by decide +kernel
theorem dX10_chain_20 : decode cX10_chain 20 = .ok (.iaload, 1) := by decide +kernel
theorem dX10_chain_21 : decode cX10_chain 21 = .ok (.istore_n 2, 1) := by decide +kernel
theorem dX10_chain_22 : decode cX10_chain 22 = .ok (.iconst 1, 1) := by decide +kernel
theorem dX10_chain_23 : decode cX10_chain 23 = .ok (.istore_n 3, 1) := by decide +kernel
theorem dX10_chain_24 : decode cX10_chain 24 = .ok (.iload_n 2, 1) := by decide +kernel
theorem dX10_chain_25 : decode cX10_chain 25 = .ok (.bipush (-4), 2) := by decide +kernel
theorem dX10_chain_27 : decode cX10_chain 27 = .ok (.if_icmp .eq 27, 3) := by decide +kernel
theorem dX10_chain_30 : decode cX10_chain 30 = .ok (.iload_n 2, 1) := by decide +kernel
theorem dX10_chain_31 : decode cX10_chain 31 = .ok (.iload_n 1, 1) := by decide +kernel
theorem dX10_chain_32 : decode cX10_chain 32 = .ok (.if_icmp .eq 22, 3) := by decide +kernel
theorem dX10_chain_35 : decode cX10_chain 35 = .ok (.iload_n 3, 1) := by decide +kernel
theorem dX10_chain_36 : decode cX10_chain 36 = .ok (.bipush 10, 2) := by decide +kernel
theorem dX10_chain_38 : decode cX10_chain 38 = .ok (.if_icmp .gt 16, 3) := by decide +kernel
theorem dX10_chain_41 : decode cX10_chain 41 = .ok (.aload_n 0, 1) := by decide +kernel
theorem dX10_chain_42 : decode cX10_chain 42 = .ok (.getfield 66, 3) := by decide +kernel
theorem dX10_chain_45 : decode cX10_chain 45 = .ok (.iload_n 2, 1) := by decide +kernel
theorem dX10_chain_46 : decode cX10_chain 46 = .ok (.iaload, 1) := by decide +kernel
theorem dX10_chain_47 : decode cX10_chain 47 = .ok (.istore_n 2, 1) := by decide +kernel
theorem dX10_chain_48 : decode cX10_chain 48 = .ok (.iinc 3 1, 3) := by decide +kernel
theorem dX10_chain_51 : decode cX10_chain 51 = .ok (.goto (-27), 3) := by decide +kernel
theorem dX10_chain_54 : decode cX10_chain 54 = .ok (.iload_n 2, 1) := by decide +kernel
theorem dX10_chain_55 : decode cX10_chain 55 = .ok (.iload_n 1, 1) := by decide +kernel
theorem dX10_chain_56 : decode cX10_chain 56 = .ok (.if_icmp .ne 7, 3) := by decide +kernel
theorem dX10_chain_59 : decode cX10_chain 59 = .ok (.iload_n 3, 1) := by decide +kernel
theorem dX10_chain_60 : decode cX10_chain 60 = .ok (.goto 4, 3) := by decide +kernel
theorem dX10_chain_63 : decode cX10_chain 63 = .ok (.iconst 0, 1) := by decide +kernel
theorem dX10_chain_64 : decode cX10_chain 64 = .ok (.ireturn, 1) := by decide +kernel
theorem dX10_judge_0 : decode cX10_judge 0 = .ok (.iload_n 1, 1) := by decide +kernel
theorem dX10_judge_1 : decode cX10_judge 1 = .ok (.invokestatic 207, 3) := by decide +kernel
theorem dX10_judge_4 : decode cX10_judge 4 = .ok (.ifCond .ne 5, 3) := by decide +kernel
theorem dX10_judge_7 : decode cX10_judge 7 = .ok (.iconst (-1), 1) := by decide +kernel
theorem dX10_judge_8 : decode cX10_judge 8 = .ok (.ireturn, 1) := by decide +kernel
theorem dX10_judge_9 : decode cX10_judge 9 = .ok (.aload_n 0, 1) := by decide +kernel
theorem dX10_judge_10 : decode cX10_judge 10 = .ok (.getfield 97, 3) := by decide +kernel
theorem dX10_judge_13 : decode cX10_judge 13 = .ok (.iload_n 1, 1) := by decide +kernel
theorem dX10_judge_14 : decode cX10_judge 14 = .ok (.iaload, 1) := by decide +kernel
theorem dX10_judge_15 : decode cX10_judge 15 = .ok (.iconst 2, 1) := by decide +kernel
theorem dX10_judge_16 : decode cX10_judge 16 = .ok (.if_icmp .eq 20, 3) := by decide +kernel
theorem dX10_judge_19 : decode cX10_judge 19 = .ok (.aload_n 0, 1) := by decide +kernel
theorem dX10_judge_20 : decode cX10_judge 20 = .ok (.getfield 97, 3) := by decide +kernel
theorem dX10_judge_23 : decode cX10_judge 23 = .ok (.iload_n 1, 1) := by decide +kernel
theorem dX10_judge_24 : decode cX10_judge 24 = .ok (.iaload, 1) := by decide +kernel
theorem dX10_judge_25 : decode cX10_judge 25 = .ok (.ifCond .ne 8, 3) := by decide +kernel
theorem dX10_judge_28 : decode cX10_judge 28 = .ok (.bipush (-11), 2) := by decide +kernel
theorem dX10_judge_30 : decode cX10_judge 30 = .ok (.goto 5, 3) := by decide +kernel
theorem dX10_judge_33 : decode cX10_judge 33 = .ok (.bipush (-12), 2) := by decide +kernel
theorem dX10_judge_35 : decode cX10_judge 35 = .ok (.ireturn, 1) := by decide +kernel
theorem dX10_judge_36 : decode cX10_judge 36 = .ok (.aload_n 0, 1) := by decide +kernel
theorem dX10_judge_37 : decode cX10_judge 37 = .ok (.invokevirtual 225, 3) := by decide +kernel
theorem dX10_judge_40 : decode cX10_judge 40 = .ok (.aload_n 0, 1) := by decide +kernel
theorem dX10_judge_41 : decode cX10_judge 41 = .ok (.invokevirtual 228, 3) := by decide +kernel
theorem dX10_judge_44 : decode cX10_judge 44 = .ok (.iconst 0, 1) := by decide +kernel
theorem dX10_judge_45 : decode cX10_judge 45 = .ok (.istore_n 2, 1) := by decide +kernel
theorem dX10_judge_46 : decode cX10_judge 46 = .ok (.iconst 0, 1) := by decide +kernel
theorem dX10_judge_47 : decode cX10_judge 47 = .ok (.istore_n 3, 1) := by decide +kernel
theorem dX10_judge_48 : decode cX10_judge 48 = .ok (.iload_n 3, 1) := by decide +kernel
theorem dX10_judge_49 : decode cX10_judge 49 = .ok (.aload_n 0, 1) := by decide +kernel
theorem dX10_judge_50 : decode cX10_judge 50 = .ok (.getfield 109, 3) := by decide +kernel
theorem dX10_judge_53 : decode cX10_judge 53 = .ok (.iload_n 1, 1) := by decide +kernel
theorem dX10_judge_54 : decode cX10_judge 54 = .ok (.iaload, 1) := by decide +kernel
theorem dX10_judge_55 : decode cX10_judge 55 = .ok (.if_icmp .ge 107, 3) := by decide +kernel
theorem dX10_judge_58 : decode cX10_judge 58 = .ok (.aload_n 0, 1) := by decide +kernel
theorem dX10_judge_59 : decode cX10_judge 59 = .ok (.getfield 112, 3) := by decide +kernel
theorem dX10_judge_62 : decode cX10_judge 62 = .ok (.bipush 100, 2) := by decide +kernel
theorem dX10_judge_64 : decode cX10_judge 64 = .ok (.iload_n 1, 1) := by decide +kernel
theorem dX10_judge_65 : decode cX10_judge 65 = .ok (.imul, 1) := by decide +kernel
theorem dX10_judge_66 : decode cX10_judge 66 = .ok (.iload_n 3, 1) := by decide +kernel
theorem dX10_judge_67 : decode cX10_judge 67 = .ok (.iadd, 1) := by decide +kernel
theorem dX10_judge_68 : decode cX10_judge 68 = .ok (.iaload, 1) := by decide +kernel
theorem dX10_judge_69 : decode cX10_judge 69 = .ok (.istore 4, 2) := by decide +kernel
theorem dX10_judge_71 : decode cX10_judge 71 = .ok (.aload_n 0, 1) := by decide +kernel
theorem dX10_judge_72 : decode cX10_judge 72 = .ok (.iload 4, 2) := by decide +kernel
theorem dX10_judge_74 : decode cX10_judge 74 = .ok (.invokevirtual 176, 3) := by decide +kernel
theorem dX10_judge_77 : decode cX10_judge 77 = .ok (.ifCond .eq 13, 3) := by decide +kernel
theorem dX10_judge_80 : decode cX10_judge 80 = .ok (.iload_n 2, 1) := by decide +kernel
theorem dX10_judge_81 : decode cX10_judge 81 = .ok (.iload 4, 2) := by decide +kernel
theorem dX10_judge_83 : decode cX10_judge 83 = .ok (.ishr, 1) := by decide +kernel
theorem dX10_judge_84 : decode cX10_judge 84 = .ok (.iconst 1, 1) := by decide +kernel
theorem dX10_judge_85 : decode cX10_judge 85 = .ok (.iand, 1) := by decide +kernel
theorem dX10_judge_86 : decode cX10_judge 86 = .ok (.iconst 1, 1) := by decide +kernel
theorem dX10_judge_87 : decode cX10_judge 87 = .ok (.if_icmp .ne 5, 3) := by decide +kernel
theorem dX10_judge_90 : decode cX10_judge 90 = .ok (.iload_n 3, 1) := by decide +kernel
theorem dX10_judge_91 : decode cX10_judge 91 = .ok (.ireturn, 1) := by decide +kernel
theorem dX10_judge_92 : decode cX10_judge 92 = .ok (.iload_n 2, 1) := by decide +kernel
theorem dX10_judge_93 : decode cX10_judge 93 = .ok (.iconst 1, 1) := by decide +kernel
theorem dX10_judge_94 : decode cX10_judge 94 = .ok (.iload 4, 2) := by decide +kernel
theorem dX10_judge_96 : decode cX10_judge 96 = .ok (.ishl, 1) := by decide +kernel
theorem dX10_judge_97 : decode cX10_judge 97 = .ok (.ior, 1) := by decide +kernel
theorem dX10_judge_98 : decode cX10_judge 98 = .ok (.istore_n 2, 1) := by decide +kernel
theorem dX10_judge_99 : decode cX10_judge 99 = .ok (.aload_n 0, 1) := by decide +kernel
theorem dX10_judge_100 : decode cX10_judge 100 = .ok (.getfield 54, 3) := by decide +kernel
theorem dX10_judge_103 : decode cX10_judge 103 = .ok (.iload 4, 2) := by decide +kernel
theorem dX10_judge_105 : decode cX10_judge 105 = .ok (.iaload, 1) := by decide +kernel
theorem dX10_judge_106 : decode cX10_judge 106 = .ok (.istore 5, 2) := by decide +kernel
theorem dX10_judge_108 : decode cX10_judge 108 = .ok (.iload 5, 2) := by decide +kernel
theorem dX10_judge_110 : decode cX10_judge 110 = .ok (.iconst 0, 1) := by decide +kernel
theorem dX10_judge_111 : decode cX10_judge 111 = .ok (.iconst 2, 1) := by decide +kernel
theorem dX10_judge_112 : decode cX10_judge 112 = .ok (.invokestatic 121, 3) := by decide +kernel
theorem dX10_judge_115 : decode cX10_judge 115 = .ok (.ifCond .eq 41, 3) := by decide +kernel
theorem dX10_judge_118 : decode cX10_judge 118 = .ok (.aload_n 0, 1) := by decide +kernel
theorem dX10_judge_119 : decode cX10_judge 119 = .ok (.getfield 48, 3) := by decide +kernel
theorem dX10_judge_122 : decode cX10_judge 122 = .ok (.bipush 10, 2) := by decide +kernel
theorem dX10_judge_124 : decode cX10_judge 124 = .ok (.iload 5, 2) := by decide +kernel
theorem dX10_judge_126 : decode cX10_judge 126 = .ok (.imul, 1) := by decide +kernel
theorem dX10_judge_127 : decode cX10_judge 127 = .ok (.aload_n 0, 1) := by decide +kernel
theorem dX10_judge_128 : decode cX10_judge 128 = .ok (.getfield 51, 3) := by decide +kernel
theorem dX10_judge_131 : decode cX10_judge 131 = .ok (.iload 5, 2) := by decide +kernel
theorem dX10_judge_133 : decode cX10_judge 133 = .ok (.iaload, 1) := by decide +kernel
theorem dX10_judge_134 : decode cX10_judge 134 = .ok (.iadd, 1) := by decide +kernel
theorem dX10_judge_135 : decode cX10_judge 135 = .ok (.iconst 1, 1) := by decide +kernel
theorem dX10_judge_136 : decode cX10_judge 136 = .ok (.isub, 1) := by decide +kernel
theorem dX10_judge_137 : decode cX10_judge 137 = .ok (.iaload, 1) := by decide +kernel
theorem dX10_judge_138 : decode cX10_judge 138 = .ok (.iload 4, 2) := by decide +kernel
theorem dX10_judge_140 : decode cX10_judge 140 = .ok (.if_icmp .eq 5, 3) := by decide +kernel
theorem dX10_judge_143 : decode cX10_judge 143 = .ok (.iload_n 3, 1) := by decide +kernel
theorem dX10_judge_144 : decode cX10_judge 144 = .ok (.ireturn, 1) := by decide +kernel
theorem dX10_judge_145 : decode cX10_judge 145 = .ok (.aload_n 0, 1) := by decide +kernel
theorem dX10_judge_146 : decode cX10_judge 146 = .ok (.getfield 51, 3) := by decide +kernel
theorem dX10_judge_149 : decode cX10_judge 149 = .ok (.iload 5, 2) := by decide +kernel
theorem dX10_judge_151 : decode cX10_judge 151 = .ok (.dup2, 1) := by decide +kernel
theorem dX10_judge_152 : decode cX10_judge 152 = .ok (.iaload, 1) := by decide +kernel
theorem dX10_judge_153 : decode cX10_judge 153 = .ok (.iconst 1, 1) := by decide +kernel
theorem dX10_judge_154 : decode cX10_judge 154 = .ok (.isub, 1) := by decide +kernel
theorem dX10_judge_155 : decode cX10_judge 155 = .ok (.iastore, 1) := by decide +kernel
theorem dX10_judge_156 : decode cX10_judge 156 = .ok (.iinc 3 1, 3) := by decide +kernel
theorem dX10_judge_159 : decode cX10_judge 159 = .ok (.goto (-111), 3) := by decide +kernel
theorem dX10_judge_162 : decode cX10_judge 162 = .ok (.bipush (-4), 2) := by decide +kernel
theorem dX10_judge_164 : decode cX10_judge 164 = .ok (.ireturn, 1) := by decide +kernel
theorem dX10_isLaidSo_0 : decode cX10_isLaidSo 0 = .ok (.aload_n 0, 1) := by decide +kernel
theorem dX10_isLaidSo_1 : decode cX10_isLaidSo 1 = .ok (.getfield 51, 3) := by decide +kernel
theorem dX10_isLaidSo_4 : decode cX10_isLaidSo 4 = .ok (.iconst 0, 1) := by decide +kernel
theorem dX10_isLaidSo_5 : decode cX10_isLaidSo 5 = .ok (.iaload, 1) := by decide +kernel
theorem dX10_isLaidSo_6 : decode cX10_isLaidSo 6 = .ok (.aload_n 0, 1) := by decide +kernel
theorem dX10_isLaidSo_7 : decode cX10_isLaidSo 7 = .ok (.getfield 109, 3) := by decide +kernel
theorem dX10_isLaidSo_10 : decode cX10_isLaidSo 10 = .ok (.iload_n 1, 1) := by decide +kernel
theorem dX10_isLaidSo_11 : decode cX10_isLaidSo 11 = .ok (.iaload, 1) := by decide +kernel
theorem dX10_isLaidSo_12 : decode cX10_isLaidSo 12 = .ok (.if_icmp .ne 7, 3) := by decide +kernel
theorem dX10_isLaidSo_15 : decode cX10_isLaidSo 15 = .ok (.iconst 1, 1) := by decide +kernel
theorem dX10_isLaidSo_16 : decode cX10_isLaidSo 16 = .ok (.goto 4, 3) := by decide +kernel
theorem dX10_isLaidSo_19 : decode cX10_isLaidSo 19 = .ok (.iconst 0, 1) := by decide +kernel
theorem dX10_isLaidSo_20 : decode cX10_isLaidSo 20 = .ok (.istore_n 2, 1) := by decide +kernel
theorem dX10_isLaidSo_21 : decode cX10_isLaidSo 21 = .ok (.iconst 0, 1) := by decide +kernel
theorem dX10_isLaidSo_22 : decode cX10_isLaidSo 22 = .ok (.istore_n 3, 1) := by decide +kernel
theorem dX10_isLaidSo_23 : decode cX10_isLaidSo 23 = .ok (.iload_n 3, 1) := by decide +kernel
theorem dX10_isLaidSo_24 : decode cX10_isLaidSo 24 = .ok (.aload_n 0, 1) := by decide +kernel
theorem dX10_isLaidSo_25 : decode cX10_isLaidSo 25 = .ok (.getfield 51, 3) := by decide +kernel
theorem dX10_isLaidSo_28 : decode cX10_isLaidSo 28 = .ok (.iconst 0, 1) := by decide +kernel
theorem dX10_isLaidSo_29 : decode cX10_isLaidSo 29 = .ok (.iaload, 1) := by decide +kernel
theorem dX10_isLaidSo_30 : decode cX10_isLaidSo 30 = .ok (.if_icmp .ge 39, 3) := by decide +kernel
theorem dX10_isLaidSo_33 : decode cX10_isLaidSo 33 = .ok (.iload_n 2, 1) := by decide +kernel
theorem dX10_isLaidSo_34 : decode cX10_isLaidSo 34 = .ok (.ifCond .eq 35, 3) := by decide +kernel
theorem dX10_isLaidSo_37 : decode cX10_isLaidSo 37 = .ok (.aload_n 0, 1) := by decide +kernel
theorem dX10_isLaidSo_38 : decode cX10_isLaidSo 38 = .ok (.getfield 48, 3) := by decide +kernel
theorem dX10_isLaidSo_41 : decode cX10_isLaidSo 41 = .ok (.iload_n 3, 1) := by decide +kernel
theorem dX10_isLaidSo_42 : decode cX10_isLaidSo 42 = .ok (.iaload, 1) := by decide +kernel
theorem dX10_isLaidSo_43 : decode cX10_isLaidSo 43 = .ok (.aload_n 0, 1) := by decide +kernel
theorem dX10_isLaidSo_44 : decode cX10_isLaidSo 44 = .ok (.getfield 112, 3) := by decide +kernel
theorem dX10_isLaidSo_47 : decode cX10_isLaidSo 47 = .ok (.bipush 100, 2) := by decide +kernel
theorem dX10_isLaidSo_49 : decode cX10_isLaidSo 49 = .ok (.iload_n 1, 1) := by decide +kernel
theorem dX10_isLaidSo_50 : decode cX10_isLaidSo 50 = .ok (.imul, 1) := by decide +kernel
theorem dX10_isLaidSo_51 : decode cX10_isLaidSo 51 = .ok (.iload_n 3, 1) := by decide +kernel
theorem dX10_isLaidSo_52 : decode cX10_isLaidSo 52 = .ok (.iadd, 1) := by decide +kernel
theorem dX10_isLaidSo_53 : decode cX10_isLaidSo 53 = .ok (.iaload, 1) := by decide +kernel
theorem dX10_isLaidSo_54 : decode cX10_isLaidSo 54 = .ok (.if_icmp .ne 7, 3) := by decide +kernel
theorem dX10_isLaidSo_57 : decode cX10_isLaidSo 57 = .ok (.iconst 1, 1) := by decide +kernel
theorem dX10_isLaidSo_58 : decode cX10_isLaidSo 58 = .ok (.goto 4, 3) := by decide +kernel
theorem dX10_isLaidSo_61 : decode cX10_isLaidSo 61 = .ok (.iconst 0, 1) := by decide +kernel
theorem dX10_isLaidSo_62 : decode cX10_isLaidSo 62 = .ok (.istore_n 2, 1) := by decide +kernel
theorem dX10_isLaidSo_63 : decode cX10_isLaidSo 63 = .ok (.iinc 3 1, 3) := by decide +kernel
theorem dX10_isLaidSo_66 : decode cX10_isLaidSo 66 = .ok (.goto (-43), 3) := by decide +kernel
theorem dX10_isLaidSo_69 : decode cX10_isLaidSo 69 = .ok (.iload_n 2, 1) := by decide +kernel
theorem dX10_isLaidSo_70 : decode cX10_isLaidSo 70 = .ok (.ireturn, 1) := by decide +kernel
theorem dX10_reads_0 : decode cX10_reads 0 = .ok (.iload_n 1, 1) := by decide +kernel
theorem dX10_reads_1 : decode cX10_reads 1 = .ok (.invokestatic 207, 3) := by decide +kernel
theorem dX10_reads_4 : decode cX10_reads 4 = .ok (.ifCond .eq 12, 3) := by decide +kernel
theorem dX10_reads_7 : decode cX10_reads 7 = .ok (.iload_n 2, 1) := by decide +kernel
theorem dX10_reads_8 : decode cX10_reads 8 = .ok (.iconst 0, 1) := by decide +kernel
theorem dX10_reads_9 : decode cX10_reads 9 = .ok (.iconst 1, 1) := by decide +kernel
theorem dX10_reads_10 : decode cX10_reads 10 = .ok (.invokestatic 121, 3) := by decide +kernel
theorem dX10_reads_13 : decode cX10_reads 13 = .ok (.ifCond .ne 5, 3) := by decide +kernel
theorem dX10_reads_16 : decode cX10_reads 16 = .ok (.iconst (-1), 1) := by decide +kernel
theorem dX10_reads_17 : decode cX10_reads 17 = .ok (.ireturn, 1) := by decide +kernel
theorem dX10_reads_18 : decode cX10_reads 18 = .ok (.aload_n 0, 1) := by decide +kernel
theorem dX10_reads_19 : decode cX10_reads 19 = .ok (.getfield 97, 3) := by decide +kernel
theorem dX10_reads_22 : decode cX10_reads 22 = .ok (.iload_n 1, 1) := by decide +kernel
theorem dX10_reads_23 : decode cX10_reads 23 = .ok (.iaload, 1) := by decide +kernel
theorem dX10_reads_24 : decode cX10_reads 24 = .ok (.iconst 2, 1) := by decide +kernel
theorem dX10_reads_25 : decode cX10_reads 25 = .ok (.if_icmp .eq 20, 3) := by decide +kernel
theorem dX10_reads_28 : decode cX10_reads 28 = .ok (.aload_n 0, 1) := by decide +kernel
theorem dX10_reads_29 : decode cX10_reads 29 = .ok (.getfield 97, 3) := by decide +kernel
theorem dX10_reads_32 : decode cX10_reads 32 = .ok (.iload_n 1, 1) := by decide +kernel
theorem dX10_reads_33 : decode cX10_reads 33 = .ok (.iaload, 1) := by decide +kernel
theorem dX10_reads_34 : decode cX10_reads 34 = .ok (.ifCond .ne 8, 3) := by decide +kernel
theorem dX10_reads_37 : decode cX10_reads 37 = .ok (.bipush (-11), 2) := by decide +kernel
theorem dX10_reads_39 : decode cX10_reads 39 = .ok (.goto 5, 3) := by decide +kernel
theorem dX10_reads_42 : decode cX10_reads 42 = .ok (.bipush (-12), 2) := by decide +kernel
theorem dX10_reads_44 : decode cX10_reads 44 = .ok (.ireturn, 1) := by decide +kernel
theorem dX10_reads_45 : decode cX10_reads 45 = .ok (.aload_n 0, 1) := by decide +kernel
theorem dX10_reads_46 : decode cX10_reads 46 = .ok (.getfield 118, 3) := by decide +kernel
theorem dX10_reads_49 : decode cX10_reads 49 = .ok (.bipush 6, 2) := by decide +kernel
theorem dX10_reads_51 : decode cX10_reads 51 = .ok (.if_icmp .le 6, 3) := by decide +kernel
theorem dX10_reads_54 : decode cX10_reads 54 = .ok (.bipush (-3), 2) := by decide +kernel
theorem dX10_reads_56 : decode cX10_reads 56 = .ok (.ireturn, 1) := by decide +kernel
theorem dX10_reads_57 : decode cX10_reads 57 = .ok (.aload_n 0, 1) := by decide +kernel
theorem dX10_reads_58 : decode cX10_reads 58 = .ok (.invokevirtual 225, 3) := by decide +kernel
theorem dX10_reads_61 : decode cX10_reads 61 = .ok (.iconst 0, 1) := by decide +kernel
theorem dX10_reads_62 : decode cX10_reads 62 = .ok (.istore_n 3, 1) := by decide +kernel
theorem dX10_reads_63 : decode cX10_reads 63 = .ok (.bipush (-4), 2) := by decide +kernel
theorem dX10_reads_65 : decode cX10_reads 65 = .ok (.istore 4, 2) := by decide +kernel
theorem dX10_reads_67 : decode cX10_reads 67 = .ok (.iconst 1, 1) := by decide +kernel
theorem dX10_reads_68 : decode cX10_reads 68 = .ok (.istore 5, 2) := by decide +kernel
theorem dX10_reads_70 : decode cX10_reads 70 = .ok (.iload 5, 2) := by decide +kernel
theorem dX10_reads_72 : decode cX10_reads 72 = .ok (.ifCond .eq 78, 3) := by decide +kernel
theorem dX10_reads_75 : decode cX10_reads 75 = .ok (.aload_n 0, 1) := by decide +kernel
theorem dX10_reads_76 : decode cX10_reads 76 = .ok (.invokevirtual 228, 3) := by decide +kernel
theorem dX10_reads_79 : decode cX10_reads 79 = .ok (.aload_n 0, 1) := by decide +kernel
theorem dX10_reads_80 : decode cX10_reads 80 = .ok (.iload_n 1, 1) := by decide +kernel
theorem dX10_reads_81 : decode cX10_reads 81 = .ok (.invokevirtual 378, 3) := by decide +kernel
theorem dX10_reads_84 : decode cX10_reads 84 = .ok (.ifCond .eq 49, 3) := by decide +kernel
theorem dX10_reads_87 : decode cX10_reads 87 = .ok (.iinc 3 1, 3) := by decide +kernel
theorem dX10_reads_90 : decode cX10_reads 90 = .ok (.iload 4, 2) := by decide +kernel
theorem dX10_reads_92 : decode cX10_reads 92 = .ok (.bipush (-4), 2) := by decide +kernel
theorem dX10_reads_94 : decode cX10_reads 94 = .ok (.if_icmp .ne 39, 3) := by decide +kernel
theorem dX10_reads_97 : decode cX10_reads 97 = .ok (.iconst 0, 1) := by decide +kernel
theorem dX10_reads_98 : decode cX10_reads 98 = .ok (.istore 4, 2) := by decide +kernel
theorem dX10_reads_100 : decode cX10_reads 100 = .ok (.iconst 0, 1) := by decide +kernel
theorem dX10_reads_101 : decode cX10_reads 101 = .ok (.istore 6, 2) := by decide +kernel
theorem dX10_reads_103 : decode cX10_reads 103 = .ok (.iload 6, 2) := by decide +kernel
theorem dX10_reads_105 : decode cX10_reads 105 = .ok (.aload_n 0, 1) := by decide +kernel
theorem dX10_reads_106 : decode cX10_reads 106 = .ok (.getfield 118, 3) := by decide +kernel
theorem dX10_reads_109 : decode cX10_reads 109 = .ok (.if_icmp .ge 24, 3) := by decide +kernel
theorem dX10_reads_112 : decode cX10_reads 112 = .ok (.bipush 10, 2) := by decide +kernel
theorem dX10_reads_114 : decode cX10_reads 114 = .ok (.iload 4, 2) := by decide +kernel
theorem dX10_reads_116 : decode cX10_reads 116 = .ok (.imul, 1) := by decide +kernel
theorem dX10_reads_117 : decode cX10_reads 117 = .ok (.aload_n 0, 1) := by decide +kernel
theorem dX10_reads_118 : decode cX10_reads 118 = .ok (.getfield 39, 3) := by decide +kernel
theorem dX10_reads_121 : decode cX10_reads 121 = .ok (.iload 6, 2) := by decide +kernel
theorem dX10_reads_123 : decode cX10_reads 123 = .ok (.iaload, 1) := by decide +kernel
theorem dX10_reads_124 : decode cX10_reads 124 = .ok (.iadd, 1) := by decide +kernel
theorem dX10_reads_125 : decode cX10_reads 125 = .ok (.istore 4, 2) := by decide +kernel
theorem dX10_reads_127 : decode cX10_reads 127 = .ok (.iinc 6 1, 3) := by decide +kernel
theorem dX10_reads_130 : decode cX10_reads 130 = .ok (.goto (-27), 3) := by decide +kernel
theorem dX10_reads_133 : decode cX10_reads 133 = .ok (.aload_n 0, 1) := by decide +kernel
theorem dX10_reads_134 : decode cX10_reads 134 = .ok (.aload_n 0, 1) := by decide +kernel
theorem dX10_reads_135 : decode cX10_reads 135 = .ok (.getfield 39, 3) := by decide +kernel
theorem dX10_reads_138 : decode cX10_reads 138 = .ok (.aload_n 0, 1) := by decide +kernel
theorem dX10_reads_139 : decode cX10_reads 139 = .ok (.getfield 118, 3) := by decide +kernel
theorem dX10_reads_142 : decode cX10_reads 142 = .ok (.invokevirtual 364, 3) := by decide +kernel
theorem dX10_reads_145 : decode cX10_reads 145 = .ok (.istore 5, 2) := by decide +kernel
theorem dX10_reads_147 : decode cX10_reads 147 = .ok (.goto (-77), 3) := by decide +kernel
theorem dX10_reads_150 : decode cX10_reads 150 = .ok (.iload_n 2, 1) := by decide +kernel
theorem dX10_reads_151 : decode cX10_reads 151 = .ok (.ifCond .ne 7, 3) := by decide +kernel
theorem dX10_reads_154 : decode cX10_reads 154 = .ok (.iload_n 3, 1) := by decide +kernel
theorem dX10_reads_155 : decode cX10_reads 155 = .ok (.goto 5, 3) := by decide +kernel
theorem dX10_reads_158 : decode cX10_reads 158 = .ok (.iload 4, 2) := by decide +kernel
theorem dX10_reads_160 : decode cX10_reads 160 = .ok (.ireturn, 1) := by decide +kernel
theorem dX10_draw_0 : decode cX10_draw 0 = .ok (.aload_n 0, 1) := by decide +kernel
theorem dX10_draw_1 : decode cX10_draw 1 = .ok (.aload_n 0, 1) := by decide +kernel
theorem dX10_draw_2 : decode cX10_draw 2 = .ok (.getfield 381, 3) := by decide +kernel
theorem dX10_draw_5 : decode cX10_draw 5 = .ok (.ldc_w 384, 3) := by decide +kernel
theorem dX10_draw_8 : decode cX10_draw 8 = .ok (.imul, 1) := by decide +kernel
theorem dX10_draw_9 : decode cX10_draw 9 = .ok (.sipush 12345, 3) := by decide +kernel
theorem dX10_draw_12 : decode cX10_draw 12 = .ok (.iadd, 1) := by decide +kernel
theorem dX10_draw_13 : decode cX10_draw 13 = .ok (.putfield 381, 3) := by decide +kernel
theorem dX10_draw_16 : decode cX10_draw 16 = .ok (.aload_n 0, 1) := by decide +kernel
theorem dX10_draw_17 : decode cX10_draw 17 = .ok (.getfield 381, 3) := by decide +kernel
theorem dX10_draw_20 : decode cX10_draw 20 = .ok (.ldc_w 385, 3) := by decide +kernel
theorem dX10_draw_23 : decode cX10_draw 23 = .ok (.iand, 1) := by decide +kernel
theorem dX10_draw_24 : decode cX10_draw 24 = .ok (.ldc_w 386, 3) := by decide +kernel
theorem dX10_draw_27 : decode cX10_draw 27 = .ok (.idiv, 1) := by decide +kernel
theorem dX10_draw_28 : decode cX10_draw 28 = .ok (.iload_n 1, 1) := by decide +kernel
theorem dX10_draw_29 : decode cX10_draw 29 = .ok (.irem, 1) := by decide +kernel
theorem dX10_draw_30 : decode cX10_draw 30 = .ok (.ireturn, 1) := by decide +kernel
theorem dX10_nights_0 : decode cX10_nights 0 = .ok (.iload_n 1, 1) := by decide +kernel
theorem dX10_nights_1 : decode cX10_nights 1 = .ok (.iconst 1, 1) := by decide +kernel
theorem dX10_nights_2 : decode cX10_nights 2 = .ok (.bipush 20, 2) := by decide +kernel
theorem dX10_nights_4 : decode cX10_nights 4 = .ok (.invokestatic 121, 3) := by decide +kernel
theorem dX10_nights_7 : decode cX10_nights 7 = .ok (.ifCond .eq 12, 3) := by decide +kernel
theorem dX10_nights_10 : decode cX10_nights 10 = .ok (.iload_n 3, 1) := by decide +kernel
theorem dX10_nights_11 : decode cX10_nights 11 = .ok (.iconst 0, 1) := by decide +kernel
theorem dX10_nights_12 : decode cX10_nights 12 = .ok (.iconst 1, 1) := by decide +kernel
theorem dX10_nights_13 : decode cX10_nights 13 = .ok (.invokestatic 121, 3) := by decide +kernel
theorem dX10_nights_16 : decode cX10_nights 16 = .ok (.ifCond .ne 5, 3) := by decide +kernel
theorem dX10_nights_19 : decode cX10_nights 19 = .ok (.iconst (-1), 1) := by decide +kernel
theorem dX10_nights_20 : decode cX10_nights 20 = .ok (.ireturn, 1) := by decide +kernel
theorem dX10_nights_21 : decode cX10_nights 21 = .ok (.aload_n 0, 1) := by decide +kernel
theorem dX10_nights_22 : decode cX10_nights 22 = .ok (.iload_n 2, 1) := by decide +kernel
theorem dX10_nights_23 : decode cX10_nights 23 = .ok (.putfield 381, 3) := by decide +kernel
theorem dX10_nights_26 : decode cX10_nights 26 = .ok (.iconst 0, 1) := by decide +kernel
theorem dX10_nights_27 : decode cX10_nights 27 = .ok (.istore 4, 2) := by decide +kernel
theorem dX10_nights_29 : decode cX10_nights 29 = .ok (.iconst 0, 1) := by decide +kernel
theorem dX10_nights_30 : decode cX10_nights 30 = .ok (.istore 5, 2) := by decide +kernel
theorem dX10_nights_32 : decode cX10_nights 32 = .ok (.iconst 0, 1) := by decide +kernel
theorem dX10_nights_33 : decode cX10_nights 33 = .ok (.istore 6, 2) := by decide +kernel
theorem dX10_nights_35 : decode cX10_nights 35 = .ok (.iload 6, 2) := by decide +kernel
theorem dX10_nights_37 : decode cX10_nights 37 = .ok (.iload_n 1, 1) := by decide +kernel
theorem dX10_nights_38 : decode cX10_nights 38 = .ok (.if_icmp .ge 112, 3) := by decide +kernel
theorem dX10_nights_41 : decode cX10_nights 41 = .ok (.iconst 0, 1) := by decide +kernel
theorem dX10_nights_42 : decode cX10_nights 42 = .ok (.istore 7, 2) := by decide +kernel
theorem dX10_nights_44 : decode cX10_nights 44 = .ok (.iload 7, 2) := by decide +kernel
theorem dX10_nights_46 : decode cX10_nights 46 = .ok (.aload_n 0, 1) := by decide +kernel
theorem dX10_nights_47 : decode cX10_nights 47 = .ok (.getfield 118, 3) := by decide +kernel
theorem dX10_nights_50 : decode cX10_nights 50 = .ok (.if_icmp .ge 39, 3) := by decide +kernel
theorem dX10_nights_53 : decode cX10_nights 53 = .ok (.aload_n 0, 1) := by decide +kernel
theorem dX10_nights_54 : decode cX10_nights 54 = .ok (.getfield 45, 3) := by decide +kernel
theorem dX10_nights_57 : decode cX10_nights 57 = .ok (.iload 7, 2) := by decide +kernel
theorem dX10_nights_59 : decode cX10_nights 59 = .ok (.aload_n 0, 1) := by decide +kernel
theorem dX10_nights_60 : decode cX10_nights 60 = .ok (.getfield 7, 3) := by decide +kernel
theorem dX10_nights_63 : decode cX10_nights 63 = .ok (.iload 7, 2) := by decide +kernel
theorem dX10_nights_65 : decode cX10_nights 65 = .ok (.iaload, 1) := by decide +kernel
theorem dX10_nights_66 : decode cX10_nights 66 = .ok (.aload_n 0, 1) := by decide +kernel
theorem dX10_nights_67 : decode cX10_nights 67 = .ok (.getfield 13, 3) := by decide +kernel
theorem dX10_nights_70 : decode cX10_nights 70 = .ok (.iload 7, 2) := by decide +kernel
theorem dX10_nights_72 : decode cX10_nights 72 = .ok (.iaload, 1) := by decide +kernel
theorem dX10_nights_73 : decode cX10_nights 73 = .ok (.aload_n 0, 1) := by decide +kernel
theorem dX10_nights_74 : decode cX10_nights 74 = .ok (.bipush 60, 2) := by decide +kernel
theorem dX10_nights_76 : decode cX10_nights 76 = .ok (.invokevirtual 387, 3) := by decide +kernel
theorem dX10_nights_79 : decode cX10_nights 79 = .ok (.invokestatic 213, 3) := by decide +kernel
theorem dX10_nights_82 : decode cX10_nights 82 = .ok (.iastore, 1) := by decide +kernel
theorem dX10_nights_83 : decode cX10_nights 83 = .ok (.iinc 7 1, 3) := by decide +kernel
theorem dX10_nights_86 : decode cX10_nights 86 = .ok (.goto (-42), 3) := by decide +kernel
theorem dX10_nights_89 : decode cX10_nights 89 = .ok (.aload_n 0, 1) := by decide +kernel
theorem dX10_nights_90 : decode cX10_nights 90 = .ok (.iconst (-1), 1) := by decide +kernel
theorem dX10_nights_91 : decode cX10_nights 91 = .ok (.invokevirtual 247, 3) := by decide +kernel
theorem dX10_nights_94 : decode cX10_nights 94 = .ok (.aload_n 0, 1) := by decide +kernel
theorem dX10_nights_95 : decode cX10_nights 95 = .ok (.invokevirtual 251, 3) := by decide +kernel
theorem dX10_nights_98 : decode cX10_nights 98 = .ok (.iload 4, 2) := by decide +kernel
theorem dX10_nights_100 : decode cX10_nights 100 = .ok (.aload_n 0, 1) := by decide +kernel
theorem dX10_nights_101 : decode cX10_nights 101 = .ok (.invokevirtual 309, 3) := by decide +kernel
theorem dX10_nights_104 : decode cX10_nights 104 = .ok (.iadd, 1) := by decide +kernel
theorem dX10_nights_105 : decode cX10_nights 105 = .ok (.istore 4, 2) := by decide +kernel
theorem dX10_nights_107 : decode cX10_nights 107 = .ok (.iconst 0, 1) := by decide +kernel
theorem dX10_nights_108 : decode cX10_nights 108 = .ok (.istore 7, 2) := by decide +kernel
theorem dX10_nights_110 : decode cX10_nights 110 = .ok (.iload 7, 2) := by decide +kernel
theorem dX10_nights_112 : decode cX10_nights 112 = .ok (.aload_n 0, 1) := by decide +kernel
theorem dX10_nights_113 : decode cX10_nights 113 = .ok (.getfield 118, 3) := by decide +kernel
theorem dX10_nights_116 : decode cX10_nights 116 = .ok (.if_icmp .ge 28, 3) := by decide +kernel
theorem dX10_nights_119 : decode cX10_nights 119 = .ok (.iload 5, 2) := by decide +kernel
theorem dX10_nights_121 : decode cX10_nights 121 = .ok (.aload_n 0, 1) := by decide +kernel
theorem dX10_nights_122 : decode cX10_nights 122 = .ok (.iload 7, 2) := by decide +kernel
theorem dX10_nights_124 : decode cX10_nights 124 = .ok (.invokevirtual 315, 3) := by decide +kernel
theorem dX10_nights_127 : decode cX10_nights 127 = .ok (.ifCond .eq 7, 3) := by decide +kernel
theorem dX10_nights_130 : decode cX10_nights 130 = .ok (.iconst 1, 1) := by decide +kernel
theorem dX10_nights_131 : decode cX10_nights 131 = .ok (.goto 4, 3) := by decide +kernel
theorem dX10_nights_134 : decode cX10_nights 134 = .ok (.iconst 0, 1) := by decide +kernel
theorem dX10_nights_135 : decode cX10_nights 135 = .ok (.iadd, 1) := by decide +kernel
theorem dX10_nights_136 : decode cX10_nights 136 = .ok (.istore 5, 2) := by decide +kernel
theorem dX10_nights_138 : decode cX10_nights 138 = .ok (.iinc 7 1, 3) := by decide +kernel
theorem dX10_nights_141 : decode cX10_nights 141 = .ok (.goto (-31), 3) := by decide +kernel
theorem dX10_nights_144 : decode cX10_nights 144 = .ok (.iinc 6 1, 3) := by decide +kernel
theorem dX10_nights_147 : decode cX10_nights 147 = .ok (.goto (-112), 3) := by decide +kernel
theorem dX10_nights_150 : decode cX10_nights 150 = .ok (.iload_n 3, 1) := by decide +kernel
theorem dX10_nights_151 : decode cX10_nights 151 = .ok (.ifCond .ne 8, 3) := by decide +kernel
theorem dX10_nights_154 : decode cX10_nights 154 = .ok (.iload 4, 2) := by decide +kernel
theorem dX10_nights_156 : decode cX10_nights 156 = .ok (.goto 5, 3) := by decide +kernel
theorem dX10_nights_159 : decode cX10_nights 159 = .ok (.iload 5, 2) := by decide +kernel
theorem dX10_nights_161 : decode cX10_nights 161 = .ok (.ireturn, 1) := by decide +kernel
theorem dX10_keepAll_0 : decode cX10_keepAll 0 = .ok (.aload_n 1, 1) := by decide +kernel
theorem dX10_keepAll_1 : decode cX10_keepAll 1 = .ok (.iconst 0, 1) := by decide +kernel
theorem dX10_keepAll_2 : decode cX10_keepAll 2 = .ok (.aload_n 0, 1) := by decide +kernel
theorem dX10_keepAll_3 : decode cX10_keepAll 3 = .ok (.getfield 118, 3) := by decide +kernel
theorem dX10_keepAll_6 : decode cX10_keepAll 6 = .ok (.iastore, 1) := by decide +kernel
theorem dX10_keepAll_7 : decode cX10_keepAll 7 = .ok (.aload_n 1, 1) := by decide +kernel
theorem dX10_keepAll_8 : decode cX10_keepAll 8 = .ok (.iconst 1, 1) := by decide +kernel
theorem dX10_keepAll_9 : decode cX10_keepAll 9 = .ok (.aload_n 0, 1) := by decide +kernel
theorem dX10_keepAll_10 : decode cX10_keepAll 10 = .ok (.getfield 19, 3) := by decide +kernel
theorem dX10_keepAll_13 : decode cX10_keepAll 13 = .ok (.iastore, 1) := by decide +kernel
theorem dX10_keepAll_14 : decode cX10_keepAll 14 = .ok (.aload_n 1, 1) := by decide +kernel
theorem dX10_keepAll_15 : decode cX10_keepAll 15 = .ok (.iconst 2, 1) := by decide +kernel
theorem dX10_keepAll_16 : decode cX10_keepAll 16 = .ok (.aload_n 0, 1) := by decide +kernel
theorem dX10_keepAll_17 : decode cX10_keepAll 17 = .ok (.getfield 23, 3) := by decide +kernel
theorem dX10_keepAll_20 : decode cX10_keepAll 20 = .ok (.iastore, 1) := by decide +kernel
theorem dX10_keepAll_21 : decode cX10_keepAll 21 = .ok (.aload_n 1, 1) := by decide +kernel
theorem dX10_keepAll_22 : decode cX10_keepAll 22 = .ok (.iconst 3, 1) := by decide +kernel
theorem dX10_keepAll_23 : decode cX10_keepAll 23 = .ok (.aload_n 0, 1) := by decide +kernel
theorem dX10_keepAll_24 : decode cX10_keepAll 24 = .ok (.getfield 170, 3) := by decide +kernel
theorem dX10_keepAll_27 : decode cX10_keepAll 27 = .ok (.iastore, 1) := by decide +kernel
theorem dX10_keepAll_28 : decode cX10_keepAll 28 = .ok (.aload_n 1, 1) := by decide +kernel
theorem dX10_keepAll_29 : decode cX10_keepAll 29 = .ok (.iconst 4, 1) := by decide +kernel
theorem dX10_keepAll_30 : decode cX10_keepAll 30 = .ok (.aload_n 0, 1) := by decide +kernel
theorem dX10_keepAll_31 : decode cX10_keepAll 31 = .ok (.getfield 173, 3) := by decide +kernel
theorem dX10_keepAll_34 : decode cX10_keepAll 34 = .ok (.iastore, 1) := by decide +kernel
theorem dX10_keepAll_35 : decode cX10_keepAll 35 = .ok (.aload_n 1, 1) := by decide +kernel
theorem dX10_keepAll_36 : decode cX10_keepAll 36 = .ok (.iconst 5, 1) := by decide +kernel
theorem dX10_keepAll_37 : decode cX10_keepAll 37 = .ok (.aload_n 0, 1) := by decide +kernel
theorem dX10_keepAll_38 : decode cX10_keepAll 38 = .ok (.getfield 134, 3) := by decide +kernel
theorem dX10_keepAll_41 : decode cX10_keepAll 41 = .ok (.iastore, 1) := by decide +kernel
theorem dX10_keepAll_42 : decode cX10_keepAll 42 = .ok (.aload_n 1, 1) := by decide +kernel
theorem dX10_keepAll_43 : decode cX10_keepAll 43 = .ok (.bipush 6, 2) := by decide +kernel
theorem dX10_keepAll_45 : decode cX10_keepAll 45 = .ok (.aload_n 0, 1) := by decide +kernel
theorem dX10_keepAll_46 : decode cX10_keepAll 46 = .ok (.getfield 190, 3) := by decide +kernel
theorem dX10_keepAll_49 : decode cX10_keepAll 49 = .ok (.iastore, 1) := by decide +kernel
theorem dX10_keepAll_50 : decode cX10_keepAll 50 = .ok (.iconst 0, 1) := by decide +kernel
theorem dX10_keepAll_51 : decode cX10_keepAll 51 = .ok (.istore_n 2, 1) := by decide +kernel
theorem dX10_keepAll_52 : decode cX10_keepAll 52 = .ok (.iload_n 2, 1) := by decide +kernel
theorem dX10_keepAll_53 : decode cX10_keepAll 53 = .ok (.bipush 6, 2) := by decide +kernel
theorem dX10_keepAll_55 : decode cX10_keepAll 55 = .ok (.if_icmp .ge 21, 3) := by decide +kernel
theorem dX10_keepAll_58 : decode cX10_keepAll 58 = .ok (.aload_n 1, 1) := by decide +kernel
theorem dX10_keepAll_59 : decode cX10_keepAll 59 = .ok (.bipush 8, 2) := by decide +kernel
theorem dX10_keepAll_61 : decode cX10_keepAll 61 = .ok (.iload_n 2, 1) := by decide +kernel
theorem dX10_keepAll_62 : decode cX10_keepAll 62 = .ok (.iadd, 1) := by decide +kernel
theorem dX10_keepAll_63 : decode cX10_keepAll 63 = .ok (.aload_n 0, 1) := by decide +kernel
theorem dX10_keepAll_64 : decode cX10_keepAll 64 = .ok (.getfield 26, 3) := by decide +kernel
theorem dX10_keepAll_67 : decode cX10_keepAll 67 = .ok (.iload_n 2, 1) := by decide +kernel
theorem dX10_keepAll_68 : decode cX10_keepAll 68 = .ok (.iaload, 1) := by decide +kernel
theorem dX10_keepAll_69 : decode cX10_keepAll 69 = .ok (.iastore, 1) := by decide +kernel
theorem dX10_keepAll_70 : decode cX10_keepAll 70 = .ok (.iinc 2 1, 3) := by decide +kernel
theorem dX10_keepAll_73 : decode cX10_keepAll 73 = .ok (.goto (-21), 3) := by decide +kernel
theorem dX10_keepAll_76 : decode cX10_keepAll 76 = .ok (.iconst 0, 1) := by decide +kernel
theorem dX10_keepAll_77 : decode cX10_keepAll 77 = .ok (.istore_n 2, 1) := by decide +kernel
theorem dX10_keepAll_78 : decode cX10_keepAll 78 = .ok (.iload_n 2, 1) := by decide +kernel
theorem dX10_keepAll_79 : decode cX10_keepAll 79 = .ok (.bipush 10, 2) := by decide +kernel
theorem dX10_keepAll_81 : decode cX10_keepAll 81 = .ok (.if_icmp .ge 45, 3) := by decide +kernel
theorem dX10_keepAll_84 : decode cX10_keepAll 84 = .ok (.aload_n 1, 1) := by decide +kernel
theorem dX10_keepAll_85 : decode cX10_keepAll 85 = .ok (.bipush 20, 2) := by decide +kernel
theorem dX10_keepAll_87 : decode cX10_keepAll 87 = .ok (.iload_n 2, 1) := by decide +kernel
theorem dX10_keepAll_88 : decode cX10_keepAll 88 = .ok (.iadd, 1) := by decide +kernel
theorem dX10_keepAll_89 : decode cX10_keepAll 89 = .ok (.aload_n 0, 1) := by decide +kernel
theorem dX10_keepAll_90 : decode cX10_keepAll 90 = .ok (.getfield 7, 3) := by decide +kernel
theorem dX10_keepAll_93 : decode cX10_keepAll 93 = .ok (.iload_n 2, 1) := by decide +kernel
theorem dX10_keepAll_94 : decode cX10_keepAll 94 = .ok (.iaload, 1) := by decide +kernel
theorem dX10_keepAll_95 : decode cX10_keepAll 95 = .ok (.iastore, 1) := by decide +kernel
theorem dX10_keepAll_96 : decode cX10_keepAll 96 = .ok (.aload_n 1, 1) := by decide +kernel
theorem dX10_keepAll_97 : decode cX10_keepAll 97 = .ok (.bipush 30, 2) := by decide +kernel
theorem dX10_keepAll_99 : decode cX10_keepAll 99 = .ok (.iload_n 2, 1) := by decide +kernel
theorem dX10_keepAll_100 : decode cX10_keepAll 100 = .ok (.iadd, 1) := by decide +kernel
theorem dX10_keepAll_101 : decode cX10_keepAll 101 = .ok (.aload_n 0, 1) := by decide +kernel
theorem dX10_keepAll_102 : decode cX10_keepAll 102 = .ok (.getfield 13, 3) := by decide +kernel
theorem dX10_keepAll_105 : decode cX10_keepAll 105 = .ok (.iload_n 2, 1) := by decide +kernel
theorem dX10_keepAll_106 : decode cX10_keepAll 106 = .ok (.iaload, 1) := by decide +kernel
theorem dX10_keepAll_107 : decode cX10_keepAll 107 = .ok (.iastore, 1) := by decide +kernel
theorem dX10_keepAll_108 : decode cX10_keepAll 108 = .ok (.aload_n 1, 1) := by decide +kernel
theorem dX10_keepAll_109 : decode cX10_keepAll 109 = .ok (.bipush 40, 2) := by decide +kernel
theorem dX10_keepAll_111 : decode cX10_keepAll 111 = .ok (.iload_n 2, 1) := by decide +kernel
theorem dX10_keepAll_112 : decode cX10_keepAll 112 = .ok (.iadd, 1) := by decide +kernel
theorem dX10_keepAll_113 : decode cX10_keepAll 113 = .ok (.aload_n 0, 1) := by decide +kernel
theorem dX10_keepAll_114 : decode cX10_keepAll 114 = .ok (.getfield 16, 3) := by decide +kernel
theorem dX10_keepAll_117 : decode cX10_keepAll 117 = .ok (.iload_n 2, 1) := by decide +kernel
theorem dX10_keepAll_118 : decode cX10_keepAll 118 = .ok (.iaload, 1) := by decide +kernel
theorem dX10_keepAll_119 : decode cX10_keepAll 119 = .ok (.iastore, 1) := by decide +kernel
theorem dX10_keepAll_120 : decode cX10_keepAll 120 = .ok (.iinc 2 1, 3) := by decide +kernel
theorem dX10_keepAll_123 : decode cX10_keepAll 123 = .ok (.goto (-45), 3) := by decide +kernel
theorem dX10_keepAll_126 : decode cX10_keepAll 126 = .ok (.return_, 1) := by decide +kernel
theorem dX10_backTo_0 : decode cX10_backTo 0 = .ok (.aload_n 0, 1) := by decide +kernel
theorem dX10_backTo_1 : decode cX10_backTo 1 = .ok (.aload_n 1, 1) := by decide +kernel
theorem dX10_backTo_2 : decode cX10_backTo 2 = .ok (.iconst 0, 1) := by decide +kernel
theorem dX10_backTo_3 : decode cX10_backTo 3 = .ok (.iaload, 1) := by decide +kernel
theorem dX10_backTo_4 : decode cX10_backTo 4 = .ok (.putfield 118, 3) := by decide +kernel
theorem dX10_backTo_7 : decode cX10_backTo 7 = .ok (.aload_n 0, 1) := by decide +kernel
theorem dX10_backTo_8 : decode cX10_backTo 8 = .ok (.aload_n 1, 1) := by decide +kernel
theorem dX10_backTo_9 : decode cX10_backTo 9 = .ok (.iconst 1, 1) := by decide +kernel
theorem dX10_backTo_10 : decode cX10_backTo 10 = .ok (.iaload, 1) := by decide +kernel
theorem dX10_backTo_11 : decode cX10_backTo 11 = .ok (.putfield 19, 3) := by decide +kernel
theorem dX10_backTo_14 : decode cX10_backTo 14 = .ok (.aload_n 0, 1) := by decide +kernel
theorem dX10_backTo_15 : decode cX10_backTo 15 = .ok (.aload_n 1, 1) := by decide +kernel
theorem dX10_backTo_16 : decode cX10_backTo 16 = .ok (.iconst 2, 1) := by decide +kernel
theorem dX10_backTo_17 : decode cX10_backTo 17 = .ok (.iaload, 1) := by decide +kernel
theorem dX10_backTo_18 : decode cX10_backTo 18 = .ok (.putfield 23, 3) := by decide +kernel
theorem dX10_backTo_21 : decode cX10_backTo 21 = .ok (.aload_n 0, 1) := by decide +kernel
theorem dX10_backTo_22 : decode cX10_backTo 22 = .ok (.aload_n 1, 1) := by decide +kernel
theorem dX10_backTo_23 : decode cX10_backTo 23 = .ok (.iconst 3, 1) := by decide +kernel
theorem dX10_backTo_24 : decode cX10_backTo 24 = .ok (.iaload, 1) := by decide +kernel
theorem dX10_backTo_25 : decode cX10_backTo 25 = .ok (.putfield 170, 3) := by decide +kernel
theorem dX10_backTo_28 : decode cX10_backTo 28 = .ok (.aload_n 0, 1) := by decide +kernel
theorem dX10_backTo_29 : decode cX10_backTo 29 = .ok (.aload_n 1, 1) := by decide +kernel
theorem dX10_backTo_30 : decode cX10_backTo 30 = .ok (.iconst 4, 1) := by decide +kernel
theorem dX10_backTo_31 : decode cX10_backTo 31 = .ok (.iaload, 1) := by decide +kernel
theorem dX10_backTo_32 : decode cX10_backTo 32 = .ok (.putfield 173, 3) := by decide +kernel
theorem dX10_backTo_35 : decode cX10_backTo 35 = .ok (.aload_n 0, 1) := by decide +kernel
theorem dX10_backTo_36 : decode cX10_backTo 36 = .ok (.aload_n 1, 1) := by decide +kernel
theorem dX10_backTo_37 : decode cX10_backTo 37 = .ok (.iconst 5, 1) := by decide +kernel
theorem dX10_backTo_38 : decode cX10_backTo 38 = .ok (.iaload, 1) := by decide +kernel
theorem dX10_backTo_39 : decode cX10_backTo 39 = .ok (.putfield 134, 3) := by decide +kernel
theorem dX10_backTo_42 : decode cX10_backTo 42 = .ok (.aload_n 0, 1) := by decide +kernel
theorem dX10_backTo_43 : decode cX10_backTo 43 = .ok (.aload_n 1, 1) := by decide +kernel
theorem dX10_backTo_44 : decode cX10_backTo 44 = .ok (.bipush 6, 2) := by decide +kernel
theorem dX10_backTo_46 : decode cX10_backTo 46 = .ok (.iaload, 1) := by decide +kernel
theorem dX10_backTo_47 : decode cX10_backTo 47 = .ok (.putfield 190, 3) := by decide +kernel
theorem dX10_backTo_50 : decode cX10_backTo 50 = .ok (.iconst 0, 1) := by decide +kernel
theorem dX10_backTo_51 : decode cX10_backTo 51 = .ok (.istore_n 2, 1) := by decide +kernel
theorem dX10_backTo_52 : decode cX10_backTo 52 = .ok (.iload_n 2, 1) := by decide +kernel
theorem dX10_backTo_53 : decode cX10_backTo 53 = .ok (.bipush 6, 2) := by decide +kernel
theorem dX10_backTo_55 : decode cX10_backTo 55 = .ok (.if_icmp .ge 21, 3) := by decide +kernel
theorem dX10_backTo_58 : decode cX10_backTo 58 = .ok (.aload_n 0, 1) := by decide +kernel
theorem dX10_backTo_59 : decode cX10_backTo 59 = .ok (.getfield 26, 3) := by decide +kernel
theorem dX10_backTo_62 : decode cX10_backTo 62 = .ok (.iload_n 2, 1) := by decide +kernel
theorem dX10_backTo_63 : decode cX10_backTo 63 = .ok (.aload_n 1, 1) := by decide +kernel
theorem dX10_backTo_64 : decode cX10_backTo 64 = .ok (.bipush 8, 2) := by decide +kernel
theorem dX10_backTo_66 : decode cX10_backTo 66 = .ok (.iload_n 2, 1) := by decide +kernel
theorem dX10_backTo_67 : decode cX10_backTo 67 = .ok (.iadd, 1) := by decide +kernel
theorem dX10_backTo_68 : decode cX10_backTo 68 = .ok (.iaload, 1) := by decide +kernel
theorem dX10_backTo_69 : decode cX10_backTo 69 = .ok (.iastore, 1) := by decide +kernel
theorem dX10_backTo_70 : decode cX10_backTo 70 = .ok (.iinc 2 1, 3) := by decide +kernel
theorem dX10_backTo_73 : decode cX10_backTo 73 = .ok (.goto (-21), 3) := by decide +kernel
theorem dX10_backTo_76 : decode cX10_backTo 76 = .ok (.iconst 0, 1) := by decide +kernel
theorem dX10_backTo_77 : decode cX10_backTo 77 = .ok (.istore_n 2, 1) := by decide +kernel
theorem dX10_backTo_78 : decode cX10_backTo 78 = .ok (.iload_n 2, 1) := by decide +kernel
theorem dX10_backTo_79 : decode cX10_backTo 79 = .ok (.bipush 10, 2) := by decide +kernel
theorem dX10_backTo_81 : decode cX10_backTo 81 = .ok (.if_icmp .ge 45, 3) := by decide +kernel
theorem dX10_backTo_84 : decode cX10_backTo 84 = .ok (.aload_n 0, 1) := by decide +kernel
theorem dX10_backTo_85 : decode cX10_backTo 85 = .ok (.getfield 7, 3) := by decide +kernel
theorem dX10_backTo_88 : decode cX10_backTo 88 = .ok (.iload_n 2, 1) := by decide +kernel
theorem dX10_backTo_89 : decode cX10_backTo 89 = .ok (.aload_n 1, 1) := by decide +kernel
theorem dX10_backTo_90 : decode cX10_backTo 90 = .ok (.bipush 20, 2) := by decide +kernel
theorem dX10_backTo_92 : decode cX10_backTo 92 = .ok (.iload_n 2, 1) := by decide +kernel
theorem dX10_backTo_93 : decode cX10_backTo 93 = .ok (.iadd, 1) := by decide +kernel
theorem dX10_backTo_94 : decode cX10_backTo 94 = .ok (.iaload, 1) := by decide +kernel
theorem dX10_backTo_95 : decode cX10_backTo 95 = .ok (.iastore, 1) := by decide +kernel
theorem dX10_backTo_96 : decode cX10_backTo 96 = .ok (.aload_n 0, 1) := by decide +kernel
theorem dX10_backTo_97 : decode cX10_backTo 97 = .ok (.getfield 13, 3) := by decide +kernel
theorem dX10_backTo_100 : decode cX10_backTo 100 = .ok (.iload_n 2, 1) := by decide +kernel
theorem dX10_backTo_101 : decode cX10_backTo 101 = .ok (.aload_n 1, 1) := by decide +kernel
theorem dX10_backTo_102 : decode cX10_backTo 102 = .ok (.bipush 30, 2) := by decide +kernel
theorem dX10_backTo_104 : decode cX10_backTo 104 = .ok (.iload_n 2, 1) := by decide +kernel
theorem dX10_backTo_105 : decode cX10_backTo 105 = .ok (.iadd, 1) := by decide +kernel
theorem dX10_backTo_106 : decode cX10_backTo 106 = .ok (.iaload, 1) := by decide +kernel
theorem dX10_backTo_107 : decode cX10_backTo 107 = .ok (.iastore, 1) := by decide +kernel
theorem dX10_backTo_108 : decode cX10_backTo 108 = .ok (.aload_n 0, 1) := by decide +kernel
theorem dX10_backTo_109 : decode cX10_backTo 109 = .ok (.getfield 16, 3) := by decide +kernel
theorem dX10_backTo_112 : decode cX10_backTo 112 = .ok (.iload_n 2, 1) := by decide +kernel
theorem dX10_backTo_113 : decode cX10_backTo 113 = .ok (.aload_n 1, 1) := by decide +kernel
theorem dX10_backTo_114 : decode cX10_backTo 114 = .ok (.bipush 40, 2) := by decide +kernel
theorem dX10_backTo_116 : decode cX10_backTo 116 = .ok (.iload_n 2, 1) := by decide +kernel
theorem dX10_backTo_117 : decode cX10_backTo 117 = .ok (.iadd, 1) := by decide +kernel
theorem dX10_backTo_118 : decode cX10_backTo 118 = .ok (.iaload, 1) := by decide +kernel
theorem dX10_backTo_119 : decode cX10_backTo 119 = .ok (.iastore, 1) := by decide +kernel
theorem dX10_backTo_120 : decode cX10_backTo 120 = .ok (.iinc 2 1, 3) := by decide +kernel
theorem dX10_backTo_123 : decode cX10_backTo 123 = .ok (.goto (-45), 3) := by decide +kernel
theorem dX10_backTo_126 : decode cX10_backTo 126 = .ok (.return_, 1) := by decide +kernel
theorem dX10_image_0 : decode cX10_image 0 = .ok (.aload_n 0, 1) := by decide +kernel
theorem dX10_image_1 : decode cX10_image 1 = .ok (.iconst 1, 1) := by decide +kernel
theorem dX10_image_2 : decode cX10_image 2 = .ok (.putfield 390, 3) := by decide +kernel
theorem dX10_image_5 : decode cX10_image 5 = .ok (.aload_n 0, 1) := by decide +kernel
theorem dX10_image_6 : decode cX10_image 6 = .ok (.aload_n 0, 1) := by decide +kernel
theorem dX10_image_7 : decode cX10_image 7 = .ok (.getfield 91, 3) := by decide +kernel
theorem dX10_image_10 : decode cX10_image 10 = .ok (.invokevirtual 196, 3) := by decide +kernel
theorem dX10_image_13 : decode cX10_image 13 = .ok (.aload_n 0, 1) := by decide +kernel
theorem dX10_image_14 : decode cX10_image 14 = .ok (.getfield 118, 3) := by decide +kernel
theorem dX10_image_17 : decode cX10_image 17 = .ok (.ireturn, 1) := by decide +kernel
theorem dX10_restore_0 : decode cX10_restore 0 = .ok (.aload_n 0, 1) := by decide +kernel
theorem dX10_restore_1 : decode cX10_restore 1 = .ok (.getfield 390, 3) := by decide +kernel
theorem dX10_restore_4 : decode cX10_restore 4 = .ok (.ifCond .ne 6, 3) := by decide +kernel
theorem dX10_restore_7 : decode cX10_restore 7 = .ok (.bipush (-3), 2) := by decide +kernel
theorem dX10_restore_9 : decode cX10_restore 9 = .ok (.ireturn, 1) := by decide +kernel
theorem dX10_restore_10 : decode cX10_restore 10 = .ok (.aload_n 0, 1) := by decide +kernel
theorem dX10_restore_11 : decode cX10_restore 11 = .ok (.aload_n 0, 1) := by decide +kernel
theorem dX10_restore_12 : decode cX10_restore 12 = .ok (.getfield 91, 3) := by decide +kernel
theorem dX10_restore_15 : decode cX10_restore 15 = .ok (.invokevirtual 204, 3) := by decide +kernel
theorem dX10_restore_18 : decode cX10_restore 18 = .ok (.aload_n 0, 1) := by decide +kernel
theorem dX10_restore_19 : decode cX10_restore 19 = .ok (.getfield 118, 3) := by decide +kernel
theorem dX10_restore_22 : decode cX10_restore 22 = .ok (.ireturn, 1) := by decide +kernel
theorem dX10_isShelf_0 : decode cX10_isShelf 0 = .ok (.iload_n 0, 1) := by decide +kernel
theorem dX10_isShelf_1 : decode cX10_isShelf 1 = .ok (.iconst 0, 1) := by decide +kernel
theorem dX10_isShelf_2 : decode cX10_isShelf 2 = .ok (.bipush 7, 2) := by decide +kernel
theorem dX10_isShelf_4 : decode cX10_isShelf 4 = .ok (.invokestatic 121, 3) := by decide +kernel
theorem dX10_isShelf_7 : decode cX10_isShelf 7 = .ok (.ireturn, 1) := by decide +kernel
theorem dX10_keep_0 : decode cX10_keep 0 = .ok (.iload_n 1, 1) := by decide +kernel
theorem dX10_keep_1 : decode cX10_keep 1 = .ok (.invokestatic 207, 3) := by decide +kernel
theorem dX10_keep_4 : decode cX10_keep 4 = .ok (.ifCond .eq 38, 3) := by decide +kernel
theorem dX10_keep_7 : decode cX10_keep 7 = .ok (.iload_n 2, 1) := by decide +kernel
theorem dX10_keep_8 : decode cX10_keep 8 = .ok (.iconst 0, 1) := by decide +kernel
theorem dX10_keep_9 : decode cX10_keep 9 = .ok (.iconst 1, 1) := by decide +kernel
theorem dX10_keep_10 : decode cX10_keep 10 = .ok (.invokestatic 121, 3) := by decide +kernel
theorem dX10_keep_13 : decode cX10_keep 13 = .ok (.ifCond .eq 29, 3) := by decide +kernel
theorem dX10_keep_16 : decode cX10_keep 16 = .ok (.iload_n 2, 1) := by decide +kernel
theorem dX10_keep_17 : decode cX10_keep 17 = .ok (.iconst 1, 1) := by decide +kernel
theorem dX10_keep_18 : decode cX10_keep 18 = .ok (.if_icmp .ne 26, 3) := by decide +kernel
theorem dX10_keep_21 : decode cX10_keep 21 = .ok (.iload_n 3, 1) := by decide +kernel
theorem dX10_keep_22 : decode cX10_keep 22 = .ok (.iconst 0, 1) := by decide +kernel
theorem dX10_keep_23 : decode cX10_keep 23 = .ok (.bipush 7, 2) := by decide +kernel
theorem dX10_keep_25 : decode cX10_keep 25 = .ok (.invokestatic 121, 3) := by decide +kernel
theorem dX10_keep_28 : decode cX10_keep 28 = .ok (.ifCond .eq 14, 3) := by decide +kernel
theorem dX10_keep_31 : decode cX10_keep 31 = .ok (.iload 4, 2) := by decide +kernel
theorem dX10_keep_33 : decode cX10_keep 33 = .ok (.iconst 0, 1) := by decide +kernel
theorem dX10_keep_34 : decode cX10_keep 34 = .ok (.bipush 9, 2) := by decide +kernel
theorem dX10_keep_36 : decode cX10_keep 36 = .ok (.invokestatic 121, 3) := by decide +kernel
theorem dX10_keep_39 : decode cX10_keep 39 = .ok (.ifCond .ne 5, 3) := by decide +kernel
theorem dX10_keep_42 : decode cX10_keep 42 = .ok (.iconst (-1), 1) := by decide +kernel
theorem dX10_keep_43 : decode cX10_keep 43 = .ok (.ireturn, 1) := by decide +kernel
theorem dX10_keep_44 : decode cX10_keep 44 = .ok (.aload_n 0, 1) := by decide +kernel
theorem dX10_keep_45 : decode cX10_keep 45 = .ok (.getfield 97, 3) := by decide +kernel
theorem dX10_keep_48 : decode cX10_keep 48 = .ok (.iload_n 1, 1) := by decide +kernel
theorem dX10_keep_49 : decode cX10_keep 49 = .ok (.iload_n 2, 1) := by decide +kernel
theorem dX10_keep_50 : decode cX10_keep 50 = .ok (.iastore, 1) := by decide +kernel
theorem dX10_keep_51 : decode cX10_keep 51 = .ok (.aload_n 0, 1) := by decide +kernel
theorem dX10_keep_52 : decode cX10_keep 52 = .ok (.getfield 100, 3) := by decide +kernel
theorem dX10_keep_55 : decode cX10_keep 55 = .ok (.iload_n 1, 1) := by decide +kernel
theorem dX10_keep_56 : decode cX10_keep 56 = .ok (.iload_n 3, 1) := by decide +kernel
theorem dX10_keep_57 : decode cX10_keep 57 = .ok (.iastore, 1) := by decide +kernel
theorem dX10_keep_58 : decode cX10_keep 58 = .ok (.aload_n 0, 1) := by decide +kernel
theorem dX10_keep_59 : decode cX10_keep 59 = .ok (.getfield 103, 3) := by decide +kernel
theorem dX10_keep_62 : decode cX10_keep 62 = .ok (.iload_n 1, 1) := by decide +kernel
theorem dX10_keep_63 : decode cX10_keep 63 = .ok (.iload 4, 2) := by decide +kernel
theorem dX10_keep_65 : decode cX10_keep 65 = .ok (.iastore, 1) := by decide +kernel
theorem dX10_keep_66 : decode cX10_keep 66 = .ok (.iconst 0, 1) := by decide +kernel
theorem dX10_keep_67 : decode cX10_keep 67 = .ok (.ireturn, 1) := by decide +kernel
theorem dX10_row_0 : decode cX10_row 0 = .ok (.iload_n 1, 1) := by decide +kernel
theorem dX10_row_1 : decode cX10_row 1 = .ok (.invokestatic 207, 3) := by decide +kernel
theorem dX10_row_4 : decode cX10_row 4 = .ok (.ifCond .eq 18, 3) := by decide +kernel
theorem dX10_row_7 : decode cX10_row 7 = .ok (.iload_n 2, 1) := by decide +kernel
theorem dX10_row_8 : decode cX10_row 8 = .ok (.iconst 0, 1) := by decide +kernel
theorem dX10_row_9 : decode cX10_row 9 = .ok (.iconst 2, 1) := by decide +kernel
theorem dX10_row_10 : decode cX10_row 10 = .ok (.invokestatic 121, 3) := by decide +kernel
theorem dX10_row_13 : decode cX10_row 13 = .ok (.ifCond .eq 9, 3) := by decide +kernel
theorem dX10_row_16 : decode cX10_row 16 = .ok (.iload_n 3, 1) := by decide +kernel
theorem dX10_row_17 : decode cX10_row 17 = .ok (.bipush 100, 2) := by decide +kernel
theorem dX10_row_19 : decode cX10_row 19 = .ok (.if_icmp .le 5, 3) := by decide +kernel
theorem dX10_row_22 : decode cX10_row 22 = .ok (.iconst (-1), 1) := by decide +kernel
theorem dX10_row_23 : decode cX10_row 23 = .ok (.ireturn, 1) := by decide +kernel
theorem dX10_row_24 : decode cX10_row 24 = .ok (.iload_n 3, 1) := by decide +kernel
theorem dX10_row_25 : decode cX10_row 25 = .ok (.ifCond .ge 6, 3) := by decide +kernel
theorem dX10_row_28 : decode cX10_row 28 = .ok (.bipush (-14), 2) := by decide +kernel
theorem dX10_row_30 : decode cX10_row 30 = .ok (.ireturn, 1) := by decide +kernel
theorem dX10_row_31 : decode cX10_row 31 = .ok (.aload_n 0, 1) := by decide +kernel
theorem dX10_row_32 : decode cX10_row 32 = .ok (.getfield 97, 3) := by decide +kernel
theorem dX10_row_35 : decode cX10_row 35 = .ok (.iload_n 1, 1) := by decide +kernel
theorem dX10_row_36 : decode cX10_row 36 = .ok (.iconst 2, 1) := by decide +kernel
theorem dX10_row_37 : decode cX10_row 37 = .ok (.iastore, 1) := by decide +kernel
theorem dX10_row_38 : decode cX10_row 38 = .ok (.aload_n 0, 1) := by decide +kernel
theorem dX10_row_39 : decode cX10_row 39 = .ok (.getfield 106, 3) := by decide +kernel
theorem dX10_row_42 : decode cX10_row 42 = .ok (.iload_n 1, 1) := by decide +kernel
theorem dX10_row_43 : decode cX10_row 43 = .ok (.iload_n 2, 1) := by decide +kernel
theorem dX10_row_44 : decode cX10_row 44 = .ok (.iastore, 1) := by decide +kernel
theorem dX10_row_45 : decode cX10_row 45 = .ok (.aload_n 0, 1) := by decide +kernel
theorem dX10_row_46 : decode cX10_row 46 = .ok (.getfield 109, 3) := by decide +kernel
theorem dX10_row_49 : decode cX10_row 49 = .ok (.iload_n 1, 1) := by decide +kernel
theorem dX10_row_50 : decode cX10_row 50 = .ok (.iload_n 3, 1) := by decide +kernel
theorem dX10_row_51 : decode cX10_row 51 = .ok (.iastore, 1) := by decide +kernel
theorem dX10_row_52 : decode cX10_row 52 = .ok (.iconst 0, 1) := by decide +kernel
theorem dX10_row_53 : decode cX10_row 53 = .ok (.istore 4, 2) := by decide +kernel
theorem dX10_row_55 : decode cX10_row 55 = .ok (.iload 4, 2) := by decide +kernel
theorem dX10_row_57 : decode cX10_row 57 = .ok (.bipush 100, 2) := by decide +kernel
theorem dX10_row_59 : decode cX10_row 59 = .ok (.if_icmp .ge 22, 3) := by decide +kernel
theorem dX10_row_62 : decode cX10_row 62 = .ok (.aload_n 0, 1) := by decide +kernel
theorem dX10_row_63 : decode cX10_row 63 = .ok (.getfield 112, 3) := by decide +kernel
theorem dX10_row_66 : decode cX10_row 66 = .ok (.bipush 100, 2) := by decide +kernel
theorem dX10_row_68 : decode cX10_row 68 = .ok (.iload_n 1, 1) := by decide +kernel
theorem dX10_row_69 : decode cX10_row 69 = .ok (.imul, 1) := by decide +kernel
theorem dX10_row_70 : decode cX10_row 70 = .ok (.iload 4, 2) := by decide +kernel
theorem dX10_row_72 : decode cX10_row 72 = .ok (.iadd, 1) := by decide +kernel
theorem dX10_row_73 : decode cX10_row 73 = .ok (.iconst 0, 1) := by decide +kernel
theorem dX10_row_74 : decode cX10_row 74 = .ok (.iastore, 1) := by decide +kernel
theorem dX10_row_75 : decode cX10_row 75 = .ok (.iinc 4 1, 3) := by decide +kernel
theorem dX10_row_78 : decode cX10_row 78 = .ok (.goto (-23), 3) := by decide +kernel
theorem dX10_row_81 : decode cX10_row 81 = .ok (.iconst 0, 1) := by decide +kernel
theorem dX10_row_82 : decode cX10_row 82 = .ok (.ireturn, 1) := by decide +kernel
theorem dX10_put_0 : decode cX10_put 0 = .ok (.iload_n 1, 1) := by decide +kernel
theorem dX10_put_1 : decode cX10_put 1 = .ok (.invokestatic 207, 3) := by decide +kernel
theorem dX10_put_4 : decode cX10_put 4 = .ok (.ifCond .ne 5, 3) := by decide +kernel
theorem dX10_put_7 : decode cX10_put 7 = .ok (.iconst (-1), 1) := by decide +kernel
theorem dX10_put_8 : decode cX10_put 8 = .ok (.ireturn, 1) := by decide +kernel
theorem dX10_put_9 : decode cX10_put 9 = .ok (.aload_n 0, 1) := by decide +kernel
theorem dX10_put_10 : decode cX10_put 10 = .ok (.getfield 97, 3) := by decide +kernel
theorem dX10_put_13 : decode cX10_put 13 = .ok (.iload_n 1, 1) := by decide +kernel
theorem dX10_put_14 : decode cX10_put 14 = .ok (.iaload, 1) := by decide +kernel
theorem dX10_put_15 : decode cX10_put 15 = .ok (.iconst 2, 1) := by decide +kernel
theorem dX10_put_16 : decode cX10_put 16 = .ok (.if_icmp .eq 20, 3) := by decide +kernel
theorem dX10_put_19 : decode cX10_put 19 = .ok (.aload_n 0, 1) := by decide +kernel
theorem dX10_put_20 : decode cX10_put 20 = .ok (.getfield 97, 3) := by decide +kernel
theorem dX10_put_23 : decode cX10_put 23 = .ok (.iload_n 1, 1) := by decide +kernel
theorem dX10_put_24 : decode cX10_put 24 = .ok (.iaload, 1) := by decide +kernel
theorem dX10_put_25 : decode cX10_put 25 = .ok (.ifCond .ne 8, 3) := by decide +kernel
theorem dX10_put_28 : decode cX10_put 28 = .ok (.bipush (-11), 2) := by decide +kernel
theorem dX10_put_30 : decode cX10_put 30 = .ok (.goto 5, 3) := by decide +kernel
theorem dX10_put_33 : decode cX10_put 33 = .ok (.bipush (-12), 2) := by decide +kernel
theorem dX10_put_35 : decode cX10_put 35 = .ok (.ireturn, 1) := by decide +kernel
theorem dX10_put_36 : decode cX10_put 36 = .ok (.iload_n 2, 1) := by decide +kernel
theorem dX10_put_37 : decode cX10_put 37 = .ok (.iconst 0, 1) := by decide +kernel
theorem dX10_put_38 : decode cX10_put 38 = .ok (.aload_n 0, 1) := by decide +kernel
theorem dX10_put_39 : decode cX10_put 39 = .ok (.getfield 109, 3) := by decide +kernel
theorem dX10_put_42 : decode cX10_put 42 = .ok (.iload_n 1, 1) := by decide +kernel
theorem dX10_put_43 : decode cX10_put 43 = .ok (.iaload, 1) := by decide +kernel
theorem dX10_put_44 : decode cX10_put 44 = .ok (.iconst 1, 1) := by decide +kernel
theorem dX10_put_45 : decode cX10_put 45 = .ok (.isub, 1) := by decide +kernel
theorem dX10_put_46 : decode cX10_put 46 = .ok (.invokestatic 121, 3) := by decide +kernel
theorem dX10_put_49 : decode cX10_put 49 = .ok (.ifCond .ne 6, 3) := by decide +kernel
theorem dX10_put_52 : decode cX10_put 52 = .ok (.bipush (-13), 2) := by decide +kernel
theorem dX10_put_54 : decode cX10_put 54 = .ok (.ireturn, 1) := by decide +kernel
theorem dX10_put_55 : decode cX10_put 55 = .ok (.aload_n 0, 1) := by decide +kernel
theorem dX10_put_56 : decode cX10_put 56 = .ok (.getfield 112, 3) := by decide +kernel
theorem dX10_put_59 : decode cX10_put 59 = .ok (.bipush 100, 2) := by decide +kernel
theorem dX10_put_61 : decode cX10_put 61 = .ok (.iload_n 1, 1) := by decide +kernel
theorem dX10_put_62 : decode cX10_put 62 = .ok (.imul, 1) := by decide +kernel
theorem dX10_put_63 : decode cX10_put 63 = .ok (.iload_n 2, 1) := by decide +kernel
theorem dX10_put_64 : decode cX10_put 64 = .ok (.iadd, 1) := by decide +kernel
theorem dX10_put_65 : decode cX10_put 65 = .ok (.aload_n 0, 1) := by decide +kernel
theorem dX10_put_66 : decode cX10_put 66 = .ok (.getfield 106, 3) := by decide +kernel
theorem dX10_put_69 : decode cX10_put 69 = .ok (.iload_n 1, 1) := by decide +kernel
theorem dX10_put_70 : decode cX10_put 70 = .ok (.iaload, 1) := by decide +kernel
theorem dX10_put_71 : decode cX10_put 71 = .ok (.ifCond .ne 8, 3) := by decide +kernel
theorem dX10_put_74 : decode cX10_put 74 = .ok (.iload_n 3, 1) := by decide +kernel
theorem dX10_put_75 : decode cX10_put 75 = .ok (.i2b, 1) := by decide +kernel
theorem dX10_put_76 : decode cX10_put 76 = .ok (.goto 19, 3) := by decide +kernel
theorem dX10_put_79 : decode cX10_put 79 = .ok (.aload_n 0, 1) := by decide +kernel
theorem dX10_put_80 : decode cX10_put 80 = .ok (.getfield 106, 3) := by decide +kernel
theorem dX10_put_83 : decode cX10_put 83 = .ok (.iload_n 1, 1) := by decide +kernel
theorem dX10_put_84 : decode cX10_put 84 = .ok (.iaload, 1) := by decide +kernel
theorem dX10_put_85 : decode cX10_put 85 = .ok (.iconst 1, 1) := by decide +kernel
theorem dX10_put_86 : decode cX10_put 86 = .ok (.if_icmp .ne 8, 3) := by decide +kernel
theorem dX10_put_89 : decode cX10_put 89 = .ok (.iload_n 3, 1) := by decide +kernel
theorem dX10_put_90 : decode cX10_put 90 = .ok (.i2s, 1) := by decide +kernel
theorem dX10_put_91 : decode cX10_put 91 = .ok (.goto 4, 3) := by decide +kernel
theorem dX10_put_94 : decode cX10_put 94 = .ok (.iload_n 3, 1) := by decide +kernel
theorem dX10_put_95 : decode cX10_put 95 = .ok (.iastore, 1) := by decide +kernel
theorem dX10_put_96 : decode cX10_put 96 = .ok (.iconst 0, 1) := by decide +kernel
theorem dX10_put_97 : decode cX10_put 97 = .ok (.ireturn, 1) := by decide +kernel
theorem dX10_element_0 : decode cX10_element 0 = .ok (.aload_n 0, 1) := by decide +kernel
theorem dX10_element_1 : decode cX10_element 1 = .ok (.iload_n 1, 1) := by decide +kernel
theorem dX10_element_2 : decode cX10_element 2 = .ok (.invokestatic 207, 3) := by decide +kernel
theorem dX10_element_5 : decode cX10_element 5 = .ok (.ifCond .ne 7, 3) := by decide +kernel
theorem dX10_element_8 : decode cX10_element 8 = .ok (.iconst 1, 1) := by decide +kernel
theorem dX10_element_9 : decode cX10_element 9 = .ok (.goto 34, 3) := by decide +kernel
theorem dX10_element_12 : decode cX10_element 12 = .ok (.aload_n 0, 1) := by decide +kernel
theorem dX10_element_13 : decode cX10_element 13 = .ok (.getfield 97, 3) := by decide +kernel
theorem dX10_element_16 : decode cX10_element 16 = .ok (.iload_n 1, 1) := by decide +kernel
theorem dX10_element_17 : decode cX10_element 17 = .ok (.iaload, 1) := by decide +kernel
theorem dX10_element_18 : decode cX10_element 18 = .ok (.iconst 2, 1) := by decide +kernel
theorem dX10_element_19 : decode cX10_element 19 = .ok (.if_icmp .ne 19, 3) := by decide +kernel
theorem dX10_element_22 : decode cX10_element 22 = .ok (.iload_n 2, 1) := by decide +kernel
theorem dX10_element_23 : decode cX10_element 23 = .ok (.iconst 0, 1) := by decide +kernel
theorem dX10_element_24 : decode cX10_element 24 = .ok (.aload_n 0, 1) := by decide +kernel
theorem dX10_element_25 : decode cX10_element 25 = .ok (.getfield 109, 3) := by decide +kernel
theorem dX10_element_28 : decode cX10_element 28 = .ok (.iload_n 1, 1) := by decide +kernel
theorem dX10_element_29 : decode cX10_element 29 = .ok (.iaload, 1) := by decide +kernel
theorem dX10_element_30 : decode cX10_element 30 = .ok (.iconst 1, 1) := by decide +kernel
theorem dX10_element_31 : decode cX10_element 31 = .ok (.isub, 1) := by decide +kernel
theorem dX10_element_32 : decode cX10_element 32 = .ok (.invokestatic 121, 3) := by decide +kernel
theorem dX10_element_35 : decode cX10_element 35 = .ok (.ifCond .ne 7, 3) := by decide +kernel
theorem dX10_element_38 : decode cX10_element 38 = .ok (.iconst 2, 1) := by decide +kernel
theorem dX10_element_39 : decode cX10_element 39 = .ok (.goto 4, 3) := by decide +kernel
theorem dX10_element_42 : decode cX10_element 42 = .ok (.iconst 0, 1) := by decide +kernel
theorem dX10_element_43 : decode cX10_element 43 = .ok (.putfield 393, 3) := by decide +kernel
theorem dX10_element_46 : decode cX10_element 46 = .ok (.aload_n 0, 1) := by decide +kernel
theorem dX10_element_47 : decode cX10_element 47 = .ok (.getfield 393, 3) := by decide +kernel
theorem dX10_element_50 : decode cX10_element 50 = .ok (.ifCond .ne 18, 3) := by decide +kernel
theorem dX10_element_53 : decode cX10_element 53 = .ok (.aload_n 0, 1) := by decide +kernel
theorem dX10_element_54 : decode cX10_element 54 = .ok (.getfield 112, 3) := by decide +kernel
theorem dX10_element_57 : decode cX10_element 57 = .ok (.bipush 100, 2) := by decide +kernel
theorem dX10_element_59 : decode cX10_element 59 = .ok (.iload_n 1, 1) := by decide +kernel
theorem dX10_element_60 : decode cX10_element 60 = .ok (.imul, 1) := by decide +kernel
theorem dX10_element_61 : decode cX10_element 61 = .ok (.iload_n 2, 1) := by decide +kernel
theorem dX10_element_62 : decode cX10_element 62 = .ok (.iadd, 1) := by decide +kernel
theorem dX10_element_63 : decode cX10_element 63 = .ok (.iaload, 1) := by decide +kernel
theorem dX10_element_64 : decode cX10_element 64 = .ok (.i2l, 1) := by decide +kernel
theorem dX10_element_65 : decode cX10_element 65 = .ok (.goto 4, 3) := by decide +kernel
theorem dX10_element_68 : decode cX10_element 68 = .ok (.lconst 0, 1) := by decide +kernel
theorem dX10_element_69 : decode cX10_element 69 = .ok (.lreturn, 1) := by decide +kernel
theorem dX10_thrown_0 : decode cX10_thrown 0 = .ok (.aload_n 0, 1) := by decide +kernel
theorem dX10_thrown_1 : decode cX10_thrown 1 = .ok (.getfield 393, 3) := by decide +kernel
theorem dX10_thrown_4 : decode cX10_thrown 4 = .ok (.ireturn, 1) := by decide +kernel
theorem dX10_copy_0 : decode cX10_copy 0 = .ok (.iload_n 1, 1) := by decide +kernel
theorem dX10_copy_1 : decode cX10_copy 1 = .ok (.invokestatic 207, 3) := by decide +kernel
theorem dX10_copy_4 : decode cX10_copy 4 = .ok (.ifCond .eq 10, 3) := by decide +kernel
theorem dX10_copy_7 : decode cX10_copy 7 = .ok (.iload_n 3, 1) := by decide +kernel
theorem dX10_copy_8 : decode cX10_copy 8 = .ok (.invokestatic 207, 3) := by decide +kernel
theorem dX10_copy_11 : decode cX10_copy 11 = .ok (.ifCond .ne 5, 3) := by decide +kernel
theorem dX10_copy_14 : decode cX10_copy 14 = .ok (.iconst (-1), 1) := by decide +kernel
theorem dX10_copy_15 : decode cX10_copy 15 = .ok (.ireturn, 1) := by decide +kernel
theorem dX10_copy_16 : decode cX10_copy 16 = .ok (.aload_n 0, 1) := by decide +kernel
theorem dX10_copy_17 : decode cX10_copy 17 = .ok (.getfield 97, 3) := by decide +kernel
theorem dX10_copy_20 : decode cX10_copy 20 = .ok (.iload_n 1, 1) := by decide +kernel
theorem dX10_copy_21 : decode cX10_copy 21 = .ok (.iaload, 1) := by decide +kernel
theorem dX10_copy_22 : decode cX10_copy 22 = .ok (.ifCond .eq 12, 3) := by decide +kernel
theorem dX10_copy_25 : decode cX10_copy 25 = .ok (.aload_n 0, 1) := by decide +kernel
theorem dX10_copy_26 : decode cX10_copy 26 = .ok (.getfield 97, 3) := by decide +kernel
theorem dX10_copy_29 : decode cX10_copy 29 = .ok (.iload_n 3, 1) := by decide +kernel
theorem dX10_copy_30 : decode cX10_copy 30 = .ok (.iaload, 1) := by decide +kernel
theorem dX10_copy_31 : decode cX10_copy 31 = .ok (.ifCond .ne 6, 3) := by decide +kernel
theorem dX10_copy_34 : decode cX10_copy 34 = .ok (.bipush (-11), 2) := by decide +kernel
theorem dX10_copy_36 : decode cX10_copy 36 = .ok (.ireturn, 1) := by decide +kernel
theorem dX10_copy_37 : decode cX10_copy 37 = .ok (.aload_n 0, 1) := by decide +kernel
theorem dX10_copy_38 : decode cX10_copy 38 = .ok (.getfield 97, 3) := by decide +kernel
theorem dX10_copy_41 : decode cX10_copy 41 = .ok (.iload_n 1, 1) := by decide +kernel
theorem dX10_copy_42 : decode cX10_copy 42 = .ok (.iaload, 1) := by decide +kernel
theorem dX10_copy_43 : decode cX10_copy 43 = .ok (.iconst 1, 1) := by decide +kernel
theorem dX10_copy_44 : decode cX10_copy 44 = .ok (.if_icmp .eq 28, 3) := by decide +kernel
theorem dX10_copy_47 : decode cX10_copy 47 = .ok (.aload_n 0, 1) := by decide +kernel
theorem dX10_copy_48 : decode cX10_copy 48 = .ok (.getfield 97, 3) := by decide +kernel
theorem dX10_copy_51 : decode cX10_copy 51 = .ok (.iload_n 3, 1) := by decide +kernel
theorem dX10_copy_52 : decode cX10_copy 52 = .ok (.iaload, 1) := by decide +kernel
theorem dX10_copy_53 : decode cX10_copy 53 = .ok (.iconst 1, 1) := by decide +kernel
theorem dX10_copy_54 : decode cX10_copy 54 = .ok (.if_icmp .eq 18, 3) := by decide +kernel
theorem dX10_copy_57 : decode cX10_copy 57 = .ok (.aload_n 0, 1) := by decide +kernel
theorem dX10_copy_58 : decode cX10_copy 58 = .ok (.getfield 106, 3) := by decide +kernel
theorem dX10_copy_61 : decode cX10_copy 61 = .ok (.iload_n 1, 1) := by decide +kernel
theorem dX10_copy_62 : decode cX10_copy 62 = .ok (.iaload, 1) := by decide +kernel
theorem dX10_copy_63 : decode cX10_copy 63 = .ok (.aload_n 0, 1) := by decide +kernel
theorem dX10_copy_64 : decode cX10_copy 64 = .ok (.getfield 106, 3) := by decide +kernel
theorem dX10_copy_67 : decode cX10_copy 67 = .ok (.iload_n 3, 1) := by decide +kernel
theorem dX10_copy_68 : decode cX10_copy 68 = .ok (.iaload, 1) := by decide +kernel
theorem dX10_copy_69 : decode cX10_copy 69 = .ok (.if_icmp .eq 6, 3) := by decide +kernel
theorem dX10_copy_72 : decode cX10_copy 72 = .ok (.bipush (-12), 2) := by decide +kernel
theorem dX10_copy_74 : decode cX10_copy 74 = .ok (.ireturn, 1) := by decide +kernel
theorem dX10_copy_75 : decode cX10_copy 75 = .ok (.iload 5, 2) := by decide +kernel
theorem dX10_copy_77 : decode cX10_copy 77 = .ok (.ifCond .lt 39, 3) := by decide +kernel
theorem dX10_copy_80 : decode cX10_copy 80 = .ok (.iload_n 2, 1) := by decide +kernel
theorem dX10_copy_81 : decode cX10_copy 81 = .ok (.ifCond .lt 35, 3) := by decide +kernel
theorem dX10_copy_84 : decode cX10_copy 84 = .ok (.iload 4, 2) := by decide +kernel
theorem dX10_copy_86 : decode cX10_copy 86 = .ok (.ifCond .lt 30, 3) := by decide +kernel
theorem dX10_copy_89 : decode cX10_copy 89 = .ok (.iload 5, 2) := by decide +kernel
theorem dX10_copy_91 : decode cX10_copy 91 = .ok (.aload_n 0, 1) := by decide +kernel
theorem dX10_copy_92 : decode cX10_copy 92 = .ok (.getfield 109, 3) := by decide +kernel
theorem dX10_copy_95 : decode cX10_copy 95 = .ok (.iload_n 1, 1) := by decide +kernel
theorem dX10_copy_96 : decode cX10_copy 96 = .ok (.iaload, 1) := by decide +kernel
theorem dX10_copy_97 : decode cX10_copy 97 = .ok (.iload_n 2, 1) := by decide +kernel
theorem dX10_copy_98 : decode cX10_copy 98 = .ok (.isub, 1) := by decide +kernel
theorem dX10_copy_99 : decode cX10_copy 99 = .ok (.if_icmp .gt 17, 3) := by decide +kernel
theorem dX10_copy_102 : decode cX10_copy 102 = .ok (.iload 5, 2) := by decide +kernel
theorem dX10_copy_104 : decode cX10_copy 104 = .ok (.aload_n 0, 1) := by decide +kernel
theorem dX10_copy_105 : decode cX10_copy 105 = .ok (.getfield 109, 3) := by decide +kernel
theorem dX10_copy_108 : decode cX10_copy 108 = .ok (.iload_n 3, 1) := by decide +kernel
theorem dX10_copy_109 : decode cX10_copy 109 = .ok (.iaload, 1) := by decide +kernel
theorem dX10_copy_110 : decode cX10_copy 110 = .ok (.iload 4, 2) := by decide +kernel
theorem dX10_copy_112 : decode cX10_copy 112 = .ok (.isub, 1) := by decide +kernel
theorem dX10_copy_113 : decode cX10_copy 113 = .ok (.if_icmp .le 6, 3) := by decide +kernel
theorem dX10_copy_116 : decode cX10_copy 116 = .ok (.bipush (-13), 2) := by decide +kernel
theorem dX10_copy_118 : decode cX10_copy 118 = .ok (.ireturn, 1) := by decide +kernel
theorem dX10_copy_119 : decode cX10_copy 119 = .ok (.iconst 0, 1) := by decide +kernel
theorem dX10_copy_120 : decode cX10_copy 120 = .ok (.istore 6, 2) := by decide +kernel
theorem dX10_copy_122 : decode cX10_copy 122 = .ok (.iload 6, 2) := by decide +kernel
theorem dX10_copy_124 : decode cX10_copy 124 = .ok (.iload 5, 2) := by decide +kernel
theorem dX10_copy_126 : decode cX10_copy 126 = .ok (.if_icmp .ge 30, 3) := by decide +kernel
theorem dX10_copy_129 : decode cX10_copy 129 = .ok (.aload_n 0, 1) := by decide +kernel
theorem dX10_copy_130 : decode cX10_copy 130 = .ok (.getfield 115, 3) := by decide +kernel
theorem dX10_copy_133 : decode cX10_copy 133 = .ok (.iload 6, 2) := by decide +kernel
theorem dX10_copy_135 : decode cX10_copy 135 = .ok (.aload_n 0, 1) := by decide +kernel
theorem dX10_copy_136 : decode cX10_copy 136 = .ok (.getfield 112, 3) := by decide +kernel
theorem dX10_copy_139 : decode cX10_copy 139 = .ok (.bipush 100, 2) := by decide +kernel
theorem dX10_copy_141 : decode cX10_copy 141 = .ok (.iload_n 1, 1) := by decide +kernel
theorem dX10_copy_142 : decode cX10_copy 142 = .ok (.imul, 1) := by decide +kernel
theorem dX10_copy_143 : decode cX10_copy 143 = .ok (.iload_n 2, 1) := by decide +kernel
theorem dX10_copy_144 : decode cX10_copy 144 = .ok (.iadd, 1) := by decide +kernel
theorem dX10_copy_145 : decode cX10_copy 145 = .ok (.iload 6, 2) := by decide +kernel
theorem dX10_copy_147 : decode cX10_copy 147 = .ok (.iadd, 1) := by decide +kernel
theorem dX10_copy_148 : decode cX10_copy 148 = .ok (.iaload, 1) := by decide +kernel
theorem dX10_copy_149 : decode cX10_copy 149 = .ok (.iastore, 1) := by decide +kernel
theorem dX10_copy_150 : decode cX10_copy 150 = .ok (.iinc 6 1, 3) := by decide +kernel
theorem dX10_copy_153 : decode cX10_copy 153 = .ok (.goto (-31), 3) := by decide +kernel
theorem dX10_copy_156 : decode cX10_copy 156 = .ok (.iconst 0, 1) := by decide +kernel
theorem dX10_copy_157 : decode cX10_copy 157 = .ok (.istore 6, 2) := by decide +kernel
theorem dX10_copy_159 : decode cX10_copy 159 = .ok (.iload 6, 2) := by decide +kernel
theorem dX10_copy_161 : decode cX10_copy 161 = .ok (.iload 5, 2) := by decide +kernel
theorem dX10_copy_163 : decode cX10_copy 163 = .ok (.if_icmp .ge 31, 3) := by decide +kernel
theorem dX10_copy_166 : decode cX10_copy 166 = .ok (.aload_n 0, 1) := by decide +kernel
theorem dX10_copy_167 : decode cX10_copy 167 = .ok (.getfield 112, 3) := by decide +kernel
theorem dX10_copy_170 : decode cX10_copy 170 = .ok (.bipush 100, 2) := by decide +kernel
theorem dX10_copy_172 : decode cX10_copy 172 = .ok (.iload_n 3, 1) := by decide +kernel
theorem dX10_copy_173 : decode cX10_copy 173 = .ok (.imul, 1) := by decide +kernel
theorem dX10_copy_174 : decode cX10_copy 174 = .ok (.iload 4, 2) := by decide +kernel
theorem dX10_copy_176 : decode cX10_copy 176 = .ok (.iadd, 1) := by decide +kernel
theorem dX10_copy_177 : decode cX10_copy 177 = .ok (.iload 6, 2) := by decide +kernel
theorem dX10_copy_179 : decode cX10_copy 179 = .ok (.iadd, 1) := by decide +kernel
theorem dX10_copy_180 : decode cX10_copy 180 = .ok (.aload_n 0, 1) := by decide +kernel
theorem dX10_copy_181 : decode cX10_copy 181 = .ok (.getfield 115, 3) := by decide +kernel
theorem dX10_copy_184 : decode cX10_copy 184 = .ok (.iload 6, 2) := by decide +kernel
theorem dX10_copy_186 : decode cX10_copy 186 = .ok (.iaload, 1) := by decide +kernel
theorem dX10_copy_187 : decode cX10_copy 187 = .ok (.iastore, 1) := by decide +kernel
theorem dX10_copy_188 : decode cX10_copy 188 = .ok (.iinc 6 1, 3) := by decide +kernel
theorem dX10_copy_191 : decode cX10_copy 191 = .ok (.goto (-32), 3) := by decide +kernel
theorem dX10_copy_194 : decode cX10_copy 194 = .ok (.iload 5, 2) := by decide +kernel
theorem dX10_copy_196 : decode cX10_copy 196 = .ok (.ireturn, 1) := by decide +kernel
theorem dX10_costOn_0 : decode cX10_costOn 0 = .ok (.aload_n 0, 1) := by decide +kernel
theorem dX10_costOn_1 : decode cX10_costOn 1 = .ok (.getfield 103, 3) := by decide +kernel
theorem dX10_costOn_4 : decode cX10_costOn 4 = .ok (.iload_n 1, 1) := by decide +kernel
theorem dX10_costOn_5 : decode cX10_costOn 5 = .ok (.iaload, 1) := by decide +kernel
theorem dX10_costOn_6 : decode cX10_costOn 6 = .ok (.istore_n 2, 1) := by decide +kernel
theorem dX10_costOn_7 : decode cX10_costOn 7 = .ok (.aload_n 0, 1) := by decide +kernel
theorem dX10_costOn_8 : decode cX10_costOn 8 = .ok (.getfield 100, 3) := by decide +kernel
theorem dX10_costOn_11 : decode cX10_costOn 11 = .ok (.iload_n 1, 1) := by decide +kernel
theorem dX10_costOn_12 : decode cX10_costOn 12 = .ok (.iaload, 1) := by decide +kernel
theorem dX10_costOn_13 : decode cX10_costOn 13 = .ok (.tableswitch 68 1 7 #[43, 46, 50, 53, 59, 61, 66], 43) := by decide +kernel
theorem dX10_costOn_56 : decode cX10_costOn 56 = .ok (.bipush 24, 2) := by decide +kernel
theorem dX10_costOn_58 : decode cX10_costOn 58 = .ok (.ireturn, 1) := by decide +kernel
theorem dX10_costOn_59 : decode cX10_costOn 59 = .ok (.iconst 4, 1) := by decide +kernel
theorem dX10_costOn_60 : decode cX10_costOn 60 = .ok (.iload_n 2, 1) := by decide +kernel
theorem dX10_costOn_61 : decode cX10_costOn 61 = .ok (.iadd, 1) := by decide +kernel
theorem dX10_costOn_62 : decode cX10_costOn 62 = .ok (.ireturn, 1) := by decide +kernel
theorem dX10_costOn_63 : decode cX10_costOn 63 = .ok (.bipush 7, 2) := by decide +kernel
theorem dX10_costOn_65 : decode cX10_costOn 65 = .ok (.ireturn, 1) := by decide +kernel
theorem dX10_costOn_66 : decode cX10_costOn 66 = .ok (.iconst 2, 1) := by decide +kernel
theorem dX10_costOn_67 : decode cX10_costOn 67 = .ok (.iconst 4, 1) := by decide +kernel
theorem dX10_costOn_68 : decode cX10_costOn 68 = .ok (.iload_n 2, 1) := by decide +kernel
theorem dX10_costOn_69 : decode cX10_costOn 69 = .ok (.iadd, 1) := by decide +kernel
theorem dX10_costOn_70 : decode cX10_costOn 70 = .ok (.imul, 1) := by decide +kernel
theorem dX10_costOn_71 : decode cX10_costOn 71 = .ok (.ireturn, 1) := by decide +kernel
theorem dX10_costOn_72 : decode cX10_costOn 72 = .ok (.iconst 2, 1) := by decide +kernel
theorem dX10_costOn_73 : decode cX10_costOn 73 = .ok (.ireturn, 1) := by decide +kernel
theorem dX10_costOn_74 : decode cX10_costOn 74 = .ok (.bipush 7, 2) := by decide +kernel
theorem dX10_costOn_76 : decode cX10_costOn 76 = .ok (.iload_n 2, 1) := by decide +kernel
theorem dX10_costOn_77 : decode cX10_costOn 77 = .ok (.iadd, 1) := by decide +kernel
theorem dX10_costOn_78 : decode cX10_costOn 78 = .ok (.ireturn, 1) := by decide +kernel
theorem dX10_costOn_79 : decode cX10_costOn 79 = .ok (.iconst 3, 1) := by decide +kernel
theorem dX10_costOn_80 : decode cX10_costOn 80 = .ok (.ireturn, 1) := by decide +kernel
theorem dX10_costOn_81 : decode cX10_costOn 81 = .ok (.iconst 4, 1) := by decide +kernel
theorem dX10_costOn_82 : decode cX10_costOn 82 = .ok (.ireturn, 1) := by decide +kernel
theorem dX10_cost_0 : decode cX10_cost 0 = .ok (.iload_n 1, 1) := by decide +kernel
theorem dX10_cost_1 : decode cX10_cost 1 = .ok (.invokestatic 207, 3) := by decide +kernel
theorem dX10_cost_4 : decode cX10_cost 4 = .ok (.ifCond .ne 5, 3) := by decide +kernel
theorem dX10_cost_7 : decode cX10_cost 7 = .ok (.iconst (-1), 1) := by decide +kernel
theorem dX10_cost_8 : decode cX10_cost 8 = .ok (.ireturn, 1) := by decide +kernel
theorem dX10_cost_9 : decode cX10_cost 9 = .ok (.aload_n 0, 1) := by decide +kernel
theorem dX10_cost_10 : decode cX10_cost 10 = .ok (.getfield 97, 3) := by decide +kernel
theorem dX10_cost_13 : decode cX10_cost 13 = .ok (.iload_n 1, 1) := by decide +kernel
theorem dX10_cost_14 : decode cX10_cost 14 = .ok (.iaload, 1) := by decide +kernel
theorem dX10_cost_15 : decode cX10_cost 15 = .ok (.iconst 1, 1) := by decide +kernel
theorem dX10_cost_16 : decode cX10_cost 16 = .ok (.if_icmp .ne 11, 3) := by decide +kernel
theorem dX10_cost_19 : decode cX10_cost 19 = .ok (.aload_n 0, 1) := by decide +kernel
theorem dX10_cost_20 : decode cX10_cost 20 = .ok (.iload_n 1, 1) := by decide +kernel
theorem dX10_cost_21 : decode cX10_cost 21 = .ok (.invokevirtual 396, 3) := by decide +kernel
theorem dX10_cost_24 : decode cX10_cost 24 = .ok (.goto 19, 3) := by decide +kernel
theorem dX10_cost_27 : decode cX10_cost 27 = .ok (.aload_n 0, 1) := by decide +kernel
theorem dX10_cost_28 : decode cX10_cost 28 = .ok (.getfield 97, 3) := by decide +kernel
theorem dX10_cost_31 : decode cX10_cost 31 = .ok (.iload_n 1, 1) := by decide +kernel
theorem dX10_cost_32 : decode cX10_cost 32 = .ok (.iaload, 1) := by decide +kernel
theorem dX10_cost_33 : decode cX10_cost 33 = .ok (.ifCond .ne 8, 3) := by decide +kernel
theorem dX10_cost_36 : decode cX10_cost 36 = .ok (.bipush (-11), 2) := by decide +kernel
theorem dX10_cost_38 : decode cX10_cost 38 = .ok (.goto 5, 3) := by decide +kernel
theorem dX10_cost_41 : decode cX10_cost 41 = .ok (.bipush (-12), 2) := by decide +kernel
theorem dX10_cost_43 : decode cX10_cost 43 = .ok (.ireturn, 1) := by decide +kernel
theorem dX10_toss_0 : decode cX10_toss 0 = .ok (.iload_n 1, 1) := by decide +kernel
theorem dX10_toss_1 : decode cX10_toss 1 = .ok (.invokestatic 207, 3) := by decide +kernel
theorem dX10_toss_4 : decode cX10_toss 4 = .ok (.ifCond .ne 5, 3) := by decide +kernel
theorem dX10_toss_7 : decode cX10_toss 7 = .ok (.iconst (-1), 1) := by decide +kernel
theorem dX10_toss_8 : decode cX10_toss 8 = .ok (.ireturn, 1) := by decide +kernel
theorem dX10_toss_9 : decode cX10_toss 9 = .ok (.aload_n 0, 1) := by decide +kernel
theorem dX10_toss_10 : decode cX10_toss 10 = .ok (.getfield 97, 3) := by decide +kernel
theorem dX10_toss_13 : decode cX10_toss 13 = .ok (.iload_n 1, 1) := by decide +kernel
theorem dX10_toss_14 : decode cX10_toss 14 = .ok (.iaload, 1) := by decide +kernel
theorem dX10_toss_15 : decode cX10_toss 15 = .ok (.iconst 1, 1) := by decide +kernel
theorem dX10_toss_16 : decode cX10_toss 16 = .ok (.if_icmp .eq 20, 3) := by decide +kernel
theorem dX10_toss_19 : decode cX10_toss 19 = .ok (.aload_n 0, 1) := by decide +kernel
theorem dX10_toss_20 : decode cX10_toss 20 = .ok (.getfield 97, 3) := by decide +kernel
theorem dX10_toss_23 : decode cX10_toss 23 = .ok (.iload_n 1, 1) := by decide +kernel
theorem dX10_toss_24 : decode cX10_toss 24 = .ok (.iaload, 1) := by decide +kernel
theorem dX10_toss_25 : decode cX10_toss 25 = .ok (.ifCond .ne 8, 3) := by decide +kernel
theorem dX10_toss_28 : decode cX10_toss 28 = .ok (.bipush (-11), 2) := by decide +kernel
theorem dX10_toss_30 : decode cX10_toss 30 = .ok (.goto 5, 3) := by decide +kernel
theorem dX10_toss_33 : decode cX10_toss 33 = .ok (.bipush (-12), 2) := by decide +kernel
theorem dX10_toss_35 : decode cX10_toss 35 = .ok (.ireturn, 1) := by decide +kernel
theorem dX10_toss_36 : decode cX10_toss 36 = .ok (.aload_n 0, 1) := by decide +kernel
theorem dX10_toss_37 : decode cX10_toss 37 = .ok (.getfield 100, 3) := by decide +kernel
theorem dX10_toss_40 : decode cX10_toss 40 = .ok (.iload_n 1, 1) := by decide +kernel
theorem dX10_toss_41 : decode cX10_toss 41 = .ok (.iaload, 1) := by decide +kernel
theorem dX10_toss_42 : decode cX10_toss 42 = .ok (.bipush 7, 2) := by decide +kernel
theorem dX10_toss_44 : decode cX10_toss 44 = .ok (.if_icmp .eq 12, 3) := by decide +kernel
theorem dX10_toss_47 : decode cX10_toss 47 = .ok (.aload_n 0, 1) := by decide +kernel
theorem dX10_toss_48 : decode cX10_toss 48 = .ok (.getfield 103, 3) := by decide +kernel
theorem dX10_toss_51 : decode cX10_toss 51 = .ok (.iload_n 1, 1) := by decide +kernel
theorem dX10_toss_52 : decode cX10_toss 52 = .ok (.iaload, 1) := by decide +kernel
theorem dX10_toss_53 : decode cX10_toss 53 = .ok (.ifCond .ne 6, 3) := by decide +kernel
theorem dX10_toss_56 : decode cX10_toss 56 = .ok (.bipush (-15), 2) := by decide +kernel
theorem dX10_toss_58 : decode cX10_toss 58 = .ok (.ireturn, 1) := by decide +kernel
theorem dX10_toss_59 : decode cX10_toss 59 = .ok (.aload_n 0, 1) := by decide +kernel
theorem dX10_toss_60 : decode cX10_toss 60 = .ok (.getfield 100, 3) := by decide +kernel
theorem dX10_toss_63 : decode cX10_toss 63 = .ok (.iload_n 1, 1) := by decide +kernel
theorem dX10_toss_64 : decode cX10_toss 64 = .ok (.iaload, 1) := by decide +kernel
theorem dX10_toss_65 : decode cX10_toss 65 = .ok (.istore_n 2, 1) := by decide +kernel
theorem dX10_toss_66 : decode cX10_toss 66 = .ok (.iload_n 2, 1) := by decide +kernel
theorem dX10_toss_67 : decode cX10_toss 67 = .ok (.iconst 4, 1) := by decide +kernel
theorem dX10_toss_68 : decode cX10_toss 68 = .ok (.if_icmp .ne 15, 3) := by decide +kernel
theorem dX10_toss_71 : decode cX10_toss 71 = .ok (.sipush 200, 3) := by decide +kernel
theorem dX10_toss_74 : decode cX10_toss 74 = .ok (.aload_n 0, 1) := by decide +kernel
theorem dX10_toss_75 : decode cX10_toss 75 = .ok (.iload_n 1, 1) := by decide +kernel
theorem dX10_toss_76 : decode cX10_toss 76 = .ok (.invokevirtual 396, 3) := by decide +kernel
theorem dX10_toss_79 : decode cX10_toss 79 = .ok (.iadd, 1) := by decide +kernel
theorem dX10_toss_80 : decode cX10_toss 80 = .ok (.goto 32, 3) := by decide +kernel
theorem dX10_toss_83 : decode cX10_toss 83 = .ok (.iload_n 2, 1) := by decide +kernel
theorem dX10_toss_84 : decode cX10_toss 84 = .ok (.iconst 3, 1) := by decide +kernel
theorem dX10_toss_85 : decode cX10_toss 85 = .ok (.if_icmp .eq 9, 3) := by decide +kernel
theorem dX10_toss_88 : decode cX10_toss 88 = .ok (.iload_n 2, 1) := by decide +kernel
theorem dX10_toss_89 : decode cX10_toss 89 = .ok (.bipush 6, 2) := by decide +kernel
theorem dX10_toss_91 : decode cX10_toss 91 = .ok (.if_icmp .ne 15, 3) := by decide +kernel
theorem dX10_toss_94 : decode cX10_toss 94 = .ok (.bipush 100, 2) := by decide +kernel
theorem dX10_toss_96 : decode cX10_toss 96 = .ok (.aload_n 0, 1) := by decide +kernel
theorem dX10_toss_97 : decode cX10_toss 97 = .ok (.getfield 103, 3) := by decide +kernel
theorem dX10_toss_100 : decode cX10_toss 100 = .ok (.iload_n 1, 1) := by decide +kernel
theorem dX10_toss_101 : decode cX10_toss 101 = .ok (.iaload, 1) := by decide +kernel
theorem dX10_toss_102 : decode cX10_toss 102 = .ok (.iadd, 1) := by decide +kernel
theorem dX10_toss_103 : decode cX10_toss 103 = .ok (.goto 9, 3) := by decide +kernel
theorem dX10_toss_106 : decode cX10_toss 106 = .ok (.aload_n 0, 1) := by decide +kernel
theorem dX10_toss_107 : decode cX10_toss 107 = .ok (.getfield 103, 3) := by decide +kernel
theorem dX10_toss_110 : decode cX10_toss 110 = .ok (.iload_n 1, 1) := by decide +kernel
theorem dX10_toss_111 : decode cX10_toss 111 = .ok (.iaload, 1) := by decide +kernel
theorem dX10_toss_112 : decode cX10_toss 112 = .ok (.ireturn, 1) := by decide +kernel
theorem dJ6_bitCount_0f7a4_0 : decode cJ6_bitCount_0f7a4 0 = .ok (.iload_n 0, 1) := by decide +kernel
theorem dJ6_bitCount_0f7a4_1 : decode cJ6_bitCount_0f7a4 1 = .ok (.iload_n 0, 1) := by decide +kernel
theorem dJ6_bitCount_0f7a4_2 : decode cJ6_bitCount_0f7a4 2 = .ok (.iconst 1, 1) := by decide +kernel
theorem dJ6_bitCount_0f7a4_3 : decode cJ6_bitCount_0f7a4 3 = .ok (.iushr, 1) := by decide +kernel
theorem dJ6_bitCount_0f7a4_4 : decode cJ6_bitCount_0f7a4 4 = .ok (.ldc_w 265, 3) := by decide +kernel
theorem dJ6_bitCount_0f7a4_7 : decode cJ6_bitCount_0f7a4 7 = .ok (.iand, 1) := by decide +kernel
theorem dJ6_bitCount_0f7a4_8 : decode cJ6_bitCount_0f7a4 8 = .ok (.isub, 1) := by decide +kernel
theorem dJ6_bitCount_0f7a4_9 : decode cJ6_bitCount_0f7a4 9 = .ok (.istore_n 0, 1) := by decide +kernel
theorem dJ6_bitCount_0f7a4_10 : decode cJ6_bitCount_0f7a4 10 = .ok (.iload_n 0, 1) := by decide +kernel
theorem dJ6_bitCount_0f7a4_11 : decode cJ6_bitCount_0f7a4 11 = .ok (.ldc_w 266, 3) := by decide +kernel
theorem dJ6_bitCount_0f7a4_14 : decode cJ6_bitCount_0f7a4 14 = .ok (.iand, 1) := by decide +kernel
theorem dJ6_bitCount_0f7a4_15 : decode cJ6_bitCount_0f7a4 15 = .ok (.iload_n 0, 1) := by decide +kernel
theorem dJ6_bitCount_0f7a4_16 : decode cJ6_bitCount_0f7a4 16 = .ok (.iconst 2, 1) := by decide +kernel
theorem dJ6_bitCount_0f7a4_17 : decode cJ6_bitCount_0f7a4 17 = .ok (.iushr, 1) := by decide +kernel
theorem dJ6_bitCount_0f7a4_18 : decode cJ6_bitCount_0f7a4 18 = .ok (.ldc_w 266, 3) := by decide +kernel
theorem dJ6_bitCount_0f7a4_21 : decode cJ6_bitCount_0f7a4 21 = .ok (.iand, 1) := by decide +kernel
theorem dJ6_bitCount_0f7a4_22 : decode cJ6_bitCount_0f7a4 22 = .ok (.iadd, 1) := by decide +kernel
theorem dJ6_bitCount_0f7a4_23 : decode cJ6_bitCount_0f7a4 23 = .ok (.istore_n 0, 1) := by decide +kernel
theorem dJ6_bitCount_0f7a4_24 : decode cJ6_bitCount_0f7a4 24 = .ok (.iload_n 0, 1) := by decide +kernel
theorem dJ6_bitCount_0f7a4_25 : decode cJ6_bitCount_0f7a4 25 = .ok (.iload_n 0, 1) := by decide +kernel
theorem dJ6_bitCount_0f7a4_26 : decode cJ6_bitCount_0f7a4 26 = .ok (.iconst 4, 1) := by decide +kernel
theorem dJ6_bitCount_0f7a4_27 : decode cJ6_bitCount_0f7a4 27 = .ok (.iushr, 1) := by decide +kernel
theorem dJ6_bitCount_0f7a4_28 : decode cJ6_bitCount_0f7a4 28 = .ok (.iadd, 1) := by decide +kernel
theorem dJ6_bitCount_0f7a4_29 : decode cJ6_bitCount_0f7a4 29 = .ok (.ldc_w 267, 3) := by decide +kernel
theorem dJ6_bitCount_0f7a4_32 : decode cJ6_bitCount_0f7a4 32 = .ok (.iand, 1) := by decide +kernel
theorem dJ6_bitCount_0f7a4_33 : decode cJ6_bitCount_0f7a4 33 = .ok (.istore_n 0, 1) := by decide +kernel
theorem dJ6_bitCount_0f7a4_34 : decode cJ6_bitCount_0f7a4 34 = .ok (.iload_n 0, 1) := by decide +kernel
theorem dJ6_bitCount_0f7a4_35 : decode cJ6_bitCount_0f7a4 35 = .ok (.iload_n 0, 1) := by decide +kernel
theorem dJ6_bitCount_0f7a4_36 : decode cJ6_bitCount_0f7a4 36 = .ok (.bipush 8, 2) := by decide +kernel
theorem dJ6_bitCount_0f7a4_38 : decode cJ6_bitCount_0f7a4 38 = .ok (.iushr, 1) := by decide +kernel
theorem dJ6_bitCount_0f7a4_39 : decode cJ6_bitCount_0f7a4 39 = .ok (.iadd, 1) := by decide +kernel
theorem dJ6_bitCount_0f7a4_40 : decode cJ6_bitCount_0f7a4 40 = .ok (.istore_n 0, 1) := by decide +kernel
theorem dJ6_bitCount_0f7a4_41 : decode cJ6_bitCount_0f7a4 41 = .ok (.iload_n 0, 1) := by decide +kernel
theorem dJ6_bitCount_0f7a4_42 : decode cJ6_bitCount_0f7a4 42 = .ok (.iload_n 0, 1) := by decide +kernel
theorem dJ6_bitCount_0f7a4_43 : decode cJ6_bitCount_0f7a4 43 = .ok (.bipush 16, 2) := by decide +kernel
theorem dJ6_bitCount_0f7a4_45 : decode cJ6_bitCount_0f7a4 45 = .ok (.iushr, 1) := by decide +kernel
theorem dJ6_bitCount_0f7a4_46 : decode cJ6_bitCount_0f7a4 46 = .ok (.iadd, 1) := by decide +kernel
theorem dJ6_bitCount_0f7a4_47 : decode cJ6_bitCount_0f7a4 47 = .ok (.istore_n 0, 1) := by decide +kernel
theorem dJ6_bitCount_0f7a4_48 : decode cJ6_bitCount_0f7a4 48 = .ok (.iload_n 0, 1) := by decide +kernel
theorem dJ6_bitCount_0f7a4_49 : decode cJ6_bitCount_0f7a4 49 = .ok (.bipush 63, 2) := by decide +kernel
theorem dJ6_bitCount_0f7a4_51 : decode cJ6_bitCount_0f7a4 51 = .ok (.iand, 1) := by decide +kernel
theorem dJ6_bitCount_0f7a4_52 : decode cJ6_bitCount_0f7a4 52 = .ok (.ireturn, 1) := by decide +kernel
theorem dJ9_max_7cf53_0 : decode cJ9_max_7cf53 0 = .ok (.iload_n 0, 1) := by decide +kernel
theorem dJ9_max_7cf53_1 : decode cJ9_max_7cf53 1 = .ok (.iload_n 1, 1) := by decide +kernel
theorem dJ9_max_7cf53_2 : decode cJ9_max_7cf53 2 = .ok (.if_icmp .lt 7, 3) := by decide +kernel
theorem dJ9_max_7cf53_5 : decode cJ9_max_7cf53 5 = .ok (.iload_n 0, 1) := by decide +kernel
theorem dJ9_max_7cf53_6 : decode cJ9_max_7cf53 6 = .ok (.goto 4, 3) := by decide +kernel
theorem dJ9_max_7cf53_9 : decode cJ9_max_7cf53 9 = .ok (.iload_n 1, 1) := by decide +kernel
theorem dJ9_max_7cf53_10 : decode cJ9_max_7cf53 10 = .ok (.ireturn, 1) := by decide +kernel
theorem dJ9_min_7cf53_0 : decode cJ9_min_7cf53 0 = .ok (.iload_n 0, 1) := by decide +kernel
theorem dJ9_min_7cf53_1 : decode cJ9_min_7cf53 1 = .ok (.iload_n 1, 1) := by decide +kernel
theorem dJ9_min_7cf53_2 : decode cJ9_min_7cf53 2 = .ok (.if_icmp .gt 7, 3) := by decide +kernel
theorem dJ9_min_7cf53_5 : decode cJ9_min_7cf53 5 = .ok (.iload_n 0, 1) := by decide +kernel
theorem dJ9_min_7cf53_6 : decode cJ9_min_7cf53 6 = .ok (.goto 4, 3) := by decide +kernel
theorem dJ9_min_7cf53_9 : decode cJ9_min_7cf53 9 = .ok (.iload_n 1, 1) := by decide +kernel
theorem dJ9_min_7cf53_10 : decode cJ9_min_7cf53 10 = .ok (.ireturn, 1) := by decide +kernel
theorem dL_element_0 : decode cL_element 0 = .ok (.aload_n 3, 1) := by decide +kernel
theorem dL_element_1 : decode cL_element 1 = .ok (.iconst 0, 1) := by decide +kernel
theorem dL_element_2 : decode cL_element 2 = .ok (.aload_n 0, 1) := by decide +kernel
theorem dL_element_3 : decode cL_element 3 = .ok (.iload_n 1, 1) := by decide +kernel
theorem dL_element_4 : decode cL_element 4 = .ok (.iload_n 2, 1) := by decide +kernel
theorem dL_element_5 : decode cL_element 5 = .ok (.invokevirtual 7, 3) := by decide +kernel
theorem dL_element_8 : decode cL_element 8 = .ok (.lastore, 1) := by decide +kernel
theorem dL_element_9 : decode cL_element 9 = .ok (.goto 11, 3) := by decide +kernel
theorem dL_element_12 : decode cL_element 12 = .ok (.astore 4, 2) := by decide +kernel
theorem dL_element_14 : decode cL_element 14 = .ok (.iconst 1, 1) := by decide +kernel
theorem dL_element_15 : decode cL_element 15 = .ok (.ireturn, 1) := by decide +kernel
theorem dL_element_16 : decode cL_element 16 = .ok (.astore 4, 2) := by decide +kernel
theorem dL_element_18 : decode cL_element 18 = .ok (.iconst 2, 1) := by decide +kernel
theorem dL_element_19 : decode cL_element 19 = .ok (.ireturn, 1) := by decide +kernel
theorem dL_element_20 : decode cL_element 20 = .ok (.iconst 0, 1) := by decide +kernel
theorem dL_element_21 : decode cL_element 21 = .ok (.ireturn, 1) := by decide +kernel
theorem dL_law_0 : decode cL_law 0 = .ok (.new 8, 3) := by decide +kernel
theorem dL_law_3 : decode cL_law 3 = .ok (.dup, 1) := by decide +kernel
theorem dL_law_4 : decode cL_law 4 = .ok (.invokespecial 17, 3) := by decide +kernel
theorem dL_law_7 : decode cL_law 7 = .ok (.astore_n 1, 1) := by decide +kernel
theorem dL_law_8 : decode cL_law 8 = .ok (.new 18, 3) := by decide +kernel
theorem dL_law_11 : decode cL_law 11 = .ok (.dup, 1) := by decide +kernel
theorem dL_law_12 : decode cL_law 12 = .ok (.invokespecial 20, 3) := by decide +kernel
theorem dL_law_15 : decode cL_law 15 = .ok (.astore_n 2, 1) := by decide +kernel
theorem dL_law_16 : decode cL_law 16 = .ok (.iconst 1, 1) := by decide +kernel
theorem dL_law_17 : decode cL_law 17 = .ok (.newarray .long, 2) := by decide +kernel
theorem dL_law_19 : decode cL_law 19 = .ok (.astore_n 3, 1) := by decide +kernel
theorem dL_law_20 : decode cL_law 20 = .ok (.iconst 0, 1) := by decide +kernel
theorem dL_law_21 : decode cL_law 21 = .ok (.istore 4, 2) := by decide +kernel
theorem dL_law_23 : decode cL_law 23 = .ok (.iload 4, 2) := by decide +kernel
theorem dL_law_25 : decode cL_law 25 = .ok (.aload_n 0, 1) := by decide +kernel
theorem dL_law_26 : decode cL_law 26 = .ok (.arraylength, 1) := by decide +kernel
theorem dL_law_27 : decode cL_law 27 = .ok (.bipush 6, 2) := by decide +kernel
theorem dL_law_29 : decode cL_law 29 = .ok (.isub, 1) := by decide +kernel
theorem dL_law_30 : decode cL_law 30 = .ok (.if_icmp .gt 1625, 3) := by decide +kernel
theorem dL_law_33 : decode cL_law 33 = .ok (.aload_n 0, 1) := by decide +kernel
theorem dL_law_34 : decode cL_law 34 = .ok (.iload 4, 2) := by decide +kernel
theorem dL_law_36 : decode cL_law 36 = .ok (.iaload, 1) := by decide +kernel
theorem dL_law_37 : decode cL_law 37 = .ok (.bipush 63, 2) := by decide +kernel
theorem dL_law_39 : decode cL_law 39 = .ok (.iand, 1) := by decide +kernel
theorem dL_law_40 : decode cL_law 40 = .ok (.tableswitch 1609 0 45 #[200, 225, 262, 299, 324, 361, 386, 423, 448, 485, 510, 547, 572, 585, 634, 659, 672, 697, 722, 747, 760, 797, 822, 847, 884, 909, 922, 948, 973, 998, 1011, 1036, 1073, 1098, 1123, 1160, 1209, 1222, 1235, 1260, 1321, 1370, 1419, 1486, 1559, 1584], 200) := by decide +kernel
theorem dL_law_240 : decode cL_law 240 = .ok (.aload_n 1, 1) := by decide +kernel
theorem dL_law_241 : decode cL_law 241 = .ok (.aload_n 0, 1) := by decide +kernel
theorem dL_law_242 : decode cL_law 242 = .ok (.iload 4, 2) := by decide +kernel
theorem dL_law_244 : decode cL_law 244 = .ok (.iconst 1, 1) := by decide +kernel
theorem dL_law_245 : decode cL_law 245 = .ok (.iadd, 1) := by decide +kernel
theorem dL_law_246 : decode cL_law 246 = .ok (.iaload, 1) := by decide +kernel
theorem dL_law_247 : decode cL_law 247 = .ok (.invokevirtual 21, 3) := by decide +kernel
theorem dL_law_250 : decode cL_law 250 = .ok (.aload_n 2, 1) := by decide +kernel
theorem dL_law_251 : decode cL_law 251 = .ok (.aload_n 0, 1) := by decide +kernel
theorem dL_law_252 : decode cL_law 252 = .ok (.iload 4, 2) := by decide +kernel
theorem dL_law_254 : decode cL_law 254 = .ok (.iconst 1, 1) := by decide +kernel
theorem dL_law_255 : decode cL_law 255 = .ok (.iadd, 1) := by decide +kernel
theorem dL_law_256 : decode cL_law 256 = .ok (.iaload, 1) := by decide +kernel
theorem dL_law_257 : decode cL_law 257 = .ok (.invokevirtual 25, 3) := by decide +kernel
theorem dL_law_260 : decode cL_law 260 = .ok (.if_icmp .eq 1389, 3) := by decide +kernel
theorem dL_law_263 : decode cL_law 263 = .ok (.iconst 0, 1) := by decide +kernel
theorem dL_law_264 : decode cL_law 264 = .ok (.ireturn, 1) := by decide +kernel
theorem dL_law_265 : decode cL_law 265 = .ok (.aload_n 1, 1) := by decide +kernel
theorem dL_law_266 : decode cL_law 266 = .ok (.aload_n 0, 1) := by decide +kernel
theorem dL_law_267 : decode cL_law 267 = .ok (.iload 4, 2) := by decide +kernel
theorem dL_law_269 : decode cL_law 269 = .ok (.iconst 1, 1) := by decide +kernel
theorem dL_law_270 : decode cL_law 270 = .ok (.iadd, 1) := by decide +kernel
theorem dL_law_271 : decode cL_law 271 = .ok (.iaload, 1) := by decide +kernel
theorem dL_law_272 : decode cL_law 272 = .ok (.aload_n 0, 1) := by decide +kernel
theorem dL_law_273 : decode cL_law 273 = .ok (.iload 4, 2) := by decide +kernel
theorem dL_law_275 : decode cL_law 275 = .ok (.iconst 2, 1) := by decide +kernel
theorem dL_law_276 : decode cL_law 276 = .ok (.iadd, 1) := by decide +kernel
theorem dL_law_277 : decode cL_law 277 = .ok (.iaload, 1) := by decide +kernel
theorem dL_law_278 : decode cL_law 278 = .ok (.invokevirtual 26, 3) := by decide +kernel
theorem dL_law_281 : decode cL_law 281 = .ok (.aload_n 2, 1) := by decide +kernel
theorem dL_law_282 : decode cL_law 282 = .ok (.aload_n 0, 1) := by decide +kernel
theorem dL_law_283 : decode cL_law 283 = .ok (.iload 4, 2) := by decide +kernel
theorem dL_law_285 : decode cL_law 285 = .ok (.iconst 1, 1) := by decide +kernel
theorem dL_law_286 : decode cL_law 286 = .ok (.iadd, 1) := by decide +kernel
theorem dL_law_287 : decode cL_law 287 = .ok (.iaload, 1) := by decide +kernel
theorem dL_law_288 : decode cL_law 288 = .ok (.aload_n 0, 1) := by decide +kernel
theorem dL_law_289 : decode cL_law 289 = .ok (.iload 4, 2) := by decide +kernel
theorem dL_law_291 : decode cL_law 291 = .ok (.iconst 2, 1) := by decide +kernel
theorem dL_law_292 : decode cL_law 292 = .ok (.iadd, 1) := by decide +kernel
theorem dL_law_293 : decode cL_law 293 = .ok (.iaload, 1) := by decide +kernel
theorem dL_law_294 : decode cL_law 294 = .ok (.invokevirtual 30, 3) := by decide +kernel
theorem dL_law_297 : decode cL_law 297 = .ok (.if_icmp .eq 1352, 3) := by decide +kernel
theorem dL_law_300 : decode cL_law 300 = .ok (.iconst 0, 1) := by decide +kernel
theorem dL_law_301 : decode cL_law 301 = .ok (.ireturn, 1) := by decide +kernel
theorem dL_law_302 : decode cL_law 302 = .ok (.aload_n 1, 1) := by decide +kernel
theorem dL_law_303 : decode cL_law 303 = .ok (.aload_n 0, 1) := by decide +kernel
theorem dL_law_304 : decode cL_law 304 = .ok (.iload 4, 2) := by decide +kernel
theorem dL_law_306 : decode cL_law 306 = .ok (.iconst 1, 1) := by decide +kernel
theorem dL_law_307 : decode cL_law 307 = .ok (.iadd, 1) := by decide +kernel
theorem dL_law_308 : decode cL_law 308 = .ok (.iaload, 1) := by decide +kernel
theorem dL_law_309 : decode cL_law 309 = .ok (.aload_n 0, 1) := by decide +kernel
theorem dL_law_310 : decode cL_law 310 = .ok (.iload 4, 2) := by decide +kernel
theorem dL_law_312 : decode cL_law 312 = .ok (.iconst 2, 1) := by decide +kernel
theorem dL_law_313 : decode cL_law 313 = .ok (.iadd, 1) := by decide +kernel
theorem dL_law_314 : decode cL_law 314 = .ok (.iaload, 1) := by decide +kernel
theorem dL_law_315 : decode cL_law 315 = .ok (.invokevirtual 31, 3) := by decide +kernel
theorem dL_law_318 : decode cL_law 318 = .ok (.aload_n 2, 1) := by decide +kernel
theorem dL_law_319 : decode cL_law 319 = .ok (.aload_n 0, 1) := by decide +kernel
theorem dL_law_320 : decode cL_law 320 = .ok (.iload 4, 2) := by decide +kernel
theorem dL_law_322 : decode cL_law 322 = .ok (.iconst 1, 1) := by decide +kernel
theorem dL_law_323 : decode cL_law 323 = .ok (.iadd, 1) := by decide +kernel
theorem dL_law_324 : decode cL_law 324 = .ok (.iaload, 1) := by decide +kernel
theorem dL_law_325 : decode cL_law 325 = .ok (.aload_n 0, 1) := by decide +kernel
theorem dL_law_326 : decode cL_law 326 = .ok (.iload 4, 2) := by decide +kernel
theorem dL_law_328 : decode cL_law 328 = .ok (.iconst 2, 1) := by decide +kernel
theorem dL_law_329 : decode cL_law 329 = .ok (.iadd, 1) := by decide +kernel
theorem dL_law_330 : decode cL_law 330 = .ok (.iaload, 1) := by decide +kernel
theorem dL_law_331 : decode cL_law 331 = .ok (.invokevirtual 34, 3) := by decide +kernel
theorem dL_law_334 : decode cL_law 334 = .ok (.if_icmp .eq 1315, 3) := by decide +kernel
theorem dL_law_337 : decode cL_law 337 = .ok (.iconst 0, 1) := by decide +kernel
theorem dL_law_338 : decode cL_law 338 = .ok (.ireturn, 1) := by decide +kernel
theorem dL_law_339 : decode cL_law 339 = .ok (.aload_n 1, 1) := by decide +kernel
theorem dL_law_340 : decode cL_law 340 = .ok (.aload_n 0, 1) := by decide +kernel
theorem dL_law_341 : decode cL_law 341 = .ok (.iload 4, 2) := by decide +kernel
theorem dL_law_343 : decode cL_law 343 = .ok (.iconst 1, 1) := by decide +kernel
theorem dL_law_344 : decode cL_law 344 = .ok (.iadd, 1) := by decide +kernel
theorem dL_law_345 : decode cL_law 345 = .ok (.iaload, 1) := by decide +kernel
theorem dL_law_346 : decode cL_law 346 = .ok (.invokevirtual 35, 3) := by decide +kernel
theorem dL_law_349 : decode cL_law 349 = .ok (.aload_n 2, 1) := by decide +kernel
theorem dL_law_350 : decode cL_law 350 = .ok (.aload_n 0, 1) := by decide +kernel
theorem dL_law_351 : decode cL_law 351 = .ok (.iload 4, 2) := by decide +kernel
theorem dL_law_353 : decode cL_law 353 = .ok (.iconst 1, 1) := by decide +kernel
theorem dL_law_354 : decode cL_law 354 = .ok (.iadd, 1) := by decide +kernel
theorem dL_law_355 : decode cL_law 355 = .ok (.iaload, 1) := by decide +kernel
theorem dL_law_356 : decode cL_law 356 = .ok (.invokevirtual 38, 3) := by decide +kernel
theorem dL_law_359 : decode cL_law 359 = .ok (.if_icmp .eq 1290, 3) := by decide +kernel
theorem dL_law_362 : decode cL_law 362 = .ok (.iconst 0, 1) := by decide +kernel
theorem dL_law_363 : decode cL_law 363 = .ok (.ireturn, 1) := by decide +kernel
theorem dL_law_364 : decode cL_law 364 = .ok (.aload_n 1, 1) := by decide +kernel
theorem dL_law_365 : decode cL_law 365 = .ok (.aload_n 0, 1) := by decide +kernel
theorem dL_law_366 : decode cL_law 366 = .ok (.iload 4, 2) := by decide +kernel
theorem dL_law_368 : decode cL_law 368 = .ok (.iconst 1, 1) := by decide +kernel
theorem dL_law_369 : decode cL_law 369 = .ok (.iadd, 1) := by decide +kernel
theorem dL_law_370 : decode cL_law 370 = .ok (.iaload, 1) := by decide +kernel
theorem dL_law_371 : decode cL_law 371 = .ok (.aload_n 0, 1) := by decide +kernel
theorem dL_law_372 : decode cL_law 372 = .ok (.iload 4, 2) := by decide +kernel
theorem dL_law_374 : decode cL_law 374 = .ok (.iconst 2, 1) := by decide +kernel
theorem dL_law_375 : decode cL_law 375 = .ok (.iadd, 1) := by decide +kernel
theorem dL_law_376 : decode cL_law 376 = .ok (.iaload, 1) := by decide +kernel
theorem dL_law_377 : decode cL_law 377 = .ok (.invokevirtual 39, 3) := by decide +kernel
theorem dL_law_380 : decode cL_law 380 = .ok (.aload_n 2, 1) := by decide +kernel
theorem dL_law_381 : decode cL_law 381 = .ok (.aload_n 0, 1) := by decide +kernel
theorem dL_law_382 : decode cL_law 382 = .ok (.iload 4, 2) := by decide +kernel
theorem dL_law_384 : decode cL_law 384 = .ok (.iconst 1, 1) := by decide +kernel
theorem dL_law_385 : decode cL_law 385 = .ok (.iadd, 1) := by decide +kernel
theorem dL_law_386 : decode cL_law 386 = .ok (.iaload, 1) := by decide +kernel
theorem dL_law_387 : decode cL_law 387 = .ok (.aload_n 0, 1) := by decide +kernel
theorem dL_law_388 : decode cL_law 388 = .ok (.iload 4, 2) := by decide +kernel
theorem dL_law_390 : decode cL_law 390 = .ok (.iconst 2, 1) := by decide +kernel
theorem dL_law_391 : decode cL_law 391 = .ok (.iadd, 1) := by decide +kernel
theorem dL_law_392 : decode cL_law 392 = .ok (.iaload, 1) := by decide +kernel
theorem dL_law_393 : decode cL_law 393 = .ok (.invokevirtual 42, 3) := by decide +kernel
theorem dL_law_396 : decode cL_law 396 = .ok (.if_icmp .eq 1253, 3) := by decide +kernel
theorem dL_law_399 : decode cL_law 399 = .ok (.iconst 0, 1) := by decide +kernel
theorem dL_law_400 : decode cL_law 400 = .ok (.ireturn, 1) := by decide +kernel
theorem dL_law_401 : decode cL_law 401 = .ok (.aload_n 1, 1) := by decide +kernel
theorem dL_law_402 : decode cL_law 402 = .ok (.aload_n 0, 1) := by decide +kernel
theorem dL_law_403 : decode cL_law 403 = .ok (.iload 4, 2) := by decide +kernel
theorem dL_law_405 : decode cL_law 405 = .ok (.iconst 1, 1) := by decide +kernel
theorem dL_law_406 : decode cL_law 406 = .ok (.iadd, 1) := by decide +kernel
theorem dL_law_407 : decode cL_law 407 = .ok (.iaload, 1) := by decide +kernel
theorem dL_law_408 : decode cL_law 408 = .ok (.invokevirtual 43, 3) := by decide +kernel
theorem dL_law_411 : decode cL_law 411 = .ok (.aload_n 2, 1) := by decide +kernel
theorem dL_law_412 : decode cL_law 412 = .ok (.aload_n 0, 1) := by decide +kernel
theorem dL_law_413 : decode cL_law 413 = .ok (.iload 4, 2) := by decide +kernel
theorem dL_law_415 : decode cL_law 415 = .ok (.iconst 1, 1) := by decide +kernel
theorem dL_law_416 : decode cL_law 416 = .ok (.iadd, 1) := by decide +kernel
theorem dL_law_417 : decode cL_law 417 = .ok (.iaload, 1) := by decide +kernel
theorem dL_law_418 : decode cL_law 418 = .ok (.invokevirtual 46, 3) := by decide +kernel
theorem dL_law_421 : decode cL_law 421 = .ok (.if_icmp .eq 1228, 3) := by decide +kernel
theorem dL_law_424 : decode cL_law 424 = .ok (.iconst 0, 1) := by decide +kernel
theorem dL_law_425 : decode cL_law 425 = .ok (.ireturn, 1) := by decide +kernel
theorem dL_law_426 : decode cL_law 426 = .ok (.aload_n 1, 1) := by decide +kernel
theorem dL_law_427 : decode cL_law 427 = .ok (.aload_n 0, 1) := by decide +kernel
theorem dL_law_428 : decode cL_law 428 = .ok (.iload 4, 2) := by decide +kernel
theorem dL_law_430 : decode cL_law 430 = .ok (.iconst 1, 1) := by decide +kernel
theorem dL_law_431 : decode cL_law 431 = .ok (.iadd, 1) := by decide +kernel
theorem dL_law_432 : decode cL_law 432 = .ok (.iaload, 1) := by decide +kernel
theorem dL_law_433 : decode cL_law 433 = .ok (.aload_n 0, 1) := by decide +kernel
theorem dL_law_434 : decode cL_law 434 = .ok (.iload 4, 2) := by decide +kernel
theorem dL_law_436 : decode cL_law 436 = .ok (.iconst 2, 1) := by decide +kernel
theorem dL_law_437 : decode cL_law 437 = .ok (.iadd, 1) := by decide +kernel
theorem dL_law_438 : decode cL_law 438 = .ok (.iaload, 1) := by decide +kernel
theorem dL_law_439 : decode cL_law 439 = .ok (.invokevirtual 47, 3) := by decide +kernel
theorem dL_law_442 : decode cL_law 442 = .ok (.aload_n 2, 1) := by decide +kernel
theorem dL_law_443 : decode cL_law 443 = .ok (.aload_n 0, 1) := by decide +kernel
theorem dL_law_444 : decode cL_law 444 = .ok (.iload 4, 2) := by decide +kernel
theorem dL_law_446 : decode cL_law 446 = .ok (.iconst 1, 1) := by decide +kernel
theorem dL_law_447 : decode cL_law 447 = .ok (.iadd, 1) := by decide +kernel
theorem dL_law_448 : decode cL_law 448 = .ok (.iaload, 1) := by decide +kernel
theorem dL_law_449 : decode cL_law 449 = .ok (.aload_n 0, 1) := by decide +kernel
theorem dL_law_450 : decode cL_law 450 = .ok (.iload 4, 2) := by decide +kernel
theorem dL_law_452 : decode cL_law 452 = .ok (.iconst 2, 1) := by decide +kernel
theorem dL_law_453 : decode cL_law 453 = .ok (.iadd, 1) := by decide +kernel
theorem dL_law_454 : decode cL_law 454 = .ok (.iaload, 1) := by decide +kernel
theorem dL_law_455 : decode cL_law 455 = .ok (.invokevirtual 50, 3) := by decide +kernel
theorem dL_law_458 : decode cL_law 458 = .ok (.if_icmp .eq 1191, 3) := by decide +kernel
theorem dL_law_461 : decode cL_law 461 = .ok (.iconst 0, 1) := by decide +kernel
theorem dL_law_462 : decode cL_law 462 = .ok (.ireturn, 1) := by decide +kernel
theorem dL_law_463 : decode cL_law 463 = .ok (.aload_n 1, 1) := by decide +kernel
theorem dL_law_464 : decode cL_law 464 = .ok (.aload_n 0, 1) := by decide +kernel
theorem dL_law_465 : decode cL_law 465 = .ok (.iload 4, 2) := by decide +kernel
theorem dL_law_467 : decode cL_law 467 = .ok (.iconst 1, 1) := by decide +kernel
theorem dL_law_468 : decode cL_law 468 = .ok (.iadd, 1) := by decide +kernel
theorem dL_law_469 : decode cL_law 469 = .ok (.iaload, 1) := by decide +kernel
theorem dL_law_470 : decode cL_law 470 = .ok (.invokevirtual 51, 3) := by decide +kernel
theorem dL_law_473 : decode cL_law 473 = .ok (.aload_n 2, 1) := by decide +kernel
theorem dL_law_474 : decode cL_law 474 = .ok (.aload_n 0, 1) := by decide +kernel
theorem dL_law_475 : decode cL_law 475 = .ok (.iload 4, 2) := by decide +kernel
theorem dL_law_477 : decode cL_law 477 = .ok (.iconst 1, 1) := by decide +kernel
theorem dL_law_478 : decode cL_law 478 = .ok (.iadd, 1) := by decide +kernel
theorem dL_law_479 : decode cL_law 479 = .ok (.iaload, 1) := by decide +kernel
theorem dL_law_480 : decode cL_law 480 = .ok (.invokevirtual 54, 3) := by decide +kernel
theorem dL_law_483 : decode cL_law 483 = .ok (.if_icmp .eq 1166, 3) := by decide +kernel
theorem dL_law_486 : decode cL_law 486 = .ok (.iconst 0, 1) := by decide +kernel
theorem dL_law_487 : decode cL_law 487 = .ok (.ireturn, 1) := by decide +kernel
theorem dL_law_488 : decode cL_law 488 = .ok (.aload_n 1, 1) := by decide +kernel
theorem dL_law_489 : decode cL_law 489 = .ok (.aload_n 0, 1) := by decide +kernel
theorem dL_law_490 : decode cL_law 490 = .ok (.iload 4, 2) := by decide +kernel
theorem dL_law_492 : decode cL_law 492 = .ok (.iconst 1, 1) := by decide +kernel
theorem dL_law_493 : decode cL_law 493 = .ok (.iadd, 1) := by decide +kernel
theorem dL_law_494 : decode cL_law 494 = .ok (.iaload, 1) := by decide +kernel
theorem dL_law_495 : decode cL_law 495 = .ok (.aload_n 0, 1) := by decide +kernel
theorem dL_law_496 : decode cL_law 496 = .ok (.iload 4, 2) := by decide +kernel
theorem dL_law_498 : decode cL_law 498 = .ok (.iconst 2, 1) := by decide +kernel
theorem dL_law_499 : decode cL_law 499 = .ok (.iadd, 1) := by decide +kernel
theorem dL_law_500 : decode cL_law 500 = .ok (.iaload, 1) := by decide +kernel
theorem dL_law_501 : decode cL_law 501 = .ok (.invokevirtual 55, 3) := by decide +kernel
theorem dL_law_504 : decode cL_law 504 = .ok (.aload_n 2, 1) := by decide +kernel
theorem dL_law_505 : decode cL_law 505 = .ok (.aload_n 0, 1) := by decide +kernel
theorem dL_law_506 : decode cL_law 506 = .ok (.iload 4, 2) := by decide +kernel
theorem dL_law_508 : decode cL_law 508 = .ok (.iconst 1, 1) := by decide +kernel
theorem dL_law_509 : decode cL_law 509 = .ok (.iadd, 1) := by decide +kernel
theorem dL_law_510 : decode cL_law 510 = .ok (.iaload, 1) := by decide +kernel
theorem dL_law_511 : decode cL_law 511 = .ok (.aload_n 0, 1) := by decide +kernel
theorem dL_law_512 : decode cL_law 512 = .ok (.iload 4, 2) := by decide +kernel
theorem dL_law_514 : decode cL_law 514 = .ok (.iconst 2, 1) := by decide +kernel
theorem dL_law_515 : decode cL_law 515 = .ok (.iadd, 1) := by decide +kernel
theorem dL_law_516 : decode cL_law 516 = .ok (.iaload, 1) := by decide +kernel
theorem dL_law_517 : decode cL_law 517 = .ok (.invokevirtual 58, 3) := by decide +kernel
theorem dL_law_520 : decode cL_law 520 = .ok (.if_icmp .eq 1129, 3) := by decide +kernel
theorem dL_law_523 : decode cL_law 523 = .ok (.iconst 0, 1) := by decide +kernel
theorem dL_law_524 : decode cL_law 524 = .ok (.ireturn, 1) := by decide +kernel
theorem dL_law_525 : decode cL_law 525 = .ok (.aload_n 1, 1) := by decide +kernel
theorem dL_law_526 : decode cL_law 526 = .ok (.aload_n 0, 1) := by decide +kernel
theorem dL_law_527 : decode cL_law 527 = .ok (.iload 4, 2) := by decide +kernel
theorem dL_law_529 : decode cL_law 529 = .ok (.iconst 1, 1) := by decide +kernel
theorem dL_law_530 : decode cL_law 530 = .ok (.iadd, 1) := by decide +kernel
theorem dL_law_531 : decode cL_law 531 = .ok (.iaload, 1) := by decide +kernel
theorem dL_law_532 : decode cL_law 532 = .ok (.invokevirtual 59, 3) := by decide +kernel
theorem dL_law_535 : decode cL_law 535 = .ok (.aload_n 2, 1) := by decide +kernel
theorem dL_law_536 : decode cL_law 536 = .ok (.aload_n 0, 1) := by decide +kernel
theorem dL_law_537 : decode cL_law 537 = .ok (.iload 4, 2) := by decide +kernel
theorem dL_law_539 : decode cL_law 539 = .ok (.iconst 1, 1) := by decide +kernel
theorem dL_law_540 : decode cL_law 540 = .ok (.iadd, 1) := by decide +kernel
theorem dL_law_541 : decode cL_law 541 = .ok (.iaload, 1) := by decide +kernel
theorem dL_law_542 : decode cL_law 542 = .ok (.invokevirtual 62, 3) := by decide +kernel
theorem dL_law_545 : decode cL_law 545 = .ok (.if_icmp .eq 1104, 3) := by decide +kernel
theorem dL_law_548 : decode cL_law 548 = .ok (.iconst 0, 1) := by decide +kernel
theorem dL_law_549 : decode cL_law 549 = .ok (.ireturn, 1) := by decide +kernel
theorem dL_law_550 : decode cL_law 550 = .ok (.aload_n 1, 1) := by decide +kernel
theorem dL_law_551 : decode cL_law 551 = .ok (.aload_n 0, 1) := by decide +kernel
theorem dL_law_552 : decode cL_law 552 = .ok (.iload 4, 2) := by decide +kernel
theorem dL_law_554 : decode cL_law 554 = .ok (.iconst 1, 1) := by decide +kernel
theorem dL_law_555 : decode cL_law 555 = .ok (.iadd, 1) := by decide +kernel
theorem dL_law_556 : decode cL_law 556 = .ok (.iaload, 1) := by decide +kernel
theorem dL_law_557 : decode cL_law 557 = .ok (.aload_n 0, 1) := by decide +kernel
theorem dL_law_558 : decode cL_law 558 = .ok (.iload 4, 2) := by decide +kernel
theorem dL_law_560 : decode cL_law 560 = .ok (.iconst 2, 1) := by decide +kernel
theorem dL_law_561 : decode cL_law 561 = .ok (.iadd, 1) := by decide +kernel
theorem dL_law_562 : decode cL_law 562 = .ok (.iaload, 1) := by decide +kernel
theorem dL_law_563 : decode cL_law 563 = .ok (.invokevirtual 63, 3) := by decide +kernel
theorem dL_law_566 : decode cL_law 566 = .ok (.aload_n 2, 1) := by decide +kernel
theorem dL_law_567 : decode cL_law 567 = .ok (.aload_n 0, 1) := by decide +kernel
theorem dL_law_568 : decode cL_law 568 = .ok (.iload 4, 2) := by decide +kernel
theorem dL_law_570 : decode cL_law 570 = .ok (.iconst 1, 1) := by decide +kernel
theorem dL_law_571 : decode cL_law 571 = .ok (.iadd, 1) := by decide +kernel
theorem dL_law_572 : decode cL_law 572 = .ok (.iaload, 1) := by decide +kernel
theorem dL_law_573 : decode cL_law 573 = .ok (.aload_n 0, 1) := by decide +kernel
theorem dL_law_574 : decode cL_law 574 = .ok (.iload 4, 2) := by decide +kernel
theorem dL_law_576 : decode cL_law 576 = .ok (.iconst 2, 1) := by decide +kernel
theorem dL_law_577 : decode cL_law 577 = .ok (.iadd, 1) := by decide +kernel
theorem dL_law_578 : decode cL_law 578 = .ok (.iaload, 1) := by decide +kernel
theorem dL_law_579 : decode cL_law 579 = .ok (.invokevirtual 66, 3) := by decide +kernel
theorem dL_law_582 : decode cL_law 582 = .ok (.if_icmp .eq 1067, 3) := by decide +kernel
theorem dL_law_585 : decode cL_law 585 = .ok (.iconst 0, 1) := by decide +kernel
theorem dL_law_586 : decode cL_law 586 = .ok (.ireturn, 1) := by decide +kernel
theorem dL_law_587 : decode cL_law 587 = .ok (.aload_n 1, 1) := by decide +kernel
theorem dL_law_588 : decode cL_law 588 = .ok (.aload_n 0, 1) := by decide +kernel
theorem dL_law_589 : decode cL_law 589 = .ok (.iload 4, 2) := by decide +kernel
theorem dL_law_591 : decode cL_law 591 = .ok (.iconst 1, 1) := by decide +kernel
theorem dL_law_592 : decode cL_law 592 = .ok (.iadd, 1) := by decide +kernel
theorem dL_law_593 : decode cL_law 593 = .ok (.iaload, 1) := by decide +kernel
theorem dL_law_594 : decode cL_law 594 = .ok (.invokevirtual 67, 3) := by decide +kernel
theorem dL_law_597 : decode cL_law 597 = .ok (.aload_n 2, 1) := by decide +kernel
theorem dL_law_598 : decode cL_law 598 = .ok (.aload_n 0, 1) := by decide +kernel
theorem dL_law_599 : decode cL_law 599 = .ok (.iload 4, 2) := by decide +kernel
theorem dL_law_601 : decode cL_law 601 = .ok (.iconst 1, 1) := by decide +kernel
theorem dL_law_602 : decode cL_law 602 = .ok (.iadd, 1) := by decide +kernel
theorem dL_law_603 : decode cL_law 603 = .ok (.iaload, 1) := by decide +kernel
theorem dL_law_604 : decode cL_law 604 = .ok (.invokevirtual 70, 3) := by decide +kernel
theorem dL_law_607 : decode cL_law 607 = .ok (.if_icmp .eq 1042, 3) := by decide +kernel
theorem dL_law_610 : decode cL_law 610 = .ok (.iconst 0, 1) := by decide +kernel
theorem dL_law_611 : decode cL_law 611 = .ok (.ireturn, 1) := by decide +kernel
theorem dL_law_612 : decode cL_law 612 = .ok (.aload_n 1, 1) := by decide +kernel
theorem dL_law_613 : decode cL_law 613 = .ok (.invokevirtual 71, 3) := by decide +kernel
theorem dL_law_616 : decode cL_law 616 = .ok (.aload_n 2, 1) := by decide +kernel
theorem dL_law_617 : decode cL_law 617 = .ok (.invokevirtual 75, 3) := by decide +kernel
theorem dL_law_620 : decode cL_law 620 = .ok (.if_icmp .eq 1029, 3) := by decide +kernel
theorem dL_law_623 : decode cL_law 623 = .ok (.iconst 0, 1) := by decide +kernel
theorem dL_law_624 : decode cL_law 624 = .ok (.ireturn, 1) := by decide +kernel
theorem dL_law_625 : decode cL_law 625 = .ok (.aload_n 1, 1) := by decide +kernel
theorem dL_law_626 : decode cL_law 626 = .ok (.aload_n 0, 1) := by decide +kernel
theorem dL_law_627 : decode cL_law 627 = .ok (.iload 4, 2) := by decide +kernel
theorem dL_law_629 : decode cL_law 629 = .ok (.iconst 1, 1) := by decide +kernel
theorem dL_law_630 : decode cL_law 630 = .ok (.iadd, 1) := by decide +kernel
theorem dL_law_631 : decode cL_law 631 = .ok (.iaload, 1) := by decide +kernel
theorem dL_law_632 : decode cL_law 632 = .ok (.aload_n 0, 1) := by decide +kernel
theorem dL_law_633 : decode cL_law 633 = .ok (.iload 4, 2) := by decide +kernel
theorem dL_law_635 : decode cL_law 635 = .ok (.iconst 2, 1) := by decide +kernel
theorem dL_law_636 : decode cL_law 636 = .ok (.iadd, 1) := by decide +kernel
theorem dL_law_637 : decode cL_law 637 = .ok (.iaload, 1) := by decide +kernel
theorem dL_law_638 : decode cL_law 638 = .ok (.aload_n 0, 1) := by decide +kernel
theorem dL_law_639 : decode cL_law 639 = .ok (.iload 4, 2) := by decide +kernel
theorem dL_law_641 : decode cL_law 641 = .ok (.iconst 3, 1) := by decide +kernel
theorem dL_law_642 : decode cL_law 642 = .ok (.iadd, 1) := by decide +kernel
theorem dL_law_643 : decode cL_law 643 = .ok (.iaload, 1) := by decide +kernel
theorem dL_law_644 : decode cL_law 644 = .ok (.invokevirtual 76, 3) := by decide +kernel
theorem dL_law_647 : decode cL_law 647 = .ok (.aload_n 2, 1) := by decide +kernel
theorem dL_law_648 : decode cL_law 648 = .ok (.aload_n 0, 1) := by decide +kernel
theorem dL_law_649 : decode cL_law 649 = .ok (.iload 4, 2) := by decide +kernel
theorem dL_law_651 : decode cL_law 651 = .ok (.iconst 1, 1) := by decide +kernel
theorem dL_law_652 : decode cL_law 652 = .ok (.iadd, 1) := by decide +kernel
theorem dL_law_653 : decode cL_law 653 = .ok (.iaload, 1) := by decide +kernel
theorem dL_law_654 : decode cL_law 654 = .ok (.aload_n 0, 1) := by decide +kernel
theorem dL_law_655 : decode cL_law 655 = .ok (.iload 4, 2) := by decide +kernel
theorem dL_law_657 : decode cL_law 657 = .ok (.iconst 2, 1) := by decide +kernel
theorem dL_law_658 : decode cL_law 658 = .ok (.iadd, 1) := by decide +kernel
theorem dL_law_659 : decode cL_law 659 = .ok (.iaload, 1) := by decide +kernel
theorem dL_law_660 : decode cL_law 660 = .ok (.aload_n 0, 1) := by decide +kernel
theorem dL_law_661 : decode cL_law 661 = .ok (.iload 4, 2) := by decide +kernel
theorem dL_law_663 : decode cL_law 663 = .ok (.iconst 3, 1) := by decide +kernel
theorem dL_law_664 : decode cL_law 664 = .ok (.iadd, 1) := by decide +kernel
theorem dL_law_665 : decode cL_law 665 = .ok (.iaload, 1) := by decide +kernel
theorem dL_law_666 : decode cL_law 666 = .ok (.invokevirtual 80, 3) := by decide +kernel
theorem dL_law_669 : decode cL_law 669 = .ok (.if_icmp .eq 980, 3) := by decide +kernel
theorem dL_law_672 : decode cL_law 672 = .ok (.iconst 0, 1) := by decide +kernel
theorem dL_law_673 : decode cL_law 673 = .ok (.ireturn, 1) := by decide +kernel
theorem dL_law_674 : decode cL_law 674 = .ok (.aload_n 1, 1) := by decide +kernel
theorem dL_law_675 : decode cL_law 675 = .ok (.aload_n 0, 1) := by decide +kernel
theorem dL_law_676 : decode cL_law 676 = .ok (.iload 4, 2) := by decide +kernel
theorem dL_law_678 : decode cL_law 678 = .ok (.iconst 1, 1) := by decide +kernel
theorem dL_law_679 : decode cL_law 679 = .ok (.iadd, 1) := by decide +kernel
theorem dL_law_680 : decode cL_law 680 = .ok (.iaload, 1) := by decide +kernel
theorem dL_law_681 : decode cL_law 681 = .ok (.invokevirtual 81, 3) := by decide +kernel
theorem dL_law_684 : decode cL_law 684 = .ok (.aload_n 2, 1) := by decide +kernel
theorem dL_law_685 : decode cL_law 685 = .ok (.aload_n 0, 1) := by decide +kernel
theorem dL_law_686 : decode cL_law 686 = .ok (.iload 4, 2) := by decide +kernel
theorem dL_law_688 : decode cL_law 688 = .ok (.iconst 1, 1) := by decide +kernel
theorem dL_law_689 : decode cL_law 689 = .ok (.iadd, 1) := by decide +kernel
theorem dL_law_690 : decode cL_law 690 = .ok (.iaload, 1) := by decide +kernel
theorem dL_law_691 : decode cL_law 691 = .ok (.invokevirtual 84, 3) := by decide +kernel
theorem dL_law_694 : decode cL_law 694 = .ok (.if_icmp .eq 955, 3) := by decide +kernel
theorem dL_law_697 : decode cL_law 697 = .ok (.iconst 0, 1) := by decide +kernel
theorem dL_law_698 : decode cL_law 698 = .ok (.ireturn, 1) := by decide +kernel
theorem dL_law_699 : decode cL_law 699 = .ok (.aload_n 1, 1) := by decide +kernel
theorem dL_law_700 : decode cL_law 700 = .ok (.invokevirtual 85, 3) := by decide +kernel
theorem dL_law_703 : decode cL_law 703 = .ok (.aload_n 2, 1) := by decide +kernel
theorem dL_law_704 : decode cL_law 704 = .ok (.invokevirtual 88, 3) := by decide +kernel
theorem dL_law_707 : decode cL_law 707 = .ok (.if_icmp .eq 942, 3) := by decide +kernel
theorem dL_law_710 : decode cL_law 710 = .ok (.iconst 0, 1) := by decide +kernel
theorem dL_law_711 : decode cL_law 711 = .ok (.ireturn, 1) := by decide +kernel
theorem dL_law_712 : decode cL_law 712 = .ok (.aload_n 1, 1) := by decide +kernel
theorem dL_law_713 : decode cL_law 713 = .ok (.aload_n 0, 1) := by decide +kernel
theorem dL_law_714 : decode cL_law 714 = .ok (.iload 4, 2) := by decide +kernel
theorem dL_law_716 : decode cL_law 716 = .ok (.iconst 1, 1) := by decide +kernel
theorem dL_law_717 : decode cL_law 717 = .ok (.iadd, 1) := by decide +kernel
theorem dL_law_718 : decode cL_law 718 = .ok (.iaload, 1) := by decide +kernel
theorem dL_law_719 : decode cL_law 719 = .ok (.invokevirtual 89, 3) := by decide +kernel
theorem dL_law_722 : decode cL_law 722 = .ok (.aload_n 2, 1) := by decide +kernel
theorem dL_law_723 : decode cL_law 723 = .ok (.aload_n 0, 1) := by decide +kernel
theorem dL_law_724 : decode cL_law 724 = .ok (.iload 4, 2) := by decide +kernel
theorem dL_law_726 : decode cL_law 726 = .ok (.iconst 1, 1) := by decide +kernel
theorem dL_law_727 : decode cL_law 727 = .ok (.iadd, 1) := by decide +kernel
theorem dL_law_728 : decode cL_law 728 = .ok (.iaload, 1) := by decide +kernel
theorem dL_law_729 : decode cL_law 729 = .ok (.invokevirtual 92, 3) := by decide +kernel
theorem dL_law_732 : decode cL_law 732 = .ok (.if_icmp .eq 917, 3) := by decide +kernel
theorem dL_law_735 : decode cL_law 735 = .ok (.iconst 0, 1) := by decide +kernel
theorem dL_law_736 : decode cL_law 736 = .ok (.ireturn, 1) := by decide +kernel
theorem dL_law_737 : decode cL_law 737 = .ok (.aload_n 1, 1) := by decide +kernel
theorem dL_law_738 : decode cL_law 738 = .ok (.aload_n 0, 1) := by decide +kernel
theorem dL_law_739 : decode cL_law 739 = .ok (.iload 4, 2) := by decide +kernel
theorem dL_law_741 : decode cL_law 741 = .ok (.iconst 1, 1) := by decide +kernel
theorem dL_law_742 : decode cL_law 742 = .ok (.iadd, 1) := by decide +kernel
theorem dL_law_743 : decode cL_law 743 = .ok (.iaload, 1) := by decide +kernel
theorem dL_law_744 : decode cL_law 744 = .ok (.invokevirtual 93, 3) := by decide +kernel
theorem dL_law_747 : decode cL_law 747 = .ok (.aload_n 2, 1) := by decide +kernel
theorem dL_law_748 : decode cL_law 748 = .ok (.aload_n 0, 1) := by decide +kernel
theorem dL_law_749 : decode cL_law 749 = .ok (.iload 4, 2) := by decide +kernel
theorem dL_law_751 : decode cL_law 751 = .ok (.iconst 1, 1) := by decide +kernel
theorem dL_law_752 : decode cL_law 752 = .ok (.iadd, 1) := by decide +kernel
theorem dL_law_753 : decode cL_law 753 = .ok (.iaload, 1) := by decide +kernel
theorem dL_law_754 : decode cL_law 754 = .ok (.invokevirtual 96, 3) := by decide +kernel
theorem dL_law_757 : decode cL_law 757 = .ok (.if_icmp .eq 892, 3) := by decide +kernel
theorem dL_law_760 : decode cL_law 760 = .ok (.iconst 0, 1) := by decide +kernel
theorem dL_law_761 : decode cL_law 761 = .ok (.ireturn, 1) := by decide +kernel
theorem dL_law_762 : decode cL_law 762 = .ok (.aload_n 1, 1) := by decide +kernel
theorem dL_law_763 : decode cL_law 763 = .ok (.aload_n 0, 1) := by decide +kernel
theorem dL_law_764 : decode cL_law 764 = .ok (.iload 4, 2) := by decide +kernel
theorem dL_law_766 : decode cL_law 766 = .ok (.iconst 1, 1) := by decide +kernel
theorem dL_law_767 : decode cL_law 767 = .ok (.iadd, 1) := by decide +kernel
theorem dL_law_768 : decode cL_law 768 = .ok (.iaload, 1) := by decide +kernel
theorem dL_law_769 : decode cL_law 769 = .ok (.invokevirtual 97, 3) := by decide +kernel
theorem dL_law_772 : decode cL_law 772 = .ok (.aload_n 2, 1) := by decide +kernel
theorem dL_law_773 : decode cL_law 773 = .ok (.aload_n 0, 1) := by decide +kernel
theorem dL_law_774 : decode cL_law 774 = .ok (.iload 4, 2) := by decide +kernel
theorem dL_law_776 : decode cL_law 776 = .ok (.iconst 1, 1) := by decide +kernel
theorem dL_law_777 : decode cL_law 777 = .ok (.iadd, 1) := by decide +kernel
theorem dL_law_778 : decode cL_law 778 = .ok (.iaload, 1) := by decide +kernel
theorem dL_law_779 : decode cL_law 779 = .ok (.invokevirtual 100, 3) := by decide +kernel
theorem dL_law_782 : decode cL_law 782 = .ok (.if_icmp .eq 867, 3) := by decide +kernel
theorem dL_law_785 : decode cL_law 785 = .ok (.iconst 0, 1) := by decide +kernel
theorem dL_law_786 : decode cL_law 786 = .ok (.ireturn, 1) := by decide +kernel
theorem dL_law_787 : decode cL_law 787 = .ok (.aload_n 1, 1) := by decide +kernel
theorem dL_law_788 : decode cL_law 788 = .ok (.invokevirtual 101, 3) := by decide +kernel
theorem dL_law_791 : decode cL_law 791 = .ok (.aload_n 2, 1) := by decide +kernel
theorem dL_law_792 : decode cL_law 792 = .ok (.invokevirtual 104, 3) := by decide +kernel
theorem dL_law_795 : decode cL_law 795 = .ok (.if_icmp .eq 854, 3) := by decide +kernel
theorem dL_law_798 : decode cL_law 798 = .ok (.iconst 0, 1) := by decide +kernel
theorem dL_law_799 : decode cL_law 799 = .ok (.ireturn, 1) := by decide +kernel
theorem dL_law_800 : decode cL_law 800 = .ok (.aload_n 1, 1) := by decide +kernel
theorem dL_law_801 : decode cL_law 801 = .ok (.aload_n 0, 1) := by decide +kernel
theorem dL_law_802 : decode cL_law 802 = .ok (.iload 4, 2) := by decide +kernel
theorem dL_law_804 : decode cL_law 804 = .ok (.iconst 1, 1) := by decide +kernel
theorem dL_law_805 : decode cL_law 805 = .ok (.iadd, 1) := by decide +kernel
theorem dL_law_806 : decode cL_law 806 = .ok (.iaload, 1) := by decide +kernel
theorem dL_law_807 : decode cL_law 807 = .ok (.aload_n 0, 1) := by decide +kernel
theorem dL_law_808 : decode cL_law 808 = .ok (.iload 4, 2) := by decide +kernel
theorem dL_law_810 : decode cL_law 810 = .ok (.iconst 2, 1) := by decide +kernel
theorem dL_law_811 : decode cL_law 811 = .ok (.iadd, 1) := by decide +kernel
theorem dL_law_812 : decode cL_law 812 = .ok (.iaload, 1) := by decide +kernel
theorem dL_law_813 : decode cL_law 813 = .ok (.invokevirtual 105, 3) := by decide +kernel
theorem dL_law_816 : decode cL_law 816 = .ok (.aload_n 2, 1) := by decide +kernel
theorem dL_law_817 : decode cL_law 817 = .ok (.aload_n 0, 1) := by decide +kernel
theorem dL_law_818 : decode cL_law 818 = .ok (.iload 4, 2) := by decide +kernel
theorem dL_law_820 : decode cL_law 820 = .ok (.iconst 1, 1) := by decide +kernel
theorem dL_law_821 : decode cL_law 821 = .ok (.iadd, 1) := by decide +kernel
theorem dL_law_822 : decode cL_law 822 = .ok (.iaload, 1) := by decide +kernel
theorem dL_law_823 : decode cL_law 823 = .ok (.aload_n 0, 1) := by decide +kernel
theorem dL_law_824 : decode cL_law 824 = .ok (.iload 4, 2) := by decide +kernel
theorem dL_law_826 : decode cL_law 826 = .ok (.iconst 2, 1) := by decide +kernel
theorem dL_law_827 : decode cL_law 827 = .ok (.iadd, 1) := by decide +kernel
theorem dL_law_828 : decode cL_law 828 = .ok (.iaload, 1) := by decide +kernel
theorem dL_law_829 : decode cL_law 829 = .ok (.invokevirtual 108, 3) := by decide +kernel
theorem dL_law_832 : decode cL_law 832 = .ok (.if_icmp .eq 817, 3) := by decide +kernel
theorem dL_law_835 : decode cL_law 835 = .ok (.iconst 0, 1) := by decide +kernel
theorem dL_law_836 : decode cL_law 836 = .ok (.ireturn, 1) := by decide +kernel
theorem dL_law_837 : decode cL_law 837 = .ok (.aload_n 1, 1) := by decide +kernel
theorem dL_law_838 : decode cL_law 838 = .ok (.aload_n 0, 1) := by decide +kernel
theorem dL_law_839 : decode cL_law 839 = .ok (.iload 4, 2) := by decide +kernel
theorem dL_law_841 : decode cL_law 841 = .ok (.iconst 1, 1) := by decide +kernel
theorem dL_law_842 : decode cL_law 842 = .ok (.iadd, 1) := by decide +kernel
theorem dL_law_843 : decode cL_law 843 = .ok (.iaload, 1) := by decide +kernel
theorem dL_law_844 : decode cL_law 844 = .ok (.invokevirtual 109, 3) := by decide +kernel
theorem dL_law_847 : decode cL_law 847 = .ok (.aload_n 2, 1) := by decide +kernel
theorem dL_law_848 : decode cL_law 848 = .ok (.aload_n 0, 1) := by decide +kernel
theorem dL_law_849 : decode cL_law 849 = .ok (.iload 4, 2) := by decide +kernel
theorem dL_law_851 : decode cL_law 851 = .ok (.iconst 1, 1) := by decide +kernel
theorem dL_law_852 : decode cL_law 852 = .ok (.iadd, 1) := by decide +kernel
theorem dL_law_853 : decode cL_law 853 = .ok (.iaload, 1) := by decide +kernel
theorem dL_law_854 : decode cL_law 854 = .ok (.invokevirtual 112, 3) := by decide +kernel
theorem dL_law_857 : decode cL_law 857 = .ok (.if_icmp .eq 792, 3) := by decide +kernel
theorem dL_law_860 : decode cL_law 860 = .ok (.iconst 0, 1) := by decide +kernel
theorem dL_law_861 : decode cL_law 861 = .ok (.ireturn, 1) := by decide +kernel
theorem dL_law_862 : decode cL_law 862 = .ok (.aload_n 1, 1) := by decide +kernel
theorem dL_law_863 : decode cL_law 863 = .ok (.aload_n 0, 1) := by decide +kernel
theorem dL_law_864 : decode cL_law 864 = .ok (.iload 4, 2) := by decide +kernel
theorem dL_law_866 : decode cL_law 866 = .ok (.iconst 1, 1) := by decide +kernel
theorem dL_law_867 : decode cL_law 867 = .ok (.iadd, 1) := by decide +kernel
theorem dL_law_868 : decode cL_law 868 = .ok (.iaload, 1) := by decide +kernel
theorem dL_law_869 : decode cL_law 869 = .ok (.invokevirtual 113, 3) := by decide +kernel
theorem dL_law_872 : decode cL_law 872 = .ok (.aload_n 2, 1) := by decide +kernel
theorem dL_law_873 : decode cL_law 873 = .ok (.aload_n 0, 1) := by decide +kernel
theorem dL_law_874 : decode cL_law 874 = .ok (.iload 4, 2) := by decide +kernel
theorem dL_law_876 : decode cL_law 876 = .ok (.iconst 1, 1) := by decide +kernel
theorem dL_law_877 : decode cL_law 877 = .ok (.iadd, 1) := by decide +kernel
theorem dL_law_878 : decode cL_law 878 = .ok (.iaload, 1) := by decide +kernel
theorem dL_law_879 : decode cL_law 879 = .ok (.invokevirtual 116, 3) := by decide +kernel
theorem dL_law_882 : decode cL_law 882 = .ok (.if_icmp .eq 767, 3) := by decide +kernel
theorem dL_law_885 : decode cL_law 885 = .ok (.iconst 0, 1) := by decide +kernel
theorem dL_law_886 : decode cL_law 886 = .ok (.ireturn, 1) := by decide +kernel
theorem dL_law_887 : decode cL_law 887 = .ok (.aload_n 1, 1) := by decide +kernel
theorem dL_law_888 : decode cL_law 888 = .ok (.aload_n 0, 1) := by decide +kernel
theorem dL_law_889 : decode cL_law 889 = .ok (.iload 4, 2) := by decide +kernel
theorem dL_law_891 : decode cL_law 891 = .ok (.iconst 1, 1) := by decide +kernel
theorem dL_law_892 : decode cL_law 892 = .ok (.iadd, 1) := by decide +kernel
theorem dL_law_893 : decode cL_law 893 = .ok (.iaload, 1) := by decide +kernel
theorem dL_law_894 : decode cL_law 894 = .ok (.aload_n 0, 1) := by decide +kernel
theorem dL_law_895 : decode cL_law 895 = .ok (.iload 4, 2) := by decide +kernel
theorem dL_law_897 : decode cL_law 897 = .ok (.iconst 2, 1) := by decide +kernel
theorem dL_law_898 : decode cL_law 898 = .ok (.iadd, 1) := by decide +kernel
theorem dL_law_899 : decode cL_law 899 = .ok (.iaload, 1) := by decide +kernel
theorem dL_law_900 : decode cL_law 900 = .ok (.invokevirtual 117, 3) := by decide +kernel
theorem dL_law_903 : decode cL_law 903 = .ok (.aload_n 2, 1) := by decide +kernel
theorem dL_law_904 : decode cL_law 904 = .ok (.aload_n 0, 1) := by decide +kernel
theorem dL_law_905 : decode cL_law 905 = .ok (.iload 4, 2) := by decide +kernel
theorem dL_law_907 : decode cL_law 907 = .ok (.iconst 1, 1) := by decide +kernel
theorem dL_law_908 : decode cL_law 908 = .ok (.iadd, 1) := by decide +kernel
theorem dL_law_909 : decode cL_law 909 = .ok (.iaload, 1) := by decide +kernel
theorem dL_law_910 : decode cL_law 910 = .ok (.aload_n 0, 1) := by decide +kernel
theorem dL_law_911 : decode cL_law 911 = .ok (.iload 4, 2) := by decide +kernel
theorem dL_law_913 : decode cL_law 913 = .ok (.iconst 2, 1) := by decide +kernel
theorem dL_law_914 : decode cL_law 914 = .ok (.iadd, 1) := by decide +kernel
theorem dL_law_915 : decode cL_law 915 = .ok (.iaload, 1) := by decide +kernel
theorem dL_law_916 : decode cL_law 916 = .ok (.invokevirtual 120, 3) := by decide +kernel
theorem dL_law_919 : decode cL_law 919 = .ok (.if_icmp .eq 730, 3) := by decide +kernel
theorem dL_law_922 : decode cL_law 922 = .ok (.iconst 0, 1) := by decide +kernel
theorem dL_law_923 : decode cL_law 923 = .ok (.ireturn, 1) := by decide +kernel
theorem dL_law_924 : decode cL_law 924 = .ok (.aload_n 1, 1) := by decide +kernel
theorem dL_law_925 : decode cL_law 925 = .ok (.aload_n 0, 1) := by decide +kernel
theorem dL_law_926 : decode cL_law 926 = .ok (.iload 4, 2) := by decide +kernel
theorem dL_law_928 : decode cL_law 928 = .ok (.iconst 1, 1) := by decide +kernel
theorem dL_law_929 : decode cL_law 929 = .ok (.iadd, 1) := by decide +kernel
theorem dL_law_930 : decode cL_law 930 = .ok (.iaload, 1) := by decide +kernel
theorem dL_law_931 : decode cL_law 931 = .ok (.invokevirtual 121, 3) := by decide +kernel
theorem dL_law_934 : decode cL_law 934 = .ok (.aload_n 2, 1) := by decide +kernel
theorem dL_law_935 : decode cL_law 935 = .ok (.aload_n 0, 1) := by decide +kernel
theorem dL_law_936 : decode cL_law 936 = .ok (.iload 4, 2) := by decide +kernel
theorem dL_law_938 : decode cL_law 938 = .ok (.iconst 1, 1) := by decide +kernel
theorem dL_law_939 : decode cL_law 939 = .ok (.iadd, 1) := by decide +kernel
theorem dL_law_940 : decode cL_law 940 = .ok (.iaload, 1) := by decide +kernel
theorem dL_law_941 : decode cL_law 941 = .ok (.invokevirtual 124, 3) := by decide +kernel
theorem dL_law_944 : decode cL_law 944 = .ok (.if_icmp .eq 705, 3) := by decide +kernel
theorem dL_law_947 : decode cL_law 947 = .ok (.iconst 0, 1) := by decide +kernel
theorem dL_law_948 : decode cL_law 948 = .ok (.ireturn, 1) := by decide +kernel
theorem dL_law_949 : decode cL_law 949 = .ok (.aload_n 1, 1) := by decide +kernel
theorem dL_law_950 : decode cL_law 950 = .ok (.invokevirtual 125, 3) := by decide +kernel
theorem dL_law_953 : decode cL_law 953 = .ok (.aload_n 2, 1) := by decide +kernel
theorem dL_law_954 : decode cL_law 954 = .ok (.invokevirtual 128, 3) := by decide +kernel
theorem dL_law_957 : decode cL_law 957 = .ok (.if_icmp .eq 692, 3) := by decide +kernel
theorem dL_law_960 : decode cL_law 960 = .ok (.iconst 0, 1) := by decide +kernel
theorem dL_law_961 : decode cL_law 961 = .ok (.ireturn, 1) := by decide +kernel
theorem dL_law_962 : decode cL_law 962 = .ok (.aload_n 1, 1) := by decide +kernel
theorem dL_law_963 : decode cL_law 963 = .ok (.aload_n 0, 1) := by decide +kernel
theorem dL_law_964 : decode cL_law 964 = .ok (.iload 4, 2) := by decide +kernel
theorem dL_law_966 : decode cL_law 966 = .ok (.iconst 1, 1) := by decide +kernel
theorem dL_law_967 : decode cL_law 967 = .ok (.iadd, 1) := by decide +kernel
theorem dL_law_968 : decode cL_law 968 = .ok (.iaload, 1) := by decide +kernel
theorem dL_law_969 : decode cL_law 969 = .ok (.invokevirtual 129, 3) := by decide +kernel
theorem dL_law_972 : decode cL_law 972 = .ok (.aload_n 2, 1) := by decide +kernel
theorem dL_law_973 : decode cL_law 973 = .ok (.aload_n 0, 1) := by decide +kernel
theorem dL_law_974 : decode cL_law 974 = .ok (.iload 4, 2) := by decide +kernel
theorem dL_law_976 : decode cL_law 976 = .ok (.iconst 1, 1) := by decide +kernel
theorem dL_law_977 : decode cL_law 977 = .ok (.iadd, 1) := by decide +kernel
theorem dL_law_978 : decode cL_law 978 = .ok (.iaload, 1) := by decide +kernel
theorem dL_law_979 : decode cL_law 979 = .ok (.invokevirtual 133, 3) := by decide +kernel
theorem dL_law_982 : decode cL_law 982 = .ok (.lcmp, 1) := by decide +kernel
theorem dL_law_983 : decode cL_law 983 = .ok (.ifCond .eq 666, 3) := by decide +kernel
theorem dL_law_986 : decode cL_law 986 = .ok (.iconst 0, 1) := by decide +kernel
theorem dL_law_987 : decode cL_law 987 = .ok (.ireturn, 1) := by decide +kernel
theorem dL_law_988 : decode cL_law 988 = .ok (.aload_n 1, 1) := by decide +kernel
theorem dL_law_989 : decode cL_law 989 = .ok (.aload_n 0, 1) := by decide +kernel
theorem dL_law_990 : decode cL_law 990 = .ok (.iload 4, 2) := by decide +kernel
theorem dL_law_992 : decode cL_law 992 = .ok (.iconst 1, 1) := by decide +kernel
theorem dL_law_993 : decode cL_law 993 = .ok (.iadd, 1) := by decide +kernel
theorem dL_law_994 : decode cL_law 994 = .ok (.iaload, 1) := by decide +kernel
theorem dL_law_995 : decode cL_law 995 = .ok (.invokevirtual 134, 3) := by decide +kernel
theorem dL_law_998 : decode cL_law 998 = .ok (.aload_n 2, 1) := by decide +kernel
theorem dL_law_999 : decode cL_law 999 = .ok (.aload_n 0, 1) := by decide +kernel
theorem dL_law_1000 : decode cL_law 1000 = .ok (.iload 4, 2) := by decide +kernel
theorem dL_law_1002 : decode cL_law 1002 = .ok (.iconst 1, 1) := by decide +kernel
theorem dL_law_1003 : decode cL_law 1003 = .ok (.iadd, 1) := by decide +kernel
theorem dL_law_1004 : decode cL_law 1004 = .ok (.iaload, 1) := by decide +kernel
theorem dL_law_1005 : decode cL_law 1005 = .ok (.invokevirtual 137, 3) := by decide +kernel
theorem dL_law_1008 : decode cL_law 1008 = .ok (.if_icmp .eq 641, 3) := by decide +kernel
theorem dL_law_1011 : decode cL_law 1011 = .ok (.iconst 0, 1) := by decide +kernel
theorem dL_law_1012 : decode cL_law 1012 = .ok (.ireturn, 1) := by decide +kernel
theorem dL_law_1013 : decode cL_law 1013 = .ok (.aload_n 1, 1) := by decide +kernel
theorem dL_law_1014 : decode cL_law 1014 = .ok (.aload_n 0, 1) := by decide +kernel
theorem dL_law_1015 : decode cL_law 1015 = .ok (.iload 4, 2) := by decide +kernel
theorem dL_law_1017 : decode cL_law 1017 = .ok (.iconst 1, 1) := by decide +kernel
theorem dL_law_1018 : decode cL_law 1018 = .ok (.iadd, 1) := by decide +kernel
theorem dL_law_1019 : decode cL_law 1019 = .ok (.iaload, 1) := by decide +kernel
theorem dL_law_1020 : decode cL_law 1020 = .ok (.invokevirtual 138, 3) := by decide +kernel
theorem dL_law_1023 : decode cL_law 1023 = .ok (.aload_n 2, 1) := by decide +kernel
theorem dL_law_1024 : decode cL_law 1024 = .ok (.aload_n 0, 1) := by decide +kernel
theorem dL_law_1025 : decode cL_law 1025 = .ok (.iload 4, 2) := by decide +kernel
theorem dL_law_1027 : decode cL_law 1027 = .ok (.iconst 1, 1) := by decide +kernel
theorem dL_law_1028 : decode cL_law 1028 = .ok (.iadd, 1) := by decide +kernel
theorem dL_law_1029 : decode cL_law 1029 = .ok (.iaload, 1) := by decide +kernel
theorem dL_law_1030 : decode cL_law 1030 = .ok (.invokevirtual 141, 3) := by decide +kernel
theorem dL_law_1033 : decode cL_law 1033 = .ok (.if_icmp .eq 616, 3) := by decide +kernel
theorem dL_law_1036 : decode cL_law 1036 = .ok (.iconst 0, 1) := by decide +kernel
theorem dL_law_1037 : decode cL_law 1037 = .ok (.ireturn, 1) := by decide +kernel
theorem dL_law_1038 : decode cL_law 1038 = .ok (.aload_n 1, 1) := by decide +kernel
theorem dL_law_1039 : decode cL_law 1039 = .ok (.invokevirtual 142, 3) := by decide +kernel
theorem dL_law_1042 : decode cL_law 1042 = .ok (.aload_n 2, 1) := by decide +kernel
theorem dL_law_1043 : decode cL_law 1043 = .ok (.invokevirtual 145, 3) := by decide +kernel
theorem dL_law_1046 : decode cL_law 1046 = .ok (.if_icmp .eq 603, 3) := by decide +kernel
theorem dL_law_1049 : decode cL_law 1049 = .ok (.iconst 0, 1) := by decide +kernel
theorem dL_law_1050 : decode cL_law 1050 = .ok (.ireturn, 1) := by decide +kernel
theorem dL_law_1051 : decode cL_law 1051 = .ok (.aload_n 1, 1) := by decide +kernel
theorem dL_law_1052 : decode cL_law 1052 = .ok (.aload_n 0, 1) := by decide +kernel
theorem dL_law_1053 : decode cL_law 1053 = .ok (.iload 4, 2) := by decide +kernel
theorem dL_law_1055 : decode cL_law 1055 = .ok (.iconst 1, 1) := by decide +kernel
theorem dL_law_1056 : decode cL_law 1056 = .ok (.iadd, 1) := by decide +kernel
theorem dL_law_1057 : decode cL_law 1057 = .ok (.iaload, 1) := by decide +kernel
theorem dL_law_1058 : decode cL_law 1058 = .ok (.invokevirtual 146, 3) := by decide +kernel
theorem dL_law_1061 : decode cL_law 1061 = .ok (.aload_n 2, 1) := by decide +kernel
theorem dL_law_1062 : decode cL_law 1062 = .ok (.aload_n 0, 1) := by decide +kernel
theorem dL_law_1063 : decode cL_law 1063 = .ok (.iload 4, 2) := by decide +kernel
theorem dL_law_1065 : decode cL_law 1065 = .ok (.iconst 1, 1) := by decide +kernel
theorem dL_law_1066 : decode cL_law 1066 = .ok (.iadd, 1) := by decide +kernel
theorem dL_law_1067 : decode cL_law 1067 = .ok (.iaload, 1) := by decide +kernel
theorem dL_law_1068 : decode cL_law 1068 = .ok (.invokevirtual 149, 3) := by decide +kernel
theorem dL_law_1071 : decode cL_law 1071 = .ok (.if_icmp .eq 578, 3) := by decide +kernel
theorem dL_law_1074 : decode cL_law 1074 = .ok (.iconst 0, 1) := by decide +kernel
theorem dL_law_1075 : decode cL_law 1075 = .ok (.ireturn, 1) := by decide +kernel
theorem dL_law_1076 : decode cL_law 1076 = .ok (.aload_n 1, 1) := by decide +kernel
theorem dL_law_1077 : decode cL_law 1077 = .ok (.aload_n 0, 1) := by decide +kernel
theorem dL_law_1078 : decode cL_law 1078 = .ok (.iload 4, 2) := by decide +kernel
theorem dL_law_1080 : decode cL_law 1080 = .ok (.iconst 1, 1) := by decide +kernel
theorem dL_law_1081 : decode cL_law 1081 = .ok (.iadd, 1) := by decide +kernel
theorem dL_law_1082 : decode cL_law 1082 = .ok (.iaload, 1) := by decide +kernel
theorem dL_law_1083 : decode cL_law 1083 = .ok (.aload_n 0, 1) := by decide +kernel
theorem dL_law_1084 : decode cL_law 1084 = .ok (.iload 4, 2) := by decide +kernel
theorem dL_law_1086 : decode cL_law 1086 = .ok (.iconst 2, 1) := by decide +kernel
theorem dL_law_1087 : decode cL_law 1087 = .ok (.iadd, 1) := by decide +kernel
theorem dL_law_1088 : decode cL_law 1088 = .ok (.iaload, 1) := by decide +kernel
theorem dL_law_1089 : decode cL_law 1089 = .ok (.invokevirtual 150, 3) := by decide +kernel
theorem dL_law_1092 : decode cL_law 1092 = .ok (.aload_n 2, 1) := by decide +kernel
theorem dL_law_1093 : decode cL_law 1093 = .ok (.aload_n 0, 1) := by decide +kernel
theorem dL_law_1094 : decode cL_law 1094 = .ok (.iload 4, 2) := by decide +kernel
theorem dL_law_1096 : decode cL_law 1096 = .ok (.iconst 1, 1) := by decide +kernel
theorem dL_law_1097 : decode cL_law 1097 = .ok (.iadd, 1) := by decide +kernel
theorem dL_law_1098 : decode cL_law 1098 = .ok (.iaload, 1) := by decide +kernel
theorem dL_law_1099 : decode cL_law 1099 = .ok (.aload_n 0, 1) := by decide +kernel
theorem dL_law_1100 : decode cL_law 1100 = .ok (.iload 4, 2) := by decide +kernel
theorem dL_law_1102 : decode cL_law 1102 = .ok (.iconst 2, 1) := by decide +kernel
theorem dL_law_1103 : decode cL_law 1103 = .ok (.iadd, 1) := by decide +kernel
theorem dL_law_1104 : decode cL_law 1104 = .ok (.iaload, 1) := by decide +kernel
theorem dL_law_1105 : decode cL_law 1105 = .ok (.invokevirtual 153, 3) := by decide +kernel
theorem dL_law_1108 : decode cL_law 1108 = .ok (.if_icmp .eq 541, 3) := by decide +kernel
theorem dL_law_1111 : decode cL_law 1111 = .ok (.iconst 0, 1) := by decide +kernel
theorem dL_law_1112 : decode cL_law 1112 = .ok (.ireturn, 1) := by decide +kernel
theorem dL_law_1113 : decode cL_law 1113 = .ok (.aload_n 1, 1) := by decide +kernel
theorem dL_law_1114 : decode cL_law 1114 = .ok (.aload_n 0, 1) := by decide +kernel
theorem dL_law_1115 : decode cL_law 1115 = .ok (.iload 4, 2) := by decide +kernel
theorem dL_law_1117 : decode cL_law 1117 = .ok (.iconst 1, 1) := by decide +kernel
theorem dL_law_1118 : decode cL_law 1118 = .ok (.iadd, 1) := by decide +kernel
theorem dL_law_1119 : decode cL_law 1119 = .ok (.iaload, 1) := by decide +kernel
theorem dL_law_1120 : decode cL_law 1120 = .ok (.invokevirtual 154, 3) := by decide +kernel
theorem dL_law_1123 : decode cL_law 1123 = .ok (.aload_n 2, 1) := by decide +kernel
theorem dL_law_1124 : decode cL_law 1124 = .ok (.aload_n 0, 1) := by decide +kernel
theorem dL_law_1125 : decode cL_law 1125 = .ok (.iload 4, 2) := by decide +kernel
theorem dL_law_1127 : decode cL_law 1127 = .ok (.iconst 1, 1) := by decide +kernel
theorem dL_law_1128 : decode cL_law 1128 = .ok (.iadd, 1) := by decide +kernel
theorem dL_law_1129 : decode cL_law 1129 = .ok (.iaload, 1) := by decide +kernel
theorem dL_law_1130 : decode cL_law 1130 = .ok (.invokevirtual 157, 3) := by decide +kernel
theorem dL_law_1133 : decode cL_law 1133 = .ok (.if_icmp .eq 516, 3) := by decide +kernel
theorem dL_law_1136 : decode cL_law 1136 = .ok (.iconst 0, 1) := by decide +kernel
theorem dL_law_1137 : decode cL_law 1137 = .ok (.ireturn, 1) := by decide +kernel
theorem dL_law_1138 : decode cL_law 1138 = .ok (.aload_n 1, 1) := by decide +kernel
theorem dL_law_1139 : decode cL_law 1139 = .ok (.aload_n 0, 1) := by decide +kernel
theorem dL_law_1140 : decode cL_law 1140 = .ok (.iload 4, 2) := by decide +kernel
theorem dL_law_1142 : decode cL_law 1142 = .ok (.iconst 1, 1) := by decide +kernel
theorem dL_law_1143 : decode cL_law 1143 = .ok (.iadd, 1) := by decide +kernel
theorem dL_law_1144 : decode cL_law 1144 = .ok (.iaload, 1) := by decide +kernel
theorem dL_law_1145 : decode cL_law 1145 = .ok (.invokevirtual 158, 3) := by decide +kernel
theorem dL_law_1148 : decode cL_law 1148 = .ok (.aload_n 2, 1) := by decide +kernel
theorem dL_law_1149 : decode cL_law 1149 = .ok (.aload_n 0, 1) := by decide +kernel
theorem dL_law_1150 : decode cL_law 1150 = .ok (.iload 4, 2) := by decide +kernel
theorem dL_law_1152 : decode cL_law 1152 = .ok (.iconst 1, 1) := by decide +kernel
theorem dL_law_1153 : decode cL_law 1153 = .ok (.iadd, 1) := by decide +kernel
theorem dL_law_1154 : decode cL_law 1154 = .ok (.iaload, 1) := by decide +kernel
theorem dL_law_1155 : decode cL_law 1155 = .ok (.invokevirtual 161, 3) := by decide +kernel
theorem dL_law_1158 : decode cL_law 1158 = .ok (.if_icmp .eq 491, 3) := by decide +kernel
theorem dL_law_1161 : decode cL_law 1161 = .ok (.iconst 0, 1) := by decide +kernel
theorem dL_law_1162 : decode cL_law 1162 = .ok (.ireturn, 1) := by decide +kernel
theorem dL_law_1163 : decode cL_law 1163 = .ok (.aload_n 1, 1) := by decide +kernel
theorem dL_law_1164 : decode cL_law 1164 = .ok (.aload_n 0, 1) := by decide +kernel
theorem dL_law_1165 : decode cL_law 1165 = .ok (.iload 4, 2) := by decide +kernel
theorem dL_law_1167 : decode cL_law 1167 = .ok (.iconst 1, 1) := by decide +kernel
theorem dL_law_1168 : decode cL_law 1168 = .ok (.iadd, 1) := by decide +kernel
theorem dL_law_1169 : decode cL_law 1169 = .ok (.iaload, 1) := by decide +kernel
theorem dL_law_1170 : decode cL_law 1170 = .ok (.aload_n 0, 1) := by decide +kernel
theorem dL_law_1171 : decode cL_law 1171 = .ok (.iload 4, 2) := by decide +kernel
theorem dL_law_1173 : decode cL_law 1173 = .ok (.iconst 2, 1) := by decide +kernel
theorem dL_law_1174 : decode cL_law 1174 = .ok (.iadd, 1) := by decide +kernel
theorem dL_law_1175 : decode cL_law 1175 = .ok (.iaload, 1) := by decide +kernel
theorem dL_law_1176 : decode cL_law 1176 = .ok (.invokevirtual 162, 3) := by decide +kernel
theorem dL_law_1179 : decode cL_law 1179 = .ok (.aload_n 2, 1) := by decide +kernel
theorem dL_law_1180 : decode cL_law 1180 = .ok (.aload_n 0, 1) := by decide +kernel
theorem dL_law_1181 : decode cL_law 1181 = .ok (.iload 4, 2) := by decide +kernel
theorem dL_law_1183 : decode cL_law 1183 = .ok (.iconst 1, 1) := by decide +kernel
theorem dL_law_1184 : decode cL_law 1184 = .ok (.iadd, 1) := by decide +kernel
theorem dL_law_1185 : decode cL_law 1185 = .ok (.iaload, 1) := by decide +kernel
theorem dL_law_1186 : decode cL_law 1186 = .ok (.aload_n 0, 1) := by decide +kernel
theorem dL_law_1187 : decode cL_law 1187 = .ok (.iload 4, 2) := by decide +kernel
theorem dL_law_1189 : decode cL_law 1189 = .ok (.iconst 2, 1) := by decide +kernel
theorem dL_law_1190 : decode cL_law 1190 = .ok (.iadd, 1) := by decide +kernel
theorem dL_law_1191 : decode cL_law 1191 = .ok (.iaload, 1) := by decide +kernel
theorem dL_law_1192 : decode cL_law 1192 = .ok (.invokevirtual 165, 3) := by decide +kernel
theorem dL_law_1195 : decode cL_law 1195 = .ok (.if_icmp .eq 454, 3) := by decide +kernel
theorem dL_law_1198 : decode cL_law 1198 = .ok (.iconst 0, 1) := by decide +kernel
theorem dL_law_1199 : decode cL_law 1199 = .ok (.ireturn, 1) := by decide +kernel
theorem dL_law_1200 : decode cL_law 1200 = .ok (.aload_n 1, 1) := by decide +kernel
theorem dL_law_1201 : decode cL_law 1201 = .ok (.aload_n 0, 1) := by decide +kernel
theorem dL_law_1202 : decode cL_law 1202 = .ok (.iload 4, 2) := by decide +kernel
theorem dL_law_1204 : decode cL_law 1204 = .ok (.iconst 1, 1) := by decide +kernel
theorem dL_law_1205 : decode cL_law 1205 = .ok (.iadd, 1) := by decide +kernel
theorem dL_law_1206 : decode cL_law 1206 = .ok (.iaload, 1) := by decide +kernel
theorem dL_law_1207 : decode cL_law 1207 = .ok (.aload_n 0, 1) := by decide +kernel
theorem dL_law_1208 : decode cL_law 1208 = .ok (.iload 4, 2) := by decide +kernel
theorem dL_law_1210 : decode cL_law 1210 = .ok (.iconst 2, 1) := by decide +kernel
theorem dL_law_1211 : decode cL_law 1211 = .ok (.iadd, 1) := by decide +kernel
theorem dL_law_1212 : decode cL_law 1212 = .ok (.iaload, 1) := by decide +kernel
theorem dL_law_1213 : decode cL_law 1213 = .ok (.aload_n 0, 1) := by decide +kernel
theorem dL_law_1214 : decode cL_law 1214 = .ok (.iload 4, 2) := by decide +kernel
theorem dL_law_1216 : decode cL_law 1216 = .ok (.iconst 3, 1) := by decide +kernel
theorem dL_law_1217 : decode cL_law 1217 = .ok (.iadd, 1) := by decide +kernel
theorem dL_law_1218 : decode cL_law 1218 = .ok (.iaload, 1) := by decide +kernel
theorem dL_law_1219 : decode cL_law 1219 = .ok (.invokevirtual 166, 3) := by decide +kernel
theorem dL_law_1222 : decode cL_law 1222 = .ok (.aload_n 2, 1) := by decide +kernel
theorem dL_law_1223 : decode cL_law 1223 = .ok (.aload_n 0, 1) := by decide +kernel
theorem dL_law_1224 : decode cL_law 1224 = .ok (.iload 4, 2) := by decide +kernel
theorem dL_law_1226 : decode cL_law 1226 = .ok (.iconst 1, 1) := by decide +kernel
theorem dL_law_1227 : decode cL_law 1227 = .ok (.iadd, 1) := by decide +kernel
theorem dL_law_1228 : decode cL_law 1228 = .ok (.iaload, 1) := by decide +kernel
theorem dL_law_1229 : decode cL_law 1229 = .ok (.aload_n 0, 1) := by decide +kernel
theorem dL_law_1230 : decode cL_law 1230 = .ok (.iload 4, 2) := by decide +kernel
theorem dL_law_1232 : decode cL_law 1232 = .ok (.iconst 2, 1) := by decide +kernel
theorem dL_law_1233 : decode cL_law 1233 = .ok (.iadd, 1) := by decide +kernel
theorem dL_law_1234 : decode cL_law 1234 = .ok (.iaload, 1) := by decide +kernel
theorem dL_law_1235 : decode cL_law 1235 = .ok (.aload_n 0, 1) := by decide +kernel
theorem dL_law_1236 : decode cL_law 1236 = .ok (.iload 4, 2) := by decide +kernel
theorem dL_law_1238 : decode cL_law 1238 = .ok (.iconst 3, 1) := by decide +kernel
theorem dL_law_1239 : decode cL_law 1239 = .ok (.iadd, 1) := by decide +kernel
theorem dL_law_1240 : decode cL_law 1240 = .ok (.iaload, 1) := by decide +kernel
theorem dL_law_1241 : decode cL_law 1241 = .ok (.invokevirtual 169, 3) := by decide +kernel
theorem dL_law_1244 : decode cL_law 1244 = .ok (.if_icmp .eq 405, 3) := by decide +kernel
theorem dL_law_1247 : decode cL_law 1247 = .ok (.iconst 0, 1) := by decide +kernel
theorem dL_law_1248 : decode cL_law 1248 = .ok (.ireturn, 1) := by decide +kernel
theorem dL_law_1249 : decode cL_law 1249 = .ok (.aload_n 1, 1) := by decide +kernel
theorem dL_law_1250 : decode cL_law 1250 = .ok (.invokevirtual 170, 3) := by decide +kernel
theorem dL_law_1253 : decode cL_law 1253 = .ok (.aload_n 2, 1) := by decide +kernel
theorem dL_law_1254 : decode cL_law 1254 = .ok (.invokevirtual 173, 3) := by decide +kernel
theorem dL_law_1257 : decode cL_law 1257 = .ok (.if_icmp .eq 392, 3) := by decide +kernel
theorem dL_law_1260 : decode cL_law 1260 = .ok (.iconst 0, 1) := by decide +kernel
theorem dL_law_1261 : decode cL_law 1261 = .ok (.ireturn, 1) := by decide +kernel
theorem dL_law_1262 : decode cL_law 1262 = .ok (.aload_n 1, 1) := by decide +kernel
theorem dL_law_1263 : decode cL_law 1263 = .ok (.invokevirtual 174, 3) := by decide +kernel
theorem dL_law_1266 : decode cL_law 1266 = .ok (.aload_n 2, 1) := by decide +kernel
theorem dL_law_1267 : decode cL_law 1267 = .ok (.invokevirtual 177, 3) := by decide +kernel
theorem dL_law_1270 : decode cL_law 1270 = .ok (.if_icmp .eq 379, 3) := by decide +kernel
theorem dL_law_1273 : decode cL_law 1273 = .ok (.iconst 0, 1) := by decide +kernel
theorem dL_law_1274 : decode cL_law 1274 = .ok (.ireturn, 1) := by decide +kernel
theorem dL_law_1275 : decode cL_law 1275 = .ok (.aload_n 1, 1) := by decide +kernel
theorem dL_law_1276 : decode cL_law 1276 = .ok (.aload_n 0, 1) := by decide +kernel
theorem dL_law_1277 : decode cL_law 1277 = .ok (.iload 4, 2) := by decide +kernel
theorem dL_law_1279 : decode cL_law 1279 = .ok (.iconst 1, 1) := by decide +kernel
theorem dL_law_1280 : decode cL_law 1280 = .ok (.iadd, 1) := by decide +kernel
theorem dL_law_1281 : decode cL_law 1281 = .ok (.iaload, 1) := by decide +kernel
theorem dL_law_1282 : decode cL_law 1282 = .ok (.invokevirtual 178, 3) := by decide +kernel
theorem dL_law_1285 : decode cL_law 1285 = .ok (.aload_n 2, 1) := by decide +kernel
theorem dL_law_1286 : decode cL_law 1286 = .ok (.aload_n 0, 1) := by decide +kernel
theorem dL_law_1287 : decode cL_law 1287 = .ok (.iload 4, 2) := by decide +kernel
theorem dL_law_1289 : decode cL_law 1289 = .ok (.iconst 1, 1) := by decide +kernel
theorem dL_law_1290 : decode cL_law 1290 = .ok (.iadd, 1) := by decide +kernel
theorem dL_law_1291 : decode cL_law 1291 = .ok (.iaload, 1) := by decide +kernel
theorem dL_law_1292 : decode cL_law 1292 = .ok (.invokevirtual 181, 3) := by decide +kernel
theorem dL_law_1295 : decode cL_law 1295 = .ok (.if_icmp .eq 354, 3) := by decide +kernel
theorem dL_law_1298 : decode cL_law 1298 = .ok (.iconst 0, 1) := by decide +kernel
theorem dL_law_1299 : decode cL_law 1299 = .ok (.ireturn, 1) := by decide +kernel
theorem dL_law_1300 : decode cL_law 1300 = .ok (.aload_n 1, 1) := by decide +kernel
theorem dL_law_1301 : decode cL_law 1301 = .ok (.aload_n 0, 1) := by decide +kernel
theorem dL_law_1302 : decode cL_law 1302 = .ok (.iload 4, 2) := by decide +kernel
theorem dL_law_1304 : decode cL_law 1304 = .ok (.iconst 1, 1) := by decide +kernel
theorem dL_law_1305 : decode cL_law 1305 = .ok (.iadd, 1) := by decide +kernel
theorem dL_law_1306 : decode cL_law 1306 = .ok (.iaload, 1) := by decide +kernel
theorem dL_law_1307 : decode cL_law 1307 = .ok (.aload_n 0, 1) := by decide +kernel
theorem dL_law_1308 : decode cL_law 1308 = .ok (.iload 4, 2) := by decide +kernel
theorem dL_law_1310 : decode cL_law 1310 = .ok (.iconst 2, 1) := by decide +kernel
theorem dL_law_1311 : decode cL_law 1311 = .ok (.iadd, 1) := by decide +kernel
theorem dL_law_1312 : decode cL_law 1312 = .ok (.iaload, 1) := by decide +kernel
theorem dL_law_1313 : decode cL_law 1313 = .ok (.aload_n 0, 1) := by decide +kernel
theorem dL_law_1314 : decode cL_law 1314 = .ok (.iload 4, 2) := by decide +kernel
theorem dL_law_1316 : decode cL_law 1316 = .ok (.iconst 3, 1) := by decide +kernel
theorem dL_law_1317 : decode cL_law 1317 = .ok (.iadd, 1) := by decide +kernel
theorem dL_law_1318 : decode cL_law 1318 = .ok (.iaload, 1) := by decide +kernel
theorem dL_law_1319 : decode cL_law 1319 = .ok (.aload_n 0, 1) := by decide +kernel
theorem dL_law_1320 : decode cL_law 1320 = .ok (.iload 4, 2) := by decide +kernel
theorem dL_law_1322 : decode cL_law 1322 = .ok (.iconst 4, 1) := by decide +kernel
theorem dL_law_1323 : decode cL_law 1323 = .ok (.iadd, 1) := by decide +kernel
theorem dL_law_1324 : decode cL_law 1324 = .ok (.iaload, 1) := by decide +kernel
theorem dL_law_1325 : decode cL_law 1325 = .ok (.invokevirtual 182, 3) := by decide +kernel
theorem dL_law_1328 : decode cL_law 1328 = .ok (.aload_n 2, 1) := by decide +kernel
theorem dL_law_1329 : decode cL_law 1329 = .ok (.aload_n 0, 1) := by decide +kernel
theorem dL_law_1330 : decode cL_law 1330 = .ok (.iload 4, 2) := by decide +kernel
theorem dL_law_1332 : decode cL_law 1332 = .ok (.iconst 1, 1) := by decide +kernel
theorem dL_law_1333 : decode cL_law 1333 = .ok (.iadd, 1) := by decide +kernel
theorem dL_law_1334 : decode cL_law 1334 = .ok (.iaload, 1) := by decide +kernel
theorem dL_law_1335 : decode cL_law 1335 = .ok (.aload_n 0, 1) := by decide +kernel
theorem dL_law_1336 : decode cL_law 1336 = .ok (.iload 4, 2) := by decide +kernel
theorem dL_law_1338 : decode cL_law 1338 = .ok (.iconst 2, 1) := by decide +kernel
theorem dL_law_1339 : decode cL_law 1339 = .ok (.iadd, 1) := by decide +kernel
theorem dL_law_1340 : decode cL_law 1340 = .ok (.iaload, 1) := by decide +kernel
theorem dL_law_1341 : decode cL_law 1341 = .ok (.aload_n 0, 1) := by decide +kernel
theorem dL_law_1342 : decode cL_law 1342 = .ok (.iload 4, 2) := by decide +kernel
theorem dL_law_1344 : decode cL_law 1344 = .ok (.iconst 3, 1) := by decide +kernel
theorem dL_law_1345 : decode cL_law 1345 = .ok (.iadd, 1) := by decide +kernel
theorem dL_law_1346 : decode cL_law 1346 = .ok (.iaload, 1) := by decide +kernel
theorem dL_law_1347 : decode cL_law 1347 = .ok (.aload_n 0, 1) := by decide +kernel
theorem dL_law_1348 : decode cL_law 1348 = .ok (.iload 4, 2) := by decide +kernel
theorem dL_law_1350 : decode cL_law 1350 = .ok (.iconst 4, 1) := by decide +kernel
theorem dL_law_1351 : decode cL_law 1351 = .ok (.iadd, 1) := by decide +kernel
theorem dL_law_1352 : decode cL_law 1352 = .ok (.iaload, 1) := by decide +kernel
theorem dL_law_1353 : decode cL_law 1353 = .ok (.invokevirtual 186, 3) := by decide +kernel
theorem dL_law_1356 : decode cL_law 1356 = .ok (.if_icmp .eq 293, 3) := by decide +kernel
theorem dL_law_1359 : decode cL_law 1359 = .ok (.iconst 0, 1) := by decide +kernel
theorem dL_law_1360 : decode cL_law 1360 = .ok (.ireturn, 1) := by decide +kernel
theorem dL_law_1361 : decode cL_law 1361 = .ok (.aload_n 1, 1) := by decide +kernel
theorem dL_law_1362 : decode cL_law 1362 = .ok (.aload_n 0, 1) := by decide +kernel
theorem dL_law_1363 : decode cL_law 1363 = .ok (.iload 4, 2) := by decide +kernel
theorem dL_law_1365 : decode cL_law 1365 = .ok (.iconst 1, 1) := by decide +kernel
theorem dL_law_1366 : decode cL_law 1366 = .ok (.iadd, 1) := by decide +kernel
theorem dL_law_1367 : decode cL_law 1367 = .ok (.iaload, 1) := by decide +kernel
theorem dL_law_1368 : decode cL_law 1368 = .ok (.aload_n 0, 1) := by decide +kernel
theorem dL_law_1369 : decode cL_law 1369 = .ok (.iload 4, 2) := by decide +kernel
theorem dL_law_1371 : decode cL_law 1371 = .ok (.iconst 2, 1) := by decide +kernel
theorem dL_law_1372 : decode cL_law 1372 = .ok (.iadd, 1) := by decide +kernel
theorem dL_law_1373 : decode cL_law 1373 = .ok (.iaload, 1) := by decide +kernel
theorem dL_law_1374 : decode cL_law 1374 = .ok (.aload_n 0, 1) := by decide +kernel
theorem dL_law_1375 : decode cL_law 1375 = .ok (.iload 4, 2) := by decide +kernel
theorem dL_law_1377 : decode cL_law 1377 = .ok (.iconst 3, 1) := by decide +kernel
theorem dL_law_1378 : decode cL_law 1378 = .ok (.iadd, 1) := by decide +kernel
theorem dL_law_1379 : decode cL_law 1379 = .ok (.iaload, 1) := by decide +kernel
theorem dL_law_1380 : decode cL_law 1380 = .ok (.invokevirtual 187, 3) := by decide +kernel
theorem dL_law_1383 : decode cL_law 1383 = .ok (.aload_n 2, 1) := by decide +kernel
theorem dL_law_1384 : decode cL_law 1384 = .ok (.aload_n 0, 1) := by decide +kernel
theorem dL_law_1385 : decode cL_law 1385 = .ok (.iload 4, 2) := by decide +kernel
theorem dL_law_1387 : decode cL_law 1387 = .ok (.iconst 1, 1) := by decide +kernel
theorem dL_law_1388 : decode cL_law 1388 = .ok (.iadd, 1) := by decide +kernel
theorem dL_law_1389 : decode cL_law 1389 = .ok (.iaload, 1) := by decide +kernel
theorem dL_law_1390 : decode cL_law 1390 = .ok (.aload_n 0, 1) := by decide +kernel
theorem dL_law_1391 : decode cL_law 1391 = .ok (.iload 4, 2) := by decide +kernel
theorem dL_law_1393 : decode cL_law 1393 = .ok (.iconst 2, 1) := by decide +kernel
theorem dL_law_1394 : decode cL_law 1394 = .ok (.iadd, 1) := by decide +kernel
theorem dL_law_1395 : decode cL_law 1395 = .ok (.iaload, 1) := by decide +kernel
theorem dL_law_1396 : decode cL_law 1396 = .ok (.aload_n 0, 1) := by decide +kernel
theorem dL_law_1397 : decode cL_law 1397 = .ok (.iload 4, 2) := by decide +kernel
theorem dL_law_1399 : decode cL_law 1399 = .ok (.iconst 3, 1) := by decide +kernel
theorem dL_law_1400 : decode cL_law 1400 = .ok (.iadd, 1) := by decide +kernel
theorem dL_law_1401 : decode cL_law 1401 = .ok (.iaload, 1) := by decide +kernel
theorem dL_law_1402 : decode cL_law 1402 = .ok (.invokevirtual 190, 3) := by decide +kernel
theorem dL_law_1405 : decode cL_law 1405 = .ok (.if_icmp .eq 244, 3) := by decide +kernel
theorem dL_law_1408 : decode cL_law 1408 = .ok (.iconst 0, 1) := by decide +kernel
theorem dL_law_1409 : decode cL_law 1409 = .ok (.ireturn, 1) := by decide +kernel
theorem dL_law_1410 : decode cL_law 1410 = .ok (.aload_n 1, 1) := by decide +kernel
theorem dL_law_1411 : decode cL_law 1411 = .ok (.aload_n 0, 1) := by decide +kernel
theorem dL_law_1412 : decode cL_law 1412 = .ok (.iload 4, 2) := by decide +kernel
theorem dL_law_1414 : decode cL_law 1414 = .ok (.iconst 1, 1) := by decide +kernel
theorem dL_law_1415 : decode cL_law 1415 = .ok (.iadd, 1) := by decide +kernel
theorem dL_law_1416 : decode cL_law 1416 = .ok (.iaload, 1) := by decide +kernel
theorem dL_law_1417 : decode cL_law 1417 = .ok (.aload_n 0, 1) := by decide +kernel
theorem dL_law_1418 : decode cL_law 1418 = .ok (.iload 4, 2) := by decide +kernel
theorem dL_law_1420 : decode cL_law 1420 = .ok (.iconst 2, 1) := by decide +kernel
theorem dL_law_1421 : decode cL_law 1421 = .ok (.iadd, 1) := by decide +kernel
theorem dL_law_1422 : decode cL_law 1422 = .ok (.iaload, 1) := by decide +kernel
theorem dL_law_1423 : decode cL_law 1423 = .ok (.aload_n 0, 1) := by decide +kernel
theorem dL_law_1424 : decode cL_law 1424 = .ok (.iload 4, 2) := by decide +kernel
theorem dL_law_1426 : decode cL_law 1426 = .ok (.iconst 3, 1) := by decide +kernel
theorem dL_law_1427 : decode cL_law 1427 = .ok (.iadd, 1) := by decide +kernel
theorem dL_law_1428 : decode cL_law 1428 = .ok (.iaload, 1) := by decide +kernel
theorem dL_law_1429 : decode cL_law 1429 = .ok (.invokevirtual 191, 3) := by decide +kernel
theorem dL_law_1432 : decode cL_law 1432 = .ok (.aload_n 2, 1) := by decide +kernel
theorem dL_law_1433 : decode cL_law 1433 = .ok (.aload_n 0, 1) := by decide +kernel
theorem dL_law_1434 : decode cL_law 1434 = .ok (.iload 4, 2) := by decide +kernel
theorem dL_law_1436 : decode cL_law 1436 = .ok (.iconst 1, 1) := by decide +kernel
theorem dL_law_1437 : decode cL_law 1437 = .ok (.iadd, 1) := by decide +kernel
theorem dL_law_1438 : decode cL_law 1438 = .ok (.iaload, 1) := by decide +kernel
theorem dL_law_1439 : decode cL_law 1439 = .ok (.aload_n 0, 1) := by decide +kernel
theorem dL_law_1440 : decode cL_law 1440 = .ok (.iload 4, 2) := by decide +kernel
theorem dL_law_1442 : decode cL_law 1442 = .ok (.iconst 2, 1) := by decide +kernel
theorem dL_law_1443 : decode cL_law 1443 = .ok (.iadd, 1) := by decide +kernel
theorem dL_law_1444 : decode cL_law 1444 = .ok (.iaload, 1) := by decide +kernel
theorem dL_law_1445 : decode cL_law 1445 = .ok (.aload_n 0, 1) := by decide +kernel
theorem dL_law_1446 : decode cL_law 1446 = .ok (.iload 4, 2) := by decide +kernel
theorem dL_law_1448 : decode cL_law 1448 = .ok (.iconst 3, 1) := by decide +kernel
theorem dL_law_1449 : decode cL_law 1449 = .ok (.iadd, 1) := by decide +kernel
theorem dL_law_1450 : decode cL_law 1450 = .ok (.iaload, 1) := by decide +kernel
