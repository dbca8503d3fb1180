theorem dX0_init_0 : decode cX0_init 0 = .ok (.aload_n 0, 1) := by decide +kernel
theorem dX0_init_1 : decode cX0_init 1 = .ok (.invokespecial 3, 3) := by decide +kernel
theorem dX0_init_4 : decode cX0_init 4 = .ok (.aload_n 0, 1) := by decide +kernel
theorem dX0_init_5 : decode cX0_init 5 = .ok (.iconst 1, 1) := by decide +kernel
theorem dX0_init_6 : decode cX0_init 6 = .ok (.putfield 9, 3) := by decide +kernel
theorem dX0_init_9 : decode cX0_init 9 = .ok (.aload_n 0, 1) := by decide +kernel
theorem dX0_init_10 : decode cX0_init 10 = .ok (.iconst 3, 1) := by decide +kernel
theorem dX0_init_11 : decode cX0_init 11 = .ok (.bipush 10, 2) := by decide +kernel
theorem dX0_init_13 : decode cX0_init 13 = .ok (.multianewarray 15 2, 4) := by decide +kernel
theorem dX0_init_17 : decode cX0_init 17 = .ok (.putfield 17, 3) := by decide +kernel
theorem dX0_init_20 : decode cX0_init 20 = .ok (.aload_n 0, 1) := by decide +kernel
theorem dX0_init_21 : decode cX0_init 21 = .ok (.iconst 3, 1) := by decide +kernel
theorem dX0_init_22 : decode cX0_init 22 = .ok (.newarray .int, 2) := by decide +kernel
theorem dX0_init_24 : decode cX0_init 24 = .ok (.putfield 20, 3) := by decide +kernel
theorem dX0_init_27 : decode cX0_init 27 = .ok (.aload_n 0, 1) := by decide +kernel
theorem dX0_init_28 : decode cX0_init 28 = .ok (.bipush 10, 2) := by decide +kernel
theorem dX0_init_30 : decode cX0_init 30 = .ok (.newarray .int, 2) := by decide +kernel
theorem dX0_init_32 : decode cX0_init 32 = .ok (.putfield 24, 3) := by decide +kernel
theorem dX0_init_35 : decode cX0_init 35 = .ok (.return_, 1) := by decide +kernel
theorem dX0_clear_0 : decode cX0_clear 0 = .ok (.aload_n 0, 1) := by decide +kernel
theorem dX0_clear_1 : decode cX0_clear 1 = .ok (.iconst 1, 1) := by decide +kernel
theorem dX0_clear_2 : decode cX0_clear 2 = .ok (.iload_n 1, 1) := by decide +kernel
theorem dX0_clear_3 : decode cX0_clear 3 = .ok (.iconst 3, 1) := by decide +kernel
theorem dX0_clear_4 : decode cX0_clear 4 = .ok (.invokestatic 27, 3) := by decide +kernel
theorem dX0_clear_7 : decode cX0_clear 7 = .ok (.invokestatic 33, 3) := by decide +kernel
theorem dX0_clear_10 : decode cX0_clear 10 = .ok (.putfield 9, 3) := by decide +kernel
theorem dX0_clear_13 : decode cX0_clear 13 = .ok (.iconst 0, 1) := by decide +kernel
theorem dX0_clear_14 : decode cX0_clear 14 = .ok (.istore_n 2, 1) := by decide +kernel
theorem dX0_clear_15 : decode cX0_clear 15 = .ok (.iload_n 2, 1) := by decide +kernel
theorem dX0_clear_16 : decode cX0_clear 16 = .ok (.iconst 3, 1) := by decide +kernel
theorem dX0_clear_17 : decode cX0_clear 17 = .ok (.if_icmp .ge 16, 3) := by decide +kernel
theorem dX0_clear_20 : decode cX0_clear 20 = .ok (.aload_n 0, 1) := by decide +kernel
theorem dX0_clear_21 : decode cX0_clear 21 = .ok (.getfield 20, 3) := by decide +kernel
theorem dX0_clear_24 : decode cX0_clear 24 = .ok (.iload_n 2, 1) := by decide +kernel
theorem dX0_clear_25 : decode cX0_clear 25 = .ok (.iconst 0, 1) := by decide +kernel
theorem dX0_clear_26 : decode cX0_clear 26 = .ok (.iastore, 1) := by decide +kernel
theorem dX0_clear_27 : decode cX0_clear 27 = .ok (.iinc 2 1, 3) := by decide +kernel
theorem dX0_clear_30 : decode cX0_clear 30 = .ok (.goto (-15), 3) := by decide +kernel
theorem dX0_clear_33 : decode cX0_clear 33 = .ok (.iconst 0, 1) := by decide +kernel
theorem dX0_clear_34 : decode cX0_clear 34 = .ok (.istore_n 2, 1) := by decide +kernel
theorem dX0_clear_35 : decode cX0_clear 35 = .ok (.iload_n 2, 1) := by decide +kernel
theorem dX0_clear_36 : decode cX0_clear 36 = .ok (.bipush 10, 2) := by decide +kernel
theorem dX0_clear_38 : decode cX0_clear 38 = .ok (.if_icmp .ge 16, 3) := by decide +kernel
theorem dX0_clear_41 : decode cX0_clear 41 = .ok (.aload_n 0, 1) := by decide +kernel
theorem dX0_clear_42 : decode cX0_clear 42 = .ok (.getfield 24, 3) := by decide +kernel
theorem dX0_clear_45 : decode cX0_clear 45 = .ok (.iload_n 2, 1) := by decide +kernel
theorem dX0_clear_46 : decode cX0_clear 46 = .ok (.iconst (-1), 1) := by decide +kernel
theorem dX0_clear_47 : decode cX0_clear 47 = .ok (.iastore, 1) := by decide +kernel
theorem dX0_clear_48 : decode cX0_clear 48 = .ok (.iinc 2 1, 3) := by decide +kernel
theorem dX0_clear_51 : decode cX0_clear 51 = .ok (.goto (-16), 3) := by decide +kernel
theorem dX0_clear_54 : decode cX0_clear 54 = .ok (.return_, 1) := by decide +kernel
theorem dX0_isOnHeap_0 : decode cX0_isOnHeap 0 = .ok (.aload_n 0, 1) := by decide +kernel
theorem dX0_isOnHeap_1 : decode cX0_isOnHeap 1 = .ok (.getfield 24, 3) := by decide +kernel
theorem dX0_isOnHeap_4 : decode cX0_isOnHeap 4 = .ok (.iload_n 1, 1) := by decide +kernel
theorem dX0_isOnHeap_5 : decode cX0_isOnHeap 5 = .ok (.iaload, 1) := by decide +kernel
theorem dX0_isOnHeap_6 : decode cX0_isOnHeap 6 = .ok (.invokestatic 36, 3) := by decide +kernel
theorem dX0_isOnHeap_9 : decode cX0_isOnHeap 9 = .ok (.ireturn, 1) := by decide +kernel
theorem dX0_isFree_0 : decode cX0_isFree 0 = .ok (.aload_n 0, 1) := by decide +kernel
theorem dX0_isFree_1 : decode cX0_isFree 1 = .ok (.getfield 24, 3) := by decide +kernel
theorem dX0_isFree_4 : decode cX0_isFree 4 = .ok (.iload_n 1, 1) := by decide +kernel
theorem dX0_isFree_5 : decode cX0_isFree 5 = .ok (.iaload, 1) := by decide +kernel
theorem dX0_isFree_6 : decode cX0_isFree 6 = .ok (.bipush 9, 2) := by decide +kernel
theorem dX0_isFree_8 : decode cX0_isFree 8 = .ok (.if_icmp .eq 14, 3) := by decide +kernel
theorem dX0_isFree_11 : decode cX0_isFree 11 = .ok (.aload_n 0, 1) := by decide +kernel
theorem dX0_isFree_12 : decode cX0_isFree 12 = .ok (.getfield 24, 3) := by decide +kernel
theorem dX0_isFree_15 : decode cX0_isFree 15 = .ok (.iload_n 1, 1) := by decide +kernel
theorem dX0_isFree_16 : decode cX0_isFree 16 = .ok (.iaload, 1) := by decide +kernel
theorem dX0_isFree_17 : decode cX0_isFree 17 = .ok (.bipush (-4), 2) := by decide +kernel
theorem dX0_isFree_19 : decode cX0_isFree 19 = .ok (.if_icmp .ne 7, 3) := by decide +kernel
theorem dX0_isFree_22 : decode cX0_isFree 22 = .ok (.iconst 1, 1) := by decide +kernel
theorem dX0_isFree_23 : decode cX0_isFree 23 = .ok (.goto 4, 3) := by decide +kernel
theorem dX0_isFree_26 : decode cX0_isFree 26 = .ok (.iconst 0, 1) := by decide +kernel
theorem dX0_isFree_27 : decode cX0_isFree 27 = .ok (.ireturn, 1) := by decide +kernel
theorem dX0_lay_0 : decode cX0_lay 0 = .ok (.aload_n 0, 1) := by decide +kernel
theorem dX0_lay_1 : decode cX0_lay 1 = .ok (.getfield 20, 3) := by decide +kernel
theorem dX0_lay_4 : decode cX0_lay 4 = .ok (.iload_n 1, 1) := by decide +kernel
theorem dX0_lay_5 : decode cX0_lay 5 = .ok (.iaload, 1) := by decide +kernel
theorem dX0_lay_6 : decode cX0_lay 6 = .ok (.bipush 10, 2) := by decide +kernel
theorem dX0_lay_8 : decode cX0_lay 8 = .ok (.if_icmp .ge 34, 3) := by decide +kernel
theorem dX0_lay_11 : decode cX0_lay 11 = .ok (.aload_n 0, 1) := by decide +kernel
theorem dX0_lay_12 : decode cX0_lay 12 = .ok (.getfield 17, 3) := by decide +kernel
theorem dX0_lay_15 : decode cX0_lay 15 = .ok (.iload_n 1, 1) := by decide +kernel
theorem dX0_lay_16 : decode cX0_lay 16 = .ok (.aaload, 1) := by decide +kernel
theorem dX0_lay_17 : decode cX0_lay 17 = .ok (.aload_n 0, 1) := by decide +kernel
theorem dX0_lay_18 : decode cX0_lay 18 = .ok (.getfield 20, 3) := by decide +kernel
theorem dX0_lay_21 : decode cX0_lay 21 = .ok (.iload_n 1, 1) := by decide +kernel
theorem dX0_lay_22 : decode cX0_lay 22 = .ok (.iaload, 1) := by decide +kernel
theorem dX0_lay_23 : decode cX0_lay 23 = .ok (.iload_n 2, 1) := by decide +kernel
theorem dX0_lay_24 : decode cX0_lay 24 = .ok (.iastore, 1) := by decide +kernel
theorem dX0_lay_25 : decode cX0_lay 25 = .ok (.aload_n 0, 1) := by decide +kernel
theorem dX0_lay_26 : decode cX0_lay 26 = .ok (.getfield 20, 3) := by decide +kernel
theorem dX0_lay_29 : decode cX0_lay 29 = .ok (.iload_n 1, 1) := by decide +kernel
theorem dX0_lay_30 : decode cX0_lay 30 = .ok (.dup2, 1) := by decide +kernel
theorem dX0_lay_31 : decode cX0_lay 31 = .ok (.iaload, 1) := by decide +kernel
theorem dX0_lay_32 : decode cX0_lay 32 = .ok (.iconst 1, 1) := by decide +kernel
theorem dX0_lay_33 : decode cX0_lay 33 = .ok (.iadd, 1) := by decide +kernel
theorem dX0_lay_34 : decode cX0_lay 34 = .ok (.iastore, 1) := by decide +kernel
theorem dX0_lay_35 : decode cX0_lay 35 = .ok (.aload_n 0, 1) := by decide +kernel
theorem dX0_lay_36 : decode cX0_lay 36 = .ok (.getfield 24, 3) := by decide +kernel
theorem dX0_lay_39 : decode cX0_lay 39 = .ok (.iload_n 2, 1) := by decide +kernel
theorem dX0_lay_40 : decode cX0_lay 40 = .ok (.iload_n 1, 1) := by decide +kernel
theorem dX0_lay_41 : decode cX0_lay 41 = .ok (.iastore, 1) := by decide +kernel
theorem dX0_lay_42 : decode cX0_lay 42 = .ok (.return_, 1) := by decide +kernel
theorem dX0_coatAt_0 : decode cX0_coatAt 0 = .ok (.iload_n 2, 1) := by decide +kernel
theorem dX0_coatAt_1 : decode cX0_coatAt 1 = .ok (.ifCond .lt 24, 3) := by decide +kernel
theorem dX0_coatAt_4 : decode cX0_coatAt 4 = .ok (.iload_n 2, 1) := by decide +kernel
theorem dX0_coatAt_5 : decode cX0_coatAt 5 = .ok (.aload_n 0, 1) := by decide +kernel
theorem dX0_coatAt_6 : decode cX0_coatAt 6 = .ok (.getfield 20, 3) := by decide +kernel
theorem dX0_coatAt_9 : decode cX0_coatAt 9 = .ok (.iload_n 1, 1) := by decide +kernel
theorem dX0_coatAt_10 : decode cX0_coatAt 10 = .ok (.iaload, 1) := by decide +kernel
theorem dX0_coatAt_11 : decode cX0_coatAt 11 = .ok (.if_icmp .ge 14, 3) := by decide +kernel
theorem dX0_coatAt_14 : decode cX0_coatAt 14 = .ok (.aload_n 0, 1) := by decide +kernel
theorem dX0_coatAt_15 : decode cX0_coatAt 15 = .ok (.getfield 17, 3) := by decide +kernel
theorem dX0_coatAt_18 : decode cX0_coatAt 18 = .ok (.iload_n 1, 1) := by decide +kernel
theorem dX0_coatAt_19 : decode cX0_coatAt 19 = .ok (.aaload, 1) := by decide +kernel
theorem dX0_coatAt_20 : decode cX0_coatAt 20 = .ok (.iload_n 2, 1) := by decide +kernel
theorem dX0_coatAt_21 : decode cX0_coatAt 21 = .ok (.iaload, 1) := by decide +kernel
theorem dX0_coatAt_22 : decode cX0_coatAt 22 = .ok (.goto 5, 3) := by decide +kernel
theorem dX0_coatAt_25 : decode cX0_coatAt 25 = .ok (.bipush (-4), 2) := by decide +kernel
theorem dX0_coatAt_27 : decode cX0_coatAt 27 = .ok (.ireturn, 1) := by decide +kernel
theorem dX0_topOf_0 : decode cX0_topOf 0 = .ok (.aload_n 0, 1) := by decide +kernel
theorem dX0_topOf_1 : decode cX0_topOf 1 = .ok (.getfield 20, 3) := by decide +kernel
theorem dX0_topOf_4 : decode cX0_topOf 4 = .ok (.iload_n 1, 1) := by decide +kernel
theorem dX0_topOf_5 : decode cX0_topOf 5 = .ok (.iaload, 1) := by decide +kernel
theorem dX0_topOf_6 : decode cX0_topOf 6 = .ok (.ifCond .le 21, 3) := by decide +kernel
theorem dX0_topOf_9 : decode cX0_topOf 9 = .ok (.aload_n 0, 1) := by decide +kernel
theorem dX0_topOf_10 : decode cX0_topOf 10 = .ok (.getfield 17, 3) := by decide +kernel
theorem dX0_topOf_13 : decode cX0_topOf 13 = .ok (.iload_n 1, 1) := by decide +kernel
theorem dX0_topOf_14 : decode cX0_topOf 14 = .ok (.aaload, 1) := by decide +kernel
theorem dX0_topOf_15 : decode cX0_topOf 15 = .ok (.aload_n 0, 1) := by decide +kernel
theorem dX0_topOf_16 : decode cX0_topOf 16 = .ok (.getfield 20, 3) := by decide +kernel
theorem dX0_topOf_19 : decode cX0_topOf 19 = .ok (.iload_n 1, 1) := by decide +kernel
theorem dX0_topOf_20 : decode cX0_topOf 20 = .ok (.iaload, 1) := by decide +kernel
theorem dX0_topOf_21 : decode cX0_topOf 21 = .ok (.iconst 1, 1) := by decide +kernel
theorem dX0_topOf_22 : decode cX0_topOf 22 = .ok (.isub, 1) := by decide +kernel
theorem dX0_topOf_23 : decode cX0_topOf 23 = .ok (.iaload, 1) := by decide +kernel
theorem dX0_topOf_24 : decode cX0_topOf 24 = .ok (.goto 5, 3) := by decide +kernel
theorem dX0_topOf_27 : decode cX0_topOf 27 = .ok (.bipush (-4), 2) := by decide +kernel
theorem dX0_topOf_29 : decode cX0_topOf 29 = .ok (.ireturn, 1) := by decide +kernel
theorem dX0_coatsAbove_0 : decode cX0_coatsAbove 0 = .ok (.aload_n 0, 1) := by decide +kernel
theorem dX0_coatsAbove_1 : decode cX0_coatsAbove 1 = .ok (.iload_n 1, 1) := by decide +kernel
theorem dX0_coatsAbove_2 : decode cX0_coatsAbove 2 = .ok (.invokevirtual 40, 3) := by decide +kernel
theorem dX0_coatsAbove_5 : decode cX0_coatsAbove 5 = .ok (.ifCond .ne 5, 3) := by decide +kernel
theorem dX0_coatsAbove_8 : decode cX0_coatsAbove 8 = .ok (.iconst 0, 1) := by decide +kernel
theorem dX0_coatsAbove_9 : decode cX0_coatsAbove 9 = .ok (.ireturn, 1) := by decide +kernel
theorem dX0_coatsAbove_10 : decode cX0_coatsAbove 10 = .ok (.aload_n 0, 1) := by decide +kernel
theorem dX0_coatsAbove_11 : decode cX0_coatsAbove 11 = .ok (.getfield 24, 3) := by decide +kernel
theorem dX0_coatsAbove_14 : decode cX0_coatsAbove 14 = .ok (.iload_n 1, 1) := by decide +kernel
theorem dX0_coatsAbove_15 : decode cX0_coatsAbove 15 = .ok (.iaload, 1) := by decide +kernel
theorem dX0_coatsAbove_16 : decode cX0_coatsAbove 16 = .ok (.istore_n 2, 1) := by decide +kernel
theorem dX0_coatsAbove_17 : decode cX0_coatsAbove 17 = .ok (.iconst 0, 1) := by decide +kernel
theorem dX0_coatsAbove_18 : decode cX0_coatsAbove 18 = .ok (.istore_n 3, 1) := by decide +kernel
theorem dX0_coatsAbove_19 : decode cX0_coatsAbove 19 = .ok (.aload_n 0, 1) := by decide +kernel
theorem dX0_coatsAbove_20 : decode cX0_coatsAbove 20 = .ok (.getfield 20, 3) := by decide +kernel
theorem dX0_coatsAbove_23 : decode cX0_coatsAbove 23 = .ok (.iload_n 2, 1) := by decide +kernel
theorem dX0_coatsAbove_24 : decode cX0_coatsAbove 24 = .ok (.iaload, 1) := by decide +kernel
theorem dX0_coatsAbove_25 : decode cX0_coatsAbove 25 = .ok (.iconst 1, 1) := by decide +kernel
theorem dX0_coatsAbove_26 : decode cX0_coatsAbove 26 = .ok (.isub, 1) := by decide +kernel
theorem dX0_coatsAbove_27 : decode cX0_coatsAbove 27 = .ok (.istore 4, 2) := by decide +kernel
theorem dX0_coatsAbove_29 : decode cX0_coatsAbove 29 = .ok (.iload 4, 2) := by decide +kernel
theorem dX0_coatsAbove_31 : decode cX0_coatsAbove 31 = .ok (.ifCond .lt 25, 3) := by decide +kernel
theorem dX0_coatsAbove_34 : decode cX0_coatsAbove 34 = .ok (.aload_n 0, 1) := by decide +kernel
theorem dX0_coatsAbove_35 : decode cX0_coatsAbove 35 = .ok (.getfield 17, 3) := by decide +kernel
theorem dX0_coatsAbove_38 : decode cX0_coatsAbove 38 = .ok (.iload_n 2, 1) := by decide +kernel
theorem dX0_coatsAbove_39 : decode cX0_coatsAbove 39 = .ok (.aaload, 1) := by decide +kernel
theorem dX0_coatsAbove_40 : decode cX0_coatsAbove 40 = .ok (.iload 4, 2) := by decide +kernel
theorem dX0_coatsAbove_42 : decode cX0_coatsAbove 42 = .ok (.iaload, 1) := by decide +kernel
theorem dX0_coatsAbove_43 : decode cX0_coatsAbove 43 = .ok (.iload_n 1, 1) := by decide +kernel
theorem dX0_coatsAbove_44 : decode cX0_coatsAbove 44 = .ok (.if_icmp .eq 12, 3) := by decide +kernel
theorem dX0_coatsAbove_47 : decode cX0_coatsAbove 47 = .ok (.iinc 3 1, 3) := by decide +kernel
theorem dX0_coatsAbove_50 : decode cX0_coatsAbove 50 = .ok (.iinc 4 (-1), 3) := by decide +kernel
theorem dX0_coatsAbove_53 : decode cX0_coatsAbove 53 = .ok (.goto (-24), 3) := by decide +kernel
theorem dX0_coatsAbove_56 : decode cX0_coatsAbove 56 = .ok (.iload_n 3, 1) := by decide +kernel
theorem dX0_coatsAbove_57 : decode cX0_coatsAbove 57 = .ok (.ireturn, 1) := by decide +kernel
theorem dX0_takeOut_0 : decode cX0_takeOut 0 = .ok (.aload_n 0, 1) := by decide +kernel
theorem dX0_takeOut_1 : decode cX0_takeOut 1 = .ok (.getfield 24, 3) := by decide +kernel
theorem dX0_takeOut_4 : decode cX0_takeOut 4 = .ok (.aload_n 0, 1) := by decide +kernel
theorem dX0_takeOut_5 : decode cX0_takeOut 5 = .ok (.getfield 17, 3) := by decide +kernel
theorem dX0_takeOut_8 : decode cX0_takeOut 8 = .ok (.iload_n 1, 1) := by decide +kernel
theorem dX0_takeOut_9 : decode cX0_takeOut 9 = .ok (.aaload, 1) := by decide +kernel
theorem dX0_takeOut_10 : decode cX0_takeOut 10 = .ok (.iload_n 2, 1) := by decide +kernel
theorem dX0_takeOut_11 : decode cX0_takeOut 11 = .ok (.iaload, 1) := by decide +kernel
theorem dX0_takeOut_12 : decode cX0_takeOut 12 = .ok (.iconst (-1), 1) := by decide +kernel
theorem dX0_takeOut_13 : decode cX0_takeOut 13 = .ok (.iastore, 1) := by decide +kernel
theorem dX0_takeOut_14 : decode cX0_takeOut 14 = .ok (.aload_n 0, 1) := by decide +kernel
theorem dX0_takeOut_15 : decode cX0_takeOut 15 = .ok (.getfield 20, 3) := by decide +kernel
theorem dX0_takeOut_18 : decode cX0_takeOut 18 = .ok (.iload_n 1, 1) := by decide +kernel
theorem dX0_takeOut_19 : decode cX0_takeOut 19 = .ok (.dup2, 1) := by decide +kernel
theorem dX0_takeOut_20 : decode cX0_takeOut 20 = .ok (.iaload, 1) := by decide +kernel
theorem dX0_takeOut_21 : decode cX0_takeOut 21 = .ok (.iconst 1, 1) := by decide +kernel
theorem dX0_takeOut_22 : decode cX0_takeOut 22 = .ok (.isub, 1) := by decide +kernel
theorem dX0_takeOut_23 : decode cX0_takeOut 23 = .ok (.iastore, 1) := by decide +kernel
theorem dX0_takeOut_24 : decode cX0_takeOut 24 = .ok (.iload_n 2, 1) := by decide +kernel
theorem dX0_takeOut_25 : decode cX0_takeOut 25 = .ok (.istore_n 3, 1) := by decide +kernel
theorem dX0_takeOut_26 : decode cX0_takeOut 26 = .ok (.iload_n 3, 1) := by decide +kernel
theorem dX0_takeOut_27 : decode cX0_takeOut 27 = .ok (.aload_n 0, 1) := by decide +kernel
theorem dX0_takeOut_28 : decode cX0_takeOut 28 = .ok (.getfield 20, 3) := by decide +kernel
theorem dX0_takeOut_31 : decode cX0_takeOut 31 = .ok (.iload_n 1, 1) := by decide +kernel
theorem dX0_takeOut_32 : decode cX0_takeOut 32 = .ok (.iaload, 1) := by decide +kernel
theorem dX0_takeOut_33 : decode cX0_takeOut 33 = .ok (.if_icmp .ge 27, 3) := by decide +kernel
theorem dX0_takeOut_36 : decode cX0_takeOut 36 = .ok (.aload_n 0, 1) := by decide +kernel
theorem dX0_takeOut_37 : decode cX0_takeOut 37 = .ok (.getfield 17, 3) := by decide +kernel
theorem dX0_takeOut_40 : decode cX0_takeOut 40 = .ok (.iload_n 1, 1) := by decide +kernel
theorem dX0_takeOut_41 : decode cX0_takeOut 41 = .ok (.aaload, 1) := by decide +kernel
theorem dX0_takeOut_42 : decode cX0_takeOut 42 = .ok (.iload_n 3, 1) := by decide +kernel
theorem dX0_takeOut_43 : decode cX0_takeOut 43 = .ok (.aload_n 0, 1) := by decide +kernel
theorem dX0_takeOut_44 : decode cX0_takeOut 44 = .ok (.getfield 17, 3) := by decide +kernel
theorem dX0_takeOut_47 : decode cX0_takeOut 47 = .ok (.iload_n 1, 1) := by decide +kernel
theorem dX0_takeOut_48 : decode cX0_takeOut 48 = .ok (.aaload, 1) := by decide +kernel
theorem dX0_takeOut_49 : decode cX0_takeOut 49 = .ok (.iload_n 3, 1) := by decide +kernel
theorem dX0_takeOut_50 : decode cX0_takeOut 50 = .ok (.iconst 1, 1) := by decide +kernel
theorem dX0_takeOut_51 : decode cX0_takeOut 51 = .ok (.iadd, 1) := by decide +kernel
theorem dX0_takeOut_52 : decode cX0_takeOut 52 = .ok (.iaload, 1) := by decide +kernel
theorem dX0_takeOut_53 : decode cX0_takeOut 53 = .ok (.iastore, 1) := by decide +kernel
theorem dX0_takeOut_54 : decode cX0_takeOut 54 = .ok (.iinc 3 1, 3) := by decide +kernel
theorem dX0_takeOut_57 : decode cX0_takeOut 57 = .ok (.goto (-31), 3) := by decide +kernel
theorem dX0_takeOut_60 : decode cX0_takeOut 60 = .ok (.return_, 1) := by decide +kernel
theorem dX0_turnFrom_0 : decode cX0_turnFrom 0 = .ok (.iload_n 2, 1) := by decide +kernel
theorem dX0_turnFrom_1 : decode cX0_turnFrom 1 = .ok (.istore_n 3, 1) := by decide +kernel
theorem dX0_turnFrom_2 : decode cX0_turnFrom 2 = .ok (.aload_n 0, 1) := by decide +kernel
theorem dX0_turnFrom_3 : decode cX0_turnFrom 3 = .ok (.getfield 20, 3) := by decide +kernel
theorem dX0_turnFrom_6 : decode cX0_turnFrom 6 = .ok (.iload_n 1, 1) := by decide +kernel
theorem dX0_turnFrom_7 : decode cX0_turnFrom 7 = .ok (.iaload, 1) := by decide +kernel
theorem dX0_turnFrom_8 : decode cX0_turnFrom 8 = .ok (.iconst 1, 1) := by decide +kernel
theorem dX0_turnFrom_9 : decode cX0_turnFrom 9 = .ok (.isub, 1) := by decide +kernel
theorem dX0_turnFrom_10 : decode cX0_turnFrom 10 = .ok (.istore 4, 2) := by decide +kernel
theorem dX0_turnFrom_12 : decode cX0_turnFrom 12 = .ok (.iload 4, 2) := by decide +kernel
theorem dX0_turnFrom_14 : decode cX0_turnFrom 14 = .ok (.iload_n 3, 1) := by decide +kernel
theorem dX0_turnFrom_15 : decode cX0_turnFrom 15 = .ok (.if_icmp .le 50, 3) := by decide +kernel
theorem dX0_turnFrom_18 : decode cX0_turnFrom 18 = .ok (.aload_n 0, 1) := by decide +kernel
theorem dX0_turnFrom_19 : decode cX0_turnFrom 19 = .ok (.getfield 17, 3) := by decide +kernel
theorem dX0_turnFrom_22 : decode cX0_turnFrom 22 = .ok (.iload_n 1, 1) := by decide +kernel
theorem dX0_turnFrom_23 : decode cX0_turnFrom 23 = .ok (.aaload, 1) := by decide +kernel
theorem dX0_turnFrom_24 : decode cX0_turnFrom 24 = .ok (.iload_n 3, 1) := by decide +kernel
theorem dX0_turnFrom_25 : decode cX0_turnFrom 25 = .ok (.iaload, 1) := by decide +kernel
theorem dX0_turnFrom_26 : decode cX0_turnFrom 26 = .ok (.istore 5, 2) := by decide +kernel
theorem dX0_turnFrom_28 : decode cX0_turnFrom 28 = .ok (.aload_n 0, 1) := by decide +kernel
theorem dX0_turnFrom_29 : decode cX0_turnFrom 29 = .ok (.getfield 17, 3) := by decide +kernel
theorem dX0_turnFrom_32 : decode cX0_turnFrom 32 = .ok (.iload_n 1, 1) := by decide +kernel
theorem dX0_turnFrom_33 : decode cX0_turnFrom 33 = .ok (.aaload, 1) := by decide +kernel
theorem dX0_turnFrom_34 : decode cX0_turnFrom 34 = .ok (.iload_n 3, 1) := by decide +kernel
theorem dX0_turnFrom_35 : decode cX0_turnFrom 35 = .ok (.aload_n 0, 1) := by decide +kernel
theorem dX0_turnFrom_36 : decode cX0_turnFrom 36 = .ok (.getfield 17, 3) := by decide +kernel
theorem dX0_turnFrom_39 : decode cX0_turnFrom 39 = .ok (.iload_n 1, 1) := by decide +kernel
theorem dX0_turnFrom_40 : decode cX0_turnFrom 40 = .ok (.aaload, 1) := by decide +kernel
theorem dX0_turnFrom_41 : decode cX0_turnFrom 41 = .ok (.iload 4, 2) := by decide +kernel
theorem dX0_turnFrom_43 : decode cX0_turnFrom 43 = .ok (.iaload, 1) := by decide +kernel
theorem dX0_turnFrom_44 : decode cX0_turnFrom 44 = .ok (.iastore, 1) := by decide +kernel
theorem dX0_turnFrom_45 : decode cX0_turnFrom 45 = .ok (.aload_n 0, 1) := by decide +kernel
theorem dX0_turnFrom_46 : decode cX0_turnFrom 46 = .ok (.getfield 17, 3) := by decide +kernel
theorem dX0_turnFrom_49 : decode cX0_turnFrom 49 = .ok (.iload_n 1, 1) := by decide +kernel
theorem dX0_turnFrom_50 : decode cX0_turnFrom 50 = .ok (.aaload, 1) := by decide +kernel
theorem dX0_turnFrom_51 : decode cX0_turnFrom 51 = .ok (.iload 4, 2) := by decide +kernel
theorem dX0_turnFrom_53 : decode cX0_turnFrom 53 = .ok (.iload 5, 2) := by decide +kernel
theorem dX0_turnFrom_55 : decode cX0_turnFrom 55 = .ok (.iastore, 1) := by decide +kernel
theorem dX0_turnFrom_56 : decode cX0_turnFrom 56 = .ok (.iinc 3 1, 3) := by decide +kernel
theorem dX0_turnFrom_59 : decode cX0_turnFrom 59 = .ok (.iinc 4 (-1), 3) := by decide +kernel
theorem dX0_turnFrom_62 : decode cX0_turnFrom 62 = .ok (.goto (-50), 3) := by decide +kernel
theorem dX0_turnFrom_65 : decode cX0_turnFrom 65 = .ok (.return_, 1) := by decide +kernel
theorem dX0_moveFrom_0 : decode cX0_moveFrom 0 = .ok (.iload_n 1, 1) := by decide +kernel
theorem dX0_moveFrom_1 : decode cX0_moveFrom 1 = .ok (.iconst 1, 1) := by decide +kernel
theorem dX0_moveFrom_2 : decode cX0_moveFrom 2 = .ok (.iadd, 1) := by decide +kernel
theorem dX0_moveFrom_3 : decode cX0_moveFrom 3 = .ok (.aload_n 0, 1) := by decide +kernel
theorem dX0_moveFrom_4 : decode cX0_moveFrom 4 = .ok (.getfield 9, 3) := by decide +kernel
theorem dX0_moveFrom_7 : decode cX0_moveFrom 7 = .ok (.if_icmp .ge 9, 3) := by decide +kernel
theorem dX0_moveFrom_10 : decode cX0_moveFrom 10 = .ok (.iload_n 1, 1) := by decide +kernel
theorem dX0_moveFrom_11 : decode cX0_moveFrom 11 = .ok (.iconst 1, 1) := by decide +kernel
theorem dX0_moveFrom_12 : decode cX0_moveFrom 12 = .ok (.iadd, 1) := by decide +kernel
theorem dX0_moveFrom_13 : decode cX0_moveFrom 13 = .ok (.goto 4, 3) := by decide +kernel
theorem dX0_moveFrom_16 : decode cX0_moveFrom 16 = .ok (.iconst 0, 1) := by decide +kernel
theorem dX0_moveFrom_17 : decode cX0_moveFrom 17 = .ok (.istore_n 3, 1) := by decide +kernel
theorem dX0_moveFrom_18 : decode cX0_moveFrom 18 = .ok (.aload_n 0, 1) := by decide +kernel
theorem dX0_moveFrom_19 : decode cX0_moveFrom 19 = .ok (.getfield 20, 3) := by decide +kernel
theorem dX0_moveFrom_22 : decode cX0_moveFrom 22 = .ok (.iload_n 1, 1) := by decide +kernel
theorem dX0_moveFrom_23 : decode cX0_moveFrom 23 = .ok (.iaload, 1) := by decide +kernel
theorem dX0_moveFrom_24 : decode cX0_moveFrom 24 = .ok (.iconst 1, 1) := by decide +kernel
theorem dX0_moveFrom_25 : decode cX0_moveFrom 25 = .ok (.isub, 1) := by decide +kernel
theorem dX0_moveFrom_26 : decode cX0_moveFrom 26 = .ok (.istore 4, 2) := by decide +kernel
theorem dX0_moveFrom_28 : decode cX0_moveFrom 28 = .ok (.iload 4, 2) := by decide +kernel
theorem dX0_moveFrom_30 : decode cX0_moveFrom 30 = .ok (.iload_n 2, 1) := by decide +kernel
theorem dX0_moveFrom_31 : decode cX0_moveFrom 31 = .ok (.if_icmp .lt 31, 3) := by decide +kernel
theorem dX0_moveFrom_34 : decode cX0_moveFrom 34 = .ok (.aload_n 0, 1) := by decide +kernel
theorem dX0_moveFrom_35 : decode cX0_moveFrom 35 = .ok (.getfield 20, 3) := by decide +kernel
theorem dX0_moveFrom_38 : decode cX0_moveFrom 38 = .ok (.iload_n 1, 1) := by decide +kernel
theorem dX0_moveFrom_39 : decode cX0_moveFrom 39 = .ok (.iload 4, 2) := by decide +kernel
theorem dX0_moveFrom_41 : decode cX0_moveFrom 41 = .ok (.iastore, 1) := by decide +kernel
theorem dX0_moveFrom_42 : decode cX0_moveFrom 42 = .ok (.aload_n 0, 1) := by decide +kernel
theorem dX0_moveFrom_43 : decode cX0_moveFrom 43 = .ok (.iload_n 3, 1) := by decide +kernel
theorem dX0_moveFrom_44 : decode cX0_moveFrom 44 = .ok (.aload_n 0, 1) := by decide +kernel
theorem dX0_moveFrom_45 : decode cX0_moveFrom 45 = .ok (.getfield 17, 3) := by decide +kernel
theorem dX0_moveFrom_48 : decode cX0_moveFrom 48 = .ok (.iload_n 1, 1) := by decide +kernel
theorem dX0_moveFrom_49 : decode cX0_moveFrom 49 = .ok (.aaload, 1) := by decide +kernel
theorem dX0_moveFrom_50 : decode cX0_moveFrom 50 = .ok (.iload 4, 2) := by decide +kernel
theorem dX0_moveFrom_52 : decode cX0_moveFrom 52 = .ok (.iaload, 1) := by decide +kernel
theorem dX0_moveFrom_53 : decode cX0_moveFrom 53 = .ok (.invokevirtual 43, 3) := by decide +kernel
theorem dX0_moveFrom_56 : decode cX0_moveFrom 56 = .ok (.iinc 4 (-1), 3) := by decide +kernel
theorem dX0_moveFrom_59 : decode cX0_moveFrom 59 = .ok (.goto (-31), 3) := by decide +kernel
theorem dX0_moveFrom_62 : decode cX0_moveFrom 62 = .ok (.return_, 1) := by decide +kernel
theorem dX0_giveIfFree_0 : decode cX0_giveIfFree 0 = .ok (.aload_n 0, 1) := by decide +kernel
theorem dX0_giveIfFree_1 : decode cX0_giveIfFree 1 = .ok (.iload_n 1, 1) := by decide +kernel
theorem dX0_giveIfFree_2 : decode cX0_giveIfFree 2 = .ok (.invokevirtual 47, 3) := by decide +kernel
theorem dX0_giveIfFree_5 : decode cX0_giveIfFree 5 = .ok (.ifCond .eq 12, 3) := by decide +kernel
theorem dX0_giveIfFree_8 : decode cX0_giveIfFree 8 = .ok (.aload_n 0, 1) := by decide +kernel
theorem dX0_giveIfFree_9 : decode cX0_giveIfFree 9 = .ok (.getfield 24, 3) := by decide +kernel
theorem dX0_giveIfFree_12 : decode cX0_giveIfFree 12 = .ok (.iload_n 1, 1) := by decide +kernel
theorem dX0_giveIfFree_13 : decode cX0_giveIfFree 13 = .ok (.iconst (-1), 1) := by decide +kernel
theorem dX0_giveIfFree_14 : decode cX0_giveIfFree 14 = .ok (.iastore, 1) := by decide +kernel
theorem dX0_giveIfFree_15 : decode cX0_giveIfFree 15 = .ok (.iconst 1, 1) := by decide +kernel
theorem dX0_giveIfFree_16 : decode cX0_giveIfFree 16 = .ok (.ireturn, 1) := by decide +kernel
theorem dX0_giveIfFree_17 : decode cX0_giveIfFree 17 = .ok (.aload_n 0, 1) := by decide +kernel
theorem dX0_giveIfFree_18 : decode cX0_giveIfFree 18 = .ok (.iload_n 1, 1) := by decide +kernel
theorem dX0_giveIfFree_19 : decode cX0_giveIfFree 19 = .ok (.invokevirtual 40, 3) := by decide +kernel
theorem dX0_giveIfFree_22 : decode cX0_giveIfFree 22 = .ok (.ifCond .eq 17, 3) := by decide +kernel
theorem dX0_giveIfFree_25 : decode cX0_giveIfFree 25 = .ok (.aload_n 0, 1) := by decide +kernel
theorem dX0_giveIfFree_26 : decode cX0_giveIfFree 26 = .ok (.aload_n 0, 1) := by decide +kernel
theorem dX0_giveIfFree_27 : decode cX0_giveIfFree 27 = .ok (.getfield 24, 3) := by decide +kernel
theorem dX0_giveIfFree_30 : decode cX0_giveIfFree 30 = .ok (.iload_n 1, 1) := by decide +kernel
theorem dX0_giveIfFree_31 : decode cX0_giveIfFree 31 = .ok (.iaload, 1) := by decide +kernel
theorem dX0_giveIfFree_32 : decode cX0_giveIfFree 32 = .ok (.invokevirtual 50, 3) := by decide +kernel
theorem dX0_giveIfFree_35 : decode cX0_giveIfFree 35 = .ok (.iload_n 1, 1) := by decide +kernel
theorem dX0_giveIfFree_36 : decode cX0_giveIfFree 36 = .ok (.if_icmp .eq 5, 3) := by decide +kernel
theorem dX0_giveIfFree_39 : decode cX0_giveIfFree 39 = .ok (.iconst 0, 1) := by decide +kernel
theorem dX0_giveIfFree_40 : decode cX0_giveIfFree 40 = .ok (.ireturn, 1) := by decide +kernel
theorem dX0_giveIfFree_41 : decode cX0_giveIfFree 41 = .ok (.aload_n 0, 1) := by decide +kernel
theorem dX0_giveIfFree_42 : decode cX0_giveIfFree 42 = .ok (.aload_n 0, 1) := by decide +kernel
theorem dX0_giveIfFree_43 : decode cX0_giveIfFree 43 = .ok (.getfield 24, 3) := by decide +kernel
theorem dX0_giveIfFree_46 : decode cX0_giveIfFree 46 = .ok (.iload_n 1, 1) := by decide +kernel
theorem dX0_giveIfFree_47 : decode cX0_giveIfFree 47 = .ok (.iaload, 1) := by decide +kernel
theorem dX0_giveIfFree_48 : decode cX0_giveIfFree 48 = .ok (.aload_n 0, 1) := by decide +kernel
theorem dX0_giveIfFree_49 : decode cX0_giveIfFree 49 = .ok (.getfield 20, 3) := by decide +kernel
theorem dX0_giveIfFree_52 : decode cX0_giveIfFree 52 = .ok (.aload_n 0, 1) := by decide +kernel
theorem dX0_giveIfFree_53 : decode cX0_giveIfFree 53 = .ok (.getfield 24, 3) := by decide +kernel
theorem dX0_giveIfFree_56 : decode cX0_giveIfFree 56 = .ok (.iload_n 1, 1) := by decide +kernel
theorem dX0_giveIfFree_57 : decode cX0_giveIfFree 57 = .ok (.iaload, 1) := by decide +kernel
theorem dX0_giveIfFree_58 : decode cX0_giveIfFree 58 = .ok (.iaload, 1) := by decide +kernel
theorem dX0_giveIfFree_59 : decode cX0_giveIfFree 59 = .ok (.iconst 1, 1) := by decide +kernel
theorem dX0_giveIfFree_60 : decode cX0_giveIfFree 60 = .ok (.isub, 1) := by decide +kernel
theorem dX0_giveIfFree_61 : decode cX0_giveIfFree 61 = .ok (.invokevirtual 54, 3) := by decide +kernel
theorem dX0_giveIfFree_64 : decode cX0_giveIfFree 64 = .ok (.iconst 1, 1) := by decide +kernel
theorem dX0_giveIfFree_65 : decode cX0_giveIfFree 65 = .ok (.ireturn, 1) := by decide +kernel
theorem dX1_isKind_0 : decode cX1_isKind 0 = .ok (.iload_n 0, 1) := by decide +kernel
theorem dX1_isKind_1 : decode cX1_isKind 1 = .ok (.ifCond .lt 13, 3) := by decide +kernel
theorem dX1_isKind_4 : decode cX1_isKind 4 = .ok (.iload_n 0, 1) := by decide +kernel
theorem dX1_isKind_5 : decode cX1_isKind 5 = .ok (.bipush 7, 2) := by decide +kernel
theorem dX1_isKind_7 : decode cX1_isKind 7 = .ok (.if_icmp .gt 7, 3) := by decide +kernel
theorem dX1_isKind_10 : decode cX1_isKind 10 = .ok (.iconst 1, 1) := by decide +kernel
theorem dX1_isKind_11 : decode cX1_isKind 11 = .ok (.goto 4, 3) := by decide +kernel
theorem dX1_isKind_14 : decode cX1_isKind 14 = .ok (.iconst 0, 1) := by decide +kernel
theorem dX1_isKind_15 : decode cX1_isKind 15 = .ok (.ireturn, 1) := by decide +kernel
theorem dX1_minute_0 : decode cX1_minute 0 = .ok (.iload_n 0, 1) := by decide +kernel
theorem dX1_minute_1 : decode cX1_minute 1 = .ok (.lookupswitch 38 #[(5, 27), (7, 35)], 27) := by decide +kernel
theorem dX1_minute_28 : decode cX1_minute 28 = .ok (.iconst 0, 1) := by decide +kernel
theorem dX1_minute_29 : decode cX1_minute 29 = .ok (.iload_n 2, 1) := by decide +kernel
theorem dX1_minute_30 : decode cX1_minute 30 = .ok (.iload_n 1, 1) := by decide +kernel
theorem dX1_minute_31 : decode cX1_minute 31 = .ok (.isub, 1) := by decide +kernel
theorem dX1_minute_32 : decode cX1_minute 32 = .ok (.invokestatic 11, 3) := by decide +kernel
theorem dX1_minute_35 : decode cX1_minute 35 = .ok (.ireturn, 1) := by decide +kernel
theorem dX1_minute_36 : decode cX1_minute 36 = .ok (.bipush 99, 2) := by decide +kernel
theorem dX1_minute_38 : decode cX1_minute 38 = .ok (.ireturn, 1) := by decide +kernel
theorem dX1_minute_39 : decode cX1_minute 39 = .ok (.iload_n 2, 1) := by decide +kernel
theorem dX1_minute_40 : decode cX1_minute 40 = .ok (.ireturn, 1) := by decide +kernel
theorem dX1_weight_0 : decode cX1_weight 0 = .ok (.iconst 1, 1) := by decide +kernel
theorem dX1_weight_1 : decode cX1_weight 1 = .ok (.iload_n 1, 1) := by decide +kernel
theorem dX1_weight_2 : decode cX1_weight 2 = .ok (.iconst 3, 1) := by decide +kernel
theorem dX1_weight_3 : decode cX1_weight 3 = .ok (.idiv, 1) := by decide +kernel
theorem dX1_weight_4 : decode cX1_weight 4 = .ok (.iadd, 1) := by decide +kernel
theorem dX1_weight_5 : decode cX1_weight 5 = .ok (.istore_n 2, 1) := by decide +kernel
theorem dX1_weight_6 : decode cX1_weight 6 = .ok (.iload_n 0, 1) := by decide +kernel
theorem dX1_weight_7 : decode cX1_weight 7 = .ok (.tableswitch 43 1 5 #[33, 35, 43, 37, 41], 33) := by decide +kernel
theorem dX1_weight_40 : decode cX1_weight 40 = .ok (.iconst 3, 1) := by decide +kernel
theorem dX1_weight_41 : decode cX1_weight 41 = .ok (.ireturn, 1) := by decide +kernel
theorem dX1_weight_42 : decode cX1_weight 42 = .ok (.iload_n 2, 1) := by decide +kernel
theorem dX1_weight_43 : decode cX1_weight 43 = .ok (.ireturn, 1) := by decide +kernel
theorem dX1_weight_44 : decode cX1_weight 44 = .ok (.iload_n 2, 1) := by decide +kernel
theorem dX1_weight_45 : decode cX1_weight 45 = .ok (.iconst 1, 1) := by decide +kernel
theorem dX1_weight_46 : decode cX1_weight 46 = .ok (.iadd, 1) := by decide +kernel
theorem dX1_weight_47 : decode cX1_weight 47 = .ok (.ireturn, 1) := by decide +kernel
theorem dX1_weight_48 : decode cX1_weight 48 = .ok (.iconst 0, 1) := by decide +kernel
theorem dX1_weight_49 : decode cX1_weight 49 = .ok (.ireturn, 1) := by decide +kernel
theorem dX1_weight_50 : decode cX1_weight 50 = .ok (.iconst 1, 1) := by decide +kernel
theorem dX1_weight_51 : decode cX1_weight 51 = .ok (.ireturn, 1) := by decide +kernel
theorem dX1_isBlack_0 : decode cX1_isBlack 0 = .ok (.iload_n 0, 1) := by decide +kernel
theorem dX1_isBlack_1 : decode cX1_isBlack 1 = .ok (.iconst 3, 1) := by decide +kernel
theorem dX1_isBlack_2 : decode cX1_isBlack 2 = .ok (.if_icmp .eq 9, 3) := by decide +kernel
theorem dX1_isBlack_5 : decode cX1_isBlack 5 = .ok (.iload_n 0, 1) := by decide +kernel
theorem dX1_isBlack_6 : decode cX1_isBlack 6 = .ok (.bipush 6, 2) := by decide +kernel
theorem dX1_isBlack_8 : decode cX1_isBlack 8 = .ok (.if_icmp .ne 7, 3) := by decide +kernel
theorem dX1_isBlack_11 : decode cX1_isBlack 11 = .ok (.iconst 1, 1) := by decide +kernel
theorem dX1_isBlack_12 : decode cX1_isBlack 12 = .ok (.goto 4, 3) := by decide +kernel
theorem dX1_isBlack_15 : decode cX1_isBlack 15 = .ok (.iconst 0, 1) := by decide +kernel
theorem dX1_isBlack_16 : decode cX1_isBlack 16 = .ok (.ireturn, 1) := by decide +kernel
theorem dX1_spare_0 : decode cX1_spare 0 = .ok (.iload_n 0, 1) := by decide +kernel
theorem dX1_spare_1 : decode cX1_spare 1 = .ok (.bipush 6, 2) := by decide +kernel
theorem dX1_spare_3 : decode cX1_spare 3 = .ok (.if_icmp .ne 7, 3) := by decide +kernel
theorem dX1_spare_6 : decode cX1_spare 6 = .ok (.iload_n 1, 1) := by decide +kernel
theorem dX1_spare_7 : decode cX1_spare 7 = .ok (.goto 5, 3) := by decide +kernel
theorem dX1_spare_10 : decode cX1_spare 10 = .ok (.bipush 99, 2) := by decide +kernel
theorem dX1_spare_12 : decode cX1_spare 12 = .ok (.ireturn, 1) := by decide +kernel
theorem dX1_price_0 : decode cX1_price 0 = .ok (.iconst 4, 1) := by decide +kernel
theorem dX1_price_1 : decode cX1_price 1 = .ok (.iload_n 1, 1) := by decide +kernel
theorem dX1_price_2 : decode cX1_price 2 = .ok (.iadd, 1) := by decide +kernel
theorem dX1_price_3 : decode cX1_price 3 = .ok (.istore_n 2, 1) := by decide +kernel
theorem dX1_price_4 : decode cX1_price 4 = .ok (.bipush 7, 2) := by decide +kernel
theorem dX1_price_6 : decode cX1_price 6 = .ok (.istore_n 3, 1) := by decide +kernel
theorem dX1_price_7 : decode cX1_price 7 = .ok (.iload_n 0, 1) := by decide +kernel
theorem dX1_price_8 : decode cX1_price 8 = .ok (.tableswitch 63 1 7 #[44, 47, 49, 51, 55, 57, 61], 44) := by decide +kernel
theorem dX1_price_52 : decode cX1_price 52 = .ok (.bipush 24, 2) := by decide +kernel
theorem dX1_price_54 : decode cX1_price 54 = .ok (.ireturn, 1) := by decide +kernel
theorem dX1_price_55 : decode cX1_price 55 = .ok (.iload_n 2, 1) := by decide +kernel
theorem dX1_price_56 : decode cX1_price 56 = .ok (.ireturn, 1) := by decide +kernel
theorem dX1_price_57 : decode cX1_price 57 = .ok (.iload_n 3, 1) := by decide +kernel
theorem dX1_price_58 : decode cX1_price 58 = .ok (.ireturn, 1) := by decide +kernel
theorem dX1_price_59 : decode cX1_price 59 = .ok (.iconst 2, 1) := by decide +kernel
theorem dX1_price_60 : decode cX1_price 60 = .ok (.iload_n 2, 1) := by decide +kernel
theorem dX1_price_61 : decode cX1_price 61 = .ok (.imul, 1) := by decide +kernel
theorem dX1_price_62 : decode cX1_price 62 = .ok (.ireturn, 1) := by decide +kernel
theorem dX1_price_63 : decode cX1_price 63 = .ok (.iconst 2, 1) := by decide +kernel
theorem dX1_price_64 : decode cX1_price 64 = .ok (.ireturn, 1) := by decide +kernel
theorem dX1_price_65 : decode cX1_price 65 = .ok (.iload_n 3, 1) := by decide +kernel
theorem dX1_price_66 : decode cX1_price 66 = .ok (.iload_n 1, 1) := by decide +kernel
theorem dX1_price_67 : decode cX1_price 67 = .ok (.iadd, 1) := by decide +kernel
theorem dX1_price_68 : decode cX1_price 68 = .ok (.ireturn, 1) := by decide +kernel
theorem dX1_price_69 : decode cX1_price 69 = .ok (.iconst 3, 1) := by decide +kernel
theorem dX1_price_70 : decode cX1_price 70 = .ok (.ireturn, 1) := by decide +kernel
theorem dX1_price_71 : decode cX1_price 71 = .ok (.iconst 4, 1) := by decide +kernel
theorem dX1_price_72 : decode cX1_price 72 = .ok (.ireturn, 1) := by decide +kernel
theorem dX1_fail_0 : decode cX1_fail 0 = .ok (.iload_n 0, 1) := by decide +kernel
theorem dX1_fail_1 : decode cX1_fail 1 = .ok (.bipush 7, 2) := by decide +kernel
theorem dX1_fail_3 : decode cX1_fail 3 = .ok (.if_icmp .eq 7, 3) := by decide +kernel
theorem dX1_fail_6 : decode cX1_fail 6 = .ok (.iload_n 1, 1) := by decide +kernel
theorem dX1_fail_7 : decode cX1_fail 7 = .ok (.ifCond .ne 4, 3) := by decide +kernel
theorem dX1_fail_10 : decode cX1_fail 10 = .ok (.return_, 1) := by decide +kernel
theorem dX1_fail_11 : decode cX1_fail 11 = .ok (.iload_n 0, 1) := by decide +kernel
theorem dX1_fail_12 : decode cX1_fail 12 = .ok (.iconst 4, 1) := by decide +kernel
theorem dX1_fail_13 : decode cX1_fail 13 = .ok (.if_icmp .ne 13, 3) := by decide +kernel
theorem dX1_fail_16 : decode cX1_fail 16 = .ok (.new 17, 3) := by decide +kernel
theorem dX1_fail_19 : decode cX1_fail 19 = .ok (.dup, 1) := by decide +kernel
theorem dX1_fail_20 : decode cX1_fail 20 = .ok (.ldc 19, 2) := by decide +kernel
theorem dX1_fail_22 : decode cX1_fail 22 = .ok (.invokespecial 21, 3) := by decide +kernel
theorem dX1_fail_25 : decode cX1_fail 25 = .ok (.athrow, 1) := by decide +kernel
theorem dX1_fail_26 : decode cX1_fail 26 = .ok (.iload_n 0, 1) := by decide +kernel
theorem dX1_fail_27 : decode cX1_fail 27 = .ok (.invokestatic 24, 3) := by decide +kernel
theorem dX1_fail_30 : decode cX1_fail 30 = .ok (.ifCond .eq 13, 3) := by decide +kernel
theorem dX1_fail_33 : decode cX1_fail 33 = .ok (.new 28, 3) := by decide +kernel
theorem dX1_fail_36 : decode cX1_fail 36 = .ok (.dup, 1) := by decide +kernel
theorem dX1_fail_37 : decode cX1_fail 37 = .ok (.ldc 30, 2) := by decide +kernel
theorem dX1_fail_39 : decode cX1_fail 39 = .ok (.invokespecial 32, 3) := by decide +kernel
theorem dX1_fail_42 : decode cX1_fail 42 = .ok (.athrow, 1) := by decide +kernel
theorem dX1_fail_43 : decode cX1_fail 43 = .ok (.new 33, 3) := by decide +kernel
theorem dX1_fail_46 : decode cX1_fail 46 = .ok (.dup, 1) := by decide +kernel
theorem dX1_fail_47 : decode cX1_fail 47 = .ok (.ldc 35, 2) := by decide +kernel
theorem dX1_fail_49 : decode cX1_fail 49 = .ok (.invokespecial 37, 3) := by decide +kernel
theorem dX1_fail_52 : decode cX1_fail 52 = .ok (.athrow, 1) := by decide +kernel
theorem dX2_init_0 : decode cX2_init 0 = .ok (.aload_n 0, 1) := by decide +kernel
theorem dX2_init_1 : decode cX2_init 1 = .ok (.invokespecial 3, 3) := by decide +kernel
theorem dX2_init_4 : decode cX2_init 4 = .ok (.aload_n 0, 1) := by decide +kernel
theorem dX2_init_5 : decode cX2_init 5 = .ok (.new 9, 3) := by decide +kernel
theorem dX2_init_8 : decode cX2_init 8 = .ok (.dup, 1) := by decide +kernel
theorem dX2_init_9 : decode cX2_init 9 = .ok (.invokespecial 11, 3) := by decide +kernel
theorem dX2_init_12 : decode cX2_init 12 = .ok (.putfield 12, 3) := by decide +kernel
theorem dX2_init_15 : decode cX2_init 15 = .ok (.aload_n 0, 1) := by decide +kernel
theorem dX2_init_16 : decode cX2_init 16 = .ok (.bipush 10, 2) := by decide +kernel
theorem dX2_init_18 : decode cX2_init 18 = .ok (.newarray .int, 2) := by decide +kernel
theorem dX2_init_20 : decode cX2_init 20 = .ok (.putfield 18, 3) := by decide +kernel
theorem dX2_init_23 : decode cX2_init 23 = .ok (.aload_n 0, 1) := by decide +kernel
theorem dX2_init_24 : decode cX2_init 24 = .ok (.bipush 10, 2) := by decide +kernel
theorem dX2_init_26 : decode cX2_init 26 = .ok (.newarray .int, 2) := by decide +kernel
theorem dX2_init_28 : decode cX2_init 28 = .ok (.putfield 22, 3) := by decide +kernel
theorem dX2_init_31 : decode cX2_init 31 = .ok (.aload_n 0, 1) := by decide +kernel
theorem dX2_init_32 : decode cX2_init 32 = .ok (.iconst 1, 1) := by decide +kernel
theorem dX2_init_33 : decode cX2_init 33 = .ok (.putfield 25, 3) := by decide +kernel
theorem dX2_init_36 : decode cX2_init 36 = .ok (.aload_n 0, 1) := by decide +kernel
theorem dX2_init_37 : decode cX2_init 37 = .ok (.bipush (-4), 2) := by decide +kernel
theorem dX2_init_39 : decode cX2_init 39 = .ok (.putfield 29, 3) := by decide +kernel
theorem dX2_init_42 : decode cX2_init 42 = .ok (.return_, 1) := by decide +kernel
theorem dX2_layAll_0 : decode cX2_layAll 0 = .ok (.aload_n 0, 1) := by decide +kernel
theorem dX2_layAll_1 : decode cX2_layAll 1 = .ok (.getfield 12, 3) := by decide +kernel
theorem dX2_layAll_4 : decode cX2_layAll 4 = .ok (.aload_n 1, 1) := by decide +kernel
theorem dX2_layAll_5 : decode cX2_layAll 5 = .ok (.getfield 32, 3) := by decide +kernel
theorem dX2_layAll_8 : decode cX2_layAll 8 = .ok (.iconst 0, 1) := by decide +kernel
theorem dX2_layAll_9 : decode cX2_layAll 9 = .ok (.iaload, 1) := by decide +kernel
theorem dX2_layAll_10 : decode cX2_layAll 10 = .ok (.invokevirtual 37, 3) := by decide +kernel
theorem dX2_layAll_13 : decode cX2_layAll 13 = .ok (.aload_n 0, 1) := by decide +kernel
theorem dX2_layAll_14 : decode cX2_layAll 14 = .ok (.aload_n 1, 1) := by decide +kernel
theorem dX2_layAll_15 : decode cX2_layAll 15 = .ok (.getfield 32, 3) := by decide +kernel
theorem dX2_layAll_18 : decode cX2_layAll 18 = .ok (.iconst 1, 1) := by decide +kernel
theorem dX2_layAll_19 : decode cX2_layAll 19 = .ok (.iaload, 1) := by decide +kernel
theorem dX2_layAll_20 : decode cX2_layAll 20 = .ok (.putfield 25, 3) := by decide +kernel
theorem dX2_layAll_23 : decode cX2_layAll 23 = .ok (.aload_n 0, 1) := by decide +kernel
theorem dX2_layAll_24 : decode cX2_layAll 24 = .ok (.bipush (-4), 2) := by decide +kernel
theorem dX2_layAll_26 : decode cX2_layAll 26 = .ok (.putfield 29, 3) := by decide +kernel
theorem dX2_layAll_29 : decode cX2_layAll 29 = .ok (.iconst 0, 1) := by decide +kernel
theorem dX2_layAll_30 : decode cX2_layAll 30 = .ok (.istore_n 2, 1) := by decide +kernel
theorem dX2_layAll_31 : decode cX2_layAll 31 = .ok (.iload_n 2, 1) := by decide +kernel
theorem dX2_layAll_32 : decode cX2_layAll 32 = .ok (.aload_n 1, 1) := by decide +kernel
theorem dX2_layAll_33 : decode cX2_layAll 33 = .ok (.getfield 41, 3) := by decide +kernel
theorem dX2_layAll_36 : decode cX2_layAll 36 = .ok (.if_icmp .ge 87, 3) := by decide +kernel
theorem dX2_layAll_39 : decode cX2_layAll 39 = .ok (.aload_n 0, 1) := by decide +kernel
theorem dX2_layAll_40 : decode cX2_layAll 40 = .ok (.getfield 22, 3) := by decide +kernel
theorem dX2_layAll_43 : decode cX2_layAll 43 = .ok (.iload_n 2, 1) := by decide +kernel
theorem dX2_layAll_44 : decode cX2_layAll 44 = .ok (.iaload, 1) := by decide +kernel
theorem dX2_layAll_45 : decode cX2_layAll 45 = .ok (.istore_n 3, 1) := by decide +kernel
theorem dX2_layAll_46 : decode cX2_layAll 46 = .ok (.aload_n 1, 1) := by decide +kernel
theorem dX2_layAll_47 : decode cX2_layAll 47 = .ok (.iload_n 3, 1) := by decide +kernel
theorem dX2_layAll_48 : decode cX2_layAll 48 = .ok (.invokevirtual 44, 3) := by decide +kernel
theorem dX2_layAll_51 : decode cX2_layAll 51 = .ok (.ifCond .eq 8, 3) := by decide +kernel
theorem dX2_layAll_54 : decode cX2_layAll 54 = .ok (.bipush 9, 2) := by decide +kernel
theorem dX2_layAll_56 : decode cX2_layAll 56 = .ok (.goto 9, 3) := by decide +kernel
theorem dX2_layAll_59 : decode cX2_layAll 59 = .ok (.aload_n 0, 1) := by decide +kernel
theorem dX2_layAll_60 : decode cX2_layAll 60 = .ok (.aload_n 1, 1) := by decide +kernel
theorem dX2_layAll_61 : decode cX2_layAll 61 = .ok (.iload_n 3, 1) := by decide +kernel
theorem dX2_layAll_62 : decode cX2_layAll 62 = .ok (.invokevirtual 48, 3) := by decide +kernel
theorem dX2_layAll_65 : decode cX2_layAll 65 = .ok (.istore 4, 2) := by decide +kernel
theorem dX2_layAll_67 : decode cX2_layAll 67 = .ok (.iload 4, 2) := by decide +kernel
theorem dX2_layAll_69 : decode cX2_layAll 69 = .ok (.invokestatic 52, 3) := by decide +kernel
theorem dX2_layAll_72 : decode cX2_layAll 72 = .ok (.ifCond .eq 22, 3) := by decide +kernel
theorem dX2_layAll_75 : decode cX2_layAll 75 = .ok (.aload_n 0, 1) := by decide +kernel
theorem dX2_layAll_76 : decode cX2_layAll 76 = .ok (.getfield 12, 3) := by decide +kernel
theorem dX2_layAll_79 : decode cX2_layAll 79 = .ok (.iload 4, 2) := by decide +kernel
theorem dX2_layAll_81 : decode cX2_layAll 81 = .ok (.iload_n 3, 1) := by decide +kernel
theorem dX2_layAll_82 : decode cX2_layAll 82 = .ok (.invokevirtual 55, 3) := by decide +kernel
theorem dX2_layAll_85 : decode cX2_layAll 85 = .ok (.aload_n 0, 1) := by decide +kernel
theorem dX2_layAll_86 : decode cX2_layAll 86 = .ok (.iload 4, 2) := by decide +kernel
theorem dX2_layAll_88 : decode cX2_layAll 88 = .ok (.putfield 29, 3) := by decide +kernel
theorem dX2_layAll_91 : decode cX2_layAll 91 = .ok (.goto 26, 3) := by decide +kernel
theorem dX2_layAll_94 : decode cX2_layAll 94 = .ok (.aload_n 0, 1) := by decide +kernel
theorem dX2_layAll_95 : decode cX2_layAll 95 = .ok (.getfield 12, 3) := by decide +kernel
theorem dX2_layAll_98 : decode cX2_layAll 98 = .ok (.getfield 59, 3) := by decide +kernel
theorem dX2_layAll_101 : decode cX2_layAll 101 = .ok (.iload_n 3, 1) := by decide +kernel
theorem dX2_layAll_102 : decode cX2_layAll 102 = .ok (.iload 4, 2) := by decide +kernel
theorem dX2_layAll_104 : decode cX2_layAll 104 = .ok (.bipush 9, 2) := by decide +kernel
theorem dX2_layAll_106 : decode cX2_layAll 106 = .ok (.if_icmp .ne 8, 3) := by decide +kernel
theorem dX2_layAll_109 : decode cX2_layAll 109 = .ok (.bipush 9, 2) := by decide +kernel
theorem dX2_layAll_111 : decode cX2_layAll 111 = .ok (.goto 5, 3) := by decide +kernel
theorem dX2_layAll_114 : decode cX2_layAll 114 = .ok (.bipush (-4), 2) := by decide +kernel
theorem dX2_layAll_116 : decode cX2_layAll 116 = .ok (.iastore, 1) := by decide +kernel
theorem dX2_layAll_117 : decode cX2_layAll 117 = .ok (.iinc 2 1, 3) := by decide +kernel
theorem dX2_layAll_120 : decode cX2_layAll 120 = .ok (.goto (-89), 3) := by decide +kernel
theorem dX2_layAll_123 : decode cX2_layAll 123 = .ok (.return_, 1) := by decide +kernel
theorem dX2_heapFor_0 : decode cX2_heapFor 0 = .ok (.iconst 0, 1) := by decide +kernel
theorem dX2_heapFor_1 : decode cX2_heapFor 1 = .ok (.istore_n 3, 1) := by decide +kernel
theorem dX2_heapFor_2 : decode cX2_heapFor 2 = .ok (.iload_n 3, 1) := by decide +kernel
theorem dX2_heapFor_3 : decode cX2_heapFor 3 = .ok (.aload_n 1, 1) := by decide +kernel
theorem dX2_heapFor_4 : decode cX2_heapFor 4 = .ok (.getfield 62, 3) := by decide +kernel
theorem dX2_heapFor_7 : decode cX2_heapFor 7 = .ok (.if_icmp .ge 32, 3) := by decide +kernel
theorem dX2_heapFor_10 : decode cX2_heapFor 10 = .ok (.aload_n 0, 1) := by decide +kernel
theorem dX2_heapFor_11 : decode cX2_heapFor 11 = .ok (.aload_n 1, 1) := by decide +kernel
theorem dX2_heapFor_12 : decode cX2_heapFor 12 = .ok (.getfield 65, 3) := by decide +kernel
theorem dX2_heapFor_15 : decode cX2_heapFor 15 = .ok (.iload_n 3, 1) := by decide +kernel
theorem dX2_heapFor_16 : decode cX2_heapFor 16 = .ok (.iaload, 1) := by decide +kernel
theorem dX2_heapFor_17 : decode cX2_heapFor 17 = .ok (.iload_n 2, 1) := by decide +kernel
theorem dX2_heapFor_18 : decode cX2_heapFor 18 = .ok (.invokevirtual 68, 3) := by decide +kernel
theorem dX2_heapFor_21 : decode cX2_heapFor 21 = .ok (.istore 4, 2) := by decide +kernel
theorem dX2_heapFor_23 : decode cX2_heapFor 23 = .ok (.iload 4, 2) := by decide +kernel
theorem dX2_heapFor_25 : decode cX2_heapFor 25 = .ok (.bipush (-4), 2) := by decide +kernel
theorem dX2_heapFor_27 : decode cX2_heapFor 27 = .ok (.if_icmp .eq 6, 3) := by decide +kernel
theorem dX2_heapFor_30 : decode cX2_heapFor 30 = .ok (.iload 4, 2) := by decide +kernel
theorem dX2_heapFor_32 : decode cX2_heapFor 32 = .ok (.ireturn, 1) := by decide +kernel
theorem dX2_heapFor_33 : decode cX2_heapFor 33 = .ok (.iinc 3 1, 3) := by decide +kernel
theorem dX2_heapFor_36 : decode cX2_heapFor 36 = .ok (.goto (-34), 3) := by decide +kernel
theorem dX2_heapFor_39 : decode cX2_heapFor 39 = .ok (.aload_n 0, 1) := by decide +kernel
theorem dX2_heapFor_40 : decode cX2_heapFor 40 = .ok (.iconst 0, 1) := by decide +kernel
theorem dX2_heapFor_41 : decode cX2_heapFor 41 = .ok (.invokevirtual 72, 3) := by decide +kernel
theorem dX2_heapFor_44 : decode cX2_heapFor 44 = .ok (.ireturn, 1) := by decide +kernel
theorem dX2_heapByLetter_0 : decode cX2_heapByLetter 0 = .ok (.iload_n 1, 1) := by decide +kernel
theorem dX2_heapByLetter_1 : decode cX2_heapByLetter 1 = .ok (.tableswitch 125 101 115 #[80, 125, 125, 125, 125, 125, 125, 85, 125, 125, 90, 125, 125, 101, 75], 75) := by decide +kernel
theorem dX2_heapByLetter_76 : decode cX2_heapByLetter 76 = .ok (.aload_n 0, 1) := by decide +kernel
theorem dX2_heapByLetter_77 : decode cX2_heapByLetter 77 = .ok (.invokevirtual 76, 3) := by decide +kernel
theorem dX2_heapByLetter_80 : decode cX2_heapByLetter 80 = .ok (.ireturn, 1) := by decide +kernel
theorem dX2_heapByLetter_81 : decode cX2_heapByLetter 81 = .ok (.aload_n 0, 1) := by decide +kernel
theorem dX2_heapByLetter_82 : decode cX2_heapByLetter 82 = .ok (.invokevirtual 80, 3) := by decide +kernel
theorem dX2_heapByLetter_85 : decode cX2_heapByLetter 85 = .ok (.ireturn, 1) := by decide +kernel
theorem dX2_heapByLetter_86 : decode cX2_heapByLetter 86 = .ok (.aload_n 0, 1) := by decide +kernel
theorem dX2_heapByLetter_87 : decode cX2_heapByLetter 87 = .ok (.invokevirtual 83, 3) := by decide +kernel
theorem dX2_heapByLetter_90 : decode cX2_heapByLetter 90 = .ok (.ireturn, 1) := by decide +kernel
theorem dX2_heapByLetter_91 : decode cX2_heapByLetter 91 = .ok (.aload_n 0, 1) := by decide +kernel
theorem dX2_heapByLetter_92 : decode cX2_heapByLetter 92 = .ok (.aload_n 0, 1) := by decide +kernel
theorem dX2_heapByLetter_93 : decode cX2_heapByLetter 93 = .ok (.getfield 18, 3) := by decide +kernel
theorem dX2_heapByLetter_96 : decode cX2_heapByLetter 96 = .ok (.iload_n 2, 1) := by decide +kernel
theorem dX2_heapByLetter_97 : decode cX2_heapByLetter 97 = .ok (.iaload, 1) := by decide +kernel
theorem dX2_heapByLetter_98 : decode cX2_heapByLetter 98 = .ok (.invokevirtual 86, 3) := by decide +kernel
theorem dX2_heapByLetter_101 : decode cX2_heapByLetter 101 = .ok (.ireturn, 1) := by decide +kernel
theorem dX2_heapByLetter_102 : decode cX2_heapByLetter 102 = .ok (.aload_n 0, 1) := by decide +kernel
theorem dX2_heapByLetter_103 : decode cX2_heapByLetter 103 = .ok (.aload_n 0, 1) := by decide +kernel
theorem dX2_heapByLetter_104 : decode cX2_heapByLetter 104 = .ok (.getfield 29, 3) := by decide +kernel
theorem dX2_heapByLetter_107 : decode cX2_heapByLetter 107 = .ok (.bipush (-4), 2) := by decide +kernel
theorem dX2_heapByLetter_109 : decode cX2_heapByLetter 109 = .ok (.if_icmp .ne 7, 3) := by decide +kernel
theorem dX2_heapByLetter_112 : decode cX2_heapByLetter 112 = .ok (.iconst 0, 1) := by decide +kernel
theorem dX2_heapByLetter_113 : decode cX2_heapByLetter 113 = .ok (.goto 9, 3) := by decide +kernel
theorem dX2_heapByLetter_116 : decode cX2_heapByLetter 116 = .ok (.aload_n 0, 1) := by decide +kernel
theorem dX2_heapByLetter_117 : decode cX2_heapByLetter 117 = .ok (.getfield 29, 3) := by decide +kernel
theorem dX2_heapByLetter_120 : decode cX2_heapByLetter 120 = .ok (.iconst 1, 1) := by decide +kernel
theorem dX2_heapByLetter_121 : decode cX2_heapByLetter 121 = .ok (.iadd, 1) := by decide +kernel
theorem dX2_heapByLetter_122 : decode cX2_heapByLetter 122 = .ok (.invokevirtual 72, 3) := by decide +kernel
theorem dX2_heapByLetter_125 : decode cX2_heapByLetter 125 = .ok (.ireturn, 1) := by decide +kernel
theorem dX2_heapByLetter_126 : decode cX2_heapByLetter 126 = .ok (.aload_n 0, 1) := by decide +kernel
theorem dX2_heapByLetter_127 : decode cX2_heapByLetter 127 = .ok (.iconst 0, 1) := by decide +kernel
theorem dX2_heapByLetter_128 : decode cX2_heapByLetter 128 = .ok (.invokevirtual 72, 3) := by decide +kernel
theorem dX2_heapByLetter_131 : decode cX2_heapByLetter 131 = .ok (.ireturn, 1) := by decide +kernel
theorem dX2_hasRoom_0 : decode cX2_hasRoom 0 = .ok (.aload_n 0, 1) := by decide +kernel
theorem dX2_hasRoom_1 : decode cX2_hasRoom 1 = .ok (.getfield 12, 3) := by decide +kernel
theorem dX2_hasRoom_4 : decode cX2_hasRoom 4 = .ok (.getfield 89, 3) := by decide +kernel
theorem dX2_hasRoom_7 : decode cX2_hasRoom 7 = .ok (.iload_n 1, 1) := by decide +kernel
theorem dX2_hasRoom_8 : decode cX2_hasRoom 8 = .ok (.iaload, 1) := by decide +kernel
theorem dX2_hasRoom_9 : decode cX2_hasRoom 9 = .ok (.aload_n 0, 1) := by decide +kernel
theorem dX2_hasRoom_10 : decode cX2_hasRoom 10 = .ok (.getfield 25, 3) := by decide +kernel
theorem dX2_hasRoom_13 : decode cX2_hasRoom 13 = .ok (.if_icmp .ge 7, 3) := by decide +kernel
theorem dX2_hasRoom_16 : decode cX2_hasRoom 16 = .ok (.iconst 1, 1) := by decide +kernel
theorem dX2_hasRoom_17 : decode cX2_hasRoom 17 = .ok (.goto 4, 3) := by decide +kernel
theorem dX2_hasRoom_20 : decode cX2_hasRoom 20 = .ok (.iconst 0, 1) := by decide +kernel
theorem dX2_hasRoom_21 : decode cX2_hasRoom 21 = .ok (.ireturn, 1) := by decide +kernel
theorem dX2_firstFrom_0 : decode cX2_firstFrom 0 = .ok (.iconst 0, 1) := by decide +kernel
theorem dX2_firstFrom_1 : decode cX2_firstFrom 1 = .ok (.istore_n 2, 1) := by decide +kernel
theorem dX2_firstFrom_2 : decode cX2_firstFrom 2 = .ok (.iload_n 2, 1) := by decide +kernel
theorem dX2_firstFrom_3 : decode cX2_firstFrom 3 = .ok (.aload_n 0, 1) := by decide +kernel
theorem dX2_firstFrom_4 : decode cX2_firstFrom 4 = .ok (.getfield 12, 3) := by decide +kernel
theorem dX2_firstFrom_7 : decode cX2_firstFrom 7 = .ok (.getfield 92, 3) := by decide +kernel
theorem dX2_firstFrom_10 : decode cX2_firstFrom 10 = .ok (.if_icmp .ge 50, 3) := by decide +kernel
theorem dX2_firstFrom_13 : decode cX2_firstFrom 13 = .ok (.iload_n 1, 1) := by decide +kernel
theorem dX2_firstFrom_14 : decode cX2_firstFrom 14 = .ok (.iload_n 2, 1) := by decide +kernel
theorem dX2_firstFrom_15 : decode cX2_firstFrom 15 = .ok (.iadd, 1) := by decide +kernel
theorem dX2_firstFrom_16 : decode cX2_firstFrom 16 = .ok (.aload_n 0, 1) := by decide +kernel
theorem dX2_firstFrom_17 : decode cX2_firstFrom 17 = .ok (.getfield 12, 3) := by decide +kernel
theorem dX2_firstFrom_20 : decode cX2_firstFrom 20 = .ok (.getfield 92, 3) := by decide +kernel
theorem dX2_firstFrom_23 : decode cX2_firstFrom 23 = .ok (.if_icmp .ge 9, 3) := by decide +kernel
theorem dX2_firstFrom_26 : decode cX2_firstFrom 26 = .ok (.iload_n 1, 1) := by decide +kernel
theorem dX2_firstFrom_27 : decode cX2_firstFrom 27 = .ok (.iload_n 2, 1) := by decide +kernel
theorem dX2_firstFrom_28 : decode cX2_firstFrom 28 = .ok (.iadd, 1) := by decide +kernel
theorem dX2_firstFrom_29 : decode cX2_firstFrom 29 = .ok (.goto 14, 3) := by decide +kernel
theorem dX2_firstFrom_32 : decode cX2_firstFrom 32 = .ok (.iload_n 1, 1) := by decide +kernel
theorem dX2_firstFrom_33 : decode cX2_firstFrom 33 = .ok (.iload_n 2, 1) := by decide +kernel
theorem dX2_firstFrom_34 : decode cX2_firstFrom 34 = .ok (.iadd, 1) := by decide +kernel
theorem dX2_firstFrom_35 : decode cX2_firstFrom 35 = .ok (.aload_n 0, 1) := by decide +kernel
theorem dX2_firstFrom_36 : decode cX2_firstFrom 36 = .ok (.getfield 12, 3) := by decide +kernel
theorem dX2_firstFrom_39 : decode cX2_firstFrom 39 = .ok (.getfield 92, 3) := by decide +kernel
theorem dX2_firstFrom_42 : decode cX2_firstFrom 42 = .ok (.isub, 1) := by decide +kernel
theorem dX2_firstFrom_43 : decode cX2_firstFrom 43 = .ok (.istore_n 3, 1) := by decide +kernel
theorem dX2_firstFrom_44 : decode cX2_firstFrom 44 = .ok (.aload_n 0, 1) := by decide +kernel
theorem dX2_firstFrom_45 : decode cX2_firstFrom 45 = .ok (.iload_n 3, 1) := by decide +kernel
theorem dX2_firstFrom_46 : decode cX2_firstFrom 46 = .ok (.invokevirtual 95, 3) := by decide +kernel
theorem dX2_firstFrom_49 : decode cX2_firstFrom 49 = .ok (.ifCond .eq 5, 3) := by decide +kernel
theorem dX2_firstFrom_52 : decode cX2_firstFrom 52 = .ok (.iload_n 3, 1) := by decide +kernel
theorem dX2_firstFrom_53 : decode cX2_firstFrom 53 = .ok (.ireturn, 1) := by decide +kernel
theorem dX2_firstFrom_54 : decode cX2_firstFrom 54 = .ok (.iinc 2 1, 3) := by decide +kernel
theorem dX2_firstFrom_57 : decode cX2_firstFrom 57 = .ok (.goto (-55), 3) := by decide +kernel
theorem dX2_firstFrom_60 : decode cX2_firstFrom 60 = .ok (.bipush (-4), 2) := by decide +kernel
theorem dX2_firstFrom_62 : decode cX2_firstFrom 62 = .ok (.ireturn, 1) := by decide +kernel
theorem dX2_lowest_0 : decode cX2_lowest 0 = .ok (.bipush (-4), 2) := by decide +kernel
theorem dX2_lowest_2 : decode cX2_lowest 2 = .ok (.istore_n 1, 1) := by decide +kernel
theorem dX2_lowest_3 : decode cX2_lowest 3 = .ok (.iconst 0, 1) := by decide +kernel
theorem dX2_lowest_4 : decode cX2_lowest 4 = .ok (.istore_n 2, 1) := by decide +kernel
theorem dX2_lowest_5 : decode cX2_lowest 5 = .ok (.iload_n 2, 1) := by decide +kernel
theorem dX2_lowest_6 : decode cX2_lowest 6 = .ok (.aload_n 0, 1) := by decide +kernel
theorem dX2_lowest_7 : decode cX2_lowest 7 = .ok (.getfield 12, 3) := by decide +kernel
theorem dX2_lowest_10 : decode cX2_lowest 10 = .ok (.getfield 92, 3) := by decide +kernel
theorem dX2_lowest_13 : decode cX2_lowest 13 = .ok (.if_icmp .ge 46, 3) := by decide +kernel
theorem dX2_lowest_16 : decode cX2_lowest 16 = .ok (.aload_n 0, 1) := by decide +kernel
theorem dX2_lowest_17 : decode cX2_lowest 17 = .ok (.iload_n 2, 1) := by decide +kernel
theorem dX2_lowest_18 : decode cX2_lowest 18 = .ok (.invokevirtual 95, 3) := by decide +kernel
theorem dX2_lowest_21 : decode cX2_lowest 21 = .ok (.ifCond .eq 32, 3) := by decide +kernel
theorem dX2_lowest_24 : decode cX2_lowest 24 = .ok (.iload_n 1, 1) := by decide +kernel
theorem dX2_lowest_25 : decode cX2_lowest 25 = .ok (.bipush (-4), 2) := by decide +kernel
theorem dX2_lowest_27 : decode cX2_lowest 27 = .ok (.if_icmp .eq 24, 3) := by decide +kernel
theorem dX2_lowest_30 : decode cX2_lowest 30 = .ok (.aload_n 0, 1) := by decide +kernel
theorem dX2_lowest_31 : decode cX2_lowest 31 = .ok (.getfield 12, 3) := by decide +kernel
theorem dX2_lowest_34 : decode cX2_lowest 34 = .ok (.getfield 89, 3) := by decide +kernel
theorem dX2_lowest_37 : decode cX2_lowest 37 = .ok (.iload_n 2, 1) := by decide +kernel
theorem dX2_lowest_38 : decode cX2_lowest 38 = .ok (.iaload, 1) := by decide +kernel
theorem dX2_lowest_39 : decode cX2_lowest 39 = .ok (.aload_n 0, 1) := by decide +kernel
theorem dX2_lowest_40 : decode cX2_lowest 40 = .ok (.getfield 12, 3) := by decide +kernel
theorem dX2_lowest_43 : decode cX2_lowest 43 = .ok (.getfield 89, 3) := by decide +kernel
theorem dX2_lowest_46 : decode cX2_lowest 46 = .ok (.iload_n 1, 1) := by decide +kernel
theorem dX2_lowest_47 : decode cX2_lowest 47 = .ok (.iaload, 1) := by decide +kernel
theorem dX2_lowest_48 : decode cX2_lowest 48 = .ok (.if_icmp .ge 5, 3) := by decide +kernel
theorem dX2_lowest_51 : decode cX2_lowest 51 = .ok (.iload_n 2, 1) := by decide +kernel
theorem dX2_lowest_52 : decode cX2_lowest 52 = .ok (.istore_n 1, 1) := by decide +kernel
theorem dX2_lowest_53 : decode cX2_lowest 53 = .ok (.iinc 2 1, 3) := by decide +kernel
theorem dX2_lowest_56 : decode cX2_lowest 56 = .ok (.goto (-51), 3) := by decide +kernel
theorem dX2_lowest_59 : decode cX2_lowest 59 = .ok (.iload_n 1, 1) := by decide +kernel
theorem dX2_lowest_60 : decode cX2_lowest 60 = .ok (.ireturn, 1) := by decide +kernel
theorem dX2_empty_0 : decode cX2_empty 0 = .ok (.iconst 0, 1) := by decide +kernel
theorem dX2_empty_1 : decode cX2_empty 1 = .ok (.istore_n 1, 1) := by decide +kernel
theorem dX2_empty_2 : decode cX2_empty 2 = .ok (.iload_n 1, 1) := by decide +kernel
theorem dX2_empty_3 : decode cX2_empty 3 = .ok (.aload_n 0, 1) := by decide +kernel
theorem dX2_empty_4 : decode cX2_empty 4 = .ok (.getfield 12, 3) := by decide +kernel
theorem dX2_empty_7 : decode cX2_empty 7 = .ok (.getfield 92, 3) := by decide +kernel
theorem dX2_empty_10 : decode cX2_empty 10 = .ok (.if_icmp .ge 23, 3) := by decide +kernel
theorem dX2_empty_13 : decode cX2_empty 13 = .ok (.aload_n 0, 1) := by decide +kernel
theorem dX2_empty_14 : decode cX2_empty 14 = .ok (.getfield 12, 3) := by decide +kernel
theorem dX2_empty_17 : decode cX2_empty 17 = .ok (.getfield 89, 3) := by decide +kernel
theorem dX2_empty_20 : decode cX2_empty 20 = .ok (.iload_n 1, 1) := by decide +kernel
theorem dX2_empty_21 : decode cX2_empty 21 = .ok (.iaload, 1) := by decide +kernel
theorem dX2_empty_22 : decode cX2_empty 22 = .ok (.ifCond .ne 5, 3) := by decide +kernel
theorem dX2_empty_25 : decode cX2_empty 25 = .ok (.iload_n 1, 1) := by decide +kernel
theorem dX2_empty_26 : decode cX2_empty 26 = .ok (.ireturn, 1) := by decide +kernel
theorem dX2_empty_27 : decode cX2_empty 27 = .ok (.iinc 1 1, 3) := by decide +kernel
theorem dX2_empty_30 : decode cX2_empty 30 = .ok (.goto (-28), 3) := by decide +kernel
theorem dX2_empty_33 : decode cX2_empty 33 = .ok (.bipush (-4), 2) := by decide +kernel
theorem dX2_empty_35 : decode cX2_empty 35 = .ok (.ireturn, 1) := by decide +kernel
theorem dX2_latestTop_0 : decode cX2_latestTop 0 = .ok (.bipush (-4), 2) := by decide +kernel
theorem dX2_latestTop_2 : decode cX2_latestTop 2 = .ok (.istore_n 1, 1) := by decide +kernel
theorem dX2_latestTop_3 : decode cX2_latestTop 3 = .ok (.iconst 0, 1) := by decide +kernel
theorem dX2_latestTop_4 : decode cX2_latestTop 4 = .ok (.istore_n 2, 1) := by decide +kernel
theorem dX2_latestTop_5 : decode cX2_latestTop 5 = .ok (.iconst 0, 1) := by decide +kernel
theorem dX2_latestTop_6 : decode cX2_latestTop 6 = .ok (.istore_n 3, 1) := by decide +kernel
theorem dX2_latestTop_7 : decode cX2_latestTop 7 = .ok (.iload_n 3, 1) := by decide +kernel
theorem dX2_latestTop_8 : decode cX2_latestTop 8 = .ok (.aload_n 0, 1) := by decide +kernel
theorem dX2_latestTop_9 : decode cX2_latestTop 9 = .ok (.getfield 12, 3) := by decide +kernel
theorem dX2_latestTop_12 : decode cX2_latestTop 12 = .ok (.getfield 92, 3) := by decide +kernel
theorem dX2_latestTop_15 : decode cX2_latestTop 15 = .ok (.if_icmp .ge 61, 3) := by decide +kernel
theorem dX2_latestTop_18 : decode cX2_latestTop 18 = .ok (.aload_n 0, 1) := by decide +kernel
theorem dX2_latestTop_19 : decode cX2_latestTop 19 = .ok (.getfield 12, 3) := by decide +kernel
theorem dX2_latestTop_22 : decode cX2_latestTop 22 = .ok (.iload_n 3, 1) := by decide +kernel
theorem dX2_latestTop_23 : decode cX2_latestTop 23 = .ok (.invokevirtual 98, 3) := by decide +kernel
theorem dX2_latestTop_26 : decode cX2_latestTop 26 = .ok (.istore 4, 2) := by decide +kernel
theorem dX2_latestTop_28 : decode cX2_latestTop 28 = .ok (.iload 4, 2) := by decide +kernel
theorem dX2_latestTop_30 : decode cX2_latestTop 30 = .ok (.bipush (-4), 2) := by decide +kernel
theorem dX2_latestTop_32 : decode cX2_latestTop 32 = .ok (.if_icmp .eq 38, 3) := by decide +kernel
theorem dX2_latestTop_35 : decode cX2_latestTop 35 = .ok (.aload_n 0, 1) := by decide +kernel
theorem dX2_latestTop_36 : decode cX2_latestTop 36 = .ok (.iload_n 3, 1) := by decide +kernel
theorem dX2_latestTop_37 : decode cX2_latestTop 37 = .ok (.invokevirtual 95, 3) := by decide +kernel
theorem dX2_latestTop_40 : decode cX2_latestTop 40 = .ok (.ifCond .eq 30, 3) := by decide +kernel
theorem dX2_latestTop_43 : decode cX2_latestTop 43 = .ok (.iload_n 1, 1) := by decide +kernel
theorem dX2_latestTop_44 : decode cX2_latestTop 44 = .ok (.bipush (-4), 2) := by decide +kernel
theorem dX2_latestTop_46 : decode cX2_latestTop 46 = .ok (.if_icmp .eq 14, 3) := by decide +kernel
theorem dX2_latestTop_49 : decode cX2_latestTop 49 = .ok (.aload_n 0, 1) := by decide +kernel
theorem dX2_latestTop_50 : decode cX2_latestTop 50 = .ok (.getfield 18, 3) := by decide +kernel
theorem dX2_latestTop_53 : decode cX2_latestTop 53 = .ok (.iload 4, 2) := by decide +kernel
theorem dX2_latestTop_55 : decode cX2_latestTop 55 = .ok (.iaload, 1) := by decide +kernel
theorem dX2_latestTop_56 : decode cX2_latestTop 56 = .ok (.iload_n 2, 1) := by decide +kernel
theorem dX2_latestTop_57 : decode cX2_latestTop 57 = .ok (.if_icmp .le 13, 3) := by decide +kernel
theorem dX2_latestTop_60 : decode cX2_latestTop 60 = .ok (.iload_n 3, 1) := by decide +kernel
theorem dX2_latestTop_61 : decode cX2_latestTop 61 = .ok (.istore_n 1, 1) := by decide +kernel
theorem dX2_latestTop_62 : decode cX2_latestTop 62 = .ok (.aload_n 0, 1) := by decide +kernel
theorem dX2_latestTop_63 : decode cX2_latestTop 63 = .ok (.getfield 18, 3) := by decide +kernel
theorem dX2_latestTop_66 : decode cX2_latestTop 66 = .ok (.iload 4, 2) := by decide +kernel
theorem dX2_latestTop_68 : decode cX2_latestTop 68 = .ok (.iaload, 1) := by decide +kernel
theorem dX2_latestTop_69 : decode cX2_latestTop 69 = .ok (.istore_n 2, 1) := by decide +kernel
theorem dX2_latestTop_70 : decode cX2_latestTop 70 = .ok (.iinc 3 1, 3) := by decide +kernel
theorem dX2_latestTop_73 : decode cX2_latestTop 73 = .ok (.goto (-66), 3) := by decide +kernel
theorem dX2_latestTop_76 : decode cX2_latestTop 76 = .ok (.iload_n 1, 1) := by decide +kernel
theorem dX2_latestTop_77 : decode cX2_latestTop 77 = .ok (.ireturn, 1) := by decide +kernel
theorem dX2_soonestTopBehind_0 : decode cX2_soonestTopBehind 0 = .ok (.bipush (-4), 2) := by decide +kernel
theorem dX2_soonestTopBehind_2 : decode cX2_soonestTopBehind 2 = .ok (.istore_n 2, 1) := by decide +kernel
theorem dX2_soonestTopBehind_3 : decode cX2_soonestTopBehind 3 = .ok (.iconst 0, 1) := by decide +kernel
theorem dX2_soonestTopBehind_4 : decode cX2_soonestTopBehind 4 = .ok (.istore_n 3, 1) := by decide +kernel
theorem dX2_soonestTopBehind_5 : decode cX2_soonestTopBehind 5 = .ok (.iconst 0, 1) := by decide +kernel
theorem dX2_soonestTopBehind_6 : decode cX2_soonestTopBehind 6 = .ok (.istore 4, 2) := by decide +kernel
theorem dX2_soonestTopBehind_8 : decode cX2_soonestTopBehind 8 = .ok (.iload 4, 2) := by decide +kernel
theorem dX2_soonestTopBehind_10 : decode cX2_soonestTopBehind 10 = .ok (.aload_n 0, 1) := by decide +kernel
theorem dX2_soonestTopBehind_11 : decode cX2_soonestTopBehind 11 = .ok (.getfield 12, 3) := by decide +kernel
theorem dX2_soonestTopBehind_14 : decode cX2_soonestTopBehind 14 = .ok (.getfield 92, 3) := by decide +kernel
theorem dX2_soonestTopBehind_17 : decode cX2_soonestTopBehind 17 = .ok (.if_icmp .ge 87, 3) := by decide +kernel
theorem dX2_soonestTopBehind_20 : decode cX2_soonestTopBehind 20 = .ok (.aload_n 0, 1) := by decide +kernel
theorem dX2_soonestTopBehind_21 : decode cX2_soonestTopBehind 21 = .ok (.getfield 12, 3) := by decide +kernel
theorem dX2_soonestTopBehind_24 : decode cX2_soonestTopBehind 24 = .ok (.iload 4, 2) := by decide +kernel
theorem dX2_soonestTopBehind_26 : decode cX2_soonestTopBehind 26 = .ok (.invokevirtual 98, 3) := by decide +kernel
theorem dX2_soonestTopBehind_29 : decode cX2_soonestTopBehind 29 = .ok (.istore 5, 2) := by decide +kernel
theorem dX2_soonestTopBehind_31 : decode cX2_soonestTopBehind 31 = .ok (.iload 5, 2) := by decide +kernel
theorem dX2_soonestTopBehind_33 : decode cX2_soonestTopBehind 33 = .ok (.bipush (-4), 2) := by decide +kernel
theorem dX2_soonestTopBehind_35 : decode cX2_soonestTopBehind 35 = .ok (.if_icmp .eq 27, 3) := by decide +kernel
theorem dX2_soonestTopBehind_38 : decode cX2_soonestTopBehind 38 = .ok (.aload_n 0, 1) := by decide +kernel
theorem dX2_soonestTopBehind_39 : decode cX2_soonestTopBehind 39 = .ok (.iload 4, 2) := by decide +kernel
theorem dX2_soonestTopBehind_41 : decode cX2_soonestTopBehind 41 = .ok (.invokevirtual 95, 3) := by decide +kernel
theorem dX2_soonestTopBehind_44 : decode cX2_soonestTopBehind 44 = .ok (.ifCond .eq 18, 3) := by decide +kernel
theorem dX2_soonestTopBehind_47 : decode cX2_soonestTopBehind 47 = .ok (.aload_n 0, 1) := by decide +kernel
theorem dX2_soonestTopBehind_48 : decode cX2_soonestTopBehind 48 = .ok (.getfield 18, 3) := by decide +kernel
theorem dX2_soonestTopBehind_51 : decode cX2_soonestTopBehind 51 = .ok (.iload 5, 2) := by decide +kernel
theorem dX2_soonestTopBehind_53 : decode cX2_soonestTopBehind 53 = .ok (.iaload, 1) := by decide +kernel
theorem dX2_soonestTopBehind_54 : decode cX2_soonestTopBehind 54 = .ok (.iload_n 1, 1) := by decide +kernel
theorem dX2_soonestTopBehind_55 : decode cX2_soonestTopBehind 55 = .ok (.if_icmp .le 7, 3) := by decide +kernel
theorem dX2_soonestTopBehind_58 : decode cX2_soonestTopBehind 58 = .ok (.iconst 1, 1) := by decide +kernel
theorem dX2_soonestTopBehind_59 : decode cX2_soonestTopBehind 59 = .ok (.goto 4, 3) := by decide +kernel
theorem dX2_soonestTopBehind_62 : decode cX2_soonestTopBehind 62 = .ok (.iconst 0, 1) := by decide +kernel
theorem dX2_soonestTopBehind_63 : decode cX2_soonestTopBehind 63 = .ok (.istore 6, 2) := by decide +kernel
theorem dX2_soonestTopBehind_65 : decode cX2_soonestTopBehind 65 = .ok (.iload 6, 2) := by decide +kernel
theorem dX2_soonestTopBehind_67 : decode cX2_soonestTopBehind 67 = .ok (.ifCond .eq 31, 3) := by decide +kernel
theorem dX2_soonestTopBehind_70 : decode cX2_soonestTopBehind 70 = .ok (.iload_n 2, 1) := by decide +kernel
theorem dX2_soonestTopBehind_71 : decode cX2_soonestTopBehind 71 = .ok (.bipush (-4), 2) := by decide +kernel
theorem dX2_soonestTopBehind_73 : decode cX2_soonestTopBehind 73 = .ok (.if_icmp .eq 14, 3) := by decide +kernel
theorem dX2_soonestTopBehind_76 : decode cX2_soonestTopBehind 76 = .ok (.aload_n 0, 1) := by decide +kernel
theorem dX2_soonestTopBehind_77 : decode cX2_soonestTopBehind 77 = .ok (.getfield 18, 3) := by decide +kernel
theorem dX2_soonestTopBehind_80 : decode cX2_soonestTopBehind 80 = .ok (.iload 5, 2) := by decide +kernel
theorem dX2_soonestTopBehind_82 : decode cX2_soonestTopBehind 82 = .ok (.iaload, 1) := by decide +kernel
theorem dX2_soonestTopBehind_83 : decode cX2_soonestTopBehind 83 = .ok (.iload_n 3, 1) := by decide +kernel
theorem dX2_soonestTopBehind_84 : decode cX2_soonestTopBehind 84 = .ok (.if_icmp .ge 14, 3) := by decide +kernel
theorem dX2_soonestTopBehind_87 : decode cX2_soonestTopBehind 87 = .ok (.iload 4, 2) := by decide +kernel
theorem dX2_soonestTopBehind_89 : decode cX2_soonestTopBehind 89 = .ok (.istore_n 2, 1) := by decide +kernel
theorem dX2_soonestTopBehind_90 : decode cX2_soonestTopBehind 90 = .ok (.aload_n 0, 1) := by decide +kernel
theorem dX2_soonestTopBehind_91 : decode cX2_soonestTopBehind 91 = .ok (.getfield 18, 3) := by decide +kernel
theorem dX2_soonestTopBehind_94 : decode cX2_soonestTopBehind 94 = .ok (.iload 5, 2) := by decide +kernel
theorem dX2_soonestTopBehind_96 : decode cX2_soonestTopBehind 96 = .ok (.iaload, 1) := by decide +kernel
theorem dX2_soonestTopBehind_97 : decode cX2_soonestTopBehind 97 = .ok (.istore_n 3, 1) := by decide +kernel
theorem dX2_soonestTopBehind_98 : decode cX2_soonestTopBehind 98 = .ok (.iinc 4 1, 3) := by decide +kernel
theorem dX2_soonestTopBehind_101 : decode cX2_soonestTopBehind 101 = .ok (.goto (-93), 3) := by decide +kernel
theorem dX2_soonestTopBehind_104 : decode cX2_soonestTopBehind 104 = .ok (.iload_n 2, 1) := by decide +kernel
theorem dX2_soonestTopBehind_105 : decode cX2_soonestTopBehind 105 = .ok (.ireturn, 1) := by decide +kernel
theorem dX3_init_0 : decode cX3_init 0 = .ok (.aload_n 0, 1) := by decide +kernel
theorem dX3_init_1 : decode cX3_init 1 = .ok (.invokespecial 3, 3) := by decide +kernel
theorem dX3_init_4 : decode cX3_init 4 = .ok (.aload_n 0, 1) := by decide +kernel
theorem dX3_init_5 : decode cX3_init 5 = .ok (.new 9, 3) := by decide +kernel
theorem dX3_init_8 : decode cX3_init 8 = .ok (.dup, 1) := by decide +kernel
theorem dX3_init_9 : decode cX3_init 9 = .ok (.invokespecial 11, 3) := by decide +kernel
theorem dX3_init_12 : decode cX3_init 12 = .ok (.putfield 12, 3) := by decide +kernel
theorem dX3_init_15 : decode cX3_init 15 = .ok (.aload_n 0, 1) := by decide +kernel
theorem dX3_init_16 : decode cX3_init 16 = .ok (.new 18, 3) := by decide +kernel
theorem dX3_init_19 : decode cX3_init 19 = .ok (.dup, 1) := by decide +kernel
theorem dX3_init_20 : decode cX3_init 20 = .ok (.invokespecial 20, 3) := by decide +kernel
theorem dX3_init_23 : decode cX3_init 23 = .ok (.putfield 21, 3) := by decide +kernel
theorem dX3_init_26 : decode cX3_init 26 = .ok (.aload_n 0, 1) := by decide +kernel
theorem dX3_init_27 : decode cX3_init 27 = .ok (.aload_n 0, 1) := by decide +kernel
theorem dX3_init_28 : decode cX3_init 28 = .ok (.getfield 21, 3) := by decide +kernel
theorem dX3_init_31 : decode cX3_init 31 = .ok (.getfield 25, 3) := by decide +kernel
theorem dX3_init_34 : decode cX3_init 34 = .ok (.putfield 29, 3) := by decide +kernel
theorem dX3_init_37 : decode cX3_init 37 = .ok (.aload_n 0, 1) := by decide +kernel
theorem dX3_init_38 : decode cX3_init 38 = .ok (.aload_n 0, 1) := by decide +kernel
theorem dX3_init_39 : decode cX3_init 39 = .ok (.getfield 21, 3) := by decide +kernel
theorem dX3_init_42 : decode cX3_init 42 = .ok (.getfield 30, 3) := by decide +kernel
theorem dX3_init_45 : decode cX3_init 45 = .ok (.putfield 34, 3) := by decide +kernel
theorem dX3_init_48 : decode cX3_init 48 = .ok (.aload_n 0, 1) := by decide +kernel
theorem dX3_init_49 : decode cX3_init 49 = .ok (.aload_n 0, 1) := by decide +kernel
theorem dX3_init_50 : decode cX3_init 50 = .ok (.getfield 21, 3) := by decide +kernel
theorem dX3_init_53 : decode cX3_init 53 = .ok (.getfield 35, 3) := by decide +kernel
theorem dX3_init_56 : decode cX3_init 56 = .ok (.putfield 38, 3) := by decide +kernel
theorem dX3_init_59 : decode cX3_init 59 = .ok (.aload_n 0, 1) := by decide +kernel
theorem dX3_init_60 : decode cX3_init 60 = .ok (.bipush 10, 2) := by decide +kernel
theorem dX3_init_62 : decode cX3_init 62 = .ok (.newarray .int, 2) := by decide +kernel
theorem dX3_init_64 : decode cX3_init 64 = .ok (.putfield 39, 3) := by decide +kernel
theorem dX3_init_67 : decode cX3_init 67 = .ok (.aload_n 0, 1) := by decide +kernel
theorem dX3_init_68 : decode cX3_init 68 = .ok (.bipush 10, 2) := by decide +kernel
theorem dX3_init_70 : decode cX3_init 70 = .ok (.newarray .int, 2) := by decide +kernel
theorem dX3_init_72 : decode cX3_init 72 = .ok (.putfield 42, 3) := by decide +kernel
theorem dX3_init_75 : decode cX3_init 75 = .ok (.aload_n 0, 1) := by decide +kernel
theorem dX3_init_76 : decode cX3_init 76 = .ok (.bipush 10, 2) := by decide +kernel
theorem dX3_init_78 : decode cX3_init 78 = .ok (.newarray .boolean, 2) := by decide +kernel
theorem dX3_init_80 : decode cX3_init 80 = .ok (.putfield 45, 3) := by decide +kernel
theorem dX3_init_83 : decode cX3_init 83 = .ok (.aload_n 0, 1) := by decide +kernel
theorem dX3_init_84 : decode cX3_init 84 = .ok (.bipush 10, 2) := by decide +kernel
theorem dX3_init_86 : decode cX3_init 86 = .ok (.newarray .int, 2) := by decide +kernel
theorem dX3_init_88 : decode cX3_init 88 = .ok (.putfield 49, 3) := by decide +kernel
theorem dX3_init_91 : decode cX3_init 91 = .ok (.aload_n 0, 1) := by decide +kernel
theorem dX3_init_92 : decode cX3_init 92 = .ok (.bipush 10, 2) := by decide +kernel
theorem dX3_init_94 : decode cX3_init 94 = .ok (.newarray .int, 2) := by decide +kernel
theorem dX3_init_96 : decode cX3_init 96 = .ok (.putfield 52, 3) := by decide +kernel
theorem dX3_init_99 : decode cX3_init 99 = .ok (.aload_n 0, 1) := by decide +kernel
theorem dX3_init_100 : decode cX3_init 100 = .ok (.bipush 10, 2) := by decide +kernel
theorem dX3_init_102 : decode cX3_init 102 = .ok (.newarray .int, 2) := by decide +kernel
theorem dX3_init_104 : decode cX3_init 104 = .ok (.putfield 55, 3) := by decide +kernel
theorem dX3_init_107 : decode cX3_init 107 = .ok (.aload_n 0, 1) := by decide +kernel
theorem dX3_init_108 : decode cX3_init 108 = .ok (.bipush 10, 2) := by decide +kernel
theorem dX3_init_110 : decode cX3_init 110 = .ok (.newarray .int, 2) := by decide +kernel
theorem dX3_init_112 : decode cX3_init 112 = .ok (.putfield 58, 3) := by decide +kernel
theorem dX3_init_115 : decode cX3_init 115 = .ok (.aload_n 0, 1) := by decide +kernel
theorem dX3_init_116 : decode cX3_init 116 = .ok (.bipush 10, 2) := by decide +kernel
theorem dX3_init_118 : decode cX3_init 118 = .ok (.newarray .int, 2) := by decide +kernel
theorem dX3_init_120 : decode cX3_init 120 = .ok (.putfield 61, 3) := by decide +kernel
theorem dX3_init_123 : decode cX3_init 123 = .ok (.aload_n 0, 1) := by decide +kernel
theorem dX3_init_124 : decode cX3_init 124 = .ok (.iconst 0, 1) := by decide +kernel
theorem dX3_init_125 : decode cX3_init 125 = .ok (.putfield 64, 3) := by decide +kernel
theorem dX3_init_128 : decode cX3_init 128 = .ok (.aload_n 0, 1) := by decide +kernel
theorem dX3_init_129 : decode cX3_init 129 = .ok (.iconst 0, 1) := by decide +kernel
theorem dX3_init_130 : decode cX3_init 130 = .ok (.putfield 68, 3) := by decide +kernel
theorem dX3_init_133 : decode cX3_init 133 = .ok (.return_, 1) := by decide +kernel
theorem dX3_begin_0 : decode cX3_begin 0 = .ok (.aload_n 0, 1) := by decide +kernel
theorem dX3_begin_1 : decode cX3_begin 1 = .ok (.aload_n 1, 1) := by decide +kernel
theorem dX3_begin_2 : decode cX3_begin 2 = .ok (.putfield 12, 3) := by decide +kernel
theorem dX3_begin_5 : decode cX3_begin 5 = .ok (.iconst 0, 1) := by decide +kernel
theorem dX3_begin_6 : decode cX3_begin 6 = .ok (.istore_n 2, 1) := by decide +kernel
theorem dX3_begin_7 : decode cX3_begin 7 = .ok (.iload_n 2, 1) := by decide +kernel
theorem dX3_begin_8 : decode cX3_begin 8 = .ok (.aload_n 0, 1) := by decide +kernel
theorem dX3_begin_9 : decode cX3_begin 9 = .ok (.getfield 12, 3) := by decide +kernel
theorem dX3_begin_12 : decode cX3_begin 12 = .ok (.getfield 71, 3) := by decide +kernel
theorem dX3_begin_15 : decode cX3_begin 15 = .ok (.if_icmp .ge 62, 3) := by decide +kernel
theorem dX3_begin_18 : decode cX3_begin 18 = .ok (.aload_n 0, 1) := by decide +kernel
theorem dX3_begin_19 : decode cX3_begin 19 = .ok (.getfield 34, 3) := by decide +kernel
theorem dX3_begin_22 : decode cX3_begin 22 = .ok (.iload_n 2, 1) := by decide +kernel
theorem dX3_begin_23 : decode cX3_begin 23 = .ok (.aload_n 0, 1) := by decide +kernel
theorem dX3_begin_24 : decode cX3_begin 24 = .ok (.getfield 12, 3) := by decide +kernel
theorem dX3_begin_27 : decode cX3_begin 27 = .ok (.iload_n 2, 1) := by decide +kernel
theorem dX3_begin_28 : decode cX3_begin 28 = .ok (.invokevirtual 74, 3) := by decide +kernel
theorem dX3_begin_31 : decode cX3_begin 31 = .ok (.iastore, 1) := by decide +kernel
theorem dX3_begin_32 : decode cX3_begin 32 = .ok (.aload_n 0, 1) := by decide +kernel
theorem dX3_begin_33 : decode cX3_begin 33 = .ok (.getfield 42, 3) := by decide +kernel
theorem dX3_begin_36 : decode cX3_begin 36 = .ok (.iload_n 2, 1) := by decide +kernel
theorem dX3_begin_37 : decode cX3_begin 37 = .ok (.aload_n 0, 1) := by decide +kernel
theorem dX3_begin_38 : decode cX3_begin 38 = .ok (.getfield 12, 3) := by decide +kernel
theorem dX3_begin_41 : decode cX3_begin 41 = .ok (.iload_n 2, 1) := by decide +kernel
theorem dX3_begin_42 : decode cX3_begin 42 = .ok (.invokevirtual 78, 3) := by decide +kernel
theorem dX3_begin_45 : decode cX3_begin 45 = .ok (.iastore, 1) := by decide +kernel
theorem dX3_begin_46 : decode cX3_begin 46 = .ok (.aload_n 0, 1) := by decide +kernel
theorem dX3_begin_47 : decode cX3_begin 47 = .ok (.getfield 45, 3) := by decide +kernel
theorem dX3_begin_50 : decode cX3_begin 50 = .ok (.iload_n 2, 1) := by decide +kernel
theorem dX3_begin_51 : decode cX3_begin 51 = .ok (.aload_n 0, 1) := by decide +kernel
theorem dX3_begin_52 : decode cX3_begin 52 = .ok (.getfield 12, 3) := by decide +kernel
theorem dX3_begin_55 : decode cX3_begin 55 = .ok (.getfield 81, 3) := by decide +kernel
theorem dX3_begin_58 : decode cX3_begin 58 = .ok (.iload_n 2, 1) := by decide +kernel
theorem dX3_begin_59 : decode cX3_begin 59 = .ok (.iaload, 1) := by decide +kernel
theorem dX3_begin_60 : decode cX3_begin 60 = .ok (.invokestatic 84, 3) := by decide +kernel
theorem dX3_begin_63 : decode cX3_begin 63 = .ok (.bastore, 1) := by decide +kernel
theorem dX3_begin_64 : decode cX3_begin 64 = .ok (.aload_n 0, 1) := by decide +kernel
theorem dX3_begin_65 : decode cX3_begin 65 = .ok (.getfield 38, 3) := by decide +kernel
theorem dX3_begin_68 : decode cX3_begin 68 = .ok (.iload_n 2, 1) := by decide +kernel
theorem dX3_begin_69 : decode cX3_begin 69 = .ok (.iload_n 2, 1) := by decide +kernel
theorem dX3_begin_70 : decode cX3_begin 70 = .ok (.iastore, 1) := by decide +kernel
theorem dX3_begin_71 : decode cX3_begin 71 = .ok (.iinc 2 1, 3) := by decide +kernel
theorem dX3_begin_74 : decode cX3_begin 74 = .ok (.goto (-67), 3) := by decide +kernel
theorem dX3_begin_77 : decode cX3_begin 77 = .ok (.aload_n 0, 1) := by decide +kernel
theorem dX3_begin_78 : decode cX3_begin 78 = .ok (.invokevirtual 90, 3) := by decide +kernel
theorem dX3_begin_81 : decode cX3_begin 81 = .ok (.return_, 1) := by decide +kernel
theorem dX3_sortByGoing_0 : decode cX3_sortByGoing 0 = .ok (.iconst 0, 1) := by decide +kernel
theorem dX3_sortByGoing_1 : decode cX3_sortByGoing 1 = .ok (.istore_n 1, 1) := by decide +kernel
theorem dX3_sortByGoing_2 : decode cX3_sortByGoing 2 = .ok (.iload_n 1, 1) := by decide +kernel
theorem dX3_sortByGoing_3 : decode cX3_sortByGoing 3 = .ok (.aload_n 0, 1) := by decide +kernel
theorem dX3_sortByGoing_4 : decode cX3_sortByGoing 4 = .ok (.getfield 12, 3) := by decide +kernel
theorem dX3_sortByGoing_7 : decode cX3_sortByGoing 7 = .ok (.getfield 71, 3) := by decide +kernel
theorem dX3_sortByGoing_10 : decode cX3_sortByGoing 10 = .ok (.if_icmp .ge 64, 3) := by decide +kernel
theorem dX3_sortByGoing_13 : decode cX3_sortByGoing 13 = .ok (.iload_n 1, 1) := by decide +kernel
theorem dX3_sortByGoing_14 : decode cX3_sortByGoing 14 = .ok (.istore_n 2, 1) := by decide +kernel
theorem dX3_sortByGoing_15 : decode cX3_sortByGoing 15 = .ok (.iload_n 2, 1) := by decide +kernel
theorem dX3_sortByGoing_16 : decode cX3_sortByGoing 16 = .ok (.ifCond .le 45, 3) := by decide +kernel
theorem dX3_sortByGoing_19 : decode cX3_sortByGoing 19 = .ok (.aload_n 0, 1) := by decide +kernel
theorem dX3_sortByGoing_20 : decode cX3_sortByGoing 20 = .ok (.getfield 34, 3) := by decide +kernel
theorem dX3_sortByGoing_23 : decode cX3_sortByGoing 23 = .ok (.aload_n 0, 1) := by decide +kernel
theorem dX3_sortByGoing_24 : decode cX3_sortByGoing 24 = .ok (.getfield 39, 3) := by decide +kernel
theorem dX3_sortByGoing_27 : decode cX3_sortByGoing 27 = .ok (.iload_n 2, 1) := by decide +kernel
theorem dX3_sortByGoing_28 : decode cX3_sortByGoing 28 = .ok (.iconst 1, 1) := by decide +kernel
theorem dX3_sortByGoing_29 : decode cX3_sortByGoing 29 = .ok (.isub, 1) := by decide +kernel
theorem dX3_sortByGoing_30 : decode cX3_sortByGoing 30 = .ok (.iaload, 1) := by decide +kernel
theorem dX3_sortByGoing_31 : decode cX3_sortByGoing 31 = .ok (.iaload, 1) := by decide +kernel
theorem dX3_sortByGoing_32 : decode cX3_sortByGoing 32 = .ok (.aload_n 0, 1) := by decide +kernel
theorem dX3_sortByGoing_33 : decode cX3_sortByGoing 33 = .ok (.getfield 34, 3) := by decide +kernel
theorem dX3_sortByGoing_36 : decode cX3_sortByGoing 36 = .ok (.iload_n 1, 1) := by decide +kernel
theorem dX3_sortByGoing_37 : decode cX3_sortByGoing 37 = .ok (.iaload, 1) := by decide +kernel
theorem dX3_sortByGoing_38 : decode cX3_sortByGoing 38 = .ok (.if_icmp .le 23, 3) := by decide +kernel
theorem dX3_sortByGoing_41 : decode cX3_sortByGoing 41 = .ok (.aload_n 0, 1) := by decide +kernel
theorem dX3_sortByGoing_42 : decode cX3_sortByGoing 42 = .ok (.getfield 39, 3) := by decide +kernel
theorem dX3_sortByGoing_45 : decode cX3_sortByGoing 45 = .ok (.iload_n 2, 1) := by decide +kernel
theorem dX3_sortByGoing_46 : decode cX3_sortByGoing 46 = .ok (.aload_n 0, 1) := by decide +kernel
theorem dX3_sortByGoing_47 : decode cX3_sortByGoing 47 = .ok (.getfield 39, 3) := by decide +kernel
theorem dX3_sortByGoing_50 : decode cX3_sortByGoing 50 = .ok (.iload_n 2, 1) := by decide +kernel
theorem dX3_sortByGoing_51 : decode cX3_sortByGoing 51 = .ok (.iconst 1, 1) := by decide +kernel
theorem dX3_sortByGoing_52 : decode cX3_sortByGoing 52 = .ok (.isub, 1) := by decide +kernel
theorem dX3_sortByGoing_53 : decode cX3_sortByGoing 53 = .ok (.iaload, 1) := by decide +kernel
theorem dX3_sortByGoing_54 : decode cX3_sortByGoing 54 = .ok (.iastore, 1) := by decide +kernel
theorem dX3_sortByGoing_55 : decode cX3_sortByGoing 55 = .ok (.iinc 2 (-1), 3) := by decide +kernel
theorem dX3_sortByGoing_58 : decode cX3_sortByGoing 58 = .ok (.goto (-43), 3) := by decide +kernel
theorem dX3_sortByGoing_61 : decode cX3_sortByGoing 61 = .ok (.aload_n 0, 1) := by decide +kernel
theorem dX3_sortByGoing_62 : decode cX3_sortByGoing 62 = .ok (.getfield 39, 3) := by decide +kernel
theorem dX3_sortByGoing_65 : decode cX3_sortByGoing 65 = .ok (.iload_n 2, 1) := by decide +kernel
theorem dX3_sortByGoing_66 : decode cX3_sortByGoing 66 = .ok (.iload_n 1, 1) := by decide +kernel
theorem dX3_sortByGoing_67 : decode cX3_sortByGoing 67 = .ok (.iastore, 1) := by decide +kernel
theorem dX3_sortByGoing_68 : decode cX3_sortByGoing 68 = .ok (.iinc 1 1, 3) := by decide +kernel
theorem dX3_sortByGoing_71 : decode cX3_sortByGoing 71 = .ok (.goto (-69), 3) := by decide +kernel
theorem dX3_sortByGoing_74 : decode cX3_sortByGoing 74 = .ok (.return_, 1) := by decide +kernel
theorem dX3_layAs_0 : decode cX3_layAs 0 = .ok (.aload_n 0, 1) := by decide +kernel
theorem dX3_layAs_1 : decode cX3_layAs 1 = .ok (.getfield 29, 3) := by decide +kernel
theorem dX3_layAs_4 : decode cX3_layAs 4 = .ok (.aload_n 0, 1) := by decide +kernel
theorem dX3_layAs_5 : decode cX3_layAs 5 = .ok (.getfield 12, 3) := by decide +kernel
theorem dX3_layAs_8 : decode cX3_layAs 8 = .ok (.getfield 93, 3) := by decide +kernel
theorem dX3_layAs_11 : decode cX3_layAs 11 = .ok (.iconst 0, 1) := by decide +kernel
theorem dX3_layAs_12 : decode cX3_layAs 12 = .ok (.iaload, 1) := by decide +kernel
theorem dX3_layAs_13 : decode cX3_layAs 13 = .ok (.invokevirtual 96, 3) := by decide +kernel
theorem dX3_layAs_16 : decode cX3_layAs 16 = .ok (.iconst 0, 1) := by decide +kernel
theorem dX3_layAs_17 : decode cX3_layAs 17 = .ok (.istore_n 2, 1) := by decide +kernel
theorem dX3_layAs_18 : decode cX3_layAs 18 = .ok (.iload_n 2, 1) := by decide +kernel
theorem dX3_layAs_19 : decode cX3_layAs 19 = .ok (.aload_n 0, 1) := by decide +kernel
theorem dX3_layAs_20 : decode cX3_layAs 20 = .ok (.getfield 12, 3) := by decide +kernel
theorem dX3_layAs_23 : decode cX3_layAs 23 = .ok (.getfield 71, 3) := by decide +kernel
theorem dX3_layAs_26 : decode cX3_layAs 26 = .ok (.if_icmp .ge 43, 3) := by decide +kernel
theorem dX3_layAs_29 : decode cX3_layAs 29 = .ok (.aload_n 1, 1) := by decide +kernel
theorem dX3_layAs_30 : decode cX3_layAs 30 = .ok (.iload_n 2, 1) := by decide +kernel
theorem dX3_layAs_31 : decode cX3_layAs 31 = .ok (.iaload, 1) := by decide +kernel
theorem dX3_layAs_32 : decode cX3_layAs 32 = .ok (.invokestatic 102, 3) := by decide +kernel
theorem dX3_layAs_35 : decode cX3_layAs 35 = .ok (.ifCond .eq 17, 3) := by decide +kernel
theorem dX3_layAs_38 : decode cX3_layAs 38 = .ok (.aload_n 0, 1) := by decide +kernel
theorem dX3_layAs_39 : decode cX3_layAs 39 = .ok (.getfield 29, 3) := by decide +kernel
theorem dX3_layAs_42 : decode cX3_layAs 42 = .ok (.aload_n 1, 1) := by decide +kernel
theorem dX3_layAs_43 : decode cX3_layAs 43 = .ok (.iload_n 2, 1) := by decide +kernel
theorem dX3_layAs_44 : decode cX3_layAs 44 = .ok (.iaload, 1) := by decide +kernel
theorem dX3_layAs_45 : decode cX3_layAs 45 = .ok (.iload_n 2, 1) := by decide +kernel
theorem dX3_layAs_46 : decode cX3_layAs 46 = .ok (.invokevirtual 105, 3) := by decide +kernel
theorem dX3_layAs_49 : decode cX3_layAs 49 = .ok (.goto 14, 3) := by decide +kernel
theorem dX3_layAs_52 : decode cX3_layAs 52 = .ok (.aload_n 0, 1) := by decide +kernel
theorem dX3_layAs_53 : decode cX3_layAs 53 = .ok (.getfield 29, 3) := by decide +kernel
theorem dX3_layAs_56 : decode cX3_layAs 56 = .ok (.getfield 109, 3) := by decide +kernel
theorem dX3_layAs_59 : decode cX3_layAs 59 = .ok (.iload_n 2, 1) := by decide +kernel
theorem dX3_layAs_60 : decode cX3_layAs 60 = .ok (.bipush 9, 2) := by decide +kernel
theorem dX3_layAs_62 : decode cX3_layAs 62 = .ok (.iastore, 1) := by decide +kernel
theorem dX3_layAs_63 : decode cX3_layAs 63 = .ok (.iinc 2 1, 3) := by decide +kernel
theorem dX3_layAs_66 : decode cX3_layAs 66 = .ok (.goto (-48), 3) := by decide +kernel
theorem dX3_layAs_69 : decode cX3_layAs 69 = .ok (.return_, 1) := by decide +kernel
theorem dX3_pass_0 : decode cX3_pass 0 = .ok (.aload_n 0, 1) := by decide +kernel
theorem dX3_pass_1 : decode cX3_pass 1 = .ok (.aload_n 1, 1) := by decide +kernel
theorem dX3_pass_2 : decode cX3_pass 2 = .ok (.invokevirtual 112, 3) := by decide +kernel
theorem dX3_pass_5 : decode cX3_pass 5 = .ok (.aload_n 0, 1) := by decide +kernel
theorem dX3_pass_6 : decode cX3_pass 6 = .ok (.getfield 21, 3) := by decide +kernel
theorem dX3_pass_9 : decode cX3_pass 9 = .ok (.aload_n 0, 1) := by decide +kernel
theorem dX3_pass_10 : decode cX3_pass 10 = .ok (.getfield 12, 3) := by decide +kernel
theorem dX3_pass_13 : decode cX3_pass 13 = .ok (.invokevirtual 116, 3) := by decide +kernel
theorem dX3_pass_16 : decode cX3_pass 16 = .ok (.aload_n 0, 1) := by decide +kernel
theorem dX3_pass_17 : decode cX3_pass 17 = .ok (.aload_n 0, 1) := by decide +kernel
theorem dX3_pass_18 : decode cX3_pass 18 = .ok (.getfield 12, 3) := by decide +kernel
theorem dX3_pass_21 : decode cX3_pass 21 = .ok (.getfield 71, 3) := by decide +kernel
theorem dX3_pass_24 : decode cX3_pass 24 = .ok (.bipush (-4), 2) := by decide +kernel
theorem dX3_pass_26 : decode cX3_pass 26 = .ok (.invokevirtual 119, 3) := by decide +kernel
theorem dX3_pass_29 : decode cX3_pass 29 = .ok (.ireturn, 1) := by decide +kernel
theorem dX3_letGo_0 : decode cX3_letGo 0 = .ok (.aload_n 0, 1) := by decide +kernel
theorem dX3_letGo_1 : decode cX3_letGo 1 = .ok (.iconst 0, 1) := by decide +kernel
theorem dX3_letGo_2 : decode cX3_letGo 2 = .ok (.putfield 64, 3) := by decide +kernel
theorem dX3_letGo_5 : decode cX3_letGo 5 = .ok (.aload_n 0, 1) := by decide +kernel
theorem dX3_letGo_6 : decode cX3_letGo 6 = .ok (.iconst 0, 1) := by decide +kernel
theorem dX3_letGo_7 : decode cX3_letGo 7 = .ok (.putfield 68, 3) := by decide +kernel
theorem dX3_letGo_10 : decode cX3_letGo 10 = .ok (.iconst 0, 1) := by decide +kernel
theorem dX3_letGo_11 : decode cX3_letGo 11 = .ok (.istore_n 3, 1) := by decide +kernel
theorem dX3_letGo_12 : decode cX3_letGo 12 = .ok (.iload_n 3, 1) := by decide +kernel
theorem dX3_letGo_13 : decode cX3_letGo 13 = .ok (.aload_n 0, 1) := by decide +kernel
theorem dX3_letGo_14 : decode cX3_letGo 14 = .ok (.getfield 12, 3) := by decide +kernel
theorem dX3_letGo_17 : decode cX3_letGo 17 = .ok (.getfield 71, 3) := by decide +kernel
theorem dX3_letGo_20 : decode cX3_letGo 20 = .ok (.if_icmp .ge 31, 3) := by decide +kernel
theorem dX3_letGo_23 : decode cX3_letGo 23 = .ok (.aload_n 0, 1) := by decide +kernel
theorem dX3_letGo_24 : decode cX3_letGo 24 = .ok (.getfield 49, 3) := by decide +kernel
theorem dX3_letGo_27 : decode cX3_letGo 27 = .ok (.iload_n 3, 1) := by decide +kernel
theorem dX3_letGo_28 : decode cX3_letGo 28 = .ok (.iconst 0, 1) := by decide +kernel
theorem dX3_letGo_29 : decode cX3_letGo 29 = .ok (.iastore, 1) := by decide +kernel
theorem dX3_letGo_30 : decode cX3_letGo 30 = .ok (.aload_n 0, 1) := by decide +kernel
theorem dX3_letGo_31 : decode cX3_letGo 31 = .ok (.getfield 61, 3) := by decide +kernel
theorem dX3_letGo_34 : decode cX3_letGo 34 = .ok (.iload_n 3, 1) := by decide +kernel
theorem dX3_letGo_35 : decode cX3_letGo 35 = .ok (.iconst 0, 1) := by decide +kernel
theorem dX3_letGo_36 : decode cX3_letGo 36 = .ok (.iastore, 1) := by decide +kernel
theorem dX3_letGo_37 : decode cX3_letGo 37 = .ok (.aload_n 0, 1) := by decide +kernel
theorem dX3_letGo_38 : decode cX3_letGo 38 = .ok (.getfield 58, 3) := by decide +kernel
theorem dX3_letGo_41 : decode cX3_letGo 41 = .ok (.iload_n 3, 1) := by decide +kernel
theorem dX3_letGo_42 : decode cX3_letGo 42 = .ok (.bipush (-4), 2) := by decide +kernel
theorem dX3_letGo_44 : decode cX3_letGo 44 = .ok (.iastore, 1) := by decide +kernel
theorem dX3_letGo_45 : decode cX3_letGo 45 = .ok (.iinc 3 1, 3) := by decide +kernel
theorem dX3_letGo_48 : decode cX3_letGo 48 = .ok (.goto (-36), 3) := by decide +kernel
theorem dX3_letGo_51 : decode cX3_letGo 51 = .ok (.iconst 0, 1) := by decide +kernel
theorem dX3_letGo_52 : decode cX3_letGo 52 = .ok (.istore_n 3, 1) := by decide +kernel
theorem dX3_letGo_53 : decode cX3_letGo 53 = .ok (.iload_n 3, 1) := by decide +kernel
theorem dX3_letGo_54 : decode cX3_letGo 54 = .ok (.iload_n 1, 1) := by decide +kernel
theorem dX3_letGo_55 : decode cX3_letGo 55 = .ok (.if_icmp .ge 28, 3) := by decide +kernel
theorem dX3_letGo_58 : decode cX3_letGo 58 = .ok (.iload_n 3, 1) := by decide +kernel
theorem dX3_letGo_59 : decode cX3_letGo 59 = .ok (.iload_n 2, 1) := by decide +kernel
theorem dX3_letGo_60 : decode cX3_letGo 60 = .ok (.if_icmp .ne 7, 3) := by decide +kernel
theorem dX3_letGo_63 : decode cX3_letGo 63 = .ok (.aload_n 0, 1) := by decide +kernel
theorem dX3_letGo_64 : decode cX3_letGo 64 = .ok (.invokevirtual 123, 3) := by decide +kernel
theorem dX3_letGo_67 : decode cX3_letGo 67 = .ok (.aload_n 0, 1) := by decide +kernel
theorem dX3_letGo_68 : decode cX3_letGo 68 = .ok (.aload_n 0, 1) := by decide +kernel
theorem dX3_letGo_69 : decode cX3_letGo 69 = .ok (.getfield 39, 3) := by decide +kernel
theorem dX3_letGo_72 : decode cX3_letGo 72 = .ok (.iload_n 3, 1) := by decide +kernel
theorem dX3_letGo_73 : decode cX3_letGo 73 = .ok (.iaload, 1) := by decide +kernel
theorem dX3_letGo_74 : decode cX3_letGo 74 = .ok (.invokevirtual 126, 3) := by decide +kernel
theorem dX3_letGo_77 : decode cX3_letGo 77 = .ok (.iinc 3 1, 3) := by decide +kernel
theorem dX3_letGo_80 : decode cX3_letGo 80 = .ok (.goto (-27), 3) := by decide +kernel
theorem dX3_letGo_83 : decode cX3_letGo 83 = .ok (.aload_n 0, 1) := by decide +kernel
theorem dX3_letGo_84 : decode cX3_letGo 84 = .ok (.getfield 64, 3) := by decide +kernel
theorem dX3_letGo_87 : decode cX3_letGo 87 = .ok (.ireturn, 1) := by decide +kernel
theorem dX3_turnAll_0 : decode cX3_turnAll 0 = .ok (.iconst 0, 1) := by decide +kernel
theorem dX3_turnAll_1 : decode cX3_turnAll 1 = .ok (.istore_n 1, 1) := by decide +kernel
theorem dX3_turnAll_2 : decode cX3_turnAll 2 = .ok (.iload_n 1, 1) := by decide +kernel
theorem dX3_turnAll_3 : decode cX3_turnAll 3 = .ok (.aload_n 0, 1) := by decide +kernel
theorem dX3_turnAll_4 : decode cX3_turnAll 4 = .ok (.getfield 29, 3) := by decide +kernel
theorem dX3_turnAll_7 : decode cX3_turnAll 7 = .ok (.getfield 129, 3) := by decide +kernel
theorem dX3_turnAll_10 : decode cX3_turnAll 10 = .ok (.if_icmp .ge 64, 3) := by decide +kernel
theorem dX3_turnAll_13 : decode cX3_turnAll 13 = .ok (.aload_n 0, 1) := by decide +kernel
theorem dX3_turnAll_14 : decode cX3_turnAll 14 = .ok (.getfield 29, 3) := by decide +kernel
theorem dX3_turnAll_17 : decode cX3_turnAll 17 = .ok (.iload_n 1, 1) := by decide +kernel
theorem dX3_turnAll_18 : decode cX3_turnAll 18 = .ok (.iconst 0, 1) := by decide +kernel
theorem dX3_turnAll_19 : decode cX3_turnAll 19 = .ok (.invokevirtual 132, 3) := by decide +kernel
theorem dX3_turnAll_22 : decode cX3_turnAll 22 = .ok (.iconst 0, 1) := by decide +kernel
theorem dX3_turnAll_23 : decode cX3_turnAll 23 = .ok (.istore_n 2, 1) := by decide +kernel
theorem dX3_turnAll_24 : decode cX3_turnAll 24 = .ok (.iload_n 2, 1) := by decide +kernel
theorem dX3_turnAll_25 : decode cX3_turnAll 25 = .ok (.aload_n 0, 1) := by decide +kernel
theorem dX3_turnAll_26 : decode cX3_turnAll 26 = .ok (.getfield 29, 3) := by decide +kernel
theorem dX3_turnAll_29 : decode cX3_turnAll 29 = .ok (.getfield 135, 3) := by decide +kernel
theorem dX3_turnAll_32 : decode cX3_turnAll 32 = .ok (.iload_n 1, 1) := by decide +kernel
theorem dX3_turnAll_33 : decode cX3_turnAll 33 = .ok (.iaload, 1) := by decide +kernel
theorem dX3_turnAll_34 : decode cX3_turnAll 34 = .ok (.if_icmp .ge 34, 3) := by decide +kernel
theorem dX3_turnAll_37 : decode cX3_turnAll 37 = .ok (.aload_n 0, 1) := by decide +kernel
theorem dX3_turnAll_38 : decode cX3_turnAll 38 = .ok (.dup, 1) := by decide +kernel
theorem dX3_turnAll_39 : decode cX3_turnAll 39 = .ok (.getfield 64, 3) := by decide +kernel
theorem dX3_turnAll_42 : decode cX3_turnAll 42 = .ok (.aload_n 0, 1) := by decide +kernel
theorem dX3_turnAll_43 : decode cX3_turnAll 43 = .ok (.getfield 42, 3) := by decide +kernel
theorem dX3_turnAll_46 : decode cX3_turnAll 46 = .ok (.aload_n 0, 1) := by decide +kernel
theorem dX3_turnAll_47 : decode cX3_turnAll 47 = .ok (.getfield 29, 3) := by decide +kernel
theorem dX3_turnAll_50 : decode cX3_turnAll 50 = .ok (.getfield 138, 3) := by decide +kernel
theorem dX3_turnAll_53 : decode cX3_turnAll 53 = .ok (.iload_n 1, 1) := by decide +kernel
theorem dX3_turnAll_54 : decode cX3_turnAll 54 = .ok (.aaload, 1) := by decide +kernel
theorem dX3_turnAll_55 : decode cX3_turnAll 55 = .ok (.iload_n 2, 1) := by decide +kernel
theorem dX3_turnAll_56 : decode cX3_turnAll 56 = .ok (.iaload, 1) := by decide +kernel
theorem dX3_turnAll_57 : decode cX3_turnAll 57 = .ok (.iaload, 1) := by decide +kernel
theorem dX3_turnAll_58 : decode cX3_turnAll 58 = .ok (.iadd, 1) := by decide +kernel
theorem dX3_turnAll_59 : decode cX3_turnAll 59 = .ok (.putfield 64, 3) := by decide +kernel
theorem dX3_turnAll_62 : decode cX3_turnAll 62 = .ok (.iinc 2 1, 3) := by decide +kernel
theorem dX3_turnAll_65 : decode cX3_turnAll 65 = .ok (.goto (-41), 3) := by decide +kernel
theorem dX3_turnAll_68 : decode cX3_turnAll 68 = .ok (.iinc 1 1, 3) := by decide +kernel
theorem dX3_turnAll_71 : decode cX3_turnAll 71 = .ok (.goto (-69), 3) := by decide +kernel
theorem dX3_turnAll_74 : decode cX3_turnAll 74 = .ok (.return_, 1) := by decide +kernel
theorem dX3_goOne_0 : decode cX3_goOne 0 = .ok (.aload_n 0, 1) := by decide +kernel
theorem dX3_goOne_1 : decode cX3_goOne 1 = .ok (.getfield 52, 3) := by decide +kernel
theorem dX3_goOne_4 : decode cX3_goOne 4 = .ok (.iload_n 1, 1) := by decide +kernel
theorem dX3_goOne_5 : decode cX3_goOne 5 = .ok (.aload_n 0, 1) := by decide +kernel
theorem dX3_goOne_6 : decode cX3_goOne 6 = .ok (.getfield 34, 3) := by decide +kernel
theorem dX3_goOne_9 : decode cX3_goOne 9 = .ok (.iload_n 1, 1) := by decide +kernel
theorem dX3_goOne_10 : decode cX3_goOne 10 = .ok (.iaload, 1) := by decide +kernel
theorem dX3_goOne_11 : decode cX3_goOne 11 = .ok (.iastore, 1) := by decide +kernel
theorem dX3_goOne_12 : decode cX3_goOne 12 = .ok (.aload_n 0, 1) := by decide +kernel
theorem dX3_goOne_13 : decode cX3_goOne 13 = .ok (.getfield 55, 3) := by decide +kernel
theorem dX3_goOne_16 : decode cX3_goOne 16 = .ok (.iload_n 1, 1) := by decide +kernel
theorem dX3_goOne_17 : decode cX3_goOne 17 = .ok (.aload_n 0, 1) := by decide +kernel
theorem dX3_goOne_18 : decode cX3_goOne 18 = .ok (.getfield 34, 3) := by decide +kernel
theorem dX3_goOne_21 : decode cX3_goOne 21 = .ok (.iload_n 1, 1) := by decide +kernel
theorem dX3_goOne_22 : decode cX3_goOne 22 = .ok (.iaload, 1) := by decide +kernel
theorem dX3_goOne_23 : decode cX3_goOne 23 = .ok (.iastore, 1) := by decide +kernel
theorem dX3_goOne_24 : decode cX3_goOne 24 = .ok (.aload_n 0, 1) := by decide +kernel
theorem dX3_goOne_25 : decode cX3_goOne 25 = .ok (.getfield 29, 3) := by decide +kernel
theorem dX3_goOne_28 : decode cX3_goOne 28 = .ok (.iload_n 1, 1) := by decide +kernel
theorem dX3_goOne_29 : decode cX3_goOne 29 = .ok (.invokevirtual 142, 3) := by decide +kernel
theorem dX3_goOne_32 : decode cX3_goOne 32 = .ok (.ifCond .eq 21, 3) := by decide +kernel
theorem dX3_goOne_35 : decode cX3_goOne 35 = .ok (.aload_n 0, 1) := by decide +kernel
theorem dX3_goOne_36 : decode cX3_goOne 36 = .ok (.getfield 58, 3) := by decide +kernel
theorem dX3_goOne_39 : decode cX3_goOne 39 = .ok (.iload_n 1, 1) := by decide +kernel
theorem dX3_goOne_40 : decode cX3_goOne 40 = .ok (.iload_n 1, 1) := by decide +kernel
theorem dX3_goOne_41 : decode cX3_goOne 41 = .ok (.iastore, 1) := by decide +kernel
theorem dX3_goOne_42 : decode cX3_goOne 42 = .ok (.aload_n 0, 1) := by decide +kernel
theorem dX3_goOne_43 : decode cX3_goOne 43 = .ok (.getfield 29, 3) := by decide +kernel
theorem dX3_goOne_46 : decode cX3_goOne 46 = .ok (.getfield 109, 3) := by decide +kernel
theorem dX3_goOne_49 : decode cX3_goOne 49 = .ok (.iload_n 1, 1) := by decide +kernel
theorem dX3_goOne_50 : decode cX3_goOne 50 = .ok (.iconst (-1), 1) := by decide +kernel
theorem dX3_goOne_51 : decode cX3_goOne 51 = .ok (.iastore, 1) := by decide +kernel
theorem dX3_goOne_52 : decode cX3_goOne 52 = .ok (.return_, 1) := by decide +kernel
theorem dX3_goOne_53 : decode cX3_goOne 53 = .ok (.aload_n 0, 1) := by decide +kernel
theorem dX3_goOne_54 : decode cX3_goOne 54 = .ok (.getfield 52, 3) := by decide +kernel
theorem dX3_goOne_57 : decode cX3_goOne 57 = .ok (.iload_n 1, 1) := by decide +kernel
theorem dX3_goOne_58 : decode cX3_goOne 58 = .ok (.aload_n 0, 1) := by decide +kernel
theorem dX3_goOne_59 : decode cX3_goOne 59 = .ok (.getfield 34, 3) := by decide +kernel
theorem dX3_goOne_62 : decode cX3_goOne 62 = .ok (.iload_n 1, 1) := by decide +kernel
theorem dX3_goOne_63 : decode cX3_goOne 63 = .ok (.iaload, 1) := by decide +kernel
theorem dX3_goOne_64 : decode cX3_goOne 64 = .ok (.aload_n 0, 1) := by decide +kernel
theorem dX3_goOne_65 : decode cX3_goOne 65 = .ok (.getfield 68, 3) := by decide +kernel
theorem dX3_goOne_68 : decode cX3_goOne 68 = .ok (.invokestatic 145, 3) := by decide +kernel
theorem dX3_goOne_71 : decode cX3_goOne 71 = .ok (.iastore, 1) := by decide +kernel
theorem dX3_goOne_72 : decode cX3_goOne 72 = .ok (.aload_n 0, 1) := by decide +kernel
theorem dX3_goOne_73 : decode cX3_goOne 73 = .ok (.getfield 29, 3) := by decide +kernel
theorem dX3_goOne_76 : decode cX3_goOne 76 = .ok (.iload_n 1, 1) := by decide +kernel
theorem dX3_goOne_77 : decode cX3_goOne 77 = .ok (.invokevirtual 150, 3) := by decide +kernel
theorem dX3_goOne_80 : decode cX3_goOne 80 = .ok (.ifCond .eq 15, 3) := by decide +kernel
theorem dX3_goOne_83 : decode cX3_goOne 83 = .ok (.aload_n 0, 1) := by decide +kernel
theorem dX3_goOne_84 : decode cX3_goOne 84 = .ok (.getfield 29, 3) := by decide +kernel
theorem dX3_goOne_87 : decode cX3_goOne 87 = .ok (.getfield 109, 3) := by decide +kernel
theorem dX3_goOne_90 : decode cX3_goOne 90 = .ok (.iload_n 1, 1) := by decide +kernel
theorem dX3_goOne_91 : decode cX3_goOne 91 = .ok (.iaload, 1) := by decide +kernel
theorem dX3_goOne_92 : decode cX3_goOne 92 = .ok (.goto 7, 3) := by decide +kernel
theorem dX3_goOne_95 : decode cX3_goOne 95 = .ok (.aload_n 0, 1) := by decide +kernel
theorem dX3_goOne_96 : decode cX3_goOne 96 = .ok (.invokevirtual 153, 3) := by decide +kernel
theorem dX3_goOne_99 : decode cX3_goOne 99 = .ok (.istore_n 2, 1) := by decide +kernel
theorem dX3_goOne_100 : decode cX3_goOne 100 = .ok (.iload_n 2, 1) := by decide +kernel
theorem dX3_goOne_101 : decode cX3_goOne 101 = .ok (.bipush (-4), 2) := by decide +kernel
theorem dX3_goOne_103 : decode cX3_goOne 103 = .ok (.if_icmp .eq 9, 3) := by decide +kernel
theorem dX3_goOne_106 : decode cX3_goOne 106 = .ok (.aload_n 0, 1) := by decide +kernel
theorem dX3_goOne_107 : decode cX3_goOne 107 = .ok (.iload_n 1, 1) := by decide +kernel
theorem dX3_goOne_108 : decode cX3_goOne 108 = .ok (.iload_n 2, 1) := by decide +kernel
theorem dX3_goOne_109 : decode cX3_goOne 109 = .ok (.invokevirtual 157, 3) := by decide +kernel
theorem dX3_goOne_112 : decode cX3_goOne 112 = .ok (.aload_n 0, 1) := by decide +kernel
theorem dX3_goOne_113 : decode cX3_goOne 113 = .ok (.getfield 55, 3) := by decide +kernel
theorem dX3_goOne_116 : decode cX3_goOne 116 = .ok (.iload_n 1, 1) := by decide +kernel
theorem dX3_goOne_117 : decode cX3_goOne 117 = .ok (.aload_n 0, 1) := by decide +kernel
theorem dX3_goOne_118 : decode cX3_goOne 118 = .ok (.getfield 52, 3) := by decide +kernel
theorem dX3_goOne_121 : decode cX3_goOne 121 = .ok (.iload_n 1, 1) := by decide +kernel
theorem dX3_goOne_122 : decode cX3_goOne 122 = .ok (.iaload, 1) := by decide +kernel
theorem dX3_goOne_123 : decode cX3_goOne 123 = .ok (.aload_n 0, 1) := by decide +kernel
theorem dX3_goOne_124 : decode cX3_goOne 124 = .ok (.getfield 49, 3) := by decide +kernel
theorem dX3_goOne_127 : decode cX3_goOne 127 = .ok (.iload_n 1, 1) := by decide +kernel
theorem dX3_goOne_128 : decode cX3_goOne 128 = .ok (.iaload, 1) := by decide +kernel
theorem dX3_goOne_129 : decode cX3_goOne 129 = .ok (.iadd, 1) := by decide +kernel
theorem dX3_goOne_130 : decode cX3_goOne 130 = .ok (.iastore, 1) := by decide +kernel
theorem dX3_goOne_131 : decode cX3_goOne 131 = .ok (.aload_n 0, 1) := by decide +kernel
theorem dX3_goOne_132 : decode cX3_goOne 132 = .ok (.aload_n 0, 1) := by decide +kernel
theorem dX3_goOne_133 : decode cX3_goOne 133 = .ok (.getfield 55, 3) := by decide +kernel
theorem dX3_goOne_136 : decode cX3_goOne 136 = .ok (.iload_n 1, 1) := by decide +kernel
theorem dX3_goOne_137 : decode cX3_goOne 137 = .ok (.iaload, 1) := by decide +kernel
theorem dX3_goOne_138 : decode cX3_goOne 138 = .ok (.putfield 68, 3) := by decide +kernel
theorem dX3_goOne_141 : decode cX3_goOne 141 = .ok (.return_, 1) := by decide +kernel
theorem dX3_heapWithBlack_0 : decode cX3_heapWithBlack 0 = .ok (.iconst 0, 1) := by decide +kernel
theorem dX3_heapWithBlack_1 : decode cX3_heapWithBlack 1 = .ok (.istore_n 1, 1) := by decide +kernel
theorem dX3_heapWithBlack_2 : decode cX3_heapWithBlack 2 = .ok (.iload_n 1, 1) := by decide +kernel
theorem dX3_heapWithBlack_3 : decode cX3_heapWithBlack 3 = .ok (.aload_n 0, 1) := by decide +kernel
theorem dX3_heapWithBlack_4 : decode cX3_heapWithBlack 4 = .ok (.getfield 29, 3) := by decide +kernel
theorem dX3_heapWithBlack_7 : decode cX3_heapWithBlack 7 = .ok (.getfield 129, 3) := by decide +kernel
theorem dX3_heapWithBlack_10 : decode cX3_heapWithBlack 10 = .ok (.if_icmp .ge 51, 3) := by decide +kernel
theorem dX3_heapWithBlack_13 : decode cX3_heapWithBlack 13 = .ok (.iconst 0, 1) := by decide +kernel
theorem dX3_heapWithBlack_14 : decode cX3_heapWithBlack 14 = .ok (.istore_n 2, 1) := by decide +kernel
theorem dX3_heapWithBlack_15 : decode cX3_heapWithBlack 15 = .ok (.iload_n 2, 1) := by decide +kernel
theorem dX3_heapWithBlack_16 : decode cX3_heapWithBlack 16 = .ok (.aload_n 0, 1) := by decide +kernel
theorem dX3_heapWithBlack_17 : decode cX3_heapWithBlack 17 = .ok (.getfield 29, 3) := by decide +kernel
theorem dX3_heapWithBlack_20 : decode cX3_heapWithBlack 20 = .ok (.getfield 135, 3) := by decide +kernel
theorem dX3_heapWithBlack_23 : decode cX3_heapWithBlack 23 = .ok (.iload_n 1, 1) := by decide +kernel
theorem dX3_heapWithBlack_24 : decode cX3_heapWithBlack 24 = .ok (.iaload, 1) := by decide +kernel
theorem dX3_heapWithBlack_25 : decode cX3_heapWithBlack 25 = .ok (.if_icmp .ge 30, 3) := by decide +kernel
theorem dX3_heapWithBlack_28 : decode cX3_heapWithBlack 28 = .ok (.aload_n 0, 1) := by decide +kernel
theorem dX3_heapWithBlack_29 : decode cX3_heapWithBlack 29 = .ok (.getfield 45, 3) := by decide +kernel
theorem dX3_heapWithBlack_32 : decode cX3_heapWithBlack 32 = .ok (.aload_n 0, 1) := by decide +kernel
theorem dX3_heapWithBlack_33 : decode cX3_heapWithBlack 33 = .ok (.getfield 29, 3) := by decide +kernel
theorem dX3_heapWithBlack_36 : decode cX3_heapWithBlack 36 = .ok (.getfield 138, 3) := by decide +kernel
theorem dX3_heapWithBlack_39 : decode cX3_heapWithBlack 39 = .ok (.iload_n 1, 1) := by decide +kernel
theorem dX3_heapWithBlack_40 : decode cX3_heapWithBlack 40 = .ok (.aaload, 1) := by decide +kernel
theorem dX3_heapWithBlack_41 : decode cX3_heapWithBlack 41 = .ok (.iload_n 2, 1) := by decide +kernel
theorem dX3_heapWithBlack_42 : decode cX3_heapWithBlack 42 = .ok (.iaload, 1) := by decide +kernel
theorem dX3_heapWithBlack_43 : decode cX3_heapWithBlack 43 = .ok (.baload, 1) := by decide +kernel
theorem dX3_heapWithBlack_44 : decode cX3_heapWithBlack 44 = .ok (.ifCond .eq 5, 3) := by decide +kernel
theorem dX3_heapWithBlack_47 : decode cX3_heapWithBlack 47 = .ok (.iload_n 1, 1) := by decide +kernel
theorem dX3_heapWithBlack_48 : decode cX3_heapWithBlack 48 = .ok (.ireturn, 1) := by decide +kernel
theorem dX3_heapWithBlack_49 : decode cX3_heapWithBlack 49 = .ok (.iinc 2 1, 3) := by decide +kernel
theorem dX3_heapWithBlack_52 : decode cX3_heapWithBlack 52 = .ok (.goto (-37), 3) := by decide +kernel
theorem dX3_heapWithBlack_55 : decode cX3_heapWithBlack 55 = .ok (.iinc 1 1, 3) := by decide +kernel
theorem dX3_heapWithBlack_58 : decode cX3_heapWithBlack 58 = .ok (.goto (-56), 3) := by decide +kernel
theorem dX3_heapWithBlack_61 : decode cX3_heapWithBlack 61 = .ok (.bipush (-4), 2) := by decide +kernel
theorem dX3_heapWithBlack_63 : decode cX3_heapWithBlack 63 = .ok (.ireturn, 1) := by decide +kernel
theorem dX3_dig_0 : decode cX3_dig 0 = .ok (.aload_n 0, 1) := by decide +kernel
theorem dX3_dig_1 : decode cX3_dig 1 = .ok (.getfield 29, 3) := by decide +kernel
theorem dX3_dig_4 : decode cX3_dig 4 = .ok (.getfield 135, 3) := by decide +kernel
theorem dX3_dig_7 : decode cX3_dig 7 = .ok (.iload_n 2, 1) := by decide +kernel
theorem dX3_dig_8 : decode cX3_dig 8 = .ok (.iaload, 1) := by decide +kernel
theorem dX3_dig_9 : decode cX3_dig 9 = .ok (.iconst 1, 1) := by decide +kernel
theorem dX3_dig_10 : decode cX3_dig 10 = .ok (.isub, 1) := by decide +kernel
theorem dX3_dig_11 : decode cX3_dig 11 = .ok (.istore_n 3, 1) := by decide +kernel
theorem dX3_dig_12 : decode cX3_dig 12 = .ok (.iload_n 3, 1) := by decide +kernel
theorem dX3_dig_13 : decode cX3_dig 13 = .ok (.ifCond .lt 84, 3) := by decide +kernel
theorem dX3_dig_16 : decode cX3_dig 16 = .ok (.aload_n 0, 1) := by decide +kernel
theorem dX3_dig_17 : decode cX3_dig 17 = .ok (.iload_n 1, 1) := by decide +kernel
theorem dX3_dig_18 : decode cX3_dig 18 = .ok (.aload_n 0, 1) := by decide +kernel
theorem dX3_dig_19 : decode cX3_dig 19 = .ok (.getfield 29, 3) := by decide +kernel
theorem dX3_dig_22 : decode cX3_dig 22 = .ok (.getfield 138, 3) := by decide +kernel
theorem dX3_dig_25 : decode cX3_dig 25 = .ok (.iload_n 2, 1) := by decide +kernel
theorem dX3_dig_26 : decode cX3_dig 26 = .ok (.aaload, 1) := by decide +kernel
theorem dX3_dig_27 : decode cX3_dig 27 = .ok (.iload_n 3, 1) := by decide +kernel
theorem dX3_dig_28 : decode cX3_dig 28 = .ok (.iaload, 1) := by decide +kernel
theorem dX3_dig_29 : decode cX3_dig 29 = .ok (.invokevirtual 160, 3) := by decide +kernel
theorem dX3_dig_32 : decode cX3_dig 32 = .ok (.ifCond .ne 65, 3) := by decide +kernel
theorem dX3_dig_35 : decode cX3_dig 35 = .ok (.aload_n 0, 1) := by decide +kernel
theorem dX3_dig_36 : decode cX3_dig 36 = .ok (.getfield 29, 3) := by decide +kernel
theorem dX3_dig_39 : decode cX3_dig 39 = .ok (.getfield 138, 3) := by decide +kernel
theorem dX3_dig_42 : decode cX3_dig 42 = .ok (.iload_n 2, 1) := by decide +kernel
theorem dX3_dig_43 : decode cX3_dig 43 = .ok (.aaload, 1) := by decide +kernel
theorem dX3_dig_44 : decode cX3_dig 44 = .ok (.iload_n 3, 1) := by decide +kernel
theorem dX3_dig_45 : decode cX3_dig 45 = .ok (.iaload, 1) := by decide +kernel
theorem dX3_dig_46 : decode cX3_dig 46 = .ok (.istore 4, 2) := by decide +kernel
theorem dX3_dig_48 : decode cX3_dig 48 = .ok (.aload_n 0, 1) := by decide +kernel
theorem dX3_dig_49 : decode cX3_dig 49 = .ok (.getfield 49, 3) := by decide +kernel
theorem dX3_dig_52 : decode cX3_dig 52 = .ok (.iload_n 1, 1) := by decide +kernel
theorem dX3_dig_53 : decode cX3_dig 53 = .ok (.dup2, 1) := by decide +kernel
theorem dX3_dig_54 : decode cX3_dig 54 = .ok (.iaload, 1) := by decide +kernel
theorem dX3_dig_55 : decode cX3_dig 55 = .ok (.aload_n 0, 1) := by decide +kernel
theorem dX3_dig_56 : decode cX3_dig 56 = .ok (.getfield 42, 3) := by decide +kernel
theorem dX3_dig_59 : decode cX3_dig 59 = .ok (.iload 4, 2) := by decide +kernel
theorem dX3_dig_61 : decode cX3_dig 61 = .ok (.iaload, 1) := by decide +kernel
theorem dX3_dig_62 : decode cX3_dig 62 = .ok (.iadd, 1) := by decide +kernel
theorem dX3_dig_63 : decode cX3_dig 63 = .ok (.iastore, 1) := by decide +kernel
theorem dX3_dig_64 : decode cX3_dig 64 = .ok (.aload_n 0, 1) := by decide +kernel
theorem dX3_dig_65 : decode cX3_dig 65 = .ok (.dup, 1) := by decide +kernel
theorem dX3_dig_66 : decode cX3_dig 66 = .ok (.getfield 64, 3) := by decide +kernel
theorem dX3_dig_69 : decode cX3_dig 69 = .ok (.aload_n 0, 1) := by decide +kernel
theorem dX3_dig_70 : decode cX3_dig 70 = .ok (.getfield 42, 3) := by decide +kernel
theorem dX3_dig_73 : decode cX3_dig 73 = .ok (.iload 4, 2) := by decide +kernel
theorem dX3_dig_75 : decode cX3_dig 75 = .ok (.iaload, 1) := by decide +kernel
theorem dX3_dig_76 : decode cX3_dig 76 = .ok (.iadd, 1) := by decide +kernel
theorem dX3_dig_77 : decode cX3_dig 77 = .ok (.putfield 64, 3) := by decide +kernel
theorem dX3_dig_80 : decode cX3_dig 80 = .ok (.aload_n 0, 1) := by decide +kernel
theorem dX3_dig_81 : decode cX3_dig 81 = .ok (.getfield 61, 3) := by decide +kernel
theorem dX3_dig_84 : decode cX3_dig 84 = .ok (.iload 4, 2) := by decide +kernel
theorem dX3_dig_86 : decode cX3_dig 86 = .ok (.dup2, 1) := by decide +kernel
theorem dX3_dig_87 : decode cX3_dig 87 = .ok (.iaload, 1) := by decide +kernel
theorem dX3_dig_88 : decode cX3_dig 88 = .ok (.iconst 1, 1) := by decide +kernel
theorem dX3_dig_89 : decode cX3_dig 89 = .ok (.iadd, 1) := by decide +kernel
theorem dX3_dig_90 : decode cX3_dig 90 = .ok (.iastore, 1) := by decide +kernel
theorem dX3_dig_91 : decode cX3_dig 91 = .ok (.iinc 3 (-1), 3) := by decide +kernel
theorem dX3_dig_94 : decode cX3_dig 94 = .ok (.goto (-82), 3) := by decide +kernel
theorem dX3_dig_97 : decode cX3_dig 97 = .ok (.iload_n 3, 1) := by decide +kernel
theorem dX3_dig_98 : decode cX3_dig 98 = .ok (.ifCond .ge 4, 3) := by decide +kernel
theorem dX3_dig_101 : decode cX3_dig 101 = .ok (.return_, 1) := by decide +kernel
theorem dX3_dig_102 : decode cX3_dig 102 = .ok (.aload_n 0, 1) := by decide +kernel
theorem dX3_dig_103 : decode cX3_dig 103 = .ok (.getfield 58, 3) := by decide +kernel
theorem dX3_dig_106 : decode cX3_dig 106 = .ok (.iload_n 1, 1) := by decide +kernel
theorem dX3_dig_107 : decode cX3_dig 107 = .ok (.aload_n 0, 1) := by decide +kernel
theorem dX3_dig_108 : decode cX3_dig 108 = .ok (.getfield 29, 3) := by decide +kernel
theorem dX3_dig_111 : decode cX3_dig 111 = .ok (.getfield 138, 3) := by decide +kernel
theorem dX3_dig_114 : decode cX3_dig 114 = .ok (.iload_n 2, 1) := by decide +kernel
theorem dX3_dig_115 : decode cX3_dig 115 = .ok (.aaload, 1) := by decide +kernel
theorem dX3_dig_116 : decode cX3_dig 116 = .ok (.iload_n 3, 1) := by decide +kernel
theorem dX3_dig_117 : decode cX3_dig 117 = .ok (.iaload, 1) := by decide +kernel
theorem dX3_dig_118 : decode cX3_dig 118 = .ok (.iastore, 1) := by decide +kernel
theorem dX3_dig_119 : decode cX3_dig 119 = .ok (.aload_n 0, 1) := by decide +kernel
theorem dX3_dig_120 : decode cX3_dig 120 = .ok (.getfield 29, 3) := by decide +kernel
theorem dX3_dig_123 : decode cX3_dig 123 = .ok (.iload_n 2, 1) := by decide +kernel
theorem dX3_dig_124 : decode cX3_dig 124 = .ok (.iload_n 3, 1) := by decide +kernel
theorem dX3_dig_125 : decode cX3_dig 125 = .ok (.invokevirtual 164, 3) := by decide +kernel
theorem dX3_dig_128 : decode cX3_dig 128 = .ok (.aload_n 0, 1) := by decide +kernel
theorem dX3_dig_129 : decode cX3_dig 129 = .ok (.getfield 12, 3) := by decide +kernel
theorem dX3_dig_132 : decode cX3_dig 132 = .ok (.getfield 93, 3) := by decide +kernel
theorem dX3_dig_135 : decode cX3_dig 135 = .ok (.iconst 2, 1) := by decide +kernel
theorem dX3_dig_136 : decode cX3_dig 136 = .ok (.iaload, 1) := by decide +kernel
theorem dX3_dig_137 : decode cX3_dig 137 = .ok (.istore 4, 2) := by decide +kernel
theorem dX3_dig_139 : decode cX3_dig 139 = .ok (.iload 4, 2) := by decide +kernel
theorem dX3_dig_141 : decode cX3_dig 141 = .ok (.iconst 2, 1) := by decide +kernel
theorem dX3_dig_142 : decode cX3_dig 142 = .ok (.if_icmp .ne 26, 3) := by decide +kernel
theorem dX3_dig_145 : decode cX3_dig 145 = .ok (.aload_n 0, 1) := by decide +kernel
theorem dX3_dig_146 : decode cX3_dig 146 = .ok (.getfield 29, 3) := by decide +kernel
theorem dX3_dig_149 : decode cX3_dig 149 = .ok (.getfield 129, 3) := by decide +kernel
theorem dX3_dig_152 : decode cX3_dig 152 = .ok (.iconst 1, 1) := by decide +kernel
theorem dX3_dig_153 : decode cX3_dig 153 = .ok (.if_icmp .le 15, 3) := by decide +kernel
theorem dX3_dig_156 : decode cX3_dig 156 = .ok (.aload_n 0, 1) := by decide +kernel
theorem dX3_dig_157 : decode cX3_dig 157 = .ok (.getfield 29, 3) := by decide +kernel
theorem dX3_dig_160 : decode cX3_dig 160 = .ok (.iload_n 2, 1) := by decide +kernel
theorem dX3_dig_161 : decode cX3_dig 161 = .ok (.iload_n 3, 1) := by decide +kernel
theorem dX3_dig_162 : decode cX3_dig 162 = .ok (.invokevirtual 167, 3) := by decide +kernel
theorem dX3_dig_165 : decode cX3_dig 165 = .ok (.goto 17, 3) := by decide +kernel
theorem dX3_dig_168 : decode cX3_dig 168 = .ok (.iload 4, 2) := by decide +kernel
theorem dX3_dig_170 : decode cX3_dig 170 = .ok (.ifCond .eq 12, 3) := by decide +kernel
theorem dX3_dig_173 : decode cX3_dig 173 = .ok (.aload_n 0, 1) := by decide +kernel
theorem dX3_dig_174 : decode cX3_dig 174 = .ok (.getfield 29, 3) := by decide +kernel
theorem dX3_dig_177 : decode cX3_dig 177 = .ok (.iload_n 2, 1) := by decide +kernel
theorem dX3_dig_178 : decode cX3_dig 178 = .ok (.iload_n 3, 1) := by decide +kernel
theorem dX3_dig_179 : decode cX3_dig 179 = .ok (.invokevirtual 132, 3) := by decide +kernel
theorem dX3_dig_182 : decode cX3_dig 182 = .ok (.return_, 1) := by decide +kernel
theorem dX3_takes_0 : decode cX3_takes 0 = .ok (.iload_n 2, 1) := by decide +kernel
theorem dX3_takes_1 : decode cX3_takes 1 = .ok (.iload_n 1, 1) := by decide +kernel
theorem dX3_takes_2 : decode cX3_takes 2 = .ok (.if_icmp .eq 34, 3) := by decide +kernel
theorem dX3_takes_5 : decode cX3_takes 5 = .ok (.aload_n 0, 1) := by decide +kernel
theorem dX3_takes_6 : decode cX3_takes 6 = .ok (.getfield 12, 3) := by decide +kernel
theorem dX3_takes_9 : decode cX3_takes 9 = .ok (.getfield 93, 3) := by decide +kernel
theorem dX3_takes_12 : decode cX3_takes 12 = .ok (.iconst 3, 1) := by decide +kernel
theorem dX3_takes_13 : decode cX3_takes 13 = .ok (.iaload, 1) := by decide +kernel
theorem dX3_takes_14 : decode cX3_takes 14 = .ok (.iconst 1, 1) := by decide +kernel
theorem dX3_takes_15 : decode cX3_takes 15 = .ok (.if_icmp .ne 25, 3) := by decide +kernel
theorem dX3_takes_18 : decode cX3_takes 18 = .ok (.aload_n 0, 1) := by decide +kernel
theorem dX3_takes_19 : decode cX3_takes 19 = .ok (.getfield 45, 3) := by decide +kernel
theorem dX3_takes_22 : decode cX3_takes 22 = .ok (.iload_n 1, 1) := by decide +kernel
theorem dX3_takes_23 : decode cX3_takes 23 = .ok (.baload, 1) := by decide +kernel
theorem dX3_takes_24 : decode cX3_takes 24 = .ok (.ifCond .eq 16, 3) := by decide +kernel
theorem dX3_takes_27 : decode cX3_takes 27 = .ok (.aload_n 0, 1) := by decide +kernel
theorem dX3_takes_28 : decode cX3_takes 28 = .ok (.getfield 45, 3) := by decide +kernel
theorem dX3_takes_31 : decode cX3_takes 31 = .ok (.iload_n 2, 1) := by decide +kernel
theorem dX3_takes_32 : decode cX3_takes 32 = .ok (.baload, 1) := by decide +kernel
theorem dX3_takes_33 : decode cX3_takes 33 = .ok (.ifCond .eq 7, 3) := by decide +kernel
theorem dX3_takes_36 : decode cX3_takes 36 = .ok (.iconst 1, 1) := by decide +kernel
theorem dX3_takes_37 : decode cX3_takes 37 = .ok (.goto 4, 3) := by decide +kernel
theorem dX3_takes_40 : decode cX3_takes 40 = .ok (.iconst 0, 1) := by decide +kernel
theorem dX3_takes_41 : decode cX3_takes 41 = .ok (.ireturn, 1) := by decide +kernel
theorem dX3_placeOf_0 : decode cX3_placeOf 0 = .ok (.iconst 0, 1) := by decide +kernel
theorem dX3_placeOf_1 : decode cX3_placeOf 1 = .ok (.istore_n 2, 1) := by decide +kernel
theorem dX3_placeOf_2 : decode cX3_placeOf 2 = .ok (.iload_n 2, 1) := by decide +kernel
theorem dX3_placeOf_3 : decode cX3_placeOf 3 = .ok (.aload_n 0, 1) := by decide +kernel
theorem dX3_placeOf_4 : decode cX3_placeOf 4 = .ok (.getfield 12, 3) := by decide +kernel
theorem dX3_placeOf_7 : decode cX3_placeOf 7 = .ok (.getfield 71, 3) := by decide +kernel
theorem dX3_placeOf_10 : decode cX3_placeOf 10 = .ok (.if_icmp .ge 21, 3) := by decide +kernel
theorem dX3_placeOf_13 : decode cX3_placeOf 13 = .ok (.aload_n 0, 1) := by decide +kernel
theorem dX3_placeOf_14 : decode cX3_placeOf 14 = .ok (.getfield 39, 3) := by decide +kernel
theorem dX3_placeOf_17 : decode cX3_placeOf 17 = .ok (.iload_n 2, 1) := by decide +kernel
theorem dX3_placeOf_18 : decode cX3_placeOf 18 = .ok (.iaload, 1) := by decide +kernel
theorem dX3_placeOf_19 : decode cX3_placeOf 19 = .ok (.iload_n 1, 1) := by decide +kernel
theorem dX3_placeOf_20 : decode cX3_placeOf 20 = .ok (.if_icmp .ne 5, 3) := by decide +kernel
theorem dX3_placeOf_23 : decode cX3_placeOf 23 = .ok (.iload_n 2, 1) := by decide +kernel
theorem dX3_placeOf_24 : decode cX3_placeOf 24 = .ok (.ireturn, 1) := by decide +kernel
theorem dX3_placeOf_25 : decode cX3_placeOf 25 = .ok (.iinc 2 1, 3) := by decide +kernel
theorem dX3_placeOf_28 : decode cX3_placeOf 28 = .ok (.goto (-26), 3) := by decide +kernel
theorem dX3_placeOf_31 : decode cX3_placeOf 31 = .ok (.bipush (-4), 2) := by decide +kernel
theorem dX3_placeOf_33 : decode cX3_placeOf 33 = .ok (.ireturn, 1) := by decide +kernel
theorem dX3_firstFromMinute_0 : decode cX3_firstFromMinute 0 = .ok (.iconst 0, 1) := by decide +kernel
theorem dX3_firstFromMinute_1 : decode cX3_firstFromMinute 1 = .ok (.istore_n 2, 1) := by decide +kernel
theorem dX3_firstFromMinute_2 : decode cX3_firstFromMinute 2 = .ok (.iload_n 2, 1) := by decide +kernel
theorem dX3_firstFromMinute_3 : decode cX3_firstFromMinute 3 = .ok (.aload_n 0, 1) := by decide +kernel
theorem dX3_firstFromMinute_4 : decode cX3_firstFromMinute 4 = .ok (.getfield 12, 3) := by decide +kernel
theorem dX3_firstFromMinute_7 : decode cX3_firstFromMinute 7 = .ok (.getfield 71, 3) := by decide +kernel
theorem dX3_firstFromMinute_10 : decode cX3_firstFromMinute 10 = .ok (.if_icmp .ge 26, 3) := by decide +kernel
theorem dX3_firstFromMinute_13 : decode cX3_firstFromMinute 13 = .ok (.aload_n 0, 1) := by decide +kernel
theorem dX3_firstFromMinute_14 : decode cX3_firstFromMinute 14 = .ok (.getfield 34, 3) := by decide +kernel
theorem dX3_firstFromMinute_17 : decode cX3_firstFromMinute 17 = .ok (.aload_n 0, 1) := by decide +kernel
theorem dX3_firstFromMinute_18 : decode cX3_firstFromMinute 18 = .ok (.getfield 39, 3) := by decide +kernel
theorem dX3_firstFromMinute_21 : decode cX3_firstFromMinute 21 = .ok (.iload_n 2, 1) := by decide +kernel
theorem dX3_firstFromMinute_22 : decode cX3_firstFromMinute 22 = .ok (.iaload, 1) := by decide +kernel
theorem dX3_firstFromMinute_23 : decode cX3_firstFromMinute 23 = .ok (.iaload, 1) := by decide +kernel
theorem dX3_firstFromMinute_24 : decode cX3_firstFromMinute 24 = .ok (.iload_n 1, 1) := by decide +kernel
theorem dX3_firstFromMinute_25 : decode cX3_firstFromMinute 25 = .ok (.if_icmp .lt 5, 3) := by decide +kernel
theorem dX3_firstFromMinute_28 : decode cX3_firstFromMinute 28 = .ok (.iload_n 2, 1) := by decide +kernel
theorem dX3_firstFromMinute_29 : decode cX3_firstFromMinute 29 = .ok (.ireturn, 1) := by decide +kernel
theorem dX3_firstFromMinute_30 : decode cX3_firstFromMinute 30 = .ok (.iinc 2 1, 3) := by decide +kernel
theorem dX3_firstFromMinute_33 : decode cX3_firstFromMinute 33 = .ok (.goto (-31), 3) := by decide +kernel
theorem dX3_firstFromMinute_36 : decode cX3_firstFromMinute 36 = .ok (.bipush (-4), 2) := by decide +kernel
theorem dX3_firstFromMinute_38 : decode cX3_firstFromMinute 38 = .ok (.ireturn, 1) := by decide +kernel
theorem dX3_allWaiting_0 : decode cX3_allWaiting 0 = .ok (.iconst 0, 1) := by decide +kernel
theorem dX3_allWaiting_1 : decode cX3_allWaiting 1 = .ok (.istore_n 1, 1) := by decide +kernel
theorem dX3_allWaiting_2 : decode cX3_allWaiting 2 = .ok (.iconst 0, 1) := by decide +kernel
theorem dX3_allWaiting_3 : decode cX3_allWaiting 3 = .ok (.istore_n 2, 1) := by decide +kernel
theorem dX3_allWaiting_4 : decode cX3_allWaiting 4 = .ok (.iload_n 2, 1) := by decide +kernel
theorem dX3_allWaiting_5 : decode cX3_allWaiting 5 = .ok (.aload_n 0, 1) := by decide +kernel
theorem dX3_allWaiting_6 : decode cX3_allWaiting 6 = .ok (.getfield 12, 3) := by decide +kernel
theorem dX3_allWaiting_9 : decode cX3_allWaiting 9 = .ok (.getfield 71, 3) := by decide +kernel
theorem dX3_allWaiting_12 : decode cX3_allWaiting 12 = .ok (.if_icmp .ge 25, 3) := by decide +kernel
theorem dX3_allWaiting_15 : decode cX3_allWaiting 15 = .ok (.iload_n 1, 1) := by decide +kernel
theorem dX3_allWaiting_16 : decode cX3_allWaiting 16 = .ok (.aload_n 0, 1) := by decide +kernel
theorem dX3_allWaiting_17 : decode cX3_allWaiting 17 = .ok (.getfield 52, 3) := by decide +kernel
theorem dX3_allWaiting_20 : decode cX3_allWaiting 20 = .ok (.iload_n 2, 1) := by decide +kernel
theorem dX3_allWaiting_21 : decode cX3_allWaiting 21 = .ok (.iaload, 1) := by decide +kernel
theorem dX3_allWaiting_22 : decode cX3_allWaiting 22 = .ok (.aload_n 0, 1) := by decide +kernel
theorem dX3_allWaiting_23 : decode cX3_allWaiting 23 = .ok (.getfield 34, 3) := by decide +kernel
theorem dX3_allWaiting_26 : decode cX3_allWaiting 26 = .ok (.iload_n 2, 1) := by decide +kernel
theorem dX3_allWaiting_27 : decode cX3_allWaiting 27 = .ok (.iaload, 1) := by decide +kernel
theorem dX3_allWaiting_28 : decode cX3_allWaiting 28 = .ok (.isub, 1) := by decide +kernel
theorem dX3_allWaiting_29 : decode cX3_allWaiting 29 = .ok (.iadd, 1) := by decide +kernel
theorem dX3_allWaiting_30 : decode cX3_allWaiting 30 = .ok (.istore_n 1, 1) := by decide +kernel
theorem dX3_allWaiting_31 : decode cX3_allWaiting 31 = .ok (.iinc 2 1, 3) := by decide +kernel
theorem dX3_allWaiting_34 : decode cX3_allWaiting 34 = .ok (.goto (-30), 3) := by decide +kernel
theorem dX3_allWaiting_37 : decode cX3_allWaiting 37 = .ok (.iload_n 1, 1) := by decide +kernel
theorem dX3_allWaiting_38 : decode cX3_allWaiting 38 = .ok (.ireturn, 1) := by decide +kernel
theorem dX3_howManyHaveAnothers_0 : decode cX3_howManyHaveAnothers 0 = .ok (.iconst 0, 1) := by decide +kernel
theorem dX3_howManyHaveAnothers_1 : decode cX3_howManyHaveAnothers 1 = .ok (.istore_n 1, 1) := by decide +kernel
theorem dX3_howManyHaveAnothers_2 : decode cX3_howManyHaveAnothers 2 = .ok (.iconst 0, 1) := by decide +kernel
theorem dX3_howManyHaveAnothers_3 : decode cX3_howManyHaveAnothers 3 = .ok (.istore_n 2, 1) := by decide +kernel
theorem dX3_howManyHaveAnothers_4 : decode cX3_howManyHaveAnothers 4 = .ok (.iload_n 2, 1) := by decide +kernel
theorem dX3_howManyHaveAnothers_5 : decode cX3_howManyHaveAnothers 5 = .ok (.aload_n 0, 1) := by decide +kernel
theorem dX3_howManyHaveAnothers_6 : decode cX3_howManyHaveAnothers 6 = .ok (.getfield 12, 3) := by decide +kernel
theorem dX3_howManyHaveAnothers_9 : decode cX3_howManyHaveAnothers 9 = .ok (.getfield 71, 3) := by decide +kernel
theorem dX3_howManyHaveAnothers_12 : decode cX3_howManyHaveAnothers 12 = .ok (.if_icmp .ge 33, 3) := by decide +kernel
theorem dX3_howManyHaveAnothers_15 : decode cX3_howManyHaveAnothers 15 = .ok (.aload_n 0, 1) := by decide +kernel
theorem dX3_howManyHaveAnothers_16 : decode cX3_howManyHaveAnothers 16 = .ok (.getfield 58, 3) := by decide +kernel
theorem dX3_howManyHaveAnothers_19 : decode cX3_howManyHaveAnothers 19 = .ok (.iload_n 2, 1) := by decide +kernel
theorem dX3_howManyHaveAnothers_20 : decode cX3_howManyHaveAnothers 20 = .ok (.iaload, 1) := by decide +kernel
theorem dX3_howManyHaveAnothers_21 : decode cX3_howManyHaveAnothers 21 = .ok (.iload_n 2, 1) := by decide +kernel
theorem dX3_howManyHaveAnothers_22 : decode cX3_howManyHaveAnothers 22 = .ok (.if_icmp .eq 17, 3) := by decide +kernel
theorem dX3_howManyHaveAnothers_25 : decode cX3_howManyHaveAnothers 25 = .ok (.aload_n 0, 1) := by decide +kernel
theorem dX3_howManyHaveAnothers_26 : decode cX3_howManyHaveAnothers 26 = .ok (.getfield 58, 3) := by decide +kernel
theorem dX3_howManyHaveAnothers_29 : decode cX3_howManyHaveAnothers 29 = .ok (.iload_n 2, 1) := by decide +kernel
theorem dX3_howManyHaveAnothers_30 : decode cX3_howManyHaveAnothers 30 = .ok (.iaload, 1) := by decide +kernel
theorem dX3_howManyHaveAnothers_31 : decode cX3_howManyHaveAnothers 31 = .ok (.bipush (-4), 2) := by decide +kernel
theorem dX3_howManyHaveAnothers_33 : decode cX3_howManyHaveAnothers 33 = .ok (.if_icmp .eq 6, 3) := by decide +kernel
theorem dX3_howManyHaveAnothers_36 : decode cX3_howManyHaveAnothers 36 = .ok (.iinc 1 1, 3) := by decide +kernel
theorem dX3_howManyHaveAnothers_39 : decode cX3_howManyHaveAnothers 39 = .ok (.iinc 2 1, 3) := by decide +kernel
theorem dX3_howManyHaveAnothers_42 : decode cX3_howManyHaveAnothers 42 = .ok (.goto (-38), 3) := by decide +kernel
theorem dX3_howManyHaveAnothers_45 : decode cX3_howManyHaveAnothers 45 = .ok (.iload_n 1, 1) := by decide +kernel
theorem dX3_howManyHaveAnothers_46 : decode cX3_howManyHaveAnothers 46 = .ok (.ireturn, 1) := by decide +kernel
theorem dX3_howManyHaveNone_0 : decode cX3_howManyHaveNone 0 = .ok (.iconst 0, 1) := by decide +kernel
theorem dX3_howManyHaveNone_1 : decode cX3_howManyHaveNone 1 = .ok (.istore_n 1, 1) := by decide +kernel
theorem dX3_howManyHaveNone_2 : decode cX3_howManyHaveNone 2 = .ok (.iconst 0, 1) := by decide +kernel
theorem dX3_howManyHaveNone_3 : decode cX3_howManyHaveNone 3 = .ok (.istore_n 2, 1) := by decide +kernel
theorem dX3_howManyHaveNone_4 : decode cX3_howManyHaveNone 4 = .ok (.iload_n 2, 1) := by decide +kernel
theorem dX3_howManyHaveNone_5 : decode cX3_howManyHaveNone 5 = .ok (.aload_n 0, 1) := by decide +kernel
theorem dX3_howManyHaveNone_6 : decode cX3_howManyHaveNone 6 = .ok (.getfield 12, 3) := by decide +kernel
theorem dX3_howManyHaveNone_9 : decode cX3_howManyHaveNone 9 = .ok (.getfield 71, 3) := by decide +kernel
theorem dX3_howManyHaveNone_12 : decode cX3_howManyHaveNone 12 = .ok (.if_icmp .ge 23, 3) := by decide +kernel
theorem dX3_howManyHaveNone_15 : decode cX3_howManyHaveNone 15 = .ok (.aload_n 0, 1) := by decide +kernel
theorem dX3_howManyHaveNone_16 : decode cX3_howManyHaveNone 16 = .ok (.getfield 58, 3) := by decide +kernel
theorem dX3_howManyHaveNone_19 : decode cX3_howManyHaveNone 19 = .ok (.iload_n 2, 1) := by decide +kernel
theorem dX3_howManyHaveNone_20 : decode cX3_howManyHaveNone 20 = .ok (.iaload, 1) := by decide +kernel
theorem dX3_howManyHaveNone_21 : decode cX3_howManyHaveNone 21 = .ok (.bipush (-4), 2) := by decide +kernel
theorem dX3_howManyHaveNone_23 : decode cX3_howManyHaveNone 23 = .ok (.if_icmp .ne 6, 3) := by decide +kernel
theorem dX3_howManyHaveNone_26 : decode cX3_howManyHaveNone 26 = .ok (.iinc 1 1, 3) := by decide +kernel
theorem dX3_howManyHaveNone_29 : decode cX3_howManyHaveNone 29 = .ok (.iinc 2 1, 3) := by decide +kernel
theorem dX3_howManyHaveNone_32 : decode cX3_howManyHaveNone 32 = .ok (.goto (-28), 3) := by decide +kernel
theorem dX3_howManyHaveNone_35 : decode cX3_howManyHaveNone 35 = .ok (.iload_n 1, 1) := by decide +kernel
theorem dX3_howManyHaveNone_36 : decode cX3_howManyHaveNone 36 = .ok (.ireturn, 1) := by decide +kernel
theorem dX3_lastEnd_0 : decode cX3_lastEnd 0 = .ok (.iconst 0, 1) := by decide +kernel
theorem dX3_lastEnd_1 : decode cX3_lastEnd 1 = .ok (.istore_n 1, 1) := by decide +kernel
theorem dX3_lastEnd_2 : decode cX3_lastEnd 2 = .ok (.iconst 0, 1) := by decide +kernel
theorem dX3_lastEnd_3 : decode cX3_lastEnd 3 = .ok (.istore_n 2, 1) := by decide +kernel
theorem dX3_lastEnd_4 : decode cX3_lastEnd 4 = .ok (.iload_n 2, 1) := by decide +kernel
theorem dX3_lastEnd_5 : decode cX3_lastEnd 5 = .ok (.aload_n 0, 1) := by decide +kernel
theorem dX3_lastEnd_6 : decode cX3_lastEnd 6 = .ok (.getfield 12, 3) := by decide +kernel
theorem dX3_lastEnd_9 : decode cX3_lastEnd 9 = .ok (.getfield 71, 3) := by decide +kernel
theorem dX3_lastEnd_12 : decode cX3_lastEnd 12 = .ok (.if_icmp .ge 20, 3) := by decide +kernel
theorem dX3_lastEnd_15 : decode cX3_lastEnd 15 = .ok (.iload_n 1, 1) := by decide +kernel
theorem dX3_lastEnd_16 : decode cX3_lastEnd 16 = .ok (.aload_n 0, 1) := by decide +kernel
theorem dX3_lastEnd_17 : decode cX3_lastEnd 17 = .ok (.getfield 55, 3) := by decide +kernel
theorem dX3_lastEnd_20 : decode cX3_lastEnd 20 = .ok (.iload_n 2, 1) := by decide +kernel
theorem dX3_lastEnd_21 : decode cX3_lastEnd 21 = .ok (.iaload, 1) := by decide +kernel
theorem dX3_lastEnd_22 : decode cX3_lastEnd 22 = .ok (.invokestatic 145, 3) := by decide +kernel
theorem dX3_lastEnd_25 : decode cX3_lastEnd 25 = .ok (.istore_n 1, 1) := by decide +kernel
theorem dX3_lastEnd_26 : decode cX3_lastEnd 26 = .ok (.iinc 2 1, 3) := by decide +kernel
theorem dX3_lastEnd_29 : decode cX3_lastEnd 29 = .ok (.goto (-25), 3) := by decide +kernel
theorem dX3_lastEnd_32 : decode cX3_lastEnd 32 = .ok (.iload_n 1, 1) := by decide +kernel
theorem dX3_lastEnd_33 : decode cX3_lastEnd 33 = .ok (.ireturn, 1) := by decide +kernel
theorem dX3_missers_0 : decode cX3_missers 0 = .ok (.iconst 0, 1) := by decide +kernel
theorem dX3_missers_1 : decode cX3_missers 1 = .ok (.istore_n 1, 1) := by decide +kernel
theorem dX3_missers_2 : decode cX3_missers 2 = .ok (.iconst 0, 1) := by decide +kernel
theorem dX3_missers_3 : decode cX3_missers 3 = .ok (.istore_n 2, 1) := by decide +kernel
theorem dX3_missers_4 : decode cX3_missers 4 = .ok (.iload_n 2, 1) := by decide +kernel
theorem dX3_missers_5 : decode cX3_missers 5 = .ok (.aload_n 0, 1) := by decide +kernel
theorem dX3_missers_6 : decode cX3_missers 6 = .ok (.getfield 12, 3) := by decide +kernel
theorem dX3_missers_9 : decode cX3_missers 9 = .ok (.getfield 71, 3) := by decide +kernel
theorem dX3_missers_12 : decode cX3_missers 12 = .ok (.if_icmp .ge 39, 3) := by decide +kernel
theorem dX3_missers_15 : decode cX3_missers 15 = .ok (.aload_n 0, 1) := by decide +kernel
theorem dX3_missers_16 : decode cX3_missers 16 = .ok (.getfield 55, 3) := by decide +kernel
theorem dX3_missers_19 : decode cX3_missers 19 = .ok (.iload_n 2, 1) := by decide +kernel
theorem dX3_missers_20 : decode cX3_missers 20 = .ok (.iaload, 1) := by decide +kernel
theorem dX3_missers_21 : decode cX3_missers 21 = .ok (.aload_n 0, 1) := by decide +kernel
theorem dX3_missers_22 : decode cX3_missers 22 = .ok (.getfield 34, 3) := by decide +kernel
theorem dX3_missers_25 : decode cX3_missers 25 = .ok (.iload_n 2, 1) := by decide +kernel
theorem dX3_missers_26 : decode cX3_missers 26 = .ok (.iaload, 1) := by decide +kernel
theorem dX3_missers_27 : decode cX3_missers 27 = .ok (.aload_n 0, 1) := by decide +kernel
theorem dX3_missers_28 : decode cX3_missers 28 = .ok (.getfield 12, 3) := by decide +kernel
theorem dX3_missers_31 : decode cX3_missers 31 = .ok (.iload_n 2, 1) := by decide +kernel
theorem dX3_missers_32 : decode cX3_missers 32 = .ok (.invokevirtual 170, 3) := by decide +kernel
theorem dX3_missers_35 : decode cX3_missers 35 = .ok (.iadd, 1) := by decide +kernel
theorem dX3_missers_36 : decode cX3_missers 36 = .ok (.if_icmp .le 9, 3) := by decide +kernel
theorem dX3_missers_39 : decode cX3_missers 39 = .ok (.iload_n 1, 1) := by decide +kernel
theorem dX3_missers_40 : decode cX3_missers 40 = .ok (.iconst 1, 1) := by decide +kernel
theorem dX3_missers_41 : decode cX3_missers 41 = .ok (.iload_n 2, 1) := by decide +kernel
theorem dX3_missers_42 : decode cX3_missers 42 = .ok (.ishl, 1) := by decide +kernel
theorem dX3_missers_43 : decode cX3_missers 43 = .ok (.ior, 1) := by decide +kernel
theorem dX3_missers_44 : decode cX3_missers 44 = .ok (.istore_n 1, 1) := by decide +kernel
theorem dX3_missers_45 : decode cX3_missers 45 = .ok (.iinc 2 1, 3) := by decide +kernel
theorem dX3_missers_48 : decode cX3_missers 48 = .ok (.goto (-44), 3) := by decide +kernel
theorem dX3_missers_51 : decode cX3_missers 51 = .ok (.iload_n 1, 1) := by decide +kernel
theorem dX3_missers_52 : decode cX3_missers 52 = .ok (.ireturn, 1) := by decide +kernel
theorem dX3_stepsRound_0 : decode cX3_stepsRound 0 = .ok (.iload_n 1, 1) := by decide +kernel
theorem dX3_stepsRound_1 : decode cX3_stepsRound 1 = .ok (.istore_n 2, 1) := by decide +kernel
theorem dX3_stepsRound_2 : decode cX3_stepsRound 2 = .ok (.iconst 1, 1) := by decide +kernel
theorem dX3_stepsRound_3 : decode cX3_stepsRound 3 = .ok (.istore_n 3, 1) := by decide +kernel
theorem dX3_stepsRound_4 : decode cX3_stepsRound 4 = .ok (.iload_n 3, 1) := by decide +kernel
theorem dX3_stepsRound_5 : decode cX3_stepsRound 5 = .ok (.aload_n 0, 1) := by decide +kernel
theorem dX3_stepsRound_6 : decode cX3_stepsRound 6 = .ok (.getfield 12, 3) := by decide +kernel
theorem dX3_stepsRound_9 : decode cX3_stepsRound 9 = .ok (.getfield 71, 3) := by decide +kernel
theorem dX3_stepsRound_12 : decode cX3_stepsRound 12 = .ok (.if_icmp .gt 31, 3) := by decide +kernel
theorem dX3_stepsRound_15 : decode cX3_stepsRound 15 = .ok (.aload_n 0, 1) := by decide +kernel
theorem dX3_stepsRound_16 : decode cX3_stepsRound 16 = .ok (.getfield 58, 3) := by decide +kernel
theorem dX3_stepsRound_19 : decode cX3_stepsRound 19 = .ok (.iload_n 2, 1) := by decide +kernel
theorem dX3_stepsRound_20 : decode cX3_stepsRound 20 = .ok (.iaload, 1) := by decide +kernel
theorem dX3_stepsRound_21 : decode cX3_stepsRound 21 = .ok (.istore_n 2, 1) := by decide +kernel
theorem dX3_stepsRound_22 : decode cX3_stepsRound 22 = .ok (.iload_n 2, 1) := by decide +kernel
theorem dX3_stepsRound_23 : decode cX3_stepsRound 23 = .ok (.bipush (-4), 2) := by decide +kernel
theorem dX3_stepsRound_25 : decode cX3_stepsRound 25 = .ok (.if_icmp .ne 5, 3) := by decide +kernel
theorem dX3_stepsRound_28 : decode cX3_stepsRound 28 = .ok (.iconst 0, 1) := by decide +kernel
theorem dX3_stepsRound_29 : decode cX3_stepsRound 29 = .ok (.ireturn, 1) := by decide +kernel
theorem dX3_stepsRound_30 : decode cX3_stepsRound 30 = .ok (.iload_n 2, 1) := by decide +kernel
theorem dX3_stepsRound_31 : decode cX3_stepsRound 31 = .ok (.iload_n 1, 1) := by decide +kernel
theorem dX3_stepsRound_32 : decode cX3_stepsRound 32 = .ok (.if_icmp .ne 5, 3) := by decide +kernel
theorem dX3_stepsRound_35 : decode cX3_stepsRound 35 = .ok (.iload_n 3, 1) := by decide +kernel
theorem dX3_stepsRound_36 : decode cX3_stepsRound 36 = .ok (.ireturn, 1) := by decide +kernel
theorem dX3_stepsRound_37 : decode cX3_stepsRound 37 = .ok (.iinc 3 1, 3) := by decide +kernel
theorem dX3_stepsRound_40 : decode cX3_stepsRound 40 = .ok (.goto (-36), 3) := by decide +kernel
theorem dX3_stepsRound_43 : decode cX3_stepsRound 43 = .ok (.iconst 0, 1) := by decide +kernel
theorem dX3_stepsRound_44 : decode cX3_stepsRound 44 = .ok (.ireturn, 1) := by decide +kernel
theorem dX4_howMany_0 : decode cX4_howMany 0 = .ok (.iconst 1, 1) := by decide +kernel
theorem dX4_howMany_1 : decode cX4_howMany 1 = .ok (.istore_n 1, 1) := by decide +kernel
theorem dX4_howMany_2 : decode cX4_howMany 2 = .ok (.iconst 2, 1) := by decide +kernel
theorem dX4_howMany_3 : decode cX4_howMany 3 = .ok (.istore_n 2, 1) := by decide +kernel
theorem dX4_howMany_4 : decode cX4_howMany 4 = .ok (.iload_n 2, 1) := by decide +kernel
theorem dX4_howMany_5 : decode cX4_howMany 5 = .ok (.iload_n 0, 1) := by decide +kernel
theorem dX4_howMany_6 : decode cX4_howMany 6 = .ok (.if_icmp .gt 13, 3) := by decide +kernel
theorem dX4_howMany_9 : decode cX4_howMany 9 = .ok (.iload_n 1, 1) := by decide +kernel
theorem dX4_howMany_10 : decode cX4_howMany 10 = .ok (.iload_n 2, 1) := by decide +kernel
theorem dX4_howMany_11 : decode cX4_howMany 11 = .ok (.imul, 1) := by decide +kernel
theorem dX4_howMany_12 : decode cX4_howMany 12 = .ok (.istore_n 1, 1) := by decide +kernel
theorem dX4_howMany_13 : decode cX4_howMany 13 = .ok (.iinc 2 1, 3) := by decide +kernel
theorem dX4_howMany_16 : decode cX4_howMany 16 = .ok (.goto (-12), 3) := by decide +kernel
theorem dX4_howMany_19 : decode cX4_howMany 19 = .ok (.iload_n 1, 1) := by decide +kernel
theorem dX4_howMany_20 : decode cX4_howMany 20 = .ok (.ireturn, 1) := by decide +kernel
theorem dX4_first_0 : decode cX4_first 0 = .ok (.iconst 0, 1) := by decide +kernel
theorem dX4_first_1 : decode cX4_first 1 = .ok (.istore_n 2, 1) := by decide +kernel
theorem dX4_first_2 : decode cX4_first 2 = .ok (.iload_n 2, 1) := by decide +kernel
theorem dX4_first_3 : decode cX4_first 3 = .ok (.iload_n 1, 1) := by decide +kernel
theorem dX4_first_4 : decode cX4_first 4 = .ok (.if_icmp .ge 13, 3) := by decide +kernel
theorem dX4_first_7 : decode cX4_first 7 = .ok (.aload_n 0, 1) := by decide +kernel
theorem dX4_first_8 : decode cX4_first 8 = .ok (.iload_n 2, 1) := by decide +kernel
theorem dX4_first_9 : decode cX4_first 9 = .ok (.iload_n 2, 1) := by decide +kernel
theorem dX4_first_10 : decode cX4_first 10 = .ok (.iastore, 1) := by decide +kernel
theorem dX4_first_11 : decode cX4_first 11 = .ok (.iinc 2 1, 3) := by decide +kernel
theorem dX4_first_14 : decode cX4_first 14 = .ok (.goto (-12), 3) := by decide +kernel
theorem dX4_first_17 : decode cX4_first 17 = .ok (.return_, 1) := by decide +kernel
theorem dX4_next_0 : decode cX4_next 0 = .ok (.iload_n 1, 1) := by decide +kernel
theorem dX4_next_1 : decode cX4_next 1 = .ok (.iconst 2, 1) := by decide +kernel
theorem dX4_next_2 : decode cX4_next 2 = .ok (.isub, 1) := by decide +kernel
theorem dX4_next_3 : decode cX4_next 3 = .ok (.istore_n 2, 1) := by decide +kernel
theorem dX4_next_4 : decode cX4_next 4 = .ok (.iload_n 2, 1) := by decide +kernel
theorem dX4_next_5 : decode cX4_next 5 = .ok (.ifCond .lt 20, 3) := by decide +kernel
theorem dX4_next_8 : decode cX4_next 8 = .ok (.aload_n 0, 1) := by decide +kernel
theorem dX4_next_9 : decode cX4_next 9 = .ok (.iload_n 2, 1) := by decide +kernel
theorem dX4_next_10 : decode cX4_next 10 = .ok (.iaload, 1) := by decide +kernel
theorem dX4_next_11 : decode cX4_next 11 = .ok (.aload_n 0, 1) := by decide +kernel
theorem dX4_next_12 : decode cX4_next 12 = .ok (.iload_n 2, 1) := by decide +kernel
theorem dX4_next_13 : decode cX4_next 13 = .ok (.iconst 1, 1) := by decide +kernel
theorem dX4_next_14 : decode cX4_next 14 = .ok (.iadd, 1) := by decide +kernel
theorem dX4_next_15 : decode cX4_next 15 = .ok (.iaload, 1) := by decide +kernel
theorem dX4_next_16 : decode cX4_next 16 = .ok (.if_icmp .le 9, 3) := by decide +kernel
theorem dX4_next_19 : decode cX4_next 19 = .ok (.iinc 2 (-1), 3) := by decide +kernel
theorem dX4_next_22 : decode cX4_next 22 = .ok (.goto (-18), 3) := by decide +kernel
theorem dX4_next_25 : decode cX4_next 25 = .ok (.iload_n 2, 1) := by decide +kernel
theorem dX4_next_26 : decode cX4_next 26 = .ok (.ifCond .ge 4, 3) := by decide +kernel
theorem dX4_next_29 : decode cX4_next 29 = .ok (.return_, 1) := by decide +kernel
theorem dX4_next_30 : decode cX4_next 30 = .ok (.iload_n 1, 1) := by decide +kernel
theorem dX4_next_31 : decode cX4_next 31 = .ok (.iconst 1, 1) := by decide +kernel
theorem dX4_next_32 : decode cX4_next 32 = .ok (.isub, 1) := by decide +kernel
theorem dX4_next_33 : decode cX4_next 33 = .ok (.istore_n 3, 1) := by decide +kernel
theorem dX4_next_34 : decode cX4_next 34 = .ok (.iload_n 3, 1) := by decide +kernel
theorem dX4_next_35 : decode cX4_next 35 = .ok (.iload_n 2, 1) := by decide +kernel
theorem dX4_next_36 : decode cX4_next 36 = .ok (.if_icmp .le 18, 3) := by decide +kernel
theorem dX4_next_39 : decode cX4_next 39 = .ok (.aload_n 0, 1) := by decide +kernel
theorem dX4_next_40 : decode cX4_next 40 = .ok (.iload_n 3, 1) := by decide +kernel
theorem dX4_next_41 : decode cX4_next 41 = .ok (.iaload, 1) := by decide +kernel
theorem dX4_next_42 : decode cX4_next 42 = .ok (.aload_n 0, 1) := by decide +kernel
theorem dX4_next_43 : decode cX4_next 43 = .ok (.iload_n 2, 1) := by decide +kernel
theorem dX4_next_44 : decode cX4_next 44 = .ok (.iaload, 1) := by decide +kernel
theorem dX4_next_45 : decode cX4_next 45 = .ok (.if_icmp .ge 9, 3) := by decide +kernel
theorem dX4_next_48 : decode cX4_next 48 = .ok (.iinc 3 (-1), 3) := by decide +kernel
theorem dX4_next_51 : decode cX4_next 51 = .ok (.goto (-17), 3) := by decide +kernel
theorem dX4_next_54 : decode cX4_next 54 = .ok (.aload_n 0, 1) := by decide +kernel
theorem dX4_next_55 : decode cX4_next 55 = .ok (.iload_n 2, 1) := by decide +kernel
theorem dX4_next_56 : decode cX4_next 56 = .ok (.iload_n 3, 1) := by decide +kernel
theorem dX4_next_57 : decode cX4_next 57 = .ok (.invokestatic 7, 3) := by decide +kernel
theorem dX4_next_60 : decode cX4_next 60 = .ok (.iload_n 2, 1) := by decide +kernel
theorem dX4_next_61 : decode cX4_next 61 = .ok (.iconst 1, 1) := by decide +kernel
theorem dX4_next_62 : decode cX4_next 62 = .ok (.iadd, 1) := by decide +kernel
theorem dX4_next_63 : decode cX4_next 63 = .ok (.istore 4, 2) := by decide +kernel
theorem dX4_next_65 : decode cX4_next 65 = .ok (.iload_n 1, 1) := by decide +kernel
theorem dX4_next_66 : decode cX4_next 66 = .ok (.iconst 1, 1) := by decide +kernel
theorem dX4_next_67 : decode cX4_next 67 = .ok (.isub, 1) := by decide +kernel
theorem dX4_next_68 : decode cX4_next 68 = .ok (.istore 5, 2) := by decide +kernel
theorem dX4_next_70 : decode cX4_next 70 = .ok (.iload 5, 2) := by decide +kernel
theorem dX4_next_72 : decode cX4_next 72 = .ok (.iload 4, 2) := by decide +kernel
theorem dX4_next_74 : decode cX4_next 74 = .ok (.if_icmp .le 20, 3) := by decide +kernel
theorem dX4_next_77 : decode cX4_next 77 = .ok (.aload_n 0, 1) := by decide +kernel
theorem dX4_next_78 : decode cX4_next 78 = .ok (.iload 4, 2) := by decide +kernel
theorem dX4_next_80 : decode cX4_next 80 = .ok (.iload 5, 2) := by decide +kernel
theorem dX4_next_82 : decode cX4_next 82 = .ok (.invokestatic 7, 3) := by decide +kernel
theorem dX4_next_85 : decode cX4_next 85 = .ok (.iinc 4 1, 3) := by decide +kernel
theorem dX4_next_88 : decode cX4_next 88 = .ok (.iinc 5 (-1), 3) := by decide +kernel
theorem dX4_next_91 : decode cX4_next 91 = .ok (.goto (-21), 3) := by decide +kernel
theorem dX4_next_94 : decode cX4_next 94 = .ok (.return_, 1) := by decide +kernel
theorem dX4_swap_0 : decode cX4_swap 0 = .ok (.aload_n 0, 1) := by decide +kernel
theorem dX4_swap_1 : decode cX4_swap 1 = .ok (.iload_n 1, 1) := by decide +kernel
theorem dX4_swap_2 : decode cX4_swap 2 = .ok (.iaload, 1) := by decide +kernel
theorem dX4_swap_3 : decode cX4_swap 3 = .ok (.istore_n 3, 1) := by decide +kernel
theorem dX4_swap_4 : decode cX4_swap 4 = .ok (.aload_n 0, 1) := by decide +kernel
theorem dX4_swap_5 : decode cX4_swap 5 = .ok (.iload_n 1, 1) := by decide +kernel
theorem dX4_swap_6 : decode cX4_swap 6 = .ok (.aload_n 0, 1) := by decide +kernel
theorem dX4_swap_7 : decode cX4_swap 7 = .ok (.iload_n 2, 1) := by decide +kernel
theorem dX4_swap_8 : decode cX4_swap 8 = .ok (.iaload, 1) := by decide +kernel
theorem dX4_swap_9 : decode cX4_swap 9 = .ok (.iastore, 1) := by decide +kernel
theorem dX4_swap_10 : decode cX4_swap 10 = .ok (.aload_n 0, 1) := by decide +kernel
theorem dX4_swap_11 : decode cX4_swap 11 = .ok (.iload_n 2, 1) := by decide +kernel
theorem dX4_swap_12 : decode cX4_swap 12 = .ok (.iload_n 3, 1) := by decide +kernel
theorem dX4_swap_13 : decode cX4_swap 13 = .ok (.iastore, 1) := by decide +kernel
theorem dX4_swap_14 : decode cX4_swap 14 = .ok (.return_, 1) := by decide +kernel
theorem dX4_asDigits_0 : decode cX4_asDigits 0 = .ok (.iconst 0, 1) := by decide +kernel
theorem dX4_asDigits_1 : decode cX4_asDigits 1 = .ok (.istore_n 2, 1) := by decide +kernel
theorem dX4_asDigits_2 : decode cX4_asDigits 2 = .ok (.iconst 0, 1) := by decide +kernel
theorem dX4_asDigits_3 : decode cX4_asDigits 3 = .ok (.istore_n 3, 1) := by decide +kernel
theorem dX4_asDigits_4 : decode cX4_asDigits 4 = .ok (.iload_n 3, 1) := by decide +kernel
theorem dX4_asDigits_5 : decode cX4_asDigits 5 = .ok (.iload_n 1, 1) := by decide +kernel
theorem dX4_asDigits_6 : decode cX4_asDigits 6 = .ok (.if_icmp .ge 18, 3) := by decide +kernel
theorem dX4_asDigits_9 : decode cX4_asDigits 9 = .ok (.bipush 10, 2) := by decide +kernel
theorem dX4_asDigits_11 : decode cX4_asDigits 11 = .ok (.iload_n 2, 1) := by decide +kernel
theorem dX4_asDigits_12 : decode cX4_asDigits 12 = .ok (.imul, 1) := by decide +kernel
theorem dX4_asDigits_13 : decode cX4_asDigits 13 = .ok (.aload_n 0, 1) := by decide +kernel
theorem dX4_asDigits_14 : decode cX4_asDigits 14 = .ok (.iload_n 3, 1) := by decide +kernel
theorem dX4_asDigits_15 : decode cX4_asDigits 15 = .ok (.iaload, 1) := by decide +kernel
theorem dX4_asDigits_16 : decode cX4_asDigits 16 = .ok (.iadd, 1) := by decide +kernel
theorem dX4_asDigits_17 : decode cX4_asDigits 17 = .ok (.istore_n 2, 1) := by decide +kernel
theorem dX4_asDigits_18 : decode cX4_asDigits 18 = .ok (.iinc 3 1, 3) := by decide +kernel
theorem dX4_asDigits_21 : decode cX4_asDigits 21 = .ok (.goto (-17), 3) := by decide +kernel
theorem dX4_asDigits_24 : decode cX4_asDigits 24 = .ok (.iload_n 2, 1) := by decide +kernel
theorem dX4_asDigits_25 : decode cX4_asDigits 25 = .ok (.ireturn, 1) := by decide +kernel
theorem dX4_greatestDivisor_0 : decode cX4_greatestDivisor 0 = .ok (.iload_n 0, 1) := by decide +kernel
theorem dX4_greatestDivisor_1 : decode cX4_greatestDivisor 1 = .ok (.istore_n 2, 1) := by decide +kernel
theorem dX4_greatestDivisor_2 : decode cX4_greatestDivisor 2 = .ok (.iload_n 1, 1) := by decide +kernel
theorem dX4_greatestDivisor_3 : decode cX4_greatestDivisor 3 = .ok (.istore_n 3, 1) := by decide +kernel
theorem dX4_greatestDivisor_4 : decode cX4_greatestDivisor 4 = .ok (.iconst 0, 1) := by decide +kernel
theorem dX4_greatestDivisor_5 : decode cX4_greatestDivisor 5 = .ok (.istore 4, 2) := by decide +kernel
theorem dX4_greatestDivisor_7 : decode cX4_greatestDivisor 7 = .ok (.iload 4, 2) := by decide +kernel
theorem dX4_greatestDivisor_9 : decode cX4_greatestDivisor 9 = .ok (.bipush 100, 2) := by decide +kernel
theorem dX4_greatestDivisor_11 : decode cX4_greatestDivisor 11 = .ok (.if_icmp .ge 23, 3) := by decide +kernel
theorem dX4_greatestDivisor_14 : decode cX4_greatestDivisor 14 = .ok (.iload_n 3, 1) := by decide +kernel
theorem dX4_greatestDivisor_15 : decode cX4_greatestDivisor 15 = .ok (.ifCond .eq 19, 3) := by decide +kernel
theorem dX4_greatestDivisor_18 : decode cX4_greatestDivisor 18 = .ok (.iload_n 2, 1) := by decide +kernel
theorem dX4_greatestDivisor_19 : decode cX4_greatestDivisor 19 = .ok (.iload_n 3, 1) := by decide +kernel
theorem dX4_greatestDivisor_20 : decode cX4_greatestDivisor 20 = .ok (.irem, 1) := by decide +kernel
theorem dX4_greatestDivisor_21 : decode cX4_greatestDivisor 21 = .ok (.istore 5, 2) := by decide +kernel
theorem dX4_greatestDivisor_23 : decode cX4_greatestDivisor 23 = .ok (.iload_n 3, 1) := by decide +kernel
theorem dX4_greatestDivisor_24 : decode cX4_greatestDivisor 24 = .ok (.istore_n 2, 1) := by decide +kernel
theorem dX4_greatestDivisor_25 : decode cX4_greatestDivisor 25 = .ok (.iload 5, 2) := by decide +kernel
theorem dX4_greatestDivisor_27 : decode cX4_greatestDivisor 27 = .ok (.istore_n 3, 1) := by decide +kernel
theorem dX4_greatestDivisor_28 : decode cX4_greatestDivisor 28 = .ok (.iinc 4 1, 3) := by decide +kernel
theorem dX4_greatestDivisor_31 : decode cX4_greatestDivisor 31 = .ok (.goto (-24), 3) := by decide +kernel
theorem dX4_greatestDivisor_34 : decode cX4_greatestDivisor 34 = .ok (.iload_n 2, 1) := by decide +kernel
theorem dX4_greatestDivisor_35 : decode cX4_greatestDivisor 35 = .ok (.ireturn, 1) := by decide +kernel
theorem dX5_init_0 : decode cX5_init 0 = .ok (.aload_n 0, 1) := by decide +kernel
theorem dX5_init_1 : decode cX5_init 1 = .ok (.invokespecial 3, 3) := by decide +kernel
theorem dX5_init_4 : decode cX5_init 4 = .ok (.aload_n 0, 1) := by decide +kernel
theorem dX5_init_5 : decode cX5_init 5 = .ok (.iconst 0, 1) := by decide +kernel
theorem dX5_init_6 : decode cX5_init 6 = .ok (.putfield 9, 3) := by decide +kernel
theorem dX5_init_9 : decode cX5_init 9 = .ok (.aload_n 0, 1) := by decide +kernel
theorem dX5_init_10 : decode cX5_init 10 = .ok (.bipush 10, 2) := by decide +kernel
theorem dX5_init_12 : decode cX5_init 12 = .ok (.newarray .int, 2) := by decide +kernel
theorem dX5_init_14 : decode cX5_init 14 = .ok (.putfield 15, 3) := by decide +kernel
theorem dX5_init_17 : decode cX5_init 17 = .ok (.aload_n 0, 1) := by decide +kernel
theorem dX5_init_18 : decode cX5_init 18 = .ok (.bipush 10, 2) := by decide +kernel
theorem dX5_init_20 : decode cX5_init 20 = .ok (.newarray .int, 2) := by decide +kernel
theorem dX5_init_22 : decode cX5_init 22 = .ok (.putfield 19, 3) := by decide +kernel
theorem dX5_init_25 : decode cX5_init 25 = .ok (.aload_n 0, 1) := by decide +kernel
theorem dX5_init_26 : decode cX5_init 26 = .ok (.bipush 10, 2) := by decide +kernel
theorem dX5_init_28 : decode cX5_init 28 = .ok (.newarray .int, 2) := by decide +kernel
theorem dX5_init_30 : decode cX5_init 30 = .ok (.putfield 22, 3) := by decide +kernel
theorem dX5_init_33 : decode cX5_init 33 = .ok (.aload_n 0, 1) := by decide +kernel
theorem dX5_init_34 : decode cX5_init 34 = .ok (.iconst 4, 1) := by decide +kernel
theorem dX5_init_35 : decode cX5_init 35 = .ok (.newarray .int, 2) := by decide +kernel
theorem dX5_init_37 : decode cX5_init 37 = .ok (.dup, 1) := by decide +kernel
theorem dX5_init_38 : decode cX5_init 38 = .ok (.iconst 0, 1) := by decide +kernel
theorem dX5_init_39 : decode cX5_init 39 = .ok (.iconst 2, 1) := by decide +kernel
theorem dX5_init_40 : decode cX5_init 40 = .ok (.iastore, 1) := by decide +kernel
theorem dX5_init_41 : decode cX5_init 41 = .ok (.dup, 1) := by decide +kernel
theorem dX5_init_42 : decode cX5_init 42 = .ok (.iconst 1, 1) := by decide +kernel
theorem dX5_init_43 : decode cX5_init 43 = .ok (.bipush 9, 2) := by decide +kernel
theorem dX5_init_45 : decode cX5_init 45 = .ok (.iastore, 1) := by decide +kernel
theorem dX5_init_46 : decode cX5_init 46 = .ok (.dup, 1) := by decide +kernel
theorem dX5_init_47 : decode cX5_init 47 = .ok (.iconst 2, 1) := by decide +kernel
theorem dX5_init_48 : decode cX5_init 48 = .ok (.iconst 0, 1) := by decide +kernel
theorem dX5_init_49 : decode cX5_init 49 = .ok (.iastore, 1) := by decide +kernel
theorem dX5_init_50 : decode cX5_init 50 = .ok (.dup, 1) := by decide +kernel
theorem dX5_init_51 : decode cX5_init 51 = .ok (.iconst 3, 1) := by decide +kernel
theorem dX5_init_52 : decode cX5_init 52 = .ok (.iconst 0, 1) := by decide +kernel
theorem dX5_init_53 : decode cX5_init 53 = .ok (.iastore, 1) := by decide +kernel
theorem dX5_init_54 : decode cX5_init 54 = .ok (.putfield 25, 3) := by decide +kernel
theorem dX5_init_57 : decode cX5_init 57 = .ok (.aload_n 0, 1) := by decide +kernel
theorem dX5_init_58 : decode cX5_init 58 = .ok (.iconst 0, 1) := by decide +kernel
theorem dX5_init_59 : decode cX5_init 59 = .ok (.putfield 28, 3) := by decide +kernel
theorem dX5_init_62 : decode cX5_init 62 = .ok (.aload_n 0, 1) := by decide +kernel
theorem dX5_init_63 : decode cX5_init 63 = .ok (.bipush 6, 2) := by decide +kernel
theorem dX5_init_65 : decode cX5_init 65 = .ok (.newarray .int, 2) := by decide +kernel
theorem dX5_init_67 : decode cX5_init 67 = .ok (.putfield 31, 3) := by decide +kernel
theorem dX5_init_70 : decode cX5_init 70 = .ok (.aload_n 0, 1) := by decide +kernel
theorem dX5_init_71 : decode cX5_init 71 = .ok (.iconst 0, 1) := by decide +kernel
theorem dX5_init_72 : decode cX5_init 72 = .ok (.putfield 34, 3) := by decide +kernel
theorem dX5_init_75 : decode cX5_init 75 = .ok (.return_, 1) := by decide +kernel
theorem dX5_allows_0 : decode cX5_allows 0 = .ok (.iload_n 0, 1) := by decide +kernel
theorem dX5_allows_1 : decode cX5_allows 1 = .ok (.ifCond .lt 30, 3) := by decide +kernel
theorem dX5_allows_4 : decode cX5_allows 4 = .ok (.iload_n 0, 1) := by decide +kernel
theorem dX5_allows_5 : decode cX5_allows 5 = .ok (.iconst 4, 1) := by decide +kernel
theorem dX5_allows_6 : decode cX5_allows 6 = .ok (.if_icmp .ge 25, 3) := by decide +kernel
theorem dX5_allows_9 : decode cX5_allows 9 = .ok (.iload_n 1, 1) := by decide +kernel
theorem dX5_allows_10 : decode cX5_allows 10 = .ok (.getstatic 37, 3) := by decide +kernel
theorem dX5_allows_13 : decode cX5_allows 13 = .ok (.iload_n 0, 1) := by decide +kernel
theorem dX5_allows_14 : decode cX5_allows 14 = .ok (.iaload, 1) := by decide +kernel
theorem dX5_allows_15 : decode cX5_allows 15 = .ok (.if_icmp .lt 16, 3) := by decide +kernel
theorem dX5_allows_18 : decode cX5_allows 18 = .ok (.iload_n 1, 1) := by decide +kernel
theorem dX5_allows_19 : decode cX5_allows 19 = .ok (.getstatic 40, 3) := by decide +kernel
theorem dX5_allows_22 : decode cX5_allows 22 = .ok (.iload_n 0, 1) := by decide +kernel
theorem dX5_allows_23 : decode cX5_allows 23 = .ok (.iaload, 1) := by decide +kernel
theorem dX5_allows_24 : decode cX5_allows 24 = .ok (.if_icmp .gt 7, 3) := by decide +kernel
theorem dX5_allows_27 : decode cX5_allows 27 = .ok (.iconst 1, 1) := by decide +kernel
theorem dX5_allows_28 : decode cX5_allows 28 = .ok (.goto 4, 3) := by decide +kernel
theorem dX5_allows_31 : decode cX5_allows 31 = .ok (.iconst 0, 1) := by decide +kernel
theorem dX5_allows_32 : decode cX5_allows 32 = .ok (.ireturn, 1) := by decide +kernel
theorem dX5_copyFrom_0 : decode cX5_copyFrom 0 = .ok (.aload_n 0, 1) := by decide +kernel
theorem dX5_copyFrom_1 : decode cX5_copyFrom 1 = .ok (.aload_n 1, 1) := by decide +kernel
theorem dX5_copyFrom_2 : decode cX5_copyFrom 2 = .ok (.getfield 9, 3) := by decide +kernel
theorem dX5_copyFrom_5 : decode cX5_copyFrom 5 = .ok (.putfield 9, 3) := by decide +kernel
theorem dX5_copyFrom_8 : decode cX5_copyFrom 8 = .ok (.aload_n 1, 1) := by decide +kernel
theorem dX5_copyFrom_9 : decode cX5_copyFrom 9 = .ok (.getfield 15, 3) := by decide +kernel
theorem dX5_copyFrom_12 : decode cX5_copyFrom 12 = .ok (.iconst 0, 1) := by decide +kernel
theorem dX5_copyFrom_13 : decode cX5_copyFrom 13 = .ok (.aload_n 0, 1) := by decide +kernel
theorem dX5_copyFrom_14 : decode cX5_copyFrom 14 = .ok (.getfield 15, 3) := by decide +kernel
theorem dX5_copyFrom_17 : decode cX5_copyFrom 17 = .ok (.iconst 0, 1) := by decide +kernel
theorem dX5_copyFrom_18 : decode cX5_copyFrom 18 = .ok (.bipush 10, 2) := by decide +kernel
theorem dX5_copyFrom_20 : decode cX5_copyFrom 20 = .ok (.invokestatic 43, 3) := by decide +kernel
theorem dX5_copyFrom_23 : decode cX5_copyFrom 23 = .ok (.aload_n 1, 1) := by decide +kernel
theorem dX5_copyFrom_24 : decode cX5_copyFrom 24 = .ok (.getfield 19, 3) := by decide +kernel
theorem dX5_copyFrom_27 : decode cX5_copyFrom 27 = .ok (.iconst 0, 1) := by decide +kernel
theorem dX5_copyFrom_28 : decode cX5_copyFrom 28 = .ok (.aload_n 0, 1) := by decide +kernel
theorem dX5_copyFrom_29 : decode cX5_copyFrom 29 = .ok (.getfield 19, 3) := by decide +kernel
theorem dX5_copyFrom_32 : decode cX5_copyFrom 32 = .ok (.iconst 0, 1) := by decide +kernel
theorem dX5_copyFrom_33 : decode cX5_copyFrom 33 = .ok (.bipush 10, 2) := by decide +kernel
theorem dX5_copyFrom_35 : decode cX5_copyFrom 35 = .ok (.invokestatic 43, 3) := by decide +kernel
theorem dX5_copyFrom_38 : decode cX5_copyFrom 38 = .ok (.aload_n 1, 1) := by decide +kernel
theorem dX5_copyFrom_39 : decode cX5_copyFrom 39 = .ok (.getfield 22, 3) := by decide +kernel
theorem dX5_copyFrom_42 : decode cX5_copyFrom 42 = .ok (.iconst 0, 1) := by decide +kernel
theorem dX5_copyFrom_43 : decode cX5_copyFrom 43 = .ok (.aload_n 0, 1) := by decide +kernel
theorem dX5_copyFrom_44 : decode cX5_copyFrom 44 = .ok (.getfield 22, 3) := by decide +kernel
theorem dX5_copyFrom_47 : decode cX5_copyFrom 47 = .ok (.iconst 0, 1) := by decide +kernel
theorem dX5_copyFrom_48 : decode cX5_copyFrom 48 = .ok (.bipush 10, 2) := by decide +kernel
theorem dX5_copyFrom_50 : decode cX5_copyFrom 50 = .ok (.invokestatic 43, 3) := by decide +kernel
theorem dX5_copyFrom_53 : decode cX5_copyFrom 53 = .ok (.aload_n 1, 1) := by decide +kernel
theorem dX5_copyFrom_54 : decode cX5_copyFrom 54 = .ok (.getfield 25, 3) := by decide +kernel
theorem dX5_copyFrom_57 : decode cX5_copyFrom 57 = .ok (.iconst 0, 1) := by decide +kernel
theorem dX5_copyFrom_58 : decode cX5_copyFrom 58 = .ok (.aload_n 0, 1) := by decide +kernel
theorem dX5_copyFrom_59 : decode cX5_copyFrom 59 = .ok (.getfield 25, 3) := by decide +kernel
theorem dX5_copyFrom_62 : decode cX5_copyFrom 62 = .ok (.iconst 0, 1) := by decide +kernel
theorem dX5_copyFrom_63 : decode cX5_copyFrom 63 = .ok (.iconst 4, 1) := by decide +kernel
theorem dX5_copyFrom_64 : decode cX5_copyFrom 64 = .ok (.invokestatic 43, 3) := by decide +kernel
theorem dX5_copyFrom_67 : decode cX5_copyFrom 67 = .ok (.aload_n 0, 1) := by decide +kernel
theorem dX5_copyFrom_68 : decode cX5_copyFrom 68 = .ok (.aload_n 1, 1) := by decide +kernel
theorem dX5_copyFrom_69 : decode cX5_copyFrom 69 = .ok (.getfield 28, 3) := by decide +kernel
theorem dX5_copyFrom_72 : decode cX5_copyFrom 72 = .ok (.putfield 28, 3) := by decide +kernel
theorem dX5_copyFrom_75 : decode cX5_copyFrom 75 = .ok (.aload_n 1, 1) := by decide +kernel
theorem dX5_copyFrom_76 : decode cX5_copyFrom 76 = .ok (.getfield 31, 3) := by decide +kernel
theorem dX5_copyFrom_79 : decode cX5_copyFrom 79 = .ok (.iconst 0, 1) := by decide +kernel
theorem dX5_copyFrom_80 : decode cX5_copyFrom 80 = .ok (.aload_n 0, 1) := by decide +kernel
theorem dX5_copyFrom_81 : decode cX5_copyFrom 81 = .ok (.getfield 31, 3) := by decide +kernel
theorem dX5_copyFrom_84 : decode cX5_copyFrom 84 = .ok (.iconst 0, 1) := by decide +kernel
theorem dX5_copyFrom_85 : decode cX5_copyFrom 85 = .ok (.bipush 6, 2) := by decide +kernel
theorem dX5_copyFrom_87 : decode cX5_copyFrom 87 = .ok (.invokestatic 43, 3) := by decide +kernel
theorem dX5_copyFrom_90 : decode cX5_copyFrom 90 = .ok (.aload_n 0, 1) := by decide +kernel
theorem dX5_copyFrom_91 : decode cX5_copyFrom 91 = .ok (.aload_n 1, 1) := by decide +kernel
theorem dX5_copyFrom_92 : decode cX5_copyFrom 92 = .ok (.getfield 34, 3) := by decide +kernel
theorem dX5_copyFrom_95 : decode cX5_copyFrom 95 = .ok (.putfield 34, 3) := by decide +kernel
theorem dX5_copyFrom_98 : decode cX5_copyFrom 98 = .ok (.return_, 1) := by decide +kernel
theorem dX5_hasGuest_0 : decode cX5_hasGuest 0 = .ok (.iload_n 1, 1) := by decide +kernel
theorem dX5_hasGuest_1 : decode cX5_hasGuest 1 = .ok (.ifCond .lt 15, 3) := by decide +kernel
theorem dX5_hasGuest_4 : decode cX5_hasGuest 4 = .ok (.iload_n 1, 1) := by decide +kernel
theorem dX5_hasGuest_5 : decode cX5_hasGuest 5 = .ok (.aload_n 0, 1) := by decide +kernel
theorem dX5_hasGuest_6 : decode cX5_hasGuest 6 = .ok (.getfield 9, 3) := by decide +kernel
theorem dX5_hasGuest_9 : decode cX5_hasGuest 9 = .ok (.if_icmp .ge 7, 3) := by decide +kernel
theorem dX5_hasGuest_12 : decode cX5_hasGuest 12 = .ok (.iconst 1, 1) := by decide +kernel
theorem dX5_hasGuest_13 : decode cX5_hasGuest 13 = .ok (.goto 4, 3) := by decide +kernel
theorem dX5_hasGuest_16 : decode cX5_hasGuest 16 = .ok (.iconst 0, 1) := by decide +kernel
theorem dX5_hasGuest_17 : decode cX5_hasGuest 17 = .ok (.ireturn, 1) := by decide +kernel
theorem dX5_welcome_0 : decode cX5_welcome 0 = .ok (.aload_n 0, 1) := by decide +kernel
theorem dX5_welcome_1 : decode cX5_welcome 1 = .ok (.getfield 9, 3) := by decide +kernel
theorem dX5_welcome_4 : decode cX5_welcome 4 = .ok (.bipush 10, 2) := by decide +kernel
theorem dX5_welcome_6 : decode cX5_welcome 6 = .ok (.if_icmp .lt 6, 3) := by decide +kernel
theorem dX5_welcome_9 : decode cX5_welcome 9 = .ok (.bipush (-2), 2) := by decide +kernel
theorem dX5_welcome_11 : decode cX5_welcome 11 = .ok (.ireturn, 1) := by decide +kernel
theorem dX5_welcome_12 : decode cX5_welcome 12 = .ok (.aload_n 0, 1) := by decide +kernel
theorem dX5_welcome_13 : decode cX5_welcome 13 = .ok (.getfield 15, 3) := by decide +kernel
theorem dX5_welcome_16 : decode cX5_welcome 16 = .ok (.aload_n 0, 1) := by decide +kernel
theorem dX5_welcome_17 : decode cX5_welcome 17 = .ok (.getfield 9, 3) := by decide +kernel
theorem dX5_welcome_20 : decode cX5_welcome 20 = .ok (.iload_n 1, 1) := by decide +kernel
theorem dX5_welcome_21 : decode cX5_welcome 21 = .ok (.iastore, 1) := by decide +kernel
theorem dX5_welcome_22 : decode cX5_welcome 22 = .ok (.aload_n 0, 1) := by decide +kernel
theorem dX5_welcome_23 : decode cX5_welcome 23 = .ok (.getfield 19, 3) := by decide +kernel
theorem dX5_welcome_26 : decode cX5_welcome 26 = .ok (.aload_n 0, 1) := by decide +kernel
theorem dX5_welcome_27 : decode cX5_welcome 27 = .ok (.getfield 9, 3) := by decide +kernel
theorem dX5_welcome_30 : decode cX5_welcome 30 = .ok (.iload_n 2, 1) := by decide +kernel
theorem dX5_welcome_31 : decode cX5_welcome 31 = .ok (.iastore, 1) := by decide +kernel
theorem dX5_welcome_32 : decode cX5_welcome 32 = .ok (.aload_n 0, 1) := by decide +kernel
theorem dX5_welcome_33 : decode cX5_welcome 33 = .ok (.getfield 22, 3) := by decide +kernel
theorem dX5_welcome_36 : decode cX5_welcome 36 = .ok (.aload_n 0, 1) := by decide +kernel
theorem dX5_welcome_37 : decode cX5_welcome 37 = .ok (.getfield 9, 3) := by decide +kernel
theorem dX5_welcome_40 : decode cX5_welcome 40 = .ok (.iload_n 3, 1) := by decide +kernel
theorem dX5_welcome_41 : decode cX5_welcome 41 = .ok (.iastore, 1) := by decide +kernel
theorem dX5_welcome_42 : decode cX5_welcome 42 = .ok (.aload_n 0, 1) := by decide +kernel
theorem dX5_welcome_43 : decode cX5_welcome 43 = .ok (.dup, 1) := by decide +kernel
theorem dX5_welcome_44 : decode cX5_welcome 44 = .ok (.getfield 9, 3) := by decide +kernel
theorem dX5_welcome_47 : decode cX5_welcome 47 = .ok (.iconst 1, 1) := by decide +kernel
theorem dX5_welcome_48 : decode cX5_welcome 48 = .ok (.iadd, 1) := by decide +kernel
theorem dX5_welcome_49 : decode cX5_welcome 49 = .ok (.putfield 9, 3) := by decide +kernel
theorem dX5_welcome_52 : decode cX5_welcome 52 = .ok (.aload_n 0, 1) := by decide +kernel
theorem dX5_welcome_53 : decode cX5_welcome 53 = .ok (.getfield 9, 3) := by decide +kernel
theorem dX5_welcome_56 : decode cX5_welcome 56 = .ok (.iconst 1, 1) := by decide +kernel
theorem dX5_welcome_57 : decode cX5_welcome 57 = .ok (.isub, 1) := by decide +kernel
theorem dX5_welcome_58 : decode cX5_welcome 58 = .ok (.ireturn, 1) := by decide +kernel
theorem dX5_dismiss_0 : decode cX5_dismiss 0 = .ok (.iload_n 1, 1) := by decide +kernel
theorem dX5_dismiss_1 : decode cX5_dismiss 1 = .ok (.istore_n 2, 1) := by decide +kernel
theorem dX5_dismiss_2 : decode cX5_dismiss 2 = .ok (.iload_n 2, 1) := by decide +kernel
theorem dX5_dismiss_3 : decode cX5_dismiss 3 = .ok (.iconst 1, 1) := by decide +kernel
theorem dX5_dismiss_4 : decode cX5_dismiss 4 = .ok (.iadd, 1) := by decide +kernel
theorem dX5_dismiss_5 : decode cX5_dismiss 5 = .ok (.aload_n 0, 1) := by decide +kernel
theorem dX5_dismiss_6 : decode cX5_dismiss 6 = .ok (.getfield 9, 3) := by decide +kernel
theorem dX5_dismiss_9 : decode cX5_dismiss 9 = .ok (.if_icmp .ge 51, 3) := by decide +kernel
theorem dX5_dismiss_12 : decode cX5_dismiss 12 = .ok (.aload_n 0, 1) := by decide +kernel
theorem dX5_dismiss_13 : decode cX5_dismiss 13 = .ok (.getfield 15, 3) := by decide +kernel
theorem dX5_dismiss_16 : decode cX5_dismiss 16 = .ok (.iload_n 2, 1) := by decide +kernel
theorem dX5_dismiss_17 : decode cX5_dismiss 17 = .ok (.aload_n 0, 1) := by decide +kernel
theorem dX5_dismiss_18 : decode cX5_dismiss 18 = .ok (.getfield 15, 3) := by decide +kernel
theorem dX5_dismiss_21 : decode cX5_dismiss 21 = .ok (.iload_n 2, 1) := by decide +kernel
theorem dX5_dismiss_22 : decode cX5_dismiss 22 = .ok (.iconst 1, 1) := by decide +kernel
theorem dX5_dismiss_23 : decode cX5_dismiss 23 = .ok (.iadd, 1) := by decide +kernel
theorem dX5_dismiss_24 : decode cX5_dismiss 24 = .ok (.iaload, 1) := by decide +kernel
theorem dX5_dismiss_25 : decode cX5_dismiss 25 = .ok (.iastore, 1) := by decide +kernel
theorem dX5_dismiss_26 : decode cX5_dismiss 26 = .ok (.aload_n 0, 1) := by decide +kernel
theorem dX5_dismiss_27 : decode cX5_dismiss 27 = .ok (.getfield 19, 3) := by decide +kernel
theorem dX5_dismiss_30 : decode cX5_dismiss 30 = .ok (.iload_n 2, 1) := by decide +kernel
theorem dX5_dismiss_31 : decode cX5_dismiss 31 = .ok (.aload_n 0, 1) := by decide +kernel
theorem dX5_dismiss_32 : decode cX5_dismiss 32 = .ok (.getfield 19, 3) := by decide +kernel
theorem dX5_dismiss_35 : decode cX5_dismiss 35 = .ok (.iload_n 2, 1) := by decide +kernel
theorem dX5_dismiss_36 : decode cX5_dismiss 36 = .ok (.iconst 1, 1) := by decide +kernel
theorem dX5_dismiss_37 : decode cX5_dismiss 37 = .ok (.iadd, 1) := by decide +kernel
theorem dX5_dismiss_38 : decode cX5_dismiss 38 = .ok (.iaload, 1) := by decide +kernel
theorem dX5_dismiss_39 : decode cX5_dismiss 39 = .ok (.iastore, 1) := by decide +kernel
theorem dX5_dismiss_40 : decode cX5_dismiss 40 = .ok (.aload_n 0, 1) := by decide +kernel
theorem dX5_dismiss_41 : decode cX5_dismiss 41 = .ok (.getfield 22, 3) := by decide +kernel
theorem dX5_dismiss_44 : decode cX5_dismiss 44 = .ok (.iload_n 2, 1) := by decide +kernel
theorem dX5_dismiss_45 : decode cX5_dismiss 45 = .ok (.aload_n 0, 1) := by decide +kernel
theorem dX5_dismiss_46 : decode cX5_dismiss 46 = .ok (.getfield 22, 3) := by decide +kernel
theorem dX5_dismiss_49 : decode cX5_dismiss 49 = .ok (.iload_n 2, 1) := by decide +kernel
theorem dX5_dismiss_50 : decode cX5_dismiss 50 = .ok (.iconst 1, 1) := by decide +kernel
theorem dX5_dismiss_51 : decode cX5_dismiss 51 = .ok (.iadd, 1) := by decide +kernel
theorem dX5_dismiss_52 : decode cX5_dismiss 52 = .ok (.iaload, 1) := by decide +kernel
theorem dX5_dismiss_53 : decode cX5_dismiss 53 = .ok (.iastore, 1) := by decide +kernel
theorem dX5_dismiss_54 : decode cX5_dismiss 54 = .ok (.iinc 2 1, 3) := by decide +kernel
theorem dX5_dismiss_57 : decode cX5_dismiss 57 = .ok (.goto (-55), 3) := by decide +kernel
theorem dX5_dismiss_60 : decode cX5_dismiss 60 = .ok (.aload_n 0, 1) := by decide +kernel
theorem dX5_dismiss_61 : decode cX5_dismiss 61 = .ok (.getfield 28, 3) := by decide +kernel
theorem dX5_dismiss_64 : decode cX5_dismiss 64 = .ok (.iconst 1, 1) := by decide +kernel
theorem dX5_dismiss_65 : decode cX5_dismiss 65 = .ok (.iload_n 1, 1) := by decide +kernel
theorem dX5_dismiss_66 : decode cX5_dismiss 66 = .ok (.ishl, 1) := by decide +kernel
theorem dX5_dismiss_67 : decode cX5_dismiss 67 = .ok (.iconst 1, 1) := by decide +kernel
theorem dX5_dismiss_68 : decode cX5_dismiss 68 = .ok (.isub, 1) := by decide +kernel
theorem dX5_dismiss_69 : decode cX5_dismiss 69 = .ok (.iand, 1) := by decide +kernel
theorem dX5_dismiss_70 : decode cX5_dismiss 70 = .ok (.istore_n 2, 1) := by decide +kernel
theorem dX5_dismiss_71 : decode cX5_dismiss 71 = .ok (.aload_n 0, 1) := by decide +kernel
theorem dX5_dismiss_72 : decode cX5_dismiss 72 = .ok (.getfield 28, 3) := by decide +kernel
theorem dX5_dismiss_75 : decode cX5_dismiss 75 = .ok (.iload_n 1, 1) := by decide +kernel
theorem dX5_dismiss_76 : decode cX5_dismiss 76 = .ok (.iconst 1, 1) := by decide +kernel
theorem dX5_dismiss_77 : decode cX5_dismiss 77 = .ok (.iadd, 1) := by decide +kernel
theorem dX5_dismiss_78 : decode cX5_dismiss 78 = .ok (.ishr, 1) := by decide +kernel
theorem dX5_dismiss_79 : decode cX5_dismiss 79 = .ok (.iload_n 1, 1) := by decide +kernel
theorem dX5_dismiss_80 : decode cX5_dismiss 80 = .ok (.ishl, 1) := by decide +kernel
theorem dX5_dismiss_81 : decode cX5_dismiss 81 = .ok (.istore_n 3, 1) := by decide +kernel
theorem dX5_dismiss_82 : decode cX5_dismiss 82 = .ok (.aload_n 0, 1) := by decide +kernel
theorem dX5_dismiss_83 : decode cX5_dismiss 83 = .ok (.iload_n 2, 1) := by decide +kernel
theorem dX5_dismiss_84 : decode cX5_dismiss 84 = .ok (.iload_n 3, 1) := by decide +kernel
theorem dX5_dismiss_85 : decode cX5_dismiss 85 = .ok (.ior, 1) := by decide +kernel
theorem dX5_dismiss_86 : decode cX5_dismiss 86 = .ok (.putfield 28, 3) := by decide +kernel
theorem dX5_dismiss_89 : decode cX5_dismiss 89 = .ok (.aload_n 0, 1) := by decide +kernel
theorem dX5_dismiss_90 : decode cX5_dismiss 90 = .ok (.dup, 1) := by decide +kernel
theorem dX5_dismiss_91 : decode cX5_dismiss 91 = .ok (.getfield 9, 3) := by decide +kernel
theorem dX5_dismiss_94 : decode cX5_dismiss 94 = .ok (.iconst 1, 1) := by decide +kernel
theorem dX5_dismiss_95 : decode cX5_dismiss 95 = .ok (.isub, 1) := by decide +kernel
theorem dX5_dismiss_96 : decode cX5_dismiss 96 = .ok (.putfield 9, 3) := by decide +kernel
theorem dX5_dismiss_99 : decode cX5_dismiss 99 = .ok (.return_, 1) := by decide +kernel
theorem dX5_hasHook_0 : decode cX5_hasHook 0 = .ok (.aload_n 0, 1) := by decide +kernel
theorem dX5_hasHook_1 : decode cX5_hasHook 1 = .ok (.getfield 28, 3) := by decide +kernel
theorem dX5_hasHook_4 : decode cX5_hasHook 4 = .ok (.iload_n 1, 1) := by decide +kernel
theorem dX5_hasHook_5 : decode cX5_hasHook 5 = .ok (.ishr, 1) := by decide +kernel
theorem dX5_hasHook_6 : decode cX5_hasHook 6 = .ok (.iconst 1, 1) := by decide +kernel
theorem dX5_hasHook_7 : decode cX5_hasHook 7 = .ok (.iand, 1) := by decide +kernel
theorem dX5_hasHook_8 : decode cX5_hasHook 8 = .ok (.iconst 1, 1) := by decide +kernel
theorem dX5_hasHook_9 : decode cX5_hasHook 9 = .ok (.if_icmp .ne 7, 3) := by decide +kernel
theorem dX5_hasHook_12 : decode cX5_hasHook 12 = .ok (.iconst 1, 1) := by decide +kernel
theorem dX5_hasHook_13 : decode cX5_hasHook 13 = .ok (.goto 4, 3) := by decide +kernel
theorem dX5_hasHook_16 : decode cX5_hasHook 16 = .ok (.iconst 0, 1) := by decide +kernel
theorem dX5_hasHook_17 : decode cX5_hasHook 17 = .ok (.ireturn, 1) := by decide +kernel
theorem dX5_toggleHook_0 : decode cX5_toggleHook 0 = .ok (.aload_n 0, 1) := by decide +kernel
theorem dX5_toggleHook_1 : decode cX5_toggleHook 1 = .ok (.iload_n 1, 1) := by decide +kernel
theorem dX5_toggleHook_2 : decode cX5_toggleHook 2 = .ok (.invokevirtual 49, 3) := by decide +kernel
theorem dX5_toggleHook_5 : decode cX5_toggleHook 5 = .ok (.ifCond .ne 17, 3) := by decide +kernel
theorem dX5_toggleHook_8 : decode cX5_toggleHook 8 = .ok (.aload_n 0, 1) := by decide +kernel
theorem dX5_toggleHook_9 : decode cX5_toggleHook 9 = .ok (.getfield 28, 3) := by decide +kernel
theorem dX5_toggleHook_12 : decode cX5_toggleHook 12 = .ok (.invokestatic 53, 3) := by decide +kernel
theorem dX5_toggleHook_15 : decode cX5_toggleHook 15 = .ok (.iconst 3, 1) := by decide +kernel
theorem dX5_toggleHook_16 : decode cX5_toggleHook 16 = .ok (.if_icmp .lt 6, 3) := by decide +kernel
theorem dX5_toggleHook_19 : decode cX5_toggleHook 19 = .ok (.bipush (-2), 2) := by decide +kernel
theorem dX5_toggleHook_21 : decode cX5_toggleHook 21 = .ok (.ireturn, 1) := by decide +kernel
theorem dX5_toggleHook_22 : decode cX5_toggleHook 22 = .ok (.aload_n 0, 1) := by decide +kernel
theorem dX5_toggleHook_23 : decode cX5_toggleHook 23 = .ok (.dup, 1) := by decide +kernel
theorem dX5_toggleHook_24 : decode cX5_toggleHook 24 = .ok (.getfield 28, 3) := by decide +kernel
theorem dX5_toggleHook_27 : decode cX5_toggleHook 27 = .ok (.iconst 1, 1) := by decide +kernel
theorem dX5_toggleHook_28 : decode cX5_toggleHook 28 = .ok (.iload_n 1, 1) := by decide +kernel
theorem dX5_toggleHook_29 : decode cX5_toggleHook 29 = .ok (.ishl, 1) := by decide +kernel
theorem dX5_toggleHook_30 : decode cX5_toggleHook 30 = .ok (.ixor, 1) := by decide +kernel
theorem dX5_toggleHook_31 : decode cX5_toggleHook 31 = .ok (.putfield 28, 3) := by decide +kernel
theorem dX5_toggleHook_34 : decode cX5_toggleHook 34 = .ok (.aload_n 0, 1) := by decide +kernel
theorem dX5_toggleHook_35 : decode cX5_toggleHook 35 = .ok (.iload_n 1, 1) := by decide +kernel
theorem dX5_toggleHook_36 : decode cX5_toggleHook 36 = .ok (.invokevirtual 49, 3) := by decide +kernel
theorem dX5_toggleHook_39 : decode cX5_toggleHook 39 = .ok (.ifCond .eq 7, 3) := by decide +kernel
theorem dX5_toggleHook_42 : decode cX5_toggleHook 42 = .ok (.iconst 1, 1) := by decide +kernel
theorem dX5_toggleHook_43 : decode cX5_toggleHook 43 = .ok (.goto 4, 3) := by decide +kernel
theorem dX5_toggleHook_46 : decode cX5_toggleHook 46 = .ok (.iconst 0, 1) := by decide +kernel
theorem dX5_toggleHook_47 : decode cX5_toggleHook 47 = .ok (.ireturn, 1) := by decide +kernel
theorem dX5_takeLetters_0 : decode cX5_takeLetters 0 = .ok (.aload_n 0, 1) := by decide +kernel
theorem dX5_takeLetters_1 : decode cX5_takeLetters 1 = .ok (.iload_n 3, 1) := by decide +kernel
theorem dX5_takeLetters_2 : decode cX5_takeLetters 2 = .ok (.bipush 6, 2) := by decide +kernel
theorem dX5_takeLetters_4 : decode cX5_takeLetters 4 = .ok (.invokestatic 59, 3) := by decide +kernel
theorem dX5_takeLetters_7 : decode cX5_takeLetters 7 = .ok (.putfield 34, 3) := by decide +kernel
theorem dX5_takeLetters_10 : decode cX5_takeLetters 10 = .ok (.iconst 0, 1) := by decide +kernel
theorem dX5_takeLetters_11 : decode cX5_takeLetters 11 = .ok (.istore 4, 2) := by decide +kernel
theorem dX5_takeLetters_13 : decode cX5_takeLetters 13 = .ok (.iload 4, 2) := by decide +kernel
theorem dX5_takeLetters_15 : decode cX5_takeLetters 15 = .ok (.aload_n 0, 1) := by decide +kernel
theorem dX5_takeLetters_16 : decode cX5_takeLetters 16 = .ok (.getfield 34, 3) := by decide +kernel
theorem dX5_takeLetters_19 : decode cX5_takeLetters 19 = .ok (.if_icmp .ge 24, 3) := by decide +kernel
theorem dX5_takeLetters_22 : decode cX5_takeLetters 22 = .ok (.aload_n 0, 1) := by decide +kernel
theorem dX5_takeLetters_23 : decode cX5_takeLetters 23 = .ok (.getfield 31, 3) := by decide +kernel
theorem dX5_takeLetters_26 : decode cX5_takeLetters 26 = .ok (.iload 4, 2) := by decide +kernel
theorem dX5_takeLetters_28 : decode cX5_takeLetters 28 = .ok (.aload_n 1, 1) := by decide +kernel
theorem dX5_takeLetters_29 : decode cX5_takeLetters 29 = .ok (.iload_n 2, 1) := by decide +kernel
theorem dX5_takeLetters_30 : decode cX5_takeLetters 30 = .ok (.iload 4, 2) := by decide +kernel
theorem dX5_takeLetters_32 : decode cX5_takeLetters 32 = .ok (.iadd, 1) := by decide +kernel
theorem dX5_takeLetters_33 : decode cX5_takeLetters 33 = .ok (.invokevirtual 65, 3) := by decide +kernel
theorem dX5_takeLetters_36 : decode cX5_takeLetters 36 = .ok (.iastore, 1) := by decide +kernel
theorem dX5_takeLetters_37 : decode cX5_takeLetters 37 = .ok (.iinc 4 1, 3) := by decide +kernel
theorem dX5_takeLetters_40 : decode cX5_takeLetters 40 = .ok (.goto (-27), 3) := by decide +kernel
theorem dX5_takeLetters_43 : decode cX5_takeLetters 43 = .ok (.return_, 1) := by decide +kernel
theorem dX5_goingMinute_0 : decode cX5_goingMinute 0 = .ok (.aload_n 0, 1) := by decide +kernel
theorem dX5_goingMinute_1 : decode cX5_goingMinute 1 = .ok (.getfield 15, 3) := by decide +kernel
theorem dX5_goingMinute_4 : decode cX5_goingMinute 4 = .ok (.iload_n 1, 1) := by decide +kernel
theorem dX5_goingMinute_5 : decode cX5_goingMinute 5 = .ok (.iaload, 1) := by decide +kernel
theorem dX5_goingMinute_6 : decode cX5_goingMinute 6 = .ok (.aload_n 0, 1) := by decide +kernel
theorem dX5_goingMinute_7 : decode cX5_goingMinute 7 = .ok (.getfield 19, 3) := by decide +kernel
theorem dX5_goingMinute_10 : decode cX5_goingMinute 10 = .ok (.iload_n 1, 1) := by decide +kernel
theorem dX5_goingMinute_11 : decode cX5_goingMinute 11 = .ok (.iaload, 1) := by decide +kernel
theorem dX5_goingMinute_12 : decode cX5_goingMinute 12 = .ok (.aload_n 0, 1) := by decide +kernel
theorem dX5_goingMinute_13 : decode cX5_goingMinute 13 = .ok (.getfield 22, 3) := by decide +kernel
theorem dX5_goingMinute_16 : decode cX5_goingMinute 16 = .ok (.iload_n 1, 1) := by decide +kernel
theorem dX5_goingMinute_17 : decode cX5_goingMinute 17 = .ok (.iaload, 1) := by decide +kernel
theorem dX5_goingMinute_18 : decode cX5_goingMinute 18 = .ok (.invokestatic 70, 3) := by decide +kernel
theorem dX5_goingMinute_21 : decode cX5_goingMinute 21 = .ok (.ireturn, 1) := by decide +kernel
theorem dX5_weightOf_0 : decode cX5_weightOf 0 = .ok (.aload_n 0, 1) := by decide +kernel
theorem dX5_weightOf_1 : decode cX5_weightOf 1 = .ok (.getfield 15, 3) := by decide +kernel
theorem dX5_weightOf_4 : decode cX5_weightOf 4 = .ok (.iload_n 1, 1) := by decide +kernel
theorem dX5_weightOf_5 : decode cX5_weightOf 5 = .ok (.iaload, 1) := by decide +kernel
theorem dX5_weightOf_6 : decode cX5_weightOf 6 = .ok (.aload_n 0, 1) := by decide +kernel
theorem dX5_weightOf_7 : decode cX5_weightOf 7 = .ok (.getfield 19, 3) := by decide +kernel
theorem dX5_weightOf_10 : decode cX5_weightOf 10 = .ok (.iload_n 1, 1) := by decide +kernel
theorem dX5_weightOf_11 : decode cX5_weightOf 11 = .ok (.iaload, 1) := by decide +kernel
theorem dX5_weightOf_12 : decode cX5_weightOf 12 = .ok (.invokestatic 76, 3) := by decide +kernel
theorem dX5_weightOf_15 : decode cX5_weightOf 15 = .ok (.ireturn, 1) := by decide +kernel
theorem dX5_spareOf_0 : decode cX5_spareOf 0 = .ok (.aload_n 0, 1) := by decide +kernel
theorem dX5_spareOf_1 : decode cX5_spareOf 1 = .ok (.getfield 15, 3) := by decide +kernel
theorem dX5_spareOf_4 : decode cX5_spareOf 4 = .ok (.iload_n 1, 1) := by decide +kernel
theorem dX5_spareOf_5 : decode cX5_spareOf 5 = .ok (.iaload, 1) := by decide +kernel
theorem dX5_spareOf_6 : decode cX5_spareOf 6 = .ok (.aload_n 0, 1) := by decide +kernel
theorem dX5_spareOf_7 : decode cX5_spareOf 7 = .ok (.getfield 19, 3) := by decide +kernel
theorem dX5_spareOf_10 : decode cX5_spareOf 10 = .ok (.iload_n 1, 1) := by decide +kernel
theorem dX5_spareOf_11 : decode cX5_spareOf 11 = .ok (.iaload, 1) := by decide +kernel
theorem dX5_spareOf_12 : decode cX5_spareOf 12 = .ok (.invokestatic 79, 3) := by decide +kernel
theorem dX5_spareOf_15 : decode cX5_spareOf 15 = .ok (.ireturn, 1) := by decide +kernel
theorem dX5_allWeights_0 : decode cX5_allWeights 0 = .ok (.iconst 0, 1) := by decide +kernel
theorem dX5_allWeights_1 : decode cX5_allWeights 1 = .ok (.istore_n 1, 1) := by decide +kernel
theorem dX5_allWeights_2 : decode cX5_allWeights 2 = .ok (.iconst 0, 1) := by decide +kernel
theorem dX5_allWeights_3 : decode cX5_allWeights 3 = .ok (.istore_n 2, 1) := by decide +kernel
theorem dX5_allWeights_4 : decode cX5_allWeights 4 = .ok (.iload_n 2, 1) := by decide +kernel
theorem dX5_allWeights_5 : decode cX5_allWeights 5 = .ok (.aload_n 0, 1) := by decide +kernel
theorem dX5_allWeights_6 : decode cX5_allWeights 6 = .ok (.getfield 9, 3) := by decide +kernel
theorem dX5_allWeights_9 : decode cX5_allWeights 9 = .ok (.if_icmp .ge 17, 3) := by decide +kernel
theorem dX5_allWeights_12 : decode cX5_allWeights 12 = .ok (.iload_n 1, 1) := by decide +kernel
theorem dX5_allWeights_13 : decode cX5_allWeights 13 = .ok (.aload_n 0, 1) := by decide +kernel
theorem dX5_allWeights_14 : decode cX5_allWeights 14 = .ok (.iload_n 2, 1) := by decide +kernel
theorem dX5_allWeights_15 : decode cX5_allWeights 15 = .ok (.invokevirtual 82, 3) := by decide +kernel
theorem dX5_allWeights_18 : decode cX5_allWeights 18 = .ok (.iadd, 1) := by decide +kernel
theorem dX5_allWeights_19 : decode cX5_allWeights 19 = .ok (.istore_n 1, 1) := by decide +kernel
theorem dX5_allWeights_20 : decode cX5_allWeights 20 = .ok (.iinc 2 1, 3) := by decide +kernel
theorem dX5_allWeights_23 : decode cX5_allWeights 23 = .ok (.goto (-19), 3) := by decide +kernel
theorem dX5_allWeights_26 : decode cX5_allWeights 26 = .ok (.iload_n 1, 1) := by decide +kernel
theorem dX5_allWeights_27 : decode cX5_allWeights 27 = .ok (.ireturn, 1) := by decide +kernel
theorem dX6_brokenAt_0 : decode cX6_brokenAt 0 = .ok (.iconst 0, 1) := by decide +kernel
theorem dX6_brokenAt_1 : decode cX6_brokenAt 1 = .ok (.istore_n 1, 1) := by decide +kernel
theorem dX6_brokenAt_2 : decode cX6_brokenAt 2 = .ok (.iconst 0, 1) := by decide +kernel
theorem dX6_brokenAt_3 : decode cX6_brokenAt 3 = .ok (.istore_n 2, 1) := by decide +kernel
theorem dX6_brokenAt_4 : decode cX6_brokenAt 4 = .ok (.iload_n 2, 1) := by decide +kernel
theorem dX6_brokenAt_5 : decode cX6_brokenAt 5 = .ok (.ifCond .eq 17, 3) := by decide +kernel
theorem dX6_brokenAt_8 : decode cX6_brokenAt 8 = .ok (.iload_n 2, 1) := by decide +kernel
theorem dX6_brokenAt_9 : decode cX6_brokenAt 9 = .ok (.bipush 100, 2) := by decide +kernel
theorem dX6_brokenAt_11 : decode cX6_brokenAt 11 = .ok (.if_icmp .ge 39, 3) := by decide +kernel
theorem dX6_brokenAt_14 : decode cX6_brokenAt 14 = .ok (.iload_n 1, 1) := by decide +kernel
theorem dX6_brokenAt_15 : decode cX6_brokenAt 15 = .ok (.aload_n 0, 1) := by decide +kernel
theorem dX6_brokenAt_16 : decode cX6_brokenAt 16 = .ok (.getfield 9, 3) := by decide +kernel
theorem dX6_brokenAt_19 : decode cX6_brokenAt 19 = .ok (.if_icmp .ge 31, 3) := by decide +kernel
theorem dX6_brokenAt_22 : decode cX6_brokenAt 22 = .ok (.aload_n 0, 1) := by decide +kernel
theorem dX6_brokenAt_23 : decode cX6_brokenAt 23 = .ok (.iload_n 1, 1) := by decide +kernel
theorem dX6_brokenAt_24 : decode cX6_brokenAt 24 = .ok (.invokestatic 15, 3) := by decide +kernel
theorem dX6_brokenAt_27 : decode cX6_brokenAt 27 = .ok (.istore_n 3, 1) := by decide +kernel
theorem dX6_brokenAt_28 : decode cX6_brokenAt 28 = .ok (.iload_n 3, 1) := by decide +kernel
theorem dX6_brokenAt_29 : decode cX6_brokenAt 29 = .ok (.bipush (-4), 2) := by decide +kernel
theorem dX6_brokenAt_31 : decode cX6_brokenAt 31 = .ok (.if_icmp .eq 5, 3) := by decide +kernel
theorem dX6_brokenAt_34 : decode cX6_brokenAt 34 = .ok (.iload_n 3, 1) := by decide +kernel
theorem dX6_brokenAt_35 : decode cX6_brokenAt 35 = .ok (.ireturn, 1) := by decide +kernel
theorem dX6_brokenAt_36 : decode cX6_brokenAt 36 = .ok (.iload_n 1, 1) := by decide +kernel
theorem dX6_brokenAt_37 : decode cX6_brokenAt 37 = .ok (.aload_n 0, 1) := by decide +kernel
theorem dX6_brokenAt_38 : decode cX6_brokenAt 38 = .ok (.iload_n 1, 1) := by decide +kernel
theorem dX6_brokenAt_39 : decode cX6_brokenAt 39 = .ok (.invokestatic 21, 3) := by decide +kernel
theorem dX6_brokenAt_42 : decode cX6_brokenAt 42 = .ok (.iadd, 1) := by decide +kernel
theorem dX6_brokenAt_43 : decode cX6_brokenAt 43 = .ok (.istore_n 1, 1) := by decide +kernel
theorem dX6_brokenAt_44 : decode cX6_brokenAt 44 = .ok (.iinc 2 1, 3) := by decide +kernel
theorem dX6_brokenAt_47 : decode cX6_brokenAt 47 = .ok (.goto (-43), 3) := by decide +kernel
theorem dX6_brokenAt_50 : decode cX6_brokenAt 50 = .ok (.bipush (-4), 2) := by decide +kernel
theorem dX6_brokenAt_52 : decode cX6_brokenAt 52 = .ok (.ireturn, 1) := by decide +kernel
theorem dX6_senselessAt_0 : decode cX6_senselessAt 0 = .ok (.iconst 0, 1) := by decide +kernel
theorem dX6_senselessAt_1 : decode cX6_senselessAt 1 = .ok (.istore_n 2, 1) := by decide +kernel
theorem dX6_senselessAt_2 : decode cX6_senselessAt 2 = .ok (.iconst 0, 1) := by decide +kernel
theorem dX6_senselessAt_3 : decode cX6_senselessAt 3 = .ok (.istore_n 3, 1) := by decide +kernel
theorem dX6_senselessAt_4 : decode cX6_senselessAt 4 = .ok (.iload_n 3, 1) := by decide +kernel
theorem dX6_senselessAt_5 : decode cX6_senselessAt 5 = .ok (.bipush 100, 2) := by decide +kernel
theorem dX6_senselessAt_7 : decode cX6_senselessAt 7 = .ok (.if_icmp .ge 36, 3) := by decide +kernel
theorem dX6_senselessAt_10 : decode cX6_senselessAt 10 = .ok (.iload_n 2, 1) := by decide +kernel
theorem dX6_senselessAt_11 : decode cX6_senselessAt 11 = .ok (.aload_n 0, 1) := by decide +kernel
theorem dX6_senselessAt_12 : decode cX6_senselessAt 12 = .ok (.getfield 9, 3) := by decide +kernel
theorem dX6_senselessAt_15 : decode cX6_senselessAt 15 = .ok (.if_icmp .ge 28, 3) := by decide +kernel
theorem dX6_senselessAt_18 : decode cX6_senselessAt 18 = .ok (.aload_n 0, 1) := by decide +kernel
theorem dX6_senselessAt_19 : decode cX6_senselessAt 19 = .ok (.iload_n 2, 1) := by decide +kernel
theorem dX6_senselessAt_20 : decode cX6_senselessAt 20 = .ok (.aload_n 1, 1) := by decide +kernel
theorem dX6_senselessAt_21 : decode cX6_senselessAt 21 = .ok (.invokestatic 24, 3) := by decide +kernel
theorem dX6_senselessAt_24 : decode cX6_senselessAt 24 = .ok (.ifCond .ne 5, 3) := by decide +kernel
theorem dX6_senselessAt_27 : decode cX6_senselessAt 27 = .ok (.iload_n 2, 1) := by decide +kernel
theorem dX6_senselessAt_28 : decode cX6_senselessAt 28 = .ok (.ireturn, 1) := by decide +kernel
theorem dX6_senselessAt_29 : decode cX6_senselessAt 29 = .ok (.iload_n 2, 1) := by decide +kernel
theorem dX6_senselessAt_30 : decode cX6_senselessAt 30 = .ok (.aload_n 0, 1) := by decide +kernel
theorem dX6_senselessAt_31 : decode cX6_senselessAt 31 = .ok (.iload_n 2, 1) := by decide +kernel
theorem dX6_senselessAt_32 : decode cX6_senselessAt 32 = .ok (.invokestatic 21, 3) := by decide +kernel
theorem dX6_senselessAt_35 : decode cX6_senselessAt 35 = .ok (.iadd, 1) := by decide +kernel
theorem dX6_senselessAt_36 : decode cX6_senselessAt 36 = .ok (.istore_n 2, 1) := by decide +kernel
theorem dX6_senselessAt_37 : decode cX6_senselessAt 37 = .ok (.iinc 3 1, 3) := by decide +kernel
theorem dX6_senselessAt_40 : decode cX6_senselessAt 40 = .ok (.goto (-36), 3) := by decide +kernel
theorem dX6_senselessAt_43 : decode cX6_senselessAt 43 = .ok (.bipush (-4), 2) := by decide +kernel
theorem dX6_senselessAt_45 : decode cX6_senselessAt 45 = .ok (.ireturn, 1) := by decide +kernel
theorem dX6_statementsIn_0 : decode cX6_statementsIn 0 = .ok (.iconst 0, 1) := by decide +kernel
theorem dX6_statementsIn_1 : decode cX6_statementsIn 1 = .ok (.istore_n 1, 1) := by decide +kernel
theorem dX6_statementsIn_2 : decode cX6_statementsIn 2 = .ok (.iconst 0, 1) := by decide +kernel
theorem dX6_statementsIn_3 : decode cX6_statementsIn 3 = .ok (.istore_n 2, 1) := by decide +kernel
theorem dX6_statementsIn_4 : decode cX6_statementsIn 4 = .ok (.iload_n 2, 1) := by decide +kernel
theorem dX6_statementsIn_5 : decode cX6_statementsIn 5 = .ok (.aload_n 0, 1) := by decide +kernel
theorem dX6_statementsIn_6 : decode cX6_statementsIn 6 = .ok (.getfield 9, 3) := by decide +kernel
theorem dX6_statementsIn_9 : decode cX6_statementsIn 9 = .ok (.if_icmp .ge 23, 3) := by decide +kernel
theorem dX6_statementsIn_12 : decode cX6_statementsIn 12 = .ok (.aload_n 0, 1) := by decide +kernel
theorem dX6_statementsIn_13 : decode cX6_statementsIn 13 = .ok (.getfield 28, 3) := by decide +kernel
theorem dX6_statementsIn_16 : decode cX6_statementsIn 16 = .ok (.iload_n 2, 1) := by decide +kernel
theorem dX6_statementsIn_17 : decode cX6_statementsIn 17 = .ok (.iaload, 1) := by decide +kernel
theorem dX6_statementsIn_18 : decode cX6_statementsIn 18 = .ok (.bipush 59, 2) := by decide +kernel
theorem dX6_statementsIn_20 : decode cX6_statementsIn 20 = .ok (.if_icmp .ne 6, 3) := by decide +kernel
theorem dX6_statementsIn_23 : decode cX6_statementsIn 23 = .ok (.iinc 1 1, 3) := by decide +kernel
theorem dX6_statementsIn_26 : decode cX6_statementsIn 26 = .ok (.iinc 2 1, 3) := by decide +kernel
theorem dX6_statementsIn_29 : decode cX6_statementsIn 29 = .ok (.goto (-25), 3) := by decide +kernel
theorem dX6_statementsIn_32 : decode cX6_statementsIn 32 = .ok (.iload_n 1, 1) := by decide +kernel
theorem dX6_statementsIn_33 : decode cX6_statementsIn 33 = .ok (.ireturn, 1) := by decide +kernel
theorem dX6_isLetterOfRule_0 : decode cX6_isLetterOfRule 0 = .ok (.iconst 0, 1) := by decide +kernel
theorem dX6_isLetterOfRule_1 : decode cX6_isLetterOfRule 1 = .ok (.istore_n 1, 1) := by decide +kernel
theorem dX6_isLetterOfRule_2 : decode cX6_isLetterOfRule 2 = .ok (.iload_n 1, 1) := by decide +kernel
theorem dX6_isLetterOfRule_3 : decode cX6_isLetterOfRule 3 = .ok (.getstatic 32, 3) := by decide +kernel
theorem dX6_isLetterOfRule_6 : decode cX6_isLetterOfRule 6 = .ok (.arraylength, 1) := by decide +kernel
theorem dX6_isLetterOfRule_7 : decode cX6_isLetterOfRule 7 = .ok (.if_icmp .ge 20, 3) := by decide +kernel
theorem dX6_isLetterOfRule_10 : decode cX6_isLetterOfRule 10 = .ok (.getstatic 32, 3) := by decide +kernel
theorem dX6_isLetterOfRule_13 : decode cX6_isLetterOfRule 13 = .ok (.iload_n 1, 1) := by decide +kernel
theorem dX6_isLetterOfRule_14 : decode cX6_isLetterOfRule 14 = .ok (.caload, 1) := by decide +kernel
theorem dX6_isLetterOfRule_15 : decode cX6_isLetterOfRule 15 = .ok (.iload_n 0, 1) := by decide +kernel
theorem dX6_isLetterOfRule_16 : decode cX6_isLetterOfRule 16 = .ok (.if_icmp .ne 5, 3) := by decide +kernel
theorem dX6_isLetterOfRule_19 : decode cX6_isLetterOfRule 19 = .ok (.iconst 1, 1) := by decide +kernel
theorem dX6_isLetterOfRule_20 : decode cX6_isLetterOfRule 20 = .ok (.ireturn, 1) := by decide +kernel
theorem dX6_isLetterOfRule_21 : decode cX6_isLetterOfRule 21 = .ok (.iinc 1 1, 3) := by decide +kernel
theorem dX6_isLetterOfRule_24 : decode cX6_isLetterOfRule 24 = .ok (.goto (-22), 3) := by decide +kernel
theorem dX6_isLetterOfRule_27 : decode cX6_isLetterOfRule 27 = .ok (.iconst 0, 1) := by decide +kernel
theorem dX6_isLetterOfRule_28 : decode cX6_isLetterOfRule 28 = .ok (.ireturn, 1) := by decide +kernel
theorem dX6_brokenIn_0 : decode cX6_brokenIn 0 = .ok (.aload_n 0, 1) := by decide +kernel
theorem dX6_brokenIn_1 : decode cX6_brokenIn 1 = .ok (.iload_n 1, 1) := by decide +kernel
theorem dX6_brokenIn_2 : decode cX6_brokenIn 2 = .ok (.invokevirtual 36, 3) := by decide +kernel
theorem dX6_brokenIn_5 : decode cX6_brokenIn 5 = .ok (.istore_n 2, 1) := by decide +kernel
theorem dX6_brokenIn_6 : decode cX6_brokenIn 6 = .ok (.iload_n 2, 1) := by decide +kernel
theorem dX6_brokenIn_7 : decode cX6_brokenIn 7 = .ok (.invokestatic 40, 3) := by decide +kernel
theorem dX6_brokenIn_10 : decode cX6_brokenIn 10 = .ok (.istore_n 3, 1) := by decide +kernel
theorem dX6_brokenIn_11 : decode cX6_brokenIn 11 = .ok (.iload_n 3, 1) := by decide +kernel
theorem dX6_brokenIn_12 : decode cX6_brokenIn 12 = .ok (.ifCond .ne 11, 3) := by decide +kernel
theorem dX6_brokenIn_15 : decode cX6_brokenIn 15 = .ok (.iload_n 2, 1) := by decide +kernel
theorem dX6_brokenIn_16 : decode cX6_brokenIn 16 = .ok (.bipush 114, 2) := by decide +kernel
theorem dX6_brokenIn_18 : decode cX6_brokenIn 18 = .ok (.if_icmp .eq 5, 3) := by decide +kernel
theorem dX6_brokenIn_21 : decode cX6_brokenIn 21 = .ok (.iload_n 1, 1) := by decide +kernel
theorem dX6_brokenIn_22 : decode cX6_brokenIn 22 = .ok (.ireturn, 1) := by decide +kernel
theorem dX6_brokenIn_23 : decode cX6_brokenIn 23 = .ok (.iload_n 1, 1) := by decide +kernel
theorem dX6_brokenIn_24 : decode cX6_brokenIn 24 = .ok (.iconst 1, 1) := by decide +kernel
theorem dX6_brokenIn_25 : decode cX6_brokenIn 25 = .ok (.iadd, 1) := by decide +kernel
theorem dX6_brokenIn_26 : decode cX6_brokenIn 26 = .ok (.istore 4, 2) := by decide +kernel
theorem dX6_brokenIn_28 : decode cX6_brokenIn 28 = .ok (.iload 4, 2) := by decide +kernel
theorem dX6_brokenIn_30 : decode cX6_brokenIn 30 = .ok (.iload_n 1, 1) := by decide +kernel
theorem dX6_brokenIn_31 : decode cX6_brokenIn 31 = .ok (.iload_n 3, 1) := by decide +kernel
theorem dX6_brokenIn_32 : decode cX6_brokenIn 32 = .ok (.iadd, 1) := by decide +kernel
theorem dX6_brokenIn_33 : decode cX6_brokenIn 33 = .ok (.if_icmp .gt 24, 3) := by decide +kernel
theorem dX6_brokenIn_36 : decode cX6_brokenIn 36 = .ok (.aload_n 0, 1) := by decide +kernel
theorem dX6_brokenIn_37 : decode cX6_brokenIn 37 = .ok (.iload 4, 2) := by decide +kernel
theorem dX6_brokenIn_39 : decode cX6_brokenIn 39 = .ok (.invokevirtual 36, 3) := by decide +kernel
theorem dX6_brokenIn_42 : decode cX6_brokenIn 42 = .ok (.invokestatic 43, 3) := by decide +kernel
theorem dX6_brokenIn_45 : decode cX6_brokenIn 45 = .ok (.ifCond .ne 6, 3) := by decide +kernel
theorem dX6_brokenIn_48 : decode cX6_brokenIn 48 = .ok (.iload 4, 2) := by decide +kernel
theorem dX6_brokenIn_50 : decode cX6_brokenIn 50 = .ok (.ireturn, 1) := by decide +kernel
theorem dX6_brokenIn_51 : decode cX6_brokenIn 51 = .ok (.iinc 4 1, 3) := by decide +kernel
theorem dX6_brokenIn_54 : decode cX6_brokenIn 54 = .ok (.goto (-26), 3) := by decide +kernel
theorem dX6_brokenIn_57 : decode cX6_brokenIn 57 = .ok (.iload_n 1, 1) := by decide +kernel
theorem dX6_brokenIn_58 : decode cX6_brokenIn 58 = .ok (.aload_n 0, 1) := by decide +kernel
theorem dX6_brokenIn_59 : decode cX6_brokenIn 59 = .ok (.iload_n 1, 1) := by decide +kernel
theorem dX6_brokenIn_60 : decode cX6_brokenIn 60 = .ok (.invokestatic 21, 3) := by decide +kernel
theorem dX6_brokenIn_63 : decode cX6_brokenIn 63 = .ok (.iadd, 1) := by decide +kernel
theorem dX6_brokenIn_64 : decode cX6_brokenIn 64 = .ok (.iconst 1, 1) := by decide +kernel
theorem dX6_brokenIn_65 : decode cX6_brokenIn 65 = .ok (.isub, 1) := by decide +kernel
theorem dX6_brokenIn_66 : decode cX6_brokenIn 66 = .ok (.istore 4, 2) := by decide +kernel
theorem dX6_brokenIn_68 : decode cX6_brokenIn 68 = .ok (.aload_n 0, 1) := by decide +kernel
theorem dX6_brokenIn_69 : decode cX6_brokenIn 69 = .ok (.iload 4, 2) := by decide +kernel
theorem dX6_brokenIn_71 : decode cX6_brokenIn 71 = .ok (.invokevirtual 36, 3) := by decide +kernel
theorem dX6_brokenIn_74 : decode cX6_brokenIn 74 = .ok (.bipush 59, 2) := by decide +kernel
theorem dX6_brokenIn_76 : decode cX6_brokenIn 76 = .ok (.if_icmp .ne 8, 3) := by decide +kernel
theorem dX6_brokenIn_79 : decode cX6_brokenIn 79 = .ok (.bipush (-4), 2) := by decide +kernel
theorem dX6_brokenIn_81 : decode cX6_brokenIn 81 = .ok (.goto 5, 3) := by decide +kernel
theorem dX6_brokenIn_84 : decode cX6_brokenIn 84 = .ok (.iload 4, 2) := by decide +kernel
theorem dX6_brokenIn_86 : decode cX6_brokenIn 86 = .ok (.ireturn, 1) := by decide +kernel
theorem dX6_lengthOf_0 : decode cX6_lengthOf 0 = .ok (.aload_n 0, 1) := by decide +kernel
theorem dX6_lengthOf_1 : decode cX6_lengthOf 1 = .ok (.iload_n 1, 1) := by decide +kernel
theorem dX6_lengthOf_2 : decode cX6_lengthOf 2 = .ok (.invokevirtual 36, 3) := by decide +kernel
theorem dX6_lengthOf_5 : decode cX6_lengthOf 5 = .ok (.istore_n 2, 1) := by decide +kernel
theorem dX6_lengthOf_6 : decode cX6_lengthOf 6 = .ok (.iconst 2, 1) := by decide +kernel
theorem dX6_lengthOf_7 : decode cX6_lengthOf 7 = .ok (.iload_n 2, 1) := by decide +kernel
theorem dX6_lengthOf_8 : decode cX6_lengthOf 8 = .ok (.bipush 114, 2) := by decide +kernel
theorem dX6_lengthOf_10 : decode cX6_lengthOf 10 = .ok (.if_icmp .ne 11, 3) := by decide +kernel
theorem dX6_lengthOf_13 : decode cX6_lengthOf 13 = .ok (.aload_n 0, 1) := by decide +kernel
theorem dX6_lengthOf_14 : decode cX6_lengthOf 14 = .ok (.iload_n 1, 1) := by decide +kernel
theorem dX6_lengthOf_15 : decode cX6_lengthOf 15 = .ok (.invokestatic 47, 3) := by decide +kernel
theorem dX6_lengthOf_18 : decode cX6_lengthOf 18 = .ok (.goto 7, 3) := by decide +kernel
theorem dX6_lengthOf_21 : decode cX6_lengthOf 21 = .ok (.iload_n 2, 1) := by decide +kernel
theorem dX6_lengthOf_22 : decode cX6_lengthOf 22 = .ok (.invokestatic 40, 3) := by decide +kernel
theorem dX6_lengthOf_25 : decode cX6_lengthOf 25 = .ok (.iadd, 1) := by decide +kernel
theorem dX6_lengthOf_26 : decode cX6_lengthOf 26 = .ok (.ireturn, 1) := by decide +kernel
theorem dX6_lettersBehind_0 : decode cX6_lettersBehind 0 = .ok (.iconst 0, 1) := by decide +kernel
theorem dX6_lettersBehind_1 : decode cX6_lettersBehind 1 = .ok (.istore_n 2, 1) := by decide +kernel
theorem dX6_lettersBehind_2 : decode cX6_lettersBehind 2 = .ok (.iload_n 2, 1) := by decide +kernel
theorem dX6_lettersBehind_3 : decode cX6_lettersBehind 3 = .ok (.bipush 6, 2) := by decide +kernel
theorem dX6_lettersBehind_5 : decode cX6_lettersBehind 5 = .ok (.if_icmp .ge 24, 3) := by decide +kernel
theorem dX6_lettersBehind_8 : decode cX6_lettersBehind 8 = .ok (.aload_n 0, 1) := by decide +kernel
theorem dX6_lettersBehind_9 : decode cX6_lettersBehind 9 = .ok (.iload_n 1, 1) := by decide +kernel
theorem dX6_lettersBehind_10 : decode cX6_lettersBehind 10 = .ok (.iconst 1, 1) := by decide +kernel
theorem dX6_lettersBehind_11 : decode cX6_lettersBehind 11 = .ok (.iadd, 1) := by decide +kernel
theorem dX6_lettersBehind_12 : decode cX6_lettersBehind 12 = .ok (.iload_n 2, 1) := by decide +kernel
theorem dX6_lettersBehind_13 : decode cX6_lettersBehind 13 = .ok (.iadd, 1) := by decide +kernel
theorem dX6_lettersBehind_14 : decode cX6_lettersBehind 14 = .ok (.invokevirtual 36, 3) := by decide +kernel
theorem dX6_lettersBehind_17 : decode cX6_lettersBehind 17 = .ok (.invokestatic 50, 3) := by decide +kernel
theorem dX6_lettersBehind_20 : decode cX6_lettersBehind 20 = .ok (.ifCond .eq 9, 3) := by decide +kernel
theorem dX6_lettersBehind_23 : decode cX6_lettersBehind 23 = .ok (.iinc 2 1, 3) := by decide +kernel
theorem dX6_lettersBehind_26 : decode cX6_lettersBehind 26 = .ok (.goto (-24), 3) := by decide +kernel
theorem dX6_lettersBehind_29 : decode cX6_lettersBehind 29 = .ok (.iload_n 2, 1) := by decide +kernel
theorem dX6_lettersBehind_30 : decode cX6_lettersBehind 30 = .ok (.ireturn, 1) := by decide +kernel
theorem dX6_digitsBehind_0 : decode cX6_digitsBehind 0 = .ok (.iload_n 0, 1) := by decide +kernel
theorem dX6_digitsBehind_1 : decode cX6_digitsBehind 1 = .ok (.tableswitch 69 98 109 #[67, 69, 69, 69, 69, 63, 65, 69, 69, 67, 69, 67], 63) := by decide +kernel
theorem dX6_digitsBehind_64 : decode cX6_digitsBehind 64 = .ok (.iconst 4, 1) := by decide +kernel
theorem dX6_digitsBehind_65 : decode cX6_digitsBehind 65 = .ok (.ireturn, 1) := by decide +kernel
theorem dX6_digitsBehind_66 : decode cX6_digitsBehind 66 = .ok (.iconst 2, 1) := by decide +kernel
theorem dX6_digitsBehind_67 : decode cX6_digitsBehind 67 = .ok (.ireturn, 1) := by decide +kernel
theorem dX6_digitsBehind_68 : decode cX6_digitsBehind 68 = .ok (.iconst 1, 1) := by decide +kernel
theorem dX6_digitsBehind_69 : decode cX6_digitsBehind 69 = .ok (.ireturn, 1) := by decide +kernel
theorem dX6_digitsBehind_70 : decode cX6_digitsBehind 70 = .ok (.iconst 0, 1) := by decide +kernel
theorem dX6_digitsBehind_71 : decode cX6_digitsBehind 71 = .ok (.ireturn, 1) := by decide +kernel
theorem dX6_isDigit_0 : decode cX6_isDigit 0 = .ok (.iload_n 0, 1) := by decide +kernel
theorem dX6_isDigit_1 : decode cX6_isDigit 1 = .ok (.bipush 48, 2) := by decide +kernel
theorem dX6_isDigit_3 : decode cX6_isDigit 3 = .ok (.if_icmp .lt 13, 3) := by decide +kernel
theorem dX6_isDigit_6 : decode cX6_isDigit 6 = .ok (.iload_n 0, 1) := by decide +kernel
theorem dX6_isDigit_7 : decode cX6_isDigit 7 = .ok (.bipush 57, 2) := by decide +kernel
theorem dX6_isDigit_9 : decode cX6_isDigit 9 = .ok (.if_icmp .gt 7, 3) := by decide +kernel
theorem dX6_isDigit_12 : decode cX6_isDigit 12 = .ok (.iconst 1, 1) := by decide +kernel
theorem dX6_isDigit_13 : decode cX6_isDigit 13 = .ok (.goto 4, 3) := by decide +kernel
theorem dX6_isDigit_16 : decode cX6_isDigit 16 = .ok (.iconst 0, 1) := by decide +kernel
theorem dX6_isDigit_17 : decode cX6_isDigit 17 = .ok (.ireturn, 1) := by decide +kernel
theorem dX6_digitAt_0 : decode cX6_digitAt 0 = .ok (.aload_n 0, 1) := by decide +kernel
theorem dX6_digitAt_1 : decode cX6_digitAt 1 = .ok (.iload_n 1, 1) := by decide +kernel
theorem dX6_digitAt_2 : decode cX6_digitAt 2 = .ok (.invokevirtual 36, 3) := by decide +kernel
theorem dX6_digitAt_5 : decode cX6_digitAt 5 = .ok (.bipush 48, 2) := by decide +kernel
theorem dX6_digitAt_7 : decode cX6_digitAt 7 = .ok (.isub, 1) := by decide +kernel
theorem dX6_digitAt_8 : decode cX6_digitAt 8 = .ok (.ireturn, 1) := by decide +kernel
theorem dX6_comesTrue_0 : decode cX6_comesTrue 0 = .ok (.aload_n 0, 1) := by decide +kernel
theorem dX6_comesTrue_1 : decode cX6_comesTrue 1 = .ok (.iload_n 1, 1) := by decide +kernel
theorem dX6_comesTrue_2 : decode cX6_comesTrue 2 = .ok (.iconst 1, 1) := by decide +kernel
theorem dX6_comesTrue_3 : decode cX6_comesTrue 3 = .ok (.iadd, 1) := by decide +kernel
theorem dX6_comesTrue_4 : decode cX6_comesTrue 4 = .ok (.invokestatic 53, 3) := by decide +kernel
theorem dX6_comesTrue_7 : decode cX6_comesTrue 7 = .ok (.istore_n 3, 1) := by decide +kernel
theorem dX6_comesTrue_8 : decode cX6_comesTrue 8 = .ok (.aload_n 0, 1) := by decide +kernel
theorem dX6_comesTrue_9 : decode cX6_comesTrue 9 = .ok (.iload_n 1, 1) := by decide +kernel
theorem dX6_comesTrue_10 : decode cX6_comesTrue 10 = .ok (.invokevirtual 36, 3) := by decide +kernel
theorem dX6_comesTrue_13 : decode cX6_comesTrue 13 = .ok (.tableswitch 153 98 109 #[115, 153, 153, 153, 153, 63, 85, 153, 153, 129, 153, 122], 63) := by decide +kernel
theorem dX6_comesTrue_76 : decode cX6_comesTrue 76 = .ok (.iload_n 3, 1) := by decide +kernel
theorem dX6_comesTrue_77 : decode cX6_comesTrue 77 = .ok (.invokestatic 56, 3) := by decide +kernel
theorem dX6_comesTrue_80 : decode cX6_comesTrue 80 = .ok (.ifCond .eq 16, 3) := by decide +kernel
theorem dX6_comesTrue_83 : decode cX6_comesTrue 83 = .ok (.aload_n 0, 1) := by decide +kernel
theorem dX6_comesTrue_84 : decode cX6_comesTrue 84 = .ok (.iload_n 1, 1) := by decide +kernel
theorem dX6_comesTrue_85 : decode cX6_comesTrue 85 = .ok (.aload_n 2, 1) := by decide +kernel
theorem dX6_comesTrue_86 : decode cX6_comesTrue 86 = .ok (.invokestatic 61, 3) := by decide +kernel
theorem dX6_comesTrue_89 : decode cX6_comesTrue 89 = .ok (.ifCond .eq 7, 3) := by decide +kernel
theorem dX6_comesTrue_92 : decode cX6_comesTrue 92 = .ok (.iconst 1, 1) := by decide +kernel
theorem dX6_comesTrue_93 : decode cX6_comesTrue 93 = .ok (.goto 4, 3) := by decide +kernel
theorem dX6_comesTrue_96 : decode cX6_comesTrue 96 = .ok (.iconst 0, 1) := by decide +kernel
theorem dX6_comesTrue_97 : decode cX6_comesTrue 97 = .ok (.ireturn, 1) := by decide +kernel
theorem dX6_comesTrue_98 : decode cX6_comesTrue 98 = .ok (.aload_n 2, 1) := by decide +kernel
theorem dX6_comesTrue_99 : decode cX6_comesTrue 99 = .ok (.iconst 0, 1) := by decide +kernel
theorem dX6_comesTrue_100 : decode cX6_comesTrue 100 = .ok (.iload_n 3, 1) := by decide +kernel
theorem dX6_comesTrue_101 : decode cX6_comesTrue 101 = .ok (.invokestatic 64, 3) := by decide +kernel
theorem dX6_comesTrue_104 : decode cX6_comesTrue 104 = .ok (.ifCond .eq 22, 3) := by decide +kernel
theorem dX6_comesTrue_107 : decode cX6_comesTrue 107 = .ok (.aload_n 2, 1) := by decide +kernel
theorem dX6_comesTrue_108 : decode cX6_comesTrue 108 = .ok (.iconst 1, 1) := by decide +kernel
theorem dX6_comesTrue_109 : decode cX6_comesTrue 109 = .ok (.aload_n 0, 1) := by decide +kernel
theorem dX6_comesTrue_110 : decode cX6_comesTrue 110 = .ok (.iload_n 1, 1) := by decide +kernel
theorem dX6_comesTrue_111 : decode cX6_comesTrue 111 = .ok (.iconst 2, 1) := by decide +kernel
theorem dX6_comesTrue_112 : decode cX6_comesTrue 112 = .ok (.iadd, 1) := by decide +kernel
theorem dX6_comesTrue_113 : decode cX6_comesTrue 113 = .ok (.invokestatic 53, 3) := by decide +kernel
theorem dX6_comesTrue_116 : decode cX6_comesTrue 116 = .ok (.invokestatic 64, 3) := by decide +kernel
theorem dX6_comesTrue_119 : decode cX6_comesTrue 119 = .ok (.ifCond .eq 7, 3) := by decide +kernel
theorem dX6_comesTrue_122 : decode cX6_comesTrue 122 = .ok (.iconst 1, 1) := by decide +kernel
theorem dX6_comesTrue_123 : decode cX6_comesTrue 123 = .ok (.goto 4, 3) := by decide +kernel
theorem dX6_comesTrue_126 : decode cX6_comesTrue 126 = .ok (.iconst 0, 1) := by decide +kernel
theorem dX6_comesTrue_127 : decode cX6_comesTrue 127 = .ok (.ireturn, 1) := by decide +kernel
theorem dX6_comesTrue_128 : decode cX6_comesTrue 128 = .ok (.aload_n 2, 1) := by decide +kernel
theorem dX6_comesTrue_129 : decode cX6_comesTrue 129 = .ok (.iconst 2, 1) := by decide +kernel
theorem dX6_comesTrue_130 : decode cX6_comesTrue 130 = .ok (.iload_n 3, 1) := by decide +kernel
theorem dX6_comesTrue_131 : decode cX6_comesTrue 131 = .ok (.invokestatic 64, 3) := by decide +kernel
theorem dX6_comesTrue_134 : decode cX6_comesTrue 134 = .ok (.ireturn, 1) := by decide +kernel
theorem dX6_comesTrue_135 : decode cX6_comesTrue 135 = .ok (.aload_n 2, 1) := by decide +kernel
theorem dX6_comesTrue_136 : decode cX6_comesTrue 136 = .ok (.iconst 3, 1) := by decide +kernel
theorem dX6_comesTrue_137 : decode cX6_comesTrue 137 = .ok (.iload_n 3, 1) := by decide +kernel
theorem dX6_comesTrue_138 : decode cX6_comesTrue 138 = .ok (.invokestatic 64, 3) := by decide +kernel
theorem dX6_comesTrue_141 : decode cX6_comesTrue 141 = .ok (.ireturn, 1) := by decide +kernel
theorem dX6_comesTrue_142 : decode cX6_comesTrue 142 = .ok (.aload_n 2, 1) := by decide +kernel
theorem dX6_comesTrue_143 : decode cX6_comesTrue 143 = .ok (.iload_n 3, 1) := by decide +kernel
theorem dX6_comesTrue_144 : decode cX6_comesTrue 144 = .ok (.invokevirtual 68, 3) := by decide +kernel
theorem dX6_comesTrue_147 : decode cX6_comesTrue 147 = .ok (.ifCond .eq 17, 3) := by decide +kernel
theorem dX6_comesTrue_150 : decode cX6_comesTrue 150 = .ok (.aload_n 2, 1) := by decide +kernel
theorem dX6_comesTrue_151 : decode cX6_comesTrue 151 = .ok (.iload_n 3, 1) := by decide +kernel
theorem dX6_comesTrue_152 : decode cX6_comesTrue 152 = .ok (.invokevirtual 73, 3) := by decide +kernel
theorem dX6_comesTrue_155 : decode cX6_comesTrue 155 = .ok (.bipush (-2), 2) := by decide +kernel
theorem dX6_comesTrue_157 : decode cX6_comesTrue 157 = .ok (.if_icmp .eq 7, 3) := by decide +kernel
theorem dX6_comesTrue_160 : decode cX6_comesTrue 160 = .ok (.iconst 1, 1) := by decide +kernel
theorem dX6_comesTrue_161 : decode cX6_comesTrue 161 = .ok (.goto 4, 3) := by decide +kernel
theorem dX6_comesTrue_164 : decode cX6_comesTrue 164 = .ok (.iconst 0, 1) := by decide +kernel
theorem dX6_comesTrue_165 : decode cX6_comesTrue 165 = .ok (.ireturn, 1) := by decide +kernel
theorem dX6_comesTrue_166 : decode cX6_comesTrue 166 = .ok (.aload_n 2, 1) := by decide +kernel
theorem dX6_comesTrue_167 : decode cX6_comesTrue 167 = .ok (.aload_n 0, 1) := by decide +kernel
theorem dX6_comesTrue_168 : decode cX6_comesTrue 168 = .ok (.iload_n 1, 1) := by decide +kernel
theorem dX6_comesTrue_169 : decode cX6_comesTrue 169 = .ok (.iconst 1, 1) := by decide +kernel
theorem dX6_comesTrue_170 : decode cX6_comesTrue 170 = .ok (.iadd, 1) := by decide +kernel
theorem dX6_comesTrue_171 : decode cX6_comesTrue 171 = .ok (.aload_n 0, 1) := by decide +kernel
theorem dX6_comesTrue_172 : decode cX6_comesTrue 172 = .ok (.iload_n 1, 1) := by decide +kernel
theorem dX6_comesTrue_173 : decode cX6_comesTrue 173 = .ok (.invokestatic 47, 3) := by decide +kernel
theorem dX6_comesTrue_176 : decode cX6_comesTrue 176 = .ok (.invokevirtual 76, 3) := by decide +kernel
theorem dX6_comesTrue_179 : decode cX6_comesTrue 179 = .ok (.iconst 1, 1) := by decide +kernel
theorem dX6_comesTrue_180 : decode cX6_comesTrue 180 = .ok (.ireturn, 1) := by decide +kernel
theorem dX6_isWelcome_0 : decode cX6_isWelcome 0 = .ok (.bipush 10, 2) := by decide +kernel
theorem dX6_isWelcome_2 : decode cX6_isWelcome 2 = .ok (.aload_n 0, 1) := by decide +kernel
theorem dX6_isWelcome_3 : decode cX6_isWelcome 3 = .ok (.iload_n 1, 1) := by decide +kernel
theorem dX6_isWelcome_4 : decode cX6_isWelcome 4 = .ok (.iconst 3, 1) := by decide +kernel
theorem dX6_isWelcome_5 : decode cX6_isWelcome 5 = .ok (.iadd, 1) := by decide +kernel
theorem dX6_isWelcome_6 : decode cX6_isWelcome 6 = .ok (.invokestatic 53, 3) := by decide +kernel
theorem dX6_isWelcome_9 : decode cX6_isWelcome 9 = .ok (.imul, 1) := by decide +kernel
theorem dX6_isWelcome_10 : decode cX6_isWelcome 10 = .ok (.aload_n 0, 1) := by decide +kernel
theorem dX6_isWelcome_11 : decode cX6_isWelcome 11 = .ok (.iload_n 1, 1) := by decide +kernel
theorem dX6_isWelcome_12 : decode cX6_isWelcome 12 = .ok (.iconst 4, 1) := by decide +kernel
theorem dX6_isWelcome_13 : decode cX6_isWelcome 13 = .ok (.iadd, 1) := by decide +kernel
theorem dX6_isWelcome_14 : decode cX6_isWelcome 14 = .ok (.invokestatic 53, 3) := by decide +kernel
theorem dX6_isWelcome_17 : decode cX6_isWelcome 17 = .ok (.iadd, 1) := by decide +kernel
theorem dX6_isWelcome_18 : decode cX6_isWelcome 18 = .ok (.istore_n 3, 1) := by decide +kernel
theorem dX6_isWelcome_19 : decode cX6_isWelcome 19 = .ok (.aload_n 2, 1) := by decide +kernel
theorem dX6_isWelcome_20 : decode cX6_isWelcome 20 = .ok (.aload_n 0, 1) := by decide +kernel
theorem dX6_isWelcome_21 : decode cX6_isWelcome 21 = .ok (.iload_n 1, 1) := by decide +kernel
theorem dX6_isWelcome_22 : decode cX6_isWelcome 22 = .ok (.iconst 1, 1) := by decide +kernel
theorem dX6_isWelcome_23 : decode cX6_isWelcome 23 = .ok (.iadd, 1) := by decide +kernel
theorem dX6_isWelcome_24 : decode cX6_isWelcome 24 = .ok (.invokestatic 53, 3) := by decide +kernel
theorem dX6_isWelcome_27 : decode cX6_isWelcome 27 = .ok (.aload_n 0, 1) := by decide +kernel
theorem dX6_isWelcome_28 : decode cX6_isWelcome 28 = .ok (.iload_n 1, 1) := by decide +kernel
theorem dX6_isWelcome_29 : decode cX6_isWelcome 29 = .ok (.iconst 2, 1) := by decide +kernel
theorem dX6_isWelcome_30 : decode cX6_isWelcome 30 = .ok (.iadd, 1) := by decide +kernel
theorem dX6_isWelcome_31 : decode cX6_isWelcome 31 = .ok (.invokestatic 53, 3) := by decide +kernel
theorem dX6_isWelcome_34 : decode cX6_isWelcome 34 = .ok (.iload_n 3, 1) := by decide +kernel
theorem dX6_isWelcome_35 : decode cX6_isWelcome 35 = .ok (.invokevirtual 80, 3) := by decide +kernel
theorem dX6_isWelcome_38 : decode cX6_isWelcome 38 = .ok (.istore 4, 2) := by decide +kernel
theorem dX6_isWelcome_40 : decode cX6_isWelcome 40 = .ok (.iload 4, 2) := by decide +kernel
theorem dX6_isWelcome_42 : decode cX6_isWelcome 42 = .ok (.bipush (-2), 2) := by decide +kernel
theorem dX6_isWelcome_44 : decode cX6_isWelcome 44 = .ok (.if_icmp .eq 7, 3) := by decide +kernel
theorem dX6_isWelcome_47 : decode cX6_isWelcome 47 = .ok (.iconst 1, 1) := by decide +kernel
theorem dX6_isWelcome_48 : decode cX6_isWelcome 48 = .ok (.goto 4, 3) := by decide +kernel
theorem dX6_isWelcome_51 : decode cX6_isWelcome 51 = .ok (.iconst 0, 1) := by decide +kernel
theorem dX6_isWelcome_52 : decode cX6_isWelcome 52 = .ok (.ireturn, 1) := by decide +kernel
theorem dX6_settles_0 : decode cX6_settles 0 = .ok (.iload_n 1, 1) := by decide +kernel
theorem dX6_settles_1 : decode cX6_settles 1 = .ok (.iload_n 2, 1) := by decide +kernel
theorem dX6_settles_2 : decode cX6_settles 2 = .ok (.invokestatic 84, 3) := by decide +kernel
theorem dX6_settles_5 : decode cX6_settles 5 = .ok (.ifCond .ne 5, 3) := by decide +kernel
theorem dX6_settles_8 : decode cX6_settles 8 = .ok (.iconst 0, 1) := by decide +kernel
theorem dX6_settles_9 : decode cX6_settles 9 = .ok (.ireturn, 1) := by decide +kernel
theorem dX6_settles_10 : decode cX6_settles 10 = .ok (.aload_n 0, 1) := by decide +kernel
theorem dX6_settles_11 : decode cX6_settles 11 = .ok (.getfield 88, 3) := by decide +kernel
theorem dX6_settles_14 : decode cX6_settles 14 = .ok (.iload_n 1, 1) := by decide +kernel
theorem dX6_settles_15 : decode cX6_settles 15 = .ok (.iload_n 2, 1) := by decide +kernel
theorem dX6_settles_16 : decode cX6_settles 16 = .ok (.iastore, 1) := by decide +kernel
theorem dX6_settles_17 : decode cX6_settles 17 = .ok (.iconst 1, 1) := by decide +kernel
theorem dX6_settles_18 : decode cX6_settles 18 = .ok (.ireturn, 1) := by decide +kernel
theorem dX7_init_0 : decode cX7_init 0 = .ok (.aload_n 0, 1) := by decide +kernel
theorem dX7_init_1 : decode cX7_init 1 = .ok (.invokespecial 3, 3) := by decide +kernel
theorem dX7_init_4 : decode cX7_init 4 = .ok (.aload_n 0, 1) := by decide +kernel
theorem dX7_init_5 : decode cX7_init 5 = .ok (.bipush 100, 2) := by decide +kernel
theorem dX7_init_7 : decode cX7_init 7 = .ok (.newarray .int, 2) := by decide +kernel
theorem dX7_init_9 : decode cX7_init 9 = .ok (.putfield 9, 3) := by decide +kernel
theorem dX7_init_12 : decode cX7_init 12 = .ok (.return_, 1) := by decide +kernel
theorem dX7_becomeEmpty_0 : decode cX7_becomeEmpty 0 = .ok (.aload_n 0, 1) := by decide +kernel
theorem dX7_becomeEmpty_1 : decode cX7_becomeEmpty 1 = .ok (.iconst 0, 1) := by decide +kernel
theorem dX7_becomeEmpty_2 : decode cX7_becomeEmpty 2 = .ok (.putfield 15, 3) := by decide +kernel
theorem dX7_becomeEmpty_5 : decode cX7_becomeEmpty 5 = .ok (.aload_n 0, 1) := by decide +kernel
theorem dX7_becomeEmpty_6 : decode cX7_becomeEmpty 6 = .ok (.iconst 0, 1) := by decide +kernel
theorem dX7_becomeEmpty_7 : decode cX7_becomeEmpty 7 = .ok (.putfield 19, 3) := by decide +kernel
theorem dX7_becomeEmpty_10 : decode cX7_becomeEmpty 10 = .ok (.return_, 1) := by decide +kernel
theorem dX7_becomeCoat_0 : decode cX7_becomeCoat 0 = .ok (.aload_n 0, 1) := by decide +kernel
theorem dX7_becomeCoat_1 : decode cX7_becomeCoat 1 = .ok (.iconst 1, 1) := by decide +kernel
theorem dX7_becomeCoat_2 : decode cX7_becomeCoat 2 = .ok (.putfield 15, 3) := by decide +kernel
theorem dX7_becomeCoat_5 : decode cX7_becomeCoat 5 = .ok (.aload_n 0, 1) := by decide +kernel
theorem dX7_becomeCoat_6 : decode cX7_becomeCoat 6 = .ok (.iconst 0, 1) := by decide +kernel
theorem dX7_becomeCoat_7 : decode cX7_becomeCoat 7 = .ok (.putfield 19, 3) := by decide +kernel
theorem dX7_becomeCoat_10 : decode cX7_becomeCoat 10 = .ok (.aload_n 0, 1) := by decide +kernel
theorem dX7_becomeCoat_11 : decode cX7_becomeCoat 11 = .ok (.iload_n 1, 1) := by decide +kernel
theorem dX7_becomeCoat_12 : decode cX7_becomeCoat 12 = .ok (.putfield 22, 3) := by decide +kernel
theorem dX7_becomeCoat_15 : decode cX7_becomeCoat 15 = .ok (.aload_n 0, 1) := by decide +kernel
theorem dX7_becomeCoat_16 : decode cX7_becomeCoat 16 = .ok (.iload_n 2, 1) := by decide +kernel
theorem dX7_becomeCoat_17 : decode cX7_becomeCoat 17 = .ok (.putfield 25, 3) := by decide +kernel
theorem dX7_becomeCoat_20 : decode cX7_becomeCoat 20 = .ok (.return_, 1) := by decide +kernel
theorem dX7_becomeRow_0 : decode cX7_becomeRow 0 = .ok (.aload_n 0, 1) := by decide +kernel
theorem dX7_becomeRow_1 : decode cX7_becomeRow 1 = .ok (.iconst 2, 1) := by decide +kernel
theorem dX7_becomeRow_2 : decode cX7_becomeRow 2 = .ok (.putfield 15, 3) := by decide +kernel
theorem dX7_becomeRow_5 : decode cX7_becomeRow 5 = .ok (.aload_n 0, 1) := by decide +kernel
theorem dX7_becomeRow_6 : decode cX7_becomeRow 6 = .ok (.iload_n 1, 1) := by decide +kernel
theorem dX7_becomeRow_7 : decode cX7_becomeRow 7 = .ok (.putfield 28, 3) := by decide +kernel
theorem dX7_becomeRow_10 : decode cX7_becomeRow 10 = .ok (.aload_n 0, 1) := by decide +kernel
theorem dX7_becomeRow_11 : decode cX7_becomeRow 11 = .ok (.iload_n 2, 1) := by decide +kernel
theorem dX7_becomeRow_12 : decode cX7_becomeRow 12 = .ok (.putfield 19, 3) := by decide +kernel
theorem dX7_becomeRow_15 : decode cX7_becomeRow 15 = .ok (.iconst 0, 1) := by decide +kernel
theorem dX7_becomeRow_16 : decode cX7_becomeRow 16 = .ok (.istore_n 3, 1) := by decide +kernel
theorem dX7_becomeRow_17 : decode cX7_becomeRow 17 = .ok (.iload_n 3, 1) := by decide +kernel
theorem dX7_becomeRow_18 : decode cX7_becomeRow 18 = .ok (.bipush 100, 2) := by decide +kernel
theorem dX7_becomeRow_20 : decode cX7_becomeRow 20 = .ok (.if_icmp .ge 16, 3) := by decide +kernel
theorem dX7_becomeRow_23 : decode cX7_becomeRow 23 = .ok (.aload_n 0, 1) := by decide +kernel
theorem dX7_becomeRow_24 : decode cX7_becomeRow 24 = .ok (.getfield 9, 3) := by decide +kernel
theorem dX7_becomeRow_27 : decode cX7_becomeRow 27 = .ok (.iload_n 3, 1) := by decide +kernel
theorem dX7_becomeRow_28 : decode cX7_becomeRow 28 = .ok (.iconst 0, 1) := by decide +kernel
theorem dX7_becomeRow_29 : decode cX7_becomeRow 29 = .ok (.iastore, 1) := by decide +kernel
theorem dX7_becomeRow_30 : decode cX7_becomeRow 30 = .ok (.iinc 3 1, 3) := by decide +kernel
theorem dX7_becomeRow_33 : decode cX7_becomeRow 33 = .ok (.goto (-16), 3) := by decide +kernel
theorem dX7_becomeRow_36 : decode cX7_becomeRow 36 = .ok (.return_, 1) := by decide +kernel
theorem dX7_hasPlace_0 : decode cX7_hasPlace 0 = .ok (.iload_n 1, 1) := by decide +kernel
theorem dX7_hasPlace_1 : decode cX7_hasPlace 1 = .ok (.ifCond .lt 15, 3) := by decide +kernel
theorem dX7_hasPlace_4 : decode cX7_hasPlace 4 = .ok (.iload_n 1, 1) := by decide +kernel
theorem dX7_hasPlace_5 : decode cX7_hasPlace 5 = .ok (.aload_n 0, 1) := by decide +kernel
theorem dX7_hasPlace_6 : decode cX7_hasPlace 6 = .ok (.getfield 19, 3) := by decide +kernel
theorem dX7_hasPlace_9 : decode cX7_hasPlace 9 = .ok (.if_icmp .ge 7, 3) := by decide +kernel
theorem dX7_hasPlace_12 : decode cX7_hasPlace 12 = .ok (.iconst 1, 1) := by decide +kernel
theorem dX7_hasPlace_13 : decode cX7_hasPlace 13 = .ok (.goto 4, 3) := by decide +kernel
theorem dX7_hasPlace_16 : decode cX7_hasPlace 16 = .ok (.iconst 0, 1) := by decide +kernel
theorem dX7_hasPlace_17 : decode cX7_hasPlace 17 = .ok (.ireturn, 1) := by decide +kernel
theorem dX7_hasStretch_0 : decode cX7_hasStretch 0 = .ok (.iload_n 1, 1) := by decide +kernel
theorem dX7_hasStretch_1 : decode cX7_hasStretch 1 = .ok (.ifCond .lt 29, 3) := by decide +kernel
theorem dX7_hasStretch_4 : decode cX7_hasStretch 4 = .ok (.iload_n 2, 1) := by decide +kernel
theorem dX7_hasStretch_5 : decode cX7_hasStretch 5 = .ok (.ifCond .lt 25, 3) := by decide +kernel
theorem dX7_hasStretch_8 : decode cX7_hasStretch 8 = .ok (.iload_n 2, 1) := by decide +kernel
theorem dX7_hasStretch_9 : decode cX7_hasStretch 9 = .ok (.aload_n 0, 1) := by decide +kernel
theorem dX7_hasStretch_10 : decode cX7_hasStretch 10 = .ok (.getfield 19, 3) := by decide +kernel
theorem dX7_hasStretch_13 : decode cX7_hasStretch 13 = .ok (.if_icmp .gt 17, 3) := by decide +kernel
theorem dX7_hasStretch_16 : decode cX7_hasStretch 16 = .ok (.iload_n 1, 1) := by decide +kernel
theorem dX7_hasStretch_17 : decode cX7_hasStretch 17 = .ok (.aload_n 0, 1) := by decide +kernel
theorem dX7_hasStretch_18 : decode cX7_hasStretch 18 = .ok (.getfield 19, 3) := by decide +kernel
theorem dX7_hasStretch_21 : decode cX7_hasStretch 21 = .ok (.iload_n 2, 1) := by decide +kernel
theorem dX7_hasStretch_22 : decode cX7_hasStretch 22 = .ok (.isub, 1) := by decide +kernel
theorem dX7_hasStretch_23 : decode cX7_hasStretch 23 = .ok (.if_icmp .gt 7, 3) := by decide +kernel
theorem dX7_hasStretch_26 : decode cX7_hasStretch 26 = .ok (.iconst 1, 1) := by decide +kernel
theorem dX7_hasStretch_27 : decode cX7_hasStretch 27 = .ok (.goto 4, 3) := by decide +kernel
theorem dX7_hasStretch_30 : decode cX7_hasStretch 30 = .ok (.iconst 0, 1) := by decide +kernel
theorem dX7_hasStretch_31 : decode cX7_hasStretch 31 = .ok (.ireturn, 1) := by decide +kernel
theorem dX7_cutToSort_0 : decode cX7_cutToSort 0 = .ok (.aload_n 0, 1) := by decide +kernel
theorem dX7_cutToSort_1 : decode cX7_cutToSort 1 = .ok (.getfield 28, 3) := by decide +kernel
theorem dX7_cutToSort_4 : decode cX7_cutToSort 4 = .ok (.ifCond .ne 6, 3) := by decide +kernel
theorem dX7_cutToSort_7 : decode cX7_cutToSort 7 = .ok (.iload_n 1, 1) := by decide +kernel
theorem dX7_cutToSort_8 : decode cX7_cutToSort 8 = .ok (.i2b, 1) := by decide +kernel
theorem dX7_cutToSort_9 : decode cX7_cutToSort 9 = .ok (.ireturn, 1) := by decide +kernel
theorem dX7_cutToSort_10 : decode cX7_cutToSort 10 = .ok (.aload_n 0, 1) := by decide +kernel
theorem dX7_cutToSort_11 : decode cX7_cutToSort 11 = .ok (.getfield 28, 3) := by decide +kernel
theorem dX7_cutToSort_14 : decode cX7_cutToSort 14 = .ok (.iconst 1, 1) := by decide +kernel
theorem dX7_cutToSort_15 : decode cX7_cutToSort 15 = .ok (.if_icmp .ne 8, 3) := by decide +kernel
theorem dX7_cutToSort_18 : decode cX7_cutToSort 18 = .ok (.iload_n 1, 1) := by decide +kernel
theorem dX7_cutToSort_19 : decode cX7_cutToSort 19 = .ok (.i2s, 1) := by decide +kernel
theorem dX7_cutToSort_20 : decode cX7_cutToSort 20 = .ok (.goto 4, 3) := by decide +kernel
theorem dX7_cutToSort_23 : decode cX7_cutToSort 23 = .ok (.iload_n 1, 1) := by decide +kernel
theorem dX7_cutToSort_24 : decode cX7_cutToSort 24 = .ok (.ireturn, 1) := by decide +kernel
theorem dX7_signAt_0 : decode cX7_signAt 0 = .ok (.aload_n 0, 1) := by decide +kernel
theorem dX7_signAt_1 : decode cX7_signAt 1 = .ok (.iload_n 1, 1) := by decide +kernel
theorem dX7_signAt_2 : decode cX7_signAt 2 = .ok (.invokevirtual 31, 3) := by decide +kernel
theorem dX7_signAt_5 : decode cX7_signAt 5 = .ok (.ifCond .eq 12, 3) := by decide +kernel
theorem dX7_signAt_8 : decode cX7_signAt 8 = .ok (.aload_n 0, 1) := by decide +kernel
theorem dX7_signAt_9 : decode cX7_signAt 9 = .ok (.getfield 9, 3) := by decide +kernel
theorem dX7_signAt_12 : decode cX7_signAt 12 = .ok (.iload_n 1, 1) := by decide +kernel
theorem dX7_signAt_13 : decode cX7_signAt 13 = .ok (.iaload, 1) := by decide +kernel
theorem dX7_signAt_14 : decode cX7_signAt 14 = .ok (.goto 4, 3) := by decide +kernel
theorem dX7_signAt_17 : decode cX7_signAt 17 = .ok (.iconst (-1), 1) := by decide +kernel
theorem dX7_signAt_18 : decode cX7_signAt 18 = .ok (.ireturn, 1) := by decide +kernel
theorem dX8_init_0 : decode cX8_init 0 = .ok (.aload_n 0, 1) := by decide +kernel
theorem dX8_init_1 : decode cX8_init 1 = .ok (.invokespecial 3, 3) := by decide +kernel
theorem dX8_init_4 : decode cX8_init 4 = .ok (.aload_n 0, 1) := by decide +kernel
theorem dX8_init_5 : decode cX8_init 5 = .ok (.new 9, 3) := by decide +kernel
theorem dX8_init_8 : decode cX8_init 8 = .ok (.dup, 1) := by decide +kernel
theorem dX8_init_9 : decode cX8_init 9 = .ok (.invokespecial 11, 3) := by decide +kernel
theorem dX8_init_12 : decode cX8_init 12 = .ok (.putfield 12, 3) := by decide +kernel
theorem dX8_init_15 : decode cX8_init 15 = .ok (.aload_n 0, 1) := by decide +kernel
theorem dX8_init_16 : decode cX8_init 16 = .ok (.new 18, 3) := by decide +kernel
theorem dX8_init_19 : decode cX8_init 19 = .ok (.dup, 1) := by decide +kernel
theorem dX8_init_20 : decode cX8_init 20 = .ok (.invokespecial 20, 3) := by decide +kernel
theorem dX8_init_23 : decode cX8_init 23 = .ok (.putfield 21, 3) := by decide +kernel
theorem dX8_init_26 : decode cX8_init 26 = .ok (.aload_n 0, 1) := by decide +kernel
theorem dX8_init_27 : decode cX8_init 27 = .ok (.bipush 10, 2) := by decide +kernel
theorem dX8_init_29 : decode cX8_init 29 = .ok (.newarray .int, 2) := by decide +kernel
theorem dX8_init_31 : decode cX8_init 31 = .ok (.putfield 25, 3) := by decide +kernel
theorem dX8_init_34 : decode cX8_init 34 = .ok (.aload_n 0, 1) := by decide +kernel
theorem dX8_init_35 : decode cX8_init 35 = .ok (.bipush 9, 2) := by decide +kernel
theorem dX8_init_37 : decode cX8_init 37 = .ok (.newarray .int, 2) := by decide +kernel
theorem dX8_init_39 : decode cX8_init 39 = .ok (.putfield 29, 3) := by decide +kernel
theorem dX8_init_42 : decode cX8_init 42 = .ok (.aload_n 0, 1) := by decide +kernel
theorem dX8_init_43 : decode cX8_init 43 = .ok (.bipush 9, 2) := by decide +kernel
theorem dX8_init_45 : decode cX8_init 45 = .ok (.newarray .int, 2) := by decide +kernel
theorem dX8_init_47 : decode cX8_init 47 = .ok (.putfield 32, 3) := by decide +kernel
theorem dX8_init_50 : decode cX8_init 50 = .ok (.aload_n 0, 1) := by decide +kernel
theorem dX8_init_51 : decode cX8_init 51 = .ok (.iconst 0, 1) := by decide +kernel
theorem dX8_init_52 : decode cX8_init 52 = .ok (.putfield 35, 3) := by decide +kernel
theorem dX8_init_55 : decode cX8_init 55 = .ok (.aload_n 0, 1) := by decide +kernel
theorem dX8_init_56 : decode cX8_init 56 = .ok (.bipush (-4), 2) := by decide +kernel
theorem dX8_init_58 : decode cX8_init 58 = .ok (.putfield 39, 3) := by decide +kernel
theorem dX8_init_61 : decode cX8_init 61 = .ok (.aload_n 0, 1) := by decide +kernel
theorem dX8_init_62 : decode cX8_init 62 = .ok (.bipush (-4), 2) := by decide +kernel
theorem dX8_init_64 : decode cX8_init 64 = .ok (.putfield 42, 3) := by decide +kernel
theorem dX8_init_67 : decode cX8_init 67 = .ok (.aload_n 0, 1) := by decide +kernel
theorem dX8_init_68 : decode cX8_init 68 = .ok (.iconst 0, 1) := by decide +kernel
theorem dX8_init_69 : decode cX8_init 69 = .ok (.putfield 45, 3) := by decide +kernel
theorem dX8_init_72 : decode cX8_init 72 = .ok (.aload_n 0, 1) := by decide +kernel
theorem dX8_init_73 : decode cX8_init 73 = .ok (.iconst 0, 1) := by decide +kernel
theorem dX8_init_74 : decode cX8_init 74 = .ok (.putfield 48, 3) := by decide +kernel
theorem dX8_init_77 : decode cX8_init 77 = .ok (.aload_n 0, 1) := by decide +kernel
theorem dX8_init_78 : decode cX8_init 78 = .ok (.iconst 0, 1) := by decide +kernel
theorem dX8_init_79 : decode cX8_init 79 = .ok (.putfield 51, 3) := by decide +kernel
theorem dX8_init_82 : decode cX8_init 82 = .ok (.return_, 1) := by decide +kernel
theorem dX8_findNothing_0 : decode cX8_findNothing 0 = .ok (.aload_n 0, 1) := by decide +kernel
theorem dX8_findNothing_1 : decode cX8_findNothing 1 = .ok (.bipush (-4), 2) := by decide +kernel
theorem dX8_findNothing_3 : decode cX8_findNothing 3 = .ok (.putfield 39, 3) := by decide +kernel
theorem dX8_findNothing_6 : decode cX8_findNothing 6 = .ok (.aload_n 0, 1) := by decide +kernel
theorem dX8_findNothing_7 : decode cX8_findNothing 7 = .ok (.bipush (-4), 2) := by decide +kernel
theorem dX8_findNothing_9 : decode cX8_findNothing 9 = .ok (.putfield 42, 3) := by decide +kernel
theorem dX8_findNothing_12 : decode cX8_findNothing 12 = .ok (.return_, 1) := by decide +kernel
theorem dX8_findIfFewer_0 : decode cX8_findIfFewer 0 = .ok (.aload_n 0, 1) := by decide +kernel
theorem dX8_findIfFewer_1 : decode cX8_findIfFewer 1 = .ok (.getfield 42, 3) := by decide +kernel
theorem dX8_findIfFewer_4 : decode cX8_findIfFewer 4 = .ok (.bipush (-4), 2) := by decide +kernel
theorem dX8_findIfFewer_6 : decode cX8_findIfFewer 6 = .ok (.if_icmp .eq 11, 3) := by decide +kernel
theorem dX8_findIfFewer_9 : decode cX8_findIfFewer 9 = .ok (.iload_n 2, 1) := by decide +kernel
theorem dX8_findIfFewer_10 : decode cX8_findIfFewer 10 = .ok (.aload_n 0, 1) := by decide +kernel
theorem dX8_findIfFewer_11 : decode cX8_findIfFewer 11 = .ok (.getfield 42, 3) := by decide +kernel
theorem dX8_findIfFewer_14 : decode cX8_findIfFewer 14 = .ok (.if_icmp .ge 13, 3) := by decide +kernel
theorem dX8_findIfFewer_17 : decode cX8_findIfFewer 17 = .ok (.aload_n 0, 1) := by decide +kernel
theorem dX8_findIfFewer_18 : decode cX8_findIfFewer 18 = .ok (.iload_n 1, 1) := by decide +kernel
theorem dX8_findIfFewer_19 : decode cX8_findIfFewer 19 = .ok (.putfield 39, 3) := by decide +kernel
theorem dX8_findIfFewer_22 : decode cX8_findIfFewer 22 = .ok (.aload_n 0, 1) := by decide +kernel
theorem dX8_findIfFewer_23 : decode cX8_findIfFewer 23 = .ok (.iload_n 2, 1) := by decide +kernel
theorem dX8_findIfFewer_24 : decode cX8_findIfFewer 24 = .ok (.putfield 42, 3) := by decide +kernel
theorem dX8_findIfFewer_27 : decode cX8_findIfFewer 27 = .ok (.return_, 1) := by decide +kernel
theorem dX8_fewestHeaps_0 : decode cX8_fewestHeaps 0 = .ok (.aload_n 0, 1) := by decide +kernel
theorem dX8_fewestHeaps_1 : decode cX8_fewestHeaps 1 = .ok (.aload_n 1, 1) := by decide +kernel
theorem dX8_fewestHeaps_2 : decode cX8_fewestHeaps 2 = .ok (.invokevirtual 54, 3) := by decide +kernel
theorem dX8_fewestHeaps_5 : decode cX8_fewestHeaps 5 = .ok (.iconst 0, 1) := by decide +kernel
theorem dX8_fewestHeaps_6 : decode cX8_fewestHeaps 6 = .ok (.istore_n 2, 1) := by decide +kernel
theorem dX8_fewestHeaps_7 : decode cX8_fewestHeaps 7 = .ok (.iconst 0, 1) := by decide +kernel
theorem dX8_fewestHeaps_8 : decode cX8_fewestHeaps 8 = .ok (.istore_n 3, 1) := by decide +kernel
theorem dX8_fewestHeaps_9 : decode cX8_fewestHeaps 9 = .ok (.iload_n 3, 1) := by decide +kernel
theorem dX8_fewestHeaps_10 : decode cX8_fewestHeaps 10 = .ok (.aload_n 1, 1) := by decide +kernel
theorem dX8_fewestHeaps_11 : decode cX8_fewestHeaps 11 = .ok (.getfield 58, 3) := by decide +kernel
theorem dX8_fewestHeaps_14 : decode cX8_fewestHeaps 14 = .ok (.if_icmp .ge 20, 3) := by decide +kernel
theorem dX8_fewestHeaps_17 : decode cX8_fewestHeaps 17 = .ok (.iload_n 2, 1) := by decide +kernel
theorem dX8_fewestHeaps_18 : decode cX8_fewestHeaps 18 = .ok (.aload_n 0, 1) := by decide +kernel
theorem dX8_fewestHeaps_19 : decode cX8_fewestHeaps 19 = .ok (.getfield 25, 3) := by decide +kernel
theorem dX8_fewestHeaps_22 : decode cX8_fewestHeaps 22 = .ok (.iload_n 3, 1) := by decide +kernel
theorem dX8_fewestHeaps_23 : decode cX8_fewestHeaps 23 = .ok (.iaload, 1) := by decide +kernel
theorem dX8_fewestHeaps_24 : decode cX8_fewestHeaps 24 = .ok (.invokestatic 61, 3) := by decide +kernel
theorem dX8_fewestHeaps_27 : decode cX8_fewestHeaps 27 = .ok (.istore_n 2, 1) := by decide +kernel
theorem dX8_fewestHeaps_28 : decode cX8_fewestHeaps 28 = .ok (.iinc 3 1, 3) := by decide +kernel
theorem dX8_fewestHeaps_31 : decode cX8_fewestHeaps 31 = .ok (.goto (-22), 3) := by decide +kernel
theorem dX8_fewestHeaps_34 : decode cX8_fewestHeaps 34 = .ok (.iload_n 2, 1) := by decide +kernel
theorem dX8_fewestHeaps_35 : decode cX8_fewestHeaps 35 = .ok (.ireturn, 1) := by decide +kernel
theorem dX8_chainLengths_0 : decode cX8_chainLengths 0 = .ok (.aload_n 0, 1) := by decide +kernel
theorem dX8_chainLengths_1 : decode cX8_chainLengths 1 = .ok (.getfield 21, 3) := by decide +kernel
theorem dX8_chainLengths_4 : decode cX8_chainLengths 4 = .ok (.aload_n 1, 1) := by decide +kernel
theorem dX8_chainLengths_5 : decode cX8_chainLengths 5 = .ok (.invokevirtual 67, 3) := by decide +kernel
theorem dX8_chainLengths_8 : decode cX8_chainLengths 8 = .ok (.aload_n 1, 1) := by decide +kernel
theorem dX8_chainLengths_9 : decode cX8_chainLengths 9 = .ok (.getfield 58, 3) := by decide +kernel
theorem dX8_chainLengths_12 : decode cX8_chainLengths 12 = .ok (.iconst 1, 1) := by decide +kernel
theorem dX8_chainLengths_13 : decode cX8_chainLengths 13 = .ok (.isub, 1) := by decide +kernel
theorem dX8_chainLengths_14 : decode cX8_chainLengths 14 = .ok (.istore_n 2, 1) := by decide +kernel
theorem dX8_chainLengths_15 : decode cX8_chainLengths 15 = .ok (.iload_n 2, 1) := by decide +kernel
theorem dX8_chainLengths_16 : decode cX8_chainLengths 16 = .ok (.ifCond .lt 78, 3) := by decide +kernel
theorem dX8_chainLengths_19 : decode cX8_chainLengths 19 = .ok (.aload_n 0, 1) := by decide +kernel
theorem dX8_chainLengths_20 : decode cX8_chainLengths 20 = .ok (.getfield 25, 3) := by decide +kernel
theorem dX8_chainLengths_23 : decode cX8_chainLengths 23 = .ok (.iload_n 2, 1) := by decide +kernel
theorem dX8_chainLengths_24 : decode cX8_chainLengths 24 = .ok (.iconst 1, 1) := by decide +kernel
theorem dX8_chainLengths_25 : decode cX8_chainLengths 25 = .ok (.iastore, 1) := by decide +kernel
theorem dX8_chainLengths_26 : decode cX8_chainLengths 26 = .ok (.iload_n 2, 1) := by decide +kernel
theorem dX8_chainLengths_27 : decode cX8_chainLengths 27 = .ok (.iconst 1, 1) := by decide +kernel
theorem dX8_chainLengths_28 : decode cX8_chainLengths 28 = .ok (.iadd, 1) := by decide +kernel
theorem dX8_chainLengths_29 : decode cX8_chainLengths 29 = .ok (.istore_n 3, 1) := by decide +kernel
theorem dX8_chainLengths_30 : decode cX8_chainLengths 30 = .ok (.iload_n 3, 1) := by decide +kernel
theorem dX8_chainLengths_31 : decode cX8_chainLengths 31 = .ok (.aload_n 1, 1) := by decide +kernel
theorem dX8_chainLengths_32 : decode cX8_chainLengths 32 = .ok (.getfield 58, 3) := by decide +kernel
theorem dX8_chainLengths_35 : decode cX8_chainLengths 35 = .ok (.if_icmp .ge 53, 3) := by decide +kernel
theorem dX8_chainLengths_38 : decode cX8_chainLengths 38 = .ok (.aload_n 0, 1) := by decide +kernel
theorem dX8_chainLengths_39 : decode cX8_chainLengths 39 = .ok (.getfield 21, 3) := by decide +kernel
theorem dX8_chainLengths_42 : decode cX8_chainLengths 42 = .ok (.getfield 70, 3) := by decide +kernel
theorem dX8_chainLengths_45 : decode cX8_chainLengths 45 = .ok (.iload_n 3, 1) := by decide +kernel
theorem dX8_chainLengths_46 : decode cX8_chainLengths 46 = .ok (.iaload, 1) := by decide +kernel
theorem dX8_chainLengths_47 : decode cX8_chainLengths 47 = .ok (.aload_n 0, 1) := by decide +kernel
theorem dX8_chainLengths_48 : decode cX8_chainLengths 48 = .ok (.getfield 21, 3) := by decide +kernel
theorem dX8_chainLengths_51 : decode cX8_chainLengths 51 = .ok (.getfield 70, 3) := by decide +kernel
theorem dX8_chainLengths_54 : decode cX8_chainLengths 54 = .ok (.iload_n 2, 1) := by decide +kernel
theorem dX8_chainLengths_55 : decode cX8_chainLengths 55 = .ok (.iaload, 1) := by decide +kernel
theorem dX8_chainLengths_56 : decode cX8_chainLengths 56 = .ok (.if_icmp .lt 26, 3) := by decide +kernel
theorem dX8_chainLengths_59 : decode cX8_chainLengths 59 = .ok (.aload_n 0, 1) := by decide +kernel
theorem dX8_chainLengths_60 : decode cX8_chainLengths 60 = .ok (.getfield 25, 3) := by decide +kernel
theorem dX8_chainLengths_63 : decode cX8_chainLengths 63 = .ok (.iload_n 2, 1) := by decide +kernel
theorem dX8_chainLengths_64 : decode cX8_chainLengths 64 = .ok (.aload_n 0, 1) := by decide +kernel
theorem dX8_chainLengths_65 : decode cX8_chainLengths 65 = .ok (.getfield 25, 3) := by decide +kernel
theorem dX8_chainLengths_68 : decode cX8_chainLengths 68 = .ok (.iload_n 2, 1) := by decide +kernel
theorem dX8_chainLengths_69 : decode cX8_chainLengths 69 = .ok (.iaload, 1) := by decide +kernel
theorem dX8_chainLengths_70 : decode cX8_chainLengths 70 = .ok (.aload_n 0, 1) := by decide +kernel
theorem dX8_chainLengths_71 : decode cX8_chainLengths 71 = .ok (.getfield 25, 3) := by decide +kernel
theorem dX8_chainLengths_74 : decode cX8_chainLengths 74 = .ok (.iload_n 3, 1) := by decide +kernel
theorem dX8_chainLengths_75 : decode cX8_chainLengths 75 = .ok (.iaload, 1) := by decide +kernel
theorem dX8_chainLengths_76 : decode cX8_chainLengths 76 = .ok (.iconst 1, 1) := by decide +kernel
theorem dX8_chainLengths_77 : decode cX8_chainLengths 77 = .ok (.iadd, 1) := by decide +kernel
theorem dX8_chainLengths_78 : decode cX8_chainLengths 78 = .ok (.invokestatic 61, 3) := by decide +kernel
theorem dX8_chainLengths_81 : decode cX8_chainLengths 81 = .ok (.iastore, 1) := by decide +kernel
