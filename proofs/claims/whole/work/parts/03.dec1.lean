theorem dX8_chainLengths_82 : decode cX8_chainLengths 82 = .ok (.iinc 3 1, 3) := by decide +kernel
theorem dX8_chainLengths_85 : decode cX8_chainLengths 85 = .ok (.goto (-55), 3) := by decide +kernel
theorem dX8_chainLengths_88 : decode cX8_chainLengths 88 = .ok (.iinc 2 (-1), 3) := by decide +kernel
theorem dX8_chainLengths_91 : decode cX8_chainLengths 91 = .ok (.goto (-76), 3) := by decide +kernel
theorem dX8_chainLengths_94 : decode cX8_chainLengths 94 = .ok (.return_, 1) := by decide +kernel
theorem dX8_shownGuest_0 : decode cX8_shownGuest 0 = .ok (.aload_n 0, 1) := by decide +kernel
theorem dX8_shownGuest_1 : decode cX8_shownGuest 1 = .ok (.aload_n 1, 1) := by decide +kernel
theorem dX8_shownGuest_2 : decode cX8_shownGuest 2 = .ok (.invokevirtual 73, 3) := by decide +kernel
theorem dX8_shownGuest_5 : decode cX8_shownGuest 5 = .ok (.istore_n 3, 1) := by decide +kernel
theorem dX8_shownGuest_6 : decode cX8_shownGuest 6 = .ok (.iconst (-1), 1) := by decide +kernel
theorem dX8_shownGuest_7 : decode cX8_shownGuest 7 = .ok (.istore 4, 2) := by decide +kernel
theorem dX8_shownGuest_9 : decode cX8_shownGuest 9 = .ok (.iconst 0, 1) := by decide +kernel
theorem dX8_shownGuest_10 : decode cX8_shownGuest 10 = .ok (.istore 5, 2) := by decide +kernel
theorem dX8_shownGuest_12 : decode cX8_shownGuest 12 = .ok (.iconst 0, 1) := by decide +kernel
theorem dX8_shownGuest_13 : decode cX8_shownGuest 13 = .ok (.istore 6, 2) := by decide +kernel
theorem dX8_shownGuest_15 : decode cX8_shownGuest 15 = .ok (.iload 6, 2) := by decide +kernel
theorem dX8_shownGuest_17 : decode cX8_shownGuest 17 = .ok (.aload_n 1, 1) := by decide +kernel
theorem dX8_shownGuest_18 : decode cX8_shownGuest 18 = .ok (.getfield 58, 3) := by decide +kernel
theorem dX8_shownGuest_21 : decode cX8_shownGuest 21 = .ok (.if_icmp .ge 62, 3) := by decide +kernel
theorem dX8_shownGuest_24 : decode cX8_shownGuest 24 = .ok (.aload_n 0, 1) := by decide +kernel
theorem dX8_shownGuest_25 : decode cX8_shownGuest 25 = .ok (.getfield 25, 3) := by decide +kernel
theorem dX8_shownGuest_28 : decode cX8_shownGuest 28 = .ok (.iload 6, 2) := by decide +kernel
theorem dX8_shownGuest_30 : decode cX8_shownGuest 30 = .ok (.iaload, 1) := by decide +kernel
theorem dX8_shownGuest_31 : decode cX8_shownGuest 31 = .ok (.iload_n 3, 1) := by decide +kernel
theorem dX8_shownGuest_32 : decode cX8_shownGuest 32 = .ok (.if_icmp .ne 45, 3) := by decide +kernel
theorem dX8_shownGuest_35 : decode cX8_shownGuest 35 = .ok (.aload_n 0, 1) := by decide +kernel
theorem dX8_shownGuest_36 : decode cX8_shownGuest 36 = .ok (.getfield 21, 3) := by decide +kernel
theorem dX8_shownGuest_39 : decode cX8_shownGuest 39 = .ok (.getfield 70, 3) := by decide +kernel
theorem dX8_shownGuest_42 : decode cX8_shownGuest 42 = .ok (.iload 6, 2) := by decide +kernel
theorem dX8_shownGuest_44 : decode cX8_shownGuest 44 = .ok (.iaload, 1) := by decide +kernel
theorem dX8_shownGuest_45 : decode cX8_shownGuest 45 = .ok (.iload 4, 2) := by decide +kernel
theorem dX8_shownGuest_47 : decode cX8_shownGuest 47 = .ok (.if_icmp .lt 30, 3) := by decide +kernel
theorem dX8_shownGuest_50 : decode cX8_shownGuest 50 = .ok (.iload 5, 2) := by decide +kernel
theorem dX8_shownGuest_52 : decode cX8_shownGuest 52 = .ok (.iload_n 2, 1) := by decide +kernel
theorem dX8_shownGuest_53 : decode cX8_shownGuest 53 = .ok (.if_icmp .ne 6, 3) := by decide +kernel
theorem dX8_shownGuest_56 : decode cX8_shownGuest 56 = .ok (.iload 6, 2) := by decide +kernel
theorem dX8_shownGuest_58 : decode cX8_shownGuest 58 = .ok (.ireturn, 1) := by decide +kernel
theorem dX8_shownGuest_59 : decode cX8_shownGuest 59 = .ok (.iinc 5 1, 3) := by decide +kernel
theorem dX8_shownGuest_62 : decode cX8_shownGuest 62 = .ok (.iinc 3 (-1), 3) := by decide +kernel
theorem dX8_shownGuest_65 : decode cX8_shownGuest 65 = .ok (.aload_n 0, 1) := by decide +kernel
theorem dX8_shownGuest_66 : decode cX8_shownGuest 66 = .ok (.getfield 21, 3) := by decide +kernel
theorem dX8_shownGuest_69 : decode cX8_shownGuest 69 = .ok (.getfield 70, 3) := by decide +kernel
theorem dX8_shownGuest_72 : decode cX8_shownGuest 72 = .ok (.iload 6, 2) := by decide +kernel
theorem dX8_shownGuest_74 : decode cX8_shownGuest 74 = .ok (.iaload, 1) := by decide +kernel
theorem dX8_shownGuest_75 : decode cX8_shownGuest 75 = .ok (.istore 4, 2) := by decide +kernel
theorem dX8_shownGuest_77 : decode cX8_shownGuest 77 = .ok (.iinc 6 1, 3) := by decide +kernel
theorem dX8_shownGuest_80 : decode cX8_shownGuest 80 = .ok (.goto (-65), 3) := by decide +kernel
theorem dX8_shownGuest_83 : decode cX8_shownGuest 83 = .ok (.bipush (-4), 2) := by decide +kernel
theorem dX8_shownGuest_85 : decode cX8_shownGuest 85 = .ok (.ireturn, 1) := by decide +kernel
theorem dX8_tryAllLayings_0 : decode cX8_tryAllLayings 0 = .ok (.aload_n 0, 1) := by decide +kernel
theorem dX8_tryAllLayings_1 : decode cX8_tryAllLayings 1 = .ok (.invokevirtual 77, 3) := by decide +kernel
theorem dX8_tryAllLayings_4 : decode cX8_tryAllLayings 4 = .ok (.aload_n 0, 1) := by decide +kernel
theorem dX8_tryAllLayings_5 : decode cX8_tryAllLayings 5 = .ok (.getfield 21, 3) := by decide +kernel
theorem dX8_tryAllLayings_8 : decode cX8_tryAllLayings 8 = .ok (.aload_n 1, 1) := by decide +kernel
theorem dX8_tryAllLayings_9 : decode cX8_tryAllLayings 9 = .ok (.invokevirtual 67, 3) := by decide +kernel
theorem dX8_tryAllLayings_12 : decode cX8_tryAllLayings 12 = .ok (.iconst 0, 1) := by decide +kernel
theorem dX8_tryAllLayings_13 : decode cX8_tryAllLayings 13 = .ok (.istore_n 2, 1) := by decide +kernel
theorem dX8_tryAllLayings_14 : decode cX8_tryAllLayings 14 = .ok (.iload_n 2, 1) := by decide +kernel
theorem dX8_tryAllLayings_15 : decode cX8_tryAllLayings 15 = .ok (.aload_n 1, 1) := by decide +kernel
theorem dX8_tryAllLayings_16 : decode cX8_tryAllLayings 16 = .ok (.getfield 58, 3) := by decide +kernel
theorem dX8_tryAllLayings_19 : decode cX8_tryAllLayings 19 = .ok (.if_icmp .ge 29, 3) := by decide +kernel
theorem dX8_tryAllLayings_22 : decode cX8_tryAllLayings 22 = .ok (.aload_n 0, 1) := by decide +kernel
theorem dX8_tryAllLayings_23 : decode cX8_tryAllLayings 23 = .ok (.getfield 25, 3) := by decide +kernel
theorem dX8_tryAllLayings_26 : decode cX8_tryAllLayings 26 = .ok (.iload_n 2, 1) := by decide +kernel
theorem dX8_tryAllLayings_27 : decode cX8_tryAllLayings 27 = .ok (.aload_n 1, 1) := by decide +kernel
theorem dX8_tryAllLayings_28 : decode cX8_tryAllLayings 28 = .ok (.iload_n 2, 1) := by decide +kernel
theorem dX8_tryAllLayings_29 : decode cX8_tryAllLayings 29 = .ok (.invokevirtual 80, 3) := by decide +kernel
theorem dX8_tryAllLayings_32 : decode cX8_tryAllLayings 32 = .ok (.ifCond .eq 8, 3) := by decide +kernel
theorem dX8_tryAllLayings_35 : decode cX8_tryAllLayings 35 = .ok (.bipush 9, 2) := by decide +kernel
theorem dX8_tryAllLayings_37 : decode cX8_tryAllLayings 37 = .ok (.goto 4, 3) := by decide +kernel
theorem dX8_tryAllLayings_40 : decode cX8_tryAllLayings 40 = .ok (.iconst 0, 1) := by decide +kernel
theorem dX8_tryAllLayings_41 : decode cX8_tryAllLayings 41 = .ok (.iastore, 1) := by decide +kernel
theorem dX8_tryAllLayings_42 : decode cX8_tryAllLayings 42 = .ok (.iinc 2 1, 3) := by decide +kernel
theorem dX8_tryAllLayings_45 : decode cX8_tryAllLayings 45 = .ok (.goto (-31), 3) := by decide +kernel
theorem dX8_tryAllLayings_48 : decode cX8_tryAllLayings 48 = .ok (.iconst 1, 1) := by decide +kernel
theorem dX8_tryAllLayings_49 : decode cX8_tryAllLayings 49 = .ok (.istore_n 2, 1) := by decide +kernel
theorem dX8_tryAllLayings_50 : decode cX8_tryAllLayings 50 = .ok (.iconst 0, 1) := by decide +kernel
theorem dX8_tryAllLayings_51 : decode cX8_tryAllLayings 51 = .ok (.istore_n 3, 1) := by decide +kernel
theorem dX8_tryAllLayings_52 : decode cX8_tryAllLayings 52 = .ok (.iload_n 3, 1) := by decide +kernel
theorem dX8_tryAllLayings_53 : decode cX8_tryAllLayings 53 = .ok (.aload_n 1, 1) := by decide +kernel
theorem dX8_tryAllLayings_54 : decode cX8_tryAllLayings 54 = .ok (.getfield 58, 3) := by decide +kernel
theorem dX8_tryAllLayings_57 : decode cX8_tryAllLayings 57 = .ok (.if_icmp .ge 30, 3) := by decide +kernel
theorem dX8_tryAllLayings_60 : decode cX8_tryAllLayings 60 = .ok (.iload_n 2, 1) := by decide +kernel
theorem dX8_tryAllLayings_61 : decode cX8_tryAllLayings 61 = .ok (.aload_n 1, 1) := by decide +kernel
theorem dX8_tryAllLayings_62 : decode cX8_tryAllLayings 62 = .ok (.iload_n 3, 1) := by decide +kernel
theorem dX8_tryAllLayings_63 : decode cX8_tryAllLayings 63 = .ok (.invokevirtual 80, 3) := by decide +kernel
theorem dX8_tryAllLayings_66 : decode cX8_tryAllLayings 66 = .ok (.ifCond .eq 7, 3) := by decide +kernel
theorem dX8_tryAllLayings_69 : decode cX8_tryAllLayings 69 = .ok (.iconst 1, 1) := by decide +kernel
theorem dX8_tryAllLayings_70 : decode cX8_tryAllLayings 70 = .ok (.goto 9, 3) := by decide +kernel
theorem dX8_tryAllLayings_73 : decode cX8_tryAllLayings 73 = .ok (.aload_n 1, 1) := by decide +kernel
theorem dX8_tryAllLayings_74 : decode cX8_tryAllLayings 74 = .ok (.getfield 84, 3) := by decide +kernel
theorem dX8_tryAllLayings_77 : decode cX8_tryAllLayings 77 = .ok (.iconst 0, 1) := by decide +kernel
theorem dX8_tryAllLayings_78 : decode cX8_tryAllLayings 78 = .ok (.iaload, 1) := by decide +kernel
theorem dX8_tryAllLayings_79 : decode cX8_tryAllLayings 79 = .ok (.imul, 1) := by decide +kernel
theorem dX8_tryAllLayings_80 : decode cX8_tryAllLayings 80 = .ok (.istore_n 2, 1) := by decide +kernel
theorem dX8_tryAllLayings_81 : decode cX8_tryAllLayings 81 = .ok (.iinc 3 1, 3) := by decide +kernel
theorem dX8_tryAllLayings_84 : decode cX8_tryAllLayings 84 = .ok (.goto (-32), 3) := by decide +kernel
theorem dX8_tryAllLayings_87 : decode cX8_tryAllLayings 87 = .ok (.iconst 0, 1) := by decide +kernel
theorem dX8_tryAllLayings_88 : decode cX8_tryAllLayings 88 = .ok (.istore_n 3, 1) := by decide +kernel
theorem dX8_tryAllLayings_89 : decode cX8_tryAllLayings 89 = .ok (.iload_n 3, 1) := by decide +kernel
theorem dX8_tryAllLayings_90 : decode cX8_tryAllLayings 90 = .ok (.iload_n 2, 1) := by decide +kernel
theorem dX8_tryAllLayings_91 : decode cX8_tryAllLayings 91 = .ok (.if_icmp .ge 26, 3) := by decide +kernel
theorem dX8_tryAllLayings_94 : decode cX8_tryAllLayings 94 = .ok (.aload_n 0, 1) := by decide +kernel
theorem dX8_tryAllLayings_95 : decode cX8_tryAllLayings 95 = .ok (.getfield 42, 3) := by decide +kernel
theorem dX8_tryAllLayings_98 : decode cX8_tryAllLayings 98 = .ok (.ifCond .eq 19, 3) := by decide +kernel
theorem dX8_tryAllLayings_101 : decode cX8_tryAllLayings 101 = .ok (.aload_n 0, 1) := by decide +kernel
theorem dX8_tryAllLayings_102 : decode cX8_tryAllLayings 102 = .ok (.aload_n 1, 1) := by decide +kernel
theorem dX8_tryAllLayings_103 : decode cX8_tryAllLayings 103 = .ok (.invokevirtual 87, 3) := by decide +kernel
theorem dX8_tryAllLayings_106 : decode cX8_tryAllLayings 106 = .ok (.aload_n 0, 1) := by decide +kernel
theorem dX8_tryAllLayings_107 : decode cX8_tryAllLayings 107 = .ok (.aload_n 1, 1) := by decide +kernel
theorem dX8_tryAllLayings_108 : decode cX8_tryAllLayings 108 = .ok (.invokevirtual 90, 3) := by decide +kernel
theorem dX8_tryAllLayings_111 : decode cX8_tryAllLayings 111 = .ok (.iinc 3 1, 3) := by decide +kernel
theorem dX8_tryAllLayings_114 : decode cX8_tryAllLayings 114 = .ok (.goto (-25), 3) := by decide +kernel
theorem dX8_tryAllLayings_117 : decode cX8_tryAllLayings 117 = .ok (.return_, 1) := by decide +kernel
theorem dX8_tryLaying_0 : decode cX8_tryLaying 0 = .ok (.aload_n 0, 1) := by decide +kernel
theorem dX8_tryLaying_1 : decode cX8_tryLaying 1 = .ok (.getfield 21, 3) := by decide +kernel
theorem dX8_tryLaying_4 : decode cX8_tryLaying 4 = .ok (.aload_n 0, 1) := by decide +kernel
theorem dX8_tryLaying_5 : decode cX8_tryLaying 5 = .ok (.getfield 25, 3) := by decide +kernel
theorem dX8_tryLaying_8 : decode cX8_tryLaying 8 = .ok (.invokevirtual 93, 3) := by decide +kernel
theorem dX8_tryLaying_11 : decode cX8_tryLaying 11 = .ok (.iconst 0, 1) := by decide +kernel
theorem dX8_tryLaying_12 : decode cX8_tryLaying 12 = .ok (.istore_n 2, 1) := by decide +kernel
theorem dX8_tryLaying_13 : decode cX8_tryLaying 13 = .ok (.iload_n 2, 1) := by decide +kernel
theorem dX8_tryLaying_14 : decode cX8_tryLaying 14 = .ok (.iconst 3, 1) := by decide +kernel
theorem dX8_tryLaying_15 : decode cX8_tryLaying 15 = .ok (.if_icmp .ge 31, 3) := by decide +kernel
theorem dX8_tryLaying_18 : decode cX8_tryLaying 18 = .ok (.aload_n 0, 1) := by decide +kernel
theorem dX8_tryLaying_19 : decode cX8_tryLaying 19 = .ok (.getfield 21, 3) := by decide +kernel
theorem dX8_tryLaying_22 : decode cX8_tryLaying 22 = .ok (.getfield 97, 3) := by decide +kernel
theorem dX8_tryLaying_25 : decode cX8_tryLaying 25 = .ok (.getfield 101, 3) := by decide +kernel
theorem dX8_tryLaying_28 : decode cX8_tryLaying 28 = .ok (.iload_n 2, 1) := by decide +kernel
theorem dX8_tryLaying_29 : decode cX8_tryLaying 29 = .ok (.iaload, 1) := by decide +kernel
theorem dX8_tryLaying_30 : decode cX8_tryLaying 30 = .ok (.aload_n 1, 1) := by decide +kernel
theorem dX8_tryLaying_31 : decode cX8_tryLaying 31 = .ok (.getfield 84, 3) := by decide +kernel
theorem dX8_tryLaying_34 : decode cX8_tryLaying 34 = .ok (.iconst 1, 1) := by decide +kernel
theorem dX8_tryLaying_35 : decode cX8_tryLaying 35 = .ok (.iaload, 1) := by decide +kernel
theorem dX8_tryLaying_36 : decode cX8_tryLaying 36 = .ok (.if_icmp .le 4, 3) := by decide +kernel
theorem dX8_tryLaying_39 : decode cX8_tryLaying 39 = .ok (.return_, 1) := by decide +kernel
theorem dX8_tryLaying_40 : decode cX8_tryLaying 40 = .ok (.iinc 2 1, 3) := by decide +kernel
theorem dX8_tryLaying_43 : decode cX8_tryLaying 43 = .ok (.goto (-30), 3) := by decide +kernel
theorem dX8_tryLaying_46 : decode cX8_tryLaying 46 = .ok (.aload_n 0, 1) := by decide +kernel
theorem dX8_tryLaying_47 : decode cX8_tryLaying 47 = .ok (.getfield 21, 3) := by decide +kernel
theorem dX8_tryLaying_50 : decode cX8_tryLaying 50 = .ok (.aload_n 1, 1) := by decide +kernel
theorem dX8_tryLaying_51 : decode cX8_tryLaying 51 = .ok (.getfield 58, 3) := by decide +kernel
theorem dX8_tryLaying_54 : decode cX8_tryLaying 54 = .ok (.bipush (-4), 2) := by decide +kernel
theorem dX8_tryLaying_56 : decode cX8_tryLaying 56 = .ok (.invokevirtual 106, 3) := by decide +kernel
theorem dX8_tryLaying_59 : decode cX8_tryLaying 59 = .ok (.istore_n 2, 1) := by decide +kernel
theorem dX8_tryLaying_60 : decode cX8_tryLaying 60 = .ok (.aload_n 0, 1) := by decide +kernel
theorem dX8_tryLaying_61 : decode cX8_tryLaying 61 = .ok (.aload_n 0, 1) := by decide +kernel
theorem dX8_tryLaying_62 : decode cX8_tryLaying 62 = .ok (.getfield 25, 3) := by decide +kernel
theorem dX8_tryLaying_65 : decode cX8_tryLaying 65 = .ok (.aload_n 1, 1) := by decide +kernel
theorem dX8_tryLaying_66 : decode cX8_tryLaying 66 = .ok (.getfield 58, 3) := by decide +kernel
theorem dX8_tryLaying_69 : decode cX8_tryLaying 69 = .ok (.invokestatic 109, 3) := by decide +kernel
theorem dX8_tryLaying_72 : decode cX8_tryLaying 72 = .ok (.iload_n 2, 1) := by decide +kernel
theorem dX8_tryLaying_73 : decode cX8_tryLaying 73 = .ok (.invokevirtual 115, 3) := by decide +kernel
theorem dX8_tryLaying_76 : decode cX8_tryLaying 76 = .ok (.return_, 1) := by decide +kernel
theorem dX8_nextLaying_0 : decode cX8_nextLaying 0 = .ok (.aload_n 1, 1) := by decide +kernel
theorem dX8_nextLaying_1 : decode cX8_nextLaying 1 = .ok (.getfield 58, 3) := by decide +kernel
theorem dX8_nextLaying_4 : decode cX8_nextLaying 4 = .ok (.iconst 1, 1) := by decide +kernel
theorem dX8_nextLaying_5 : decode cX8_nextLaying 5 = .ok (.isub, 1) := by decide +kernel
theorem dX8_nextLaying_6 : decode cX8_nextLaying 6 = .ok (.istore_n 2, 1) := by decide +kernel
theorem dX8_nextLaying_7 : decode cX8_nextLaying 7 = .ok (.iload_n 2, 1) := by decide +kernel
theorem dX8_nextLaying_8 : decode cX8_nextLaying 8 = .ok (.ifCond .lt 56, 3) := by decide +kernel
theorem dX8_nextLaying_11 : decode cX8_nextLaying 11 = .ok (.aload_n 0, 1) := by decide +kernel
theorem dX8_nextLaying_12 : decode cX8_nextLaying 12 = .ok (.getfield 25, 3) := by decide +kernel
theorem dX8_nextLaying_15 : decode cX8_nextLaying 15 = .ok (.iload_n 2, 1) := by decide +kernel
theorem dX8_nextLaying_16 : decode cX8_nextLaying 16 = .ok (.iaload, 1) := by decide +kernel
theorem dX8_nextLaying_17 : decode cX8_nextLaying 17 = .ok (.bipush 9, 2) := by decide +kernel
theorem dX8_nextLaying_19 : decode cX8_nextLaying 19 = .ok (.if_icmp .ne 6, 3) := by decide +kernel
theorem dX8_nextLaying_22 : decode cX8_nextLaying 22 = .ok (.goto 36, 3) := by decide +kernel
theorem dX8_nextLaying_25 : decode cX8_nextLaying 25 = .ok (.aload_n 0, 1) := by decide +kernel
theorem dX8_nextLaying_26 : decode cX8_nextLaying 26 = .ok (.getfield 25, 3) := by decide +kernel
theorem dX8_nextLaying_29 : decode cX8_nextLaying 29 = .ok (.iload_n 2, 1) := by decide +kernel
theorem dX8_nextLaying_30 : decode cX8_nextLaying 30 = .ok (.dup2, 1) := by decide +kernel
theorem dX8_nextLaying_31 : decode cX8_nextLaying 31 = .ok (.iaload, 1) := by decide +kernel
theorem dX8_nextLaying_32 : decode cX8_nextLaying 32 = .ok (.iconst 1, 1) := by decide +kernel
theorem dX8_nextLaying_33 : decode cX8_nextLaying 33 = .ok (.iadd, 1) := by decide +kernel
theorem dX8_nextLaying_34 : decode cX8_nextLaying 34 = .ok (.iastore, 1) := by decide +kernel
theorem dX8_nextLaying_35 : decode cX8_nextLaying 35 = .ok (.aload_n 0, 1) := by decide +kernel
theorem dX8_nextLaying_36 : decode cX8_nextLaying 36 = .ok (.getfield 25, 3) := by decide +kernel
theorem dX8_nextLaying_39 : decode cX8_nextLaying 39 = .ok (.iload_n 2, 1) := by decide +kernel
theorem dX8_nextLaying_40 : decode cX8_nextLaying 40 = .ok (.iaload, 1) := by decide +kernel
theorem dX8_nextLaying_41 : decode cX8_nextLaying 41 = .ok (.aload_n 1, 1) := by decide +kernel
theorem dX8_nextLaying_42 : decode cX8_nextLaying 42 = .ok (.getfield 84, 3) := by decide +kernel
theorem dX8_nextLaying_45 : decode cX8_nextLaying 45 = .ok (.iconst 0, 1) := by decide +kernel
theorem dX8_nextLaying_46 : decode cX8_nextLaying 46 = .ok (.iaload, 1) := by decide +kernel
theorem dX8_nextLaying_47 : decode cX8_nextLaying 47 = .ok (.if_icmp .ge 4, 3) := by decide +kernel
theorem dX8_nextLaying_50 : decode cX8_nextLaying 50 = .ok (.return_, 1) := by decide +kernel
theorem dX8_nextLaying_51 : decode cX8_nextLaying 51 = .ok (.aload_n 0, 1) := by decide +kernel
theorem dX8_nextLaying_52 : decode cX8_nextLaying 52 = .ok (.getfield 25, 3) := by decide +kernel
theorem dX8_nextLaying_55 : decode cX8_nextLaying 55 = .ok (.iload_n 2, 1) := by decide +kernel
theorem dX8_nextLaying_56 : decode cX8_nextLaying 56 = .ok (.iconst 0, 1) := by decide +kernel
theorem dX8_nextLaying_57 : decode cX8_nextLaying 57 = .ok (.iastore, 1) := by decide +kernel
theorem dX8_nextLaying_58 : decode cX8_nextLaying 58 = .ok (.iinc 2 (-1), 3) := by decide +kernel
theorem dX8_nextLaying_61 : decode cX8_nextLaying 61 = .ok (.goto (-54), 3) := by decide +kernel
theorem dX8_nextLaying_64 : decode cX8_nextLaying 64 = .ok (.return_, 1) := by decide +kernel
theorem dX8_liftsWith_0 : decode cX8_liftsWith 0 = .ok (.aload_n 0, 1) := by decide +kernel
theorem dX8_liftsWith_1 : decode cX8_liftsWith 1 = .ok (.getfield 12, 3) := by decide +kernel
theorem dX8_liftsWith_4 : decode cX8_liftsWith 4 = .ok (.aload_n 1, 1) := by decide +kernel
theorem dX8_liftsWith_5 : decode cX8_liftsWith 5 = .ok (.invokevirtual 119, 3) := by decide +kernel
theorem dX8_liftsWith_8 : decode cX8_liftsWith 8 = .ok (.aload_n 0, 1) := by decide +kernel
theorem dX8_liftsWith_9 : decode cX8_liftsWith 9 = .ok (.getfield 12, 3) := by decide +kernel
theorem dX8_liftsWith_12 : decode cX8_liftsWith 12 = .ok (.getfield 84, 3) := by decide +kernel
theorem dX8_liftsWith_15 : decode cX8_liftsWith 15 = .ok (.iload_n 2, 1) := by decide +kernel
theorem dX8_liftsWith_16 : decode cX8_liftsWith 16 = .ok (.iload_n 3, 1) := by decide +kernel
theorem dX8_liftsWith_17 : decode cX8_liftsWith 17 = .ok (.iastore, 1) := by decide +kernel
theorem dX8_liftsWith_18 : decode cX8_liftsWith 18 = .ok (.aload_n 0, 1) := by decide +kernel
theorem dX8_liftsWith_19 : decode cX8_liftsWith 19 = .ok (.getfield 21, 3) := by decide +kernel
theorem dX8_liftsWith_22 : decode cX8_liftsWith 22 = .ok (.aload_n 0, 1) := by decide +kernel
theorem dX8_liftsWith_23 : decode cX8_liftsWith 23 = .ok (.getfield 12, 3) := by decide +kernel
theorem dX8_liftsWith_26 : decode cX8_liftsWith 26 = .ok (.invokevirtual 122, 3) := by decide +kernel
theorem dX8_liftsWith_29 : decode cX8_liftsWith 29 = .ok (.ireturn, 1) := by decide +kernel
theorem dX8_liftsWithLetter_0 : decode cX8_liftsWithLetter 0 = .ok (.aload_n 0, 1) := by decide +kernel
theorem dX8_liftsWithLetter_1 : decode cX8_liftsWithLetter 1 = .ok (.getfield 12, 3) := by decide +kernel
theorem dX8_liftsWithLetter_4 : decode cX8_liftsWithLetter 4 = .ok (.aload_n 1, 1) := by decide +kernel
theorem dX8_liftsWithLetter_5 : decode cX8_liftsWithLetter 5 = .ok (.invokevirtual 119, 3) := by decide +kernel
theorem dX8_liftsWithLetter_8 : decode cX8_liftsWithLetter 8 = .ok (.aload_n 0, 1) := by decide +kernel
theorem dX8_liftsWithLetter_9 : decode cX8_liftsWithLetter 9 = .ok (.getfield 12, 3) := by decide +kernel
theorem dX8_liftsWithLetter_12 : decode cX8_liftsWithLetter 12 = .ok (.getfield 125, 3) := by decide +kernel
theorem dX8_liftsWithLetter_15 : decode cX8_liftsWithLetter 15 = .ok (.iconst 0, 1) := by decide +kernel
theorem dX8_liftsWithLetter_16 : decode cX8_liftsWithLetter 16 = .ok (.getstatic 128, 3) := by decide +kernel
theorem dX8_liftsWithLetter_19 : decode cX8_liftsWithLetter 19 = .ok (.iload_n 2, 1) := by decide +kernel
theorem dX8_liftsWithLetter_20 : decode cX8_liftsWithLetter 20 = .ok (.caload, 1) := by decide +kernel
theorem dX8_liftsWithLetter_21 : decode cX8_liftsWithLetter 21 = .ok (.iastore, 1) := by decide +kernel
theorem dX8_liftsWithLetter_22 : decode cX8_liftsWithLetter 22 = .ok (.aload_n 0, 1) := by decide +kernel
theorem dX8_liftsWithLetter_23 : decode cX8_liftsWithLetter 23 = .ok (.getfield 12, 3) := by decide +kernel
theorem dX8_liftsWithLetter_26 : decode cX8_liftsWithLetter 26 = .ok (.iconst 1, 1) := by decide +kernel
theorem dX8_liftsWithLetter_27 : decode cX8_liftsWithLetter 27 = .ok (.putfield 132, 3) := by decide +kernel
theorem dX8_liftsWithLetter_30 : decode cX8_liftsWithLetter 30 = .ok (.aload_n 0, 1) := by decide +kernel
theorem dX8_liftsWithLetter_31 : decode cX8_liftsWithLetter 31 = .ok (.getfield 21, 3) := by decide +kernel
theorem dX8_liftsWithLetter_34 : decode cX8_liftsWithLetter 34 = .ok (.aload_n 0, 1) := by decide +kernel
theorem dX8_liftsWithLetter_35 : decode cX8_liftsWithLetter 35 = .ok (.getfield 12, 3) := by decide +kernel
theorem dX8_liftsWithLetter_38 : decode cX8_liftsWithLetter 38 = .ok (.invokevirtual 122, 3) := by decide +kernel
theorem dX8_liftsWithLetter_41 : decode cX8_liftsWithLetter 41 = .ok (.ireturn, 1) := by decide +kernel
theorem dX8_tryHooks_0 : decode cX8_tryHooks 0 = .ok (.aload_n 0, 1) := by decide +kernel
theorem dX8_tryHooks_1 : decode cX8_tryHooks 1 = .ok (.invokevirtual 77, 3) := by decide +kernel
theorem dX8_tryHooks_4 : decode cX8_tryHooks 4 = .ok (.aload_n 0, 1) := by decide +kernel
theorem dX8_tryHooks_5 : decode cX8_tryHooks 5 = .ok (.getfield 12, 3) := by decide +kernel
theorem dX8_tryHooks_8 : decode cX8_tryHooks 8 = .ok (.aload_n 1, 1) := by decide +kernel
theorem dX8_tryHooks_9 : decode cX8_tryHooks 9 = .ok (.invokevirtual 119, 3) := by decide +kernel
theorem dX8_tryHooks_12 : decode cX8_tryHooks 12 = .ok (.iconst 0, 1) := by decide +kernel
theorem dX8_tryHooks_13 : decode cX8_tryHooks 13 = .ok (.istore_n 3, 1) := by decide +kernel
theorem dX8_tryHooks_14 : decode cX8_tryHooks 14 = .ok (.iload_n 3, 1) := by decide +kernel
theorem dX8_tryHooks_15 : decode cX8_tryHooks 15 = .ok (.iconst 1, 1) := by decide +kernel
theorem dX8_tryHooks_16 : decode cX8_tryHooks 16 = .ok (.aload_n 1, 1) := by decide +kernel
theorem dX8_tryHooks_17 : decode cX8_tryHooks 17 = .ok (.getfield 58, 3) := by decide +kernel
theorem dX8_tryHooks_20 : decode cX8_tryHooks 20 = .ok (.ishl, 1) := by decide +kernel
theorem dX8_tryHooks_21 : decode cX8_tryHooks 21 = .ok (.if_icmp .ge 48, 3) := by decide +kernel
theorem dX8_tryHooks_24 : decode cX8_tryHooks 24 = .ok (.aload_n 0, 1) := by decide +kernel
theorem dX8_tryHooks_25 : decode cX8_tryHooks 25 = .ok (.getfield 42, 3) := by decide +kernel
theorem dX8_tryHooks_28 : decode cX8_tryHooks 28 = .ok (.ifCond .eq 41, 3) := by decide +kernel
theorem dX8_tryHooks_31 : decode cX8_tryHooks 31 = .ok (.iload_n 3, 1) := by decide +kernel
theorem dX8_tryHooks_32 : decode cX8_tryHooks 32 = .ok (.invokestatic 135, 3) := by decide +kernel
theorem dX8_tryHooks_35 : decode cX8_tryHooks 35 = .ok (.iload_n 2, 1) := by decide +kernel
theorem dX8_tryHooks_36 : decode cX8_tryHooks 36 = .ok (.if_icmp .ne 27, 3) := by decide +kernel
theorem dX8_tryHooks_39 : decode cX8_tryHooks 39 = .ok (.aload_n 0, 1) := by decide +kernel
theorem dX8_tryHooks_40 : decode cX8_tryHooks 40 = .ok (.getfield 12, 3) := by decide +kernel
theorem dX8_tryHooks_43 : decode cX8_tryHooks 43 = .ok (.iload_n 3, 1) := by decide +kernel
theorem dX8_tryHooks_44 : decode cX8_tryHooks 44 = .ok (.putfield 141, 3) := by decide +kernel
theorem dX8_tryHooks_47 : decode cX8_tryHooks 47 = .ok (.aload_n 0, 1) := by decide +kernel
theorem dX8_tryHooks_48 : decode cX8_tryHooks 48 = .ok (.iload_n 3, 1) := by decide +kernel
theorem dX8_tryHooks_49 : decode cX8_tryHooks 49 = .ok (.aload_n 0, 1) := by decide +kernel
theorem dX8_tryHooks_50 : decode cX8_tryHooks 50 = .ok (.getfield 21, 3) := by decide +kernel
theorem dX8_tryHooks_53 : decode cX8_tryHooks 53 = .ok (.aload_n 0, 1) := by decide +kernel
theorem dX8_tryHooks_54 : decode cX8_tryHooks 54 = .ok (.getfield 12, 3) := by decide +kernel
theorem dX8_tryHooks_57 : decode cX8_tryHooks 57 = .ok (.invokevirtual 122, 3) := by decide +kernel
theorem dX8_tryHooks_60 : decode cX8_tryHooks 60 = .ok (.invokevirtual 115, 3) := by decide +kernel
theorem dX8_tryHooks_63 : decode cX8_tryHooks 63 = .ok (.iinc 3 1, 3) := by decide +kernel
theorem dX8_tryHooks_66 : decode cX8_tryHooks 66 = .ok (.goto (-52), 3) := by decide +kernel
theorem dX8_tryHooks_69 : decode cX8_tryHooks 69 = .ok (.return_, 1) := by decide +kernel
theorem dX8_tryGoingAlong_0 : decode cX8_tryGoingAlong 0 = .ok (.aload_n 0, 1) := by decide +kernel
theorem dX8_tryGoingAlong_1 : decode cX8_tryGoingAlong 1 = .ok (.invokevirtual 77, 3) := by decide +kernel
theorem dX8_tryGoingAlong_4 : decode cX8_tryGoingAlong 4 = .ok (.aload_n 0, 1) := by decide +kernel
theorem dX8_tryGoingAlong_5 : decode cX8_tryGoingAlong 5 = .ok (.getfield 21, 3) := by decide +kernel
theorem dX8_tryGoingAlong_8 : decode cX8_tryGoingAlong 8 = .ok (.aload_n 1, 1) := by decide +kernel
theorem dX8_tryGoingAlong_9 : decode cX8_tryGoingAlong 9 = .ok (.invokevirtual 122, 3) := by decide +kernel
theorem dX8_tryGoingAlong_12 : decode cX8_tryGoingAlong 12 = .ok (.istore_n 3, 1) := by decide +kernel
theorem dX8_tryGoingAlong_13 : decode cX8_tryGoingAlong 13 = .ok (.aload_n 0, 1) := by decide +kernel
theorem dX8_tryGoingAlong_14 : decode cX8_tryGoingAlong 14 = .ok (.getfield 21, 3) := by decide +kernel
theorem dX8_tryGoingAlong_17 : decode cX8_tryGoingAlong 17 = .ok (.iload_n 2, 1) := by decide +kernel
theorem dX8_tryGoingAlong_18 : decode cX8_tryGoingAlong 18 = .ok (.invokevirtual 144, 3) := by decide +kernel
theorem dX8_tryGoingAlong_21 : decode cX8_tryGoingAlong 21 = .ok (.istore 4, 2) := by decide +kernel
theorem dX8_tryGoingAlong_23 : decode cX8_tryGoingAlong 23 = .ok (.iconst 0, 1) := by decide +kernel
theorem dX8_tryGoingAlong_24 : decode cX8_tryGoingAlong 24 = .ok (.istore 5, 2) := by decide +kernel
theorem dX8_tryGoingAlong_26 : decode cX8_tryGoingAlong 26 = .ok (.iload 5, 2) := by decide +kernel
theorem dX8_tryGoingAlong_28 : decode cX8_tryGoingAlong 28 = .ok (.aload_n 1, 1) := by decide +kernel
theorem dX8_tryGoingAlong_29 : decode cX8_tryGoingAlong 29 = .ok (.getfield 58, 3) := by decide +kernel
theorem dX8_tryGoingAlong_32 : decode cX8_tryGoingAlong 32 = .ok (.if_icmp .ge 67, 3) := by decide +kernel
theorem dX8_tryGoingAlong_35 : decode cX8_tryGoingAlong 35 = .ok (.aload_n 0, 1) := by decide +kernel
theorem dX8_tryGoingAlong_36 : decode cX8_tryGoingAlong 36 = .ok (.getfield 21, 3) := by decide +kernel
theorem dX8_tryGoingAlong_39 : decode cX8_tryGoingAlong 39 = .ok (.aload_n 1, 1) := by decide +kernel
theorem dX8_tryGoingAlong_40 : decode cX8_tryGoingAlong 40 = .ok (.invokevirtual 67, 3) := by decide +kernel
theorem dX8_tryGoingAlong_43 : decode cX8_tryGoingAlong 43 = .ok (.aload_n 0, 1) := by decide +kernel
theorem dX8_tryGoingAlong_44 : decode cX8_tryGoingAlong 44 = .ok (.getfield 21, 3) := by decide +kernel
theorem dX8_tryGoingAlong_47 : decode cX8_tryGoingAlong 47 = .ok (.iload 5, 2) := by decide +kernel
theorem dX8_tryGoingAlong_49 : decode cX8_tryGoingAlong 49 = .ok (.invokevirtual 144, 3) := by decide +kernel
theorem dX8_tryGoingAlong_52 : decode cX8_tryGoingAlong 52 = .ok (.istore 6, 2) := by decide +kernel
theorem dX8_tryGoingAlong_54 : decode cX8_tryGoingAlong 54 = .ok (.iload 6, 2) := by decide +kernel
theorem dX8_tryGoingAlong_56 : decode cX8_tryGoingAlong 56 = .ok (.iload 4, 2) := by decide +kernel
theorem dX8_tryGoingAlong_58 : decode cX8_tryGoingAlong 58 = .ok (.if_icmp .ge 35, 3) := by decide +kernel
theorem dX8_tryGoingAlong_61 : decode cX8_tryGoingAlong 61 = .ok (.aload_n 0, 1) := by decide +kernel
theorem dX8_tryGoingAlong_62 : decode cX8_tryGoingAlong 62 = .ok (.iload_n 2, 1) := by decide +kernel
theorem dX8_tryGoingAlong_63 : decode cX8_tryGoingAlong 63 = .ok (.iload 4, 2) := by decide +kernel
theorem dX8_tryGoingAlong_65 : decode cX8_tryGoingAlong 65 = .ok (.iload 6, 2) := by decide +kernel
theorem dX8_tryGoingAlong_67 : decode cX8_tryGoingAlong 67 = .ok (.invokevirtual 147, 3) := by decide +kernel
theorem dX8_tryGoingAlong_70 : decode cX8_tryGoingAlong 70 = .ok (.aload_n 0, 1) := by decide +kernel
theorem dX8_tryGoingAlong_71 : decode cX8_tryGoingAlong 71 = .ok (.aload_n 1, 1) := by decide +kernel
theorem dX8_tryGoingAlong_72 : decode cX8_tryGoingAlong 72 = .ok (.bipush (-4), 2) := by decide +kernel
theorem dX8_tryGoingAlong_74 : decode cX8_tryGoingAlong 74 = .ok (.invokevirtual 151, 3) := by decide +kernel
theorem dX8_tryGoingAlong_77 : decode cX8_tryGoingAlong 77 = .ok (.istore 7, 2) := by decide +kernel
theorem dX8_tryGoingAlong_79 : decode cX8_tryGoingAlong 79 = .ok (.iload 7, 2) := by decide +kernel
theorem dX8_tryGoingAlong_81 : decode cX8_tryGoingAlong 81 = .ok (.iload_n 3, 1) := by decide +kernel
theorem dX8_tryGoingAlong_82 : decode cX8_tryGoingAlong 82 = .ok (.if_icmp .ge 11, 3) := by decide +kernel
theorem dX8_tryGoingAlong_85 : decode cX8_tryGoingAlong 85 = .ok (.aload_n 0, 1) := by decide +kernel
theorem dX8_tryGoingAlong_86 : decode cX8_tryGoingAlong 86 = .ok (.iload 5, 2) := by decide +kernel
theorem dX8_tryGoingAlong_88 : decode cX8_tryGoingAlong 88 = .ok (.iload 7, 2) := by decide +kernel
theorem dX8_tryGoingAlong_90 : decode cX8_tryGoingAlong 90 = .ok (.invokevirtual 115, 3) := by decide +kernel
theorem dX8_tryGoingAlong_93 : decode cX8_tryGoingAlong 93 = .ok (.iinc 5 1, 3) := by decide +kernel
theorem dX8_tryGoingAlong_96 : decode cX8_tryGoingAlong 96 = .ok (.goto (-70), 3) := by decide +kernel
theorem dX8_tryGoingAlong_99 : decode cX8_tryGoingAlong 99 = .ok (.return_, 1) := by decide +kernel
theorem dX8_goJustBehind_0 : decode cX8_goJustBehind 0 = .ok (.iload_n 2, 1) := by decide +kernel
theorem dX8_goJustBehind_1 : decode cX8_goJustBehind 1 = .ok (.istore 4, 2) := by decide +kernel
theorem dX8_goJustBehind_3 : decode cX8_goJustBehind 3 = .ok (.iload 4, 2) := by decide +kernel
theorem dX8_goJustBehind_5 : decode cX8_goJustBehind 5 = .ok (.iload_n 3, 1) := by decide +kernel
theorem dX8_goJustBehind_6 : decode cX8_goJustBehind 6 = .ok (.iconst 1, 1) := by decide +kernel
theorem dX8_goJustBehind_7 : decode cX8_goJustBehind 7 = .ok (.iadd, 1) := by decide +kernel
theorem dX8_goJustBehind_8 : decode cX8_goJustBehind 8 = .ok (.if_icmp .le 31, 3) := by decide +kernel
theorem dX8_goJustBehind_11 : decode cX8_goJustBehind 11 = .ok (.aload_n 0, 1) := by decide +kernel
theorem dX8_goJustBehind_12 : decode cX8_goJustBehind 12 = .ok (.getfield 21, 3) := by decide +kernel
theorem dX8_goJustBehind_15 : decode cX8_goJustBehind 15 = .ok (.getfield 155, 3) := by decide +kernel
theorem dX8_goJustBehind_18 : decode cX8_goJustBehind 18 = .ok (.iload 4, 2) := by decide +kernel
theorem dX8_goJustBehind_20 : decode cX8_goJustBehind 20 = .ok (.aload_n 0, 1) := by decide +kernel
theorem dX8_goJustBehind_21 : decode cX8_goJustBehind 21 = .ok (.getfield 21, 3) := by decide +kernel
theorem dX8_goJustBehind_24 : decode cX8_goJustBehind 24 = .ok (.getfield 155, 3) := by decide +kernel
theorem dX8_goJustBehind_27 : decode cX8_goJustBehind 27 = .ok (.iload 4, 2) := by decide +kernel
theorem dX8_goJustBehind_29 : decode cX8_goJustBehind 29 = .ok (.iconst 1, 1) := by decide +kernel
theorem dX8_goJustBehind_30 : decode cX8_goJustBehind 30 = .ok (.isub, 1) := by decide +kernel
theorem dX8_goJustBehind_31 : decode cX8_goJustBehind 31 = .ok (.iaload, 1) := by decide +kernel
theorem dX8_goJustBehind_32 : decode cX8_goJustBehind 32 = .ok (.iastore, 1) := by decide +kernel
theorem dX8_goJustBehind_33 : decode cX8_goJustBehind 33 = .ok (.iinc 4 (-1), 3) := by decide +kernel
theorem dX8_goJustBehind_36 : decode cX8_goJustBehind 36 = .ok (.goto (-33), 3) := by decide +kernel
theorem dX8_goJustBehind_39 : decode cX8_goJustBehind 39 = .ok (.aload_n 0, 1) := by decide +kernel
theorem dX8_goJustBehind_40 : decode cX8_goJustBehind 40 = .ok (.getfield 21, 3) := by decide +kernel
theorem dX8_goJustBehind_43 : decode cX8_goJustBehind 43 = .ok (.getfield 155, 3) := by decide +kernel
theorem dX8_goJustBehind_46 : decode cX8_goJustBehind 46 = .ok (.iload_n 3, 1) := by decide +kernel
theorem dX8_goJustBehind_47 : decode cX8_goJustBehind 47 = .ok (.iconst 1, 1) := by decide +kernel
theorem dX8_goJustBehind_48 : decode cX8_goJustBehind 48 = .ok (.iadd, 1) := by decide +kernel
theorem dX8_goJustBehind_49 : decode cX8_goJustBehind 49 = .ok (.iload_n 1, 1) := by decide +kernel
theorem dX8_goJustBehind_50 : decode cX8_goJustBehind 50 = .ok (.iastore, 1) := by decide +kernel
theorem dX8_goJustBehind_51 : decode cX8_goJustBehind 51 = .ok (.return_, 1) := by decide +kernel
theorem dX8_liftsWithTurn_0 : decode cX8_liftsWithTurn 0 = .ok (.aload_n 0, 1) := by decide +kernel
theorem dX8_liftsWithTurn_1 : decode cX8_liftsWithTurn 1 = .ok (.getfield 21, 3) := by decide +kernel
theorem dX8_liftsWithTurn_4 : decode cX8_liftsWithTurn 4 = .ok (.aload_n 1, 1) := by decide +kernel
theorem dX8_liftsWithTurn_5 : decode cX8_liftsWithTurn 5 = .ok (.invokevirtual 67, 3) := by decide +kernel
theorem dX8_liftsWithTurn_8 : decode cX8_liftsWithTurn 8 = .ok (.aload_n 0, 1) := by decide +kernel
theorem dX8_liftsWithTurn_9 : decode cX8_liftsWithTurn 9 = .ok (.aload_n 1, 1) := by decide +kernel
theorem dX8_liftsWithTurn_10 : decode cX8_liftsWithTurn 10 = .ok (.aload_n 0, 1) := by decide +kernel
theorem dX8_liftsWithTurn_11 : decode cX8_liftsWithTurn 11 = .ok (.getfield 21, 3) := by decide +kernel
theorem dX8_liftsWithTurn_14 : decode cX8_liftsWithTurn 14 = .ok (.iload_n 2, 1) := by decide +kernel
theorem dX8_liftsWithTurn_15 : decode cX8_liftsWithTurn 15 = .ok (.invokevirtual 158, 3) := by decide +kernel
theorem dX8_liftsWithTurn_18 : decode cX8_liftsWithTurn 18 = .ok (.invokevirtual 151, 3) := by decide +kernel
theorem dX8_liftsWithTurn_21 : decode cX8_liftsWithTurn 21 = .ok (.ireturn, 1) := by decide +kernel
theorem dX8_liftsInOrder_0 : decode cX8_liftsInOrder 0 = .ok (.aload_n 0, 1) := by decide +kernel
theorem dX8_liftsInOrder_1 : decode cX8_liftsInOrder 1 = .ok (.getfield 21, 3) := by decide +kernel
theorem dX8_liftsInOrder_4 : decode cX8_liftsInOrder 4 = .ok (.getfield 161, 3) := by decide +kernel
theorem dX8_liftsInOrder_7 : decode cX8_liftsInOrder 7 = .ok (.aload_n 1, 1) := by decide +kernel
theorem dX8_liftsInOrder_8 : decode cX8_liftsInOrder 8 = .ok (.invokevirtual 165, 3) := by decide +kernel
theorem dX8_liftsInOrder_11 : decode cX8_liftsInOrder 11 = .ok (.aload_n 0, 1) := by decide +kernel
theorem dX8_liftsInOrder_12 : decode cX8_liftsInOrder 12 = .ok (.getfield 21, 3) := by decide +kernel
theorem dX8_liftsInOrder_15 : decode cX8_liftsInOrder 15 = .ok (.aload_n 1, 1) := by decide +kernel
theorem dX8_liftsInOrder_16 : decode cX8_liftsInOrder 16 = .ok (.getfield 58, 3) := by decide +kernel
theorem dX8_liftsInOrder_19 : decode cX8_liftsInOrder 19 = .ok (.iload_n 2, 1) := by decide +kernel
theorem dX8_liftsInOrder_20 : decode cX8_liftsInOrder 20 = .ok (.invokevirtual 106, 3) := by decide +kernel
theorem dX8_liftsInOrder_23 : decode cX8_liftsInOrder 23 = .ok (.ireturn, 1) := by decide +kernel
theorem dX8_bestMinuteToTurn_0 : decode cX8_bestMinuteToTurn 0 = .ok (.aload_n 0, 1) := by decide +kernel
theorem dX8_bestMinuteToTurn_1 : decode cX8_bestMinuteToTurn 1 = .ok (.getfield 21, 3) := by decide +kernel
theorem dX8_bestMinuteToTurn_4 : decode cX8_bestMinuteToTurn 4 = .ok (.aload_n 1, 1) := by decide +kernel
theorem dX8_bestMinuteToTurn_5 : decode cX8_bestMinuteToTurn 5 = .ok (.invokevirtual 67, 3) := by decide +kernel
theorem dX8_bestMinuteToTurn_8 : decode cX8_bestMinuteToTurn 8 = .ok (.aload_n 0, 1) := by decide +kernel
theorem dX8_bestMinuteToTurn_9 : decode cX8_bestMinuteToTurn 9 = .ok (.invokevirtual 77, 3) := by decide +kernel
theorem dX8_bestMinuteToTurn_12 : decode cX8_bestMinuteToTurn 12 = .ok (.aload_n 0, 1) := by decide +kernel
theorem dX8_bestMinuteToTurn_13 : decode cX8_bestMinuteToTurn 13 = .ok (.aload_n 0, 1) := by decide +kernel
theorem dX8_bestMinuteToTurn_14 : decode cX8_bestMinuteToTurn 14 = .ok (.aload_n 1, 1) := by decide +kernel
theorem dX8_bestMinuteToTurn_15 : decode cX8_bestMinuteToTurn 15 = .ok (.bipush (-4), 2) := by decide +kernel
theorem dX8_bestMinuteToTurn_17 : decode cX8_bestMinuteToTurn 17 = .ok (.invokevirtual 151, 3) := by decide +kernel
theorem dX8_bestMinuteToTurn_20 : decode cX8_bestMinuteToTurn 20 = .ok (.putfield 42, 3) := by decide +kernel
theorem dX8_bestMinuteToTurn_23 : decode cX8_bestMinuteToTurn 23 = .ok (.bipush (-4), 2) := by decide +kernel
theorem dX8_bestMinuteToTurn_25 : decode cX8_bestMinuteToTurn 25 = .ok (.istore_n 2, 1) := by decide +kernel
theorem dX8_bestMinuteToTurn_26 : decode cX8_bestMinuteToTurn 26 = .ok (.iconst 0, 1) := by decide +kernel
theorem dX8_bestMinuteToTurn_27 : decode cX8_bestMinuteToTurn 27 = .ok (.istore_n 3, 1) := by decide +kernel
theorem dX8_bestMinuteToTurn_28 : decode cX8_bestMinuteToTurn 28 = .ok (.iload_n 3, 1) := by decide +kernel
theorem dX8_bestMinuteToTurn_29 : decode cX8_bestMinuteToTurn 29 = .ok (.bipush 99, 2) := by decide +kernel
theorem dX8_bestMinuteToTurn_31 : decode cX8_bestMinuteToTurn 31 = .ok (.if_icmp .gt 47, 3) := by decide +kernel
theorem dX8_bestMinuteToTurn_34 : decode cX8_bestMinuteToTurn 34 = .ok (.aload_n 0, 1) := by decide +kernel
theorem dX8_bestMinuteToTurn_35 : decode cX8_bestMinuteToTurn 35 = .ok (.getfield 21, 3) := by decide +kernel
theorem dX8_bestMinuteToTurn_38 : decode cX8_bestMinuteToTurn 38 = .ok (.iload_n 3, 1) := by decide +kernel
theorem dX8_bestMinuteToTurn_39 : decode cX8_bestMinuteToTurn 39 = .ok (.invokevirtual 158, 3) := by decide +kernel
theorem dX8_bestMinuteToTurn_42 : decode cX8_bestMinuteToTurn 42 = .ok (.istore 4, 2) := by decide +kernel
theorem dX8_bestMinuteToTurn_44 : decode cX8_bestMinuteToTurn 44 = .ok (.iload 4, 2) := by decide +kernel
theorem dX8_bestMinuteToTurn_46 : decode cX8_bestMinuteToTurn 46 = .ok (.bipush (-4), 2) := by decide +kernel
theorem dX8_bestMinuteToTurn_48 : decode cX8_bestMinuteToTurn 48 = .ok (.if_icmp .eq 21, 3) := by decide +kernel
theorem dX8_bestMinuteToTurn_51 : decode cX8_bestMinuteToTurn 51 = .ok (.iload 4, 2) := by decide +kernel
theorem dX8_bestMinuteToTurn_53 : decode cX8_bestMinuteToTurn 53 = .ok (.iload_n 2, 1) := by decide +kernel
theorem dX8_bestMinuteToTurn_54 : decode cX8_bestMinuteToTurn 54 = .ok (.if_icmp .eq 15, 3) := by decide +kernel
theorem dX8_bestMinuteToTurn_57 : decode cX8_bestMinuteToTurn 57 = .ok (.aload_n 0, 1) := by decide +kernel
theorem dX8_bestMinuteToTurn_58 : decode cX8_bestMinuteToTurn 58 = .ok (.iload_n 3, 1) := by decide +kernel
theorem dX8_bestMinuteToTurn_59 : decode cX8_bestMinuteToTurn 59 = .ok (.aload_n 0, 1) := by decide +kernel
theorem dX8_bestMinuteToTurn_60 : decode cX8_bestMinuteToTurn 60 = .ok (.aload_n 1, 1) := by decide +kernel
theorem dX8_bestMinuteToTurn_61 : decode cX8_bestMinuteToTurn 61 = .ok (.iload 4, 2) := by decide +kernel
theorem dX8_bestMinuteToTurn_63 : decode cX8_bestMinuteToTurn 63 = .ok (.invokevirtual 151, 3) := by decide +kernel
theorem dX8_bestMinuteToTurn_66 : decode cX8_bestMinuteToTurn 66 = .ok (.invokevirtual 115, 3) := by decide +kernel
theorem dX8_bestMinuteToTurn_69 : decode cX8_bestMinuteToTurn 69 = .ok (.iload 4, 2) := by decide +kernel
theorem dX8_bestMinuteToTurn_71 : decode cX8_bestMinuteToTurn 71 = .ok (.istore_n 2, 1) := by decide +kernel
theorem dX8_bestMinuteToTurn_72 : decode cX8_bestMinuteToTurn 72 = .ok (.iinc 3 1, 3) := by decide +kernel
theorem dX8_bestMinuteToTurn_75 : decode cX8_bestMinuteToTurn 75 = .ok (.goto (-47), 3) := by decide +kernel
theorem dX8_bestMinuteToTurn_78 : decode cX8_bestMinuteToTurn 78 = .ok (.aload_n 0, 1) := by decide +kernel
theorem dX8_bestMinuteToTurn_79 : decode cX8_bestMinuteToTurn 79 = .ok (.getfield 39, 3) := by decide +kernel
theorem dX8_bestMinuteToTurn_82 : decode cX8_bestMinuteToTurn 82 = .ok (.ireturn, 1) := by decide +kernel
theorem dX8_tryAllGoings_0 : decode cX8_tryAllGoings 0 = .ok (.aload_n 0, 1) := by decide +kernel
theorem dX8_tryAllGoings_1 : decode cX8_tryAllGoings 1 = .ok (.invokevirtual 77, 3) := by decide +kernel
theorem dX8_tryAllGoings_4 : decode cX8_tryAllGoings 4 = .ok (.aload_n 0, 1) := by decide +kernel
theorem dX8_tryAllGoings_5 : decode cX8_tryAllGoings 5 = .ok (.iconst 0, 1) := by decide +kernel
theorem dX8_tryAllGoings_6 : decode cX8_tryAllGoings 6 = .ok (.putfield 48, 3) := by decide +kernel
theorem dX8_tryAllGoings_9 : decode cX8_tryAllGoings 9 = .ok (.aload_n 0, 1) := by decide +kernel
theorem dX8_tryAllGoings_10 : decode cX8_tryAllGoings 10 = .ok (.iconst 0, 1) := by decide +kernel
theorem dX8_tryAllGoings_11 : decode cX8_tryAllGoings 11 = .ok (.putfield 45, 3) := by decide +kernel
theorem dX8_tryAllGoings_14 : decode cX8_tryAllGoings 14 = .ok (.aload_n 0, 1) := by decide +kernel
theorem dX8_tryAllGoings_15 : decode cX8_tryAllGoings 15 = .ok (.getfield 21, 3) := by decide +kernel
theorem dX8_tryAllGoings_18 : decode cX8_tryAllGoings 18 = .ok (.aload_n 1, 1) := by decide +kernel
theorem dX8_tryAllGoings_19 : decode cX8_tryAllGoings 19 = .ok (.invokevirtual 67, 3) := by decide +kernel
theorem dX8_tryAllGoings_22 : decode cX8_tryAllGoings 22 = .ok (.aload_n 0, 1) := by decide +kernel
theorem dX8_tryAllGoings_23 : decode cX8_tryAllGoings 23 = .ok (.getfield 21, 3) := by decide +kernel
theorem dX8_tryAllGoings_26 : decode cX8_tryAllGoings 26 = .ok (.getfield 155, 3) := by decide +kernel
theorem dX8_tryAllGoings_29 : decode cX8_tryAllGoings 29 = .ok (.aload_n 1, 1) := by decide +kernel
theorem dX8_tryAllGoings_30 : decode cX8_tryAllGoings 30 = .ok (.getfield 58, 3) := by decide +kernel
theorem dX8_tryAllGoings_33 : decode cX8_tryAllGoings 33 = .ok (.invokestatic 170, 3) := by decide +kernel
theorem dX8_tryAllGoings_36 : decode cX8_tryAllGoings 36 = .ok (.aload_n 1, 1) := by decide +kernel
theorem dX8_tryAllGoings_37 : decode cX8_tryAllGoings 37 = .ok (.getfield 58, 3) := by decide +kernel
theorem dX8_tryAllGoings_40 : decode cX8_tryAllGoings 40 = .ok (.invokestatic 174, 3) := by decide +kernel
theorem dX8_tryAllGoings_43 : decode cX8_tryAllGoings 43 = .ok (.istore_n 2, 1) := by decide +kernel
theorem dX8_tryAllGoings_44 : decode cX8_tryAllGoings 44 = .ok (.iconst 0, 1) := by decide +kernel
theorem dX8_tryAllGoings_45 : decode cX8_tryAllGoings 45 = .ok (.istore_n 3, 1) := by decide +kernel
theorem dX8_tryAllGoings_46 : decode cX8_tryAllGoings 46 = .ok (.iload_n 3, 1) := by decide +kernel
theorem dX8_tryAllGoings_47 : decode cX8_tryAllGoings 47 = .ok (.iload_n 2, 1) := by decide +kernel
theorem dX8_tryAllGoings_48 : decode cX8_tryAllGoings 48 = .ok (.if_icmp .ge 63, 3) := by decide +kernel
theorem dX8_tryAllGoings_51 : decode cX8_tryAllGoings 51 = .ok (.aload_n 0, 1) := by decide +kernel
theorem dX8_tryAllGoings_52 : decode cX8_tryAllGoings 52 = .ok (.aload_n 1, 1) := by decide +kernel
theorem dX8_tryAllGoings_53 : decode cX8_tryAllGoings 53 = .ok (.bipush (-4), 2) := by decide +kernel
theorem dX8_tryAllGoings_55 : decode cX8_tryAllGoings 55 = .ok (.invokevirtual 151, 3) := by decide +kernel
theorem dX8_tryAllGoings_58 : decode cX8_tryAllGoings 58 = .ok (.istore 4, 2) := by decide +kernel
theorem dX8_tryAllGoings_60 : decode cX8_tryAllGoings 60 = .ok (.aload_n 0, 1) := by decide +kernel
theorem dX8_tryAllGoings_61 : decode cX8_tryAllGoings 61 = .ok (.dup, 1) := by decide +kernel
theorem dX8_tryAllGoings_62 : decode cX8_tryAllGoings 62 = .ok (.getfield 48, 3) := by decide +kernel
theorem dX8_tryAllGoings_65 : decode cX8_tryAllGoings 65 = .ok (.iload 4, 2) := by decide +kernel
theorem dX8_tryAllGoings_67 : decode cX8_tryAllGoings 67 = .ok (.iadd, 1) := by decide +kernel
theorem dX8_tryAllGoings_68 : decode cX8_tryAllGoings 68 = .ok (.putfield 48, 3) := by decide +kernel
theorem dX8_tryAllGoings_71 : decode cX8_tryAllGoings 71 = .ok (.aload_n 0, 1) := by decide +kernel
theorem dX8_tryAllGoings_72 : decode cX8_tryAllGoings 72 = .ok (.aload_n 0, 1) := by decide +kernel
theorem dX8_tryAllGoings_73 : decode cX8_tryAllGoings 73 = .ok (.getfield 45, 3) := by decide +kernel
theorem dX8_tryAllGoings_76 : decode cX8_tryAllGoings 76 = .ok (.iload 4, 2) := by decide +kernel
theorem dX8_tryAllGoings_78 : decode cX8_tryAllGoings 78 = .ok (.invokestatic 61, 3) := by decide +kernel
theorem dX8_tryAllGoings_81 : decode cX8_tryAllGoings 81 = .ok (.putfield 45, 3) := by decide +kernel
theorem dX8_tryAllGoings_84 : decode cX8_tryAllGoings 84 = .ok (.aload_n 0, 1) := by decide +kernel
theorem dX8_tryAllGoings_85 : decode cX8_tryAllGoings 85 = .ok (.iload_n 3, 1) := by decide +kernel
theorem dX8_tryAllGoings_86 : decode cX8_tryAllGoings 86 = .ok (.iload 4, 2) := by decide +kernel
theorem dX8_tryAllGoings_88 : decode cX8_tryAllGoings 88 = .ok (.invokevirtual 115, 3) := by decide +kernel
theorem dX8_tryAllGoings_91 : decode cX8_tryAllGoings 91 = .ok (.aload_n 0, 1) := by decide +kernel
theorem dX8_tryAllGoings_92 : decode cX8_tryAllGoings 92 = .ok (.getfield 21, 3) := by decide +kernel
theorem dX8_tryAllGoings_95 : decode cX8_tryAllGoings 95 = .ok (.getfield 155, 3) := by decide +kernel
theorem dX8_tryAllGoings_98 : decode cX8_tryAllGoings 98 = .ok (.aload_n 1, 1) := by decide +kernel
theorem dX8_tryAllGoings_99 : decode cX8_tryAllGoings 99 = .ok (.getfield 58, 3) := by decide +kernel
theorem dX8_tryAllGoings_102 : decode cX8_tryAllGoings 102 = .ok (.invokestatic 177, 3) := by decide +kernel
theorem dX8_tryAllGoings_105 : decode cX8_tryAllGoings 105 = .ok (.iinc 3 1, 3) := by decide +kernel
theorem dX8_tryAllGoings_108 : decode cX8_tryAllGoings 108 = .ok (.goto (-62), 3) := by decide +kernel
theorem dX8_tryAllGoings_111 : decode cX8_tryAllGoings 111 = .ok (.return_, 1) := by decide +kernel
theorem dX8_inTheWayOf_0 : decode cX8_inTheWayOf 0 = .ok (.aload_n 0, 1) := by decide +kernel
theorem dX8_inTheWayOf_1 : decode cX8_inTheWayOf 1 = .ok (.getfield 21, 3) := by decide +kernel
theorem dX8_inTheWayOf_4 : decode cX8_inTheWayOf 4 = .ok (.aload_n 1, 1) := by decide +kernel
theorem dX8_inTheWayOf_5 : decode cX8_inTheWayOf 5 = .ok (.invokevirtual 122, 3) := by decide +kernel
theorem dX8_inTheWayOf_8 : decode cX8_inTheWayOf 8 = .ok (.pop, 1) := by decide +kernel
theorem dX8_inTheWayOf_9 : decode cX8_inTheWayOf 9 = .ok (.aload_n 0, 1) := by decide +kernel
theorem dX8_inTheWayOf_10 : decode cX8_inTheWayOf 10 = .ok (.getfield 21, 3) := by decide +kernel
theorem dX8_inTheWayOf_13 : decode cX8_inTheWayOf 13 = .ok (.getfield 180, 3) := by decide +kernel
theorem dX8_inTheWayOf_16 : decode cX8_inTheWayOf 16 = .ok (.iload_n 2, 1) := by decide +kernel
theorem dX8_inTheWayOf_17 : decode cX8_inTheWayOf 17 = .ok (.iaload, 1) := by decide +kernel
theorem dX8_inTheWayOf_18 : decode cX8_inTheWayOf 18 = .ok (.istore_n 3, 1) := by decide +kernel
theorem dX8_inTheWayOf_19 : decode cX8_inTheWayOf 19 = .ok (.iconst 0, 1) := by decide +kernel
theorem dX8_inTheWayOf_20 : decode cX8_inTheWayOf 20 = .ok (.istore 4, 2) := by decide +kernel
theorem dX8_inTheWayOf_22 : decode cX8_inTheWayOf 22 = .ok (.iconst 0, 1) := by decide +kernel
theorem dX8_inTheWayOf_23 : decode cX8_inTheWayOf 23 = .ok (.istore 5, 2) := by decide +kernel
theorem dX8_inTheWayOf_25 : decode cX8_inTheWayOf 25 = .ok (.iload 5, 2) := by decide +kernel
theorem dX8_inTheWayOf_27 : decode cX8_inTheWayOf 27 = .ok (.aload_n 1, 1) := by decide +kernel
theorem dX8_inTheWayOf_28 : decode cX8_inTheWayOf 28 = .ok (.getfield 58, 3) := by decide +kernel
theorem dX8_inTheWayOf_31 : decode cX8_inTheWayOf 31 = .ok (.if_icmp .ge 78, 3) := by decide +kernel
theorem dX8_inTheWayOf_34 : decode cX8_inTheWayOf 34 = .ok (.iload 5, 2) := by decide +kernel
theorem dX8_inTheWayOf_36 : decode cX8_inTheWayOf 36 = .ok (.iload_n 2, 1) := by decide +kernel
theorem dX8_inTheWayOf_37 : decode cX8_inTheWayOf 37 = .ok (.if_icmp .eq 66, 3) := by decide +kernel
theorem dX8_inTheWayOf_40 : decode cX8_inTheWayOf 40 = .ok (.aload_n 0, 1) := by decide +kernel
theorem dX8_inTheWayOf_41 : decode cX8_inTheWayOf 41 = .ok (.getfield 12, 3) := by decide +kernel
theorem dX8_inTheWayOf_44 : decode cX8_inTheWayOf 44 = .ok (.aload_n 1, 1) := by decide +kernel
theorem dX8_inTheWayOf_45 : decode cX8_inTheWayOf 45 = .ok (.invokevirtual 119, 3) := by decide +kernel
theorem dX8_inTheWayOf_48 : decode cX8_inTheWayOf 48 = .ok (.aload_n 0, 1) := by decide +kernel
theorem dX8_inTheWayOf_49 : decode cX8_inTheWayOf 49 = .ok (.getfield 12, 3) := by decide +kernel
theorem dX8_inTheWayOf_52 : decode cX8_inTheWayOf 52 = .ok (.iload 5, 2) := by decide +kernel
theorem dX8_inTheWayOf_54 : decode cX8_inTheWayOf 54 = .ok (.invokevirtual 183, 3) := by decide +kernel
theorem dX8_inTheWayOf_57 : decode cX8_inTheWayOf 57 = .ok (.aload_n 0, 1) := by decide +kernel
theorem dX8_inTheWayOf_58 : decode cX8_inTheWayOf 58 = .ok (.getfield 21, 3) := by decide +kernel
theorem dX8_inTheWayOf_61 : decode cX8_inTheWayOf 61 = .ok (.aload_n 0, 1) := by decide +kernel
theorem dX8_inTheWayOf_62 : decode cX8_inTheWayOf 62 = .ok (.getfield 12, 3) := by decide +kernel
theorem dX8_inTheWayOf_65 : decode cX8_inTheWayOf 65 = .ok (.invokevirtual 122, 3) := by decide +kernel
theorem dX8_inTheWayOf_68 : decode cX8_inTheWayOf 68 = .ok (.pop, 1) := by decide +kernel
theorem dX8_inTheWayOf_69 : decode cX8_inTheWayOf 69 = .ok (.aload_n 0, 1) := by decide +kernel
theorem dX8_inTheWayOf_70 : decode cX8_inTheWayOf 70 = .ok (.getfield 21, 3) := by decide +kernel
theorem dX8_inTheWayOf_73 : decode cX8_inTheWayOf 73 = .ok (.getfield 180, 3) := by decide +kernel
theorem dX8_inTheWayOf_76 : decode cX8_inTheWayOf 76 = .ok (.iload 5, 2) := by decide +kernel
theorem dX8_inTheWayOf_78 : decode cX8_inTheWayOf 78 = .ok (.iload_n 2, 1) := by decide +kernel
theorem dX8_inTheWayOf_79 : decode cX8_inTheWayOf 79 = .ok (.if_icmp .ge 9, 3) := by decide +kernel
theorem dX8_inTheWayOf_82 : decode cX8_inTheWayOf 82 = .ok (.iload_n 2, 1) := by decide +kernel
theorem dX8_inTheWayOf_83 : decode cX8_inTheWayOf 83 = .ok (.iconst 1, 1) := by decide +kernel
theorem dX8_inTheWayOf_84 : decode cX8_inTheWayOf 84 = .ok (.isub, 1) := by decide +kernel
theorem dX8_inTheWayOf_85 : decode cX8_inTheWayOf 85 = .ok (.goto 4, 3) := by decide +kernel
theorem dX8_inTheWayOf_88 : decode cX8_inTheWayOf 88 = .ok (.iload_n 2, 1) := by decide +kernel
theorem dX8_inTheWayOf_89 : decode cX8_inTheWayOf 89 = .ok (.iaload, 1) := by decide +kernel
theorem dX8_inTheWayOf_90 : decode cX8_inTheWayOf 90 = .ok (.iload_n 3, 1) := by decide +kernel
theorem dX8_inTheWayOf_91 : decode cX8_inTheWayOf 91 = .ok (.if_icmp .ge 12, 3) := by decide +kernel
theorem dX8_inTheWayOf_94 : decode cX8_inTheWayOf 94 = .ok (.iload 4, 2) := by decide +kernel
theorem dX8_inTheWayOf_96 : decode cX8_inTheWayOf 96 = .ok (.iconst 1, 1) := by decide +kernel
theorem dX8_inTheWayOf_97 : decode cX8_inTheWayOf 97 = .ok (.iload 5, 2) := by decide +kernel
theorem dX8_inTheWayOf_99 : decode cX8_inTheWayOf 99 = .ok (.ishl, 1) := by decide +kernel
theorem dX8_inTheWayOf_100 : decode cX8_inTheWayOf 100 = .ok (.ior, 1) := by decide +kernel
theorem dX8_inTheWayOf_101 : decode cX8_inTheWayOf 101 = .ok (.istore 4, 2) := by decide +kernel
theorem dX8_inTheWayOf_103 : decode cX8_inTheWayOf 103 = .ok (.iinc 5 1, 3) := by decide +kernel
theorem dX8_inTheWayOf_106 : decode cX8_inTheWayOf 106 = .ok (.goto (-81), 3) := by decide +kernel
theorem dX8_inTheWayOf_109 : decode cX8_inTheWayOf 109 = .ok (.iload 4, 2) := by decide +kernel
theorem dX8_inTheWayOf_111 : decode cX8_inTheWayOf 111 = .ok (.ireturn, 1) := by decide +kernel
theorem dX8_restOfTwo_0 : decode cX8_restOfTwo 0 = .ok (.iconst 0, 1) := by decide +kernel
theorem dX8_restOfTwo_1 : decode cX8_restOfTwo 1 = .ok (.istore 4, 2) := by decide +kernel
theorem dX8_restOfTwo_3 : decode cX8_restOfTwo 3 = .ok (.iload 4, 2) := by decide +kernel
theorem dX8_restOfTwo_5 : decode cX8_restOfTwo 5 = .ok (.bipush 9, 2) := by decide +kernel
theorem dX8_restOfTwo_7 : decode cX8_restOfTwo 7 = .ok (.if_icmp .ge 97, 3) := by decide +kernel
theorem dX8_restOfTwo_10 : decode cX8_restOfTwo 10 = .ok (.aload_n 0, 1) := by decide +kernel
theorem dX8_restOfTwo_11 : decode cX8_restOfTwo 11 = .ok (.getfield 12, 3) := by decide +kernel
theorem dX8_restOfTwo_14 : decode cX8_restOfTwo 14 = .ok (.aload_n 1, 1) := by decide +kernel
theorem dX8_restOfTwo_15 : decode cX8_restOfTwo 15 = .ok (.invokevirtual 119, 3) := by decide +kernel
theorem dX8_restOfTwo_18 : decode cX8_restOfTwo 18 = .ok (.aload_n 0, 1) := by decide +kernel
theorem dX8_restOfTwo_19 : decode cX8_restOfTwo 19 = .ok (.getfield 12, 3) := by decide +kernel
theorem dX8_restOfTwo_22 : decode cX8_restOfTwo 22 = .ok (.getfield 187, 3) := by decide +kernel
theorem dX8_restOfTwo_25 : decode cX8_restOfTwo 25 = .ok (.iload_n 2, 1) := by decide +kernel
theorem dX8_restOfTwo_26 : decode cX8_restOfTwo 26 = .ok (.dup2, 1) := by decide +kernel
theorem dX8_restOfTwo_27 : decode cX8_restOfTwo 27 = .ok (.iaload, 1) := by decide +kernel
theorem dX8_restOfTwo_28 : decode cX8_restOfTwo 28 = .ok (.iconst 5, 1) := by decide +kernel
theorem dX8_restOfTwo_29 : decode cX8_restOfTwo 29 = .ok (.iload 4, 2) := by decide +kernel
theorem dX8_restOfTwo_31 : decode cX8_restOfTwo 31 = .ok (.iconst 3, 1) := by decide +kernel
theorem dX8_restOfTwo_32 : decode cX8_restOfTwo 32 = .ok (.idiv, 1) := by decide +kernel
theorem dX8_restOfTwo_33 : decode cX8_restOfTwo 33 = .ok (.imul, 1) := by decide +kernel
theorem dX8_restOfTwo_34 : decode cX8_restOfTwo 34 = .ok (.iadd, 1) := by decide +kernel
theorem dX8_restOfTwo_35 : decode cX8_restOfTwo 35 = .ok (.iastore, 1) := by decide +kernel
theorem dX8_restOfTwo_36 : decode cX8_restOfTwo 36 = .ok (.aload_n 0, 1) := by decide +kernel
theorem dX8_restOfTwo_37 : decode cX8_restOfTwo 37 = .ok (.getfield 12, 3) := by decide +kernel
theorem dX8_restOfTwo_40 : decode cX8_restOfTwo 40 = .ok (.getfield 187, 3) := by decide +kernel
theorem dX8_restOfTwo_43 : decode cX8_restOfTwo 43 = .ok (.iload_n 3, 1) := by decide +kernel
theorem dX8_restOfTwo_44 : decode cX8_restOfTwo 44 = .ok (.dup2, 1) := by decide +kernel
theorem dX8_restOfTwo_45 : decode cX8_restOfTwo 45 = .ok (.iaload, 1) := by decide +kernel
theorem dX8_restOfTwo_46 : decode cX8_restOfTwo 46 = .ok (.iconst 5, 1) := by decide +kernel
theorem dX8_restOfTwo_47 : decode cX8_restOfTwo 47 = .ok (.iload 4, 2) := by decide +kernel
theorem dX8_restOfTwo_49 : decode cX8_restOfTwo 49 = .ok (.iconst 3, 1) := by decide +kernel
theorem dX8_restOfTwo_50 : decode cX8_restOfTwo 50 = .ok (.irem, 1) := by decide +kernel
theorem dX8_restOfTwo_51 : decode cX8_restOfTwo 51 = .ok (.imul, 1) := by decide +kernel
theorem dX8_restOfTwo_52 : decode cX8_restOfTwo 52 = .ok (.iadd, 1) := by decide +kernel
theorem dX8_restOfTwo_53 : decode cX8_restOfTwo 53 = .ok (.iastore, 1) := by decide +kernel
theorem dX8_restOfTwo_54 : decode cX8_restOfTwo 54 = .ok (.aload_n 0, 1) := by decide +kernel
theorem dX8_restOfTwo_55 : decode cX8_restOfTwo 55 = .ok (.getfield 21, 3) := by decide +kernel
theorem dX8_restOfTwo_58 : decode cX8_restOfTwo 58 = .ok (.aload_n 0, 1) := by decide +kernel
theorem dX8_restOfTwo_59 : decode cX8_restOfTwo 59 = .ok (.getfield 12, 3) := by decide +kernel
theorem dX8_restOfTwo_62 : decode cX8_restOfTwo 62 = .ok (.invokevirtual 122, 3) := by decide +kernel
theorem dX8_restOfTwo_65 : decode cX8_restOfTwo 65 = .ok (.pop, 1) := by decide +kernel
theorem dX8_restOfTwo_66 : decode cX8_restOfTwo 66 = .ok (.aload_n 0, 1) := by decide +kernel
theorem dX8_restOfTwo_67 : decode cX8_restOfTwo 67 = .ok (.getfield 29, 3) := by decide +kernel
theorem dX8_restOfTwo_70 : decode cX8_restOfTwo 70 = .ok (.iload 4, 2) := by decide +kernel
theorem dX8_restOfTwo_72 : decode cX8_restOfTwo 72 = .ok (.aload_n 0, 1) := by decide +kernel
theorem dX8_restOfTwo_73 : decode cX8_restOfTwo 73 = .ok (.getfield 21, 3) := by decide +kernel
theorem dX8_restOfTwo_76 : decode cX8_restOfTwo 76 = .ok (.getfield 180, 3) := by decide +kernel
theorem dX8_restOfTwo_79 : decode cX8_restOfTwo 79 = .ok (.iload_n 2, 1) := by decide +kernel
theorem dX8_restOfTwo_80 : decode cX8_restOfTwo 80 = .ok (.iaload, 1) := by decide +kernel
theorem dX8_restOfTwo_81 : decode cX8_restOfTwo 81 = .ok (.iastore, 1) := by decide +kernel
theorem dX8_restOfTwo_82 : decode cX8_restOfTwo 82 = .ok (.aload_n 0, 1) := by decide +kernel
theorem dX8_restOfTwo_83 : decode cX8_restOfTwo 83 = .ok (.getfield 32, 3) := by decide +kernel
theorem dX8_restOfTwo_86 : decode cX8_restOfTwo 86 = .ok (.iload 4, 2) := by decide +kernel
theorem dX8_restOfTwo_88 : decode cX8_restOfTwo 88 = .ok (.aload_n 0, 1) := by decide +kernel
theorem dX8_restOfTwo_89 : decode cX8_restOfTwo 89 = .ok (.getfield 21, 3) := by decide +kernel
theorem dX8_restOfTwo_92 : decode cX8_restOfTwo 92 = .ok (.getfield 180, 3) := by decide +kernel
theorem dX8_restOfTwo_95 : decode cX8_restOfTwo 95 = .ok (.iload_n 3, 1) := by decide +kernel
theorem dX8_restOfTwo_96 : decode cX8_restOfTwo 96 = .ok (.iaload, 1) := by decide +kernel
theorem dX8_restOfTwo_97 : decode cX8_restOfTwo 97 = .ok (.iastore, 1) := by decide +kernel
theorem dX8_restOfTwo_98 : decode cX8_restOfTwo 98 = .ok (.iinc 4 1, 3) := by decide +kernel
theorem dX8_restOfTwo_101 : decode cX8_restOfTwo 101 = .ok (.goto (-98), 3) := by decide +kernel
theorem dX8_restOfTwo_104 : decode cX8_restOfTwo 104 = .ok (.iconst 0, 1) := by decide +kernel
theorem dX8_restOfTwo_105 : decode cX8_restOfTwo 105 = .ok (.istore 4, 2) := by decide +kernel
theorem dX8_restOfTwo_107 : decode cX8_restOfTwo 107 = .ok (.iload 4, 2) := by decide +kernel
theorem dX8_restOfTwo_109 : decode cX8_restOfTwo 109 = .ok (.bipush 9, 2) := by decide +kernel
theorem dX8_restOfTwo_111 : decode cX8_restOfTwo 111 = .ok (.if_icmp .ge 31, 3) := by decide +kernel
theorem dX8_restOfTwo_114 : decode cX8_restOfTwo 114 = .ok (.aload_n 0, 1) := by decide +kernel
theorem dX8_restOfTwo_115 : decode cX8_restOfTwo 115 = .ok (.iload 4, 2) := by decide +kernel
theorem dX8_restOfTwo_117 : decode cX8_restOfTwo 117 = .ok (.invokevirtual 190, 3) := by decide +kernel
theorem dX8_restOfTwo_120 : decode cX8_restOfTwo 120 = .ok (.ifCond .eq 16, 3) := by decide +kernel
theorem dX8_restOfTwo_123 : decode cX8_restOfTwo 123 = .ok (.bipush 10, 2) := by decide +kernel
theorem dX8_restOfTwo_125 : decode cX8_restOfTwo 125 = .ok (.iload 4, 2) := by decide +kernel
theorem dX8_restOfTwo_127 : decode cX8_restOfTwo 127 = .ok (.iconst 3, 1) := by decide +kernel
theorem dX8_restOfTwo_128 : decode cX8_restOfTwo 128 = .ok (.idiv, 1) := by decide +kernel
theorem dX8_restOfTwo_129 : decode cX8_restOfTwo 129 = .ok (.imul, 1) := by decide +kernel
theorem dX8_restOfTwo_130 : decode cX8_restOfTwo 130 = .ok (.iload 4, 2) := by decide +kernel
theorem dX8_restOfTwo_132 : decode cX8_restOfTwo 132 = .ok (.iconst 3, 1) := by decide +kernel
theorem dX8_restOfTwo_133 : decode cX8_restOfTwo 133 = .ok (.irem, 1) := by decide +kernel
theorem dX8_restOfTwo_134 : decode cX8_restOfTwo 134 = .ok (.iadd, 1) := by decide +kernel
theorem dX8_restOfTwo_135 : decode cX8_restOfTwo 135 = .ok (.ireturn, 1) := by decide +kernel
theorem dX8_restOfTwo_136 : decode cX8_restOfTwo 136 = .ok (.iinc 4 1, 3) := by decide +kernel
theorem dX8_restOfTwo_139 : decode cX8_restOfTwo 139 = .ok (.goto (-32), 3) := by decide +kernel
theorem dX8_restOfTwo_142 : decode cX8_restOfTwo 142 = .ok (.bipush (-4), 2) := by decide +kernel
theorem dX8_restOfTwo_144 : decode cX8_restOfTwo 144 = .ok (.ireturn, 1) := by decide +kernel
theorem dX8_rests_0 : decode cX8_rests 0 = .ok (.iload_n 1, 1) := by decide +kernel
theorem dX8_rests_1 : decode cX8_rests 1 = .ok (.iconst 3, 1) := by decide +kernel
theorem dX8_rests_2 : decode cX8_rests 2 = .ok (.idiv, 1) := by decide +kernel
theorem dX8_rests_3 : decode cX8_rests 3 = .ok (.istore_n 2, 1) := by decide +kernel
theorem dX8_rests_4 : decode cX8_rests 4 = .ok (.iload_n 1, 1) := by decide +kernel
theorem dX8_rests_5 : decode cX8_rests 5 = .ok (.iconst 3, 1) := by decide +kernel
theorem dX8_rests_6 : decode cX8_rests 6 = .ok (.irem, 1) := by decide +kernel
theorem dX8_rests_7 : decode cX8_rests 7 = .ok (.istore_n 3, 1) := by decide +kernel
theorem dX8_rests_8 : decode cX8_rests 8 = .ok (.iconst 0, 1) := by decide +kernel
theorem dX8_rests_9 : decode cX8_rests 9 = .ok (.istore 4, 2) := by decide +kernel
theorem dX8_rests_11 : decode cX8_rests 11 = .ok (.iload 4, 2) := by decide +kernel
theorem dX8_rests_13 : decode cX8_rests 13 = .ok (.iconst 3, 1) := by decide +kernel
theorem dX8_rests_14 : decode cX8_rests 14 = .ok (.if_icmp .ge 51, 3) := by decide +kernel
theorem dX8_rests_17 : decode cX8_rests 17 = .ok (.aload_n 0, 1) := by decide +kernel
theorem dX8_rests_18 : decode cX8_rests 18 = .ok (.getfield 29, 3) := by decide +kernel
theorem dX8_rests_21 : decode cX8_rests 21 = .ok (.iload 4, 2) := by decide +kernel
theorem dX8_rests_23 : decode cX8_rests 23 = .ok (.iconst 3, 1) := by decide +kernel
theorem dX8_rests_24 : decode cX8_rests 24 = .ok (.imul, 1) := by decide +kernel
theorem dX8_rests_25 : decode cX8_rests 25 = .ok (.iload_n 3, 1) := by decide +kernel
theorem dX8_rests_26 : decode cX8_rests 26 = .ok (.iadd, 1) := by decide +kernel
theorem dX8_rests_27 : decode cX8_rests 27 = .ok (.iaload, 1) := by decide +kernel
theorem dX8_rests_28 : decode cX8_rests 28 = .ok (.aload_n 0, 1) := by decide +kernel
theorem dX8_rests_29 : decode cX8_rests 29 = .ok (.getfield 29, 3) := by decide +kernel
theorem dX8_rests_32 : decode cX8_rests 32 = .ok (.iload_n 1, 1) := by decide +kernel
theorem dX8_rests_33 : decode cX8_rests 33 = .ok (.iaload, 1) := by decide +kernel
theorem dX8_rests_34 : decode cX8_rests 34 = .ok (.if_icmp .lt 23, 3) := by decide +kernel
theorem dX8_rests_37 : decode cX8_rests 37 = .ok (.aload_n 0, 1) := by decide +kernel
theorem dX8_rests_38 : decode cX8_rests 38 = .ok (.getfield 32, 3) := by decide +kernel
theorem dX8_rests_41 : decode cX8_rests 41 = .ok (.iload_n 2, 1) := by decide +kernel
theorem dX8_rests_42 : decode cX8_rests 42 = .ok (.iconst 3, 1) := by decide +kernel
theorem dX8_rests_43 : decode cX8_rests 43 = .ok (.imul, 1) := by decide +kernel
theorem dX8_rests_44 : decode cX8_rests 44 = .ok (.iload 4, 2) := by decide +kernel
theorem dX8_rests_46 : decode cX8_rests 46 = .ok (.iadd, 1) := by decide +kernel
theorem dX8_rests_47 : decode cX8_rests 47 = .ok (.iaload, 1) := by decide +kernel
theorem dX8_rests_48 : decode cX8_rests 48 = .ok (.aload_n 0, 1) := by decide +kernel
theorem dX8_rests_49 : decode cX8_rests 49 = .ok (.getfield 32, 3) := by decide +kernel
theorem dX8_rests_52 : decode cX8_rests 52 = .ok (.iload_n 1, 1) := by decide +kernel
theorem dX8_rests_53 : decode cX8_rests 53 = .ok (.iaload, 1) := by decide +kernel
theorem dX8_rests_54 : decode cX8_rests 54 = .ok (.if_icmp .ge 5, 3) := by decide +kernel
theorem dX8_rests_57 : decode cX8_rests 57 = .ok (.iconst 0, 1) := by decide +kernel
theorem dX8_rests_58 : decode cX8_rests 58 = .ok (.ireturn, 1) := by decide +kernel
theorem dX8_rests_59 : decode cX8_rests 59 = .ok (.iinc 4 1, 3) := by decide +kernel
theorem dX8_rests_62 : decode cX8_rests 62 = .ok (.goto (-51), 3) := by decide +kernel
theorem dX8_rests_65 : decode cX8_rests 65 = .ok (.iconst 1, 1) := by decide +kernel
theorem dX8_rests_66 : decode cX8_rests 66 = .ok (.ireturn, 1) := by decide +kernel
theorem dX8_tryAllComings_0 : decode cX8_tryAllComings 0 = .ok (.aload_n 0, 1) := by decide +kernel
theorem dX8_tryAllComings_1 : decode cX8_tryAllComings 1 = .ok (.invokevirtual 77, 3) := by decide +kernel
theorem dX8_tryAllComings_4 : decode cX8_tryAllComings 4 = .ok (.iconst 0, 1) := by decide +kernel
theorem dX8_tryAllComings_5 : decode cX8_tryAllComings 5 = .ok (.istore_n 3, 1) := by decide +kernel
theorem dX8_tryAllComings_6 : decode cX8_tryAllComings 6 = .ok (.aload_n 0, 1) := by decide +kernel
theorem dX8_tryAllComings_7 : decode cX8_tryAllComings 7 = .ok (.getfield 21, 3) := by decide +kernel
theorem dX8_tryAllComings_10 : decode cX8_tryAllComings 10 = .ok (.aload_n 1, 1) := by decide +kernel
theorem dX8_tryAllComings_11 : decode cX8_tryAllComings 11 = .ok (.invokevirtual 67, 3) := by decide +kernel
theorem dX8_tryAllComings_14 : decode cX8_tryAllComings 14 = .ok (.aload_n 1, 1) := by decide +kernel
theorem dX8_tryAllComings_15 : decode cX8_tryAllComings 15 = .ok (.getfield 58, 3) := by decide +kernel
theorem dX8_tryAllComings_18 : decode cX8_tryAllComings 18 = .ok (.invokestatic 174, 3) := by decide +kernel
theorem dX8_tryAllComings_21 : decode cX8_tryAllComings 21 = .ok (.istore 4, 2) := by decide +kernel
theorem dX8_tryAllComings_23 : decode cX8_tryAllComings 23 = .ok (.iconst 0, 1) := by decide +kernel
theorem dX8_tryAllComings_24 : decode cX8_tryAllComings 24 = .ok (.istore 5, 2) := by decide +kernel
theorem dX8_tryAllComings_26 : decode cX8_tryAllComings 26 = .ok (.iload 5, 2) := by decide +kernel
theorem dX8_tryAllComings_28 : decode cX8_tryAllComings 28 = .ok (.iload 4, 2) := by decide +kernel
theorem dX8_tryAllComings_30 : decode cX8_tryAllComings 30 = .ok (.if_icmp .ge 64, 3) := by decide +kernel
theorem dX8_tryAllComings_33 : decode cX8_tryAllComings 33 = .ok (.aload_n 0, 1) := by decide +kernel
theorem dX8_tryAllComings_34 : decode cX8_tryAllComings 34 = .ok (.getfield 21, 3) := by decide +kernel
theorem dX8_tryAllComings_37 : decode cX8_tryAllComings 37 = .ok (.getfield 161, 3) := by decide +kernel
theorem dX8_tryAllComings_40 : decode cX8_tryAllComings 40 = .ok (.aload_n 1, 1) := by decide +kernel
theorem dX8_tryAllComings_41 : decode cX8_tryAllComings 41 = .ok (.invokevirtual 165, 3) := by decide +kernel
theorem dX8_tryAllComings_44 : decode cX8_tryAllComings 44 = .ok (.aload_n 0, 1) := by decide +kernel
theorem dX8_tryAllComings_45 : decode cX8_tryAllComings 45 = .ok (.aload_n 2, 1) := by decide +kernel
theorem dX8_tryAllComings_46 : decode cX8_tryAllComings 46 = .ok (.invokevirtual 193, 3) := by decide +kernel
theorem dX8_tryAllComings_49 : decode cX8_tryAllComings 49 = .ok (.ifCond .eq 25, 3) := by decide +kernel
theorem dX8_tryAllComings_52 : decode cX8_tryAllComings 52 = .ok (.iinc 3 1, 3) := by decide +kernel
theorem dX8_tryAllComings_55 : decode cX8_tryAllComings 55 = .ok (.aload_n 0, 1) := by decide +kernel
theorem dX8_tryAllComings_56 : decode cX8_tryAllComings 56 = .ok (.aload_n 0, 1) := by decide +kernel
theorem dX8_tryAllComings_57 : decode cX8_tryAllComings 57 = .ok (.getfield 21, 3) := by decide +kernel
theorem dX8_tryAllComings_60 : decode cX8_tryAllComings 60 = .ok (.getfield 197, 3) := by decide +kernel
theorem dX8_tryAllComings_63 : decode cX8_tryAllComings 63 = .ok (.aload_n 1, 1) := by decide +kernel
theorem dX8_tryAllComings_64 : decode cX8_tryAllComings 64 = .ok (.getfield 58, 3) := by decide +kernel
theorem dX8_tryAllComings_67 : decode cX8_tryAllComings 67 = .ok (.invokestatic 109, 3) := by decide +kernel
theorem dX8_tryAllComings_70 : decode cX8_tryAllComings 70 = .ok (.iconst 0, 1) := by decide +kernel
theorem dX8_tryAllComings_71 : decode cX8_tryAllComings 71 = .ok (.invokevirtual 115, 3) := by decide +kernel
theorem dX8_tryAllComings_74 : decode cX8_tryAllComings 74 = .ok (.aload_n 0, 1) := by decide +kernel
theorem dX8_tryAllComings_75 : decode cX8_tryAllComings 75 = .ok (.getfield 21, 3) := by decide +kernel
theorem dX8_tryAllComings_78 : decode cX8_tryAllComings 78 = .ok (.getfield 197, 3) := by decide +kernel
theorem dX8_tryAllComings_81 : decode cX8_tryAllComings 81 = .ok (.aload_n 1, 1) := by decide +kernel
theorem dX8_tryAllComings_82 : decode cX8_tryAllComings 82 = .ok (.getfield 58, 3) := by decide +kernel
theorem dX8_tryAllComings_85 : decode cX8_tryAllComings 85 = .ok (.invokestatic 177, 3) := by decide +kernel
theorem dX8_tryAllComings_88 : decode cX8_tryAllComings 88 = .ok (.iinc 5 1, 3) := by decide +kernel
theorem dX8_tryAllComings_91 : decode cX8_tryAllComings 91 = .ok (.goto (-65), 3) := by decide +kernel
theorem dX8_tryAllComings_94 : decode cX8_tryAllComings 94 = .ok (.iload_n 3, 1) := by decide +kernel
theorem dX8_tryAllComings_95 : decode cX8_tryAllComings 95 = .ok (.ireturn, 1) := by decide +kernel
theorem dX8_isHeapZero_0 : decode cX8_isHeapZero 0 = .ok (.aload_n 1, 1) := by decide +kernel
theorem dX8_isHeapZero_1 : decode cX8_isHeapZero 1 = .ok (.getfield 200, 3) := by decide +kernel
theorem dX8_isHeapZero_4 : decode cX8_isHeapZero 4 = .ok (.aload_n 0, 1) := by decide +kernel
theorem dX8_isHeapZero_5 : decode cX8_isHeapZero 5 = .ok (.getfield 21, 3) := by decide +kernel
theorem dX8_isHeapZero_8 : decode cX8_isHeapZero 8 = .ok (.getfield 97, 3) := by decide +kernel
theorem dX8_isHeapZero_11 : decode cX8_isHeapZero 11 = .ok (.getfield 101, 3) := by decide +kernel
theorem dX8_isHeapZero_14 : decode cX8_isHeapZero 14 = .ok (.iconst 0, 1) := by decide +kernel
theorem dX8_isHeapZero_15 : decode cX8_isHeapZero 15 = .ok (.iaload, 1) := by decide +kernel
theorem dX8_isHeapZero_16 : decode cX8_isHeapZero 16 = .ok (.if_icmp .eq 5, 3) := by decide +kernel
theorem dX8_isHeapZero_19 : decode cX8_isHeapZero 19 = .ok (.iconst 0, 1) := by decide +kernel
theorem dX8_isHeapZero_20 : decode cX8_isHeapZero 20 = .ok (.ireturn, 1) := by decide +kernel
theorem dX8_isHeapZero_21 : decode cX8_isHeapZero 21 = .ok (.iconst 0, 1) := by decide +kernel
theorem dX8_isHeapZero_22 : decode cX8_isHeapZero 22 = .ok (.istore_n 2, 1) := by decide +kernel
theorem dX8_isHeapZero_23 : decode cX8_isHeapZero 23 = .ok (.iload_n 2, 1) := by decide +kernel
theorem dX8_isHeapZero_24 : decode cX8_isHeapZero 24 = .ok (.aload_n 1, 1) := by decide +kernel
theorem dX8_isHeapZero_25 : decode cX8_isHeapZero 25 = .ok (.getfield 200, 3) := by decide +kernel
theorem dX8_isHeapZero_28 : decode cX8_isHeapZero 28 = .ok (.if_icmp .ge 32, 3) := by decide +kernel
theorem dX8_isHeapZero_31 : decode cX8_isHeapZero 31 = .ok (.aload_n 1, 1) := by decide +kernel
theorem dX8_isHeapZero_32 : decode cX8_isHeapZero 32 = .ok (.getfield 205, 3) := by decide +kernel
theorem dX8_isHeapZero_35 : decode cX8_isHeapZero 35 = .ok (.iload_n 2, 1) := by decide +kernel
theorem dX8_isHeapZero_36 : decode cX8_isHeapZero 36 = .ok (.iaload, 1) := by decide +kernel
theorem dX8_isHeapZero_37 : decode cX8_isHeapZero 37 = .ok (.aload_n 0, 1) := by decide +kernel
theorem dX8_isHeapZero_38 : decode cX8_isHeapZero 38 = .ok (.getfield 21, 3) := by decide +kernel
theorem dX8_isHeapZero_41 : decode cX8_isHeapZero 41 = .ok (.getfield 97, 3) := by decide +kernel
theorem dX8_isHeapZero_44 : decode cX8_isHeapZero 44 = .ok (.iconst 0, 1) := by decide +kernel
theorem dX8_isHeapZero_45 : decode cX8_isHeapZero 45 = .ok (.iload_n 2, 1) := by decide +kernel
theorem dX8_isHeapZero_46 : decode cX8_isHeapZero 46 = .ok (.invokevirtual 208, 3) := by decide +kernel
theorem dX8_isHeapZero_49 : decode cX8_isHeapZero 49 = .ok (.if_icmp .eq 5, 3) := by decide +kernel
theorem dX8_isHeapZero_52 : decode cX8_isHeapZero 52 = .ok (.iconst 0, 1) := by decide +kernel
theorem dX8_isHeapZero_53 : decode cX8_isHeapZero 53 = .ok (.ireturn, 1) := by decide +kernel
theorem dX8_isHeapZero_54 : decode cX8_isHeapZero 54 = .ok (.iinc 2 1, 3) := by decide +kernel
theorem dX8_isHeapZero_57 : decode cX8_isHeapZero 57 = .ok (.goto (-34), 3) := by decide +kernel
theorem dX8_isHeapZero_60 : decode cX8_isHeapZero 60 = .ok (.iconst 1, 1) := by decide +kernel
theorem dX8_isHeapZero_61 : decode cX8_isHeapZero 61 = .ok (.ireturn, 1) := by decide +kernel
theorem dX8_tryNights_0 : decode cX8_tryNights 0 = .ok (.aload_n 0, 1) := by decide +kernel
theorem dX8_tryNights_1 : decode cX8_tryNights 1 = .ok (.iload_n 3, 1) := by decide +kernel
theorem dX8_tryNights_2 : decode cX8_tryNights 2 = .ok (.putfield 35, 3) := by decide +kernel
theorem dX8_tryNights_5 : decode cX8_tryNights 5 = .ok (.aload_n 0, 1) := by decide +kernel
theorem dX8_tryNights_6 : decode cX8_tryNights 6 = .ok (.iconst 0, 1) := by decide +kernel
theorem dX8_tryNights_7 : decode cX8_tryNights 7 = .ok (.putfield 48, 3) := by decide +kernel
theorem dX8_tryNights_10 : decode cX8_tryNights 10 = .ok (.aload_n 0, 1) := by decide +kernel
theorem dX8_tryNights_11 : decode cX8_tryNights 11 = .ok (.iconst 0, 1) := by decide +kernel
theorem dX8_tryNights_12 : decode cX8_tryNights 12 = .ok (.putfield 51, 3) := by decide +kernel
theorem dX8_tryNights_15 : decode cX8_tryNights 15 = .ok (.aload_n 0, 1) := by decide +kernel
theorem dX8_tryNights_16 : decode cX8_tryNights 16 = .ok (.getfield 12, 3) := by decide +kernel
theorem dX8_tryNights_19 : decode cX8_tryNights 19 = .ok (.aload_n 1, 1) := by decide +kernel
theorem dX8_tryNights_20 : decode cX8_tryNights 20 = .ok (.invokevirtual 119, 3) := by decide +kernel
theorem dX8_tryNights_23 : decode cX8_tryNights 23 = .ok (.iconst 0, 1) := by decide +kernel
theorem dX8_tryNights_24 : decode cX8_tryNights 24 = .ok (.istore 4, 2) := by decide +kernel
theorem dX8_tryNights_26 : decode cX8_tryNights 26 = .ok (.iload 4, 2) := by decide +kernel
theorem dX8_tryNights_28 : decode cX8_tryNights 28 = .ok (.iload_n 2, 1) := by decide +kernel
theorem dX8_tryNights_29 : decode cX8_tryNights 29 = .ok (.if_icmp .ge 85, 3) := by decide +kernel
theorem dX8_tryNights_32 : decode cX8_tryNights 32 = .ok (.iconst 0, 1) := by decide +kernel
theorem dX8_tryNights_33 : decode cX8_tryNights 33 = .ok (.istore 5, 2) := by decide +kernel
theorem dX8_tryNights_35 : decode cX8_tryNights 35 = .ok (.iload 5, 2) := by decide +kernel
theorem dX8_tryNights_37 : decode cX8_tryNights 37 = .ok (.aload_n 0, 1) := by decide +kernel
theorem dX8_tryNights_38 : decode cX8_tryNights 38 = .ok (.getfield 12, 3) := by decide +kernel
theorem dX8_tryNights_41 : decode cX8_tryNights 41 = .ok (.getfield 58, 3) := by decide +kernel
theorem dX8_tryNights_44 : decode cX8_tryNights 44 = .ok (.if_icmp .ge 25, 3) := by decide +kernel
theorem dX8_tryNights_47 : decode cX8_tryNights 47 = .ok (.aload_n 0, 1) := by decide +kernel
theorem dX8_tryNights_48 : decode cX8_tryNights 48 = .ok (.getfield 12, 3) := by decide +kernel
theorem dX8_tryNights_51 : decode cX8_tryNights 51 = .ok (.getfield 187, 3) := by decide +kernel
theorem dX8_tryNights_54 : decode cX8_tryNights 54 = .ok (.iload 5, 2) := by decide +kernel
theorem dX8_tryNights_56 : decode cX8_tryNights 56 = .ok (.aload_n 0, 1) := by decide +kernel
theorem dX8_tryNights_57 : decode cX8_tryNights 57 = .ok (.bipush 60, 2) := by decide +kernel
theorem dX8_tryNights_59 : decode cX8_tryNights 59 = .ok (.invokevirtual 211, 3) := by decide +kernel
theorem dX8_tryNights_62 : decode cX8_tryNights 62 = .ok (.iastore, 1) := by decide +kernel
theorem dX8_tryNights_63 : decode cX8_tryNights 63 = .ok (.iinc 5 1, 3) := by decide +kernel
theorem dX8_tryNights_66 : decode cX8_tryNights 66 = .ok (.goto (-31), 3) := by decide +kernel
theorem dX8_tryNights_69 : decode cX8_tryNights 69 = .ok (.aload_n 0, 1) := by decide +kernel
theorem dX8_tryNights_70 : decode cX8_tryNights 70 = .ok (.dup, 1) := by decide +kernel
theorem dX8_tryNights_71 : decode cX8_tryNights 71 = .ok (.getfield 48, 3) := by decide +kernel
theorem dX8_tryNights_74 : decode cX8_tryNights 74 = .ok (.aload_n 0, 1) := by decide +kernel
theorem dX8_tryNights_75 : decode cX8_tryNights 75 = .ok (.getfield 21, 3) := by decide +kernel
theorem dX8_tryNights_78 : decode cX8_tryNights 78 = .ok (.aload_n 0, 1) := by decide +kernel
theorem dX8_tryNights_79 : decode cX8_tryNights 79 = .ok (.getfield 12, 3) := by decide +kernel
theorem dX8_tryNights_82 : decode cX8_tryNights 82 = .ok (.invokevirtual 122, 3) := by decide +kernel
theorem dX8_tryNights_85 : decode cX8_tryNights 85 = .ok (.iadd, 1) := by decide +kernel
theorem dX8_tryNights_86 : decode cX8_tryNights 86 = .ok (.putfield 48, 3) := by decide +kernel
theorem dX8_tryNights_89 : decode cX8_tryNights 89 = .ok (.aload_n 0, 1) := by decide +kernel
theorem dX8_tryNights_90 : decode cX8_tryNights 90 = .ok (.dup, 1) := by decide +kernel
theorem dX8_tryNights_91 : decode cX8_tryNights 91 = .ok (.getfield 51, 3) := by decide +kernel
theorem dX8_tryNights_94 : decode cX8_tryNights 94 = .ok (.aload_n 0, 1) := by decide +kernel
theorem dX8_tryNights_95 : decode cX8_tryNights 95 = .ok (.getfield 21, 3) := by decide +kernel
theorem dX8_tryNights_98 : decode cX8_tryNights 98 = .ok (.invokevirtual 214, 3) := by decide +kernel
theorem dX8_tryNights_101 : decode cX8_tryNights 101 = .ok (.invokestatic 135, 3) := by decide +kernel
theorem dX8_tryNights_104 : decode cX8_tryNights 104 = .ok (.iadd, 1) := by decide +kernel
theorem dX8_tryNights_105 : decode cX8_tryNights 105 = .ok (.putfield 51, 3) := by decide +kernel
theorem dX8_tryNights_108 : decode cX8_tryNights 108 = .ok (.iinc 4 1, 3) := by decide +kernel
theorem dX8_tryNights_111 : decode cX8_tryNights 111 = .ok (.goto (-85), 3) := by decide +kernel
theorem dX8_tryNights_114 : decode cX8_tryNights 114 = .ok (.return_, 1) := by decide +kernel
theorem dX8_draw_0 : decode cX8_draw 0 = .ok (.aload_n 0, 1) := by decide +kernel
theorem dX8_draw_1 : decode cX8_draw 1 = .ok (.aload_n 0, 1) := by decide +kernel
theorem dX8_draw_2 : decode cX8_draw 2 = .ok (.getfield 35, 3) := by decide +kernel
theorem dX8_draw_5 : decode cX8_draw 5 = .ok (.ldc 218, 2) := by decide +kernel
theorem dX8_draw_7 : decode cX8_draw 7 = .ok (.imul, 1) := by decide +kernel
theorem dX8_draw_8 : decode cX8_draw 8 = .ok (.sipush 12345, 3) := by decide +kernel
theorem dX8_draw_11 : decode cX8_draw 11 = .ok (.iadd, 1) := by decide +kernel
theorem dX8_draw_12 : decode cX8_draw 12 = .ok (.putfield 35, 3) := by decide +kernel
theorem dX8_draw_15 : decode cX8_draw 15 = .ok (.iload_n 1, 1) := by decide +kernel
theorem dX8_draw_16 : decode cX8_draw 16 = .ok (.iconst 1, 1) := by decide +kernel
theorem dX8_draw_17 : decode cX8_draw 17 = .ok (.if_icmp .ge 7, 3) := by decide +kernel
theorem dX8_draw_20 : decode cX8_draw 20 = .ok (.iconst 0, 1) := by decide +kernel
theorem dX8_draw_21 : decode cX8_draw 21 = .ok (.goto 15, 3) := by decide +kernel
theorem dX8_draw_24 : decode cX8_draw 24 = .ok (.aload_n 0, 1) := by decide +kernel
theorem dX8_draw_25 : decode cX8_draw 25 = .ok (.getfield 35, 3) := by decide +kernel
theorem dX8_draw_28 : decode cX8_draw 28 = .ok (.ldc 219, 2) := by decide +kernel
theorem dX8_draw_30 : decode cX8_draw 30 = .ok (.iand, 1) := by decide +kernel
theorem dX8_draw_31 : decode cX8_draw 31 = .ok (.ldc 220, 2) := by decide +kernel
theorem dX8_draw_33 : decode cX8_draw 33 = .ok (.idiv, 1) := by decide +kernel
theorem dX8_draw_34 : decode cX8_draw 34 = .ok (.iload_n 1, 1) := by decide +kernel
theorem dX8_draw_35 : decode cX8_draw 35 = .ok (.irem, 1) := by decide +kernel
theorem dX8_draw_36 : decode cX8_draw 36 = .ok (.ireturn, 1) := by decide +kernel
theorem dX9_init_0 : decode cX9_init 0 = .ok (.aload_n 0, 1) := by decide +kernel
theorem dX9_init_1 : decode cX9_init 1 = .ok (.invokespecial 1, 3) := by decide +kernel
theorem dX9_init_4 : decode cX9_init 4 = .ok (.aload_n 0, 1) := by decide +kernel
theorem dX9_init_5 : decode cX9_init 5 = .ok (.new 7, 3) := by decide +kernel
theorem dX9_init_8 : decode cX9_init 8 = .ok (.dup, 1) := by decide +kernel
theorem dX9_init_9 : decode cX9_init 9 = .ok (.invokespecial 9, 3) := by decide +kernel
theorem dX9_init_12 : decode cX9_init 12 = .ok (.putfield 10, 3) := by decide +kernel
theorem dX9_init_15 : decode cX9_init 15 = .ok (.aload_n 0, 1) := by decide +kernel
theorem dX9_init_16 : decode cX9_init 16 = .ok (.new 7, 3) := by decide +kernel
theorem dX9_init_19 : decode cX9_init 19 = .ok (.dup, 1) := by decide +kernel
theorem dX9_init_20 : decode cX9_init 20 = .ok (.invokespecial 9, 3) := by decide +kernel
theorem dX9_init_23 : decode cX9_init 23 = .ok (.putfield 16, 3) := by decide +kernel
theorem dX9_init_26 : decode cX9_init 26 = .ok (.aload_n 0, 1) := by decide +kernel
theorem dX9_init_27 : decode cX9_init 27 = .ok (.iconst 0, 1) := by decide +kernel
theorem dX9_init_28 : decode cX9_init 28 = .ok (.putfield 19, 3) := by decide +kernel
theorem dX9_init_31 : decode cX9_init 31 = .ok (.aload_n 0, 1) := by decide +kernel
theorem dX9_init_32 : decode cX9_init 32 = .ok (.bipush 8, 2) := by decide +kernel
theorem dX9_init_34 : decode cX9_init 34 = .ok (.anewarray 23, 3) := by decide +kernel
theorem dX9_init_37 : decode cX9_init 37 = .ok (.putfield 25, 3) := by decide +kernel
theorem dX9_init_40 : decode cX9_init 40 = .ok (.iconst 0, 1) := by decide +kernel
theorem dX9_init_41 : decode cX9_init 41 = .ok (.istore_n 1, 1) := by decide +kernel
theorem dX9_init_42 : decode cX9_init 42 = .ok (.iload_n 1, 1) := by decide +kernel
theorem dX9_init_43 : decode cX9_init 43 = .ok (.bipush 8, 2) := by decide +kernel
theorem dX9_init_45 : decode cX9_init 45 = .ok (.if_icmp .ge 22, 3) := by decide +kernel
theorem dX9_init_48 : decode cX9_init 48 = .ok (.aload_n 0, 1) := by decide +kernel
theorem dX9_init_49 : decode cX9_init 49 = .ok (.getfield 25, 3) := by decide +kernel
theorem dX9_init_52 : decode cX9_init 52 = .ok (.iload_n 1, 1) := by decide +kernel
theorem dX9_init_53 : decode cX9_init 53 = .ok (.new 23, 3) := by decide +kernel
theorem dX9_init_56 : decode cX9_init 56 = .ok (.dup, 1) := by decide +kernel
theorem dX9_init_57 : decode cX9_init 57 = .ok (.invokespecial 29, 3) := by decide +kernel
theorem dX9_init_60 : decode cX9_init 60 = .ok (.aastore, 1) := by decide +kernel
theorem dX9_init_61 : decode cX9_init 61 = .ok (.iinc 1 1, 3) := by decide +kernel
theorem dX9_init_64 : decode cX9_init 64 = .ok (.goto (-22), 3) := by decide +kernel
theorem dX9_init_67 : decode cX9_init 67 = .ok (.aload_n 0, 1) := by decide +kernel
theorem dX9_init_68 : decode cX9_init 68 = .ok (.new 30, 3) := by decide +kernel
theorem dX9_init_71 : decode cX9_init 71 = .ok (.dup, 1) := by decide +kernel
theorem dX9_init_72 : decode cX9_init 72 = .ok (.invokespecial 32, 3) := by decide +kernel
theorem dX9_init_75 : decode cX9_init 75 = .ok (.putfield 33, 3) := by decide +kernel
theorem dX9_init_78 : decode cX9_init 78 = .ok (.aload_n 0, 1) := by decide +kernel
theorem dX9_init_79 : decode cX9_init 79 = .ok (.new 37, 3) := by decide +kernel
theorem dX9_init_82 : decode cX9_init 82 = .ok (.dup, 1) := by decide +kernel
theorem dX9_init_83 : decode cX9_init 83 = .ok (.invokespecial 39, 3) := by decide +kernel
theorem dX9_init_86 : decode cX9_init 86 = .ok (.putfield 40, 3) := by decide +kernel
theorem dX9_init_89 : decode cX9_init 89 = .ok (.return_, 1) := by decide +kernel
theorem dX9_room_0 : decode cX9_room 0 = .ok (.aload_n 0, 1) := by decide +kernel
theorem dX9_room_1 : decode cX9_room 1 = .ok (.iload_n 1, 1) := by decide +kernel
theorem dX9_room_2 : decode cX9_room 2 = .ok (.invokevirtual 44, 3) := by decide +kernel
theorem dX9_room_5 : decode cX9_room 5 = .ok (.istore_n 2, 1) := by decide +kernel
theorem dX9_room_6 : decode cX9_room 6 = .ok (.iload_n 2, 1) := by decide +kernel
theorem dX9_room_7 : decode cX9_room 7 = .ok (.ifCond .eq 5, 3) := by decide +kernel
theorem dX9_room_10 : decode cX9_room 10 = .ok (.iload_n 2, 1) := by decide +kernel
theorem dX9_room_11 : decode cX9_room 11 = .ok (.ireturn, 1) := by decide +kernel
theorem dX9_room_12 : decode cX9_room 12 = .ok (.aload_n 0, 1) := by decide +kernel
theorem dX9_room_13 : decode cX9_room 13 = .ok (.getfield 25, 3) := by decide +kernel
theorem dX9_room_16 : decode cX9_room 16 = .ok (.iload_n 1, 1) := by decide +kernel
theorem dX9_room_17 : decode cX9_room 17 = .ok (.aaload, 1) := by decide +kernel
theorem dX9_room_18 : decode cX9_room 18 = .ok (.astore_n 3, 1) := by decide +kernel
theorem dX9_room_19 : decode cX9_room 19 = .ok (.aload_n 3, 1) := by decide +kernel
theorem dX9_room_20 : decode cX9_room 20 = .ok (.invokestatic 48, 3) := by decide +kernel
theorem dX9_room_23 : decode cX9_room 23 = .ok (.istore 4, 2) := by decide +kernel
theorem dX9_room_25 : decode cX9_room 25 = .ok (.iload 4, 2) := by decide +kernel
theorem dX9_room_27 : decode cX9_room 27 = .ok (.ifCond .lt 10, 3) := by decide +kernel
theorem dX9_room_30 : decode cX9_room 30 = .ok (.sipush (-1000), 3) := by decide +kernel
theorem dX9_room_33 : decode cX9_room 33 = .ok (.iload 4, 2) := by decide +kernel
theorem dX9_room_35 : decode cX9_room 35 = .ok (.isub, 1) := by decide +kernel
theorem dX9_room_36 : decode cX9_room 36 = .ok (.ireturn, 1) := by decide +kernel
theorem dX9_room_37 : decode cX9_room 37 = .ok (.aload_n 0, 1) := by decide +kernel
theorem dX9_room_38 : decode cX9_room 38 = .ok (.getfield 40, 3) := by decide +kernel
theorem dX9_room_41 : decode cX9_room 41 = .ok (.getfield 54, 3) := by decide +kernel
theorem dX9_room_44 : decode cX9_room 44 = .ok (.astore 5, 2) := by decide +kernel
theorem dX9_room_46 : decode cX9_room 46 = .ok (.aload 5, 2) := by decide +kernel
theorem dX9_room_48 : decode cX9_room 48 = .ok (.aload_n 0, 1) := by decide +kernel
theorem dX9_room_49 : decode cX9_room 49 = .ok (.getfield 10, 3) := by decide +kernel
theorem dX9_room_52 : decode cX9_room 52 = .ok (.invokevirtual 57, 3) := by decide +kernel
theorem dX9_room_55 : decode cX9_room 55 = .ok (.aload_n 3, 1) := by decide +kernel
theorem dX9_room_56 : decode cX9_room 56 = .ok (.aload 5, 2) := by decide +kernel
theorem dX9_room_58 : decode cX9_room 58 = .ok (.invokestatic 61, 3) := by decide +kernel
theorem dX9_room_61 : decode cX9_room 61 = .ok (.istore 6, 2) := by decide +kernel
theorem dX9_room_63 : decode cX9_room 63 = .ok (.iload 6, 2) := by decide +kernel
theorem dX9_room_65 : decode cX9_room 65 = .ok (.ifCond .lt 10, 3) := by decide +kernel
theorem dX9_room_68 : decode cX9_room 68 = .ok (.sipush (-2000), 3) := by decide +kernel
theorem dX9_room_71 : decode cX9_room 71 = .ok (.iload 6, 2) := by decide +kernel
theorem dX9_room_73 : decode cX9_room 73 = .ok (.isub, 1) := by decide +kernel
theorem dX9_room_74 : decode cX9_room 74 = .ok (.ireturn, 1) := by decide +kernel
theorem dX9_room_75 : decode cX9_room 75 = .ok (.aload_n 0, 1) := by decide +kernel
theorem dX9_room_76 : decode cX9_room 76 = .ok (.getfield 10, 3) := by decide +kernel
theorem dX9_room_79 : decode cX9_room 79 = .ok (.aload 5, 2) := by decide +kernel
theorem dX9_room_81 : decode cX9_room 81 = .ok (.invokevirtual 57, 3) := by decide +kernel
theorem dX9_room_84 : decode cX9_room 84 = .ok (.aload_n 3, 1) := by decide +kernel
theorem dX9_room_85 : decode cX9_room 85 = .ok (.invokestatic 65, 3) := by decide +kernel
theorem dX9_room_88 : decode cX9_room 88 = .ok (.ireturn, 1) := by decide +kernel
theorem dX9_guest_0 : decode cX9_guest 0 = .ok (.aload_n 0, 1) := by decide +kernel
theorem dX9_guest_1 : decode cX9_guest 1 = .ok (.getfield 10, 3) := by decide +kernel
theorem dX9_guest_4 : decode cX9_guest 4 = .ok (.iload_n 1, 1) := by decide +kernel
theorem dX9_guest_5 : decode cX9_guest 5 = .ok (.invokevirtual 68, 3) := by decide +kernel
theorem dX9_guest_8 : decode cX9_guest 8 = .ok (.ifCond .ne 5, 3) := by decide +kernel
theorem dX9_guest_11 : decode cX9_guest 11 = .ok (.iconst (-1), 1) := by decide +kernel
theorem dX9_guest_12 : decode cX9_guest 12 = .ok (.ireturn, 1) := by decide +kernel
theorem dX9_guest_13 : decode cX9_guest 13 = .ok (.iload_n 2, 1) := by decide +kernel
theorem dX9_guest_14 : decode cX9_guest 14 = .ok (.tableswitch 155 0 8 #[50, 60, 70, 80, 89, 98, 119, 128, 145], 50) := by decide +kernel
theorem dX9_guest_64 : decode cX9_guest 64 = .ok (.aload_n 0, 1) := by decide +kernel
theorem dX9_guest_65 : decode cX9_guest 65 = .ok (.getfield 10, 3) := by decide +kernel
theorem dX9_guest_68 : decode cX9_guest 68 = .ok (.getfield 72, 3) := by decide +kernel
theorem dX9_guest_71 : decode cX9_guest 71 = .ok (.iload_n 1, 1) := by decide +kernel
theorem dX9_guest_72 : decode cX9_guest 72 = .ok (.iaload, 1) := by decide +kernel
theorem dX9_guest_73 : decode cX9_guest 73 = .ok (.ireturn, 1) := by decide +kernel
theorem dX9_guest_74 : decode cX9_guest 74 = .ok (.aload_n 0, 1) := by decide +kernel
theorem dX9_guest_75 : decode cX9_guest 75 = .ok (.getfield 10, 3) := by decide +kernel
theorem dX9_guest_78 : decode cX9_guest 78 = .ok (.getfield 76, 3) := by decide +kernel
theorem dX9_guest_81 : decode cX9_guest 81 = .ok (.iload_n 1, 1) := by decide +kernel
theorem dX9_guest_82 : decode cX9_guest 82 = .ok (.iaload, 1) := by decide +kernel
theorem dX9_guest_83 : decode cX9_guest 83 = .ok (.ireturn, 1) := by decide +kernel
theorem dX9_guest_84 : decode cX9_guest 84 = .ok (.aload_n 0, 1) := by decide +kernel
theorem dX9_guest_85 : decode cX9_guest 85 = .ok (.getfield 10, 3) := by decide +kernel
theorem dX9_guest_88 : decode cX9_guest 88 = .ok (.getfield 79, 3) := by decide +kernel
theorem dX9_guest_91 : decode cX9_guest 91 = .ok (.iload_n 1, 1) := by decide +kernel
theorem dX9_guest_92 : decode cX9_guest 92 = .ok (.iaload, 1) := by decide +kernel
theorem dX9_guest_93 : decode cX9_guest 93 = .ok (.ireturn, 1) := by decide +kernel
theorem dX9_guest_94 : decode cX9_guest 94 = .ok (.aload_n 0, 1) := by decide +kernel
theorem dX9_guest_95 : decode cX9_guest 95 = .ok (.getfield 10, 3) := by decide +kernel
theorem dX9_guest_98 : decode cX9_guest 98 = .ok (.iload_n 1, 1) := by decide +kernel
theorem dX9_guest_99 : decode cX9_guest 99 = .ok (.invokevirtual 82, 3) := by decide +kernel
theorem dX9_guest_102 : decode cX9_guest 102 = .ok (.ireturn, 1) := by decide +kernel
theorem dX9_guest_103 : decode cX9_guest 103 = .ok (.aload_n 0, 1) := by decide +kernel
theorem dX9_guest_104 : decode cX9_guest 104 = .ok (.getfield 10, 3) := by decide +kernel
theorem dX9_guest_107 : decode cX9_guest 107 = .ok (.iload_n 1, 1) := by decide +kernel
theorem dX9_guest_108 : decode cX9_guest 108 = .ok (.invokevirtual 85, 3) := by decide +kernel
theorem dX9_guest_111 : decode cX9_guest 111 = .ok (.ireturn, 1) := by decide +kernel
theorem dX9_guest_112 : decode cX9_guest 112 = .ok (.aload_n 0, 1) := by decide +kernel
theorem dX9_guest_113 : decode cX9_guest 113 = .ok (.getfield 10, 3) := by decide +kernel
theorem dX9_guest_116 : decode cX9_guest 116 = .ok (.getfield 72, 3) := by decide +kernel
theorem dX9_guest_119 : decode cX9_guest 119 = .ok (.iload_n 1, 1) := by decide +kernel
theorem dX9_guest_120 : decode cX9_guest 120 = .ok (.iaload, 1) := by decide +kernel
theorem dX9_guest_121 : decode cX9_guest 121 = .ok (.invokestatic 88, 3) := by decide +kernel
theorem dX9_guest_124 : decode cX9_guest 124 = .ok (.ifCond .eq 7, 3) := by decide +kernel
theorem dX9_guest_127 : decode cX9_guest 127 = .ok (.iconst 1, 1) := by decide +kernel
theorem dX9_guest_128 : decode cX9_guest 128 = .ok (.goto 4, 3) := by decide +kernel
theorem dX9_guest_131 : decode cX9_guest 131 = .ok (.iconst 0, 1) := by decide +kernel
theorem dX9_guest_132 : decode cX9_guest 132 = .ok (.ireturn, 1) := by decide +kernel
theorem dX9_guest_133 : decode cX9_guest 133 = .ok (.aload_n 0, 1) := by decide +kernel
theorem dX9_guest_134 : decode cX9_guest 134 = .ok (.getfield 10, 3) := by decide +kernel
theorem dX9_guest_137 : decode cX9_guest 137 = .ok (.iload_n 1, 1) := by decide +kernel
theorem dX9_guest_138 : decode cX9_guest 138 = .ok (.invokevirtual 93, 3) := by decide +kernel
theorem dX9_guest_141 : decode cX9_guest 141 = .ok (.ireturn, 1) := by decide +kernel
theorem dX9_guest_142 : decode cX9_guest 142 = .ok (.aload_n 0, 1) := by decide +kernel
theorem dX9_guest_143 : decode cX9_guest 143 = .ok (.getfield 10, 3) := by decide +kernel
theorem dX9_guest_146 : decode cX9_guest 146 = .ok (.iload_n 1, 1) := by decide +kernel
theorem dX9_guest_147 : decode cX9_guest 147 = .ok (.invokevirtual 96, 3) := by decide +kernel
theorem dX9_guest_150 : decode cX9_guest 150 = .ok (.ifCond .eq 7, 3) := by decide +kernel
theorem dX9_guest_153 : decode cX9_guest 153 = .ok (.iconst 1, 1) := by decide +kernel
theorem dX9_guest_154 : decode cX9_guest 154 = .ok (.goto 4, 3) := by decide +kernel
theorem dX9_guest_157 : decode cX9_guest 157 = .ok (.iconst 0, 1) := by decide +kernel
theorem dX9_guest_158 : decode cX9_guest 158 = .ok (.ireturn, 1) := by decide +kernel
theorem dX9_guest_159 : decode cX9_guest 159 = .ok (.aload_n 0, 1) := by decide +kernel
theorem dX9_guest_160 : decode cX9_guest 160 = .ok (.invokevirtual 99, 3) := by decide +kernel
theorem dX9_guest_163 : decode cX9_guest 163 = .ok (.getfield 103, 3) := by decide +kernel
theorem dX9_guest_166 : decode cX9_guest 166 = .ok (.iload_n 1, 1) := by decide +kernel
theorem dX9_guest_167 : decode cX9_guest 167 = .ok (.iaload, 1) := by decide +kernel
theorem dX9_guest_168 : decode cX9_guest 168 = .ok (.ireturn, 1) := by decide +kernel
theorem dX9_guest_169 : decode cX9_guest 169 = .ok (.iconst (-1), 1) := by decide +kernel
theorem dX9_guest_170 : decode cX9_guest 170 = .ok (.ireturn, 1) := by decide +kernel
theorem dX9_comes_0 : decode cX9_comes 0 = .ok (.iload_n 1, 1) := by decide +kernel
theorem dX9_comes_1 : decode cX9_comes 1 = .ok (.invokestatic 108, 3) := by decide +kernel
theorem dX9_comes_4 : decode cX9_comes 4 = .ok (.ifCond .eq 10, 3) := by decide +kernel
theorem dX9_comes_7 : decode cX9_comes 7 = .ok (.iload_n 2, 1) := by decide +kernel
theorem dX9_comes_8 : decode cX9_comes 8 = .ok (.invokestatic 111, 3) := by decide +kernel
theorem dX9_comes_11 : decode cX9_comes 11 = .ok (.ifCond .ne 5, 3) := by decide +kernel
theorem dX9_comes_14 : decode cX9_comes 14 = .ok (.iconst (-1), 1) := by decide +kernel
theorem dX9_comes_15 : decode cX9_comes 15 = .ok (.ireturn, 1) := by decide +kernel
theorem dX9_comes_16 : decode cX9_comes 16 = .ok (.aload_n 0, 1) := by decide +kernel
theorem dX9_comes_17 : decode cX9_comes 17 = .ok (.iload_n 1, 1) := by decide +kernel
theorem dX9_comes_18 : decode cX9_comes 18 = .ok (.iconst 1, 1) := by decide +kernel
theorem dX9_comes_19 : decode cX9_comes 19 = .ok (.invokevirtual 114, 3) := by decide +kernel
theorem dX9_comes_22 : decode cX9_comes 22 = .ok (.istore_n 3, 1) := by decide +kernel
theorem dX9_comes_23 : decode cX9_comes 23 = .ok (.iload_n 3, 1) := by decide +kernel
theorem dX9_comes_24 : decode cX9_comes 24 = .ok (.ifCond .eq 5, 3) := by decide +kernel
theorem dX9_comes_27 : decode cX9_comes 27 = .ok (.iload_n 3, 1) := by decide +kernel
theorem dX9_comes_28 : decode cX9_comes 28 = .ok (.ireturn, 1) := by decide +kernel
theorem dX9_comes_29 : decode cX9_comes 29 = .ok (.aload_n 0, 1) := by decide +kernel
theorem dX9_comes_30 : decode cX9_comes 30 = .ok (.getfield 10, 3) := by decide +kernel
theorem dX9_comes_33 : decode cX9_comes 33 = .ok (.aload_n 0, 1) := by decide +kernel
theorem dX9_comes_34 : decode cX9_comes 34 = .ok (.getfield 25, 3) := by decide +kernel
theorem dX9_comes_37 : decode cX9_comes 37 = .ok (.iload_n 1, 1) := by decide +kernel
theorem dX9_comes_38 : decode cX9_comes 38 = .ok (.aaload, 1) := by decide +kernel
theorem dX9_comes_39 : decode cX9_comes 39 = .ok (.getfield 118, 3) := by decide +kernel
theorem dX9_comes_42 : decode cX9_comes 42 = .ok (.aload_n 0, 1) := by decide +kernel
theorem dX9_comes_43 : decode cX9_comes 43 = .ok (.getfield 25, 3) := by decide +kernel
theorem dX9_comes_46 : decode cX9_comes 46 = .ok (.iload_n 1, 1) := by decide +kernel
theorem dX9_comes_47 : decode cX9_comes 47 = .ok (.aaload, 1) := by decide +kernel
theorem dX9_comes_48 : decode cX9_comes 48 = .ok (.getfield 122, 3) := by decide +kernel
theorem dX9_comes_51 : decode cX9_comes 51 = .ok (.iload_n 2, 1) := by decide +kernel
theorem dX9_comes_52 : decode cX9_comes 52 = .ok (.invokevirtual 125, 3) := by decide +kernel
theorem dX9_comes_55 : decode cX9_comes 55 = .ok (.ireturn, 1) := by decide +kernel
theorem dX9_leaves_0 : decode cX9_leaves 0 = .ok (.aload_n 0, 1) := by decide +kernel
theorem dX9_leaves_1 : decode cX9_leaves 1 = .ok (.getfield 10, 3) := by decide +kernel
theorem dX9_leaves_4 : decode cX9_leaves 4 = .ok (.iload_n 1, 1) := by decide +kernel
theorem dX9_leaves_5 : decode cX9_leaves 5 = .ok (.invokevirtual 68, 3) := by decide +kernel
theorem dX9_leaves_8 : decode cX9_leaves 8 = .ok (.ifCond .ne 5, 3) := by decide +kernel
theorem dX9_leaves_11 : decode cX9_leaves 11 = .ok (.iconst (-1), 1) := by decide +kernel
theorem dX9_leaves_12 : decode cX9_leaves 12 = .ok (.ireturn, 1) := by decide +kernel
theorem dX9_leaves_13 : decode cX9_leaves 13 = .ok (.aload_n 0, 1) := by decide +kernel
theorem dX9_leaves_14 : decode cX9_leaves 14 = .ok (.getfield 10, 3) := by decide +kernel
theorem dX9_leaves_17 : decode cX9_leaves 17 = .ok (.iload_n 1, 1) := by decide +kernel
theorem dX9_leaves_18 : decode cX9_leaves 18 = .ok (.invokevirtual 129, 3) := by decide +kernel
theorem dX9_leaves_21 : decode cX9_leaves 21 = .ok (.aload_n 0, 1) := by decide +kernel
theorem dX9_leaves_22 : decode cX9_leaves 22 = .ok (.getfield 10, 3) := by decide +kernel
theorem dX9_leaves_25 : decode cX9_leaves 25 = .ok (.getfield 133, 3) := by decide +kernel
theorem dX9_leaves_28 : decode cX9_leaves 28 = .ok (.ireturn, 1) := by decide +kernel
theorem dX9_goes_0 : decode cX9_goes 0 = .ok (.aload_n 0, 1) := by decide +kernel
theorem dX9_goes_1 : decode cX9_goes 1 = .ok (.getfield 10, 3) := by decide +kernel
theorem dX9_goes_4 : decode cX9_goes 4 = .ok (.iload_n 1, 1) := by decide +kernel
theorem dX9_goes_5 : decode cX9_goes 5 = .ok (.invokevirtual 68, 3) := by decide +kernel
theorem dX9_goes_8 : decode cX9_goes 8 = .ok (.ifCond .eq 10, 3) := by decide +kernel
theorem dX9_goes_11 : decode cX9_goes 11 = .ok (.iload_n 2, 1) := by decide +kernel
theorem dX9_goes_12 : decode cX9_goes 12 = .ok (.invokestatic 111, 3) := by decide +kernel
theorem dX9_goes_15 : decode cX9_goes 15 = .ok (.ifCond .ne 5, 3) := by decide +kernel
theorem dX9_goes_18 : decode cX9_goes 18 = .ok (.iconst (-1), 1) := by decide +kernel
theorem dX9_goes_19 : decode cX9_goes 19 = .ok (.ireturn, 1) := by decide +kernel
theorem dX9_goes_20 : decode cX9_goes 20 = .ok (.aload_n 0, 1) := by decide +kernel
theorem dX9_goes_21 : decode cX9_goes 21 = .ok (.getfield 10, 3) := by decide +kernel
theorem dX9_goes_24 : decode cX9_goes 24 = .ok (.getfield 79, 3) := by decide +kernel
theorem dX9_goes_27 : decode cX9_goes 27 = .ok (.iload_n 1, 1) := by decide +kernel
theorem dX9_goes_28 : decode cX9_goes 28 = .ok (.iaload, 1) := by decide +kernel
theorem dX9_goes_29 : decode cX9_goes 29 = .ok (.istore_n 3, 1) := by decide +kernel
theorem dX9_goes_30 : decode cX9_goes 30 = .ok (.aload_n 0, 1) := by decide +kernel
theorem dX9_goes_31 : decode cX9_goes 31 = .ok (.getfield 10, 3) := by decide +kernel
theorem dX9_goes_34 : decode cX9_goes 34 = .ok (.getfield 79, 3) := by decide +kernel
theorem dX9_goes_37 : decode cX9_goes 37 = .ok (.iload_n 1, 1) := by decide +kernel
theorem dX9_goes_38 : decode cX9_goes 38 = .ok (.iload_n 2, 1) := by decide +kernel
theorem dX9_goes_39 : decode cX9_goes 39 = .ok (.iastore, 1) := by decide +kernel
theorem dX9_goes_40 : decode cX9_goes 40 = .ok (.iload_n 3, 1) := by decide +kernel
theorem dX9_goes_41 : decode cX9_goes 41 = .ok (.ireturn, 1) := by decide +kernel
theorem dX9_hook_0 : decode cX9_hook 0 = .ok (.aload_n 0, 1) := by decide +kernel
theorem dX9_hook_1 : decode cX9_hook 1 = .ok (.getfield 10, 3) := by decide +kernel
theorem dX9_hook_4 : decode cX9_hook 4 = .ok (.iload_n 1, 1) := by decide +kernel
theorem dX9_hook_5 : decode cX9_hook 5 = .ok (.invokevirtual 68, 3) := by decide +kernel
theorem dX9_hook_8 : decode cX9_hook 8 = .ok (.ifCond .eq 14, 3) := by decide +kernel
theorem dX9_hook_11 : decode cX9_hook 11 = .ok (.aload_n 0, 1) := by decide +kernel
theorem dX9_hook_12 : decode cX9_hook 12 = .ok (.getfield 10, 3) := by decide +kernel
theorem dX9_hook_15 : decode cX9_hook 15 = .ok (.iload_n 1, 1) := by decide +kernel
theorem dX9_hook_16 : decode cX9_hook 16 = .ok (.invokevirtual 136, 3) := by decide +kernel
theorem dX9_hook_19 : decode cX9_hook 19 = .ok (.goto 4, 3) := by decide +kernel
theorem dX9_hook_22 : decode cX9_hook 22 = .ok (.iconst (-1), 1) := by decide +kernel
theorem dX9_hook_23 : decode cX9_hook 23 = .ok (.ireturn, 1) := by decide +kernel
theorem dX9_set_0 : decode cX9_set 0 = .ok (.iload_n 1, 1) := by decide +kernel
theorem dX9_set_1 : decode cX9_set 1 = .ok (.iload_n 2, 1) := by decide +kernel
theorem dX9_set_2 : decode cX9_set 2 = .ok (.invokestatic 139, 3) := by decide +kernel
theorem dX9_set_5 : decode cX9_set 5 = .ok (.ifCond .ne 5, 3) := by decide +kernel
theorem dX9_set_8 : decode cX9_set 8 = .ok (.iconst (-1), 1) := by decide +kernel
theorem dX9_set_9 : decode cX9_set 9 = .ok (.ireturn, 1) := by decide +kernel
theorem dX9_set_10 : decode cX9_set 10 = .ok (.aload_n 0, 1) := by decide +kernel
theorem dX9_set_11 : decode cX9_set 11 = .ok (.getfield 10, 3) := by decide +kernel
theorem dX9_set_14 : decode cX9_set 14 = .ok (.getfield 143, 3) := by decide +kernel
theorem dX9_set_17 : decode cX9_set 17 = .ok (.iload_n 1, 1) := by decide +kernel
theorem dX9_set_18 : decode cX9_set 18 = .ok (.iaload, 1) := by decide +kernel
theorem dX9_set_19 : decode cX9_set 19 = .ok (.istore_n 3, 1) := by decide +kernel
theorem dX9_set_20 : decode cX9_set 20 = .ok (.aload_n 0, 1) := by decide +kernel
theorem dX9_set_21 : decode cX9_set 21 = .ok (.getfield 10, 3) := by decide +kernel
theorem dX9_set_24 : decode cX9_set 24 = .ok (.getfield 143, 3) := by decide +kernel
theorem dX9_set_27 : decode cX9_set 27 = .ok (.iload_n 1, 1) := by decide +kernel
theorem dX9_set_28 : decode cX9_set 28 = .ok (.iload_n 2, 1) := by decide +kernel
theorem dX9_set_29 : decode cX9_set 29 = .ok (.iastore, 1) := by decide +kernel
theorem dX9_set_30 : decode cX9_set 30 = .ok (.iload_n 3, 1) := by decide +kernel
theorem dX9_set_31 : decode cX9_set 31 = .ok (.ireturn, 1) := by decide +kernel
theorem dX9_rule_0 : decode cX9_rule 0 = .ok (.aload_n 0, 1) := by decide +kernel
theorem dX9_rule_1 : decode cX9_rule 1 = .ok (.iload_n 1, 1) := by decide +kernel
theorem dX9_rule_2 : decode cX9_rule 2 = .ok (.invokevirtual 44, 3) := by decide +kernel
theorem dX9_rule_5 : decode cX9_rule 5 = .ok (.istore_n 2, 1) := by decide +kernel
theorem dX9_rule_6 : decode cX9_rule 6 = .ok (.iload_n 2, 1) := by decide +kernel
theorem dX9_rule_7 : decode cX9_rule 7 = .ok (.ifCond .eq 5, 3) := by decide +kernel
theorem dX9_rule_10 : decode cX9_rule 10 = .ok (.iload_n 2, 1) := by decide +kernel
theorem dX9_rule_11 : decode cX9_rule 11 = .ok (.ireturn, 1) := by decide +kernel
theorem dX9_rule_12 : decode cX9_rule 12 = .ok (.aload_n 0, 1) := by decide +kernel
theorem dX9_rule_13 : decode cX9_rule 13 = .ok (.getfield 25, 3) := by decide +kernel
theorem dX9_rule_16 : decode cX9_rule 16 = .ok (.iload_n 1, 1) := by decide +kernel
theorem dX9_rule_17 : decode cX9_rule 17 = .ok (.aaload, 1) := by decide +kernel
theorem dX9_rule_18 : decode cX9_rule 18 = .ok (.astore_n 3, 1) := by decide +kernel
theorem dX9_rule_19 : decode cX9_rule 19 = .ok (.aload_n 3, 1) := by decide +kernel
theorem dX9_rule_20 : decode cX9_rule 20 = .ok (.getfield 146, 3) := by decide +kernel
theorem dX9_rule_23 : decode cX9_rule 23 = .ok (.bipush 6, 2) := by decide +kernel
theorem dX9_rule_25 : decode cX9_rule 25 = .ok (.if_icmp .le 6, 3) := by decide +kernel
theorem dX9_rule_28 : decode cX9_rule 28 = .ok (.bipush (-13), 2) := by decide +kernel
theorem dX9_rule_30 : decode cX9_rule 30 = .ok (.ireturn, 1) := by decide +kernel
theorem dX9_rule_31 : decode cX9_rule 31 = .ok (.iconst 0, 1) := by decide +kernel
theorem dX9_rule_32 : decode cX9_rule 32 = .ok (.istore 4, 2) := by decide +kernel
theorem dX9_rule_34 : decode cX9_rule 34 = .ok (.iload 4, 2) := by decide +kernel
theorem dX9_rule_36 : decode cX9_rule 36 = .ok (.aload_n 3, 1) := by decide +kernel
theorem dX9_rule_37 : decode cX9_rule 37 = .ok (.getfield 146, 3) := by decide +kernel
theorem dX9_rule_40 : decode cX9_rule 40 = .ok (.if_icmp .ge 25, 3) := by decide +kernel
theorem dX9_rule_43 : decode cX9_rule 43 = .ok (.aload_n 3, 1) := by decide +kernel
theorem dX9_rule_44 : decode cX9_rule 44 = .ok (.getfield 149, 3) := by decide +kernel
theorem dX9_rule_47 : decode cX9_rule 47 = .ok (.iload 4, 2) := by decide +kernel
theorem dX9_rule_49 : decode cX9_rule 49 = .ok (.iaload, 1) := by decide +kernel
theorem dX9_rule_50 : decode cX9_rule 50 = .ok (.invokestatic 152, 3) := by decide +kernel
theorem dX9_rule_53 : decode cX9_rule 53 = .ok (.ifCond .ne 6, 3) := by decide +kernel
theorem dX9_rule_56 : decode cX9_rule 56 = .ok (.bipush (-13), 2) := by decide +kernel
theorem dX9_rule_58 : decode cX9_rule 58 = .ok (.ireturn, 1) := by decide +kernel
theorem dX9_rule_59 : decode cX9_rule 59 = .ok (.iinc 4 1, 3) := by decide +kernel
theorem dX9_rule_62 : decode cX9_rule 62 = .ok (.goto (-28), 3) := by decide +kernel
theorem dX9_rule_65 : decode cX9_rule 65 = .ok (.aload_n 0, 1) := by decide +kernel
theorem dX9_rule_66 : decode cX9_rule 66 = .ok (.getfield 10, 3) := by decide +kernel
theorem dX9_rule_69 : decode cX9_rule 69 = .ok (.aload_n 3, 1) := by decide +kernel
theorem dX9_rule_70 : decode cX9_rule 70 = .ok (.iconst 0, 1) := by decide +kernel
theorem dX9_rule_71 : decode cX9_rule 71 = .ok (.aload_n 3, 1) := by decide +kernel
theorem dX9_rule_72 : decode cX9_rule 72 = .ok (.getfield 146, 3) := by decide +kernel
theorem dX9_rule_75 : decode cX9_rule 75 = .ok (.invokevirtual 155, 3) := by decide +kernel
theorem dX9_rule_78 : decode cX9_rule 78 = .ok (.aload_n 0, 1) := by decide +kernel
theorem dX9_rule_79 : decode cX9_rule 79 = .ok (.getfield 10, 3) := by decide +kernel
theorem dX9_rule_82 : decode cX9_rule 82 = .ok (.getfield 159, 3) := by decide +kernel
theorem dX9_rule_85 : decode cX9_rule 85 = .ok (.ireturn, 1) := by decide +kernel
theorem dX9_heap_0 : decode cX9_heap 0 = .ok (.iload_n 1, 1) := by decide +kernel
theorem dX9_heap_1 : decode cX9_heap 1 = .ok (.invokestatic 162, 3) := by decide +kernel
theorem dX9_heap_4 : decode cX9_heap 4 = .ok (.ifCond .eq 8, 3) := by decide +kernel
theorem dX9_heap_7 : decode cX9_heap 7 = .ok (.iload_n 2, 1) := by decide +kernel
theorem dX9_heap_8 : decode cX9_heap 8 = .ok (.iconst (-1), 1) := by decide +kernel
theorem dX9_heap_9 : decode cX9_heap 9 = .ok (.if_icmp .ge 5, 3) := by decide +kernel
theorem dX9_heap_12 : decode cX9_heap 12 = .ok (.iconst (-1), 1) := by decide +kernel
theorem dX9_heap_13 : decode cX9_heap 13 = .ok (.ireturn, 1) := by decide +kernel
theorem dX9_heap_14 : decode cX9_heap 14 = .ok (.aload_n 0, 1) := by decide +kernel
theorem dX9_heap_15 : decode cX9_heap 15 = .ok (.invokevirtual 99, 3) := by decide +kernel
theorem dX9_heap_18 : decode cX9_heap 18 = .ok (.astore_n 3, 1) := by decide +kernel
theorem dX9_heap_19 : decode cX9_heap 19 = .ok (.iload_n 2, 1) := by decide +kernel
theorem dX9_heap_20 : decode cX9_heap 20 = .ok (.iconst (-1), 1) := by decide +kernel
theorem dX9_heap_21 : decode cX9_heap 21 = .ok (.if_icmp .ne 12, 3) := by decide +kernel
theorem dX9_heap_24 : decode cX9_heap 24 = .ok (.aload_n 3, 1) := by decide +kernel
theorem dX9_heap_25 : decode cX9_heap 25 = .ok (.getfield 165, 3) := by decide +kernel
theorem dX9_heap_28 : decode cX9_heap 28 = .ok (.iload_n 1, 1) := by decide +kernel
theorem dX9_heap_29 : decode cX9_heap 29 = .ok (.iaload, 1) := by decide +kernel
theorem dX9_heap_30 : decode cX9_heap 30 = .ok (.goto 9, 3) := by decide +kernel
theorem dX9_heap_33 : decode cX9_heap 33 = .ok (.aload_n 3, 1) := by decide +kernel
theorem dX9_heap_34 : decode cX9_heap 34 = .ok (.iload_n 1, 1) := by decide +kernel
theorem dX9_heap_35 : decode cX9_heap 35 = .ok (.iload_n 2, 1) := by decide +kernel
theorem dX9_heap_36 : decode cX9_heap 36 = .ok (.invokevirtual 168, 3) := by decide +kernel
theorem dX9_heap_39 : decode cX9_heap 39 = .ok (.ireturn, 1) := by decide +kernel
theorem dX9_above_0 : decode cX9_above 0 = .ok (.aload_n 0, 1) := by decide +kernel
theorem dX9_above_1 : decode cX9_above 1 = .ok (.getfield 10, 3) := by decide +kernel
theorem dX9_above_4 : decode cX9_above 4 = .ok (.iload_n 1, 1) := by decide +kernel
theorem dX9_above_5 : decode cX9_above 5 = .ok (.invokevirtual 68, 3) := by decide +kernel
theorem dX9_above_8 : decode cX9_above 8 = .ok (.ifCond .eq 14, 3) := by decide +kernel
theorem dX9_above_11 : decode cX9_above 11 = .ok (.aload_n 0, 1) := by decide +kernel
theorem dX9_above_12 : decode cX9_above 12 = .ok (.invokevirtual 99, 3) := by decide +kernel
theorem dX9_above_15 : decode cX9_above 15 = .ok (.iload_n 1, 1) := by decide +kernel
theorem dX9_above_16 : decode cX9_above 16 = .ok (.invokevirtual 171, 3) := by decide +kernel
theorem dX9_above_19 : decode cX9_above 19 = .ok (.goto 4, 3) := by decide +kernel
theorem dX9_above_22 : decode cX9_above 22 = .ok (.iconst (-1), 1) := by decide +kernel
theorem dX9_above_23 : decode cX9_above 23 = .ok (.ireturn, 1) := by decide +kernel
theorem dX9_fate_0 : decode cX9_fate 0 = .ok (.aload_n 0, 1) := by decide +kernel
theorem dX9_fate_1 : decode cX9_fate 1 = .ok (.getfield 10, 3) := by decide +kernel
theorem dX9_fate_4 : decode cX9_fate 4 = .ok (.iload_n 1, 1) := by decide +kernel
theorem dX9_fate_5 : decode cX9_fate 5 = .ok (.invokevirtual 68, 3) := by decide +kernel
theorem dX9_fate_8 : decode cX9_fate 8 = .ok (.ifCond .ne 5, 3) := by decide +kernel
theorem dX9_fate_11 : decode cX9_fate 11 = .ok (.iconst (-1), 1) := by decide +kernel
theorem dX9_fate_12 : decode cX9_fate 12 = .ok (.ireturn, 1) := by decide +kernel
theorem dX9_fate_13 : decode cX9_fate 13 = .ok (.aload_n 0, 1) := by decide +kernel
theorem dX9_fate_14 : decode cX9_fate 14 = .ok (.getfield 33, 3) := by decide +kernel
theorem dX9_fate_17 : decode cX9_fate 17 = .ok (.aload_n 0, 1) := by decide +kernel
theorem dX9_fate_18 : decode cX9_fate 18 = .ok (.getfield 10, 3) := by decide +kernel
theorem dX9_fate_21 : decode cX9_fate 21 = .ok (.invokevirtual 174, 3) := by decide +kernel
theorem dX9_fate_24 : decode cX9_fate 24 = .ok (.pop, 1) := by decide +kernel
theorem dX9_fate_25 : decode cX9_fate 25 = .ok (.iload_n 2, 1) := by decide +kernel
theorem dX9_fate_26 : decode cX9_fate 26 = .ok (.tableswitch 97 0 5 #[38, 48, 58, 68, 78, 87], 38) := by decide +kernel
theorem dX9_fate_64 : decode cX9_fate 64 = .ok (.aload_n 0, 1) := by decide +kernel
theorem dX9_fate_65 : decode cX9_fate 65 = .ok (.getfield 33, 3) := by decide +kernel
theorem dX9_fate_68 : decode cX9_fate 68 = .ok (.getfield 178, 3) := by decide +kernel
theorem dX9_fate_71 : decode cX9_fate 71 = .ok (.iload_n 1, 1) := by decide +kernel
theorem dX9_fate_72 : decode cX9_fate 72 = .ok (.iaload, 1) := by decide +kernel
theorem dX9_fate_73 : decode cX9_fate 73 = .ok (.ireturn, 1) := by decide +kernel
theorem dX9_fate_74 : decode cX9_fate 74 = .ok (.aload_n 0, 1) := by decide +kernel
theorem dX9_fate_75 : decode cX9_fate 75 = .ok (.getfield 33, 3) := by decide +kernel
theorem dX9_fate_78 : decode cX9_fate 78 = .ok (.getfield 181, 3) := by decide +kernel
theorem dX9_fate_81 : decode cX9_fate 81 = .ok (.iload_n 1, 1) := by decide +kernel
theorem dX9_fate_82 : decode cX9_fate 82 = .ok (.iaload, 1) := by decide +kernel
theorem dX9_fate_83 : decode cX9_fate 83 = .ok (.ireturn, 1) := by decide +kernel
theorem dX9_fate_84 : decode cX9_fate 84 = .ok (.aload_n 0, 1) := by decide +kernel
theorem dX9_fate_85 : decode cX9_fate 85 = .ok (.getfield 33, 3) := by decide +kernel
theorem dX9_fate_88 : decode cX9_fate 88 = .ok (.getfield 184, 3) := by decide +kernel
theorem dX9_fate_91 : decode cX9_fate 91 = .ok (.iload_n 1, 1) := by decide +kernel
theorem dX9_fate_92 : decode cX9_fate 92 = .ok (.iaload, 1) := by decide +kernel
theorem dX9_fate_93 : decode cX9_fate 93 = .ok (.ireturn, 1) := by decide +kernel
theorem dX9_fate_94 : decode cX9_fate 94 = .ok (.aload_n 0, 1) := by decide +kernel
theorem dX9_fate_95 : decode cX9_fate 95 = .ok (.getfield 33, 3) := by decide +kernel
theorem dX9_fate_98 : decode cX9_fate 98 = .ok (.getfield 187, 3) := by decide +kernel
theorem dX9_fate_101 : decode cX9_fate 101 = .ok (.iload_n 1, 1) := by decide +kernel
theorem dX9_fate_102 : decode cX9_fate 102 = .ok (.iaload, 1) := by decide +kernel
theorem dX9_fate_103 : decode cX9_fate 103 = .ok (.ireturn, 1) := by decide +kernel
theorem dX9_fate_104 : decode cX9_fate 104 = .ok (.aload_n 0, 1) := by decide +kernel
theorem dX9_fate_105 : decode cX9_fate 105 = .ok (.getfield 33, 3) := by decide +kernel
theorem dX9_fate_108 : decode cX9_fate 108 = .ok (.iload_n 1, 1) := by decide +kernel
theorem dX9_fate_109 : decode cX9_fate 109 = .ok (.invokevirtual 190, 3) := by decide +kernel
theorem dX9_fate_112 : decode cX9_fate 112 = .ok (.ireturn, 1) := by decide +kernel
theorem dX9_fate_113 : decode cX9_fate 113 = .ok (.aload_n 0, 1) := by decide +kernel
theorem dX9_fate_114 : decode cX9_fate 114 = .ok (.getfield 33, 3) := by decide +kernel
theorem dX9_fate_117 : decode cX9_fate 117 = .ok (.getfield 193, 3) := by decide +kernel
theorem dX9_fate_120 : decode cX9_fate 120 = .ok (.iload_n 1, 1) := by decide +kernel
theorem dX9_fate_121 : decode cX9_fate 121 = .ok (.iaload, 1) := by decide +kernel
theorem dX9_fate_122 : decode cX9_fate 122 = .ok (.ireturn, 1) := by decide +kernel
theorem dX9_fate_123 : decode cX9_fate 123 = .ok (.iconst (-1), 1) := by decide +kernel
theorem dX9_fate_124 : decode cX9_fate 124 = .ok (.ireturn, 1) := by decide +kernel
theorem dX9_sums_0 : decode cX9_sums 0 = .ok (.aload_n 0, 1) := by decide +kernel
theorem dX9_sums_1 : decode cX9_sums 1 = .ok (.getfield 33, 3) := by decide +kernel
theorem dX9_sums_4 : decode cX9_sums 4 = .ok (.aload_n 0, 1) := by decide +kernel
theorem dX9_sums_5 : decode cX9_sums 5 = .ok (.getfield 10, 3) := by decide +kernel
theorem dX9_sums_8 : decode cX9_sums 8 = .ok (.invokevirtual 174, 3) := by decide +kernel
theorem dX9_sums_11 : decode cX9_sums 11 = .ok (.pop, 1) := by decide +kernel
theorem dX9_sums_12 : decode cX9_sums 12 = .ok (.iload_n 1, 1) := by decide +kernel
theorem dX9_sums_13 : decode cX9_sums 13 = .ok (.tableswitch 90 0 5 #[39, 47, 55, 63, 71, 79], 39) := by decide +kernel
theorem dX9_sums_52 : decode cX9_sums 52 = .ok (.aload_n 0, 1) := by decide +kernel
theorem dX9_sums_53 : decode cX9_sums 53 = .ok (.getfield 33, 3) := by decide +kernel
theorem dX9_sums_56 : decode cX9_sums 56 = .ok (.getfield 196, 3) := by decide +kernel
theorem dX9_sums_59 : decode cX9_sums 59 = .ok (.ireturn, 1) := by decide +kernel
theorem dX9_sums_60 : decode cX9_sums 60 = .ok (.aload_n 0, 1) := by decide +kernel
theorem dX9_sums_61 : decode cX9_sums 61 = .ok (.getfield 33, 3) := by decide +kernel
theorem dX9_sums_64 : decode cX9_sums 64 = .ok (.invokevirtual 199, 3) := by decide +kernel
theorem dX9_sums_67 : decode cX9_sums 67 = .ok (.ireturn, 1) := by decide +kernel
theorem dX9_sums_68 : decode cX9_sums 68 = .ok (.aload_n 0, 1) := by decide +kernel
theorem dX9_sums_69 : decode cX9_sums 69 = .ok (.getfield 33, 3) := by decide +kernel
theorem dX9_sums_72 : decode cX9_sums 72 = .ok (.invokevirtual 203, 3) := by decide +kernel
theorem dX9_sums_75 : decode cX9_sums 75 = .ok (.ireturn, 1) := by decide +kernel
theorem dX9_sums_76 : decode cX9_sums 76 = .ok (.aload_n 0, 1) := by decide +kernel
theorem dX9_sums_77 : decode cX9_sums 77 = .ok (.getfield 33, 3) := by decide +kernel
theorem dX9_sums_80 : decode cX9_sums 80 = .ok (.invokevirtual 206, 3) := by decide +kernel
theorem dX9_sums_83 : decode cX9_sums 83 = .ok (.ireturn, 1) := by decide +kernel
theorem dX9_sums_84 : decode cX9_sums 84 = .ok (.aload_n 0, 1) := by decide +kernel
theorem dX9_sums_85 : decode cX9_sums 85 = .ok (.getfield 33, 3) := by decide +kernel
theorem dX9_sums_88 : decode cX9_sums 88 = .ok (.invokevirtual 209, 3) := by decide +kernel
theorem dX9_sums_91 : decode cX9_sums 91 = .ok (.ireturn, 1) := by decide +kernel
theorem dX9_sums_92 : decode cX9_sums 92 = .ok (.aload_n 0, 1) := by decide +kernel
theorem dX9_sums_93 : decode cX9_sums 93 = .ok (.getfield 33, 3) := by decide +kernel
theorem dX9_sums_96 : decode cX9_sums 96 = .ok (.invokevirtual 212, 3) := by decide +kernel
theorem dX9_sums_99 : decode cX9_sums 99 = .ok (.invokestatic 215, 3) := by decide +kernel
theorem dX9_sums_102 : decode cX9_sums 102 = .ok (.ireturn, 1) := by decide +kernel
theorem dX9_sums_103 : decode cX9_sums 103 = .ok (.iconst (-1), 1) := by decide +kernel
theorem dX9_sums_104 : decode cX9_sums 104 = .ok (.ireturn, 1) := by decide +kernel
theorem dX9_missing_0 : decode cX9_missing 0 = .ok (.aload_n 0, 1) := by decide +kernel
theorem dX9_missing_1 : decode cX9_missing 1 = .ok (.getfield 33, 3) := by decide +kernel
theorem dX9_missing_4 : decode cX9_missing 4 = .ok (.aload_n 0, 1) := by decide +kernel
theorem dX9_missing_5 : decode cX9_missing 5 = .ok (.getfield 10, 3) := by decide +kernel
theorem dX9_missing_8 : decode cX9_missing 8 = .ok (.invokevirtual 174, 3) := by decide +kernel
theorem dX9_missing_11 : decode cX9_missing 11 = .ok (.pop, 1) := by decide +kernel
theorem dX9_missing_12 : decode cX9_missing 12 = .ok (.aload_n 0, 1) := by decide +kernel
theorem dX9_missing_13 : decode cX9_missing 13 = .ok (.getfield 33, 3) := by decide +kernel
theorem dX9_missing_16 : decode cX9_missing 16 = .ok (.invokevirtual 212, 3) := by decide +kernel
theorem dX9_missing_19 : decode cX9_missing 19 = .ok (.ireturn, 1) := by decide +kernel
theorem dX9_then_0 : decode cX9_then 0 = .ok (.iload_n 1, 1) := by decide +kernel
theorem dX9_then_1 : decode cX9_then 1 = .ok (.ifCond .lt 25, 3) := by decide +kernel
theorem dX9_then_4 : decode cX9_then 4 = .ok (.iload_n 1, 1) := by decide +kernel
theorem dX9_then_5 : decode cX9_then 5 = .ok (.aload_n 0, 1) := by decide +kernel
theorem dX9_then_6 : decode cX9_then 6 = .ok (.getfield 10, 3) := by decide +kernel
theorem dX9_then_9 : decode cX9_then 9 = .ok (.getfield 133, 3) := by decide +kernel
theorem dX9_then_12 : decode cX9_then 12 = .ok (.if_icmp .gt 14, 3) := by decide +kernel
theorem dX9_then_15 : decode cX9_then 15 = .ok (.iload_n 2, 1) := by decide +kernel
theorem dX9_then_16 : decode cX9_then 16 = .ok (.invokestatic 162, 3) := by decide +kernel
theorem dX9_then_19 : decode cX9_then 19 = .ok (.ifCond .eq 7, 3) := by decide +kernel
theorem dX9_then_22 : decode cX9_then 22 = .ok (.iload_n 3, 1) := by decide +kernel
theorem dX9_then_23 : decode cX9_then 23 = .ok (.ifCond .ge 5, 3) := by decide +kernel
theorem dX9_then_26 : decode cX9_then 26 = .ok (.iconst (-1), 1) := by decide +kernel
theorem dX9_then_27 : decode cX9_then 27 = .ok (.ireturn, 1) := by decide +kernel
theorem dX9_then_28 : decode cX9_then 28 = .ok (.aload_n 0, 1) := by decide +kernel
theorem dX9_then_29 : decode cX9_then 29 = .ok (.getfield 33, 3) := by decide +kernel
theorem dX9_then_32 : decode cX9_then 32 = .ok (.aload_n 0, 1) := by decide +kernel
theorem dX9_then_33 : decode cX9_then 33 = .ok (.getfield 10, 3) := by decide +kernel
theorem dX9_then_36 : decode cX9_then 36 = .ok (.invokevirtual 220, 3) := by decide +kernel
theorem dX9_then_39 : decode cX9_then 39 = .ok (.aload_n 0, 1) := by decide +kernel
theorem dX9_then_40 : decode cX9_then 40 = .ok (.getfield 33, 3) := by decide +kernel
theorem dX9_then_43 : decode cX9_then 43 = .ok (.getfield 223, 3) := by decide +kernel
theorem dX9_then_46 : decode cX9_then 46 = .ok (.aload_n 0, 1) := by decide +kernel
theorem dX9_then_47 : decode cX9_then 47 = .ok (.getfield 10, 3) := by decide +kernel
theorem dX9_then_50 : decode cX9_then 50 = .ok (.invokevirtual 227, 3) := by decide +kernel
theorem dX9_then_53 : decode cX9_then 53 = .ok (.aload_n 0, 1) := by decide +kernel
theorem dX9_then_54 : decode cX9_then 54 = .ok (.getfield 33, 3) := by decide +kernel
theorem dX9_then_57 : decode cX9_then 57 = .ok (.iload_n 1, 1) := by decide +kernel
theorem dX9_then_58 : decode cX9_then 58 = .ok (.bipush (-4), 2) := by decide +kernel
theorem dX9_then_60 : decode cX9_then 60 = .ok (.invokevirtual 232, 3) := by decide +kernel
theorem dX9_then_63 : decode cX9_then 63 = .ok (.pop, 1) := by decide +kernel
theorem dX9_then_64 : decode cX9_then 64 = .ok (.aload_n 0, 1) := by decide +kernel
theorem dX9_then_65 : decode cX9_then 65 = .ok (.getfield 33, 3) := by decide +kernel
theorem dX9_then_68 : decode cX9_then 68 = .ok (.getfield 235, 3) := by decide +kernel
theorem dX9_then_71 : decode cX9_then 71 = .ok (.iload_n 2, 1) := by decide +kernel
theorem dX9_then_72 : decode cX9_then 72 = .ok (.iload_n 3, 1) := by decide +kernel
theorem dX9_then_73 : decode cX9_then 73 = .ok (.invokevirtual 168, 3) := by decide +kernel
theorem dX9_then_76 : decode cX9_then 76 = .ok (.ireturn, 1) := by decide +kernel
theorem dX9_order_0 : decode cX9_order 0 = .ok (.iload_n 1, 1) := by decide +kernel
theorem dX9_order_1 : decode cX9_order 1 = .ok (.ifCond .ge 5, 3) := by decide +kernel
theorem dX9_order_4 : decode cX9_order 4 = .ok (.iconst (-1), 1) := by decide +kernel
theorem dX9_order_5 : decode cX9_order 5 = .ok (.ireturn, 1) := by decide +kernel
theorem dX9_order_6 : decode cX9_order 6 = .ok (.aload_n 0, 1) := by decide +kernel
theorem dX9_order_7 : decode cX9_order 7 = .ok (.getfield 33, 3) := by decide +kernel
theorem dX9_order_10 : decode cX9_order 10 = .ok (.aload_n 0, 1) := by decide +kernel
theorem dX9_order_11 : decode cX9_order 11 = .ok (.getfield 10, 3) := by decide +kernel
theorem dX9_order_14 : decode cX9_order 14 = .ok (.invokevirtual 220, 3) := by decide +kernel
theorem dX9_order_17 : decode cX9_order 17 = .ok (.iload_n 1, 1) := by decide +kernel
theorem dX9_order_18 : decode cX9_order 18 = .ok (.aload_n 0, 1) := by decide +kernel
theorem dX9_order_19 : decode cX9_order 19 = .ok (.getfield 10, 3) := by decide +kernel
theorem dX9_order_22 : decode cX9_order 22 = .ok (.getfield 133, 3) := by decide +kernel
theorem dX9_order_25 : decode cX9_order 25 = .ok (.if_icmp .ge 15, 3) := by decide +kernel
theorem dX9_order_28 : decode cX9_order 28 = .ok (.aload_n 0, 1) := by decide +kernel
theorem dX9_order_29 : decode cX9_order 29 = .ok (.getfield 33, 3) := by decide +kernel
theorem dX9_order_32 : decode cX9_order 32 = .ok (.getfield 239, 3) := by decide +kernel
theorem dX9_order_35 : decode cX9_order 35 = .ok (.iload_n 1, 1) := by decide +kernel
theorem dX9_order_36 : decode cX9_order 36 = .ok (.iaload, 1) := by decide +kernel
theorem dX9_order_37 : decode cX9_order 37 = .ok (.goto 5, 3) := by decide +kernel
theorem dX9_order_40 : decode cX9_order 40 = .ok (.bipush (-4), 2) := by decide +kernel
theorem dX9_order_42 : decode cX9_order 42 = .ok (.ireturn, 1) := by decide +kernel
theorem dX9_fewest_0 : decode cX9_fewest 0 = .ok (.aload_n 0, 1) := by decide +kernel
theorem dX9_fewest_1 : decode cX9_fewest 1 = .ok (.getfield 40, 3) := by decide +kernel
theorem dX9_fewest_4 : decode cX9_fewest 4 = .ok (.aload_n 0, 1) := by decide +kernel
theorem dX9_fewest_5 : decode cX9_fewest 5 = .ok (.getfield 10, 3) := by decide +kernel
theorem dX9_fewest_8 : decode cX9_fewest 8 = .ok (.invokevirtual 242, 3) := by decide +kernel
theorem dX9_fewest_11 : decode cX9_fewest 11 = .ok (.ireturn, 1) := by decide +kernel
theorem dX9_shown_0 : decode cX9_shown 0 = .ok (.iload_n 1, 1) := by decide +kernel
theorem dX9_shown_1 : decode cX9_shown 1 = .ok (.ifCond .ge 7, 3) := by decide +kernel
theorem dX9_shown_4 : decode cX9_shown 4 = .ok (.iconst (-1), 1) := by decide +kernel
theorem dX9_shown_5 : decode cX9_shown 5 = .ok (.goto 15, 3) := by decide +kernel
theorem dX9_shown_8 : decode cX9_shown 8 = .ok (.aload_n 0, 1) := by decide +kernel
theorem dX9_shown_9 : decode cX9_shown 9 = .ok (.getfield 40, 3) := by decide +kernel
theorem dX9_shown_12 : decode cX9_shown 12 = .ok (.aload_n 0, 1) := by decide +kernel
theorem dX9_shown_13 : decode cX9_shown 13 = .ok (.getfield 10, 3) := by decide +kernel
theorem dX9_shown_16 : decode cX9_shown 16 = .ok (.iload_n 1, 1) := by decide +kernel
theorem dX9_shown_17 : decode cX9_shown 17 = .ok (.invokevirtual 245, 3) := by decide +kernel
theorem dX9_shown_20 : decode cX9_shown 20 = .ok (.ireturn, 1) := by decide +kernel
theorem dX9_least_0 : decode cX9_least 0 = .ok (.iload_n 1, 1) := by decide +kernel
theorem dX9_least_1 : decode cX9_least 1 = .ok (.invokestatic 249, 3) := by decide +kernel
theorem dX9_least_4 : decode cX9_least 4 = .ok (.ifCond .ne 5, 3) := by decide +kernel
theorem dX9_least_7 : decode cX9_least 7 = .ok (.iconst (-1), 1) := by decide +kernel
theorem dX9_least_8 : decode cX9_least 8 = .ok (.ireturn, 1) := by decide +kernel
theorem dX9_least_9 : decode cX9_least 9 = .ok (.aload_n 0, 1) := by decide +kernel
theorem dX9_least_10 : decode cX9_least 10 = .ok (.getfield 10, 3) := by decide +kernel
theorem dX9_least_13 : decode cX9_least 13 = .ok (.getfield 133, 3) := by decide +kernel
theorem dX9_least_16 : decode cX9_least 16 = .ok (.bipush 6, 2) := by decide +kernel
theorem dX9_least_18 : decode cX9_least 18 = .ok (.if_icmp .le 6, 3) := by decide +kernel
theorem dX9_least_21 : decode cX9_least 21 = .ok (.bipush (-3), 2) := by decide +kernel
theorem dX9_least_23 : decode cX9_least 23 = .ok (.ireturn, 1) := by decide +kernel
theorem dX9_least_24 : decode cX9_least 24 = .ok (.aload_n 0, 1) := by decide +kernel
theorem dX9_least_25 : decode cX9_least 25 = .ok (.getfield 40, 3) := by decide +kernel
theorem dX9_least_28 : decode cX9_least 28 = .ok (.aload_n 0, 1) := by decide +kernel
theorem dX9_least_29 : decode cX9_least 29 = .ok (.getfield 10, 3) := by decide +kernel
theorem dX9_least_32 : decode cX9_least 32 = .ok (.invokevirtual 252, 3) := by decide +kernel
theorem dX9_least_35 : decode cX9_least 35 = .ok (.iload_n 1, 1) := by decide +kernel
theorem dX9_least_36 : decode cX9_least 36 = .ok (.ifCond .ne 13, 3) := by decide +kernel
theorem dX9_least_39 : decode cX9_least 39 = .ok (.aload_n 0, 1) := by decide +kernel
theorem dX9_least_40 : decode cX9_least 40 = .ok (.getfield 40, 3) := by decide +kernel
theorem dX9_least_43 : decode cX9_least 43 = .ok (.getfield 255, 3) := by decide +kernel
theorem dX9_least_46 : decode cX9_least 46 = .ok (.goto 10, 3) := by decide +kernel
theorem dX9_least_49 : decode cX9_least 49 = .ok (.aload_n 0, 1) := by decide +kernel
theorem dX9_least_50 : decode cX9_least 50 = .ok (.getfield 40, 3) := by decide +kernel
theorem dX9_least_53 : decode cX9_least 53 = .ok (.getfield 258, 3) := by decide +kernel
theorem dX9_least_56 : decode cX9_least 56 = .ok (.ireturn, 1) := by decide +kernel
theorem dX9_backs_0 : decode cX9_backs 0 = .ok (.iconst 2, 1) := by decide +kernel
theorem dX9_backs_1 : decode cX9_backs 1 = .ok (.iload_n 1, 1) := by decide +kernel
theorem dX9_backs_2 : decode cX9_backs 2 = .ok (.invokestatic 139, 3) := by decide +kernel
theorem dX9_backs_5 : decode cX9_backs 5 = .ok (.ifCond .eq 19, 3) := by decide +kernel
theorem dX9_backs_8 : decode cX9_backs 8 = .ok (.aload_n 0, 1) := by decide +kernel
theorem dX9_backs_9 : decode cX9_backs 9 = .ok (.getfield 40, 3) := by decide +kernel
theorem dX9_backs_12 : decode cX9_backs 12 = .ok (.aload_n 0, 1) := by decide +kernel
theorem dX9_backs_13 : decode cX9_backs 13 = .ok (.getfield 10, 3) := by decide +kernel
theorem dX9_backs_16 : decode cX9_backs 16 = .ok (.iconst 2, 1) := by decide +kernel
theorem dX9_backs_17 : decode cX9_backs 17 = .ok (.iload_n 1, 1) := by decide +kernel
theorem dX9_backs_18 : decode cX9_backs 18 = .ok (.invokevirtual 261, 3) := by decide +kernel
theorem dX9_backs_21 : decode cX9_backs 21 = .ok (.goto 4, 3) := by decide +kernel
theorem dX9_backs_24 : decode cX9_backs 24 = .ok (.iconst (-1), 1) := by decide +kernel
theorem dX9_backs_25 : decode cX9_backs 25 = .ok (.ireturn, 1) := by decide +kernel
theorem dX9_bestBack_0 : decode cX9_bestBack 0 = .ok (.iconst 0, 1) := by decide +kernel
theorem dX9_bestBack_1 : decode cX9_bestBack 1 = .ok (.istore_n 1, 1) := by decide +kernel
theorem dX9_bestBack_2 : decode cX9_bestBack 2 = .ok (.aload_n 0, 1) := by decide +kernel
theorem dX9_bestBack_3 : decode cX9_bestBack 3 = .ok (.getfield 40, 3) := by decide +kernel
theorem dX9_bestBack_6 : decode cX9_bestBack 6 = .ok (.aload_n 0, 1) := by decide +kernel
theorem dX9_bestBack_7 : decode cX9_bestBack 7 = .ok (.getfield 10, 3) := by decide +kernel
theorem dX9_bestBack_10 : decode cX9_bestBack 10 = .ok (.iconst 2, 1) := by decide +kernel
theorem dX9_bestBack_11 : decode cX9_bestBack 11 = .ok (.iconst 0, 1) := by decide +kernel
theorem dX9_bestBack_12 : decode cX9_bestBack 12 = .ok (.invokevirtual 261, 3) := by decide +kernel
theorem dX9_bestBack_15 : decode cX9_bestBack 15 = .ok (.istore_n 2, 1) := by decide +kernel
theorem dX9_bestBack_16 : decode cX9_bestBack 16 = .ok (.iconst 1, 1) := by decide +kernel
theorem dX9_bestBack_17 : decode cX9_bestBack 17 = .ok (.istore_n 3, 1) := by decide +kernel
theorem dX9_bestBack_18 : decode cX9_bestBack 18 = .ok (.iload_n 3, 1) := by decide +kernel
theorem dX9_bestBack_19 : decode cX9_bestBack 19 = .ok (.iconst 2, 1) := by decide +kernel
theorem dX9_bestBack_20 : decode cX9_bestBack 20 = .ok (.if_icmp .gt 35, 3) := by decide +kernel
theorem dX9_bestBack_23 : decode cX9_bestBack 23 = .ok (.aload_n 0, 1) := by decide +kernel
theorem dX9_bestBack_24 : decode cX9_bestBack 24 = .ok (.getfield 40, 3) := by decide +kernel
theorem dX9_bestBack_27 : decode cX9_bestBack 27 = .ok (.aload_n 0, 1) := by decide +kernel
theorem dX9_bestBack_28 : decode cX9_bestBack 28 = .ok (.getfield 10, 3) := by decide +kernel
theorem dX9_bestBack_31 : decode cX9_bestBack 31 = .ok (.iconst 2, 1) := by decide +kernel
theorem dX9_bestBack_32 : decode cX9_bestBack 32 = .ok (.iload_n 3, 1) := by decide +kernel
theorem dX9_bestBack_33 : decode cX9_bestBack 33 = .ok (.invokevirtual 261, 3) := by decide +kernel
theorem dX9_bestBack_36 : decode cX9_bestBack 36 = .ok (.istore 4, 2) := by decide +kernel
theorem dX9_bestBack_38 : decode cX9_bestBack 38 = .ok (.iload 4, 2) := by decide +kernel
theorem dX9_bestBack_40 : decode cX9_bestBack 40 = .ok (.iload_n 2, 1) := by decide +kernel
theorem dX9_bestBack_41 : decode cX9_bestBack 41 = .ok (.if_icmp .ge 8, 3) := by decide +kernel
theorem dX9_bestBack_44 : decode cX9_bestBack 44 = .ok (.iload_n 3, 1) := by decide +kernel
theorem dX9_bestBack_45 : decode cX9_bestBack 45 = .ok (.istore_n 1, 1) := by decide +kernel
theorem dX9_bestBack_46 : decode cX9_bestBack 46 = .ok (.iload 4, 2) := by decide +kernel
theorem dX9_bestBack_48 : decode cX9_bestBack 48 = .ok (.istore_n 2, 1) := by decide +kernel
theorem dX9_bestBack_49 : decode cX9_bestBack 49 = .ok (.iinc 3 1, 3) := by decide +kernel
theorem dX9_bestBack_52 : decode cX9_bestBack 52 = .ok (.goto (-34), 3) := by decide +kernel
theorem dX9_bestBack_55 : decode cX9_bestBack 55 = .ok (.iload_n 1, 1) := by decide +kernel
theorem dX9_bestBack_56 : decode cX9_bestBack 56 = .ok (.ireturn, 1) := by decide +kernel
theorem dX9_whom_0 : decode cX9_whom 0 = .ok (.aload_n 0, 1) := by decide +kernel
theorem dX9_whom_1 : decode cX9_whom 1 = .ok (.iload_n 1, 1) := by decide +kernel
theorem dX9_whom_2 : decode cX9_whom 2 = .ok (.invokevirtual 265, 3) := by decide +kernel
theorem dX9_whom_5 : decode cX9_whom 5 = .ok (.ifCond .eq 10, 3) := by decide +kernel
theorem dX9_whom_8 : decode cX9_whom 8 = .ok (.iload_n 2, 1) := by decide +kernel
theorem dX9_whom_9 : decode cX9_whom 9 = .ok (.invokestatic 249, 3) := by decide +kernel
theorem dX9_whom_12 : decode cX9_whom 12 = .ok (.ifCond .ne 5, 3) := by decide +kernel
theorem dX9_whom_15 : decode cX9_whom 15 = .ok (.iconst (-1), 1) := by decide +kernel
theorem dX9_whom_16 : decode cX9_whom 16 = .ok (.ireturn, 1) := by decide +kernel
theorem dX9_whom_17 : decode cX9_whom 17 = .ok (.aload_n 0, 1) := by decide +kernel
theorem dX9_whom_18 : decode cX9_whom 18 = .ok (.getfield 40, 3) := by decide +kernel
theorem dX9_whom_21 : decode cX9_whom 21 = .ok (.aload_n 0, 1) := by decide +kernel
theorem dX9_whom_22 : decode cX9_whom 22 = .ok (.getfield 10, 3) := by decide +kernel
theorem dX9_whom_25 : decode cX9_whom 25 = .ok (.iload_n 1, 1) := by decide +kernel
theorem dX9_whom_26 : decode cX9_whom 26 = .ok (.invokevirtual 268, 3) := by decide +kernel
theorem dX9_whom_29 : decode cX9_whom 29 = .ok (.iload_n 2, 1) := by decide +kernel
theorem dX9_whom_30 : decode cX9_whom 30 = .ok (.ifCond .ne 13, 3) := by decide +kernel
theorem dX9_whom_33 : decode cX9_whom 33 = .ok (.aload_n 0, 1) := by decide +kernel
theorem dX9_whom_34 : decode cX9_whom 34 = .ok (.getfield 40, 3) := by decide +kernel
theorem dX9_whom_37 : decode cX9_whom 37 = .ok (.getfield 258, 3) := by decide +kernel
theorem dX9_whom_40 : decode cX9_whom 40 = .ok (.goto 10, 3) := by decide +kernel
theorem dX9_whom_43 : decode cX9_whom 43 = .ok (.aload_n 0, 1) := by decide +kernel
theorem dX9_whom_44 : decode cX9_whom 44 = .ok (.getfield 40, 3) := by decide +kernel
theorem dX9_whom_47 : decode cX9_whom 47 = .ok (.getfield 255, 3) := by decide +kernel
theorem dX9_whom_50 : decode cX9_whom 50 = .ok (.ireturn, 1) := by decide +kernel
theorem dX9_worth_0 : decode cX9_worth 0 = .ok (.aload_n 0, 1) := by decide +kernel
theorem dX9_worth_1 : decode cX9_worth 1 = .ok (.iload_n 1, 1) := by decide +kernel
theorem dX9_worth_2 : decode cX9_worth 2 = .ok (.invokevirtual 265, 3) := by decide +kernel
theorem dX9_worth_5 : decode cX9_worth 5 = .ok (.ifCond .ne 5, 3) := by decide +kernel
theorem dX9_worth_8 : decode cX9_worth 8 = .ok (.iconst (-1), 1) := by decide +kernel
theorem dX9_worth_9 : decode cX9_worth 9 = .ok (.ireturn, 1) := by decide +kernel
theorem dX9_worth_10 : decode cX9_worth 10 = .ok (.aload_n 0, 1) := by decide +kernel
theorem dX9_worth_11 : decode cX9_worth 11 = .ok (.getfield 40, 3) := by decide +kernel
theorem dX9_worth_14 : decode cX9_worth 14 = .ok (.aload_n 0, 1) := by decide +kernel
theorem dX9_worth_15 : decode cX9_worth 15 = .ok (.getfield 10, 3) := by decide +kernel
theorem dX9_worth_18 : decode cX9_worth 18 = .ok (.iconst 0, 1) := by decide +kernel
theorem dX9_worth_19 : decode cX9_worth 19 = .ok (.invokevirtual 268, 3) := by decide +kernel
theorem dX9_worth_22 : decode cX9_worth 22 = .ok (.aload_n 0, 1) := by decide +kernel
theorem dX9_worth_23 : decode cX9_worth 23 = .ok (.getfield 40, 3) := by decide +kernel
theorem dX9_worth_26 : decode cX9_worth 26 = .ok (.getfield 255, 3) := by decide +kernel
theorem dX9_worth_29 : decode cX9_worth 29 = .ok (.istore_n 2, 1) := by decide +kernel
theorem dX9_worth_30 : decode cX9_worth 30 = .ok (.aload_n 0, 1) := by decide +kernel
theorem dX9_worth_31 : decode cX9_worth 31 = .ok (.getfield 40, 3) := by decide +kernel
theorem dX9_worth_34 : decode cX9_worth 34 = .ok (.aload_n 0, 1) := by decide +kernel
theorem dX9_worth_35 : decode cX9_worth 35 = .ok (.getfield 10, 3) := by decide +kernel
theorem dX9_worth_38 : decode cX9_worth 38 = .ok (.iload_n 1, 1) := by decide +kernel
theorem dX9_worth_39 : decode cX9_worth 39 = .ok (.invokevirtual 268, 3) := by decide +kernel
theorem dX9_worth_42 : decode cX9_worth 42 = .ok (.iconst 0, 1) := by decide +kernel
theorem dX9_worth_43 : decode cX9_worth 43 = .ok (.iload_n 2, 1) := by decide +kernel
theorem dX9_worth_44 : decode cX9_worth 44 = .ok (.aload_n 0, 1) := by decide +kernel
theorem dX9_worth_45 : decode cX9_worth 45 = .ok (.getfield 40, 3) := by decide +kernel
theorem dX9_worth_48 : decode cX9_worth 48 = .ok (.getfield 255, 3) := by decide +kernel
theorem dX9_worth_51 : decode cX9_worth 51 = .ok (.isub, 1) := by decide +kernel
theorem dX9_worth_52 : decode cX9_worth 52 = .ok (.invokestatic 272, 3) := by decide +kernel
theorem dX9_worth_55 : decode cX9_worth 55 = .ok (.ireturn, 1) := by decide +kernel
theorem dX9_enough_0 : decode cX9_enough 0 = .ok (.iload_n 1, 1) := by decide +kernel
theorem dX9_enough_1 : decode cX9_enough 1 = .ok (.ifCond .lt 10, 3) := by decide +kernel
theorem dX9_enough_4 : decode cX9_enough 4 = .ok (.iload_n 1, 1) := by decide +kernel
theorem dX9_enough_5 : decode cX9_enough 5 = .ok (.sipush 999, 3) := by decide +kernel
theorem dX9_enough_8 : decode cX9_enough 8 = .ok (.if_icmp .le 5, 3) := by decide +kernel
theorem dX9_enough_11 : decode cX9_enough 11 = .ok (.iconst (-1), 1) := by decide +kernel
theorem dX9_enough_12 : decode cX9_enough 12 = .ok (.ireturn, 1) := by decide +kernel
theorem dX9_enough_13 : decode cX9_enough 13 = .ok (.iconst 1, 1) := by decide +kernel
theorem dX9_enough_14 : decode cX9_enough 14 = .ok (.istore_n 2, 1) := by decide +kernel
theorem dX9_enough_15 : decode cX9_enough 15 = .ok (.iload_n 2, 1) := by decide +kernel
theorem dX9_enough_16 : decode cX9_enough 16 = .ok (.iconst 3, 1) := by decide +kernel
theorem dX9_enough_17 : decode cX9_enough 17 = .ok (.if_icmp .gt 28, 3) := by decide +kernel
theorem dX9_enough_20 : decode cX9_enough 20 = .ok (.aload_n 0, 1) := by decide +kernel
theorem dX9_enough_21 : decode cX9_enough 21 = .ok (.getfield 40, 3) := by decide +kernel
theorem dX9_enough_24 : decode cX9_enough 24 = .ok (.aload_n 0, 1) := by decide +kernel
theorem dX9_enough_25 : decode cX9_enough 25 = .ok (.getfield 10, 3) := by decide +kernel
theorem dX9_enough_28 : decode cX9_enough 28 = .ok (.iconst 0, 1) := by decide +kernel
theorem dX9_enough_29 : decode cX9_enough 29 = .ok (.iload_n 2, 1) := by decide +kernel
theorem dX9_enough_30 : decode cX9_enough 30 = .ok (.invokevirtual 261, 3) := by decide +kernel
theorem dX9_enough_33 : decode cX9_enough 33 = .ok (.iload_n 1, 1) := by decide +kernel
theorem dX9_enough_34 : decode cX9_enough 34 = .ok (.if_icmp .gt 5, 3) := by decide +kernel
theorem dX9_enough_37 : decode cX9_enough 37 = .ok (.iload_n 2, 1) := by decide +kernel
theorem dX9_enough_38 : decode cX9_enough 38 = .ok (.ireturn, 1) := by decide +kernel
theorem dX9_enough_39 : decode cX9_enough 39 = .ok (.iinc 2 1, 3) := by decide +kernel
theorem dX9_enough_42 : decode cX9_enough 42 = .ok (.goto (-27), 3) := by decide +kernel
theorem dX9_enough_45 : decode cX9_enough 45 = .ok (.bipush (-4), 2) := by decide +kernel
theorem dX9_enough_47 : decode cX9_enough 47 = .ok (.ireturn, 1) := by decide +kernel
theorem dX9_along_0 : decode cX9_along 0 = .ok (.aload_n 0, 1) := by decide +kernel
theorem dX9_along_1 : decode cX9_along 1 = .ok (.getfield 10, 3) := by decide +kernel
theorem dX9_along_4 : decode cX9_along 4 = .ok (.iload_n 1, 1) := by decide +kernel
theorem dX9_along_5 : decode cX9_along 5 = .ok (.invokevirtual 68, 3) := by decide +kernel
theorem dX9_along_8 : decode cX9_along 8 = .ok (.ifCond .eq 10, 3) := by decide +kernel
theorem dX9_along_11 : decode cX9_along 11 = .ok (.iload_n 2, 1) := by decide +kernel
theorem dX9_along_12 : decode cX9_along 12 = .ok (.invokestatic 249, 3) := by decide +kernel
theorem dX9_along_15 : decode cX9_along 15 = .ok (.ifCond .ne 5, 3) := by decide +kernel
theorem dX9_along_18 : decode cX9_along 18 = .ok (.iconst (-1), 1) := by decide +kernel
theorem dX9_along_19 : decode cX9_along 19 = .ok (.ireturn, 1) := by decide +kernel
theorem dX9_along_20 : decode cX9_along 20 = .ok (.aload_n 0, 1) := by decide +kernel
theorem dX9_along_21 : decode cX9_along 21 = .ok (.getfield 40, 3) := by decide +kernel
theorem dX9_along_24 : decode cX9_along 24 = .ok (.aload_n 0, 1) := by decide +kernel
theorem dX9_along_25 : decode cX9_along 25 = .ok (.getfield 10, 3) := by decide +kernel
theorem dX9_along_28 : decode cX9_along 28 = .ok (.iload_n 1, 1) := by decide +kernel
theorem dX9_along_29 : decode cX9_along 29 = .ok (.invokevirtual 277, 3) := by decide +kernel
theorem dX9_along_32 : decode cX9_along 32 = .ok (.iload_n 2, 1) := by decide +kernel
theorem dX9_along_33 : decode cX9_along 33 = .ok (.ifCond .ne 13, 3) := by decide +kernel
theorem dX9_along_36 : decode cX9_along 36 = .ok (.aload_n 0, 1) := by decide +kernel
theorem dX9_along_37 : decode cX9_along 37 = .ok (.getfield 40, 3) := by decide +kernel
theorem dX9_along_40 : decode cX9_along 40 = .ok (.getfield 258, 3) := by decide +kernel
theorem dX9_along_43 : decode cX9_along 43 = .ok (.goto 10, 3) := by decide +kernel
theorem dX9_along_46 : decode cX9_along 46 = .ok (.aload_n 0, 1) := by decide +kernel
theorem dX9_along_47 : decode cX9_along 47 = .ok (.getfield 40, 3) := by decide +kernel
theorem dX9_along_50 : decode cX9_along 50 = .ok (.getfield 255, 3) := by decide +kernel
theorem dX9_along_53 : decode cX9_along 53 = .ok (.ireturn, 1) := by decide +kernel
theorem dX9_turn_0 : decode cX9_turn 0 = .ok (.iload_n 1, 1) := by decide +kernel
theorem dX9_turn_1 : decode cX9_turn 1 = .ok (.invokestatic 111, 3) := by decide +kernel
theorem dX9_turn_4 : decode cX9_turn 4 = .ok (.ifCond .eq 18, 3) := by decide +kernel
theorem dX9_turn_7 : decode cX9_turn 7 = .ok (.aload_n 0, 1) := by decide +kernel
theorem dX9_turn_8 : decode cX9_turn 8 = .ok (.getfield 40, 3) := by decide +kernel
theorem dX9_turn_11 : decode cX9_turn 11 = .ok (.aload_n 0, 1) := by decide +kernel
theorem dX9_turn_12 : decode cX9_turn 12 = .ok (.getfield 10, 3) := by decide +kernel
theorem dX9_turn_15 : decode cX9_turn 15 = .ok (.iload_n 1, 1) := by decide +kernel
theorem dX9_turn_16 : decode cX9_turn 16 = .ok (.invokevirtual 280, 3) := by decide +kernel
theorem dX9_turn_19 : decode cX9_turn 19 = .ok (.goto 4, 3) := by decide +kernel
theorem dX9_turn_22 : decode cX9_turn 22 = .ok (.iconst (-1), 1) := by decide +kernel
theorem dX9_turn_23 : decode cX9_turn 23 = .ok (.ireturn, 1) := by decide +kernel
theorem dX9_bestTurn_0 : decode cX9_bestTurn 0 = .ok (.aload_n 0, 1) := by decide +kernel
theorem dX9_bestTurn_1 : decode cX9_bestTurn 1 = .ok (.getfield 40, 3) := by decide +kernel
theorem dX9_bestTurn_4 : decode cX9_bestTurn 4 = .ok (.aload_n 0, 1) := by decide +kernel
theorem dX9_bestTurn_5 : decode cX9_bestTurn 5 = .ok (.getfield 10, 3) := by decide +kernel
theorem dX9_bestTurn_8 : decode cX9_bestTurn 8 = .ok (.invokevirtual 283, 3) := by decide +kernel
theorem dX9_bestTurn_11 : decode cX9_bestTurn 11 = .ok (.ireturn, 1) := by decide +kernel
theorem dX9_mean_0 : decode cX9_mean 0 = .ok (.iload_n 1, 1) := by decide +kernel
theorem dX9_mean_1 : decode cX9_mean 1 = .ok (.invokestatic 249, 3) := by decide +kernel
theorem dX9_mean_4 : decode cX9_mean 4 = .ok (.ifCond .ne 7, 3) := by decide +kernel
theorem dX9_mean_7 : decode cX9_mean 7 = .ok (.ldc2_w 286, 3) := by decide +kernel
theorem dX9_mean_10 : decode cX9_mean 10 = .ok (.lreturn, 1) := by decide +kernel
theorem dX9_mean_11 : decode cX9_mean 11 = .ok (.aload_n 0, 1) := by decide +kernel
theorem dX9_mean_12 : decode cX9_mean 12 = .ok (.getfield 10, 3) := by decide +kernel
theorem dX9_mean_15 : decode cX9_mean 15 = .ok (.getfield 133, 3) := by decide +kernel
theorem dX9_mean_18 : decode cX9_mean 18 = .ok (.iconst 5, 1) := by decide +kernel
theorem dX9_mean_19 : decode cX9_mean 19 = .ok (.if_icmp .le 7, 3) := by decide +kernel
theorem dX9_mean_22 : decode cX9_mean 22 = .ok (.ldc2_w 288, 3) := by decide +kernel
theorem dX9_mean_25 : decode cX9_mean 25 = .ok (.lreturn, 1) := by decide +kernel
theorem dX9_mean_26 : decode cX9_mean 26 = .ok (.aload_n 0, 1) := by decide +kernel
theorem dX9_mean_27 : decode cX9_mean 27 = .ok (.getfield 40, 3) := by decide +kernel
theorem dX9_mean_30 : decode cX9_mean 30 = .ok (.aload_n 0, 1) := by decide +kernel
theorem dX9_mean_31 : decode cX9_mean 31 = .ok (.getfield 10, 3) := by decide +kernel
theorem dX9_mean_34 : decode cX9_mean 34 = .ok (.invokevirtual 290, 3) := by decide +kernel
theorem dX9_mean_37 : decode cX9_mean 37 = .ok (.aload_n 0, 1) := by decide +kernel
theorem dX9_mean_38 : decode cX9_mean 38 = .ok (.getfield 10, 3) := by decide +kernel
theorem dX9_mean_41 : decode cX9_mean 41 = .ok (.getfield 133, 3) := by decide +kernel
theorem dX9_mean_44 : decode cX9_mean 44 = .ok (.invokestatic 293, 3) := by decide +kernel
theorem dX9_mean_47 : decode cX9_mean 47 = .ok (.istore_n 2, 1) := by decide +kernel
theorem dX9_mean_48 : decode cX9_mean 48 = .ok (.aload_n 0, 1) := by decide +kernel
theorem dX9_mean_49 : decode cX9_mean 49 = .ok (.getfield 40, 3) := by decide +kernel
theorem dX9_mean_52 : decode cX9_mean 52 = .ok (.getfield 298, 3) := by decide +kernel
theorem dX9_mean_55 : decode cX9_mean 55 = .ok (.iload_n 2, 1) := by decide +kernel
theorem dX9_mean_56 : decode cX9_mean 56 = .ok (.invokestatic 301, 3) := by decide +kernel
theorem dX9_mean_59 : decode cX9_mean 59 = .ok (.istore_n 3, 1) := by decide +kernel
theorem dX9_mean_60 : decode cX9_mean 60 = .ok (.iload_n 3, 1) := by decide +kernel
theorem dX9_mean_61 : decode cX9_mean 61 = .ok (.iconst 1, 1) := by decide +kernel
theorem dX9_mean_62 : decode cX9_mean 62 = .ok (.if_icmp .ge 5, 3) := by decide +kernel
theorem dX9_mean_65 : decode cX9_mean 65 = .ok (.lconst 0, 1) := by decide +kernel
theorem dX9_mean_66 : decode cX9_mean 66 = .ok (.lreturn, 1) := by decide +kernel
theorem dX9_mean_67 : decode cX9_mean 67 = .ok (.iload_n 1, 1) := by decide +kernel
theorem dX9_mean_68 : decode cX9_mean 68 = .ok (.ifCond .ne 16, 3) := by decide +kernel
theorem dX9_mean_71 : decode cX9_mean 71 = .ok (.aload_n 0, 1) := by decide +kernel
theorem dX9_mean_72 : decode cX9_mean 72 = .ok (.getfield 40, 3) := by decide +kernel
theorem dX9_mean_75 : decode cX9_mean 75 = .ok (.getfield 298, 3) := by decide +kernel
theorem dX9_mean_78 : decode cX9_mean 78 = .ok (.iload_n 3, 1) := by decide +kernel
theorem dX9_mean_79 : decode cX9_mean 79 = .ok (.idiv, 1) := by decide +kernel
theorem dX9_mean_80 : decode cX9_mean 80 = .ok (.i2l, 1) := by decide +kernel
theorem dX9_mean_81 : decode cX9_mean 81 = .ok (.goto 7, 3) := by decide +kernel
theorem dX9_mean_84 : decode cX9_mean 84 = .ok (.iload_n 2, 1) := by decide +kernel
theorem dX9_mean_85 : decode cX9_mean 85 = .ok (.iload_n 3, 1) := by decide +kernel
theorem dX9_mean_86 : decode cX9_mean 86 = .ok (.idiv, 1) := by decide +kernel
theorem dX9_mean_87 : decode cX9_mean 87 = .ok (.i2l, 1) := by decide +kernel
theorem dX9_mean_88 : decode cX9_mean 88 = .ok (.lreturn, 1) := by decide +kernel
theorem dX9_orders_0 : decode cX9_orders 0 = .ok (.iload_n 1, 1) := by decide +kernel
theorem dX9_orders_1 : decode cX9_orders 1 = .ok (.invokestatic 249, 3) := by decide +kernel
theorem dX9_orders_4 : decode cX9_orders 4 = .ok (.ifCond .ne 5, 3) := by decide +kernel
theorem dX9_orders_7 : decode cX9_orders 7 = .ok (.iconst (-1), 1) := by decide +kernel
theorem dX9_orders_8 : decode cX9_orders 8 = .ok (.ireturn, 1) := by decide +kernel
theorem dX9_orders_9 : decode cX9_orders 9 = .ok (.aload_n 0, 1) := by decide +kernel
theorem dX9_orders_10 : decode cX9_orders 10 = .ok (.getfield 10, 3) := by decide +kernel
theorem dX9_orders_13 : decode cX9_orders 13 = .ok (.getfield 133, 3) := by decide +kernel
theorem dX9_orders_16 : decode cX9_orders 16 = .ok (.iconst 5, 1) := by decide +kernel
theorem dX9_orders_17 : decode cX9_orders 17 = .ok (.if_icmp .le 6, 3) := by decide +kernel
theorem dX9_orders_20 : decode cX9_orders 20 = .ok (.bipush (-3), 2) := by decide +kernel
theorem dX9_orders_22 : decode cX9_orders 22 = .ok (.ireturn, 1) := by decide +kernel
theorem dX9_orders_23 : decode cX9_orders 23 = .ok (.aload_n 0, 1) := by decide +kernel
theorem dX9_orders_24 : decode cX9_orders 24 = .ok (.getfield 40, 3) := by decide +kernel
theorem dX9_orders_27 : decode cX9_orders 27 = .ok (.aload_n 0, 1) := by decide +kernel
theorem dX9_orders_28 : decode cX9_orders 28 = .ok (.getfield 10, 3) := by decide +kernel
theorem dX9_orders_31 : decode cX9_orders 31 = .ok (.invokevirtual 290, 3) := by decide +kernel
theorem dX9_orders_34 : decode cX9_orders 34 = .ok (.iload_n 1, 1) := by decide +kernel
theorem dX9_orders_35 : decode cX9_orders 35 = .ok (.ifCond .ne 13, 3) := by decide +kernel
theorem dX9_orders_38 : decode cX9_orders 38 = .ok (.aload_n 0, 1) := by decide +kernel
theorem dX9_orders_39 : decode cX9_orders 39 = .ok (.getfield 40, 3) := by decide +kernel
theorem dX9_orders_42 : decode cX9_orders 42 = .ok (.getfield 304, 3) := by decide +kernel
theorem dX9_orders_45 : decode cX9_orders 45 = .ok (.goto 10, 3) := by decide +kernel
theorem dX9_orders_48 : decode cX9_orders 48 = .ok (.aload_n 0, 1) := by decide +kernel
theorem dX9_orders_49 : decode cX9_orders 49 = .ok (.getfield 40, 3) := by decide +kernel
theorem dX9_orders_52 : decode cX9_orders 52 = .ok (.getfield 255, 3) := by decide +kernel
theorem dX9_orders_55 : decode cX9_orders 55 = .ok (.ireturn, 1) := by decide +kernel
theorem dX9_rival_0 : decode cX9_rival 0 = .ok (.iload_n 1, 1) := by decide +kernel
theorem dX9_rival_1 : decode cX9_rival 1 = .ok (.ifCond .lt 26, 3) := by decide +kernel
theorem dX9_rival_4 : decode cX9_rival 4 = .ok (.iload_n 1, 1) := by decide +kernel
theorem dX9_rival_5 : decode cX9_rival 5 = .ok (.getstatic 307, 3) := by decide +kernel
theorem dX9_rival_8 : decode cX9_rival 8 = .ok (.arraylength, 1) := by decide +kernel
theorem dX9_rival_9 : decode cX9_rival 9 = .ok (.if_icmp .ge 18, 3) := by decide +kernel
theorem dX9_rival_12 : decode cX9_rival 12 = .ok (.aload_n 0, 1) := by decide +kernel
theorem dX9_rival_13 : decode cX9_rival 13 = .ok (.getfield 40, 3) := by decide +kernel
theorem dX9_rival_16 : decode cX9_rival 16 = .ok (.aload_n 0, 1) := by decide +kernel
theorem dX9_rival_17 : decode cX9_rival 17 = .ok (.getfield 10, 3) := by decide +kernel
theorem dX9_rival_20 : decode cX9_rival 20 = .ok (.iload_n 1, 1) := by decide +kernel
theorem dX9_rival_21 : decode cX9_rival 21 = .ok (.invokevirtual 311, 3) := by decide +kernel
theorem dX9_rival_24 : decode cX9_rival 24 = .ok (.goto 4, 3) := by decide +kernel
theorem dX9_rival_27 : decode cX9_rival 27 = .ok (.iconst (-1), 1) := by decide +kernel
theorem dX9_rival_28 : decode cX9_rival 28 = .ok (.ireturn, 1) := by decide +kernel
theorem dX9_bestRule_0 : decode cX9_bestRule 0 = .ok (.iconst 0, 1) := by decide +kernel
theorem dX9_bestRule_1 : decode cX9_bestRule 1 = .ok (.istore_n 1, 1) := by decide +kernel
theorem dX9_bestRule_2 : decode cX9_bestRule 2 = .ok (.aload_n 0, 1) := by decide +kernel
theorem dX9_bestRule_3 : decode cX9_bestRule 3 = .ok (.getfield 40, 3) := by decide +kernel
theorem dX9_bestRule_6 : decode cX9_bestRule 6 = .ok (.aload_n 0, 1) := by decide +kernel
theorem dX9_bestRule_7 : decode cX9_bestRule 7 = .ok (.getfield 10, 3) := by decide +kernel
theorem dX9_bestRule_10 : decode cX9_bestRule 10 = .ok (.iconst 0, 1) := by decide +kernel
theorem dX9_bestRule_11 : decode cX9_bestRule 11 = .ok (.invokevirtual 311, 3) := by decide +kernel
theorem dX9_bestRule_14 : decode cX9_bestRule 14 = .ok (.istore_n 2, 1) := by decide +kernel
theorem dX9_bestRule_15 : decode cX9_bestRule 15 = .ok (.iconst 1, 1) := by decide +kernel
theorem dX9_bestRule_16 : decode cX9_bestRule 16 = .ok (.istore_n 3, 1) := by decide +kernel
theorem dX9_bestRule_17 : decode cX9_bestRule 17 = .ok (.iload_n 3, 1) := by decide +kernel
theorem dX9_bestRule_18 : decode cX9_bestRule 18 = .ok (.getstatic 307, 3) := by decide +kernel
theorem dX9_bestRule_21 : decode cX9_bestRule 21 = .ok (.arraylength, 1) := by decide +kernel
theorem dX9_bestRule_22 : decode cX9_bestRule 22 = .ok (.if_icmp .ge 34, 3) := by decide +kernel
theorem dX9_bestRule_25 : decode cX9_bestRule 25 = .ok (.aload_n 0, 1) := by decide +kernel
theorem dX9_bestRule_26 : decode cX9_bestRule 26 = .ok (.getfield 40, 3) := by decide +kernel
theorem dX9_bestRule_29 : decode cX9_bestRule 29 = .ok (.aload_n 0, 1) := by decide +kernel
theorem dX9_bestRule_30 : decode cX9_bestRule 30 = .ok (.getfield 10, 3) := by decide +kernel
theorem dX9_bestRule_33 : decode cX9_bestRule 33 = .ok (.iload_n 3, 1) := by decide +kernel
theorem dX9_bestRule_34 : decode cX9_bestRule 34 = .ok (.invokevirtual 311, 3) := by decide +kernel
theorem dX9_bestRule_37 : decode cX9_bestRule 37 = .ok (.istore 4, 2) := by decide +kernel
theorem dX9_bestRule_39 : decode cX9_bestRule 39 = .ok (.iload 4, 2) := by decide +kernel
theorem dX9_bestRule_41 : decode cX9_bestRule 41 = .ok (.iload_n 2, 1) := by decide +kernel
theorem dX9_bestRule_42 : decode cX9_bestRule 42 = .ok (.if_icmp .ge 8, 3) := by decide +kernel
theorem dX9_bestRule_45 : decode cX9_bestRule 45 = .ok (.iload_n 3, 1) := by decide +kernel
theorem dX9_bestRule_46 : decode cX9_bestRule 46 = .ok (.istore_n 1, 1) := by decide +kernel
theorem dX9_bestRule_47 : decode cX9_bestRule 47 = .ok (.iload 4, 2) := by decide +kernel
theorem dX9_bestRule_49 : decode cX9_bestRule 49 = .ok (.istore_n 2, 1) := by decide +kernel
theorem dX9_bestRule_50 : decode cX9_bestRule 50 = .ok (.iinc 3 1, 3) := by decide +kernel
theorem dX9_bestRule_53 : decode cX9_bestRule 53 = .ok (.goto (-36), 3) := by decide +kernel
theorem dX9_bestRule_56 : decode cX9_bestRule 56 = .ok (.iload_n 1, 1) := by decide +kernel
theorem dX9_bestRule_57 : decode cX9_bestRule 57 = .ok (.ireturn, 1) := by decide +kernel
theorem dX9_whose_0 : decode cX9_whose 0 = .ok (.aload_n 0, 1) := by decide +kernel
theorem dX9_whose_1 : decode cX9_whose 1 = .ok (.getfield 10, 3) := by decide +kernel
theorem dX9_whose_4 : decode cX9_whose 4 = .ok (.iload_n 1, 1) := by decide +kernel
theorem dX9_whose_5 : decode cX9_whose 5 = .ok (.invokevirtual 68, 3) := by decide +kernel
theorem dX9_whose_8 : decode cX9_whose 8 = .ok (.ifCond .eq 18, 3) := by decide +kernel
theorem dX9_whose_11 : decode cX9_whose 11 = .ok (.aload_n 0, 1) := by decide +kernel
theorem dX9_whose_12 : decode cX9_whose 12 = .ok (.getfield 40, 3) := by decide +kernel
theorem dX9_whose_15 : decode cX9_whose 15 = .ok (.aload_n 0, 1) := by decide +kernel
theorem dX9_whose_16 : decode cX9_whose 16 = .ok (.getfield 10, 3) := by decide +kernel
theorem dX9_whose_19 : decode cX9_whose 19 = .ok (.iload_n 1, 1) := by decide +kernel
theorem dX9_whose_20 : decode cX9_whose 20 = .ok (.invokevirtual 314, 3) := by decide +kernel
theorem dX9_whose_23 : decode cX9_whose 23 = .ok (.goto 4, 3) := by decide +kernel
theorem dX9_whose_26 : decode cX9_whose 26 = .ok (.iconst (-1), 1) := by decide +kernel
theorem dX9_whose_27 : decode cX9_whose 27 = .ok (.ireturn, 1) := by decide +kernel
theorem dX9_two_0 : decode cX9_two 0 = .ok (.aload_n 0, 1) := by decide +kernel
theorem dX9_two_1 : decode cX9_two 1 = .ok (.getfield 10, 3) := by decide +kernel
theorem dX9_two_4 : decode cX9_two 4 = .ok (.iload_n 1, 1) := by decide +kernel
theorem dX9_two_5 : decode cX9_two 5 = .ok (.invokevirtual 68, 3) := by decide +kernel
theorem dX9_two_8 : decode cX9_two 8 = .ok (.ifCond .eq 19, 3) := by decide +kernel
theorem dX9_two_11 : decode cX9_two 11 = .ok (.aload_n 0, 1) := by decide +kernel
theorem dX9_two_12 : decode cX9_two 12 = .ok (.getfield 10, 3) := by decide +kernel
theorem dX9_two_15 : decode cX9_two 15 = .ok (.iload_n 2, 1) := by decide +kernel
theorem dX9_two_16 : decode cX9_two 16 = .ok (.invokevirtual 68, 3) := by decide +kernel
theorem dX9_two_19 : decode cX9_two 19 = .ok (.ifCond .eq 8, 3) := by decide +kernel
theorem dX9_two_22 : decode cX9_two 22 = .ok (.iload_n 1, 1) := by decide +kernel
theorem dX9_two_23 : decode cX9_two 23 = .ok (.iload_n 2, 1) := by decide +kernel
theorem dX9_two_24 : decode cX9_two 24 = .ok (.if_icmp .ne 5, 3) := by decide +kernel
theorem dX9_two_27 : decode cX9_two 27 = .ok (.iconst (-1), 1) := by decide +kernel
theorem dX9_two_28 : decode cX9_two 28 = .ok (.ireturn, 1) := by decide +kernel
theorem dX9_two_29 : decode cX9_two 29 = .ok (.aload_n 0, 1) := by decide +kernel
theorem dX9_two_30 : decode cX9_two 30 = .ok (.getfield 40, 3) := by decide +kernel
theorem dX9_two_33 : decode cX9_two 33 = .ok (.aload_n 0, 1) := by decide +kernel
theorem dX9_two_34 : decode cX9_two 34 = .ok (.getfield 10, 3) := by decide +kernel
theorem dX9_two_37 : decode cX9_two 37 = .ok (.iload_n 1, 1) := by decide +kernel
theorem dX9_two_38 : decode cX9_two 38 = .ok (.iload_n 2, 1) := by decide +kernel
theorem dX9_two_39 : decode cX9_two 39 = .ok (.invokevirtual 317, 3) := by decide +kernel
theorem dX9_two_42 : decode cX9_two 42 = .ok (.ireturn, 1) := by decide +kernel
theorem dX9_chain_0 : decode cX9_chain 0 = .ok (.aload_n 0, 1) := by decide +kernel
theorem dX9_chain_1 : decode cX9_chain 1 = .ok (.getfield 10, 3) := by decide +kernel
theorem dX9_chain_4 : decode cX9_chain 4 = .ok (.iload_n 1, 1) := by decide +kernel
theorem dX9_chain_5 : decode cX9_chain 5 = .ok (.invokevirtual 68, 3) := by decide +kernel
theorem dX9_chain_8 : decode cX9_chain 8 = .ok (.ifCond .ne 5, 3) := by decide +kernel
theorem dX9_chain_11 : decode cX9_chain 11 = .ok (.iconst (-1), 1) := by decide +kernel
theorem dX9_chain_12 : decode cX9_chain 12 = .ok (.ireturn, 1) := by decide +kernel
theorem dX9_chain_13 : decode cX9_chain 13 = .ok (.aload_n 0, 1) := by decide +kernel
theorem dX9_chain_14 : decode cX9_chain 14 = .ok (.getfield 33, 3) := by decide +kernel
theorem dX9_chain_17 : decode cX9_chain 17 = .ok (.aload_n 0, 1) := by decide +kernel
theorem dX9_chain_18 : decode cX9_chain 18 = .ok (.getfield 10, 3) := by decide +kernel
theorem dX9_chain_21 : decode cX9_chain 21 = .ok (.invokevirtual 174, 3) := by decide +kernel
theorem dX9_chain_24 : decode cX9_chain 24 = .ok (.pop, 1) := by decide +kernel
theorem dX9_chain_25 : decode cX9_chain 25 = .ok (.aload_n 0, 1) := by decide +kernel
theorem dX9_chain_26 : decode cX9_chain 26 = .ok (.getfield 33, 3) := by decide +kernel
theorem dX9_chain_29 : decode cX9_chain 29 = .ok (.iload_n 1, 1) := by decide +kernel
theorem dX9_chain_30 : decode cX9_chain 30 = .ok (.invokevirtual 320, 3) := by decide +kernel
theorem dX9_chain_33 : decode cX9_chain 33 = .ok (.ireturn, 1) := by decide +kernel
theorem dX9_judge_0 : decode cX9_judge 0 = .ok (.aload_n 0, 1) := by decide +kernel
theorem dX9_judge_1 : decode cX9_judge 1 = .ok (.iload_n 1, 1) := by decide +kernel
theorem dX9_judge_2 : decode cX9_judge 2 = .ok (.iconst 2, 1) := by decide +kernel
theorem dX9_judge_3 : decode cX9_judge 3 = .ok (.invokevirtual 114, 3) := by decide +kernel
theorem dX9_judge_6 : decode cX9_judge 6 = .ok (.istore_n 2, 1) := by decide +kernel
theorem dX9_judge_7 : decode cX9_judge 7 = .ok (.iload_n 2, 1) := by decide +kernel
theorem dX9_judge_8 : decode cX9_judge 8 = .ok (.ifCond .eq 5, 3) := by decide +kernel
theorem dX9_judge_11 : decode cX9_judge 11 = .ok (.iload_n 2, 1) := by decide +kernel
theorem dX9_judge_12 : decode cX9_judge 12 = .ok (.ireturn, 1) := by decide +kernel
theorem dX9_judge_13 : decode cX9_judge 13 = .ok (.aload_n 0, 1) := by decide +kernel
theorem dX9_judge_14 : decode cX9_judge 14 = .ok (.invokevirtual 99, 3) := by decide +kernel
theorem dX9_judge_17 : decode cX9_judge 17 = .ok (.astore_n 3, 1) := by decide +kernel
theorem dX9_judge_18 : decode cX9_judge 18 = .ok (.aload_n 0, 1) := by decide +kernel
theorem dX9_judge_19 : decode cX9_judge 19 = .ok (.getfield 25, 3) := by decide +kernel
theorem dX9_judge_22 : decode cX9_judge 22 = .ok (.iload_n 1, 1) := by decide +kernel
theorem dX9_judge_23 : decode cX9_judge 23 = .ok (.aaload, 1) := by decide +kernel
theorem dX9_judge_24 : decode cX9_judge 24 = .ok (.astore 4, 2) := by decide +kernel
theorem dX9_judge_26 : decode cX9_judge 26 = .ok (.iconst 0, 1) := by decide +kernel
theorem dX9_judge_27 : decode cX9_judge 27 = .ok (.istore 5, 2) := by decide +kernel
theorem dX9_judge_29 : decode cX9_judge 29 = .ok (.iload 5, 2) := by decide +kernel
theorem dX9_judge_31 : decode cX9_judge 31 = .ok (.aload 4, 2) := by decide +kernel
theorem dX9_judge_33 : decode cX9_judge 33 = .ok (.getfield 146, 3) := by decide +kernel
theorem dX9_judge_36 : decode cX9_judge 36 = .ok (.if_icmp .ge 43, 3) := by decide +kernel
theorem dX9_judge_39 : decode cX9_judge 39 = .ok (.aload 4, 2) := by decide +kernel
theorem dX9_judge_41 : decode cX9_judge 41 = .ok (.getfield 149, 3) := by decide +kernel
theorem dX9_judge_44 : decode cX9_judge 44 = .ok (.iload 5, 2) := by decide +kernel
theorem dX9_judge_46 : decode cX9_judge 46 = .ok (.iaload, 1) := by decide +kernel
theorem dX9_judge_47 : decode cX9_judge 47 = .ok (.istore 6, 2) := by decide +kernel
theorem dX9_judge_49 : decode cX9_judge 49 = .ok (.aload_n 0, 1) := by decide +kernel
theorem dX9_judge_50 : decode cX9_judge 50 = .ok (.getfield 10, 3) := by decide +kernel
theorem dX9_judge_53 : decode cX9_judge 53 = .ok (.iload 6, 2) := by decide +kernel
theorem dX9_judge_55 : decode cX9_judge 55 = .ok (.invokevirtual 68, 3) := by decide +kernel
theorem dX9_judge_58 : decode cX9_judge 58 = .ok (.ifCond .eq 12, 3) := by decide +kernel
theorem dX9_judge_61 : decode cX9_judge 61 = .ok (.aload_n 3, 1) := by decide +kernel
theorem dX9_judge_62 : decode cX9_judge 62 = .ok (.iload 6, 2) := by decide +kernel
theorem dX9_judge_64 : decode cX9_judge 64 = .ok (.invokevirtual 323, 3) := by decide +kernel
theorem dX9_judge_67 : decode cX9_judge 67 = .ok (.ifCond .ne 6, 3) := by decide +kernel
theorem dX9_judge_70 : decode cX9_judge 70 = .ok (.iload 5, 2) := by decide +kernel
theorem dX9_judge_72 : decode cX9_judge 72 = .ok (.ireturn, 1) := by decide +kernel
theorem dX9_judge_73 : decode cX9_judge 73 = .ok (.iinc 5 1, 3) := by decide +kernel
theorem dX9_judge_76 : decode cX9_judge 76 = .ok (.goto (-47), 3) := by decide +kernel
theorem dX9_judge_79 : decode cX9_judge 79 = .ok (.bipush (-4), 2) := by decide +kernel
theorem dX9_judge_81 : decode cX9_judge 81 = .ok (.ireturn, 1) := by decide +kernel
theorem dX9_reads_0 : decode cX9_reads 0 = .ok (.iload_n 1, 1) := by decide +kernel
theorem dX9_reads_1 : decode cX9_reads 1 = .ok (.invokestatic 108, 3) := by decide +kernel
theorem dX9_reads_4 : decode cX9_reads 4 = .ok (.ifCond .eq 10, 3) := by decide +kernel
theorem dX9_reads_7 : decode cX9_reads 7 = .ok (.iload_n 2, 1) := by decide +kernel
theorem dX9_reads_8 : decode cX9_reads 8 = .ok (.invokestatic 249, 3) := by decide +kernel
theorem dX9_reads_11 : decode cX9_reads 11 = .ok (.ifCond .ne 5, 3) := by decide +kernel
theorem dX9_reads_14 : decode cX9_reads 14 = .ok (.iconst (-1), 1) := by decide +kernel
theorem dX9_reads_15 : decode cX9_reads 15 = .ok (.ireturn, 1) := by decide +kernel
theorem dX9_reads_16 : decode cX9_reads 16 = .ok (.aload_n 0, 1) := by decide +kernel
theorem dX9_reads_17 : decode cX9_reads 17 = .ok (.iload_n 1, 1) := by decide +kernel
theorem dX9_reads_18 : decode cX9_reads 18 = .ok (.iconst 2, 1) := by decide +kernel
theorem dX9_reads_19 : decode cX9_reads 19 = .ok (.invokevirtual 114, 3) := by decide +kernel
theorem dX9_reads_22 : decode cX9_reads 22 = .ok (.istore_n 3, 1) := by decide +kernel
theorem dX9_reads_23 : decode cX9_reads 23 = .ok (.iload_n 3, 1) := by decide +kernel
theorem dX9_reads_24 : decode cX9_reads 24 = .ok (.ifCond .eq 5, 3) := by decide +kernel
theorem dX9_reads_27 : decode cX9_reads 27 = .ok (.iload_n 3, 1) := by decide +kernel
theorem dX9_reads_28 : decode cX9_reads 28 = .ok (.ireturn, 1) := by decide +kernel
theorem dX9_reads_29 : decode cX9_reads 29 = .ok (.aload_n 0, 1) := by decide +kernel
theorem dX9_reads_30 : decode cX9_reads 30 = .ok (.getfield 10, 3) := by decide +kernel
theorem dX9_reads_33 : decode cX9_reads 33 = .ok (.getfield 133, 3) := by decide +kernel
theorem dX9_reads_36 : decode cX9_reads 36 = .ok (.bipush 6, 2) := by decide +kernel
theorem dX9_reads_38 : decode cX9_reads 38 = .ok (.if_icmp .le 6, 3) := by decide +kernel
theorem dX9_reads_41 : decode cX9_reads 41 = .ok (.bipush (-3), 2) := by decide +kernel
theorem dX9_reads_43 : decode cX9_reads 43 = .ok (.ireturn, 1) := by decide +kernel
theorem dX9_reads_44 : decode cX9_reads 44 = .ok (.aload_n 0, 1) := by decide +kernel
theorem dX9_reads_45 : decode cX9_reads 45 = .ok (.getfield 40, 3) := by decide +kernel
theorem dX9_reads_48 : decode cX9_reads 48 = .ok (.aload_n 0, 1) := by decide +kernel
theorem dX9_reads_49 : decode cX9_reads 49 = .ok (.getfield 10, 3) := by decide +kernel
theorem dX9_reads_52 : decode cX9_reads 52 = .ok (.aload_n 0, 1) := by decide +kernel
theorem dX9_reads_53 : decode cX9_reads 53 = .ok (.getfield 25, 3) := by decide +kernel
theorem dX9_reads_56 : decode cX9_reads 56 = .ok (.iload_n 1, 1) := by decide +kernel
theorem dX9_reads_57 : decode cX9_reads 57 = .ok (.aaload, 1) := by decide +kernel
theorem dX9_reads_58 : decode cX9_reads 58 = .ok (.invokevirtual 326, 3) := by decide +kernel
theorem dX9_reads_61 : decode cX9_reads 61 = .ok (.istore 4, 2) := by decide +kernel
theorem dX9_reads_63 : decode cX9_reads 63 = .ok (.iload_n 2, 1) := by decide +kernel
theorem dX9_reads_64 : decode cX9_reads 64 = .ok (.ifCond .ne 8, 3) := by decide +kernel
theorem dX9_reads_67 : decode cX9_reads 67 = .ok (.iload 4, 2) := by decide +kernel
theorem dX9_reads_69 : decode cX9_reads 69 = .ok (.goto 10, 3) := by decide +kernel
theorem dX9_reads_72 : decode cX9_reads 72 = .ok (.aload_n 0, 1) := by decide +kernel
theorem dX9_reads_73 : decode cX9_reads 73 = .ok (.getfield 40, 3) := by decide +kernel
theorem dX9_reads_76 : decode cX9_reads 76 = .ok (.getfield 258, 3) := by decide +kernel
theorem dX9_reads_79 : decode cX9_reads 79 = .ok (.ireturn, 1) := by decide +kernel
theorem dX9_nights_0 : decode cX9_nights 0 = .ok (.iload_n 1, 1) := by decide +kernel
theorem dX9_nights_1 : decode cX9_nights 1 = .ok (.iconst 1, 1) := by decide +kernel
theorem dX9_nights_2 : decode cX9_nights 2 = .ok (.if_icmp .lt 16, 3) := by decide +kernel
theorem dX9_nights_5 : decode cX9_nights 5 = .ok (.iload_n 1, 1) := by decide +kernel
theorem dX9_nights_6 : decode cX9_nights 6 = .ok (.bipush 20, 2) := by decide +kernel
theorem dX9_nights_8 : decode cX9_nights 8 = .ok (.if_icmp .gt 10, 3) := by decide +kernel
theorem dX9_nights_11 : decode cX9_nights 11 = .ok (.iload_n 3, 1) := by decide +kernel
theorem dX9_nights_12 : decode cX9_nights 12 = .ok (.invokestatic 249, 3) := by decide +kernel
theorem dX9_nights_15 : decode cX9_nights 15 = .ok (.ifCond .ne 5, 3) := by decide +kernel
theorem dX9_nights_18 : decode cX9_nights 18 = .ok (.iconst (-1), 1) := by decide +kernel
theorem dX9_nights_19 : decode cX9_nights 19 = .ok (.ireturn, 1) := by decide +kernel
theorem dX9_nights_20 : decode cX9_nights 20 = .ok (.aload_n 0, 1) := by decide +kernel
theorem dX9_nights_21 : decode cX9_nights 21 = .ok (.getfield 40, 3) := by decide +kernel
theorem dX9_nights_24 : decode cX9_nights 24 = .ok (.aload_n 0, 1) := by decide +kernel
theorem dX9_nights_25 : decode cX9_nights 25 = .ok (.getfield 10, 3) := by decide +kernel
theorem dX9_nights_28 : decode cX9_nights 28 = .ok (.iload_n 1, 1) := by decide +kernel
theorem dX9_nights_29 : decode cX9_nights 29 = .ok (.iload_n 2, 1) := by decide +kernel
theorem dX9_nights_30 : decode cX9_nights 30 = .ok (.invokevirtual 330, 3) := by decide +kernel
theorem dX9_nights_33 : decode cX9_nights 33 = .ok (.iload_n 3, 1) := by decide +kernel
theorem dX9_nights_34 : decode cX9_nights 34 = .ok (.ifCond .ne 13, 3) := by decide +kernel
theorem dX9_nights_37 : decode cX9_nights 37 = .ok (.aload_n 0, 1) := by decide +kernel
theorem dX9_nights_38 : decode cX9_nights 38 = .ok (.getfield 40, 3) := by decide +kernel
theorem dX9_nights_41 : decode cX9_nights 41 = .ok (.getfield 298, 3) := by decide +kernel
theorem dX9_nights_44 : decode cX9_nights 44 = .ok (.goto 10, 3) := by decide +kernel
theorem dX9_nights_47 : decode cX9_nights 47 = .ok (.aload_n 0, 1) := by decide +kernel
theorem dX9_nights_48 : decode cX9_nights 48 = .ok (.getfield 40, 3) := by decide +kernel
theorem dX9_nights_51 : decode cX9_nights 51 = .ok (.getfield 334, 3) := by decide +kernel
theorem dX9_nights_54 : decode cX9_nights 54 = .ok (.ireturn, 1) := by decide +kernel
theorem dX9_image_0 : decode cX9_image 0 = .ok (.aload_n 0, 1) := by decide +kernel
theorem dX9_image_1 : decode cX9_image 1 = .ok (.getfield 16, 3) := by decide +kernel
theorem dX9_image_4 : decode cX9_image 4 = .ok (.aload_n 0, 1) := by decide +kernel
theorem dX9_image_5 : decode cX9_image 5 = .ok (.getfield 10, 3) := by decide +kernel
theorem dX9_image_8 : decode cX9_image 8 = .ok (.invokevirtual 57, 3) := by decide +kernel
theorem dX9_image_11 : decode cX9_image 11 = .ok (.aload_n 0, 1) := by decide +kernel
theorem dX9_image_12 : decode cX9_image 12 = .ok (.iconst 1, 1) := by decide +kernel
theorem dX9_image_13 : decode cX9_image 13 = .ok (.putfield 19, 3) := by decide +kernel
theorem dX9_image_16 : decode cX9_image 16 = .ok (.aload_n 0, 1) := by decide +kernel
theorem dX9_image_17 : decode cX9_image 17 = .ok (.getfield 10, 3) := by decide +kernel
theorem dX9_image_20 : decode cX9_image 20 = .ok (.getfield 133, 3) := by decide +kernel
theorem dX9_image_23 : decode cX9_image 23 = .ok (.ireturn, 1) := by decide +kernel
theorem dX9_restore_0 : decode cX9_restore 0 = .ok (.aload_n 0, 1) := by decide +kernel
theorem dX9_restore_1 : decode cX9_restore 1 = .ok (.getfield 19, 3) := by decide +kernel
theorem dX9_restore_4 : decode cX9_restore 4 = .ok (.ifCond .ne 6, 3) := by decide +kernel
theorem dX9_restore_7 : decode cX9_restore 7 = .ok (.bipush (-3), 2) := by decide +kernel
theorem dX9_restore_9 : decode cX9_restore 9 = .ok (.ireturn, 1) := by decide +kernel
theorem dX9_restore_10 : decode cX9_restore 10 = .ok (.aload_n 0, 1) := by decide +kernel
theorem dX9_restore_11 : decode cX9_restore 11 = .ok (.getfield 10, 3) := by decide +kernel
theorem dX9_restore_14 : decode cX9_restore 14 = .ok (.aload_n 0, 1) := by decide +kernel
theorem dX9_restore_15 : decode cX9_restore 15 = .ok (.getfield 16, 3) := by decide +kernel
theorem dX9_restore_18 : decode cX9_restore 18 = .ok (.invokevirtual 57, 3) := by decide +kernel
theorem dX9_restore_21 : decode cX9_restore 21 = .ok (.aload_n 0, 1) := by decide +kernel
theorem dX9_restore_22 : decode cX9_restore 22 = .ok (.getfield 10, 3) := by decide +kernel
theorem dX9_restore_25 : decode cX9_restore 25 = .ok (.getfield 133, 3) := by decide +kernel
theorem dX9_restore_28 : decode cX9_restore 28 = .ok (.ireturn, 1) := by decide +kernel
theorem dX9_count_0 : decode cX9_count 0 = .ok (.iload_n 1, 1) := by decide +kernel
theorem dX9_count_1 : decode cX9_count 1 = .ok (.tableswitch 119 0 7 #[47, 55, 65, 75, 85, 95, 103, 111], 47) := by decide +kernel
theorem dX9_count_48 : decode cX9_count 48 = .ok (.aload_n 0, 1) := by decide +kernel
theorem dX9_count_49 : decode cX9_count 49 = .ok (.getfield 10, 3) := by decide +kernel
theorem dX9_count_52 : decode cX9_count 52 = .ok (.getfield 133, 3) := by decide +kernel
theorem dX9_count_55 : decode cX9_count 55 = .ok (.ireturn, 1) := by decide +kernel
theorem dX9_count_56 : decode cX9_count 56 = .ok (.aload_n 0, 1) := by decide +kernel
theorem dX9_count_57 : decode cX9_count 57 = .ok (.getfield 10, 3) := by decide +kernel
theorem dX9_count_60 : decode cX9_count 60 = .ok (.getfield 143, 3) := by decide +kernel
theorem dX9_count_63 : decode cX9_count 63 = .ok (.iconst 0, 1) := by decide +kernel
theorem dX9_count_64 : decode cX9_count 64 = .ok (.iaload, 1) := by decide +kernel
theorem dX9_count_65 : decode cX9_count 65 = .ok (.ireturn, 1) := by decide +kernel
theorem dX9_count_66 : decode cX9_count 66 = .ok (.aload_n 0, 1) := by decide +kernel
theorem dX9_count_67 : decode cX9_count 67 = .ok (.getfield 10, 3) := by decide +kernel
theorem dX9_count_70 : decode cX9_count 70 = .ok (.getfield 143, 3) := by decide +kernel
theorem dX9_count_73 : decode cX9_count 73 = .ok (.iconst 1, 1) := by decide +kernel
theorem dX9_count_74 : decode cX9_count 74 = .ok (.iaload, 1) := by decide +kernel
theorem dX9_count_75 : decode cX9_count 75 = .ok (.ireturn, 1) := by decide +kernel
theorem dX9_count_76 : decode cX9_count 76 = .ok (.aload_n 0, 1) := by decide +kernel
theorem dX9_count_77 : decode cX9_count 77 = .ok (.getfield 10, 3) := by decide +kernel
theorem dX9_count_80 : decode cX9_count 80 = .ok (.getfield 143, 3) := by decide +kernel
theorem dX9_count_83 : decode cX9_count 83 = .ok (.iconst 2, 1) := by decide +kernel
theorem dX9_count_84 : decode cX9_count 84 = .ok (.iaload, 1) := by decide +kernel
theorem dX9_count_85 : decode cX9_count 85 = .ok (.ireturn, 1) := by decide +kernel
theorem dX9_count_86 : decode cX9_count 86 = .ok (.aload_n 0, 1) := by decide +kernel
theorem dX9_count_87 : decode cX9_count 87 = .ok (.getfield 10, 3) := by decide +kernel
theorem dX9_count_90 : decode cX9_count 90 = .ok (.getfield 143, 3) := by decide +kernel
theorem dX9_count_93 : decode cX9_count 93 = .ok (.iconst 3, 1) := by decide +kernel
theorem dX9_count_94 : decode cX9_count 94 = .ok (.iaload, 1) := by decide +kernel
theorem dX9_count_95 : decode cX9_count 95 = .ok (.ireturn, 1) := by decide +kernel
theorem dX9_count_96 : decode cX9_count 96 = .ok (.aload_n 0, 1) := by decide +kernel
theorem dX9_count_97 : decode cX9_count 97 = .ok (.getfield 10, 3) := by decide +kernel
theorem dX9_count_100 : decode cX9_count 100 = .ok (.getfield 337, 3) := by decide +kernel
theorem dX9_count_103 : decode cX9_count 103 = .ok (.ireturn, 1) := by decide +kernel
theorem dX9_count_104 : decode cX9_count 104 = .ok (.aload_n 0, 1) := by decide +kernel
theorem dX9_count_105 : decode cX9_count 105 = .ok (.getfield 10, 3) := by decide +kernel
theorem dX9_count_108 : decode cX9_count 108 = .ok (.getfield 159, 3) := by decide +kernel
theorem dX9_count_111 : decode cX9_count 111 = .ok (.ireturn, 1) := by decide +kernel
theorem dX9_count_112 : decode cX9_count 112 = .ok (.aload_n 0, 1) := by decide +kernel
theorem dX9_count_113 : decode cX9_count 113 = .ok (.getfield 10, 3) := by decide +kernel
theorem dX9_count_116 : decode cX9_count 116 = .ok (.invokevirtual 340, 3) := by decide +kernel
theorem dX9_count_119 : decode cX9_count 119 = .ok (.ireturn, 1) := by decide +kernel
theorem dX9_count_120 : decode cX9_count 120 = .ok (.iconst (-1), 1) := by decide +kernel
theorem dX9_count_121 : decode cX9_count 121 = .ok (.ireturn, 1) := by decide +kernel
theorem dX9_keep_0 : decode cX9_keep 0 = .ok (.iload_n 1, 1) := by decide +kernel
theorem dX9_keep_1 : decode cX9_keep 1 = .ok (.invokestatic 108, 3) := by decide +kernel
theorem dX9_keep_4 : decode cX9_keep 4 = .ok (.ifCond .eq 10, 3) := by decide +kernel
theorem dX9_keep_7 : decode cX9_keep 7 = .ok (.iload_n 2, 1) := by decide +kernel
theorem dX9_keep_8 : decode cX9_keep 8 = .ok (.invokestatic 249, 3) := by decide +kernel
theorem dX9_keep_11 : decode cX9_keep 11 = .ok (.ifCond .ne 5, 3) := by decide +kernel
theorem dX9_keep_14 : decode cX9_keep 14 = .ok (.iconst (-1), 1) := by decide +kernel
theorem dX9_keep_15 : decode cX9_keep 15 = .ok (.ireturn, 1) := by decide +kernel
theorem dX9_keep_16 : decode cX9_keep 16 = .ok (.iload_n 2, 1) := by decide +kernel
theorem dX9_keep_17 : decode cX9_keep 17 = .ok (.ifCond .ne 14, 3) := by decide +kernel
theorem dX9_keep_20 : decode cX9_keep 20 = .ok (.aload_n 0, 1) := by decide +kernel
theorem dX9_keep_21 : decode cX9_keep 21 = .ok (.getfield 25, 3) := by decide +kernel
theorem dX9_keep_24 : decode cX9_keep 24 = .ok (.iload_n 1, 1) := by decide +kernel
theorem dX9_keep_25 : decode cX9_keep 25 = .ok (.aaload, 1) := by decide +kernel
theorem dX9_keep_26 : decode cX9_keep 26 = .ok (.invokevirtual 343, 3) := by decide +kernel
theorem dX9_keep_29 : decode cX9_keep 29 = .ok (.iconst 0, 1) := by decide +kernel
theorem dX9_keep_30 : decode cX9_keep 30 = .ok (.ireturn, 1) := by decide +kernel
theorem dX9_keep_31 : decode cX9_keep 31 = .ok (.iload_n 3, 1) := by decide +kernel
theorem dX9_keep_32 : decode cX9_keep 32 = .ok (.invokestatic 346, 3) := by decide +kernel
theorem dX9_keep_35 : decode cX9_keep 35 = .ok (.ifCond .eq 15, 3) := by decide +kernel
theorem dX9_keep_38 : decode cX9_keep 38 = .ok (.iload 4, 2) := by decide +kernel
theorem dX9_keep_40 : decode cX9_keep 40 = .ok (.ifCond .lt 10, 3) := by decide +kernel
theorem dX9_keep_43 : decode cX9_keep 43 = .ok (.iload 4, 2) := by decide +kernel
theorem dX9_keep_45 : decode cX9_keep 45 = .ok (.bipush 9, 2) := by decide +kernel
theorem dX9_keep_47 : decode cX9_keep 47 = .ok (.if_icmp .le 5, 3) := by decide +kernel
theorem dX9_keep_50 : decode cX9_keep 50 = .ok (.iconst (-1), 1) := by decide +kernel
theorem dX9_keep_51 : decode cX9_keep 51 = .ok (.ireturn, 1) := by decide +kernel
theorem dX9_keep_52 : decode cX9_keep 52 = .ok (.aload_n 0, 1) := by decide +kernel
theorem dX9_keep_53 : decode cX9_keep 53 = .ok (.getfield 25, 3) := by decide +kernel
theorem dX9_keep_56 : decode cX9_keep 56 = .ok (.iload_n 1, 1) := by decide +kernel
theorem dX9_keep_57 : decode cX9_keep 57 = .ok (.aaload, 1) := by decide +kernel
theorem dX9_keep_58 : decode cX9_keep 58 = .ok (.iload_n 3, 1) := by decide +kernel
theorem dX9_keep_59 : decode cX9_keep 59 = .ok (.iload 4, 2) := by decide +kernel
theorem dX9_keep_61 : decode cX9_keep 61 = .ok (.invokevirtual 349, 3) := by decide +kernel
theorem dX9_keep_64 : decode cX9_keep 64 = .ok (.iconst 0, 1) := by decide +kernel
theorem dX9_keep_65 : decode cX9_keep 65 = .ok (.ireturn, 1) := by decide +kernel
theorem dX9_row_0 : decode cX9_row 0 = .ok (.iload_n 1, 1) := by decide +kernel
theorem dX9_row_1 : decode cX9_row 1 = .ok (.invokestatic 108, 3) := by decide +kernel
theorem dX9_row_4 : decode cX9_row 4 = .ok (.ifCond .eq 18, 3) := by decide +kernel
theorem dX9_row_7 : decode cX9_row 7 = .ok (.iload_n 2, 1) := by decide +kernel
theorem dX9_row_8 : decode cX9_row 8 = .ok (.ifCond .lt 14, 3) := by decide +kernel
theorem dX9_row_11 : decode cX9_row 11 = .ok (.iload_n 2, 1) := by decide +kernel
theorem dX9_row_12 : decode cX9_row 12 = .ok (.iconst 2, 1) := by decide +kernel
theorem dX9_row_13 : decode cX9_row 13 = .ok (.if_icmp .gt 9, 3) := by decide +kernel
theorem dX9_row_16 : decode cX9_row 16 = .ok (.iload_n 3, 1) := by decide +kernel
theorem dX9_row_17 : decode cX9_row 17 = .ok (.bipush 100, 2) := by decide +kernel
theorem dX9_row_19 : decode cX9_row 19 = .ok (.if_icmp .le 5, 3) := by decide +kernel
theorem dX9_row_22 : decode cX9_row 22 = .ok (.iconst (-1), 1) := by decide +kernel
theorem dX9_row_23 : decode cX9_row 23 = .ok (.ireturn, 1) := by decide +kernel
theorem dX9_row_24 : decode cX9_row 24 = .ok (.iload_n 3, 1) := by decide +kernel
theorem dX9_row_25 : decode cX9_row 25 = .ok (.ifCond .ge 6, 3) := by decide +kernel
theorem dX9_row_28 : decode cX9_row 28 = .ok (.bipush (-14), 2) := by decide +kernel
theorem dX9_row_30 : decode cX9_row 30 = .ok (.ireturn, 1) := by decide +kernel
theorem dX9_row_31 : decode cX9_row 31 = .ok (.aload_n 0, 1) := by decide +kernel
theorem dX9_row_32 : decode cX9_row 32 = .ok (.getfield 25, 3) := by decide +kernel
theorem dX9_row_35 : decode cX9_row 35 = .ok (.iload_n 1, 1) := by decide +kernel
theorem dX9_row_36 : decode cX9_row 36 = .ok (.aaload, 1) := by decide +kernel
theorem dX9_row_37 : decode cX9_row 37 = .ok (.iload_n 2, 1) := by decide +kernel
theorem dX9_row_38 : decode cX9_row 38 = .ok (.iload_n 3, 1) := by decide +kernel
theorem dX9_row_39 : decode cX9_row 39 = .ok (.invokevirtual 353, 3) := by decide +kernel
theorem dX9_row_42 : decode cX9_row 42 = .ok (.iconst 0, 1) := by decide +kernel
theorem dX9_row_43 : decode cX9_row 43 = .ok (.ireturn, 1) := by decide +kernel
theorem dX9_put_0 : decode cX9_put 0 = .ok (.aload_n 0, 1) := by decide +kernel
theorem dX9_put_1 : decode cX9_put 1 = .ok (.iload_n 1, 1) := by decide +kernel
theorem dX9_put_2 : decode cX9_put 2 = .ok (.iconst 2, 1) := by decide +kernel
theorem dX9_put_3 : decode cX9_put 3 = .ok (.invokevirtual 114, 3) := by decide +kernel
theorem dX9_put_6 : decode cX9_put 6 = .ok (.istore 4, 2) := by decide +kernel
theorem dX9_put_8 : decode cX9_put 8 = .ok (.iload 4, 2) := by decide +kernel
theorem dX9_put_10 : decode cX9_put 10 = .ok (.ifCond .eq 6, 3) := by decide +kernel
theorem dX9_put_13 : decode cX9_put 13 = .ok (.iload 4, 2) := by decide +kernel
theorem dX9_put_15 : decode cX9_put 15 = .ok (.ireturn, 1) := by decide +kernel
theorem dX9_put_16 : decode cX9_put 16 = .ok (.aload_n 0, 1) := by decide +kernel
theorem dX9_put_17 : decode cX9_put 17 = .ok (.getfield 25, 3) := by decide +kernel
theorem dX9_put_20 : decode cX9_put 20 = .ok (.iload_n 1, 1) := by decide +kernel
theorem dX9_put_21 : decode cX9_put 21 = .ok (.aaload, 1) := by decide +kernel
theorem dX9_put_22 : decode cX9_put 22 = .ok (.iload_n 2, 1) := by decide +kernel
theorem dX9_put_23 : decode cX9_put 23 = .ok (.invokevirtual 356, 3) := by decide +kernel
theorem dX9_put_26 : decode cX9_put 26 = .ok (.ifCond .ne 6, 3) := by decide +kernel
theorem dX9_put_29 : decode cX9_put 29 = .ok (.bipush (-13), 2) := by decide +kernel
theorem dX9_put_31 : decode cX9_put 31 = .ok (.ireturn, 1) := by decide +kernel
theorem dX9_put_32 : decode cX9_put 32 = .ok (.aload_n 0, 1) := by decide +kernel
theorem dX9_put_33 : decode cX9_put 33 = .ok (.getfield 25, 3) := by decide +kernel
theorem dX9_put_36 : decode cX9_put 36 = .ok (.iload_n 1, 1) := by decide +kernel
theorem dX9_put_37 : decode cX9_put 37 = .ok (.aaload, 1) := by decide +kernel
theorem dX9_put_38 : decode cX9_put 38 = .ok (.getfield 149, 3) := by decide +kernel
theorem dX9_put_41 : decode cX9_put 41 = .ok (.iload_n 2, 1) := by decide +kernel
theorem dX9_put_42 : decode cX9_put 42 = .ok (.aload_n 0, 1) := by decide +kernel
theorem dX9_put_43 : decode cX9_put 43 = .ok (.getfield 25, 3) := by decide +kernel
theorem dX9_put_46 : decode cX9_put 46 = .ok (.iload_n 1, 1) := by decide +kernel
theorem dX9_put_47 : decode cX9_put 47 = .ok (.aaload, 1) := by decide +kernel
theorem dX9_put_48 : decode cX9_put 48 = .ok (.iload_n 3, 1) := by decide +kernel
theorem dX9_put_49 : decode cX9_put 49 = .ok (.invokevirtual 359, 3) := by decide +kernel
theorem dX9_put_52 : decode cX9_put 52 = .ok (.iastore, 1) := by decide +kernel
theorem dX9_put_53 : decode cX9_put 53 = .ok (.iconst 0, 1) := by decide +kernel
theorem dX9_put_54 : decode cX9_put 54 = .ok (.ireturn, 1) := by decide +kernel
theorem dX9_element_0 : decode cX9_element 0 = .ok (.iload_n 1, 1) := by decide +kernel
theorem dX9_element_1 : decode cX9_element 1 = .ok (.invokestatic 108, 3) := by decide +kernel
theorem dX9_element_4 : decode cX9_element 4 = .ok (.ifCond .ne 14, 3) := by decide +kernel
theorem dX9_element_7 : decode cX9_element 7 = .ok (.new 362, 3) := by decide +kernel
theorem dX9_element_10 : decode cX9_element 10 = .ok (.dup, 1) := by decide +kernel
theorem dX9_element_11 : decode cX9_element 11 = .ok (.ldc_w 364, 3) := by decide +kernel
theorem dX9_element_14 : decode cX9_element 14 = .ok (.invokespecial 366, 3) := by decide +kernel
theorem dX9_element_17 : decode cX9_element 17 = .ok (.athrow, 1) := by decide +kernel
theorem dX9_element_18 : decode cX9_element 18 = .ok (.aload_n 0, 1) := by decide +kernel
theorem dX9_element_19 : decode cX9_element 19 = .ok (.iload_n 1, 1) := by decide +kernel
theorem dX9_element_20 : decode cX9_element 20 = .ok (.iconst 2, 1) := by decide +kernel
theorem dX9_element_21 : decode cX9_element 21 = .ok (.invokevirtual 114, 3) := by decide +kernel
theorem dX9_element_24 : decode cX9_element 24 = .ok (.ifCond .ne 16, 3) := by decide +kernel
theorem dX9_element_27 : decode cX9_element 27 = .ok (.aload_n 0, 1) := by decide +kernel
theorem dX9_element_28 : decode cX9_element 28 = .ok (.getfield 25, 3) := by decide +kernel
theorem dX9_element_31 : decode cX9_element 31 = .ok (.iload_n 1, 1) := by decide +kernel
theorem dX9_element_32 : decode cX9_element 32 = .ok (.aaload, 1) := by decide +kernel
theorem dX9_element_33 : decode cX9_element 33 = .ok (.iload_n 2, 1) := by decide +kernel
theorem dX9_element_34 : decode cX9_element 34 = .ok (.invokevirtual 356, 3) := by decide +kernel
theorem dX9_element_37 : decode cX9_element 37 = .ok (.ifCond .ne 14, 3) := by decide +kernel
theorem dX9_element_40 : decode cX9_element 40 = .ok (.new 369, 3) := by decide +kernel
theorem dX9_element_43 : decode cX9_element 43 = .ok (.dup, 1) := by decide +kernel
theorem dX9_element_44 : decode cX9_element 44 = .ok (.ldc_w 371, 3) := by decide +kernel
theorem dX9_element_47 : decode cX9_element 47 = .ok (.invokespecial 373, 3) := by decide +kernel
theorem dX9_element_50 : decode cX9_element 50 = .ok (.athrow, 1) := by decide +kernel
theorem dX9_element_51 : decode cX9_element 51 = .ok (.aload_n 0, 1) := by decide +kernel
theorem dX9_element_52 : decode cX9_element 52 = .ok (.getfield 25, 3) := by decide +kernel
theorem dX9_element_55 : decode cX9_element 55 = .ok (.iload_n 1, 1) := by decide +kernel
theorem dX9_element_56 : decode cX9_element 56 = .ok (.aaload, 1) := by decide +kernel
theorem dX9_element_57 : decode cX9_element 57 = .ok (.getfield 149, 3) := by decide +kernel
theorem dX9_element_60 : decode cX9_element 60 = .ok (.iload_n 2, 1) := by decide +kernel
theorem dX9_element_61 : decode cX9_element 61 = .ok (.iaload, 1) := by decide +kernel
theorem dX9_element_62 : decode cX9_element 62 = .ok (.i2l, 1) := by decide +kernel
theorem dX9_element_63 : decode cX9_element 63 = .ok (.lreturn, 1) := by decide +kernel
theorem dX9_copy_0 : decode cX9_copy 0 = .ok (.iload_n 1, 1) := by decide +kernel
theorem dX9_copy_1 : decode cX9_copy 1 = .ok (.invokestatic 108, 3) := by decide +kernel
theorem dX9_copy_4 : decode cX9_copy 4 = .ok (.ifCond .eq 10, 3) := by decide +kernel
theorem dX9_copy_7 : decode cX9_copy 7 = .ok (.iload_n 3, 1) := by decide +kernel
theorem dX9_copy_8 : decode cX9_copy 8 = .ok (.invokestatic 108, 3) := by decide +kernel
theorem dX9_copy_11 : decode cX9_copy 11 = .ok (.ifCond .ne 5, 3) := by decide +kernel
theorem dX9_copy_14 : decode cX9_copy 14 = .ok (.iconst (-1), 1) := by decide +kernel
theorem dX9_copy_15 : decode cX9_copy 15 = .ok (.ireturn, 1) := by decide +kernel
theorem dX9_copy_16 : decode cX9_copy 16 = .ok (.aload_n 0, 1) := by decide +kernel
theorem dX9_copy_17 : decode cX9_copy 17 = .ok (.getfield 25, 3) := by decide +kernel
theorem dX9_copy_20 : decode cX9_copy 20 = .ok (.iload_n 1, 1) := by decide +kernel
theorem dX9_copy_21 : decode cX9_copy 21 = .ok (.aaload, 1) := by decide +kernel
theorem dX9_copy_22 : decode cX9_copy 22 = .ok (.astore 6, 2) := by decide +kernel
theorem dX9_copy_24 : decode cX9_copy 24 = .ok (.aload_n 0, 1) := by decide +kernel
theorem dX9_copy_25 : decode cX9_copy 25 = .ok (.getfield 25, 3) := by decide +kernel
theorem dX9_copy_28 : decode cX9_copy 28 = .ok (.iload_n 3, 1) := by decide +kernel
theorem dX9_copy_29 : decode cX9_copy 29 = .ok (.aaload, 1) := by decide +kernel
theorem dX9_copy_30 : decode cX9_copy 30 = .ok (.astore 7, 2) := by decide +kernel
theorem dX9_copy_32 : decode cX9_copy 32 = .ok (.aload 6, 2) := by decide +kernel
theorem dX9_copy_34 : decode cX9_copy 34 = .ok (.getfield 374, 3) := by decide +kernel
theorem dX9_copy_37 : decode cX9_copy 37 = .ok (.ifCond .eq 11, 3) := by decide +kernel
theorem dX9_copy_40 : decode cX9_copy 40 = .ok (.aload 7, 2) := by decide +kernel
theorem dX9_copy_42 : decode cX9_copy 42 = .ok (.getfield 374, 3) := by decide +kernel
theorem dX9_copy_45 : decode cX9_copy 45 = .ok (.ifCond .ne 6, 3) := by decide +kernel
theorem dX9_copy_48 : decode cX9_copy 48 = .ok (.bipush (-11), 2) := by decide +kernel
theorem dX9_copy_50 : decode cX9_copy 50 = .ok (.ireturn, 1) := by decide +kernel
theorem dX9_copy_51 : decode cX9_copy 51 = .ok (.aload 6, 2) := by decide +kernel
theorem dX9_copy_53 : decode cX9_copy 53 = .ok (.getfield 374, 3) := by decide +kernel
theorem dX9_copy_56 : decode cX9_copy 56 = .ok (.iconst 2, 1) := by decide +kernel
theorem dX9_copy_57 : decode cX9_copy 57 = .ok (.if_icmp .ne 25, 3) := by decide +kernel
theorem dX9_copy_60 : decode cX9_copy 60 = .ok (.aload 7, 2) := by decide +kernel
theorem dX9_copy_62 : decode cX9_copy 62 = .ok (.getfield 374, 3) := by decide +kernel
theorem dX9_copy_65 : decode cX9_copy 65 = .ok (.iconst 2, 1) := by decide +kernel
theorem dX9_copy_66 : decode cX9_copy 66 = .ok (.if_icmp .ne 16, 3) := by decide +kernel
theorem dX9_copy_69 : decode cX9_copy 69 = .ok (.aload 6, 2) := by decide +kernel
theorem dX9_copy_71 : decode cX9_copy 71 = .ok (.getfield 377, 3) := by decide +kernel
theorem dX9_copy_74 : decode cX9_copy 74 = .ok (.aload 7, 2) := by decide +kernel
theorem dX9_copy_76 : decode cX9_copy 76 = .ok (.getfield 377, 3) := by decide +kernel
theorem dX9_copy_79 : decode cX9_copy 79 = .ok (.if_icmp .eq 6, 3) := by decide +kernel
theorem dX9_copy_82 : decode cX9_copy 82 = .ok (.bipush (-12), 2) := by decide +kernel
theorem dX9_copy_84 : decode cX9_copy 84 = .ok (.ireturn, 1) := by decide +kernel
theorem dX9_copy_85 : decode cX9_copy 85 = .ok (.aload 6, 2) := by decide +kernel
theorem dX9_copy_87 : decode cX9_copy 87 = .ok (.iload_n 2, 1) := by decide +kernel
theorem dX9_copy_88 : decode cX9_copy 88 = .ok (.iload 5, 2) := by decide +kernel
theorem dX9_copy_90 : decode cX9_copy 90 = .ok (.invokevirtual 380, 3) := by decide +kernel
theorem dX9_copy_93 : decode cX9_copy 93 = .ok (.ifCond .eq 15, 3) := by decide +kernel
theorem dX9_copy_96 : decode cX9_copy 96 = .ok (.aload 7, 2) := by decide +kernel
theorem dX9_copy_98 : decode cX9_copy 98 = .ok (.iload 4, 2) := by decide +kernel
theorem dX9_copy_100 : decode cX9_copy 100 = .ok (.iload 5, 2) := by decide +kernel
theorem dX9_copy_102 : decode cX9_copy 102 = .ok (.invokevirtual 380, 3) := by decide +kernel
theorem dX9_copy_105 : decode cX9_copy 105 = .ok (.ifCond .ne 6, 3) := by decide +kernel
theorem dX9_copy_108 : decode cX9_copy 108 = .ok (.bipush (-13), 2) := by decide +kernel
theorem dX9_copy_110 : decode cX9_copy 110 = .ok (.ireturn, 1) := by decide +kernel
theorem dX9_copy_111 : decode cX9_copy 111 = .ok (.aload 6, 2) := by decide +kernel
theorem dX9_copy_113 : decode cX9_copy 113 = .ok (.getfield 149, 3) := by decide +kernel
theorem dX9_copy_116 : decode cX9_copy 116 = .ok (.iload_n 2, 1) := by decide +kernel
theorem dX9_copy_117 : decode cX9_copy 117 = .ok (.aload 7, 2) := by decide +kernel
theorem dX9_copy_119 : decode cX9_copy 119 = .ok (.getfield 149, 3) := by decide +kernel
theorem dX9_copy_122 : decode cX9_copy 122 = .ok (.iload 4, 2) := by decide +kernel
theorem dX9_copy_124 : decode cX9_copy 124 = .ok (.iload 5, 2) := by decide +kernel
theorem dX9_copy_126 : decode cX9_copy 126 = .ok (.invokestatic 383, 3) := by decide +kernel
theorem dX9_copy_129 : decode cX9_copy 129 = .ok (.iload 5, 2) := by decide +kernel
theorem dX9_copy_131 : decode cX9_copy 131 = .ok (.ireturn, 1) := by decide +kernel
theorem dX9_cost_0 : decode cX9_cost 0 = .ok (.aload_n 0, 1) := by decide +kernel
theorem dX9_cost_1 : decode cX9_cost 1 = .ok (.iload_n 1, 1) := by decide +kernel
theorem dX9_cost_2 : decode cX9_cost 2 = .ok (.iconst 1, 1) := by decide +kernel
theorem dX9_cost_3 : decode cX9_cost 3 = .ok (.invokevirtual 114, 3) := by decide +kernel
theorem dX9_cost_6 : decode cX9_cost 6 = .ok (.istore_n 2, 1) := by decide +kernel
theorem dX9_cost_7 : decode cX9_cost 7 = .ok (.iload_n 2, 1) := by decide +kernel
theorem dX9_cost_8 : decode cX9_cost 8 = .ok (.ifCond .eq 7, 3) := by decide +kernel
theorem dX9_cost_11 : decode cX9_cost 11 = .ok (.iload_n 2, 1) := by decide +kernel
theorem dX9_cost_12 : decode cX9_cost 12 = .ok (.goto 24, 3) := by decide +kernel
theorem dX9_cost_15 : decode cX9_cost 15 = .ok (.aload_n 0, 1) := by decide +kernel
theorem dX9_cost_16 : decode cX9_cost 16 = .ok (.getfield 25, 3) := by decide +kernel
theorem dX9_cost_19 : decode cX9_cost 19 = .ok (.iload_n 1, 1) := by decide +kernel
theorem dX9_cost_20 : decode cX9_cost 20 = .ok (.aaload, 1) := by decide +kernel
theorem dX9_cost_21 : decode cX9_cost 21 = .ok (.getfield 118, 3) := by decide +kernel
theorem dX9_cost_24 : decode cX9_cost 24 = .ok (.aload_n 0, 1) := by decide +kernel
theorem dX9_cost_25 : decode cX9_cost 25 = .ok (.getfield 25, 3) := by decide +kernel
theorem dX9_cost_28 : decode cX9_cost 28 = .ok (.iload_n 1, 1) := by decide +kernel
theorem dX9_cost_29 : decode cX9_cost 29 = .ok (.aaload, 1) := by decide +kernel
theorem dX9_cost_30 : decode cX9_cost 30 = .ok (.getfield 122, 3) := by decide +kernel
theorem dX9_cost_33 : decode cX9_cost 33 = .ok (.invokestatic 389, 3) := by decide +kernel
theorem dX9_cost_36 : decode cX9_cost 36 = .ok (.ireturn, 1) := by decide +kernel
theorem dX9_toss_0 : decode cX9_toss 0 = .ok (.aload_n 0, 1) := by decide +kernel
theorem dX9_toss_1 : decode cX9_toss 1 = .ok (.iload_n 1, 1) := by decide +kernel
theorem dX9_toss_2 : decode cX9_toss 2 = .ok (.iconst 1, 1) := by decide +kernel
theorem dX9_toss_3 : decode cX9_toss 3 = .ok (.invokevirtual 114, 3) := by decide +kernel
theorem dX9_toss_6 : decode cX9_toss 6 = .ok (.istore_n 2, 1) := by decide +kernel
theorem dX9_toss_7 : decode cX9_toss 7 = .ok (.iload_n 2, 1) := by decide +kernel
theorem dX9_toss_8 : decode cX9_toss 8 = .ok (.ifCond .eq 5, 3) := by decide +kernel
theorem dX9_toss_11 : decode cX9_toss 11 = .ok (.iload_n 2, 1) := by decide +kernel
theorem dX9_toss_12 : decode cX9_toss 12 = .ok (.ireturn, 1) := by decide +kernel
theorem dX9_toss_13 : decode cX9_toss 13 = .ok (.aload_n 0, 1) := by decide +kernel
theorem dX9_toss_14 : decode cX9_toss 14 = .ok (.getfield 25, 3) := by decide +kernel
theorem dX9_toss_17 : decode cX9_toss 17 = .ok (.iload_n 1, 1) := by decide +kernel
theorem dX9_toss_18 : decode cX9_toss 18 = .ok (.aaload, 1) := by decide +kernel
theorem dX9_toss_19 : decode cX9_toss 19 = .ok (.getfield 118, 3) := by decide +kernel
theorem dX9_toss_22 : decode cX9_toss 22 = .ok (.istore_n 3, 1) := by decide +kernel
theorem dX9_toss_23 : decode cX9_toss 23 = .ok (.aload_n 0, 1) := by decide +kernel
theorem dX9_toss_24 : decode cX9_toss 24 = .ok (.getfield 25, 3) := by decide +kernel
theorem dX9_toss_27 : decode cX9_toss 27 = .ok (.iload_n 1, 1) := by decide +kernel
theorem dX9_toss_28 : decode cX9_toss 28 = .ok (.aaload, 1) := by decide +kernel
theorem dX9_toss_29 : decode cX9_toss 29 = .ok (.getfield 122, 3) := by decide +kernel
theorem dX9_toss_32 : decode cX9_toss 32 = .ok (.istore 4, 2) := by decide +kernel
theorem dX9_toss_34 : decode cX9_toss 34 = .ok (.iload_n 3, 1) := by decide +kernel
theorem dX9_toss_35 : decode cX9_toss 35 = .ok (.iload 4, 2) := by decide +kernel
theorem dX9_toss_37 : decode cX9_toss 37 = .ok (.invokestatic 392, 3) := by decide +kernel
theorem dX9_toss_40 : decode cX9_toss 40 = .ok (.goto 29, 3) := by decide +kernel
theorem dX9_toss_43 : decode cX9_toss 43 = .ok (.astore 5, 2) := by decide +kernel
theorem dX9_toss_45 : decode cX9_toss 45 = .ok (.sipush 200, 3) := by decide +kernel
theorem dX9_toss_48 : decode cX9_toss 48 = .ok (.iload_n 3, 1) := by decide +kernel
theorem dX9_toss_49 : decode cX9_toss 49 = .ok (.iload 4, 2) := by decide +kernel
theorem dX9_toss_51 : decode cX9_toss 51 = .ok (.invokestatic 389, 3) := by decide +kernel
theorem dX9_toss_54 : decode cX9_toss 54 = .ok (.iadd, 1) := by decide +kernel
theorem dX9_toss_55 : decode cX9_toss 55 = .ok (.ireturn, 1) := by decide +kernel
theorem dX9_toss_56 : decode cX9_toss 56 = .ok (.astore 5, 2) := by decide +kernel
theorem dX9_toss_58 : decode cX9_toss 58 = .ok (.bipush 100, 2) := by decide +kernel
theorem dX9_toss_60 : decode cX9_toss 60 = .ok (.iload 4, 2) := by decide +kernel
theorem dX9_toss_62 : decode cX9_toss 62 = .ok (.iadd, 1) := by decide +kernel
theorem dX9_toss_63 : decode cX9_toss 63 = .ok (.ireturn, 1) := by decide +kernel
theorem dX9_toss_64 : decode cX9_toss 64 = .ok (.astore 5, 2) := by decide +kernel
theorem dX9_toss_66 : decode cX9_toss 66 = .ok (.iload 4, 2) := by decide +kernel
theorem dX9_toss_68 : decode cX9_toss 68 = .ok (.ireturn, 1) := by decide +kernel
theorem dX9_toss_69 : decode cX9_toss 69 = .ok (.bipush (-15), 2) := by decide +kernel
theorem dX9_toss_71 : decode cX9_toss 71 = .ok (.ireturn, 1) := by decide +kernel
theorem dX9_isShelf_0 : decode cX9_isShelf 0 = .ok (.iload_n 0, 1) := by decide +kernel
theorem dX9_isShelf_1 : decode cX9_isShelf 1 = .ok (.ifCond .lt 13, 3) := by decide +kernel
theorem dX9_isShelf_4 : decode cX9_isShelf 4 = .ok (.iload_n 0, 1) := by decide +kernel
theorem dX9_isShelf_5 : decode cX9_isShelf 5 = .ok (.bipush 8, 2) := by decide +kernel
theorem dX9_isShelf_7 : decode cX9_isShelf 7 = .ok (.if_icmp .ge 7, 3) := by decide +kernel
theorem dX9_isShelf_10 : decode cX9_isShelf 10 = .ok (.iconst 1, 1) := by decide +kernel
theorem dX9_isShelf_11 : decode cX9_isShelf 11 = .ok (.goto 4, 3) := by decide +kernel
theorem dX9_isShelf_14 : decode cX9_isShelf 14 = .ok (.iconst 0, 1) := by decide +kernel
theorem dX9_isShelf_15 : decode cX9_isShelf 15 = .ok (.ireturn, 1) := by decide +kernel
theorem dX9_isHeap_0 : decode cX9_isHeap 0 = .ok (.iload_n 0, 1) := by decide +kernel
theorem dX9_isHeap_1 : decode cX9_isHeap 1 = .ok (.ifCond .lt 12, 3) := by decide +kernel
theorem dX9_isHeap_4 : decode cX9_isHeap 4 = .ok (.iload_n 0, 1) := by decide +kernel
theorem dX9_isHeap_5 : decode cX9_isHeap 5 = .ok (.iconst 3, 1) := by decide +kernel
theorem dX9_isHeap_6 : decode cX9_isHeap 6 = .ok (.if_icmp .ge 7, 3) := by decide +kernel
theorem dX9_isHeap_9 : decode cX9_isHeap 9 = .ok (.iconst 1, 1) := by decide +kernel
theorem dX9_isHeap_10 : decode cX9_isHeap 10 = .ok (.goto 4, 3) := by decide +kernel
theorem dX9_isHeap_13 : decode cX9_isHeap 13 = .ok (.iconst 0, 1) := by decide +kernel
theorem dX9_isHeap_14 : decode cX9_isHeap 14 = .ok (.ireturn, 1) := by decide +kernel
theorem dX9_isMinute_0 : decode cX9_isMinute 0 = .ok (.iload_n 0, 1) := by decide +kernel
theorem dX9_isMinute_1 : decode cX9_isMinute 1 = .ok (.ifCond .lt 13, 3) := by decide +kernel
theorem dX9_isMinute_4 : decode cX9_isMinute 4 = .ok (.iload_n 0, 1) := by decide +kernel
theorem dX9_isMinute_5 : decode cX9_isMinute 5 = .ok (.bipush 99, 2) := by decide +kernel
theorem dX9_isMinute_7 : decode cX9_isMinute 7 = .ok (.if_icmp .gt 7, 3) := by decide +kernel
theorem dX9_isMinute_10 : decode cX9_isMinute 10 = .ok (.iconst 1, 1) := by decide +kernel
theorem dX9_isMinute_11 : decode cX9_isMinute 11 = .ok (.goto 4, 3) := by decide +kernel
theorem dX9_isMinute_14 : decode cX9_isMinute 14 = .ok (.iconst 0, 1) := by decide +kernel
theorem dX9_isMinute_15 : decode cX9_isMinute 15 = .ok (.ireturn, 1) := by decide +kernel
theorem dX9_isFirstOrSecond_0 : decode cX9_isFirstOrSecond 0 = .ok (.iload_n 0, 1) := by decide +kernel
theorem dX9_isFirstOrSecond_1 : decode cX9_isFirstOrSecond 1 = .ok (.ifCond .eq 8, 3) := by decide +kernel
theorem dX9_isFirstOrSecond_4 : decode cX9_isFirstOrSecond 4 = .ok (.iload_n 0, 1) := by decide +kernel
theorem dX9_isFirstOrSecond_5 : decode cX9_isFirstOrSecond 5 = .ok (.iconst 1, 1) := by decide +kernel
theorem dX9_isFirstOrSecond_6 : decode cX9_isFirstOrSecond 6 = .ok (.if_icmp .ne 7, 3) := by decide +kernel
theorem dX9_isFirstOrSecond_9 : decode cX9_isFirstOrSecond 9 = .ok (.iconst 1, 1) := by decide +kernel
theorem dX9_isFirstOrSecond_10 : decode cX9_isFirstOrSecond 10 = .ok (.goto 4, 3) := by decide +kernel
theorem dX9_isFirstOrSecond_13 : decode cX9_isFirstOrSecond 13 = .ok (.iconst 0, 1) := by decide +kernel
theorem dX9_isFirstOrSecond_14 : decode cX9_isFirstOrSecond 14 = .ok (.ireturn, 1) := by decide +kernel
theorem dX9_areHooks_0 : decode cX9_areHooks 0 = .ok (.iload_n 1, 1) := by decide +kernel
theorem dX9_areHooks_1 : decode cX9_areHooks 1 = .ok (.ifCond .lt 23, 3) := by decide +kernel
theorem dX9_areHooks_4 : decode cX9_areHooks 4 = .ok (.iload_n 1, 1) := by decide +kernel
theorem dX9_areHooks_5 : decode cX9_areHooks 5 = .ok (.iconst 3, 1) := by decide +kernel
theorem dX9_areHooks_6 : decode cX9_areHooks 6 = .ok (.if_icmp .gt 18, 3) := by decide +kernel
theorem dX9_areHooks_9 : decode cX9_areHooks 9 = .ok (.iload_n 1, 1) := by decide +kernel
theorem dX9_areHooks_10 : decode cX9_areHooks 10 = .ok (.aload_n 0, 1) := by decide +kernel
theorem dX9_areHooks_11 : decode cX9_areHooks 11 = .ok (.getfield 10, 3) := by decide +kernel
theorem dX9_areHooks_14 : decode cX9_areHooks 14 = .ok (.getfield 133, 3) := by decide +kernel
theorem dX9_areHooks_17 : decode cX9_areHooks 17 = .ok (.if_icmp .gt 7, 3) := by decide +kernel
theorem dX9_areHooks_20 : decode cX9_areHooks 20 = .ok (.iconst 1, 1) := by decide +kernel
theorem dX9_areHooks_21 : decode cX9_areHooks 21 = .ok (.goto 4, 3) := by decide +kernel
theorem dX9_areHooks_24 : decode cX9_areHooks 24 = .ok (.iconst 0, 1) := by decide +kernel
theorem dX9_areHooks_25 : decode cX9_areHooks 25 = .ok (.ireturn, 1) := by decide +kernel
theorem dX9_refusalOf_0 : decode cX9_refusalOf 0 = .ok (.iload_n 1, 1) := by decide +kernel
theorem dX9_refusalOf_1 : decode cX9_refusalOf 1 = .ok (.invokestatic 108, 3) := by decide +kernel
theorem dX9_refusalOf_4 : decode cX9_refusalOf 4 = .ok (.ifCond .ne 5, 3) := by decide +kernel
theorem dX9_refusalOf_7 : decode cX9_refusalOf 7 = .ok (.iconst (-1), 1) := by decide +kernel
theorem dX9_refusalOf_8 : decode cX9_refusalOf 8 = .ok (.ireturn, 1) := by decide +kernel
theorem dX9_refusalOf_9 : decode cX9_refusalOf 9 = .ok (.aload_n 0, 1) := by decide +kernel
theorem dX9_refusalOf_10 : decode cX9_refusalOf 10 = .ok (.getfield 25, 3) := by decide +kernel
theorem dX9_refusalOf_13 : decode cX9_refusalOf 13 = .ok (.iload_n 1, 1) := by decide +kernel
theorem dX9_refusalOf_14 : decode cX9_refusalOf 14 = .ok (.aaload, 1) := by decide +kernel
theorem dX9_refusalOf_15 : decode cX9_refusalOf 15 = .ok (.getfield 374, 3) := by decide +kernel
theorem dX9_refusalOf_18 : decode cX9_refusalOf 18 = .ok (.ifCond .ne 6, 3) := by decide +kernel
theorem dX9_refusalOf_21 : decode cX9_refusalOf 21 = .ok (.bipush (-11), 2) := by decide +kernel
theorem dX9_refusalOf_23 : decode cX9_refusalOf 23 = .ok (.ireturn, 1) := by decide +kernel
theorem dX9_refusalOf_24 : decode cX9_refusalOf 24 = .ok (.aload_n 0, 1) := by decide +kernel
theorem dX9_refusalOf_25 : decode cX9_refusalOf 25 = .ok (.getfield 25, 3) := by decide +kernel
theorem dX9_refusalOf_28 : decode cX9_refusalOf 28 = .ok (.iload_n 1, 1) := by decide +kernel
theorem dX9_refusalOf_29 : decode cX9_refusalOf 29 = .ok (.aaload, 1) := by decide +kernel
theorem dX9_refusalOf_30 : decode cX9_refusalOf 30 = .ok (.getfield 374, 3) := by decide +kernel
theorem dX9_refusalOf_33 : decode cX9_refusalOf 33 = .ok (.iload_n 2, 1) := by decide +kernel
theorem dX9_refusalOf_34 : decode cX9_refusalOf 34 = .ok (.if_icmp .ne 7, 3) := by decide +kernel
theorem dX9_refusalOf_37 : decode cX9_refusalOf 37 = .ok (.iconst 0, 1) := by decide +kernel
theorem dX9_refusalOf_38 : decode cX9_refusalOf 38 = .ok (.goto 5, 3) := by decide +kernel
theorem dX9_refusalOf_41 : decode cX9_refusalOf 41 = .ok (.bipush (-12), 2) := by decide +kernel
theorem dX9_refusalOf_43 : decode cX9_refusalOf 43 = .ok (.ireturn, 1) := by decide +kernel
theorem dX9_refusalOfBytes_0 : decode cX9_refusalOfBytes 0 = .ok (.aload_n 0, 1) := by decide +kernel
theorem dX9_refusalOfBytes_1 : decode cX9_refusalOfBytes 1 = .ok (.iload_n 1, 1) := by decide +kernel
theorem dX9_refusalOfBytes_2 : decode cX9_refusalOfBytes 2 = .ok (.iconst 2, 1) := by decide +kernel
theorem dX9_refusalOfBytes_3 : decode cX9_refusalOfBytes 3 = .ok (.invokevirtual 114, 3) := by decide +kernel
theorem dX9_refusalOfBytes_6 : decode cX9_refusalOfBytes 6 = .ok (.istore_n 2, 1) := by decide +kernel
theorem dX9_refusalOfBytes_7 : decode cX9_refusalOfBytes 7 = .ok (.iload_n 2, 1) := by decide +kernel
theorem dX9_refusalOfBytes_8 : decode cX9_refusalOfBytes 8 = .ok (.ifCond .eq 5, 3) := by decide +kernel
theorem dX9_refusalOfBytes_11 : decode cX9_refusalOfBytes 11 = .ok (.iload_n 2, 1) := by decide +kernel
theorem dX9_refusalOfBytes_12 : decode cX9_refusalOfBytes 12 = .ok (.ireturn, 1) := by decide +kernel
theorem dX9_refusalOfBytes_13 : decode cX9_refusalOfBytes 13 = .ok (.aload_n 0, 1) := by decide +kernel
theorem dX9_refusalOfBytes_14 : decode cX9_refusalOfBytes 14 = .ok (.getfield 25, 3) := by decide +kernel
theorem dX9_refusalOfBytes_17 : decode cX9_refusalOfBytes 17 = .ok (.iload_n 1, 1) := by decide +kernel
theorem dX9_refusalOfBytes_18 : decode cX9_refusalOfBytes 18 = .ok (.aaload, 1) := by decide +kernel
theorem dX9_refusalOfBytes_19 : decode cX9_refusalOfBytes 19 = .ok (.getfield 377, 3) := by decide +kernel
theorem dX9_refusalOfBytes_22 : decode cX9_refusalOfBytes 22 = .ok (.ifCond .ne 7, 3) := by decide +kernel
theorem dX9_refusalOfBytes_25 : decode cX9_refusalOfBytes 25 = .ok (.iconst 0, 1) := by decide +kernel
theorem dX9_refusalOfBytes_26 : decode cX9_refusalOfBytes 26 = .ok (.goto 5, 3) := by decide +kernel
theorem dX9_refusalOfBytes_29 : decode cX9_refusalOfBytes 29 = .ok (.bipush (-12), 2) := by decide +kernel
theorem dX9_refusalOfBytes_31 : decode cX9_refusalOfBytes 31 = .ok (.ireturn, 1) := by decide +kernel
theorem dX9_laid_0 : decode cX9_laid 0 = .ok (.aload_n 0, 1) := by decide +kernel
theorem dX9_laid_1 : decode cX9_laid 1 = .ok (.getfield 33, 3) := by decide +kernel
theorem dX9_laid_4 : decode cX9_laid 4 = .ok (.aload_n 0, 1) := by decide +kernel
theorem dX9_laid_5 : decode cX9_laid 5 = .ok (.getfield 10, 3) := by decide +kernel
theorem dX9_laid_8 : decode cX9_laid 8 = .ok (.invokevirtual 220, 3) := by decide +kernel
theorem dX9_laid_11 : decode cX9_laid 11 = .ok (.aload_n 0, 1) := by decide +kernel
theorem dX9_laid_12 : decode cX9_laid 12 = .ok (.getfield 33, 3) := by decide +kernel
theorem dX9_laid_15 : decode cX9_laid 15 = .ok (.getfield 223, 3) := by decide +kernel
theorem dX9_laid_18 : decode cX9_laid 18 = .ok (.aload_n 0, 1) := by decide +kernel
theorem dX9_laid_19 : decode cX9_laid 19 = .ok (.getfield 10, 3) := by decide +kernel
theorem dX9_laid_22 : decode cX9_laid 22 = .ok (.invokevirtual 227, 3) := by decide +kernel
theorem dX9_laid_25 : decode cX9_laid 25 = .ok (.aload_n 0, 1) := by decide +kernel
theorem dX9_laid_26 : decode cX9_laid 26 = .ok (.getfield 33, 3) := by decide +kernel
theorem dX9_laid_29 : decode cX9_laid 29 = .ok (.getfield 235, 3) := by decide +kernel
theorem dX9_laid_32 : decode cX9_laid 32 = .ok (.areturn, 1) := by decide +kernel
theorem dX10_init_0 : decode cX10_init 0 = .ok (.aload_n 0, 1) := by decide +kernel
theorem dX10_init_1 : decode cX10_init 1 = .ok (.invokespecial 1, 3) := by decide +kernel
theorem dX10_init_4 : decode cX10_init 4 = .ok (.aload_n 0, 1) := by decide +kernel
theorem dX10_init_5 : decode cX10_init 5 = .ok (.bipush 10, 2) := by decide +kernel
theorem dX10_init_7 : decode cX10_init 7 = .ok (.newarray .int, 2) := by decide +kernel
theorem dX10_init_9 : decode cX10_init 9 = .ok (.putfield 7, 3) := by decide +kernel
theorem dX10_init_12 : decode cX10_init 12 = .ok (.aload_n 0, 1) := by decide +kernel
theorem dX10_init_13 : decode cX10_init 13 = .ok (.bipush 10, 2) := by decide +kernel
theorem dX10_init_15 : decode cX10_init 15 = .ok (.newarray .int, 2) := by decide +kernel
theorem dX10_init_17 : decode cX10_init 17 = .ok (.putfield 13, 3) := by decide +kernel
theorem dX10_init_20 : decode cX10_init 20 = .ok (.aload_n 0, 1) := by decide +kernel
theorem dX10_init_21 : decode cX10_init 21 = .ok (.bipush 10, 2) := by decide +kernel
theorem dX10_init_23 : decode cX10_init 23 = .ok (.newarray .int, 2) := by decide +kernel
theorem dX10_init_25 : decode cX10_init 25 = .ok (.putfield 16, 3) := by decide +kernel
theorem dX10_init_28 : decode cX10_init 28 = .ok (.aload_n 0, 1) := by decide +kernel
theorem dX10_init_29 : decode cX10_init 29 = .ok (.iconst 2, 1) := by decide +kernel
theorem dX10_init_30 : decode cX10_init 30 = .ok (.putfield 19, 3) := by decide +kernel
theorem dX10_init_33 : decode cX10_init 33 = .ok (.aload_n 0, 1) := by decide +kernel
theorem dX10_init_34 : decode cX10_init 34 = .ok (.bipush 9, 2) := by decide +kernel
theorem dX10_init_36 : decode cX10_init 36 = .ok (.putfield 23, 3) := by decide +kernel
theorem dX10_init_39 : decode cX10_init 39 = .ok (.aload_n 0, 1) := by decide +kernel
theorem dX10_init_40 : decode cX10_init 40 = .ok (.bipush 6, 2) := by decide +kernel
theorem dX10_init_42 : decode cX10_init 42 = .ok (.newarray .int, 2) := by decide +kernel
theorem dX10_init_44 : decode cX10_init 44 = .ok (.putfield 26, 3) := by decide +kernel
theorem dX10_init_47 : decode cX10_init 47 = .ok (.aload_n 0, 1) := by decide +kernel
theorem dX10_init_48 : decode cX10_init 48 = .ok (.bipush 6, 2) := by decide +kernel
theorem dX10_init_50 : decode cX10_init 50 = .ok (.newarray .int, 2) := by decide +kernel
theorem dX10_init_52 : decode cX10_init 52 = .ok (.putfield 29, 3) := by decide +kernel
theorem dX10_init_55 : decode cX10_init 55 = .ok (.aload_n 0, 1) := by decide +kernel
theorem dX10_init_56 : decode cX10_init 56 = .ok (.bipush 6, 2) := by decide +kernel
theorem dX10_init_58 : decode cX10_init 58 = .ok (.newarray .char, 2) := by decide +kernel
theorem dX10_init_60 : decode cX10_init 60 = .ok (.dup, 1) := by decide +kernel
theorem dX10_init_61 : decode cX10_init 61 = .ok (.iconst 0, 1) := by decide +kernel
theorem dX10_init_62 : decode cX10_init 62 = .ok (.bipush 103, 2) := by decide +kernel
theorem dX10_init_64 : decode cX10_init 64 = .ok (.castore, 1) := by decide +kernel
theorem dX10_init_65 : decode cX10_init 65 = .ok (.dup, 1) := by decide +kernel
theorem dX10_init_66 : decode cX10_init 66 = .ok (.iconst 1, 1) := by decide +kernel
theorem dX10_init_67 : decode cX10_init 67 = .ok (.bipush 104, 2) := by decide +kernel
theorem dX10_init_69 : decode cX10_init 69 = .ok (.castore, 1) := by decide +kernel
theorem dX10_init_70 : decode cX10_init 70 = .ok (.dup, 1) := by decide +kernel
theorem dX10_init_71 : decode cX10_init 71 = .ok (.iconst 2, 1) := by decide +kernel
theorem dX10_init_72 : decode cX10_init 72 = .ok (.bipush 98, 2) := by decide +kernel
theorem dX10_init_74 : decode cX10_init 74 = .ok (.castore, 1) := by decide +kernel
theorem dX10_init_75 : decode cX10_init 75 = .ok (.dup, 1) := by decide +kernel
theorem dX10_init_76 : decode cX10_init 76 = .ok (.iconst 3, 1) := by decide +kernel
theorem dX10_init_77 : decode cX10_init 77 = .ok (.bipush 109, 2) := by decide +kernel
theorem dX10_init_79 : decode cX10_init 79 = .ok (.castore, 1) := by decide +kernel
theorem dX10_init_80 : decode cX10_init 80 = .ok (.dup, 1) := by decide +kernel
theorem dX10_init_81 : decode cX10_init 81 = .ok (.iconst 4, 1) := by decide +kernel
theorem dX10_init_82 : decode cX10_init 82 = .ok (.bipush 107, 2) := by decide +kernel
theorem dX10_init_84 : decode cX10_init 84 = .ok (.castore, 1) := by decide +kernel
theorem dX10_init_85 : decode cX10_init 85 = .ok (.dup, 1) := by decide +kernel
theorem dX10_init_86 : decode cX10_init 86 = .ok (.iconst 5, 1) := by decide +kernel
theorem dX10_init_87 : decode cX10_init 87 = .ok (.bipush 114, 2) := by decide +kernel
theorem dX10_init_89 : decode cX10_init 89 = .ok (.castore, 1) := by decide +kernel
theorem dX10_init_90 : decode cX10_init 90 = .ok (.putfield 32, 3) := by decide +kernel
theorem dX10_init_93 : decode cX10_init 93 = .ok (.aload_n 0, 1) := by decide +kernel
theorem dX10_init_94 : decode cX10_init 94 = .ok (.bipush 6, 2) := by decide +kernel
theorem dX10_init_96 : decode cX10_init 96 = .ok (.newarray .char, 2) := by decide +kernel
theorem dX10_init_98 : decode cX10_init 98 = .ok (.dup, 1) := by decide +kernel
theorem dX10_init_99 : decode cX10_init 99 = .ok (.iconst 0, 1) := by decide +kernel
theorem dX10_init_100 : decode cX10_init 100 = .ok (.bipush 102, 2) := by decide +kernel
theorem dX10_init_102 : decode cX10_init 102 = .ok (.castore, 1) := by decide +kernel
theorem dX10_init_103 : decode cX10_init 103 = .ok (.dup, 1) := by decide +kernel
theorem dX10_init_104 : decode cX10_init 104 = .ok (.iconst 1, 1) := by decide +kernel
theorem dX10_init_105 : decode cX10_init 105 = .ok (.bipush 115, 2) := by decide +kernel
theorem dX10_init_107 : decode cX10_init 107 = .ok (.castore, 1) := by decide +kernel
theorem dX10_init_108 : decode cX10_init 108 = .ok (.dup, 1) := by decide +kernel
theorem dX10_init_109 : decode cX10_init 109 = .ok (.iconst 2, 1) := by decide +kernel
theorem dX10_init_110 : decode cX10_init 110 = .ok (.bipush 101, 2) := by decide +kernel
theorem dX10_init_112 : decode cX10_init 112 = .ok (.castore, 1) := by decide +kernel
theorem dX10_init_113 : decode cX10_init 113 = .ok (.dup, 1) := by decide +kernel
theorem dX10_init_114 : decode cX10_init 114 = .ok (.iconst 3, 1) := by decide +kernel
theorem dX10_init_115 : decode cX10_init 115 = .ok (.bipush 108, 2) := by decide +kernel
theorem dX10_init_117 : decode cX10_init 117 = .ok (.castore, 1) := by decide +kernel
theorem dX10_init_118 : decode cX10_init 118 = .ok (.dup, 1) := by decide +kernel
theorem dX10_init_119 : decode cX10_init 119 = .ok (.iconst 4, 1) := by decide +kernel
theorem dX10_init_120 : decode cX10_init 120 = .ok (.bipush 111, 2) := by decide +kernel
theorem dX10_init_122 : decode cX10_init 122 = .ok (.castore, 1) := by decide +kernel
theorem dX10_init_123 : decode cX10_init 123 = .ok (.dup, 1) := by decide +kernel
theorem dX10_init_124 : decode cX10_init 124 = .ok (.iconst 5, 1) := by decide +kernel
theorem dX10_init_125 : decode cX10_init 125 = .ok (.bipush 114, 2) := by decide +kernel
theorem dX10_init_127 : decode cX10_init 127 = .ok (.castore, 1) := by decide +kernel
theorem dX10_init_128 : decode cX10_init 128 = .ok (.putfield 36, 3) := by decide +kernel
theorem dX10_init_131 : decode cX10_init 131 = .ok (.aload_n 0, 1) := by decide +kernel
theorem dX10_init_132 : decode cX10_init 132 = .ok (.bipush 10, 2) := by decide +kernel
theorem dX10_init_134 : decode cX10_init 134 = .ok (.newarray .int, 2) := by decide +kernel
theorem dX10_init_136 : decode cX10_init 136 = .ok (.putfield 39, 3) := by decide +kernel
theorem dX10_init_139 : decode cX10_init 139 = .ok (.aload_n 0, 1) := by decide +kernel
theorem dX10_init_140 : decode cX10_init 140 = .ok (.bipush 10, 2) := by decide +kernel
theorem dX10_init_142 : decode cX10_init 142 = .ok (.newarray .int, 2) := by decide +kernel
theorem dX10_init_144 : decode cX10_init 144 = .ok (.putfield 42, 3) := by decide +kernel
theorem dX10_init_147 : decode cX10_init 147 = .ok (.aload_n 0, 1) := by decide +kernel
theorem dX10_init_148 : decode cX10_init 148 = .ok (.bipush 10, 2) := by decide +kernel
theorem dX10_init_150 : decode cX10_init 150 = .ok (.newarray .int, 2) := by decide +kernel
theorem dX10_init_152 : decode cX10_init 152 = .ok (.putfield 45, 3) := by decide +kernel
theorem dX10_init_155 : decode cX10_init 155 = .ok (.aload_n 0, 1) := by decide +kernel
theorem dX10_init_156 : decode cX10_init 156 = .ok (.bipush 30, 2) := by decide +kernel
theorem dX10_init_158 : decode cX10_init 158 = .ok (.newarray .int, 2) := by decide +kernel
theorem dX10_init_160 : decode cX10_init 160 = .ok (.putfield 48, 3) := by decide +kernel
theorem dX10_init_163 : decode cX10_init 163 = .ok (.aload_n 0, 1) := by decide +kernel
theorem dX10_init_164 : decode cX10_init 164 = .ok (.iconst 3, 1) := by decide +kernel
theorem dX10_init_165 : decode cX10_init 165 = .ok (.newarray .int, 2) := by decide +kernel
theorem dX10_init_167 : decode cX10_init 167 = .ok (.putfield 51, 3) := by decide +kernel
theorem dX10_init_170 : decode cX10_init 170 = .ok (.aload_n 0, 1) := by decide +kernel
theorem dX10_init_171 : decode cX10_init 171 = .ok (.bipush 10, 2) := by decide +kernel
theorem dX10_init_173 : decode cX10_init 173 = .ok (.newarray .int, 2) := by decide +kernel
theorem dX10_init_175 : decode cX10_init 175 = .ok (.putfield 54, 3) := by decide +kernel
theorem dX10_init_178 : decode cX10_init 178 = .ok (.aload_n 0, 1) := by decide +kernel
theorem dX10_init_179 : decode cX10_init 179 = .ok (.bipush 10, 2) := by decide +kernel
theorem dX10_init_181 : decode cX10_init 181 = .ok (.newarray .int, 2) := by decide +kernel
theorem dX10_init_183 : decode cX10_init 183 = .ok (.putfield 57, 3) := by decide +kernel
theorem dX10_init_186 : decode cX10_init 186 = .ok (.aload_n 0, 1) := by decide +kernel
theorem dX10_init_187 : decode cX10_init 187 = .ok (.bipush 10, 2) := by decide +kernel
theorem dX10_init_189 : decode cX10_init 189 = .ok (.newarray .int, 2) := by decide +kernel
theorem dX10_init_191 : decode cX10_init 191 = .ok (.putfield 60, 3) := by decide +kernel
theorem dX10_init_194 : decode cX10_init 194 = .ok (.aload_n 0, 1) := by decide +kernel
theorem dX10_init_195 : decode cX10_init 195 = .ok (.bipush 10, 2) := by decide +kernel
theorem dX10_init_197 : decode cX10_init 197 = .ok (.newarray .int, 2) := by decide +kernel
theorem dX10_init_199 : decode cX10_init 199 = .ok (.putfield 63, 3) := by decide +kernel
theorem dX10_init_202 : decode cX10_init 202 = .ok (.aload_n 0, 1) := by decide +kernel
theorem dX10_init_203 : decode cX10_init 203 = .ok (.bipush 10, 2) := by decide +kernel
theorem dX10_init_205 : decode cX10_init 205 = .ok (.newarray .int, 2) := by decide +kernel
theorem dX10_init_207 : decode cX10_init 207 = .ok (.putfield 66, 3) := by decide +kernel
theorem dX10_init_210 : decode cX10_init 210 = .ok (.aload_n 0, 1) := by decide +kernel
theorem dX10_init_211 : decode cX10_init 211 = .ok (.bipush 10, 2) := by decide +kernel
theorem dX10_init_213 : decode cX10_init 213 = .ok (.newarray .int, 2) := by decide +kernel
theorem dX10_init_215 : decode cX10_init 215 = .ok (.putfield 69, 3) := by decide +kernel
theorem dX10_init_218 : decode cX10_init 218 = .ok (.aload_n 0, 1) := by decide +kernel
theorem dX10_init_219 : decode cX10_init 219 = .ok (.bipush 10, 2) := by decide +kernel
theorem dX10_init_221 : decode cX10_init 221 = .ok (.newarray .boolean, 2) := by decide +kernel
theorem dX10_init_223 : decode cX10_init 223 = .ok (.putfield 72, 3) := by decide +kernel
theorem dX10_init_226 : decode cX10_init 226 = .ok (.aload_n 0, 1) := by decide +kernel
theorem dX10_init_227 : decode cX10_init 227 = .ok (.bipush 10, 2) := by decide +kernel
theorem dX10_init_229 : decode cX10_init 229 = .ok (.newarray .int, 2) := by decide +kernel
theorem dX10_init_231 : decode cX10_init 231 = .ok (.putfield 76, 3) := by decide +kernel
theorem dX10_init_234 : decode cX10_init 234 = .ok (.aload_n 0, 1) := by decide +kernel
theorem dX10_init_235 : decode cX10_init 235 = .ok (.bipush 11, 2) := by decide +kernel
theorem dX10_init_237 : decode cX10_init 237 = .ok (.newarray .int, 2) := by decide +kernel
theorem dX10_init_239 : decode cX10_init 239 = .ok (.putfield 79, 3) := by decide +kernel
theorem dX10_init_242 : decode cX10_init 242 = .ok (.aload_n 0, 1) := by decide +kernel
theorem dX10_init_243 : decode cX10_init 243 = .ok (.bipush 10, 2) := by decide +kernel
theorem dX10_init_245 : decode cX10_init 245 = .ok (.newarray .int, 2) := by decide +kernel
theorem dX10_init_247 : decode cX10_init 247 = .ok (.putfield 82, 3) := by decide +kernel
theorem dX10_init_250 : decode cX10_init 250 = .ok (.aload_n 0, 1) := by decide +kernel
theorem dX10_init_251 : decode cX10_init 251 = .ok (.bipush 9, 2) := by decide +kernel
theorem dX10_init_253 : decode cX10_init 253 = .ok (.newarray .int, 2) := by decide +kernel
theorem dX10_init_255 : decode cX10_init 255 = .ok (.putfield 85, 3) := by decide +kernel
theorem dX10_init_258 : decode cX10_init 258 = .ok (.aload_n 0, 1) := by decide +kernel
theorem dX10_init_259 : decode cX10_init 259 = .ok (.bipush 9, 2) := by decide +kernel
theorem dX10_init_261 : decode cX10_init 261 = .ok (.newarray .int, 2) := by decide +kernel
theorem dX10_init_263 : decode cX10_init 263 = .ok (.putfield 88, 3) := by decide +kernel
theorem dX10_init_266 : decode cX10_init 266 = .ok (.aload_n 0, 1) := by decide +kernel
theorem dX10_init_267 : decode cX10_init 267 = .ok (.bipush 60, 2) := by decide +kernel
theorem dX10_init_269 : decode cX10_init 269 = .ok (.newarray .int, 2) := by decide +kernel
theorem dX10_init_271 : decode cX10_init 271 = .ok (.putfield 91, 3) := by decide +kernel
theorem dX10_init_274 : decode cX10_init 274 = .ok (.aload_n 0, 1) := by decide +kernel
theorem dX10_init_275 : decode cX10_init 275 = .ok (.bipush 60, 2) := by decide +kernel
theorem dX10_init_277 : decode cX10_init 277 = .ok (.newarray .int, 2) := by decide +kernel
theorem dX10_init_279 : decode cX10_init 279 = .ok (.putfield 94, 3) := by decide +kernel
theorem dX10_init_282 : decode cX10_init 282 = .ok (.aload_n 0, 1) := by decide +kernel
theorem dX10_init_283 : decode cX10_init 283 = .ok (.bipush 8, 2) := by decide +kernel
theorem dX10_init_285 : decode cX10_init 285 = .ok (.newarray .int, 2) := by decide +kernel
theorem dX10_init_287 : decode cX10_init 287 = .ok (.putfield 97, 3) := by decide +kernel
theorem dX10_init_290 : decode cX10_init 290 = .ok (.aload_n 0, 1) := by decide +kernel
theorem dX10_init_291 : decode cX10_init 291 = .ok (.bipush 8, 2) := by decide +kernel
theorem dX10_init_293 : decode cX10_init 293 = .ok (.newarray .int, 2) := by decide +kernel
theorem dX10_init_295 : decode cX10_init 295 = .ok (.putfield 100, 3) := by decide +kernel
theorem dX10_init_298 : decode cX10_init 298 = .ok (.aload_n 0, 1) := by decide +kernel
theorem dX10_init_299 : decode cX10_init 299 = .ok (.bipush 8, 2) := by decide +kernel
theorem dX10_init_301 : decode cX10_init 301 = .ok (.newarray .int, 2) := by decide +kernel
theorem dX10_init_303 : decode cX10_init 303 = .ok (.putfield 103, 3) := by decide +kernel
theorem dX10_init_306 : decode cX10_init 306 = .ok (.aload_n 0, 1) := by decide +kernel
theorem dX10_init_307 : decode cX10_init 307 = .ok (.bipush 8, 2) := by decide +kernel
theorem dX10_init_309 : decode cX10_init 309 = .ok (.newarray .int, 2) := by decide +kernel
theorem dX10_init_311 : decode cX10_init 311 = .ok (.putfield 106, 3) := by decide +kernel
theorem dX10_init_314 : decode cX10_init 314 = .ok (.aload_n 0, 1) := by decide +kernel
theorem dX10_init_315 : decode cX10_init 315 = .ok (.bipush 8, 2) := by decide +kernel
theorem dX10_init_317 : decode cX10_init 317 = .ok (.newarray .int, 2) := by decide +kernel
theorem dX10_init_319 : decode cX10_init 319 = .ok (.putfield 109, 3) := by decide +kernel
theorem dX10_init_322 : decode cX10_init 322 = .ok (.aload_n 0, 1) := by decide +kernel
theorem dX10_init_323 : decode cX10_init 323 = .ok (.sipush 800, 3) := by decide +kernel
theorem dX10_init_326 : decode cX10_init 326 = .ok (.newarray .int, 2) := by decide +kernel
theorem dX10_init_328 : decode cX10_init 328 = .ok (.putfield 112, 3) := by decide +kernel
theorem dX10_init_331 : decode cX10_init 331 = .ok (.aload_n 0, 1) := by decide +kernel
theorem dX10_init_332 : decode cX10_init 332 = .ok (.bipush 100, 2) := by decide +kernel
theorem dX10_init_334 : decode cX10_init 334 = .ok (.newarray .int, 2) := by decide +kernel
theorem dX10_init_336 : decode cX10_init 336 = .ok (.putfield 115, 3) := by decide +kernel
theorem dX10_init_339 : decode cX10_init 339 = .ok (.return_, 1) := by decide +kernel
theorem dX10_isIn_0 : decode cX10_isIn 0 = .ok (.iload_n 0, 1) := by decide +kernel
theorem dX10_isIn_1 : decode cX10_isIn 1 = .ok (.iload_n 1, 1) := by decide +kernel
theorem dX10_isIn_2 : decode cX10_isIn 2 = .ok (.if_icmp .lt 12, 3) := by decide +kernel
theorem dX10_isIn_5 : decode cX10_isIn 5 = .ok (.iload_n 0, 1) := by decide +kernel
theorem dX10_isIn_6 : decode cX10_isIn 6 = .ok (.iload_n 2, 1) := by decide +kernel
theorem dX10_isIn_7 : decode cX10_isIn 7 = .ok (.if_icmp .gt 7, 3) := by decide +kernel
theorem dX10_isIn_10 : decode cX10_isIn 10 = .ok (.iconst 1, 1) := by decide +kernel
theorem dX10_isIn_11 : decode cX10_isIn 11 = .ok (.goto 4, 3) := by decide +kernel
theorem dX10_isIn_14 : decode cX10_isIn 14 = .ok (.iconst 0, 1) := by decide +kernel
theorem dX10_isIn_15 : decode cX10_isIn 15 = .ok (.ireturn, 1) := by decide +kernel
theorem dX10_isGuest_0 : decode cX10_isGuest 0 = .ok (.iload_n 1, 1) := by decide +kernel
theorem dX10_isGuest_1 : decode cX10_isGuest 1 = .ok (.iconst 0, 1) := by decide +kernel
theorem dX10_isGuest_2 : decode cX10_isGuest 2 = .ok (.aload_n 0, 1) := by decide +kernel
theorem dX10_isGuest_3 : decode cX10_isGuest 3 = .ok (.getfield 118, 3) := by decide +kernel
theorem dX10_isGuest_6 : decode cX10_isGuest 6 = .ok (.iconst 1, 1) := by decide +kernel
theorem dX10_isGuest_7 : decode cX10_isGuest 7 = .ok (.isub, 1) := by decide +kernel
theorem dX10_isGuest_8 : decode cX10_isGuest 8 = .ok (.invokestatic 121, 3) := by decide +kernel
theorem dX10_isGuest_11 : decode cX10_isGuest 11 = .ok (.ireturn, 1) := by decide +kernel
theorem dX10_goesBy_0 : decode cX10_goesBy 0 = .ok (.iload_n 0, 1) := by decide +kernel
theorem dX10_goesBy_1 : decode cX10_goesBy 1 = .ok (.bipush 7, 2) := by decide +kernel
theorem dX10_goesBy_3 : decode cX10_goesBy 3 = .ok (.if_icmp .ne 8, 3) := by decide +kernel
theorem dX10_goesBy_6 : decode cX10_goesBy 6 = .ok (.bipush 99, 2) := by decide +kernel
theorem dX10_goesBy_8 : decode cX10_goesBy 8 = .ok (.goto 19, 3) := by decide +kernel
theorem dX10_goesBy_11 : decode cX10_goesBy 11 = .ok (.iload_n 0, 1) := by decide +kernel
theorem dX10_goesBy_12 : decode cX10_goesBy 12 = .ok (.iconst 5, 1) := by decide +kernel
theorem dX10_goesBy_13 : decode cX10_goesBy 13 = .ok (.if_icmp .ne 13, 3) := by decide +kernel
theorem dX10_goesBy_16 : decode cX10_goesBy 16 = .ok (.iconst 0, 1) := by decide +kernel
theorem dX10_goesBy_17 : decode cX10_goesBy 17 = .ok (.iload_n 2, 1) := by decide +kernel
theorem dX10_goesBy_18 : decode cX10_goesBy 18 = .ok (.iload_n 1, 1) := by decide +kernel
theorem dX10_goesBy_19 : decode cX10_goesBy 19 = .ok (.isub, 1) := by decide +kernel
theorem dX10_goesBy_20 : decode cX10_goesBy 20 = .ok (.invokestatic 125, 3) := by decide +kernel
theorem dX10_goesBy_23 : decode cX10_goesBy 23 = .ok (.goto 4, 3) := by decide +kernel
theorem dX10_goesBy_26 : decode cX10_goesBy 26 = .ok (.iload_n 2, 1) := by decide +kernel
theorem dX10_goesBy_27 : decode cX10_goesBy 27 = .ok (.ireturn, 1) := by decide +kernel
theorem dX10_lift_0 : decode cX10_lift 0 = .ok (.iload_n 0, 1) := by decide +kernel
theorem dX10_lift_1 : decode cX10_lift 1 = .ok (.iconst 1, 1) := by decide +kernel
theorem dX10_lift_2 : decode cX10_lift 2 = .ok (.if_icmp .ne 7, 3) := by decide +kernel
theorem dX10_lift_5 : decode cX10_lift 5 = .ok (.iconst 3, 1) := by decide +kernel
theorem dX10_lift_6 : decode cX10_lift 6 = .ok (.goto 39, 3) := by decide +kernel
theorem dX10_lift_9 : decode cX10_lift 9 = .ok (.iload_n 0, 1) := by decide +kernel
theorem dX10_lift_10 : decode cX10_lift 10 = .ok (.iconst 2, 1) := by decide +kernel
theorem dX10_lift_11 : decode cX10_lift 11 = .ok (.if_icmp .ne 11, 3) := by decide +kernel
theorem dX10_lift_14 : decode cX10_lift 14 = .ok (.iconst 1, 1) := by decide +kernel
theorem dX10_lift_15 : decode cX10_lift 15 = .ok (.iload_n 1, 1) := by decide +kernel
theorem dX10_lift_16 : decode cX10_lift 16 = .ok (.iconst 3, 1) := by decide +kernel
theorem dX10_lift_17 : decode cX10_lift 17 = .ok (.idiv, 1) := by decide +kernel
theorem dX10_lift_18 : decode cX10_lift 18 = .ok (.iadd, 1) := by decide +kernel
theorem dX10_lift_19 : decode cX10_lift 19 = .ok (.goto 26, 3) := by decide +kernel
theorem dX10_lift_22 : decode cX10_lift 22 = .ok (.iload_n 0, 1) := by decide +kernel
theorem dX10_lift_23 : decode cX10_lift 23 = .ok (.iconst 4, 1) := by decide +kernel
theorem dX10_lift_24 : decode cX10_lift 24 = .ok (.if_icmp .ne 11, 3) := by decide +kernel
theorem dX10_lift_27 : decode cX10_lift 27 = .ok (.iconst 2, 1) := by decide +kernel
theorem dX10_lift_28 : decode cX10_lift 28 = .ok (.iload_n 1, 1) := by decide +kernel
theorem dX10_lift_29 : decode cX10_lift 29 = .ok (.iconst 3, 1) := by decide +kernel
theorem dX10_lift_30 : decode cX10_lift 30 = .ok (.idiv, 1) := by decide +kernel
theorem dX10_lift_31 : decode cX10_lift 31 = .ok (.iadd, 1) := by decide +kernel
theorem dX10_lift_32 : decode cX10_lift 32 = .ok (.goto 13, 3) := by decide +kernel
theorem dX10_lift_35 : decode cX10_lift 35 = .ok (.iload_n 0, 1) := by decide +kernel
theorem dX10_lift_36 : decode cX10_lift 36 = .ok (.iconst 5, 1) := by decide +kernel
theorem dX10_lift_37 : decode cX10_lift 37 = .ok (.if_icmp .ne 7, 3) := by decide +kernel
theorem dX10_lift_40 : decode cX10_lift 40 = .ok (.iconst 0, 1) := by decide +kernel
theorem dX10_lift_41 : decode cX10_lift 41 = .ok (.goto 4, 3) := by decide +kernel
theorem dX10_lift_44 : decode cX10_lift 44 = .ok (.iconst 1, 1) := by decide +kernel
theorem dX10_lift_45 : decode cX10_lift 45 = .ok (.ireturn, 1) := by decide +kernel
theorem dX10_liftOf_0 : decode cX10_liftOf 0 = .ok (.aload_n 0, 1) := by decide +kernel
theorem dX10_liftOf_1 : decode cX10_liftOf 1 = .ok (.getfield 7, 3) := by decide +kernel
theorem dX10_liftOf_4 : decode cX10_liftOf 4 = .ok (.iload_n 1, 1) := by decide +kernel
theorem dX10_liftOf_5 : decode cX10_liftOf 5 = .ok (.iaload, 1) := by decide +kernel
theorem dX10_liftOf_6 : decode cX10_liftOf 6 = .ok (.aload_n 0, 1) := by decide +kernel
theorem dX10_liftOf_7 : decode cX10_liftOf 7 = .ok (.getfield 13, 3) := by decide +kernel
theorem dX10_liftOf_10 : decode cX10_liftOf 10 = .ok (.iload_n 1, 1) := by decide +kernel
theorem dX10_liftOf_11 : decode cX10_liftOf 11 = .ok (.iaload, 1) := by decide +kernel
theorem dX10_liftOf_12 : decode cX10_liftOf 12 = .ok (.invokestatic 131, 3) := by decide +kernel
theorem dX10_liftOf_15 : decode cX10_liftOf 15 = .ok (.ireturn, 1) := by decide +kernel
theorem dX10_isBlack_0 : decode cX10_isBlack 0 = .ok (.aload_n 0, 1) := by decide +kernel
theorem dX10_isBlack_1 : decode cX10_isBlack 1 = .ok (.getfield 7, 3) := by decide +kernel
theorem dX10_isBlack_4 : decode cX10_isBlack 4 = .ok (.iload_n 1, 1) := by decide +kernel
theorem dX10_isBlack_5 : decode cX10_isBlack 5 = .ok (.iaload, 1) := by decide +kernel
theorem dX10_isBlack_6 : decode cX10_isBlack 6 = .ok (.iconst 3, 1) := by decide +kernel
theorem dX10_isBlack_7 : decode cX10_isBlack 7 = .ok (.if_icmp .eq 14, 3) := by decide +kernel
theorem dX10_isBlack_10 : decode cX10_isBlack 10 = .ok (.aload_n 0, 1) := by decide +kernel
theorem dX10_isBlack_11 : decode cX10_isBlack 11 = .ok (.getfield 7, 3) := by decide +kernel
theorem dX10_isBlack_14 : decode cX10_isBlack 14 = .ok (.iload_n 1, 1) := by decide +kernel
theorem dX10_isBlack_15 : decode cX10_isBlack 15 = .ok (.iaload, 1) := by decide +kernel
theorem dX10_isBlack_16 : decode cX10_isBlack 16 = .ok (.bipush 6, 2) := by decide +kernel
theorem dX10_isBlack_18 : decode cX10_isBlack 18 = .ok (.if_icmp .ne 7, 3) := by decide +kernel
theorem dX10_isBlack_21 : decode cX10_isBlack 21 = .ok (.iconst 1, 1) := by decide +kernel
theorem dX10_isBlack_22 : decode cX10_isBlack 22 = .ok (.goto 4, 3) := by decide +kernel
theorem dX10_isBlack_25 : decode cX10_isBlack 25 = .ok (.iconst 0, 1) := by decide +kernel
theorem dX10_isBlack_26 : decode cX10_isBlack 26 = .ok (.ireturn, 1) := by decide +kernel
theorem dX10_spare_0 : decode cX10_spare 0 = .ok (.aload_n 0, 1) := by decide +kernel
theorem dX10_spare_1 : decode cX10_spare 1 = .ok (.getfield 7, 3) := by decide +kernel
theorem dX10_spare_4 : decode cX10_spare 4 = .ok (.iload_n 1, 1) := by decide +kernel
theorem dX10_spare_5 : decode cX10_spare 5 = .ok (.iaload, 1) := by decide +kernel
theorem dX10_spare_6 : decode cX10_spare 6 = .ok (.bipush 6, 2) := by decide +kernel
theorem dX10_spare_8 : decode cX10_spare 8 = .ok (.if_icmp .ne 12, 3) := by decide +kernel
theorem dX10_spare_11 : decode cX10_spare 11 = .ok (.aload_n 0, 1) := by decide +kernel
theorem dX10_spare_12 : decode cX10_spare 12 = .ok (.getfield 13, 3) := by decide +kernel
theorem dX10_spare_15 : decode cX10_spare 15 = .ok (.iload_n 1, 1) := by decide +kernel
theorem dX10_spare_16 : decode cX10_spare 16 = .ok (.iaload, 1) := by decide +kernel
theorem dX10_spare_17 : decode cX10_spare 17 = .ok (.goto 5, 3) := by decide +kernel
theorem dX10_spare_20 : decode cX10_spare 20 = .ok (.bipush 99, 2) := by decide +kernel
theorem dX10_spare_22 : decode cX10_spare 22 = .ok (.ireturn, 1) := by decide +kernel
theorem dX10_hangs_0 : decode cX10_hangs 0 = .ok (.aload_n 0, 1) := by decide +kernel
theorem dX10_hangs_1 : decode cX10_hangs 1 = .ok (.getfield 134, 3) := by decide +kernel
theorem dX10_hangs_4 : decode cX10_hangs 4 = .ok (.iload_n 1, 1) := by decide +kernel
theorem dX10_hangs_5 : decode cX10_hangs 5 = .ok (.ishr, 1) := by decide +kernel
theorem dX10_hangs_6 : decode cX10_hangs 6 = .ok (.iconst 1, 1) := by decide +kernel
theorem dX10_hangs_7 : decode cX10_hangs 7 = .ok (.iand, 1) := by decide +kernel
theorem dX10_hangs_8 : decode cX10_hangs 8 = .ok (.iconst 1, 1) := by decide +kernel
theorem dX10_hangs_9 : decode cX10_hangs 9 = .ok (.if_icmp .ne 7, 3) := by decide +kernel
theorem dX10_hangs_12 : decode cX10_hangs 12 = .ok (.iconst 1, 1) := by decide +kernel
theorem dX10_hangs_13 : decode cX10_hangs 13 = .ok (.goto 4, 3) := by decide +kernel
theorem dX10_hangs_16 : decode cX10_hangs 16 = .ok (.iconst 0, 1) := by decide +kernel
theorem dX10_hangs_17 : decode cX10_hangs 17 = .ok (.ireturn, 1) := by decide +kernel
theorem dX10_bits_0 : decode cX10_bits 0 = .ok (.iconst 0, 1) := by decide +kernel
theorem dX10_bits_1 : decode cX10_bits 1 = .ok (.istore_n 1, 1) := by decide +kernel
theorem dX10_bits_2 : decode cX10_bits 2 = .ok (.iconst 0, 1) := by decide +kernel
theorem dX10_bits_3 : decode cX10_bits 3 = .ok (.istore_n 2, 1) := by decide +kernel
theorem dX10_bits_4 : decode cX10_bits 4 = .ok (.iload_n 2, 1) := by decide +kernel
theorem dX10_bits_5 : decode cX10_bits 5 = .ok (.bipush 10, 2) := by decide +kernel
theorem dX10_bits_7 : decode cX10_bits 7 = .ok (.if_icmp .ge 17, 3) := by decide +kernel
theorem dX10_bits_10 : decode cX10_bits 10 = .ok (.iload_n 1, 1) := by decide +kernel
theorem dX10_bits_11 : decode cX10_bits 11 = .ok (.iload_n 0, 1) := by decide +kernel
theorem dX10_bits_12 : decode cX10_bits 12 = .ok (.iload_n 2, 1) := by decide +kernel
theorem dX10_bits_13 : decode cX10_bits 13 = .ok (.ishr, 1) := by decide +kernel
theorem dX10_bits_14 : decode cX10_bits 14 = .ok (.iconst 1, 1) := by decide +kernel
theorem dX10_bits_15 : decode cX10_bits 15 = .ok (.iand, 1) := by decide +kernel
theorem dX10_bits_16 : decode cX10_bits 16 = .ok (.iadd, 1) := by decide +kernel
theorem dX10_bits_17 : decode cX10_bits 17 = .ok (.istore_n 1, 1) := by decide +kernel
theorem dX10_bits_18 : decode cX10_bits 18 = .ok (.iinc 2 1, 3) := by decide +kernel
theorem dX10_bits_21 : decode cX10_bits 21 = .ok (.goto (-17), 3) := by decide +kernel
theorem dX10_bits_24 : decode cX10_bits 24 = .ok (.iload_n 1, 1) := by decide +kernel
theorem dX10_bits_25 : decode cX10_bits 25 = .ok (.ireturn, 1) := by decide +kernel
theorem dX10_guestIs_0 : decode cX10_guestIs 0 = .ok (.aload_n 0, 1) := by decide +kernel
theorem dX10_guestIs_1 : decode cX10_guestIs 1 = .ok (.getfield 7, 3) := by decide +kernel
theorem dX10_guestIs_4 : decode cX10_guestIs 4 = .ok (.aload_n 0, 1) := by decide +kernel
theorem dX10_guestIs_5 : decode cX10_guestIs 5 = .ok (.getfield 118, 3) := by decide +kernel
theorem dX10_guestIs_8 : decode cX10_guestIs 8 = .ok (.iload_n 1, 1) := by decide +kernel
theorem dX10_guestIs_9 : decode cX10_guestIs 9 = .ok (.iastore, 1) := by decide +kernel
theorem dX10_guestIs_10 : decode cX10_guestIs 10 = .ok (.aload_n 0, 1) := by decide +kernel
theorem dX10_guestIs_11 : decode cX10_guestIs 11 = .ok (.getfield 13, 3) := by decide +kernel
theorem dX10_guestIs_14 : decode cX10_guestIs 14 = .ok (.aload_n 0, 1) := by decide +kernel
theorem dX10_guestIs_15 : decode cX10_guestIs 15 = .ok (.getfield 118, 3) := by decide +kernel
theorem dX10_guestIs_18 : decode cX10_guestIs 18 = .ok (.iload_n 2, 1) := by decide +kernel
theorem dX10_guestIs_19 : decode cX10_guestIs 19 = .ok (.iastore, 1) := by decide +kernel
