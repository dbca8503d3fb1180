theorem dX10_guestIs_20 : decode cX10_guestIs 20 = .ok (.aload_n 0, 1) := by decide +kernel
theorem dX10_guestIs_21 : decode cX10_guestIs 21 = .ok (.getfield 16, 3) := by decide +kernel
theorem dX10_guestIs_24 : decode cX10_guestIs 24 = .ok (.aload_n 0, 1) := by decide +kernel
theorem dX10_guestIs_25 : decode cX10_guestIs 25 = .ok (.getfield 118, 3) := by decide +kernel
theorem dX10_guestIs_28 : decode cX10_guestIs 28 = .ok (.iload_n 3, 1) := by decide +kernel
theorem dX10_guestIs_29 : decode cX10_guestIs 29 = .ok (.iastore, 1) := by decide +kernel
theorem dX10_guestIs_30 : decode cX10_guestIs 30 = .ok (.aload_n 0, 1) := by decide +kernel
theorem dX10_guestIs_31 : decode cX10_guestIs 31 = .ok (.dup, 1) := by decide +kernel
theorem dX10_guestIs_32 : decode cX10_guestIs 32 = .ok (.getfield 118, 3) := by decide +kernel
theorem dX10_guestIs_35 : decode cX10_guestIs 35 = .ok (.iconst 1, 1) := by decide +kernel
theorem dX10_guestIs_36 : decode cX10_guestIs 36 = .ok (.iadd, 1) := by decide +kernel
theorem dX10_guestIs_37 : decode cX10_guestIs 37 = .ok (.putfield 118, 3) := by decide +kernel
theorem dX10_guestIs_40 : decode cX10_guestIs 40 = .ok (.aload_n 0, 1) := by decide +kernel
theorem dX10_guestIs_41 : decode cX10_guestIs 41 = .ok (.getfield 118, 3) := by decide +kernel
theorem dX10_guestIs_44 : decode cX10_guestIs 44 = .ok (.iconst 1, 1) := by decide +kernel
theorem dX10_guestIs_45 : decode cX10_guestIs 45 = .ok (.isub, 1) := by decide +kernel
theorem dX10_guestIs_46 : decode cX10_guestIs 46 = .ok (.ireturn, 1) := by decide +kernel
theorem dX10_turnHook_0 : decode cX10_turnHook 0 = .ok (.aload_n 0, 1) := by decide +kernel
theorem dX10_turnHook_1 : decode cX10_turnHook 1 = .ok (.dup, 1) := by decide +kernel
theorem dX10_turnHook_2 : decode cX10_turnHook 2 = .ok (.getfield 134, 3) := by decide +kernel
theorem dX10_turnHook_5 : decode cX10_turnHook 5 = .ok (.iconst 1, 1) := by decide +kernel
theorem dX10_turnHook_6 : decode cX10_turnHook 6 = .ok (.iload_n 1, 1) := by decide +kernel
theorem dX10_turnHook_7 : decode cX10_turnHook 7 = .ok (.ishl, 1) := by decide +kernel
theorem dX10_turnHook_8 : decode cX10_turnHook 8 = .ok (.ixor, 1) := by decide +kernel
theorem dX10_turnHook_9 : decode cX10_turnHook 9 = .ok (.putfield 134, 3) := by decide +kernel
theorem dX10_turnHook_12 : decode cX10_turnHook 12 = .ok (.aload_n 0, 1) := by decide +kernel
theorem dX10_turnHook_13 : decode cX10_turnHook 13 = .ok (.getfield 134, 3) := by decide +kernel
theorem dX10_turnHook_16 : decode cX10_turnHook 16 = .ok (.iload_n 1, 1) := by decide +kernel
theorem dX10_turnHook_17 : decode cX10_turnHook 17 = .ok (.ishr, 1) := by decide +kernel
theorem dX10_turnHook_18 : decode cX10_turnHook 18 = .ok (.iconst 1, 1) := by decide +kernel
theorem dX10_turnHook_19 : decode cX10_turnHook 19 = .ok (.iand, 1) := by decide +kernel
theorem dX10_turnHook_20 : decode cX10_turnHook 20 = .ok (.ireturn, 1) := by decide +kernel
theorem dX10_byteAt_0 : decode cX10_byteAt 0 = .ok (.aload_n 0, 1) := by decide +kernel
theorem dX10_byteAt_1 : decode cX10_byteAt 1 = .ok (.getfield 137, 3) := by decide +kernel
theorem dX10_byteAt_4 : decode cX10_byteAt 4 = .ok (.aload_n 0, 1) := by decide +kernel
theorem dX10_byteAt_5 : decode cX10_byteAt 5 = .ok (.getfield 140, 3) := by decide +kernel
theorem dX10_byteAt_8 : decode cX10_byteAt 8 = .ok (.if_icmp .ge 23, 3) := by decide +kernel
theorem dX10_byteAt_11 : decode cX10_byteAt 11 = .ok (.aload_n 0, 1) := by decide +kernel
theorem dX10_byteAt_12 : decode cX10_byteAt 12 = .ok (.getfield 112, 3) := by decide +kernel
theorem dX10_byteAt_15 : decode cX10_byteAt 15 = .ok (.bipush 100, 2) := by decide +kernel
theorem dX10_byteAt_17 : decode cX10_byteAt 17 = .ok (.aload_n 0, 1) := by decide +kernel
theorem dX10_byteAt_18 : decode cX10_byteAt 18 = .ok (.getfield 143, 3) := by decide +kernel
theorem dX10_byteAt_21 : decode cX10_byteAt 21 = .ok (.imul, 1) := by decide +kernel
theorem dX10_byteAt_22 : decode cX10_byteAt 22 = .ok (.aload_n 0, 1) := by decide +kernel
theorem dX10_byteAt_23 : decode cX10_byteAt 23 = .ok (.getfield 137, 3) := by decide +kernel
theorem dX10_byteAt_26 : decode cX10_byteAt 26 = .ok (.iadd, 1) := by decide +kernel
theorem dX10_byteAt_27 : decode cX10_byteAt 27 = .ok (.iaload, 1) := by decide +kernel
theorem dX10_byteAt_28 : decode cX10_byteAt 28 = .ok (.goto 4, 3) := by decide +kernel
theorem dX10_byteAt_31 : decode cX10_byteAt 31 = .ok (.iconst (-1), 1) := by decide +kernel
theorem dX10_byteAt_32 : decode cX10_byteAt 32 = .ok (.ireturn, 1) := by decide +kernel
theorem dX10_oneOf_0 : decode cX10_oneOf 0 = .ok (.iconst 0, 1) := by decide +kernel
theorem dX10_oneOf_1 : decode cX10_oneOf 1 = .ok (.istore_n 2, 1) := by decide +kernel
theorem dX10_oneOf_2 : decode cX10_oneOf 2 = .ok (.iload_n 2, 1) := by decide +kernel
theorem dX10_oneOf_3 : decode cX10_oneOf 3 = .ok (.aload_n 1, 1) := by decide +kernel
theorem dX10_oneOf_4 : decode cX10_oneOf 4 = .ok (.arraylength, 1) := by decide +kernel
theorem dX10_oneOf_5 : decode cX10_oneOf 5 = .ok (.if_icmp .ge 31, 3) := by decide +kernel
theorem dX10_oneOf_8 : decode cX10_oneOf 8 = .ok (.aload_n 0, 1) := by decide +kernel
theorem dX10_oneOf_9 : decode cX10_oneOf 9 = .ok (.invokevirtual 146, 3) := by decide +kernel
theorem dX10_oneOf_12 : decode cX10_oneOf 12 = .ok (.aload_n 1, 1) := by decide +kernel
theorem dX10_oneOf_13 : decode cX10_oneOf 13 = .ok (.iload_n 2, 1) := by decide +kernel
theorem dX10_oneOf_14 : decode cX10_oneOf 14 = .ok (.caload, 1) := by decide +kernel
theorem dX10_oneOf_15 : decode cX10_oneOf 15 = .ok (.if_icmp .ne 15, 3) := by decide +kernel
theorem dX10_oneOf_18 : decode cX10_oneOf 18 = .ok (.aload_n 0, 1) := by decide +kernel
theorem dX10_oneOf_19 : decode cX10_oneOf 19 = .ok (.dup, 1) := by decide +kernel
theorem dX10_oneOf_20 : decode cX10_oneOf 20 = .ok (.getfield 137, 3) := by decide +kernel
theorem dX10_oneOf_23 : decode cX10_oneOf 23 = .ok (.iconst 1, 1) := by decide +kernel
theorem dX10_oneOf_24 : decode cX10_oneOf 24 = .ok (.iadd, 1) := by decide +kernel
theorem dX10_oneOf_25 : decode cX10_oneOf 25 = .ok (.putfield 137, 3) := by decide +kernel
theorem dX10_oneOf_28 : decode cX10_oneOf 28 = .ok (.iload_n 2, 1) := by decide +kernel
theorem dX10_oneOf_29 : decode cX10_oneOf 29 = .ok (.ireturn, 1) := by decide +kernel
theorem dX10_oneOf_30 : decode cX10_oneOf 30 = .ok (.iinc 2 1, 3) := by decide +kernel
theorem dX10_oneOf_33 : decode cX10_oneOf 33 = .ok (.goto (-31), 3) := by decide +kernel
theorem dX10_oneOf_36 : decode cX10_oneOf 36 = .ok (.iconst (-1), 1) := by decide +kernel
theorem dX10_oneOf_37 : decode cX10_oneOf 37 = .ok (.ireturn, 1) := by decide +kernel
theorem dX10_figure_0 : decode cX10_figure 0 = .ok (.aload_n 0, 1) := by decide +kernel
theorem dX10_figure_1 : decode cX10_figure 1 = .ok (.invokevirtual 146, 3) := by decide +kernel
theorem dX10_figure_4 : decode cX10_figure 4 = .ok (.istore_n 1, 1) := by decide +kernel
theorem dX10_figure_5 : decode cX10_figure 5 = .ok (.aload_n 0, 1) := by decide +kernel
theorem dX10_figure_6 : decode cX10_figure 6 = .ok (.getfield 150, 3) := by decide +kernel
theorem dX10_figure_9 : decode cX10_figure 9 = .ok (.ifCond .eq 15, 3) := by decide +kernel
theorem dX10_figure_12 : decode cX10_figure 12 = .ok (.iload_n 1, 1) := by decide +kernel
theorem dX10_figure_13 : decode cX10_figure 13 = .ok (.bipush 48, 2) := by decide +kernel
theorem dX10_figure_15 : decode cX10_figure 15 = .ok (.if_icmp .lt 9, 3) := by decide +kernel
theorem dX10_figure_18 : decode cX10_figure 18 = .ok (.iload_n 1, 1) := by decide +kernel
theorem dX10_figure_19 : decode cX10_figure 19 = .ok (.bipush 57, 2) := by decide +kernel
theorem dX10_figure_21 : decode cX10_figure 21 = .ok (.if_icmp .le 10, 3) := by decide +kernel
theorem dX10_figure_24 : decode cX10_figure 24 = .ok (.aload_n 0, 1) := by decide +kernel
theorem dX10_figure_25 : decode cX10_figure 25 = .ok (.iconst 0, 1) := by decide +kernel
theorem dX10_figure_26 : decode cX10_figure 26 = .ok (.putfield 150, 3) := by decide +kernel
theorem dX10_figure_29 : decode cX10_figure 29 = .ok (.iconst 0, 1) := by decide +kernel
theorem dX10_figure_30 : decode cX10_figure 30 = .ok (.ireturn, 1) := by decide +kernel
theorem dX10_figure_31 : decode cX10_figure 31 = .ok (.aload_n 0, 1) := by decide +kernel
theorem dX10_figure_32 : decode cX10_figure 32 = .ok (.dup, 1) := by decide +kernel
theorem dX10_figure_33 : decode cX10_figure 33 = .ok (.getfield 137, 3) := by decide +kernel
theorem dX10_figure_36 : decode cX10_figure 36 = .ok (.iconst 1, 1) := by decide +kernel
theorem dX10_figure_37 : decode cX10_figure 37 = .ok (.iadd, 1) := by decide +kernel
theorem dX10_figure_38 : decode cX10_figure 38 = .ok (.putfield 137, 3) := by decide +kernel
theorem dX10_figure_41 : decode cX10_figure 41 = .ok (.iload_n 1, 1) := by decide +kernel
theorem dX10_figure_42 : decode cX10_figure 42 = .ok (.bipush 48, 2) := by decide +kernel
theorem dX10_figure_44 : decode cX10_figure 44 = .ok (.isub, 1) := by decide +kernel
theorem dX10_figure_45 : decode cX10_figure 45 = .ok (.ireturn, 1) := by decide +kernel
theorem dX10_statement_0 : decode cX10_statement 0 = .ok (.aload_n 0, 1) := by decide +kernel
theorem dX10_statement_1 : decode cX10_statement 1 = .ok (.aload_n 0, 1) := by decide +kernel
theorem dX10_statement_2 : decode cX10_statement 2 = .ok (.aload_n 0, 1) := by decide +kernel
theorem dX10_statement_3 : decode cX10_statement 3 = .ok (.getfield 32, 3) := by decide +kernel
theorem dX10_statement_6 : decode cX10_statement 6 = .ok (.invokevirtual 154, 3) := by decide +kernel
theorem dX10_statement_9 : decode cX10_statement 9 = .ok (.putfield 158, 3) := by decide +kernel
theorem dX10_statement_12 : decode cX10_statement 12 = .ok (.aload_n 0, 1) := by decide +kernel
theorem dX10_statement_13 : decode cX10_statement 13 = .ok (.aload_n 0, 1) := by decide +kernel
theorem dX10_statement_14 : decode cX10_statement 14 = .ok (.getfield 158, 3) := by decide +kernel
theorem dX10_statement_17 : decode cX10_statement 17 = .ok (.iconst (-1), 1) := by decide +kernel
theorem dX10_statement_18 : decode cX10_statement 18 = .ok (.if_icmp .eq 7, 3) := by decide +kernel
theorem dX10_statement_21 : decode cX10_statement 21 = .ok (.iconst 1, 1) := by decide +kernel
theorem dX10_statement_22 : decode cX10_statement 22 = .ok (.goto 4, 3) := by decide +kernel
theorem dX10_statement_25 : decode cX10_statement 25 = .ok (.iconst 0, 1) := by decide +kernel
theorem dX10_statement_26 : decode cX10_statement 26 = .ok (.putfield 150, 3) := by decide +kernel
theorem dX10_statement_29 : decode cX10_statement 29 = .ok (.aload_n 0, 1) := by decide +kernel
theorem dX10_statement_30 : decode cX10_statement 30 = .ok (.aload_n 0, 1) := by decide +kernel
theorem dX10_statement_31 : decode cX10_statement 31 = .ok (.getfield 158, 3) := by decide +kernel
theorem dX10_statement_34 : decode cX10_statement 34 = .ok (.ifCond .ne 7, 3) := by decide +kernel
theorem dX10_statement_37 : decode cX10_statement 37 = .ok (.iconst 3, 1) := by decide +kernel
theorem dX10_statement_38 : decode cX10_statement 38 = .ok (.goto 28, 3) := by decide +kernel
theorem dX10_statement_41 : decode cX10_statement 41 = .ok (.aload_n 0, 1) := by decide +kernel
theorem dX10_statement_42 : decode cX10_statement 42 = .ok (.getfield 158, 3) := by decide +kernel
theorem dX10_statement_45 : decode cX10_statement 45 = .ok (.iconst 1, 1) := by decide +kernel
theorem dX10_statement_46 : decode cX10_statement 46 = .ok (.if_icmp .ne 7, 3) := by decide +kernel
theorem dX10_statement_49 : decode cX10_statement 49 = .ok (.iconst 2, 1) := by decide +kernel
theorem dX10_statement_50 : decode cX10_statement 50 = .ok (.goto 16, 3) := by decide +kernel
theorem dX10_statement_53 : decode cX10_statement 53 = .ok (.aload_n 0, 1) := by decide +kernel
theorem dX10_statement_54 : decode cX10_statement 54 = .ok (.getfield 158, 3) := by decide +kernel
theorem dX10_statement_57 : decode cX10_statement 57 = .ok (.iconst 5, 1) := by decide +kernel
theorem dX10_statement_58 : decode cX10_statement 58 = .ok (.if_icmp .ne 7, 3) := by decide +kernel
theorem dX10_statement_61 : decode cX10_statement 61 = .ok (.iconst 0, 1) := by decide +kernel
theorem dX10_statement_62 : decode cX10_statement 62 = .ok (.goto 4, 3) := by decide +kernel
theorem dX10_statement_65 : decode cX10_statement 65 = .ok (.iconst 1, 1) := by decide +kernel
theorem dX10_statement_66 : decode cX10_statement 66 = .ok (.putfield 161, 3) := by decide +kernel
theorem dX10_statement_69 : decode cX10_statement 69 = .ok (.iconst 0, 1) := by decide +kernel
theorem dX10_statement_70 : decode cX10_statement 70 = .ok (.istore_n 1, 1) := by decide +kernel
theorem dX10_statement_71 : decode cX10_statement 71 = .ok (.iload_n 1, 1) := by decide +kernel
theorem dX10_statement_72 : decode cX10_statement 72 = .ok (.aload_n 0, 1) := by decide +kernel
theorem dX10_statement_73 : decode cX10_statement 73 = .ok (.getfield 161, 3) := by decide +kernel
theorem dX10_statement_76 : decode cX10_statement 76 = .ok (.if_icmp .ge 19, 3) := by decide +kernel
theorem dX10_statement_79 : decode cX10_statement 79 = .ok (.aload_n 0, 1) := by decide +kernel
theorem dX10_statement_80 : decode cX10_statement 80 = .ok (.getfield 29, 3) := by decide +kernel
theorem dX10_statement_83 : decode cX10_statement 83 = .ok (.iload_n 1, 1) := by decide +kernel
theorem dX10_statement_84 : decode cX10_statement 84 = .ok (.aload_n 0, 1) := by decide +kernel
theorem dX10_statement_85 : decode cX10_statement 85 = .ok (.invokevirtual 164, 3) := by decide +kernel
theorem dX10_statement_88 : decode cX10_statement 88 = .ok (.iastore, 1) := by decide +kernel
theorem dX10_statement_89 : decode cX10_statement 89 = .ok (.iinc 1 1, 3) := by decide +kernel
theorem dX10_statement_92 : decode cX10_statement 92 = .ok (.goto (-21), 3) := by decide +kernel
theorem dX10_statement_95 : decode cX10_statement 95 = .ok (.aload_n 0, 1) := by decide +kernel
theorem dX10_statement_96 : decode cX10_statement 96 = .ok (.getfield 158, 3) := by decide +kernel
theorem dX10_statement_99 : decode cX10_statement 99 = .ok (.ifCond .ne 23, 3) := by decide +kernel
theorem dX10_statement_102 : decode cX10_statement 102 = .ok (.aload_n 0, 1) := by decide +kernel
theorem dX10_statement_103 : decode cX10_statement 103 = .ok (.getfield 29, 3) := by decide +kernel
theorem dX10_statement_106 : decode cX10_statement 106 = .ok (.iconst 2, 1) := by decide +kernel
theorem dX10_statement_107 : decode cX10_statement 107 = .ok (.bipush 10, 2) := by decide +kernel
theorem dX10_statement_109 : decode cX10_statement 109 = .ok (.aload_n 0, 1) := by decide +kernel
theorem dX10_statement_110 : decode cX10_statement 110 = .ok (.getfield 29, 3) := by decide +kernel
theorem dX10_statement_113 : decode cX10_statement 113 = .ok (.iconst 2, 1) := by decide +kernel
theorem dX10_statement_114 : decode cX10_statement 114 = .ok (.iaload, 1) := by decide +kernel
theorem dX10_statement_115 : decode cX10_statement 115 = .ok (.imul, 1) := by decide +kernel
theorem dX10_statement_116 : decode cX10_statement 116 = .ok (.aload_n 0, 1) := by decide +kernel
theorem dX10_statement_117 : decode cX10_statement 117 = .ok (.invokevirtual 164, 3) := by decide +kernel
theorem dX10_statement_120 : decode cX10_statement 120 = .ok (.iadd, 1) := by decide +kernel
theorem dX10_statement_121 : decode cX10_statement 121 = .ok (.iastore, 1) := by decide +kernel
theorem dX10_statement_122 : decode cX10_statement 122 = .ok (.aload_n 0, 1) := by decide +kernel
theorem dX10_statement_123 : decode cX10_statement 123 = .ok (.getfield 158, 3) := by decide +kernel
theorem dX10_statement_126 : decode cX10_statement 126 = .ok (.iconst 5, 1) := by decide +kernel
theorem dX10_statement_127 : decode cX10_statement 127 = .ok (.if_icmp .ne 62, 3) := by decide +kernel
theorem dX10_statement_130 : decode cX10_statement 130 = .ok (.aload_n 0, 1) := by decide +kernel
theorem dX10_statement_131 : decode cX10_statement 131 = .ok (.aload_n 0, 1) := by decide +kernel
theorem dX10_statement_132 : decode cX10_statement 132 = .ok (.getfield 36, 3) := by decide +kernel
theorem dX10_statement_135 : decode cX10_statement 135 = .ok (.invokevirtual 154, 3) := by decide +kernel
theorem dX10_statement_138 : decode cX10_statement 138 = .ok (.istore_n 1, 1) := by decide +kernel
theorem dX10_statement_139 : decode cX10_statement 139 = .ok (.iload_n 1, 1) := by decide +kernel
theorem dX10_statement_140 : decode cX10_statement 140 = .ok (.iconst (-1), 1) := by decide +kernel
theorem dX10_statement_141 : decode cX10_statement 141 = .ok (.if_icmp .eq 48, 3) := by decide +kernel
theorem dX10_statement_144 : decode cX10_statement 144 = .ok (.aload_n 0, 1) := by decide +kernel
theorem dX10_statement_145 : decode cX10_statement 145 = .ok (.getfield 29, 3) := by decide +kernel
theorem dX10_statement_148 : decode cX10_statement 148 = .ok (.aload_n 0, 1) := by decide +kernel
theorem dX10_statement_149 : decode cX10_statement 149 = .ok (.getfield 161, 3) := by decide +kernel
theorem dX10_statement_152 : decode cX10_statement 152 = .ok (.iload_n 1, 1) := by decide +kernel
theorem dX10_statement_153 : decode cX10_statement 153 = .ok (.iastore, 1) := by decide +kernel
theorem dX10_statement_154 : decode cX10_statement 154 = .ok (.aload_n 0, 1) := by decide +kernel
theorem dX10_statement_155 : decode cX10_statement 155 = .ok (.dup, 1) := by decide +kernel
theorem dX10_statement_156 : decode cX10_statement 156 = .ok (.getfield 161, 3) := by decide +kernel
theorem dX10_statement_159 : decode cX10_statement 159 = .ok (.iconst 1, 1) := by decide +kernel
theorem dX10_statement_160 : decode cX10_statement 160 = .ok (.iadd, 1) := by decide +kernel
theorem dX10_statement_161 : decode cX10_statement 161 = .ok (.putfield 161, 3) := by decide +kernel
theorem dX10_statement_164 : decode cX10_statement 164 = .ok (.aload_n 0, 1) := by decide +kernel
theorem dX10_statement_165 : decode cX10_statement 165 = .ok (.getfield 161, 3) := by decide +kernel
theorem dX10_statement_168 : decode cX10_statement 168 = .ok (.bipush 6, 2) := by decide +kernel
theorem dX10_statement_170 : decode cX10_statement 170 = .ok (.if_icmp .ge 14, 3) := by decide +kernel
theorem dX10_statement_173 : decode cX10_statement 173 = .ok (.aload_n 0, 1) := by decide +kernel
theorem dX10_statement_174 : decode cX10_statement 174 = .ok (.aload_n 0, 1) := by decide +kernel
theorem dX10_statement_175 : decode cX10_statement 175 = .ok (.getfield 36, 3) := by decide +kernel
theorem dX10_statement_178 : decode cX10_statement 178 = .ok (.invokevirtual 154, 3) := by decide +kernel
theorem dX10_statement_181 : decode cX10_statement 181 = .ok (.goto 4, 3) := by decide +kernel
theorem dX10_statement_184 : decode cX10_statement 184 = .ok (.iconst (-1), 1) := by decide +kernel
theorem dX10_statement_185 : decode cX10_statement 185 = .ok (.istore_n 1, 1) := by decide +kernel
theorem dX10_statement_186 : decode cX10_statement 186 = .ok (.goto (-47), 3) := by decide +kernel
theorem dX10_statement_189 : decode cX10_statement 189 = .ok (.aload_n 0, 1) := by decide +kernel
theorem dX10_statement_190 : decode cX10_statement 190 = .ok (.getfield 150, 3) := by decide +kernel
theorem dX10_statement_193 : decode cX10_statement 193 = .ok (.ifCond .eq 25, 3) := by decide +kernel
theorem dX10_statement_196 : decode cX10_statement 196 = .ok (.aload_n 0, 1) := by decide +kernel
theorem dX10_statement_197 : decode cX10_statement 197 = .ok (.invokevirtual 146, 3) := by decide +kernel
theorem dX10_statement_200 : decode cX10_statement 200 = .ok (.bipush 59, 2) := by decide +kernel
theorem dX10_statement_202 : decode cX10_statement 202 = .ok (.if_icmp .ne 16, 3) := by decide +kernel
theorem dX10_statement_205 : decode cX10_statement 205 = .ok (.aload_n 0, 1) := by decide +kernel
theorem dX10_statement_206 : decode cX10_statement 206 = .ok (.dup, 1) := by decide +kernel
theorem dX10_statement_207 : decode cX10_statement 207 = .ok (.getfield 137, 3) := by decide +kernel
theorem dX10_statement_210 : decode cX10_statement 210 = .ok (.iconst 1, 1) := by decide +kernel
theorem dX10_statement_211 : decode cX10_statement 211 = .ok (.iadd, 1) := by decide +kernel
theorem dX10_statement_212 : decode cX10_statement 212 = .ok (.putfield 137, 3) := by decide +kernel
theorem dX10_statement_215 : decode cX10_statement 215 = .ok (.goto 8, 3) := by decide +kernel
theorem dX10_statement_218 : decode cX10_statement 218 = .ok (.aload_n 0, 1) := by decide +kernel
theorem dX10_statement_219 : decode cX10_statement 219 = .ok (.iconst 0, 1) := by decide +kernel
theorem dX10_statement_220 : decode cX10_statement 220 = .ok (.putfield 150, 3) := by decide +kernel
theorem dX10_statement_223 : decode cX10_statement 223 = .ok (.return_, 1) := by decide +kernel
theorem dX10_takes_0 : decode cX10_takes 0 = .ok (.aload_n 0, 1) := by decide +kernel
theorem dX10_takes_1 : decode cX10_takes 1 = .ok (.getfield 158, 3) := by decide +kernel
theorem dX10_takes_4 : decode cX10_takes 4 = .ok (.tableswitch 228 0 4 #[36, 83, 128, 152, 176], 36) := by decide +kernel
theorem dX10_takes_40 : decode cX10_takes 40 = .ok (.aload_n 0, 1) := by decide +kernel
theorem dX10_takes_41 : decode cX10_takes 41 = .ok (.getfield 29, 3) := by decide +kernel
theorem dX10_takes_44 : decode cX10_takes 44 = .ok (.iconst 0, 1) := by decide +kernel
theorem dX10_takes_45 : decode cX10_takes 45 = .ok (.iaload, 1) := by decide +kernel
theorem dX10_takes_46 : decode cX10_takes 46 = .ok (.bipush 7, 2) := by decide +kernel
theorem dX10_takes_48 : decode cX10_takes 48 = .ok (.if_icmp .gt 12, 3) := by decide +kernel
theorem dX10_takes_51 : decode cX10_takes 51 = .ok (.aload_n 0, 1) := by decide +kernel
theorem dX10_takes_52 : decode cX10_takes 52 = .ok (.getfield 118, 3) := by decide +kernel
theorem dX10_takes_55 : decode cX10_takes 55 = .ok (.bipush 10, 2) := by decide +kernel
theorem dX10_takes_57 : decode cX10_takes 57 = .ok (.if_icmp .ne 5, 3) := by decide +kernel
theorem dX10_takes_60 : decode cX10_takes 60 = .ok (.iconst 0, 1) := by decide +kernel
theorem dX10_takes_61 : decode cX10_takes 61 = .ok (.ireturn, 1) := by decide +kernel
theorem dX10_takes_62 : decode cX10_takes 62 = .ok (.aload_n 0, 1) := by decide +kernel
theorem dX10_takes_63 : decode cX10_takes 63 = .ok (.aload_n 0, 1) := by decide +kernel
theorem dX10_takes_64 : decode cX10_takes 64 = .ok (.getfield 29, 3) := by decide +kernel
theorem dX10_takes_67 : decode cX10_takes 67 = .ok (.iconst 0, 1) := by decide +kernel
theorem dX10_takes_68 : decode cX10_takes 68 = .ok (.iaload, 1) := by decide +kernel
theorem dX10_takes_69 : decode cX10_takes 69 = .ok (.aload_n 0, 1) := by decide +kernel
theorem dX10_takes_70 : decode cX10_takes 70 = .ok (.getfield 29, 3) := by decide +kernel
theorem dX10_takes_73 : decode cX10_takes 73 = .ok (.iconst 1, 1) := by decide +kernel
theorem dX10_takes_74 : decode cX10_takes 74 = .ok (.iaload, 1) := by decide +kernel
theorem dX10_takes_75 : decode cX10_takes 75 = .ok (.aload_n 0, 1) := by decide +kernel
theorem dX10_takes_76 : decode cX10_takes 76 = .ok (.getfield 29, 3) := by decide +kernel
theorem dX10_takes_79 : decode cX10_takes 79 = .ok (.iconst 2, 1) := by decide +kernel
theorem dX10_takes_80 : decode cX10_takes 80 = .ok (.iaload, 1) := by decide +kernel
theorem dX10_takes_81 : decode cX10_takes 81 = .ok (.invokevirtual 166, 3) := by decide +kernel
theorem dX10_takes_84 : decode cX10_takes 84 = .ok (.pop, 1) := by decide +kernel
theorem dX10_takes_85 : decode cX10_takes 85 = .ok (.iconst 1, 1) := by decide +kernel
theorem dX10_takes_86 : decode cX10_takes 86 = .ok (.ireturn, 1) := by decide +kernel
theorem dX10_takes_87 : decode cX10_takes 87 = .ok (.aload_n 0, 1) := by decide +kernel
theorem dX10_takes_88 : decode cX10_takes 88 = .ok (.aload_n 0, 1) := by decide +kernel
theorem dX10_takes_89 : decode cX10_takes 89 = .ok (.getfield 29, 3) := by decide +kernel
theorem dX10_takes_92 : decode cX10_takes 92 = .ok (.iconst 0, 1) := by decide +kernel
theorem dX10_takes_93 : decode cX10_takes 93 = .ok (.iaload, 1) := by decide +kernel
theorem dX10_takes_94 : decode cX10_takes 94 = .ok (.putfield 19, 3) := by decide +kernel
theorem dX10_takes_97 : decode cX10_takes 97 = .ok (.aload_n 0, 1) := by decide +kernel
theorem dX10_takes_98 : decode cX10_takes 98 = .ok (.aload_n 0, 1) := by decide +kernel
theorem dX10_takes_99 : decode cX10_takes 99 = .ok (.getfield 29, 3) := by decide +kernel
theorem dX10_takes_102 : decode cX10_takes 102 = .ok (.iconst 1, 1) := by decide +kernel
theorem dX10_takes_103 : decode cX10_takes 103 = .ok (.iaload, 1) := by decide +kernel
theorem dX10_takes_104 : decode cX10_takes 104 = .ok (.putfield 23, 3) := by decide +kernel
theorem dX10_takes_107 : decode cX10_takes 107 = .ok (.aload_n 0, 1) := by decide +kernel
theorem dX10_takes_108 : decode cX10_takes 108 = .ok (.getfield 19, 3) := by decide +kernel
theorem dX10_takes_111 : decode cX10_takes 111 = .ok (.iconst 1, 1) := by decide +kernel
theorem dX10_takes_112 : decode cX10_takes 112 = .ok (.iconst 3, 1) := by decide +kernel
theorem dX10_takes_113 : decode cX10_takes 113 = .ok (.invokestatic 121, 3) := by decide +kernel
theorem dX10_takes_116 : decode cX10_takes 116 = .ok (.ifCond .eq 14, 3) := by decide +kernel
theorem dX10_takes_119 : decode cX10_takes 119 = .ok (.aload_n 0, 1) := by decide +kernel
theorem dX10_takes_120 : decode cX10_takes 120 = .ok (.getfield 23, 3) := by decide +kernel
theorem dX10_takes_123 : decode cX10_takes 123 = .ok (.ifCond .le 7, 3) := by decide +kernel
theorem dX10_takes_126 : decode cX10_takes 126 = .ok (.iconst 1, 1) := by decide +kernel
theorem dX10_takes_127 : decode cX10_takes 127 = .ok (.goto 4, 3) := by decide +kernel
theorem dX10_takes_130 : decode cX10_takes 130 = .ok (.iconst 0, 1) := by decide +kernel
theorem dX10_takes_131 : decode cX10_takes 131 = .ok (.ireturn, 1) := by decide +kernel
theorem dX10_takes_132 : decode cX10_takes 132 = .ok (.aload_n 0, 1) := by decide +kernel
theorem dX10_takes_133 : decode cX10_takes 133 = .ok (.aload_n 0, 1) := by decide +kernel
theorem dX10_takes_134 : decode cX10_takes 134 = .ok (.getfield 29, 3) := by decide +kernel
theorem dX10_takes_137 : decode cX10_takes 137 = .ok (.iconst 0, 1) := by decide +kernel
theorem dX10_takes_138 : decode cX10_takes 138 = .ok (.iaload, 1) := by decide +kernel
theorem dX10_takes_139 : decode cX10_takes 139 = .ok (.putfield 170, 3) := by decide +kernel
theorem dX10_takes_142 : decode cX10_takes 142 = .ok (.aload_n 0, 1) := by decide +kernel
theorem dX10_takes_143 : decode cX10_takes 143 = .ok (.getfield 170, 3) := by decide +kernel
theorem dX10_takes_146 : decode cX10_takes 146 = .ok (.iconst 3, 1) := by decide +kernel
theorem dX10_takes_147 : decode cX10_takes 147 = .ok (.if_icmp .ge 7, 3) := by decide +kernel
theorem dX10_takes_150 : decode cX10_takes 150 = .ok (.iconst 1, 1) := by decide +kernel
theorem dX10_takes_151 : decode cX10_takes 151 = .ok (.goto 4, 3) := by decide +kernel
theorem dX10_takes_154 : decode cX10_takes 154 = .ok (.iconst 0, 1) := by decide +kernel
theorem dX10_takes_155 : decode cX10_takes 155 = .ok (.ireturn, 1) := by decide +kernel
theorem dX10_takes_156 : decode cX10_takes 156 = .ok (.aload_n 0, 1) := by decide +kernel
theorem dX10_takes_157 : decode cX10_takes 157 = .ok (.aload_n 0, 1) := by decide +kernel
theorem dX10_takes_158 : decode cX10_takes 158 = .ok (.getfield 29, 3) := by decide +kernel
theorem dX10_takes_161 : decode cX10_takes 161 = .ok (.iconst 0, 1) := by decide +kernel
theorem dX10_takes_162 : decode cX10_takes 162 = .ok (.iaload, 1) := by decide +kernel
theorem dX10_takes_163 : decode cX10_takes 163 = .ok (.putfield 173, 3) := by decide +kernel
theorem dX10_takes_166 : decode cX10_takes 166 = .ok (.aload_n 0, 1) := by decide +kernel
theorem dX10_takes_167 : decode cX10_takes 167 = .ok (.getfield 173, 3) := by decide +kernel
theorem dX10_takes_170 : decode cX10_takes 170 = .ok (.iconst 2, 1) := by decide +kernel
theorem dX10_takes_171 : decode cX10_takes 171 = .ok (.if_icmp .ge 7, 3) := by decide +kernel
theorem dX10_takes_174 : decode cX10_takes 174 = .ok (.iconst 1, 1) := by decide +kernel
theorem dX10_takes_175 : decode cX10_takes 175 = .ok (.goto 4, 3) := by decide +kernel
theorem dX10_takes_178 : decode cX10_takes 178 = .ok (.iconst 0, 1) := by decide +kernel
theorem dX10_takes_179 : decode cX10_takes 179 = .ok (.ireturn, 1) := by decide +kernel
theorem dX10_takes_180 : decode cX10_takes 180 = .ok (.aload_n 0, 1) := by decide +kernel
theorem dX10_takes_181 : decode cX10_takes 181 = .ok (.aload_n 0, 1) := by decide +kernel
theorem dX10_takes_182 : decode cX10_takes 182 = .ok (.getfield 29, 3) := by decide +kernel
theorem dX10_takes_185 : decode cX10_takes 185 = .ok (.iconst 0, 1) := by decide +kernel
theorem dX10_takes_186 : decode cX10_takes 186 = .ok (.iaload, 1) := by decide +kernel
theorem dX10_takes_187 : decode cX10_takes 187 = .ok (.invokevirtual 176, 3) := by decide +kernel
theorem dX10_takes_190 : decode cX10_takes 190 = .ok (.ifCond .eq 27, 3) := by decide +kernel
theorem dX10_takes_193 : decode cX10_takes 193 = .ok (.aload_n 0, 1) := by decide +kernel
theorem dX10_takes_194 : decode cX10_takes 194 = .ok (.aload_n 0, 1) := by decide +kernel
theorem dX10_takes_195 : decode cX10_takes 195 = .ok (.getfield 29, 3) := by decide +kernel
theorem dX10_takes_198 : decode cX10_takes 198 = .ok (.iconst 0, 1) := by decide +kernel
theorem dX10_takes_199 : decode cX10_takes 199 = .ok (.iaload, 1) := by decide +kernel
theorem dX10_takes_200 : decode cX10_takes 200 = .ok (.invokevirtual 180, 3) := by decide +kernel
theorem dX10_takes_203 : decode cX10_takes 203 = .ok (.ifCond .ne 16, 3) := by decide +kernel
theorem dX10_takes_206 : decode cX10_takes 206 = .ok (.aload_n 0, 1) := by decide +kernel
theorem dX10_takes_207 : decode cX10_takes 207 = .ok (.getfield 134, 3) := by decide +kernel
theorem dX10_takes_210 : decode cX10_takes 210 = .ok (.invokestatic 183, 3) := by decide +kernel
theorem dX10_takes_213 : decode cX10_takes 213 = .ok (.iconst 3, 1) := by decide +kernel
theorem dX10_takes_214 : decode cX10_takes 214 = .ok (.if_icmp .ne 5, 3) := by decide +kernel
theorem dX10_takes_217 : decode cX10_takes 217 = .ok (.iconst 0, 1) := by decide +kernel
theorem dX10_takes_218 : decode cX10_takes 218 = .ok (.ireturn, 1) := by decide +kernel
theorem dX10_takes_219 : decode cX10_takes 219 = .ok (.aload_n 0, 1) := by decide +kernel
theorem dX10_takes_220 : decode cX10_takes 220 = .ok (.aload_n 0, 1) := by decide +kernel
theorem dX10_takes_221 : decode cX10_takes 221 = .ok (.getfield 29, 3) := by decide +kernel
theorem dX10_takes_224 : decode cX10_takes 224 = .ok (.iconst 0, 1) := by decide +kernel
theorem dX10_takes_225 : decode cX10_takes 225 = .ok (.iaload, 1) := by decide +kernel
theorem dX10_takes_226 : decode cX10_takes 226 = .ok (.invokevirtual 187, 3) := by decide +kernel
theorem dX10_takes_229 : decode cX10_takes 229 = .ok (.pop, 1) := by decide +kernel
theorem dX10_takes_230 : decode cX10_takes 230 = .ok (.iconst 1, 1) := by decide +kernel
theorem dX10_takes_231 : decode cX10_takes 231 = .ok (.ireturn, 1) := by decide +kernel
theorem dX10_takes_232 : decode cX10_takes 232 = .ok (.aload_n 0, 1) := by decide +kernel
theorem dX10_takes_233 : decode cX10_takes 233 = .ok (.aload_n 0, 1) := by decide +kernel
theorem dX10_takes_234 : decode cX10_takes 234 = .ok (.getfield 161, 3) := by decide +kernel
theorem dX10_takes_237 : decode cX10_takes 237 = .ok (.putfield 190, 3) := by decide +kernel
theorem dX10_takes_240 : decode cX10_takes 240 = .ok (.iconst 0, 1) := by decide +kernel
theorem dX10_takes_241 : decode cX10_takes 241 = .ok (.istore_n 1, 1) := by decide +kernel
theorem dX10_takes_242 : decode cX10_takes 242 = .ok (.iload_n 1, 1) := by decide +kernel
theorem dX10_takes_243 : decode cX10_takes 243 = .ok (.aload_n 0, 1) := by decide +kernel
theorem dX10_takes_244 : decode cX10_takes 244 = .ok (.getfield 161, 3) := by decide +kernel
theorem dX10_takes_247 : decode cX10_takes 247 = .ok (.if_icmp .ge 21, 3) := by decide +kernel
theorem dX10_takes_250 : decode cX10_takes 250 = .ok (.aload_n 0, 1) := by decide +kernel
theorem dX10_takes_251 : decode cX10_takes 251 = .ok (.getfield 26, 3) := by decide +kernel
theorem dX10_takes_254 : decode cX10_takes 254 = .ok (.iload_n 1, 1) := by decide +kernel
theorem dX10_takes_255 : decode cX10_takes 255 = .ok (.aload_n 0, 1) := by decide +kernel
theorem dX10_takes_256 : decode cX10_takes 256 = .ok (.getfield 29, 3) := by decide +kernel
theorem dX10_takes_259 : decode cX10_takes 259 = .ok (.iload_n 1, 1) := by decide +kernel
theorem dX10_takes_260 : decode cX10_takes 260 = .ok (.iaload, 1) := by decide +kernel
theorem dX10_takes_261 : decode cX10_takes 261 = .ok (.iastore, 1) := by decide +kernel
theorem dX10_takes_262 : decode cX10_takes 262 = .ok (.iinc 1 1, 3) := by decide +kernel
theorem dX10_takes_265 : decode cX10_takes 265 = .ok (.goto (-23), 3) := by decide +kernel
theorem dX10_takes_268 : decode cX10_takes 268 = .ok (.iconst 1, 1) := by decide +kernel
theorem dX10_takes_269 : decode cX10_takes 269 = .ok (.ireturn, 1) := by decide +kernel
theorem dX10_read_0 : decode cX10_read 0 = .ok (.iconst 0, 1) := by decide +kernel
theorem dX10_read_1 : decode cX10_read 1 = .ok (.istore_n 1, 1) := by decide +kernel
theorem dX10_read_2 : decode cX10_read 2 = .ok (.aload_n 0, 1) := by decide +kernel
theorem dX10_read_3 : decode cX10_read 3 = .ok (.iconst 0, 1) := by decide +kernel
theorem dX10_read_4 : decode cX10_read 4 = .ok (.putfield 137, 3) := by decide +kernel
theorem dX10_read_7 : decode cX10_read 7 = .ok (.aload_n 0, 1) := by decide +kernel
theorem dX10_read_8 : decode cX10_read 8 = .ok (.invokevirtual 193, 3) := by decide +kernel
theorem dX10_read_11 : decode cX10_read 11 = .ok (.iinc 1 1, 3) := by decide +kernel
theorem dX10_read_14 : decode cX10_read 14 = .ok (.aload_n 0, 1) := by decide +kernel
theorem dX10_read_15 : decode cX10_read 15 = .ok (.getfield 150, 3) := by decide +kernel
theorem dX10_read_18 : decode cX10_read 18 = .ok (.ifCond .eq 14, 3) := by decide +kernel
theorem dX10_read_21 : decode cX10_read 21 = .ok (.aload_n 0, 1) := by decide +kernel
theorem dX10_read_22 : decode cX10_read 22 = .ok (.getfield 137, 3) := by decide +kernel
theorem dX10_read_25 : decode cX10_read 25 = .ok (.aload_n 0, 1) := by decide +kernel
theorem dX10_read_26 : decode cX10_read 26 = .ok (.getfield 140, 3) := by decide +kernel
theorem dX10_read_29 : decode cX10_read 29 = .ok (.if_icmp .lt (-22), 3) := by decide +kernel
theorem dX10_read_32 : decode cX10_read 32 = .ok (.aload_n 0, 1) := by decide +kernel
theorem dX10_read_33 : decode cX10_read 33 = .ok (.getfield 150, 3) := by decide +kernel
theorem dX10_read_36 : decode cX10_read 36 = .ok (.ifCond .ne 12, 3) := by decide +kernel
theorem dX10_read_39 : decode cX10_read 39 = .ok (.sipush (-1000), 3) := by decide +kernel
theorem dX10_read_42 : decode cX10_read 42 = .ok (.aload_n 0, 1) := by decide +kernel
theorem dX10_read_43 : decode cX10_read 43 = .ok (.getfield 137, 3) := by decide +kernel
theorem dX10_read_46 : decode cX10_read 46 = .ok (.isub, 1) := by decide +kernel
theorem dX10_read_47 : decode cX10_read 47 = .ok (.ireturn, 1) := by decide +kernel
theorem dX10_read_48 : decode cX10_read 48 = .ok (.aload_n 0, 1) := by decide +kernel
theorem dX10_read_49 : decode cX10_read 49 = .ok (.iconst 0, 1) := by decide +kernel
theorem dX10_read_50 : decode cX10_read 50 = .ok (.putfield 137, 3) := by decide +kernel
theorem dX10_read_53 : decode cX10_read 53 = .ok (.aload_n 0, 1) := by decide +kernel
theorem dX10_read_54 : decode cX10_read 54 = .ok (.aload_n 0, 1) := by decide +kernel
theorem dX10_read_55 : decode cX10_read 55 = .ok (.getfield 94, 3) := by decide +kernel
theorem dX10_read_58 : decode cX10_read 58 = .ok (.invokevirtual 196, 3) := by decide +kernel
theorem dX10_read_61 : decode cX10_read 61 = .ok (.aload_n 0, 1) := by decide +kernel
theorem dX10_read_62 : decode cX10_read 62 = .ok (.getfield 137, 3) := by decide +kernel
theorem dX10_read_65 : decode cX10_read 65 = .ok (.aload_n 0, 1) := by decide +kernel
theorem dX10_read_66 : decode cX10_read 66 = .ok (.getfield 140, 3) := by decide +kernel
theorem dX10_read_69 : decode cX10_read 69 = .ok (.if_icmp .ge 36, 3) := by decide +kernel
theorem dX10_read_72 : decode cX10_read 72 = .ok (.aload_n 0, 1) := by decide +kernel
theorem dX10_read_73 : decode cX10_read 73 = .ok (.getfield 137, 3) := by decide +kernel
theorem dX10_read_76 : decode cX10_read 76 = .ok (.istore_n 2, 1) := by decide +kernel
theorem dX10_read_77 : decode cX10_read 77 = .ok (.aload_n 0, 1) := by decide +kernel
theorem dX10_read_78 : decode cX10_read 78 = .ok (.invokevirtual 193, 3) := by decide +kernel
theorem dX10_read_81 : decode cX10_read 81 = .ok (.aload_n 0, 1) := by decide +kernel
theorem dX10_read_82 : decode cX10_read 82 = .ok (.invokevirtual 200, 3) := by decide +kernel
theorem dX10_read_85 : decode cX10_read 85 = .ok (.ifCond .ne 17, 3) := by decide +kernel
theorem dX10_read_88 : decode cX10_read 88 = .ok (.aload_n 0, 1) := by decide +kernel
theorem dX10_read_89 : decode cX10_read 89 = .ok (.aload_n 0, 1) := by decide +kernel
theorem dX10_read_90 : decode cX10_read 90 = .ok (.getfield 94, 3) := by decide +kernel
theorem dX10_read_93 : decode cX10_read 93 = .ok (.invokevirtual 204, 3) := by decide +kernel
theorem dX10_read_96 : decode cX10_read 96 = .ok (.sipush (-2000), 3) := by decide +kernel
theorem dX10_read_99 : decode cX10_read 99 = .ok (.iload_n 2, 1) := by decide +kernel
theorem dX10_read_100 : decode cX10_read 100 = .ok (.isub, 1) := by decide +kernel
theorem dX10_read_101 : decode cX10_read 101 = .ok (.ireturn, 1) := by decide +kernel
theorem dX10_read_102 : decode cX10_read 102 = .ok (.goto (-41), 3) := by decide +kernel
theorem dX10_read_105 : decode cX10_read 105 = .ok (.iload_n 1, 1) := by decide +kernel
theorem dX10_read_106 : decode cX10_read 106 = .ok (.ireturn, 1) := by decide +kernel
theorem dX10_room_0 : decode cX10_room 0 = .ok (.iload_n 1, 1) := by decide +kernel
theorem dX10_room_1 : decode cX10_room 1 = .ok (.invokestatic 207, 3) := by decide +kernel
theorem dX10_room_4 : decode cX10_room 4 = .ok (.ifCond .ne 5, 3) := by decide +kernel
theorem dX10_room_7 : decode cX10_room 7 = .ok (.iconst (-1), 1) := by decide +kernel
theorem dX10_room_8 : decode cX10_room 8 = .ok (.ireturn, 1) := by decide +kernel
theorem dX10_room_9 : decode cX10_room 9 = .ok (.aload_n 0, 1) := by decide +kernel
theorem dX10_room_10 : decode cX10_room 10 = .ok (.getfield 97, 3) := by decide +kernel
theorem dX10_room_13 : decode cX10_room 13 = .ok (.iload_n 1, 1) := by decide +kernel
theorem dX10_room_14 : decode cX10_room 14 = .ok (.iaload, 1) := by decide +kernel
theorem dX10_room_15 : decode cX10_room 15 = .ok (.iconst 2, 1) := by decide +kernel
theorem dX10_room_16 : decode cX10_room 16 = .ok (.if_icmp .ne 12, 3) := by decide +kernel
theorem dX10_room_19 : decode cX10_room 19 = .ok (.aload_n 0, 1) := by decide +kernel
theorem dX10_room_20 : decode cX10_room 20 = .ok (.getfield 106, 3) := by decide +kernel
theorem dX10_room_23 : decode cX10_room 23 = .ok (.iload_n 1, 1) := by decide +kernel
theorem dX10_room_24 : decode cX10_room 24 = .ok (.iaload, 1) := by decide +kernel
theorem dX10_room_25 : decode cX10_room 25 = .ok (.ifCond .eq 20, 3) := by decide +kernel
theorem dX10_room_28 : decode cX10_room 28 = .ok (.aload_n 0, 1) := by decide +kernel
theorem dX10_room_29 : decode cX10_room 29 = .ok (.getfield 97, 3) := by decide +kernel
theorem dX10_room_32 : decode cX10_room 32 = .ok (.iload_n 1, 1) := by decide +kernel
theorem dX10_room_33 : decode cX10_room 33 = .ok (.iaload, 1) := by decide +kernel
theorem dX10_room_34 : decode cX10_room 34 = .ok (.ifCond .ne 8, 3) := by decide +kernel
theorem dX10_room_37 : decode cX10_room 37 = .ok (.bipush (-11), 2) := by decide +kernel
theorem dX10_room_39 : decode cX10_room 39 = .ok (.goto 5, 3) := by decide +kernel
theorem dX10_room_42 : decode cX10_room 42 = .ok (.bipush (-12), 2) := by decide +kernel
theorem dX10_room_44 : decode cX10_room 44 = .ok (.ireturn, 1) := by decide +kernel
theorem dX10_room_45 : decode cX10_room 45 = .ok (.aload_n 0, 1) := by decide +kernel
theorem dX10_room_46 : decode cX10_room 46 = .ok (.iload_n 1, 1) := by decide +kernel
theorem dX10_room_47 : decode cX10_room 47 = .ok (.putfield 143, 3) := by decide +kernel
theorem dX10_room_50 : decode cX10_room 50 = .ok (.aload_n 0, 1) := by decide +kernel
theorem dX10_room_51 : decode cX10_room 51 = .ok (.aload_n 0, 1) := by decide +kernel
theorem dX10_room_52 : decode cX10_room 52 = .ok (.getfield 109, 3) := by decide +kernel
theorem dX10_room_55 : decode cX10_room 55 = .ok (.iload_n 1, 1) := by decide +kernel
theorem dX10_room_56 : decode cX10_room 56 = .ok (.iaload, 1) := by decide +kernel
theorem dX10_room_57 : decode cX10_room 57 = .ok (.putfield 140, 3) := by decide +kernel
theorem dX10_room_60 : decode cX10_room 60 = .ok (.aload_n 0, 1) := by decide +kernel
theorem dX10_room_61 : decode cX10_room 61 = .ok (.invokevirtual 210, 3) := by decide +kernel
theorem dX10_room_64 : decode cX10_room 64 = .ok (.ireturn, 1) := by decide +kernel
theorem dX10_guest_0 : decode cX10_guest 0 = .ok (.aload_n 0, 1) := by decide +kernel
theorem dX10_guest_1 : decode cX10_guest 1 = .ok (.iload_n 1, 1) := by decide +kernel
theorem dX10_guest_2 : decode cX10_guest 2 = .ok (.invokevirtual 176, 3) := by decide +kernel
theorem dX10_guest_5 : decode cX10_guest 5 = .ok (.ifCond .ne 5, 3) := by decide +kernel
theorem dX10_guest_8 : decode cX10_guest 8 = .ok (.iconst (-1), 1) := by decide +kernel
theorem dX10_guest_9 : decode cX10_guest 9 = .ok (.ireturn, 1) := by decide +kernel
theorem dX10_guest_10 : decode cX10_guest 10 = .ok (.iload_n 2, 1) := by decide +kernel
theorem dX10_guest_11 : decode cX10_guest 11 = .ok (.tableswitch 147 0 8 #[49, 56, 63, 70, 92, 98, 112, 118, 132], 49) := by decide +kernel
theorem dX10_guest_60 : decode cX10_guest 60 = .ok (.aload_n 0, 1) := by decide +kernel
theorem dX10_guest_61 : decode cX10_guest 61 = .ok (.getfield 7, 3) := by decide +kernel
theorem dX10_guest_64 : decode cX10_guest 64 = .ok (.iload_n 1, 1) := by decide +kernel
theorem dX10_guest_65 : decode cX10_guest 65 = .ok (.iaload, 1) := by decide +kernel
theorem dX10_guest_66 : decode cX10_guest 66 = .ok (.ireturn, 1) := by decide +kernel
theorem dX10_guest_67 : decode cX10_guest 67 = .ok (.aload_n 0, 1) := by decide +kernel
theorem dX10_guest_68 : decode cX10_guest 68 = .ok (.getfield 13, 3) := by decide +kernel
theorem dX10_guest_71 : decode cX10_guest 71 = .ok (.iload_n 1, 1) := by decide +kernel
theorem dX10_guest_72 : decode cX10_guest 72 = .ok (.iaload, 1) := by decide +kernel
theorem dX10_guest_73 : decode cX10_guest 73 = .ok (.ireturn, 1) := by decide +kernel
theorem dX10_guest_74 : decode cX10_guest 74 = .ok (.aload_n 0, 1) := by decide +kernel
theorem dX10_guest_75 : decode cX10_guest 75 = .ok (.getfield 16, 3) := by decide +kernel
theorem dX10_guest_78 : decode cX10_guest 78 = .ok (.iload_n 1, 1) := by decide +kernel
theorem dX10_guest_79 : decode cX10_guest 79 = .ok (.iaload, 1) := by decide +kernel
theorem dX10_guest_80 : decode cX10_guest 80 = .ok (.ireturn, 1) := by decide +kernel
theorem dX10_guest_81 : decode cX10_guest 81 = .ok (.aload_n 0, 1) := by decide +kernel
theorem dX10_guest_82 : decode cX10_guest 82 = .ok (.getfield 7, 3) := by decide +kernel
theorem dX10_guest_85 : decode cX10_guest 85 = .ok (.iload_n 1, 1) := by decide +kernel
theorem dX10_guest_86 : decode cX10_guest 86 = .ok (.iaload, 1) := by decide +kernel
theorem dX10_guest_87 : decode cX10_guest 87 = .ok (.aload_n 0, 1) := by decide +kernel
theorem dX10_guest_88 : decode cX10_guest 88 = .ok (.getfield 13, 3) := by decide +kernel
theorem dX10_guest_91 : decode cX10_guest 91 = .ok (.iload_n 1, 1) := by decide +kernel
theorem dX10_guest_92 : decode cX10_guest 92 = .ok (.iaload, 1) := by decide +kernel
theorem dX10_guest_93 : decode cX10_guest 93 = .ok (.aload_n 0, 1) := by decide +kernel
theorem dX10_guest_94 : decode cX10_guest 94 = .ok (.getfield 16, 3) := by decide +kernel
theorem dX10_guest_97 : decode cX10_guest 97 = .ok (.iload_n 1, 1) := by decide +kernel
theorem dX10_guest_98 : decode cX10_guest 98 = .ok (.iaload, 1) := by decide +kernel
theorem dX10_guest_99 : decode cX10_guest 99 = .ok (.invokestatic 213, 3) := by decide +kernel
theorem dX10_guest_102 : decode cX10_guest 102 = .ok (.ireturn, 1) := by decide +kernel
theorem dX10_guest_103 : decode cX10_guest 103 = .ok (.aload_n 0, 1) := by decide +kernel
theorem dX10_guest_104 : decode cX10_guest 104 = .ok (.iload_n 1, 1) := by decide +kernel
theorem dX10_guest_105 : decode cX10_guest 105 = .ok (.invokevirtual 216, 3) := by decide +kernel
theorem dX10_guest_108 : decode cX10_guest 108 = .ok (.ireturn, 1) := by decide +kernel
theorem dX10_guest_109 : decode cX10_guest 109 = .ok (.aload_n 0, 1) := by decide +kernel
theorem dX10_guest_110 : decode cX10_guest 110 = .ok (.iload_n 1, 1) := by decide +kernel
theorem dX10_guest_111 : decode cX10_guest 111 = .ok (.invokevirtual 219, 3) := by decide +kernel
theorem dX10_guest_114 : decode cX10_guest 114 = .ok (.ifCond .eq 7, 3) := by decide +kernel
theorem dX10_guest_117 : decode cX10_guest 117 = .ok (.iconst 1, 1) := by decide +kernel
theorem dX10_guest_118 : decode cX10_guest 118 = .ok (.goto 4, 3) := by decide +kernel
theorem dX10_guest_121 : decode cX10_guest 121 = .ok (.iconst 0, 1) := by decide +kernel
theorem dX10_guest_122 : decode cX10_guest 122 = .ok (.ireturn, 1) := by decide +kernel
theorem dX10_guest_123 : decode cX10_guest 123 = .ok (.aload_n 0, 1) := by decide +kernel
theorem dX10_guest_124 : decode cX10_guest 124 = .ok (.iload_n 1, 1) := by decide +kernel
theorem dX10_guest_125 : decode cX10_guest 125 = .ok (.invokevirtual 222, 3) := by decide +kernel
theorem dX10_guest_128 : decode cX10_guest 128 = .ok (.ireturn, 1) := by decide +kernel
theorem dX10_guest_129 : decode cX10_guest 129 = .ok (.aload_n 0, 1) := by decide +kernel
theorem dX10_guest_130 : decode cX10_guest 130 = .ok (.iload_n 1, 1) := by decide +kernel
theorem dX10_guest_131 : decode cX10_guest 131 = .ok (.invokevirtual 180, 3) := by decide +kernel
theorem dX10_guest_134 : decode cX10_guest 134 = .ok (.ifCond .eq 7, 3) := by decide +kernel
theorem dX10_guest_137 : decode cX10_guest 137 = .ok (.iconst 1, 1) := by decide +kernel
theorem dX10_guest_138 : decode cX10_guest 138 = .ok (.goto 4, 3) := by decide +kernel
theorem dX10_guest_141 : decode cX10_guest 141 = .ok (.iconst 0, 1) := by decide +kernel
theorem dX10_guest_142 : decode cX10_guest 142 = .ok (.ireturn, 1) := by decide +kernel
theorem dX10_guest_143 : decode cX10_guest 143 = .ok (.aload_n 0, 1) := by decide +kernel
theorem dX10_guest_144 : decode cX10_guest 144 = .ok (.invokevirtual 225, 3) := by decide +kernel
theorem dX10_guest_147 : decode cX10_guest 147 = .ok (.aload_n 0, 1) := by decide +kernel
theorem dX10_guest_148 : decode cX10_guest 148 = .ok (.invokevirtual 228, 3) := by decide +kernel
theorem dX10_guest_151 : decode cX10_guest 151 = .ok (.aload_n 0, 1) := by decide +kernel
theorem dX10_guest_152 : decode cX10_guest 152 = .ok (.getfield 54, 3) := by decide +kernel
theorem dX10_guest_155 : decode cX10_guest 155 = .ok (.iload_n 1, 1) := by decide +kernel
theorem dX10_guest_156 : decode cX10_guest 156 = .ok (.iaload, 1) := by decide +kernel
theorem dX10_guest_157 : decode cX10_guest 157 = .ok (.ireturn, 1) := by decide +kernel
theorem dX10_guest_158 : decode cX10_guest 158 = .ok (.iconst (-1), 1) := by decide +kernel
theorem dX10_guest_159 : decode cX10_guest 159 = .ok (.ireturn, 1) := by decide +kernel
theorem dX10_comes_0 : decode cX10_comes 0 = .ok (.iload_n 1, 1) := by decide +kernel
theorem dX10_comes_1 : decode cX10_comes 1 = .ok (.invokestatic 207, 3) := by decide +kernel
theorem dX10_comes_4 : decode cX10_comes 4 = .ok (.ifCond .eq 13, 3) := by decide +kernel
theorem dX10_comes_7 : decode cX10_comes 7 = .ok (.iload_n 2, 1) := by decide +kernel
theorem dX10_comes_8 : decode cX10_comes 8 = .ok (.iconst 0, 1) := by decide +kernel
theorem dX10_comes_9 : decode cX10_comes 9 = .ok (.bipush 99, 2) := by decide +kernel
theorem dX10_comes_11 : decode cX10_comes 11 = .ok (.invokestatic 121, 3) := by decide +kernel
theorem dX10_comes_14 : decode cX10_comes 14 = .ok (.ifCond .ne 5, 3) := by decide +kernel
theorem dX10_comes_17 : decode cX10_comes 17 = .ok (.iconst (-1), 1) := by decide +kernel
theorem dX10_comes_18 : decode cX10_comes 18 = .ok (.ireturn, 1) := by decide +kernel
theorem dX10_comes_19 : decode cX10_comes 19 = .ok (.aload_n 0, 1) := by decide +kernel
theorem dX10_comes_20 : decode cX10_comes 20 = .ok (.getfield 97, 3) := by decide +kernel
theorem dX10_comes_23 : decode cX10_comes 23 = .ok (.iload_n 1, 1) := by decide +kernel
theorem dX10_comes_24 : decode cX10_comes 24 = .ok (.iaload, 1) := by decide +kernel
theorem dX10_comes_25 : decode cX10_comes 25 = .ok (.iconst 1, 1) := by decide +kernel
theorem dX10_comes_26 : decode cX10_comes 26 = .ok (.if_icmp .eq 20, 3) := by decide +kernel
theorem dX10_comes_29 : decode cX10_comes 29 = .ok (.aload_n 0, 1) := by decide +kernel
theorem dX10_comes_30 : decode cX10_comes 30 = .ok (.getfield 97, 3) := by decide +kernel
theorem dX10_comes_33 : decode cX10_comes 33 = .ok (.iload_n 1, 1) := by decide +kernel
theorem dX10_comes_34 : decode cX10_comes 34 = .ok (.iaload, 1) := by decide +kernel
theorem dX10_comes_35 : decode cX10_comes 35 = .ok (.ifCond .ne 8, 3) := by decide +kernel
theorem dX10_comes_38 : decode cX10_comes 38 = .ok (.bipush (-11), 2) := by decide +kernel
theorem dX10_comes_40 : decode cX10_comes 40 = .ok (.goto 5, 3) := by decide +kernel
theorem dX10_comes_43 : decode cX10_comes 43 = .ok (.bipush (-12), 2) := by decide +kernel
theorem dX10_comes_45 : decode cX10_comes 45 = .ok (.ireturn, 1) := by decide +kernel
theorem dX10_comes_46 : decode cX10_comes 46 = .ok (.aload_n 0, 1) := by decide +kernel
theorem dX10_comes_47 : decode cX10_comes 47 = .ok (.getfield 118, 3) := by decide +kernel
theorem dX10_comes_50 : decode cX10_comes 50 = .ok (.bipush 10, 2) := by decide +kernel
theorem dX10_comes_52 : decode cX10_comes 52 = .ok (.if_icmp .ne 8, 3) := by decide +kernel
theorem dX10_comes_55 : decode cX10_comes 55 = .ok (.bipush (-2), 2) := by decide +kernel
theorem dX10_comes_57 : decode cX10_comes 57 = .ok (.goto 20, 3) := by decide +kernel
theorem dX10_comes_60 : decode cX10_comes 60 = .ok (.aload_n 0, 1) := by decide +kernel
theorem dX10_comes_61 : decode cX10_comes 61 = .ok (.aload_n 0, 1) := by decide +kernel
theorem dX10_comes_62 : decode cX10_comes 62 = .ok (.getfield 100, 3) := by decide +kernel
theorem dX10_comes_65 : decode cX10_comes 65 = .ok (.iload_n 1, 1) := by decide +kernel
theorem dX10_comes_66 : decode cX10_comes 66 = .ok (.iaload, 1) := by decide +kernel
theorem dX10_comes_67 : decode cX10_comes 67 = .ok (.aload_n 0, 1) := by decide +kernel
theorem dX10_comes_68 : decode cX10_comes 68 = .ok (.getfield 103, 3) := by decide +kernel
theorem dX10_comes_71 : decode cX10_comes 71 = .ok (.iload_n 1, 1) := by decide +kernel
theorem dX10_comes_72 : decode cX10_comes 72 = .ok (.iaload, 1) := by decide +kernel
theorem dX10_comes_73 : decode cX10_comes 73 = .ok (.iload_n 2, 1) := by decide +kernel
theorem dX10_comes_74 : decode cX10_comes 74 = .ok (.invokevirtual 166, 3) := by decide +kernel
theorem dX10_comes_77 : decode cX10_comes 77 = .ok (.ireturn, 1) := by decide +kernel
theorem dX10_leaves_0 : decode cX10_leaves 0 = .ok (.aload_n 0, 1) := by decide +kernel
theorem dX10_leaves_1 : decode cX10_leaves 1 = .ok (.iload_n 1, 1) := by decide +kernel
theorem dX10_leaves_2 : decode cX10_leaves 2 = .ok (.invokevirtual 176, 3) := by decide +kernel
theorem dX10_leaves_5 : decode cX10_leaves 5 = .ok (.ifCond .ne 5, 3) := by decide +kernel
theorem dX10_leaves_8 : decode cX10_leaves 8 = .ok (.iconst (-1), 1) := by decide +kernel
theorem dX10_leaves_9 : decode cX10_leaves 9 = .ok (.ireturn, 1) := by decide +kernel
theorem dX10_leaves_10 : decode cX10_leaves 10 = .ok (.iload_n 1, 1) := by decide +kernel
theorem dX10_leaves_11 : decode cX10_leaves 11 = .ok (.istore_n 2, 1) := by decide +kernel
theorem dX10_leaves_12 : decode cX10_leaves 12 = .ok (.iload_n 2, 1) := by decide +kernel
theorem dX10_leaves_13 : decode cX10_leaves 13 = .ok (.iconst 1, 1) := by decide +kernel
theorem dX10_leaves_14 : decode cX10_leaves 14 = .ok (.iadd, 1) := by decide +kernel
theorem dX10_leaves_15 : decode cX10_leaves 15 = .ok (.aload_n 0, 1) := by decide +kernel
theorem dX10_leaves_16 : decode cX10_leaves 16 = .ok (.getfield 118, 3) := by decide +kernel
theorem dX10_leaves_19 : decode cX10_leaves 19 = .ok (.if_icmp .ge 51, 3) := by decide +kernel
theorem dX10_leaves_22 : decode cX10_leaves 22 = .ok (.aload_n 0, 1) := by decide +kernel
theorem dX10_leaves_23 : decode cX10_leaves 23 = .ok (.getfield 7, 3) := by decide +kernel
theorem dX10_leaves_26 : decode cX10_leaves 26 = .ok (.iload_n 2, 1) := by decide +kernel
theorem dX10_leaves_27 : decode cX10_leaves 27 = .ok (.aload_n 0, 1) := by decide +kernel
theorem dX10_leaves_28 : decode cX10_leaves 28 = .ok (.getfield 7, 3) := by decide +kernel
theorem dX10_leaves_31 : decode cX10_leaves 31 = .ok (.iload_n 2, 1) := by decide +kernel
theorem dX10_leaves_32 : decode cX10_leaves 32 = .ok (.iconst 1, 1) := by decide +kernel
theorem dX10_leaves_33 : decode cX10_leaves 33 = .ok (.iadd, 1) := by decide +kernel
theorem dX10_leaves_34 : decode cX10_leaves 34 = .ok (.iaload, 1) := by decide +kernel
theorem dX10_leaves_35 : decode cX10_leaves 35 = .ok (.iastore, 1) := by decide +kernel
theorem dX10_leaves_36 : decode cX10_leaves 36 = .ok (.aload_n 0, 1) := by decide +kernel
theorem dX10_leaves_37 : decode cX10_leaves 37 = .ok (.getfield 13, 3) := by decide +kernel
theorem dX10_leaves_40 : decode cX10_leaves 40 = .ok (.iload_n 2, 1) := by decide +kernel
theorem dX10_leaves_41 : decode cX10_leaves 41 = .ok (.aload_n 0, 1) := by decide +kernel
theorem dX10_leaves_42 : decode cX10_leaves 42 = .ok (.getfield 13, 3) := by decide +kernel
theorem dX10_leaves_45 : decode cX10_leaves 45 = .ok (.iload_n 2, 1) := by decide +kernel
theorem dX10_leaves_46 : decode cX10_leaves 46 = .ok (.iconst 1, 1) := by decide +kernel
theorem dX10_leaves_47 : decode cX10_leaves 47 = .ok (.iadd, 1) := by decide +kernel
theorem dX10_leaves_48 : decode cX10_leaves 48 = .ok (.iaload, 1) := by decide +kernel
theorem dX10_leaves_49 : decode cX10_leaves 49 = .ok (.iastore, 1) := by decide +kernel
theorem dX10_leaves_50 : decode cX10_leaves 50 = .ok (.aload_n 0, 1) := by decide +kernel
theorem dX10_leaves_51 : decode cX10_leaves 51 = .ok (.getfield 16, 3) := by decide +kernel
theorem dX10_leaves_54 : decode cX10_leaves 54 = .ok (.iload_n 2, 1) := by decide +kernel
theorem dX10_leaves_55 : decode cX10_leaves 55 = .ok (.aload_n 0, 1) := by decide +kernel
theorem dX10_leaves_56 : decode cX10_leaves 56 = .ok (.getfield 16, 3) := by decide +kernel
theorem dX10_leaves_59 : decode cX10_leaves 59 = .ok (.iload_n 2, 1) := by decide +kernel
theorem dX10_leaves_60 : decode cX10_leaves 60 = .ok (.iconst 1, 1) := by decide +kernel
theorem dX10_leaves_61 : decode cX10_leaves 61 = .ok (.iadd, 1) := by decide +kernel
theorem dX10_leaves_62 : decode cX10_leaves 62 = .ok (.iaload, 1) := by decide +kernel
theorem dX10_leaves_63 : decode cX10_leaves 63 = .ok (.iastore, 1) := by decide +kernel
theorem dX10_leaves_64 : decode cX10_leaves 64 = .ok (.iinc 2 1, 3) := by decide +kernel
theorem dX10_leaves_67 : decode cX10_leaves 67 = .ok (.goto (-55), 3) := by decide +kernel
theorem dX10_leaves_70 : decode cX10_leaves 70 = .ok (.aload_n 0, 1) := by decide +kernel
theorem dX10_leaves_71 : decode cX10_leaves 71 = .ok (.dup, 1) := by decide +kernel
theorem dX10_leaves_72 : decode cX10_leaves 72 = .ok (.getfield 118, 3) := by decide +kernel
theorem dX10_leaves_75 : decode cX10_leaves 75 = .ok (.iconst 1, 1) := by decide +kernel
theorem dX10_leaves_76 : decode cX10_leaves 76 = .ok (.isub, 1) := by decide +kernel
theorem dX10_leaves_77 : decode cX10_leaves 77 = .ok (.putfield 118, 3) := by decide +kernel
theorem dX10_leaves_80 : decode cX10_leaves 80 = .ok (.aload_n 0, 1) := by decide +kernel
theorem dX10_leaves_81 : decode cX10_leaves 81 = .ok (.aload_n 0, 1) := by decide +kernel
theorem dX10_leaves_82 : decode cX10_leaves 82 = .ok (.getfield 134, 3) := by decide +kernel
theorem dX10_leaves_85 : decode cX10_leaves 85 = .ok (.iconst 1, 1) := by decide +kernel
theorem dX10_leaves_86 : decode cX10_leaves 86 = .ok (.iload_n 1, 1) := by decide +kernel
theorem dX10_leaves_87 : decode cX10_leaves 87 = .ok (.ishl, 1) := by decide +kernel
theorem dX10_leaves_88 : decode cX10_leaves 88 = .ok (.iconst 1, 1) := by decide +kernel
theorem dX10_leaves_89 : decode cX10_leaves 89 = .ok (.isub, 1) := by decide +kernel
theorem dX10_leaves_90 : decode cX10_leaves 90 = .ok (.iand, 1) := by decide +kernel
theorem dX10_leaves_91 : decode cX10_leaves 91 = .ok (.aload_n 0, 1) := by decide +kernel
theorem dX10_leaves_92 : decode cX10_leaves 92 = .ok (.getfield 134, 3) := by decide +kernel
theorem dX10_leaves_95 : decode cX10_leaves 95 = .ok (.iload_n 1, 1) := by decide +kernel
theorem dX10_leaves_96 : decode cX10_leaves 96 = .ok (.iconst 1, 1) := by decide +kernel
theorem dX10_leaves_97 : decode cX10_leaves 97 = .ok (.iadd, 1) := by decide +kernel
theorem dX10_leaves_98 : decode cX10_leaves 98 = .ok (.ishr, 1) := by decide +kernel
theorem dX10_leaves_99 : decode cX10_leaves 99 = .ok (.iload_n 1, 1) := by decide +kernel
theorem dX10_leaves_100 : decode cX10_leaves 100 = .ok (.ishl, 1) := by decide +kernel
theorem dX10_leaves_101 : decode cX10_leaves 101 = .ok (.ior, 1) := by decide +kernel
theorem dX10_leaves_102 : decode cX10_leaves 102 = .ok (.putfield 134, 3) := by decide +kernel
theorem dX10_leaves_105 : decode cX10_leaves 105 = .ok (.aload_n 0, 1) := by decide +kernel
theorem dX10_leaves_106 : decode cX10_leaves 106 = .ok (.getfield 118, 3) := by decide +kernel
theorem dX10_leaves_109 : decode cX10_leaves 109 = .ok (.ireturn, 1) := by decide +kernel
theorem dX10_goes_0 : decode cX10_goes 0 = .ok (.aload_n 0, 1) := by decide +kernel
theorem dX10_goes_1 : decode cX10_goes 1 = .ok (.iload_n 1, 1) := by decide +kernel
theorem dX10_goes_2 : decode cX10_goes 2 = .ok (.invokevirtual 176, 3) := by decide +kernel
theorem dX10_goes_5 : decode cX10_goes 5 = .ok (.ifCond .eq 13, 3) := by decide +kernel
theorem dX10_goes_8 : decode cX10_goes 8 = .ok (.iload_n 2, 1) := by decide +kernel
theorem dX10_goes_9 : decode cX10_goes 9 = .ok (.iconst 0, 1) := by decide +kernel
theorem dX10_goes_10 : decode cX10_goes 10 = .ok (.bipush 99, 2) := by decide +kernel
theorem dX10_goes_12 : decode cX10_goes 12 = .ok (.invokestatic 121, 3) := by decide +kernel
theorem dX10_goes_15 : decode cX10_goes 15 = .ok (.ifCond .ne 5, 3) := by decide +kernel
theorem dX10_goes_18 : decode cX10_goes 18 = .ok (.iconst (-1), 1) := by decide +kernel
theorem dX10_goes_19 : decode cX10_goes 19 = .ok (.ireturn, 1) := by decide +kernel
theorem dX10_goes_20 : decode cX10_goes 20 = .ok (.aload_n 0, 1) := by decide +kernel
theorem dX10_goes_21 : decode cX10_goes 21 = .ok (.getfield 16, 3) := by decide +kernel
theorem dX10_goes_24 : decode cX10_goes 24 = .ok (.iload_n 1, 1) := by decide +kernel
theorem dX10_goes_25 : decode cX10_goes 25 = .ok (.iaload, 1) := by decide +kernel
theorem dX10_goes_26 : decode cX10_goes 26 = .ok (.istore_n 3, 1) := by decide +kernel
theorem dX10_goes_27 : decode cX10_goes 27 = .ok (.aload_n 0, 1) := by decide +kernel
theorem dX10_goes_28 : decode cX10_goes 28 = .ok (.getfield 16, 3) := by decide +kernel
theorem dX10_goes_31 : decode cX10_goes 31 = .ok (.iload_n 1, 1) := by decide +kernel
theorem dX10_goes_32 : decode cX10_goes 32 = .ok (.iload_n 2, 1) := by decide +kernel
theorem dX10_goes_33 : decode cX10_goes 33 = .ok (.iastore, 1) := by decide +kernel
theorem dX10_goes_34 : decode cX10_goes 34 = .ok (.iload_n 3, 1) := by decide +kernel
theorem dX10_goes_35 : decode cX10_goes 35 = .ok (.ireturn, 1) := by decide +kernel
theorem dX10_hook_0 : decode cX10_hook 0 = .ok (.aload_n 0, 1) := by decide +kernel
theorem dX10_hook_1 : decode cX10_hook 1 = .ok (.iload_n 1, 1) := by decide +kernel
theorem dX10_hook_2 : decode cX10_hook 2 = .ok (.invokevirtual 176, 3) := by decide +kernel
theorem dX10_hook_5 : decode cX10_hook 5 = .ok (.ifCond .ne 5, 3) := by decide +kernel
theorem dX10_hook_8 : decode cX10_hook 8 = .ok (.iconst (-1), 1) := by decide +kernel
theorem dX10_hook_9 : decode cX10_hook 9 = .ok (.ireturn, 1) := by decide +kernel
theorem dX10_hook_10 : decode cX10_hook 10 = .ok (.aload_n 0, 1) := by decide +kernel
theorem dX10_hook_11 : decode cX10_hook 11 = .ok (.iload_n 1, 1) := by decide +kernel
theorem dX10_hook_12 : decode cX10_hook 12 = .ok (.invokevirtual 180, 3) := by decide +kernel
theorem dX10_hook_15 : decode cX10_hook 15 = .ok (.ifCond .ne 19, 3) := by decide +kernel
theorem dX10_hook_18 : decode cX10_hook 18 = .ok (.aload_n 0, 1) := by decide +kernel
theorem dX10_hook_19 : decode cX10_hook 19 = .ok (.getfield 134, 3) := by decide +kernel
theorem dX10_hook_22 : decode cX10_hook 22 = .ok (.invokestatic 183, 3) := by decide +kernel
theorem dX10_hook_25 : decode cX10_hook 25 = .ok (.iconst 3, 1) := by decide +kernel
theorem dX10_hook_26 : decode cX10_hook 26 = .ok (.if_icmp .ne 8, 3) := by decide +kernel
theorem dX10_hook_29 : decode cX10_hook 29 = .ok (.bipush (-2), 2) := by decide +kernel
theorem dX10_hook_31 : decode cX10_hook 31 = .ok (.goto 8, 3) := by decide +kernel
theorem dX10_hook_34 : decode cX10_hook 34 = .ok (.aload_n 0, 1) := by decide +kernel
theorem dX10_hook_35 : decode cX10_hook 35 = .ok (.iload_n 1, 1) := by decide +kernel
theorem dX10_hook_36 : decode cX10_hook 36 = .ok (.invokevirtual 187, 3) := by decide +kernel
theorem dX10_hook_39 : decode cX10_hook 39 = .ok (.ireturn, 1) := by decide +kernel
theorem dX10_set_0 : decode cX10_set 0 = .ok (.iload_n 1, 1) := by decide +kernel
theorem dX10_set_1 : decode cX10_set 1 = .ok (.iconst 0, 1) := by decide +kernel
theorem dX10_set_2 : decode cX10_set 2 = .ok (.iconst 3, 1) := by decide +kernel
theorem dX10_set_3 : decode cX10_set 3 = .ok (.invokestatic 121, 3) := by decide +kernel
theorem dX10_set_6 : decode cX10_set 6 = .ok (.ifCond .eq 13, 3) := by decide +kernel
theorem dX10_set_9 : decode cX10_set 9 = .ok (.aload_n 0, 1) := by decide +kernel
theorem dX10_set_10 : decode cX10_set 10 = .ok (.iload_n 1, 1) := by decide +kernel
theorem dX10_set_11 : decode cX10_set 11 = .ok (.iconst 1, 1) := by decide +kernel
theorem dX10_set_12 : decode cX10_set 12 = .ok (.iadd, 1) := by decide +kernel
theorem dX10_set_13 : decode cX10_set 13 = .ok (.invokevirtual 231, 3) := by decide +kernel
theorem dX10_set_16 : decode cX10_set 16 = .ok (.goto 4, 3) := by decide +kernel
theorem dX10_set_19 : decode cX10_set 19 = .ok (.iconst (-1), 1) := by decide +kernel
theorem dX10_set_20 : decode cX10_set 20 = .ok (.istore_n 3, 1) := by decide +kernel
theorem dX10_set_21 : decode cX10_set 21 = .ok (.iload_n 1, 1) := by decide +kernel
theorem dX10_set_22 : decode cX10_set 22 = .ok (.iconst 2, 1) := by decide +kernel
theorem dX10_set_23 : decode cX10_set 23 = .ok (.if_icmp .ge 7, 3) := by decide +kernel
theorem dX10_set_26 : decode cX10_set 26 = .ok (.iconst 1, 1) := by decide +kernel
theorem dX10_set_27 : decode cX10_set 27 = .ok (.goto 4, 3) := by decide +kernel
theorem dX10_set_30 : decode cX10_set 30 = .ok (.iconst 0, 1) := by decide +kernel
theorem dX10_set_31 : decode cX10_set 31 = .ok (.istore 4, 2) := by decide +kernel
theorem dX10_set_33 : decode cX10_set 33 = .ok (.iload_n 1, 1) := by decide +kernel
theorem dX10_set_34 : decode cX10_set 34 = .ok (.ifCond .ne 7, 3) := by decide +kernel
theorem dX10_set_37 : decode cX10_set 37 = .ok (.iconst 3, 1) := by decide +kernel
theorem dX10_set_38 : decode cX10_set 38 = .ok (.goto 23, 3) := by decide +kernel
theorem dX10_set_41 : decode cX10_set 41 = .ok (.iload_n 1, 1) := by decide +kernel
theorem dX10_set_42 : decode cX10_set 42 = .ok (.iconst 1, 1) := by decide +kernel
theorem dX10_set_43 : decode cX10_set 43 = .ok (.if_icmp .ne 8, 3) := by decide +kernel
theorem dX10_set_46 : decode cX10_set 46 = .ok (.bipush 9, 2) := by decide +kernel
theorem dX10_set_48 : decode cX10_set 48 = .ok (.goto 13, 3) := by decide +kernel
theorem dX10_set_51 : decode cX10_set 51 = .ok (.iload_n 1, 1) := by decide +kernel
theorem dX10_set_52 : decode cX10_set 52 = .ok (.iconst 2, 1) := by decide +kernel
theorem dX10_set_53 : decode cX10_set 53 = .ok (.if_icmp .ne 7, 3) := by decide +kernel
theorem dX10_set_56 : decode cX10_set 56 = .ok (.iconst 2, 1) := by decide +kernel
theorem dX10_set_57 : decode cX10_set 57 = .ok (.goto 4, 3) := by decide +kernel
theorem dX10_set_60 : decode cX10_set 60 = .ok (.iconst 1, 1) := by decide +kernel
theorem dX10_set_61 : decode cX10_set 61 = .ok (.istore 5, 2) := by decide +kernel
theorem dX10_set_63 : decode cX10_set 63 = .ok (.iload_n 3, 1) := by decide +kernel
theorem dX10_set_64 : decode cX10_set 64 = .ok (.iconst (-1), 1) := by decide +kernel
theorem dX10_set_65 : decode cX10_set 65 = .ok (.if_icmp .eq 14, 3) := by decide +kernel
theorem dX10_set_68 : decode cX10_set 68 = .ok (.iload_n 2, 1) := by decide +kernel
theorem dX10_set_69 : decode cX10_set 69 = .ok (.iload 4, 2) := by decide +kernel
theorem dX10_set_71 : decode cX10_set 71 = .ok (.iload 5, 2) := by decide +kernel
theorem dX10_set_73 : decode cX10_set 73 = .ok (.invokestatic 121, 3) := by decide +kernel
theorem dX10_set_76 : decode cX10_set 76 = .ok (.ifCond .ne 5, 3) := by decide +kernel
theorem dX10_set_79 : decode cX10_set 79 = .ok (.iconst (-1), 1) := by decide +kernel
theorem dX10_set_80 : decode cX10_set 80 = .ok (.ireturn, 1) := by decide +kernel
theorem dX10_set_81 : decode cX10_set 81 = .ok (.aload_n 0, 1) := by decide +kernel
theorem dX10_set_82 : decode cX10_set 82 = .ok (.iload_n 1, 1) := by decide +kernel
theorem dX10_set_83 : decode cX10_set 83 = .ok (.ifCond .ne 7, 3) := by decide +kernel
theorem dX10_set_86 : decode cX10_set 86 = .ok (.iload_n 2, 1) := by decide +kernel
theorem dX10_set_87 : decode cX10_set 87 = .ok (.goto 7, 3) := by decide +kernel
theorem dX10_set_90 : decode cX10_set 90 = .ok (.aload_n 0, 1) := by decide +kernel
theorem dX10_set_91 : decode cX10_set 91 = .ok (.getfield 19, 3) := by decide +kernel
theorem dX10_set_94 : decode cX10_set 94 = .ok (.putfield 19, 3) := by decide +kernel
theorem dX10_set_97 : decode cX10_set 97 = .ok (.aload_n 0, 1) := by decide +kernel
theorem dX10_set_98 : decode cX10_set 98 = .ok (.iload_n 1, 1) := by decide +kernel
theorem dX10_set_99 : decode cX10_set 99 = .ok (.iconst 1, 1) := by decide +kernel
theorem dX10_set_100 : decode cX10_set 100 = .ok (.if_icmp .ne 7, 3) := by decide +kernel
theorem dX10_set_103 : decode cX10_set 103 = .ok (.iload_n 2, 1) := by decide +kernel
theorem dX10_set_104 : decode cX10_set 104 = .ok (.goto 7, 3) := by decide +kernel
theorem dX10_set_107 : decode cX10_set 107 = .ok (.aload_n 0, 1) := by decide +kernel
theorem dX10_set_108 : decode cX10_set 108 = .ok (.getfield 23, 3) := by decide +kernel
theorem dX10_set_111 : decode cX10_set 111 = .ok (.putfield 23, 3) := by decide +kernel
theorem dX10_set_114 : decode cX10_set 114 = .ok (.aload_n 0, 1) := by decide +kernel
theorem dX10_set_115 : decode cX10_set 115 = .ok (.iload_n 1, 1) := by decide +kernel
theorem dX10_set_116 : decode cX10_set 116 = .ok (.iconst 2, 1) := by decide +kernel
theorem dX10_set_117 : decode cX10_set 117 = .ok (.if_icmp .ne 7, 3) := by decide +kernel
theorem dX10_set_120 : decode cX10_set 120 = .ok (.iload_n 2, 1) := by decide +kernel
theorem dX10_set_121 : decode cX10_set 121 = .ok (.goto 7, 3) := by decide +kernel
theorem dX10_set_124 : decode cX10_set 124 = .ok (.aload_n 0, 1) := by decide +kernel
theorem dX10_set_125 : decode cX10_set 125 = .ok (.getfield 170, 3) := by decide +kernel
theorem dX10_set_128 : decode cX10_set 128 = .ok (.putfield 170, 3) := by decide +kernel
theorem dX10_set_131 : decode cX10_set 131 = .ok (.aload_n 0, 1) := by decide +kernel
theorem dX10_set_132 : decode cX10_set 132 = .ok (.iload_n 1, 1) := by decide +kernel
theorem dX10_set_133 : decode cX10_set 133 = .ok (.iconst 3, 1) := by decide +kernel
theorem dX10_set_134 : decode cX10_set 134 = .ok (.if_icmp .ne 7, 3) := by decide +kernel
theorem dX10_set_137 : decode cX10_set 137 = .ok (.iload_n 2, 1) := by decide +kernel
theorem dX10_set_138 : decode cX10_set 138 = .ok (.goto 7, 3) := by decide +kernel
theorem dX10_set_141 : decode cX10_set 141 = .ok (.aload_n 0, 1) := by decide +kernel
theorem dX10_set_142 : decode cX10_set 142 = .ok (.getfield 173, 3) := by decide +kernel
theorem dX10_set_145 : decode cX10_set 145 = .ok (.putfield 173, 3) := by decide +kernel
theorem dX10_set_148 : decode cX10_set 148 = .ok (.iload_n 3, 1) := by decide +kernel
theorem dX10_set_149 : decode cX10_set 149 = .ok (.ireturn, 1) := by decide +kernel
theorem dX10_rule_0 : decode cX10_rule 0 = .ok (.iload_n 1, 1) := by decide +kernel
theorem dX10_rule_1 : decode cX10_rule 1 = .ok (.invokestatic 207, 3) := by decide +kernel
theorem dX10_rule_4 : decode cX10_rule 4 = .ok (.ifCond .ne 5, 3) := by decide +kernel
theorem dX10_rule_7 : decode cX10_rule 7 = .ok (.iconst (-1), 1) := by decide +kernel
theorem dX10_rule_8 : decode cX10_rule 8 = .ok (.ireturn, 1) := by decide +kernel
theorem dX10_rule_9 : decode cX10_rule 9 = .ok (.aload_n 0, 1) := by decide +kernel
theorem dX10_rule_10 : decode cX10_rule 10 = .ok (.getfield 97, 3) := by decide +kernel
theorem dX10_rule_13 : decode cX10_rule 13 = .ok (.iload_n 1, 1) := by decide +kernel
theorem dX10_rule_14 : decode cX10_rule 14 = .ok (.iaload, 1) := by decide +kernel
theorem dX10_rule_15 : decode cX10_rule 15 = .ok (.iconst 2, 1) := by decide +kernel
theorem dX10_rule_16 : decode cX10_rule 16 = .ok (.if_icmp .ne 12, 3) := by decide +kernel
theorem dX10_rule_19 : decode cX10_rule 19 = .ok (.aload_n 0, 1) := by decide +kernel
theorem dX10_rule_20 : decode cX10_rule 20 = .ok (.getfield 106, 3) := by decide +kernel
theorem dX10_rule_23 : decode cX10_rule 23 = .ok (.iload_n 1, 1) := by decide +kernel
theorem dX10_rule_24 : decode cX10_rule 24 = .ok (.iaload, 1) := by decide +kernel
theorem dX10_rule_25 : decode cX10_rule 25 = .ok (.ifCond .eq 20, 3) := by decide +kernel
theorem dX10_rule_28 : decode cX10_rule 28 = .ok (.aload_n 0, 1) := by decide +kernel
theorem dX10_rule_29 : decode cX10_rule 29 = .ok (.getfield 97, 3) := by decide +kernel
theorem dX10_rule_32 : decode cX10_rule 32 = .ok (.iload_n 1, 1) := by decide +kernel
theorem dX10_rule_33 : decode cX10_rule 33 = .ok (.iaload, 1) := by decide +kernel
theorem dX10_rule_34 : decode cX10_rule 34 = .ok (.ifCond .ne 8, 3) := by decide +kernel
theorem dX10_rule_37 : decode cX10_rule 37 = .ok (.bipush (-11), 2) := by decide +kernel
theorem dX10_rule_39 : decode cX10_rule 39 = .ok (.goto 5, 3) := by decide +kernel
theorem dX10_rule_42 : decode cX10_rule 42 = .ok (.bipush (-12), 2) := by decide +kernel
theorem dX10_rule_44 : decode cX10_rule 44 = .ok (.ireturn, 1) := by decide +kernel
theorem dX10_rule_45 : decode cX10_rule 45 = .ok (.aload_n 0, 1) := by decide +kernel
theorem dX10_rule_46 : decode cX10_rule 46 = .ok (.iload_n 1, 1) := by decide +kernel
theorem dX10_rule_47 : decode cX10_rule 47 = .ok (.putfield 143, 3) := by decide +kernel
theorem dX10_rule_50 : decode cX10_rule 50 = .ok (.aload_n 0, 1) := by decide +kernel
theorem dX10_rule_51 : decode cX10_rule 51 = .ok (.aload_n 0, 1) := by decide +kernel
theorem dX10_rule_52 : decode cX10_rule 52 = .ok (.getfield 109, 3) := by decide +kernel
theorem dX10_rule_55 : decode cX10_rule 55 = .ok (.iload_n 1, 1) := by decide +kernel
theorem dX10_rule_56 : decode cX10_rule 56 = .ok (.iaload, 1) := by decide +kernel
theorem dX10_rule_57 : decode cX10_rule 57 = .ok (.putfield 140, 3) := by decide +kernel
theorem dX10_rule_60 : decode cX10_rule 60 = .ok (.aload_n 0, 1) := by decide +kernel
theorem dX10_rule_61 : decode cX10_rule 61 = .ok (.iconst 0, 1) := by decide +kernel
theorem dX10_rule_62 : decode cX10_rule 62 = .ok (.putfield 137, 3) := by decide +kernel
theorem dX10_rule_65 : decode cX10_rule 65 = .ok (.iconst 0, 1) := by decide +kernel
theorem dX10_rule_66 : decode cX10_rule 66 = .ok (.istore_n 2, 1) := by decide +kernel
theorem dX10_rule_67 : decode cX10_rule 67 = .ok (.iload_n 2, 1) := by decide +kernel
theorem dX10_rule_68 : decode cX10_rule 68 = .ok (.aload_n 0, 1) := by decide +kernel
theorem dX10_rule_69 : decode cX10_rule 69 = .ok (.getfield 140, 3) := by decide +kernel
theorem dX10_rule_72 : decode cX10_rule 72 = .ok (.if_icmp .ge 29, 3) := by decide +kernel
theorem dX10_rule_75 : decode cX10_rule 75 = .ok (.iload_n 2, 1) := by decide +kernel
theorem dX10_rule_76 : decode cX10_rule 76 = .ok (.bipush 6, 2) := by decide +kernel
theorem dX10_rule_78 : decode cX10_rule 78 = .ok (.if_icmp .ge 23, 3) := by decide +kernel
theorem dX10_rule_81 : decode cX10_rule 81 = .ok (.aload_n 0, 1) := by decide +kernel
theorem dX10_rule_82 : decode cX10_rule 82 = .ok (.getfield 29, 3) := by decide +kernel
theorem dX10_rule_85 : decode cX10_rule 85 = .ok (.iload_n 2, 1) := by decide +kernel
theorem dX10_rule_86 : decode cX10_rule 86 = .ok (.aload_n 0, 1) := by decide +kernel
theorem dX10_rule_87 : decode cX10_rule 87 = .ok (.aload_n 0, 1) := by decide +kernel
theorem dX10_rule_88 : decode cX10_rule 88 = .ok (.getfield 36, 3) := by decide +kernel
theorem dX10_rule_91 : decode cX10_rule 91 = .ok (.invokevirtual 154, 3) := by decide +kernel
theorem dX10_rule_94 : decode cX10_rule 94 = .ok (.iastore, 1) := by decide +kernel
theorem dX10_rule_95 : decode cX10_rule 95 = .ok (.iinc 2 1, 3) := by decide +kernel
theorem dX10_rule_98 : decode cX10_rule 98 = .ok (.goto (-31), 3) := by decide +kernel
theorem dX10_rule_101 : decode cX10_rule 101 = .ok (.aload_n 0, 1) := by decide +kernel
theorem dX10_rule_102 : decode cX10_rule 102 = .ok (.getfield 137, 3) := by decide +kernel
theorem dX10_rule_105 : decode cX10_rule 105 = .ok (.aload_n 0, 1) := by decide +kernel
theorem dX10_rule_106 : decode cX10_rule 106 = .ok (.getfield 140, 3) := by decide +kernel
theorem dX10_rule_109 : decode cX10_rule 109 = .ok (.if_icmp .ge 6, 3) := by decide +kernel
theorem dX10_rule_112 : decode cX10_rule 112 = .ok (.bipush (-13), 2) := by decide +kernel
theorem dX10_rule_114 : decode cX10_rule 114 = .ok (.ireturn, 1) := by decide +kernel
theorem dX10_rule_115 : decode cX10_rule 115 = .ok (.aload_n 0, 1) := by decide +kernel
theorem dX10_rule_116 : decode cX10_rule 116 = .ok (.aload_n 0, 1) := by decide +kernel
theorem dX10_rule_117 : decode cX10_rule 117 = .ok (.getfield 140, 3) := by decide +kernel
theorem dX10_rule_120 : decode cX10_rule 120 = .ok (.putfield 190, 3) := by decide +kernel
theorem dX10_rule_123 : decode cX10_rule 123 = .ok (.iconst 0, 1) := by decide +kernel
theorem dX10_rule_124 : decode cX10_rule 124 = .ok (.istore_n 2, 1) := by decide +kernel
theorem dX10_rule_125 : decode cX10_rule 125 = .ok (.iload_n 2, 1) := by decide +kernel
theorem dX10_rule_126 : decode cX10_rule 126 = .ok (.aload_n 0, 1) := by decide +kernel
theorem dX10_rule_127 : decode cX10_rule 127 = .ok (.getfield 140, 3) := by decide +kernel
theorem dX10_rule_130 : decode cX10_rule 130 = .ok (.if_icmp .ge 21, 3) := by decide +kernel
theorem dX10_rule_133 : decode cX10_rule 133 = .ok (.aload_n 0, 1) := by decide +kernel
theorem dX10_rule_134 : decode cX10_rule 134 = .ok (.getfield 26, 3) := by decide +kernel
theorem dX10_rule_137 : decode cX10_rule 137 = .ok (.iload_n 2, 1) := by decide +kernel
theorem dX10_rule_138 : decode cX10_rule 138 = .ok (.aload_n 0, 1) := by decide +kernel
theorem dX10_rule_139 : decode cX10_rule 139 = .ok (.getfield 29, 3) := by decide +kernel
theorem dX10_rule_142 : decode cX10_rule 142 = .ok (.iload_n 2, 1) := by decide +kernel
theorem dX10_rule_143 : decode cX10_rule 143 = .ok (.iaload, 1) := by decide +kernel
theorem dX10_rule_144 : decode cX10_rule 144 = .ok (.iastore, 1) := by decide +kernel
theorem dX10_rule_145 : decode cX10_rule 145 = .ok (.iinc 2 1, 3) := by decide +kernel
theorem dX10_rule_148 : decode cX10_rule 148 = .ok (.goto (-23), 3) := by decide +kernel
theorem dX10_rule_151 : decode cX10_rule 151 = .ok (.aload_n 0, 1) := by decide +kernel
theorem dX10_rule_152 : decode cX10_rule 152 = .ok (.getfield 140, 3) := by decide +kernel
theorem dX10_rule_155 : decode cX10_rule 155 = .ok (.ireturn, 1) := by decide +kernel
theorem dX10_count_0 : decode cX10_count 0 = .ok (.iload_n 1, 1) := by decide +kernel
theorem dX10_count_1 : decode cX10_count 1 = .ok (.tableswitch 110 0 7 #[47, 52, 57, 62, 67, 72, 77, 82], 47) := by decide +kernel
theorem dX10_count_48 : decode cX10_count 48 = .ok (.aload_n 0, 1) := by decide +kernel
theorem dX10_count_49 : decode cX10_count 49 = .ok (.getfield 118, 3) := by decide +kernel
theorem dX10_count_52 : decode cX10_count 52 = .ok (.ireturn, 1) := by decide +kernel
theorem dX10_count_53 : decode cX10_count 53 = .ok (.aload_n 0, 1) := by decide +kernel
theorem dX10_count_54 : decode cX10_count 54 = .ok (.getfield 19, 3) := by decide +kernel
theorem dX10_count_57 : decode cX10_count 57 = .ok (.ireturn, 1) := by decide +kernel
theorem dX10_count_58 : decode cX10_count 58 = .ok (.aload_n 0, 1) := by decide +kernel
theorem dX10_count_59 : decode cX10_count 59 = .ok (.getfield 23, 3) := by decide +kernel
theorem dX10_count_62 : decode cX10_count 62 = .ok (.ireturn, 1) := by decide +kernel
theorem dX10_count_63 : decode cX10_count 63 = .ok (.aload_n 0, 1) := by decide +kernel
theorem dX10_count_64 : decode cX10_count 64 = .ok (.getfield 170, 3) := by decide +kernel
theorem dX10_count_67 : decode cX10_count 67 = .ok (.ireturn, 1) := by decide +kernel
theorem dX10_count_68 : decode cX10_count 68 = .ok (.aload_n 0, 1) := by decide +kernel
theorem dX10_count_69 : decode cX10_count 69 = .ok (.getfield 173, 3) := by decide +kernel
theorem dX10_count_72 : decode cX10_count 72 = .ok (.ireturn, 1) := by decide +kernel
theorem dX10_count_73 : decode cX10_count 73 = .ok (.aload_n 0, 1) := by decide +kernel
theorem dX10_count_74 : decode cX10_count 74 = .ok (.getfield 134, 3) := by decide +kernel
theorem dX10_count_77 : decode cX10_count 77 = .ok (.ireturn, 1) := by decide +kernel
theorem dX10_count_78 : decode cX10_count 78 = .ok (.aload_n 0, 1) := by decide +kernel
theorem dX10_count_79 : decode cX10_count 79 = .ok (.getfield 190, 3) := by decide +kernel
theorem dX10_count_82 : decode cX10_count 82 = .ok (.ireturn, 1) := by decide +kernel
theorem dX10_count_83 : decode cX10_count 83 = .ok (.iconst 0, 1) := by decide +kernel
theorem dX10_count_84 : decode cX10_count 84 = .ok (.istore_n 2, 1) := by decide +kernel
theorem dX10_count_85 : decode cX10_count 85 = .ok (.iconst 0, 1) := by decide +kernel
theorem dX10_count_86 : decode cX10_count 86 = .ok (.istore_n 3, 1) := by decide +kernel
theorem dX10_count_87 : decode cX10_count 87 = .ok (.iload_n 3, 1) := by decide +kernel
theorem dX10_count_88 : decode cX10_count 88 = .ok (.aload_n 0, 1) := by decide +kernel
theorem dX10_count_89 : decode cX10_count 89 = .ok (.getfield 118, 3) := by decide +kernel
theorem dX10_count_92 : decode cX10_count 92 = .ok (.if_icmp .ge 17, 3) := by decide +kernel
theorem dX10_count_95 : decode cX10_count 95 = .ok (.iload_n 2, 1) := by decide +kernel
theorem dX10_count_96 : decode cX10_count 96 = .ok (.aload_n 0, 1) := by decide +kernel
theorem dX10_count_97 : decode cX10_count 97 = .ok (.iload_n 3, 1) := by decide +kernel
theorem dX10_count_98 : decode cX10_count 98 = .ok (.invokevirtual 216, 3) := by decide +kernel
theorem dX10_count_101 : decode cX10_count 101 = .ok (.iadd, 1) := by decide +kernel
theorem dX10_count_102 : decode cX10_count 102 = .ok (.istore_n 2, 1) := by decide +kernel
theorem dX10_count_103 : decode cX10_count 103 = .ok (.iinc 3 1, 3) := by decide +kernel
theorem dX10_count_106 : decode cX10_count 106 = .ok (.goto (-19), 3) := by decide +kernel
theorem dX10_count_109 : decode cX10_count 109 = .ok (.iload_n 2, 1) := by decide +kernel
theorem dX10_count_110 : decode cX10_count 110 = .ok (.ireturn, 1) := by decide +kernel
theorem dX10_count_111 : decode cX10_count 111 = .ok (.iconst (-1), 1) := by decide +kernel
theorem dX10_count_112 : decode cX10_count 112 = .ok (.ireturn, 1) := by decide +kernel
theorem dX10_allCome_0 : decode cX10_allCome 0 = .ok (.aload_n 0, 1) := by decide +kernel
theorem dX10_allCome_1 : decode cX10_allCome 1 = .ok (.iconst 0, 1) := by decide +kernel
theorem dX10_allCome_2 : decode cX10_allCome 2 = .ok (.putfield 234, 3) := by decide +kernel
theorem dX10_allCome_5 : decode cX10_allCome 5 = .ok (.iconst 0, 1) := by decide +kernel
theorem dX10_allCome_6 : decode cX10_allCome 6 = .ok (.istore_n 2, 1) := by decide +kernel
theorem dX10_allCome_7 : decode cX10_allCome 7 = .ok (.iload_n 2, 1) := by decide +kernel
theorem dX10_allCome_8 : decode cX10_allCome 8 = .ok (.aload_n 0, 1) := by decide +kernel
theorem dX10_allCome_9 : decode cX10_allCome 9 = .ok (.getfield 118, 3) := by decide +kernel
theorem dX10_allCome_12 : decode cX10_allCome 12 = .ok (.if_icmp .ge 34, 3) := by decide +kernel
theorem dX10_allCome_15 : decode cX10_allCome 15 = .ok (.iload_n 2, 1) := by decide +kernel
theorem dX10_allCome_16 : decode cX10_allCome 16 = .ok (.iload_n 1, 1) := by decide +kernel
theorem dX10_allCome_17 : decode cX10_allCome 17 = .ok (.if_icmp .eq 23, 3) := by decide +kernel
theorem dX10_allCome_20 : decode cX10_allCome 20 = .ok (.aload_n 0, 1) := by decide +kernel
theorem dX10_allCome_21 : decode cX10_allCome 21 = .ok (.getfield 39, 3) := by decide +kernel
theorem dX10_allCome_24 : decode cX10_allCome 24 = .ok (.aload_n 0, 1) := by decide +kernel
theorem dX10_allCome_25 : decode cX10_allCome 25 = .ok (.getfield 234, 3) := by decide +kernel
theorem dX10_allCome_28 : decode cX10_allCome 28 = .ok (.iload_n 2, 1) := by decide +kernel
theorem dX10_allCome_29 : decode cX10_allCome 29 = .ok (.iastore, 1) := by decide +kernel
theorem dX10_allCome_30 : decode cX10_allCome 30 = .ok (.aload_n 0, 1) := by decide +kernel
theorem dX10_allCome_31 : decode cX10_allCome 31 = .ok (.dup, 1) := by decide +kernel
theorem dX10_allCome_32 : decode cX10_allCome 32 = .ok (.getfield 234, 3) := by decide +kernel
theorem dX10_allCome_35 : decode cX10_allCome 35 = .ok (.iconst 1, 1) := by decide +kernel
theorem dX10_allCome_36 : decode cX10_allCome 36 = .ok (.iadd, 1) := by decide +kernel
theorem dX10_allCome_37 : decode cX10_allCome 37 = .ok (.putfield 234, 3) := by decide +kernel
theorem dX10_allCome_40 : decode cX10_allCome 40 = .ok (.iinc 2 1, 3) := by decide +kernel
theorem dX10_allCome_43 : decode cX10_allCome 43 = .ok (.goto (-36), 3) := by decide +kernel
theorem dX10_allCome_46 : decode cX10_allCome 46 = .ok (.return_, 1) := by decide +kernel
theorem dX10_goesAhead_0 : decode cX10_goesAhead 0 = .ok (.aload_n 0, 1) := by decide +kernel
theorem dX10_goesAhead_1 : decode cX10_goesAhead 1 = .ok (.getfield 45, 3) := by decide +kernel
theorem dX10_goesAhead_4 : decode cX10_goesAhead 4 = .ok (.iload_n 1, 1) := by decide +kernel
theorem dX10_goesAhead_5 : decode cX10_goesAhead 5 = .ok (.iaload, 1) := by decide +kernel
theorem dX10_goesAhead_6 : decode cX10_goesAhead 6 = .ok (.aload_n 0, 1) := by decide +kernel
theorem dX10_goesAhead_7 : decode cX10_goesAhead 7 = .ok (.getfield 45, 3) := by decide +kernel
theorem dX10_goesAhead_10 : decode cX10_goesAhead 10 = .ok (.iload_n 2, 1) := by decide +kernel
theorem dX10_goesAhead_11 : decode cX10_goesAhead 11 = .ok (.iaload, 1) := by decide +kernel
theorem dX10_goesAhead_12 : decode cX10_goesAhead 12 = .ok (.if_icmp .lt 23, 3) := by decide +kernel
theorem dX10_goesAhead_15 : decode cX10_goesAhead 15 = .ok (.aload_n 0, 1) := by decide +kernel
theorem dX10_goesAhead_16 : decode cX10_goesAhead 16 = .ok (.getfield 45, 3) := by decide +kernel
theorem dX10_goesAhead_19 : decode cX10_goesAhead 19 = .ok (.iload_n 1, 1) := by decide +kernel
theorem dX10_goesAhead_20 : decode cX10_goesAhead 20 = .ok (.iaload, 1) := by decide +kernel
theorem dX10_goesAhead_21 : decode cX10_goesAhead 21 = .ok (.aload_n 0, 1) := by decide +kernel
theorem dX10_goesAhead_22 : decode cX10_goesAhead 22 = .ok (.getfield 45, 3) := by decide +kernel
theorem dX10_goesAhead_25 : decode cX10_goesAhead 25 = .ok (.iload_n 2, 1) := by decide +kernel
theorem dX10_goesAhead_26 : decode cX10_goesAhead 26 = .ok (.iaload, 1) := by decide +kernel
theorem dX10_goesAhead_27 : decode cX10_goesAhead 27 = .ok (.if_icmp .ne 12, 3) := by decide +kernel
theorem dX10_goesAhead_30 : decode cX10_goesAhead 30 = .ok (.iload_n 1, 1) := by decide +kernel
theorem dX10_goesAhead_31 : decode cX10_goesAhead 31 = .ok (.iload_n 2, 1) := by decide +kernel
theorem dX10_goesAhead_32 : decode cX10_goesAhead 32 = .ok (.if_icmp .ge 7, 3) := by decide +kernel
theorem dX10_goesAhead_35 : decode cX10_goesAhead 35 = .ok (.iconst 1, 1) := by decide +kernel
theorem dX10_goesAhead_36 : decode cX10_goesAhead 36 = .ok (.goto 4, 3) := by decide +kernel
theorem dX10_goesAhead_39 : decode cX10_goesAhead 39 = .ok (.iconst 0, 1) := by decide +kernel
theorem dX10_goesAhead_40 : decode cX10_goesAhead 40 = .ok (.ireturn, 1) := by decide +kernel
theorem dX10_allGo_0 : decode cX10_allGo 0 = .ok (.aload_n 0, 1) := by decide +kernel
theorem dX10_allGo_1 : decode cX10_allGo 1 = .ok (.iconst 0, 1) := by decide +kernel
theorem dX10_allGo_2 : decode cX10_allGo 2 = .ok (.putfield 237, 3) := by decide +kernel
theorem dX10_allGo_5 : decode cX10_allGo 5 = .ok (.iconst 0, 1) := by decide +kernel
theorem dX10_allGo_6 : decode cX10_allGo 6 = .ok (.istore_n 1, 1) := by decide +kernel
theorem dX10_allGo_7 : decode cX10_allGo 7 = .ok (.iload_n 1, 1) := by decide +kernel
theorem dX10_allGo_8 : decode cX10_allGo 8 = .ok (.aload_n 0, 1) := by decide +kernel
theorem dX10_allGo_9 : decode cX10_allGo 9 = .ok (.getfield 234, 3) := by decide +kernel
theorem dX10_allGo_12 : decode cX10_allGo 12 = .ok (.if_icmp .ge 78, 3) := by decide +kernel
theorem dX10_allGo_15 : decode cX10_allGo 15 = .ok (.aload_n 0, 1) := by decide +kernel
theorem dX10_allGo_16 : decode cX10_allGo 16 = .ok (.getfield 39, 3) := by decide +kernel
theorem dX10_allGo_19 : decode cX10_allGo 19 = .ok (.iload_n 1, 1) := by decide +kernel
theorem dX10_allGo_20 : decode cX10_allGo 20 = .ok (.iaload, 1) := by decide +kernel
theorem dX10_allGo_21 : decode cX10_allGo 21 = .ok (.istore_n 2, 1) := by decide +kernel
theorem dX10_allGo_22 : decode cX10_allGo 22 = .ok (.aload_n 0, 1) := by decide +kernel
theorem dX10_allGo_23 : decode cX10_allGo 23 = .ok (.getfield 237, 3) := by decide +kernel
theorem dX10_allGo_26 : decode cX10_allGo 26 = .ok (.istore_n 3, 1) := by decide +kernel
theorem dX10_allGo_27 : decode cX10_allGo 27 = .ok (.iload_n 3, 1) := by decide +kernel
theorem dX10_allGo_28 : decode cX10_allGo 28 = .ok (.ifCond .le 39, 3) := by decide +kernel
theorem dX10_allGo_31 : decode cX10_allGo 31 = .ok (.aload_n 0, 1) := by decide +kernel
theorem dX10_allGo_32 : decode cX10_allGo 32 = .ok (.iload_n 2, 1) := by decide +kernel
theorem dX10_allGo_33 : decode cX10_allGo 33 = .ok (.aload_n 0, 1) := by decide +kernel
theorem dX10_allGo_34 : decode cX10_allGo 34 = .ok (.getfield 42, 3) := by decide +kernel
theorem dX10_allGo_37 : decode cX10_allGo 37 = .ok (.iload_n 3, 1) := by decide +kernel
theorem dX10_allGo_38 : decode cX10_allGo 38 = .ok (.iconst 1, 1) := by decide +kernel
theorem dX10_allGo_39 : decode cX10_allGo 39 = .ok (.isub, 1) := by decide +kernel
theorem dX10_allGo_40 : decode cX10_allGo 40 = .ok (.iaload, 1) := by decide +kernel
theorem dX10_allGo_41 : decode cX10_allGo 41 = .ok (.invokevirtual 240, 3) := by decide +kernel
theorem dX10_allGo_44 : decode cX10_allGo 44 = .ok (.ifCond .eq 23, 3) := by decide +kernel
theorem dX10_allGo_47 : decode cX10_allGo 47 = .ok (.aload_n 0, 1) := by decide +kernel
theorem dX10_allGo_48 : decode cX10_allGo 48 = .ok (.getfield 42, 3) := by decide +kernel
theorem dX10_allGo_51 : decode cX10_allGo 51 = .ok (.iload_n 3, 1) := by decide +kernel
theorem dX10_allGo_52 : decode cX10_allGo 52 = .ok (.aload_n 0, 1) := by decide +kernel
theorem dX10_allGo_53 : decode cX10_allGo 53 = .ok (.getfield 42, 3) := by decide +kernel
theorem dX10_allGo_56 : decode cX10_allGo 56 = .ok (.iload_n 3, 1) := by decide +kernel
theorem dX10_allGo_57 : decode cX10_allGo 57 = .ok (.iconst 1, 1) := by decide +kernel
theorem dX10_allGo_58 : decode cX10_allGo 58 = .ok (.isub, 1) := by decide +kernel
theorem dX10_allGo_59 : decode cX10_allGo 59 = .ok (.iaload, 1) := by decide +kernel
theorem dX10_allGo_60 : decode cX10_allGo 60 = .ok (.iastore, 1) := by decide +kernel
theorem dX10_allGo_61 : decode cX10_allGo 61 = .ok (.iinc 3 (-1), 3) := by decide +kernel
theorem dX10_allGo_64 : decode cX10_allGo 64 = .ok (.goto (-37), 3) := by decide +kernel
theorem dX10_allGo_67 : decode cX10_allGo 67 = .ok (.aload_n 0, 1) := by decide +kernel
theorem dX10_allGo_68 : decode cX10_allGo 68 = .ok (.getfield 42, 3) := by decide +kernel
theorem dX10_allGo_71 : decode cX10_allGo 71 = .ok (.iload_n 3, 1) := by decide +kernel
theorem dX10_allGo_72 : decode cX10_allGo 72 = .ok (.iload_n 2, 1) := by decide +kernel
theorem dX10_allGo_73 : decode cX10_allGo 73 = .ok (.iastore, 1) := by decide +kernel
theorem dX10_allGo_74 : decode cX10_allGo 74 = .ok (.aload_n 0, 1) := by decide +kernel
theorem dX10_allGo_75 : decode cX10_allGo 75 = .ok (.dup, 1) := by decide +kernel
theorem dX10_allGo_76 : decode cX10_allGo 76 = .ok (.getfield 237, 3) := by decide +kernel
theorem dX10_allGo_79 : decode cX10_allGo 79 = .ok (.iconst 1, 1) := by decide +kernel
theorem dX10_allGo_80 : decode cX10_allGo 80 = .ok (.iadd, 1) := by decide +kernel
theorem dX10_allGo_81 : decode cX10_allGo 81 = .ok (.putfield 237, 3) := by decide +kernel
theorem dX10_allGo_84 : decode cX10_allGo 84 = .ok (.iinc 1 1, 3) := by decide +kernel
theorem dX10_allGo_87 : decode cX10_allGo 87 = .ok (.goto (-80), 3) := by decide +kernel
theorem dX10_allGo_90 : decode cX10_allGo 90 = .ok (.return_, 1) := by decide +kernel
theorem dX10_minutesAsTold_0 : decode cX10_minutesAsTold 0 = .ok (.iconst 0, 1) := by decide +kernel
theorem dX10_minutesAsTold_1 : decode cX10_minutesAsTold 1 = .ok (.istore_n 1, 1) := by decide +kernel
theorem dX10_minutesAsTold_2 : decode cX10_minutesAsTold 2 = .ok (.iload_n 1, 1) := by decide +kernel
theorem dX10_minutesAsTold_3 : decode cX10_minutesAsTold 3 = .ok (.aload_n 0, 1) := by decide +kernel
theorem dX10_minutesAsTold_4 : decode cX10_minutesAsTold 4 = .ok (.getfield 118, 3) := by decide +kernel
theorem dX10_minutesAsTold_7 : decode cX10_minutesAsTold 7 = .ok (.if_icmp .ge 36, 3) := by decide +kernel
theorem dX10_minutesAsTold_10 : decode cX10_minutesAsTold 10 = .ok (.aload_n 0, 1) := by decide +kernel
theorem dX10_minutesAsTold_11 : decode cX10_minutesAsTold 11 = .ok (.getfield 45, 3) := by decide +kernel
theorem dX10_minutesAsTold_14 : decode cX10_minutesAsTold 14 = .ok (.iload_n 1, 1) := by decide +kernel
theorem dX10_minutesAsTold_15 : decode cX10_minutesAsTold 15 = .ok (.aload_n 0, 1) := by decide +kernel
theorem dX10_minutesAsTold_16 : decode cX10_minutesAsTold 16 = .ok (.getfield 7, 3) := by decide +kernel
theorem dX10_minutesAsTold_19 : decode cX10_minutesAsTold 19 = .ok (.iload_n 1, 1) := by decide +kernel
theorem dX10_minutesAsTold_20 : decode cX10_minutesAsTold 20 = .ok (.iaload, 1) := by decide +kernel
theorem dX10_minutesAsTold_21 : decode cX10_minutesAsTold 21 = .ok (.aload_n 0, 1) := by decide +kernel
theorem dX10_minutesAsTold_22 : decode cX10_minutesAsTold 22 = .ok (.getfield 13, 3) := by decide +kernel
theorem dX10_minutesAsTold_25 : decode cX10_minutesAsTold 25 = .ok (.iload_n 1, 1) := by decide +kernel
theorem dX10_minutesAsTold_26 : decode cX10_minutesAsTold 26 = .ok (.iaload, 1) := by decide +kernel
theorem dX10_minutesAsTold_27 : decode cX10_minutesAsTold 27 = .ok (.aload_n 0, 1) := by decide +kernel
theorem dX10_minutesAsTold_28 : decode cX10_minutesAsTold 28 = .ok (.getfield 16, 3) := by decide +kernel
theorem dX10_minutesAsTold_31 : decode cX10_minutesAsTold 31 = .ok (.iload_n 1, 1) := by decide +kernel
theorem dX10_minutesAsTold_32 : decode cX10_minutesAsTold 32 = .ok (.iaload, 1) := by decide +kernel
theorem dX10_minutesAsTold_33 : decode cX10_minutesAsTold 33 = .ok (.invokestatic 213, 3) := by decide +kernel
theorem dX10_minutesAsTold_36 : decode cX10_minutesAsTold 36 = .ok (.iastore, 1) := by decide +kernel
theorem dX10_minutesAsTold_37 : decode cX10_minutesAsTold 37 = .ok (.iinc 1 1, 3) := by decide +kernel
theorem dX10_minutesAsTold_40 : decode cX10_minutesAsTold 40 = .ok (.goto (-38), 3) := by decide +kernel
theorem dX10_minutesAsTold_43 : decode cX10_minutesAsTold 43 = .ok (.return_, 1) := by decide +kernel
theorem dX10_usual_0 : decode cX10_usual 0 = .ok (.aload_n 0, 1) := by decide +kernel
theorem dX10_usual_1 : decode cX10_usual 1 = .ok (.invokevirtual 244, 3) := by decide +kernel
theorem dX10_usual_4 : decode cX10_usual 4 = .ok (.aload_n 0, 1) := by decide +kernel
theorem dX10_usual_5 : decode cX10_usual 5 = .ok (.iconst (-1), 1) := by decide +kernel
theorem dX10_usual_6 : decode cX10_usual 6 = .ok (.invokevirtual 247, 3) := by decide +kernel
theorem dX10_usual_9 : decode cX10_usual 9 = .ok (.aload_n 0, 1) := by decide +kernel
theorem dX10_usual_10 : decode cX10_usual 10 = .ok (.invokevirtual 251, 3) := by decide +kernel
theorem dX10_usual_13 : decode cX10_usual 13 = .ok (.return_, 1) := by decide +kernel
theorem dX10_hasRoom_0 : decode cX10_hasRoom 0 = .ok (.aload_n 0, 1) := by decide +kernel
theorem dX10_hasRoom_1 : decode cX10_hasRoom 1 = .ok (.getfield 51, 3) := by decide +kernel
theorem dX10_hasRoom_4 : decode cX10_hasRoom 4 = .ok (.iload_n 1, 1) := by decide +kernel
theorem dX10_hasRoom_5 : decode cX10_hasRoom 5 = .ok (.iaload, 1) := by decide +kernel
theorem dX10_hasRoom_6 : decode cX10_hasRoom 6 = .ok (.aload_n 0, 1) := by decide +kernel
theorem dX10_hasRoom_7 : decode cX10_hasRoom 7 = .ok (.getfield 23, 3) := by decide +kernel
theorem dX10_hasRoom_10 : decode cX10_hasRoom 10 = .ok (.if_icmp .ge 7, 3) := by decide +kernel
theorem dX10_hasRoom_13 : decode cX10_hasRoom 13 = .ok (.iconst 1, 1) := by decide +kernel
theorem dX10_hasRoom_14 : decode cX10_hasRoom 14 = .ok (.goto 4, 3) := by decide +kernel
theorem dX10_hasRoom_17 : decode cX10_hasRoom 17 = .ok (.iconst 0, 1) := by decide +kernel
theorem dX10_hasRoom_18 : decode cX10_hasRoom 18 = .ok (.ireturn, 1) := by decide +kernel
theorem dX10_topGoes_0 : decode cX10_topGoes 0 = .ok (.aload_n 0, 1) := by decide +kernel
theorem dX10_topGoes_1 : decode cX10_topGoes 1 = .ok (.getfield 45, 3) := by decide +kernel
theorem dX10_topGoes_4 : decode cX10_topGoes 4 = .ok (.aload_n 0, 1) := by decide +kernel
theorem dX10_topGoes_5 : decode cX10_topGoes 5 = .ok (.getfield 48, 3) := by decide +kernel
theorem dX10_topGoes_8 : decode cX10_topGoes 8 = .ok (.bipush 10, 2) := by decide +kernel
theorem dX10_topGoes_10 : decode cX10_topGoes 10 = .ok (.iload_n 1, 1) := by decide +kernel
theorem dX10_topGoes_11 : decode cX10_topGoes 11 = .ok (.imul, 1) := by decide +kernel
theorem dX10_topGoes_12 : decode cX10_topGoes 12 = .ok (.aload_n 0, 1) := by decide +kernel
theorem dX10_topGoes_13 : decode cX10_topGoes 13 = .ok (.getfield 51, 3) := by decide +kernel
theorem dX10_topGoes_16 : decode cX10_topGoes 16 = .ok (.iload_n 1, 1) := by decide +kernel
theorem dX10_topGoes_17 : decode cX10_topGoes 17 = .ok (.iaload, 1) := by decide +kernel
theorem dX10_topGoes_18 : decode cX10_topGoes 18 = .ok (.iadd, 1) := by decide +kernel
theorem dX10_topGoes_19 : decode cX10_topGoes 19 = .ok (.iconst 1, 1) := by decide +kernel
theorem dX10_topGoes_20 : decode cX10_topGoes 20 = .ok (.isub, 1) := by decide +kernel
theorem dX10_topGoes_21 : decode cX10_topGoes 21 = .ok (.iaload, 1) := by decide +kernel
theorem dX10_topGoes_22 : decode cX10_topGoes 22 = .ok (.iaload, 1) := by decide +kernel
theorem dX10_topGoes_23 : decode cX10_topGoes 23 = .ok (.ireturn, 1) := by decide +kernel
theorem dX10_isBetter_0 : decode cX10_isBetter 0 = .ok (.iload_n 1, 1) := by decide +kernel
theorem dX10_isBetter_1 : decode cX10_isBetter 1 = .ok (.tableswitch 157 1 4 #[31, 58, 79, 113], 31) := by decide +kernel
theorem dX10_isBetter_32 : decode cX10_isBetter 32 = .ok (.iload_n 3, 1) := by decide +kernel
theorem dX10_isBetter_33 : decode cX10_isBetter 33 = .ok (.bipush (-4), 2) := by decide +kernel
theorem dX10_isBetter_35 : decode cX10_isBetter 35 = .ok (.if_icmp .eq 18, 3) := by decide +kernel
theorem dX10_isBetter_38 : decode cX10_isBetter 38 = .ok (.aload_n 0, 1) := by decide +kernel
theorem dX10_isBetter_39 : decode cX10_isBetter 39 = .ok (.getfield 51, 3) := by decide +kernel
theorem dX10_isBetter_42 : decode cX10_isBetter 42 = .ok (.iload_n 2, 1) := by decide +kernel
theorem dX10_isBetter_43 : decode cX10_isBetter 43 = .ok (.iaload, 1) := by decide +kernel
theorem dX10_isBetter_44 : decode cX10_isBetter 44 = .ok (.aload_n 0, 1) := by decide +kernel
theorem dX10_isBetter_45 : decode cX10_isBetter 45 = .ok (.getfield 51, 3) := by decide +kernel
theorem dX10_isBetter_48 : decode cX10_isBetter 48 = .ok (.iload_n 3, 1) := by decide +kernel
theorem dX10_isBetter_49 : decode cX10_isBetter 49 = .ok (.iaload, 1) := by decide +kernel
theorem dX10_isBetter_50 : decode cX10_isBetter 50 = .ok (.if_icmp .ge 7, 3) := by decide +kernel
theorem dX10_isBetter_53 : decode cX10_isBetter 53 = .ok (.iconst 1, 1) := by decide +kernel
theorem dX10_isBetter_54 : decode cX10_isBetter 54 = .ok (.goto 4, 3) := by decide +kernel
theorem dX10_isBetter_57 : decode cX10_isBetter 57 = .ok (.iconst 0, 1) := by decide +kernel
theorem dX10_isBetter_58 : decode cX10_isBetter 58 = .ok (.ireturn, 1) := by decide +kernel
theorem dX10_isBetter_59 : decode cX10_isBetter 59 = .ok (.iload_n 3, 1) := by decide +kernel
theorem dX10_isBetter_60 : decode cX10_isBetter 60 = .ok (.bipush (-4), 2) := by decide +kernel
theorem dX10_isBetter_62 : decode cX10_isBetter 62 = .ok (.if_icmp .ne 16, 3) := by decide +kernel
theorem dX10_isBetter_65 : decode cX10_isBetter 65 = .ok (.aload_n 0, 1) := by decide +kernel
theorem dX10_isBetter_66 : decode cX10_isBetter 66 = .ok (.getfield 51, 3) := by decide +kernel
theorem dX10_isBetter_69 : decode cX10_isBetter 69 = .ok (.iload_n 2, 1) := by decide +kernel
theorem dX10_isBetter_70 : decode cX10_isBetter 70 = .ok (.iaload, 1) := by decide +kernel
theorem dX10_isBetter_71 : decode cX10_isBetter 71 = .ok (.ifCond .ne 7, 3) := by decide +kernel
theorem dX10_isBetter_74 : decode cX10_isBetter 74 = .ok (.iconst 1, 1) := by decide +kernel
theorem dX10_isBetter_75 : decode cX10_isBetter 75 = .ok (.goto 4, 3) := by decide +kernel
theorem dX10_isBetter_78 : decode cX10_isBetter 78 = .ok (.iconst 0, 1) := by decide +kernel
theorem dX10_isBetter_79 : decode cX10_isBetter 79 = .ok (.ireturn, 1) := by decide +kernel
theorem dX10_isBetter_80 : decode cX10_isBetter 80 = .ok (.aload_n 0, 1) := by decide +kernel
theorem dX10_isBetter_81 : decode cX10_isBetter 81 = .ok (.getfield 51, 3) := by decide +kernel
theorem dX10_isBetter_84 : decode cX10_isBetter 84 = .ok (.iload_n 2, 1) := by decide +kernel
theorem dX10_isBetter_85 : decode cX10_isBetter 85 = .ok (.iaload, 1) := by decide +kernel
theorem dX10_isBetter_86 : decode cX10_isBetter 86 = .ok (.ifCond .le 26, 3) := by decide +kernel
theorem dX10_isBetter_89 : decode cX10_isBetter 89 = .ok (.iload_n 3, 1) := by decide +kernel
theorem dX10_isBetter_90 : decode cX10_isBetter 90 = .ok (.bipush (-4), 2) := by decide +kernel
theorem dX10_isBetter_92 : decode cX10_isBetter 92 = .ok (.if_icmp .eq 16, 3) := by decide +kernel
theorem dX10_isBetter_95 : decode cX10_isBetter 95 = .ok (.aload_n 0, 1) := by decide +kernel
theorem dX10_isBetter_96 : decode cX10_isBetter 96 = .ok (.iload_n 2, 1) := by decide +kernel
theorem dX10_isBetter_97 : decode cX10_isBetter 97 = .ok (.invokevirtual 254, 3) := by decide +kernel
theorem dX10_isBetter_100 : decode cX10_isBetter 100 = .ok (.aload_n 0, 1) := by decide +kernel
theorem dX10_isBetter_101 : decode cX10_isBetter 101 = .ok (.iload_n 3, 1) := by decide +kernel
theorem dX10_isBetter_102 : decode cX10_isBetter 102 = .ok (.invokevirtual 254, 3) := by decide +kernel
theorem dX10_isBetter_105 : decode cX10_isBetter 105 = .ok (.if_icmp .le 7, 3) := by decide +kernel
theorem dX10_isBetter_108 : decode cX10_isBetter 108 = .ok (.iconst 1, 1) := by decide +kernel
theorem dX10_isBetter_109 : decode cX10_isBetter 109 = .ok (.goto 4, 3) := by decide +kernel
theorem dX10_isBetter_112 : decode cX10_isBetter 112 = .ok (.iconst 0, 1) := by decide +kernel
theorem dX10_isBetter_113 : decode cX10_isBetter 113 = .ok (.ireturn, 1) := by decide +kernel
theorem dX10_isBetter_114 : decode cX10_isBetter 114 = .ok (.aload_n 0, 1) := by decide +kernel
theorem dX10_isBetter_115 : decode cX10_isBetter 115 = .ok (.getfield 51, 3) := by decide +kernel
theorem dX10_isBetter_118 : decode cX10_isBetter 118 = .ok (.iload_n 2, 1) := by decide +kernel
theorem dX10_isBetter_119 : decode cX10_isBetter 119 = .ok (.iaload, 1) := by decide +kernel
theorem dX10_isBetter_120 : decode cX10_isBetter 120 = .ok (.ifCond .le 36, 3) := by decide +kernel
theorem dX10_isBetter_123 : decode cX10_isBetter 123 = .ok (.aload_n 0, 1) := by decide +kernel
theorem dX10_isBetter_124 : decode cX10_isBetter 124 = .ok (.iload_n 2, 1) := by decide +kernel
theorem dX10_isBetter_125 : decode cX10_isBetter 125 = .ok (.invokevirtual 254, 3) := by decide +kernel
theorem dX10_isBetter_128 : decode cX10_isBetter 128 = .ok (.iload 4, 2) := by decide +kernel
theorem dX10_isBetter_130 : decode cX10_isBetter 130 = .ok (.if_icmp .le 26, 3) := by decide +kernel
theorem dX10_isBetter_133 : decode cX10_isBetter 133 = .ok (.iload_n 3, 1) := by decide +kernel
theorem dX10_isBetter_134 : decode cX10_isBetter 134 = .ok (.bipush (-4), 2) := by decide +kernel
theorem dX10_isBetter_136 : decode cX10_isBetter 136 = .ok (.if_icmp .eq 16, 3) := by decide +kernel
theorem dX10_isBetter_139 : decode cX10_isBetter 139 = .ok (.aload_n 0, 1) := by decide +kernel
theorem dX10_isBetter_140 : decode cX10_isBetter 140 = .ok (.iload_n 2, 1) := by decide +kernel
theorem dX10_isBetter_141 : decode cX10_isBetter 141 = .ok (.invokevirtual 254, 3) := by decide +kernel
theorem dX10_isBetter_144 : decode cX10_isBetter 144 = .ok (.aload_n 0, 1) := by decide +kernel
theorem dX10_isBetter_145 : decode cX10_isBetter 145 = .ok (.iload_n 3, 1) := by decide +kernel
theorem dX10_isBetter_146 : decode cX10_isBetter 146 = .ok (.invokevirtual 254, 3) := by decide +kernel
theorem dX10_isBetter_149 : decode cX10_isBetter 149 = .ok (.if_icmp .ge 7, 3) := by decide +kernel
theorem dX10_isBetter_152 : decode cX10_isBetter 152 = .ok (.iconst 1, 1) := by decide +kernel
theorem dX10_isBetter_153 : decode cX10_isBetter 153 = .ok (.goto 4, 3) := by decide +kernel
theorem dX10_isBetter_156 : decode cX10_isBetter 156 = .ok (.iconst 0, 1) := by decide +kernel
theorem dX10_isBetter_157 : decode cX10_isBetter 157 = .ok (.ireturn, 1) := by decide +kernel
theorem dX10_isBetter_158 : decode cX10_isBetter 158 = .ok (.iload_n 3, 1) := by decide +kernel
theorem dX10_isBetter_159 : decode cX10_isBetter 159 = .ok (.bipush (-4), 2) := by decide +kernel
theorem dX10_isBetter_161 : decode cX10_isBetter 161 = .ok (.if_icmp .ne 7, 3) := by decide +kernel
theorem dX10_isBetter_164 : decode cX10_isBetter 164 = .ok (.iconst 1, 1) := by decide +kernel
theorem dX10_isBetter_165 : decode cX10_isBetter 165 = .ok (.goto 4, 3) := by decide +kernel
theorem dX10_isBetter_168 : decode cX10_isBetter 168 = .ok (.iconst 0, 1) := by decide +kernel
theorem dX10_isBetter_169 : decode cX10_isBetter 169 = .ok (.ireturn, 1) := by decide +kernel
theorem dX10_heapBy_0 : decode cX10_heapBy 0 = .ok (.bipush (-4), 2) := by decide +kernel
theorem dX10_heapBy_2 : decode cX10_heapBy 2 = .ok (.istore_n 3, 1) := by decide +kernel
theorem dX10_heapBy_3 : decode cX10_heapBy 3 = .ok (.iconst 0, 1) := by decide +kernel
theorem dX10_heapBy_4 : decode cX10_heapBy 4 = .ok (.istore 4, 2) := by decide +kernel
theorem dX10_heapBy_6 : decode cX10_heapBy 6 = .ok (.iload 4, 2) := by decide +kernel
theorem dX10_heapBy_8 : decode cX10_heapBy 8 = .ok (.aload_n 0, 1) := by decide +kernel
theorem dX10_heapBy_9 : decode cX10_heapBy 9 = .ok (.getfield 19, 3) := by decide +kernel
theorem dX10_heapBy_12 : decode cX10_heapBy 12 = .ok (.if_icmp .ge 72, 3) := by decide +kernel
theorem dX10_heapBy_15 : decode cX10_heapBy 15 = .ok (.iload_n 1, 1) := by decide +kernel
theorem dX10_heapBy_16 : decode cX10_heapBy 16 = .ok (.iconst 5, 1) := by decide +kernel
theorem dX10_heapBy_17 : decode cX10_heapBy 17 = .ok (.if_icmp .ne 29, 3) := by decide +kernel
theorem dX10_heapBy_20 : decode cX10_heapBy 20 = .ok (.aload_n 0, 1) := by decide +kernel
theorem dX10_heapBy_21 : decode cX10_heapBy 21 = .ok (.getfield 257, 3) := by decide +kernel
theorem dX10_heapBy_24 : decode cX10_heapBy 24 = .ok (.bipush (-4), 2) := by decide +kernel
theorem dX10_heapBy_26 : decode cX10_heapBy 26 = .ok (.if_icmp .eq 20, 3) := by decide +kernel
theorem dX10_heapBy_29 : decode cX10_heapBy 29 = .ok (.aload_n 0, 1) := by decide +kernel
theorem dX10_heapBy_30 : decode cX10_heapBy 30 = .ok (.getfield 257, 3) := by decide +kernel
theorem dX10_heapBy_33 : decode cX10_heapBy 33 = .ok (.iconst 1, 1) := by decide +kernel
theorem dX10_heapBy_34 : decode cX10_heapBy 34 = .ok (.iadd, 1) := by decide +kernel
theorem dX10_heapBy_35 : decode cX10_heapBy 35 = .ok (.iload 4, 2) := by decide +kernel
theorem dX10_heapBy_37 : decode cX10_heapBy 37 = .ok (.iadd, 1) := by decide +kernel
theorem dX10_heapBy_38 : decode cX10_heapBy 38 = .ok (.aload_n 0, 1) := by decide +kernel
theorem dX10_heapBy_39 : decode cX10_heapBy 39 = .ok (.getfield 19, 3) := by decide +kernel
theorem dX10_heapBy_42 : decode cX10_heapBy 42 = .ok (.irem, 1) := by decide +kernel
theorem dX10_heapBy_43 : decode cX10_heapBy 43 = .ok (.goto 5, 3) := by decide +kernel
theorem dX10_heapBy_46 : decode cX10_heapBy 46 = .ok (.iload 4, 2) := by decide +kernel
theorem dX10_heapBy_48 : decode cX10_heapBy 48 = .ok (.istore 5, 2) := by decide +kernel
theorem dX10_heapBy_50 : decode cX10_heapBy 50 = .ok (.aload_n 0, 1) := by decide +kernel
theorem dX10_heapBy_51 : decode cX10_heapBy 51 = .ok (.iload 5, 2) := by decide +kernel
theorem dX10_heapBy_53 : decode cX10_heapBy 53 = .ok (.invokevirtual 260, 3) := by decide +kernel
theorem dX10_heapBy_56 : decode cX10_heapBy 56 = .ok (.ifCond .eq 20, 3) := by decide +kernel
theorem dX10_heapBy_59 : decode cX10_heapBy 59 = .ok (.aload_n 0, 1) := by decide +kernel
theorem dX10_heapBy_60 : decode cX10_heapBy 60 = .ok (.iload_n 1, 1) := by decide +kernel
theorem dX10_heapBy_61 : decode cX10_heapBy 61 = .ok (.iload 5, 2) := by decide +kernel
theorem dX10_heapBy_63 : decode cX10_heapBy 63 = .ok (.iload_n 3, 1) := by decide +kernel
theorem dX10_heapBy_64 : decode cX10_heapBy 64 = .ok (.iload_n 2, 1) := by decide +kernel
theorem dX10_heapBy_65 : decode cX10_heapBy 65 = .ok (.invokevirtual 263, 3) := by decide +kernel
theorem dX10_heapBy_68 : decode cX10_heapBy 68 = .ok (.ifCond .eq 8, 3) := by decide +kernel
theorem dX10_heapBy_71 : decode cX10_heapBy 71 = .ok (.iload 5, 2) := by decide +kernel
theorem dX10_heapBy_73 : decode cX10_heapBy 73 = .ok (.goto 4, 3) := by decide +kernel
theorem dX10_heapBy_76 : decode cX10_heapBy 76 = .ok (.iload_n 3, 1) := by decide +kernel
theorem dX10_heapBy_77 : decode cX10_heapBy 77 = .ok (.istore_n 3, 1) := by decide +kernel
theorem dX10_heapBy_78 : decode cX10_heapBy 78 = .ok (.iinc 4 1, 3) := by decide +kernel
theorem dX10_heapBy_81 : decode cX10_heapBy 81 = .ok (.goto (-75), 3) := by decide +kernel
theorem dX10_heapBy_84 : decode cX10_heapBy 84 = .ok (.iload_n 3, 1) := by decide +kernel
theorem dX10_heapBy_85 : decode cX10_heapBy 85 = .ok (.ireturn, 1) := by decide +kernel
theorem dX10_heapFor_0 : decode cX10_heapFor 0 = .ok (.bipush (-4), 2) := by decide +kernel
theorem dX10_heapFor_2 : decode cX10_heapFor 2 = .ok (.istore_n 2, 1) := by decide +kernel
theorem dX10_heapFor_3 : decode cX10_heapFor 3 = .ok (.iconst 0, 1) := by decide +kernel
theorem dX10_heapFor_4 : decode cX10_heapFor 4 = .ok (.istore_n 3, 1) := by decide +kernel
theorem dX10_heapFor_5 : decode cX10_heapFor 5 = .ok (.iload_n 3, 1) := by decide +kernel
theorem dX10_heapFor_6 : decode cX10_heapFor 6 = .ok (.aload_n 0, 1) := by decide +kernel
theorem dX10_heapFor_7 : decode cX10_heapFor 7 = .ok (.getfield 190, 3) := by decide +kernel
theorem dX10_heapFor_10 : decode cX10_heapFor 10 = .ok (.if_icmp .ge 32, 3) := by decide +kernel
theorem dX10_heapFor_13 : decode cX10_heapFor 13 = .ok (.iload_n 2, 1) := by decide +kernel
theorem dX10_heapFor_14 : decode cX10_heapFor 14 = .ok (.bipush (-4), 2) := by decide +kernel
theorem dX10_heapFor_16 : decode cX10_heapFor 16 = .ok (.if_icmp .ne 26, 3) := by decide +kernel
theorem dX10_heapFor_19 : decode cX10_heapFor 19 = .ok (.aload_n 0, 1) := by decide +kernel
theorem dX10_heapFor_20 : decode cX10_heapFor 20 = .ok (.aload_n 0, 1) := by decide +kernel
theorem dX10_heapFor_21 : decode cX10_heapFor 21 = .ok (.getfield 26, 3) := by decide +kernel
theorem dX10_heapFor_24 : decode cX10_heapFor 24 = .ok (.iload_n 3, 1) := by decide +kernel
theorem dX10_heapFor_25 : decode cX10_heapFor 25 = .ok (.iaload, 1) := by decide +kernel
theorem dX10_heapFor_26 : decode cX10_heapFor 26 = .ok (.aload_n 0, 1) := by decide +kernel
theorem dX10_heapFor_27 : decode cX10_heapFor 27 = .ok (.getfield 45, 3) := by decide +kernel
theorem dX10_heapFor_30 : decode cX10_heapFor 30 = .ok (.iload_n 1, 1) := by decide +kernel
theorem dX10_heapFor_31 : decode cX10_heapFor 31 = .ok (.iaload, 1) := by decide +kernel
theorem dX10_heapFor_32 : decode cX10_heapFor 32 = .ok (.invokevirtual 267, 3) := by decide +kernel
theorem dX10_heapFor_35 : decode cX10_heapFor 35 = .ok (.istore_n 2, 1) := by decide +kernel
theorem dX10_heapFor_36 : decode cX10_heapFor 36 = .ok (.iinc 3 1, 3) := by decide +kernel
theorem dX10_heapFor_39 : decode cX10_heapFor 39 = .ok (.goto (-34), 3) := by decide +kernel
theorem dX10_heapFor_42 : decode cX10_heapFor 42 = .ok (.iload_n 2, 1) := by decide +kernel
theorem dX10_heapFor_43 : decode cX10_heapFor 43 = .ok (.bipush (-4), 2) := by decide +kernel
theorem dX10_heapFor_45 : decode cX10_heapFor 45 = .ok (.if_icmp .ne 17, 3) := by decide +kernel
theorem dX10_heapFor_48 : decode cX10_heapFor 48 = .ok (.aload_n 0, 1) := by decide +kernel
theorem dX10_heapFor_49 : decode cX10_heapFor 49 = .ok (.iconst 0, 1) := by decide +kernel
theorem dX10_heapFor_50 : decode cX10_heapFor 50 = .ok (.aload_n 0, 1) := by decide +kernel
theorem dX10_heapFor_51 : decode cX10_heapFor 51 = .ok (.getfield 45, 3) := by decide +kernel
theorem dX10_heapFor_54 : decode cX10_heapFor 54 = .ok (.iload_n 1, 1) := by decide +kernel
theorem dX10_heapFor_55 : decode cX10_heapFor 55 = .ok (.iaload, 1) := by decide +kernel
theorem dX10_heapFor_56 : decode cX10_heapFor 56 = .ok (.invokevirtual 267, 3) := by decide +kernel
theorem dX10_heapFor_59 : decode cX10_heapFor 59 = .ok (.goto 4, 3) := by decide +kernel
theorem dX10_heapFor_62 : decode cX10_heapFor 62 = .ok (.iload_n 2, 1) := by decide +kernel
theorem dX10_heapFor_63 : decode cX10_heapFor 63 = .ok (.ireturn, 1) := by decide +kernel
theorem dX10_putOn_0 : decode cX10_putOn 0 = .ok (.aload_n 0, 1) := by decide +kernel
theorem dX10_putOn_1 : decode cX10_putOn 1 = .ok (.getfield 48, 3) := by decide +kernel
theorem dX10_putOn_4 : decode cX10_putOn 4 = .ok (.bipush 10, 2) := by decide +kernel
theorem dX10_putOn_6 : decode cX10_putOn 6 = .ok (.iload_n 1, 1) := by decide +kernel
theorem dX10_putOn_7 : decode cX10_putOn 7 = .ok (.imul, 1) := by decide +kernel
theorem dX10_putOn_8 : decode cX10_putOn 8 = .ok (.aload_n 0, 1) := by decide +kernel
theorem dX10_putOn_9 : decode cX10_putOn 9 = .ok (.getfield 51, 3) := by decide +kernel
theorem dX10_putOn_12 : decode cX10_putOn 12 = .ok (.iload_n 1, 1) := by decide +kernel
theorem dX10_putOn_13 : decode cX10_putOn 13 = .ok (.iaload, 1) := by decide +kernel
theorem dX10_putOn_14 : decode cX10_putOn 14 = .ok (.iadd, 1) := by decide +kernel
theorem dX10_putOn_15 : decode cX10_putOn 15 = .ok (.iload_n 2, 1) := by decide +kernel
theorem dX10_putOn_16 : decode cX10_putOn 16 = .ok (.iastore, 1) := by decide +kernel
theorem dX10_putOn_17 : decode cX10_putOn 17 = .ok (.aload_n 0, 1) := by decide +kernel
theorem dX10_putOn_18 : decode cX10_putOn 18 = .ok (.getfield 51, 3) := by decide +kernel
theorem dX10_putOn_21 : decode cX10_putOn 21 = .ok (.iload_n 1, 1) := by decide +kernel
theorem dX10_putOn_22 : decode cX10_putOn 22 = .ok (.dup2, 1) := by decide +kernel
theorem dX10_putOn_23 : decode cX10_putOn 23 = .ok (.iaload, 1) := by decide +kernel
theorem dX10_putOn_24 : decode cX10_putOn 24 = .ok (.iconst 1, 1) := by decide +kernel
theorem dX10_putOn_25 : decode cX10_putOn 25 = .ok (.iadd, 1) := by decide +kernel
theorem dX10_putOn_26 : decode cX10_putOn 26 = .ok (.iastore, 1) := by decide +kernel
theorem dX10_putOn_27 : decode cX10_putOn 27 = .ok (.return_, 1) := by decide +kernel
theorem dX10_clear_0 : decode cX10_clear 0 = .ok (.aload_n 0, 1) := by decide +kernel
theorem dX10_clear_1 : decode cX10_clear 1 = .ok (.bipush (-4), 2) := by decide +kernel
theorem dX10_clear_3 : decode cX10_clear 3 = .ok (.putfield 257, 3) := by decide +kernel
theorem dX10_clear_6 : decode cX10_clear 6 = .ok (.iconst 0, 1) := by decide +kernel
theorem dX10_clear_7 : decode cX10_clear 7 = .ok (.istore_n 1, 1) := by decide +kernel
theorem dX10_clear_8 : decode cX10_clear 8 = .ok (.iload_n 1, 1) := by decide +kernel
theorem dX10_clear_9 : decode cX10_clear 9 = .ok (.iconst 3, 1) := by decide +kernel
theorem dX10_clear_10 : decode cX10_clear 10 = .ok (.if_icmp .ge 16, 3) := by decide +kernel
theorem dX10_clear_13 : decode cX10_clear 13 = .ok (.aload_n 0, 1) := by decide +kernel
theorem dX10_clear_14 : decode cX10_clear 14 = .ok (.getfield 51, 3) := by decide +kernel
theorem dX10_clear_17 : decode cX10_clear 17 = .ok (.iload_n 1, 1) := by decide +kernel
theorem dX10_clear_18 : decode cX10_clear 18 = .ok (.iconst 0, 1) := by decide +kernel
theorem dX10_clear_19 : decode cX10_clear 19 = .ok (.iastore, 1) := by decide +kernel
theorem dX10_clear_20 : decode cX10_clear 20 = .ok (.iinc 1 1, 3) := by decide +kernel
theorem dX10_clear_23 : decode cX10_clear 23 = .ok (.goto (-15), 3) := by decide +kernel
theorem dX10_clear_26 : decode cX10_clear 26 = .ok (.return_, 1) := by decide +kernel
theorem dX10_lay_0 : decode cX10_lay 0 = .ok (.aload_n 0, 1) := by decide +kernel
theorem dX10_lay_1 : decode cX10_lay 1 = .ok (.invokevirtual 270, 3) := by decide +kernel
theorem dX10_lay_4 : decode cX10_lay 4 = .ok (.iconst 0, 1) := by decide +kernel
theorem dX10_lay_5 : decode cX10_lay 5 = .ok (.istore_n 1, 1) := by decide +kernel
theorem dX10_lay_6 : decode cX10_lay 6 = .ok (.iload_n 1, 1) := by decide +kernel
theorem dX10_lay_7 : decode cX10_lay 7 = .ok (.aload_n 0, 1) := by decide +kernel
theorem dX10_lay_8 : decode cX10_lay 8 = .ok (.getfield 234, 3) := by decide +kernel
theorem dX10_lay_11 : decode cX10_lay 11 = .ok (.if_icmp .ge 75, 3) := by decide +kernel
theorem dX10_lay_14 : decode cX10_lay 14 = .ok (.aload_n 0, 1) := by decide +kernel
theorem dX10_lay_15 : decode cX10_lay 15 = .ok (.getfield 39, 3) := by decide +kernel
theorem dX10_lay_18 : decode cX10_lay 18 = .ok (.iload_n 1, 1) := by decide +kernel
theorem dX10_lay_19 : decode cX10_lay 19 = .ok (.iaload, 1) := by decide +kernel
theorem dX10_lay_20 : decode cX10_lay 20 = .ok (.istore_n 2, 1) := by decide +kernel
theorem dX10_lay_21 : decode cX10_lay 21 = .ok (.aload_n 0, 1) := by decide +kernel
theorem dX10_lay_22 : decode cX10_lay 22 = .ok (.getfield 54, 3) := by decide +kernel
theorem dX10_lay_25 : decode cX10_lay 25 = .ok (.iload_n 2, 1) := by decide +kernel
theorem dX10_lay_26 : decode cX10_lay 26 = .ok (.aload_n 0, 1) := by decide +kernel
theorem dX10_lay_27 : decode cX10_lay 27 = .ok (.iload_n 2, 1) := by decide +kernel
theorem dX10_lay_28 : decode cX10_lay 28 = .ok (.invokevirtual 180, 3) := by decide +kernel
theorem dX10_lay_31 : decode cX10_lay 31 = .ok (.ifCond .eq 8, 3) := by decide +kernel
theorem dX10_lay_34 : decode cX10_lay 34 = .ok (.bipush 9, 2) := by decide +kernel
theorem dX10_lay_36 : decode cX10_lay 36 = .ok (.goto 8, 3) := by decide +kernel
theorem dX10_lay_39 : decode cX10_lay 39 = .ok (.aload_n 0, 1) := by decide +kernel
theorem dX10_lay_40 : decode cX10_lay 40 = .ok (.iload_n 2, 1) := by decide +kernel
theorem dX10_lay_41 : decode cX10_lay 41 = .ok (.invokevirtual 273, 3) := by decide +kernel
theorem dX10_lay_44 : decode cX10_lay 44 = .ok (.iastore, 1) := by decide +kernel
theorem dX10_lay_45 : decode cX10_lay 45 = .ok (.aload_n 0, 1) := by decide +kernel
theorem dX10_lay_46 : decode cX10_lay 46 = .ok (.getfield 54, 3) := by decide +kernel
theorem dX10_lay_49 : decode cX10_lay 49 = .ok (.iload_n 2, 1) := by decide +kernel
theorem dX10_lay_50 : decode cX10_lay 50 = .ok (.iaload, 1) := by decide +kernel
theorem dX10_lay_51 : decode cX10_lay 51 = .ok (.iconst 0, 1) := by decide +kernel
theorem dX10_lay_52 : decode cX10_lay 52 = .ok (.iconst 2, 1) := by decide +kernel
theorem dX10_lay_53 : decode cX10_lay 53 = .ok (.invokestatic 121, 3) := by decide +kernel
theorem dX10_lay_56 : decode cX10_lay 56 = .ok (.ifCond .eq 24, 3) := by decide +kernel
theorem dX10_lay_59 : decode cX10_lay 59 = .ok (.aload_n 0, 1) := by decide +kernel
theorem dX10_lay_60 : decode cX10_lay 60 = .ok (.aload_n 0, 1) := by decide +kernel
theorem dX10_lay_61 : decode cX10_lay 61 = .ok (.getfield 54, 3) := by decide +kernel
theorem dX10_lay_64 : decode cX10_lay 64 = .ok (.iload_n 2, 1) := by decide +kernel
theorem dX10_lay_65 : decode cX10_lay 65 = .ok (.iaload, 1) := by decide +kernel
theorem dX10_lay_66 : decode cX10_lay 66 = .ok (.iload_n 2, 1) := by decide +kernel
theorem dX10_lay_67 : decode cX10_lay 67 = .ok (.invokevirtual 276, 3) := by decide +kernel
theorem dX10_lay_70 : decode cX10_lay 70 = .ok (.aload_n 0, 1) := by decide +kernel
theorem dX10_lay_71 : decode cX10_lay 71 = .ok (.aload_n 0, 1) := by decide +kernel
theorem dX10_lay_72 : decode cX10_lay 72 = .ok (.getfield 54, 3) := by decide +kernel
theorem dX10_lay_75 : decode cX10_lay 75 = .ok (.iload_n 2, 1) := by decide +kernel
theorem dX10_lay_76 : decode cX10_lay 76 = .ok (.iaload, 1) := by decide +kernel
theorem dX10_lay_77 : decode cX10_lay 77 = .ok (.putfield 257, 3) := by decide +kernel
theorem dX10_lay_80 : decode cX10_lay 80 = .ok (.iinc 1 1, 3) := by decide +kernel
theorem dX10_lay_83 : decode cX10_lay 83 = .ok (.goto (-77), 3) := by decide +kernel
theorem dX10_lay_86 : decode cX10_lay 86 = .ok (.return_, 1) := by decide +kernel
theorem dX10_placeOf_0 : decode cX10_placeOf 0 = .ok (.iconst 0, 1) := by decide +kernel
theorem dX10_placeOf_1 : decode cX10_placeOf 1 = .ok (.istore_n 3, 1) := by decide +kernel
theorem dX10_placeOf_2 : decode cX10_placeOf 2 = .ok (.iload_n 3, 1) := by decide +kernel
theorem dX10_placeOf_3 : decode cX10_placeOf 3 = .ok (.aload_n 0, 1) := by decide +kernel
theorem dX10_placeOf_4 : decode cX10_placeOf 4 = .ok (.getfield 51, 3) := by decide +kernel
theorem dX10_placeOf_7 : decode cX10_placeOf 7 = .ok (.iload_n 2, 1) := by decide +kernel
theorem dX10_placeOf_8 : decode cX10_placeOf 8 = .ok (.iaload, 1) := by decide +kernel
theorem dX10_placeOf_9 : decode cX10_placeOf 9 = .ok (.if_icmp .ge 26, 3) := by decide +kernel
theorem dX10_placeOf_12 : decode cX10_placeOf 12 = .ok (.aload_n 0, 1) := by decide +kernel
theorem dX10_placeOf_13 : decode cX10_placeOf 13 = .ok (.getfield 48, 3) := by decide +kernel
theorem dX10_placeOf_16 : decode cX10_placeOf 16 = .ok (.bipush 10, 2) := by decide +kernel
theorem dX10_placeOf_18 : decode cX10_placeOf 18 = .ok (.iload_n 2, 1) := by decide +kernel
theorem dX10_placeOf_19 : decode cX10_placeOf 19 = .ok (.imul, 1) := by decide +kernel
theorem dX10_placeOf_20 : decode cX10_placeOf 20 = .ok (.iload_n 3, 1) := by decide +kernel
theorem dX10_placeOf_21 : decode cX10_placeOf 21 = .ok (.iadd, 1) := by decide +kernel
theorem dX10_placeOf_22 : decode cX10_placeOf 22 = .ok (.iaload, 1) := by decide +kernel
theorem dX10_placeOf_23 : decode cX10_placeOf 23 = .ok (.iload_n 1, 1) := by decide +kernel
theorem dX10_placeOf_24 : decode cX10_placeOf 24 = .ok (.if_icmp .ne 5, 3) := by decide +kernel
theorem dX10_placeOf_27 : decode cX10_placeOf 27 = .ok (.iload_n 3, 1) := by decide +kernel
theorem dX10_placeOf_28 : decode cX10_placeOf 28 = .ok (.ireturn, 1) := by decide +kernel
theorem dX10_placeOf_29 : decode cX10_placeOf 29 = .ok (.iinc 3 1, 3) := by decide +kernel
theorem dX10_placeOf_32 : decode cX10_placeOf 32 = .ok (.goto (-30), 3) := by decide +kernel
theorem dX10_placeOf_35 : decode cX10_placeOf 35 = .ok (.bipush (-4), 2) := by decide +kernel
theorem dX10_placeOf_37 : decode cX10_placeOf 37 = .ok (.ireturn, 1) := by decide +kernel
theorem dX10_topBlack_0 : decode cX10_topBlack 0 = .ok (.aload_n 0, 1) := by decide +kernel
theorem dX10_topBlack_1 : decode cX10_topBlack 1 = .ok (.getfield 51, 3) := by decide +kernel
theorem dX10_topBlack_4 : decode cX10_topBlack 4 = .ok (.iload_n 1, 1) := by decide +kernel
theorem dX10_topBlack_5 : decode cX10_topBlack 5 = .ok (.iaload, 1) := by decide +kernel
theorem dX10_topBlack_6 : decode cX10_topBlack 6 = .ok (.iconst 1, 1) := by decide +kernel
theorem dX10_topBlack_7 : decode cX10_topBlack 7 = .ok (.isub, 1) := by decide +kernel
theorem dX10_topBlack_8 : decode cX10_topBlack 8 = .ok (.istore_n 2, 1) := by decide +kernel
theorem dX10_topBlack_9 : decode cX10_topBlack 9 = .ok (.iload_n 2, 1) := by decide +kernel
theorem dX10_topBlack_10 : decode cX10_topBlack 10 = .ok (.ifCond .lt 27, 3) := by decide +kernel
theorem dX10_topBlack_13 : decode cX10_topBlack 13 = .ok (.aload_n 0, 1) := by decide +kernel
theorem dX10_topBlack_14 : decode cX10_topBlack 14 = .ok (.aload_n 0, 1) := by decide +kernel
theorem dX10_topBlack_15 : decode cX10_topBlack 15 = .ok (.getfield 48, 3) := by decide +kernel
theorem dX10_topBlack_18 : decode cX10_topBlack 18 = .ok (.bipush 10, 2) := by decide +kernel
theorem dX10_topBlack_20 : decode cX10_topBlack 20 = .ok (.iload_n 1, 1) := by decide +kernel
theorem dX10_topBlack_21 : decode cX10_topBlack 21 = .ok (.imul, 1) := by decide +kernel
theorem dX10_topBlack_22 : decode cX10_topBlack 22 = .ok (.iload_n 2, 1) := by decide +kernel
theorem dX10_topBlack_23 : decode cX10_topBlack 23 = .ok (.iadd, 1) := by decide +kernel
theorem dX10_topBlack_24 : decode cX10_topBlack 24 = .ok (.iaload, 1) := by decide +kernel
theorem dX10_topBlack_25 : decode cX10_topBlack 25 = .ok (.invokevirtual 219, 3) := by decide +kernel
theorem dX10_topBlack_28 : decode cX10_topBlack 28 = .ok (.ifCond .ne 9, 3) := by decide +kernel
theorem dX10_topBlack_31 : decode cX10_topBlack 31 = .ok (.iinc 2 (-1), 3) := by decide +kernel
theorem dX10_topBlack_34 : decode cX10_topBlack 34 = .ok (.goto (-25), 3) := by decide +kernel
theorem dX10_topBlack_37 : decode cX10_topBlack 37 = .ok (.iload_n 2, 1) := by decide +kernel
theorem dX10_topBlack_38 : decode cX10_topBlack 38 = .ok (.ireturn, 1) := by decide +kernel
theorem dX10_dig_0 : decode cX10_dig 0 = .ok (.bipush 10, 2) := by decide +kernel
theorem dX10_dig_2 : decode cX10_dig 2 = .ok (.iload_n 2, 1) := by decide +kernel
theorem dX10_dig_3 : decode cX10_dig 3 = .ok (.imul, 1) := by decide +kernel
theorem dX10_dig_4 : decode cX10_dig 4 = .ok (.istore 4, 2) := by decide +kernel
theorem dX10_dig_6 : decode cX10_dig 6 = .ok (.aload_n 0, 1) := by decide +kernel
theorem dX10_dig_7 : decode cX10_dig 7 = .ok (.getfield 51, 3) := by decide +kernel
theorem dX10_dig_10 : decode cX10_dig 10 = .ok (.iload_n 2, 1) := by decide +kernel
theorem dX10_dig_11 : decode cX10_dig 11 = .ok (.iaload, 1) := by decide +kernel
theorem dX10_dig_12 : decode cX10_dig 12 = .ok (.iconst 1, 1) := by decide +kernel
theorem dX10_dig_13 : decode cX10_dig 13 = .ok (.isub, 1) := by decide +kernel
theorem dX10_dig_14 : decode cX10_dig 14 = .ok (.iload_n 3, 1) := by decide +kernel
theorem dX10_dig_15 : decode cX10_dig 15 = .ok (.isub, 1) := by decide +kernel
theorem dX10_dig_16 : decode cX10_dig 16 = .ok (.istore 5, 2) := by decide +kernel
theorem dX10_dig_18 : decode cX10_dig 18 = .ok (.iconst 0, 1) := by decide +kernel
theorem dX10_dig_19 : decode cX10_dig 19 = .ok (.istore 6, 2) := by decide +kernel
theorem dX10_dig_21 : decode cX10_dig 21 = .ok (.iload 6, 2) := by decide +kernel
theorem dX10_dig_23 : decode cX10_dig 23 = .ok (.iload 5, 2) := by decide +kernel
theorem dX10_dig_25 : decode cX10_dig 25 = .ok (.if_icmp .ge 71, 3) := by decide +kernel
theorem dX10_dig_28 : decode cX10_dig 28 = .ok (.aload_n 0, 1) := by decide +kernel
theorem dX10_dig_29 : decode cX10_dig 29 = .ok (.getfield 76, 3) := by decide +kernel
theorem dX10_dig_32 : decode cX10_dig 32 = .ok (.iload 6, 2) := by decide +kernel
theorem dX10_dig_34 : decode cX10_dig 34 = .ok (.aload_n 0, 1) := by decide +kernel
theorem dX10_dig_35 : decode cX10_dig 35 = .ok (.getfield 48, 3) := by decide +kernel
theorem dX10_dig_38 : decode cX10_dig 38 = .ok (.iload 4, 2) := by decide +kernel
theorem dX10_dig_40 : decode cX10_dig 40 = .ok (.aload_n 0, 1) := by decide +kernel
theorem dX10_dig_41 : decode cX10_dig 41 = .ok (.getfield 51, 3) := by decide +kernel
theorem dX10_dig_44 : decode cX10_dig 44 = .ok (.iload_n 2, 1) := by decide +kernel
theorem dX10_dig_45 : decode cX10_dig 45 = .ok (.iaload, 1) := by decide +kernel
theorem dX10_dig_46 : decode cX10_dig 46 = .ok (.iadd, 1) := by decide +kernel
theorem dX10_dig_47 : decode cX10_dig 47 = .ok (.iconst 1, 1) := by decide +kernel
theorem dX10_dig_48 : decode cX10_dig 48 = .ok (.isub, 1) := by decide +kernel
theorem dX10_dig_49 : decode cX10_dig 49 = .ok (.iload 6, 2) := by decide +kernel
theorem dX10_dig_51 : decode cX10_dig 51 = .ok (.isub, 1) := by decide +kernel
theorem dX10_dig_52 : decode cX10_dig 52 = .ok (.iaload, 1) := by decide +kernel
theorem dX10_dig_53 : decode cX10_dig 53 = .ok (.iastore, 1) := by decide +kernel
theorem dX10_dig_54 : decode cX10_dig 54 = .ok (.aload_n 0, 1) := by decide +kernel
theorem dX10_dig_55 : decode cX10_dig 55 = .ok (.getfield 57, 3) := by decide +kernel
theorem dX10_dig_58 : decode cX10_dig 58 = .ok (.iload_n 1, 1) := by decide +kernel
theorem dX10_dig_59 : decode cX10_dig 59 = .ok (.dup2, 1) := by decide +kernel
theorem dX10_dig_60 : decode cX10_dig 60 = .ok (.iaload, 1) := by decide +kernel
theorem dX10_dig_61 : decode cX10_dig 61 = .ok (.aload_n 0, 1) := by decide +kernel
theorem dX10_dig_62 : decode cX10_dig 62 = .ok (.aload_n 0, 1) := by decide +kernel
theorem dX10_dig_63 : decode cX10_dig 63 = .ok (.getfield 76, 3) := by decide +kernel
theorem dX10_dig_66 : decode cX10_dig 66 = .ok (.iload 6, 2) := by decide +kernel
theorem dX10_dig_68 : decode cX10_dig 68 = .ok (.iaload, 1) := by decide +kernel
theorem dX10_dig_69 : decode cX10_dig 69 = .ok (.invokevirtual 216, 3) := by decide +kernel
theorem dX10_dig_72 : decode cX10_dig 72 = .ok (.iadd, 1) := by decide +kernel
theorem dX10_dig_73 : decode cX10_dig 73 = .ok (.iastore, 1) := by decide +kernel
theorem dX10_dig_74 : decode cX10_dig 74 = .ok (.aload_n 0, 1) := by decide +kernel
theorem dX10_dig_75 : decode cX10_dig 75 = .ok (.getfield 69, 3) := by decide +kernel
theorem dX10_dig_78 : decode cX10_dig 78 = .ok (.aload_n 0, 1) := by decide +kernel
theorem dX10_dig_79 : decode cX10_dig 79 = .ok (.getfield 76, 3) := by decide +kernel
theorem dX10_dig_82 : decode cX10_dig 82 = .ok (.iload 6, 2) := by decide +kernel
theorem dX10_dig_84 : decode cX10_dig 84 = .ok (.iaload, 1) := by decide +kernel
theorem dX10_dig_85 : decode cX10_dig 85 = .ok (.dup2, 1) := by decide +kernel
theorem dX10_dig_86 : decode cX10_dig 86 = .ok (.iaload, 1) := by decide +kernel
theorem dX10_dig_87 : decode cX10_dig 87 = .ok (.iconst 1, 1) := by decide +kernel
theorem dX10_dig_88 : decode cX10_dig 88 = .ok (.iadd, 1) := by decide +kernel
theorem dX10_dig_89 : decode cX10_dig 89 = .ok (.iastore, 1) := by decide +kernel
theorem dX10_dig_90 : decode cX10_dig 90 = .ok (.iinc 6 1, 3) := by decide +kernel
theorem dX10_dig_93 : decode cX10_dig 93 = .ok (.goto (-72), 3) := by decide +kernel
theorem dX10_dig_96 : decode cX10_dig 96 = .ok (.aload_n 0, 1) := by decide +kernel
theorem dX10_dig_97 : decode cX10_dig 97 = .ok (.getfield 66, 3) := by decide +kernel
theorem dX10_dig_100 : decode cX10_dig 100 = .ok (.iload_n 1, 1) := by decide +kernel
theorem dX10_dig_101 : decode cX10_dig 101 = .ok (.aload_n 0, 1) := by decide +kernel
theorem dX10_dig_102 : decode cX10_dig 102 = .ok (.getfield 48, 3) := by decide +kernel
theorem dX10_dig_105 : decode cX10_dig 105 = .ok (.iload 4, 2) := by decide +kernel
theorem dX10_dig_107 : decode cX10_dig 107 = .ok (.iload_n 3, 1) := by decide +kernel
theorem dX10_dig_108 : decode cX10_dig 108 = .ok (.iadd, 1) := by decide +kernel
theorem dX10_dig_109 : decode cX10_dig 109 = .ok (.iaload, 1) := by decide +kernel
theorem dX10_dig_110 : decode cX10_dig 110 = .ok (.iastore, 1) := by decide +kernel
theorem dX10_dig_111 : decode cX10_dig 111 = .ok (.aload_n 0, 1) := by decide +kernel
theorem dX10_dig_112 : decode cX10_dig 112 = .ok (.getfield 72, 3) := by decide +kernel
theorem dX10_dig_115 : decode cX10_dig 115 = .ok (.aload_n 0, 1) := by decide +kernel
theorem dX10_dig_116 : decode cX10_dig 116 = .ok (.getfield 66, 3) := by decide +kernel
theorem dX10_dig_119 : decode cX10_dig 119 = .ok (.iload_n 1, 1) := by decide +kernel
theorem dX10_dig_120 : decode cX10_dig 120 = .ok (.iaload, 1) := by decide +kernel
theorem dX10_dig_121 : decode cX10_dig 121 = .ok (.iconst 1, 1) := by decide +kernel
theorem dX10_dig_122 : decode cX10_dig 122 = .ok (.bastore, 1) := by decide +kernel
theorem dX10_dig_123 : decode cX10_dig 123 = .ok (.aload_n 0, 1) := by decide +kernel
theorem dX10_dig_124 : decode cX10_dig 124 = .ok (.getfield 51, 3) := by decide +kernel
theorem dX10_dig_127 : decode cX10_dig 127 = .ok (.iload_n 2, 1) := by decide +kernel
theorem dX10_dig_128 : decode cX10_dig 128 = .ok (.iload_n 3, 1) := by decide +kernel
theorem dX10_dig_129 : decode cX10_dig 129 = .ok (.iastore, 1) := by decide +kernel
theorem dX10_dig_130 : decode cX10_dig 130 = .ok (.iconst 0, 1) := by decide +kernel
theorem dX10_dig_131 : decode cX10_dig 131 = .ok (.istore 6, 2) := by decide +kernel
theorem dX10_dig_133 : decode cX10_dig 133 = .ok (.iload 6, 2) := by decide +kernel
theorem dX10_dig_135 : decode cX10_dig 135 = .ok (.iload 5, 2) := by decide +kernel
theorem dX10_dig_137 : decode cX10_dig 137 = .ok (.if_icmp .ge 67, 3) := by decide +kernel
theorem dX10_dig_140 : decode cX10_dig 140 = .ok (.aload_n 0, 1) := by decide +kernel
theorem dX10_dig_141 : decode cX10_dig 141 = .ok (.getfield 170, 3) := by decide +kernel
theorem dX10_dig_144 : decode cX10_dig 144 = .ok (.ifCond .ne 23, 3) := by decide +kernel
theorem dX10_dig_147 : decode cX10_dig 147 = .ok (.aload_n 0, 1) := by decide +kernel
theorem dX10_dig_148 : decode cX10_dig 148 = .ok (.iload_n 2, 1) := by decide +kernel
theorem dX10_dig_149 : decode cX10_dig 149 = .ok (.aload_n 0, 1) := by decide +kernel
theorem dX10_dig_150 : decode cX10_dig 150 = .ok (.getfield 76, 3) := by decide +kernel
theorem dX10_dig_153 : decode cX10_dig 153 = .ok (.iload 5, 2) := by decide +kernel
theorem dX10_dig_155 : decode cX10_dig 155 = .ok (.iconst 1, 1) := by decide +kernel
theorem dX10_dig_156 : decode cX10_dig 156 = .ok (.isub, 1) := by decide +kernel
theorem dX10_dig_157 : decode cX10_dig 157 = .ok (.iload 6, 2) := by decide +kernel
theorem dX10_dig_159 : decode cX10_dig 159 = .ok (.isub, 1) := by decide +kernel
theorem dX10_dig_160 : decode cX10_dig 160 = .ok (.iaload, 1) := by decide +kernel
theorem dX10_dig_161 : decode cX10_dig 161 = .ok (.invokevirtual 276, 3) := by decide +kernel
theorem dX10_dig_164 : decode cX10_dig 164 = .ok (.goto 34, 3) := by decide +kernel
theorem dX10_dig_167 : decode cX10_dig 167 = .ok (.aload_n 0, 1) := by decide +kernel
theorem dX10_dig_168 : decode cX10_dig 168 = .ok (.aload_n 0, 1) := by decide +kernel
theorem dX10_dig_169 : decode cX10_dig 169 = .ok (.getfield 170, 3) := by decide +kernel
theorem dX10_dig_172 : decode cX10_dig 172 = .ok (.iconst 2, 1) := by decide +kernel
theorem dX10_dig_173 : decode cX10_dig 173 = .ok (.if_icmp .ne 14, 3) := by decide +kernel
theorem dX10_dig_176 : decode cX10_dig 176 = .ok (.iload_n 2, 1) := by decide +kernel
theorem dX10_dig_177 : decode cX10_dig 177 = .ok (.iconst 1, 1) := by decide +kernel
theorem dX10_dig_178 : decode cX10_dig 178 = .ok (.iadd, 1) := by decide +kernel
theorem dX10_dig_179 : decode cX10_dig 179 = .ok (.aload_n 0, 1) := by decide +kernel
theorem dX10_dig_180 : decode cX10_dig 180 = .ok (.getfield 19, 3) := by decide +kernel
theorem dX10_dig_183 : decode cX10_dig 183 = .ok (.irem, 1) := by decide +kernel
theorem dX10_dig_184 : decode cX10_dig 184 = .ok (.goto 4, 3) := by decide +kernel
theorem dX10_dig_187 : decode cX10_dig 187 = .ok (.iload_n 2, 1) := by decide +kernel
theorem dX10_dig_188 : decode cX10_dig 188 = .ok (.aload_n 0, 1) := by decide +kernel
theorem dX10_dig_189 : decode cX10_dig 189 = .ok (.getfield 76, 3) := by decide +kernel
theorem dX10_dig_192 : decode cX10_dig 192 = .ok (.iload 6, 2) := by decide +kernel
theorem dX10_dig_194 : decode cX10_dig 194 = .ok (.iaload, 1) := by decide +kernel
theorem dX10_dig_195 : decode cX10_dig 195 = .ok (.invokevirtual 276, 3) := by decide +kernel
theorem dX10_dig_198 : decode cX10_dig 198 = .ok (.iinc 6 1, 3) := by decide +kernel
theorem dX10_dig_201 : decode cX10_dig 201 = .ok (.goto (-68), 3) := by decide +kernel
theorem dX10_dig_204 : decode cX10_dig 204 = .ok (.return_, 1) := by decide +kernel
theorem dX10_takeAny_0 : decode cX10_takeAny 0 = .ok (.iconst 0, 1) := by decide +kernel
theorem dX10_takeAny_1 : decode cX10_takeAny 1 = .ok (.istore_n 2, 1) := by decide +kernel
theorem dX10_takeAny_2 : decode cX10_takeAny 2 = .ok (.iload_n 2, 1) := by decide +kernel
theorem dX10_takeAny_3 : decode cX10_takeAny 3 = .ok (.aload_n 0, 1) := by decide +kernel
theorem dX10_takeAny_4 : decode cX10_takeAny 4 = .ok (.getfield 19, 3) := by decide +kernel
theorem dX10_takeAny_7 : decode cX10_takeAny 7 = .ok (.if_icmp .ge 27, 3) := by decide +kernel
theorem dX10_takeAny_10 : decode cX10_takeAny 10 = .ok (.aload_n 0, 1) := by decide +kernel
theorem dX10_takeAny_11 : decode cX10_takeAny 11 = .ok (.iload_n 2, 1) := by decide +kernel
theorem dX10_takeAny_12 : decode cX10_takeAny 12 = .ok (.invokevirtual 280, 3) := by decide +kernel
theorem dX10_takeAny_15 : decode cX10_takeAny 15 = .ok (.istore_n 3, 1) := by decide +kernel
theorem dX10_takeAny_16 : decode cX10_takeAny 16 = .ok (.iload_n 3, 1) := by decide +kernel
theorem dX10_takeAny_17 : decode cX10_takeAny 17 = .ok (.ifCond .lt 11, 3) := by decide +kernel
theorem dX10_takeAny_20 : decode cX10_takeAny 20 = .ok (.aload_n 0, 1) := by decide +kernel
theorem dX10_takeAny_21 : decode cX10_takeAny 21 = .ok (.iload_n 1, 1) := by decide +kernel
theorem dX10_takeAny_22 : decode cX10_takeAny 22 = .ok (.iload_n 2, 1) := by decide +kernel
theorem dX10_takeAny_23 : decode cX10_takeAny 23 = .ok (.iload_n 3, 1) := by decide +kernel
theorem dX10_takeAny_24 : decode cX10_takeAny 24 = .ok (.invokevirtual 283, 3) := by decide +kernel
theorem dX10_takeAny_27 : decode cX10_takeAny 27 = .ok (.return_, 1) := by decide +kernel
theorem dX10_takeAny_28 : decode cX10_takeAny 28 = .ok (.iinc 2 1, 3) := by decide +kernel
theorem dX10_takeAny_31 : decode cX10_takeAny 31 = .ok (.goto (-29), 3) := by decide +kernel
theorem dX10_takeAny_34 : decode cX10_takeAny 34 = .ok (.return_, 1) := by decide +kernel
theorem dX10_goOne_0 : decode cX10_goOne 0 = .ok (.aload_n 0, 1) := by decide +kernel
theorem dX10_goOne_1 : decode cX10_goOne 1 = .ok (.getfield 57, 3) := by decide +kernel
theorem dX10_goOne_4 : decode cX10_goOne 4 = .ok (.iload_n 1, 1) := by decide +kernel
theorem dX10_goOne_5 : decode cX10_goOne 5 = .ok (.iconst 0, 1) := by decide +kernel
theorem dX10_goOne_6 : decode cX10_goOne 6 = .ok (.iastore, 1) := by decide +kernel
theorem dX10_goOne_7 : decode cX10_goOne 7 = .ok (.aload_n 0, 1) := by decide +kernel
theorem dX10_goOne_8 : decode cX10_goOne 8 = .ok (.getfield 66, 3) := by decide +kernel
theorem dX10_goOne_11 : decode cX10_goOne 11 = .ok (.iload_n 1, 1) := by decide +kernel
theorem dX10_goOne_12 : decode cX10_goOne 12 = .ok (.bipush (-4), 2) := by decide +kernel
theorem dX10_goOne_14 : decode cX10_goOne 14 = .ok (.iastore, 1) := by decide +kernel
theorem dX10_goOne_15 : decode cX10_goOne 15 = .ok (.aload_n 0, 1) := by decide +kernel
theorem dX10_goOne_16 : decode cX10_goOne 16 = .ok (.getfield 54, 3) := by decide +kernel
theorem dX10_goOne_19 : decode cX10_goOne 19 = .ok (.iload_n 1, 1) := by decide +kernel
theorem dX10_goOne_20 : decode cX10_goOne 20 = .ok (.iaload, 1) := by decide +kernel
theorem dX10_goOne_21 : decode cX10_goOne 21 = .ok (.bipush 9, 2) := by decide +kernel
theorem dX10_goOne_23 : decode cX10_goOne 23 = .ok (.if_icmp .eq 14, 3) := by decide +kernel
theorem dX10_goOne_26 : decode cX10_goOne 26 = .ok (.aload_n 0, 1) := by decide +kernel
theorem dX10_goOne_27 : decode cX10_goOne 27 = .ok (.getfield 54, 3) := by decide +kernel
theorem dX10_goOne_30 : decode cX10_goOne 30 = .ok (.iload_n 1, 1) := by decide +kernel
theorem dX10_goOne_31 : decode cX10_goOne 31 = .ok (.iaload, 1) := by decide +kernel
theorem dX10_goOne_32 : decode cX10_goOne 32 = .ok (.bipush (-4), 2) := by decide +kernel
theorem dX10_goOne_34 : decode cX10_goOne 34 = .ok (.if_icmp .ne 42, 3) := by decide +kernel
theorem dX10_goOne_37 : decode cX10_goOne 37 = .ok (.aload_n 0, 1) := by decide +kernel
theorem dX10_goOne_38 : decode cX10_goOne 38 = .ok (.getfield 66, 3) := by decide +kernel
theorem dX10_goOne_41 : decode cX10_goOne 41 = .ok (.iload_n 1, 1) := by decide +kernel
theorem dX10_goOne_42 : decode cX10_goOne 42 = .ok (.iload_n 1, 1) := by decide +kernel
theorem dX10_goOne_43 : decode cX10_goOne 43 = .ok (.iastore, 1) := by decide +kernel
theorem dX10_goOne_44 : decode cX10_goOne 44 = .ok (.aload_n 0, 1) := by decide +kernel
theorem dX10_goOne_45 : decode cX10_goOne 45 = .ok (.getfield 72, 3) := by decide +kernel
theorem dX10_goOne_48 : decode cX10_goOne 48 = .ok (.iload_n 1, 1) := by decide +kernel
theorem dX10_goOne_49 : decode cX10_goOne 49 = .ok (.iconst 1, 1) := by decide +kernel
theorem dX10_goOne_50 : decode cX10_goOne 50 = .ok (.bastore, 1) := by decide +kernel
theorem dX10_goOne_51 : decode cX10_goOne 51 = .ok (.aload_n 0, 1) := by decide +kernel
theorem dX10_goOne_52 : decode cX10_goOne 52 = .ok (.getfield 60, 3) := by decide +kernel
theorem dX10_goOne_55 : decode cX10_goOne 55 = .ok (.iload_n 1, 1) := by decide +kernel
theorem dX10_goOne_56 : decode cX10_goOne 56 = .ok (.aload_n 0, 1) := by decide +kernel
theorem dX10_goOne_57 : decode cX10_goOne 57 = .ok (.getfield 45, 3) := by decide +kernel
theorem dX10_goOne_60 : decode cX10_goOne 60 = .ok (.iload_n 1, 1) := by decide +kernel
theorem dX10_goOne_61 : decode cX10_goOne 61 = .ok (.iaload, 1) := by decide +kernel
theorem dX10_goOne_62 : decode cX10_goOne 62 = .ok (.iastore, 1) := by decide +kernel
theorem dX10_goOne_63 : decode cX10_goOne 63 = .ok (.aload_n 0, 1) := by decide +kernel
theorem dX10_goOne_64 : decode cX10_goOne 64 = .ok (.getfield 63, 3) := by decide +kernel
theorem dX10_goOne_67 : decode cX10_goOne 67 = .ok (.iload_n 1, 1) := by decide +kernel
theorem dX10_goOne_68 : decode cX10_goOne 68 = .ok (.aload_n 0, 1) := by decide +kernel
theorem dX10_goOne_69 : decode cX10_goOne 69 = .ok (.getfield 45, 3) := by decide +kernel
theorem dX10_goOne_72 : decode cX10_goOne 72 = .ok (.iload_n 1, 1) := by decide +kernel
theorem dX10_goOne_73 : decode cX10_goOne 73 = .ok (.iaload, 1) := by decide +kernel
theorem dX10_goOne_74 : decode cX10_goOne 74 = .ok (.iastore, 1) := by decide +kernel
theorem dX10_goOne_75 : decode cX10_goOne 75 = .ok (.return_, 1) := by decide +kernel
theorem dX10_goOne_76 : decode cX10_goOne 76 = .ok (.aload_n 0, 1) := by decide +kernel
theorem dX10_goOne_77 : decode cX10_goOne 77 = .ok (.getfield 72, 3) := by decide +kernel
theorem dX10_goOne_80 : decode cX10_goOne 80 = .ok (.iload_n 1, 1) := by decide +kernel
theorem dX10_goOne_81 : decode cX10_goOne 81 = .ok (.baload, 1) := by decide +kernel
theorem dX10_goOne_82 : decode cX10_goOne 82 = .ok (.ifCond .eq 11, 3) := by decide +kernel
theorem dX10_goOne_85 : decode cX10_goOne 85 = .ok (.aload_n 0, 1) := by decide +kernel
theorem dX10_goOne_86 : decode cX10_goOne 86 = .ok (.iload_n 1, 1) := by decide +kernel
theorem dX10_goOne_87 : decode cX10_goOne 87 = .ok (.invokevirtual 287, 3) := by decide +kernel
theorem dX10_goOne_90 : decode cX10_goOne 90 = .ok (.goto 72, 3) := by decide +kernel
theorem dX10_goOne_93 : decode cX10_goOne 93 = .ok (.iconst 0, 1) := by decide +kernel
theorem dX10_goOne_94 : decode cX10_goOne 94 = .ok (.istore_n 2, 1) := by decide +kernel
theorem dX10_goOne_95 : decode cX10_goOne 95 = .ok (.iload_n 2, 1) := by decide +kernel
theorem dX10_goOne_96 : decode cX10_goOne 96 = .ok (.aload_n 0, 1) := by decide +kernel
theorem dX10_goOne_97 : decode cX10_goOne 97 = .ok (.getfield 19, 3) := by decide +kernel
theorem dX10_goOne_100 : decode cX10_goOne 100 = .ok (.if_icmp .ge 62, 3) := by decide +kernel
theorem dX10_goOne_103 : decode cX10_goOne 103 = .ok (.aload_n 0, 1) := by decide +kernel
theorem dX10_goOne_104 : decode cX10_goOne 104 = .ok (.getfield 66, 3) := by decide +kernel
theorem dX10_goOne_107 : decode cX10_goOne 107 = .ok (.iload_n 1, 1) := by decide +kernel
theorem dX10_goOne_108 : decode cX10_goOne 108 = .ok (.iaload, 1) := by decide +kernel
theorem dX10_goOne_109 : decode cX10_goOne 109 = .ok (.bipush (-4), 2) := by decide +kernel
theorem dX10_goOne_111 : decode cX10_goOne 111 = .ok (.if_icmp .ne 51, 3) := by decide +kernel
theorem dX10_goOne_114 : decode cX10_goOne 114 = .ok (.aload_n 0, 1) := by decide +kernel
theorem dX10_goOne_115 : decode cX10_goOne 115 = .ok (.iload_n 1, 1) := by decide +kernel
theorem dX10_goOne_116 : decode cX10_goOne 116 = .ok (.iload_n 2, 1) := by decide +kernel
theorem dX10_goOne_117 : decode cX10_goOne 117 = .ok (.invokevirtual 290, 3) := by decide +kernel
theorem dX10_goOne_120 : decode cX10_goOne 120 = .ok (.istore_n 3, 1) := by decide +kernel
theorem dX10_goOne_121 : decode cX10_goOne 121 = .ok (.iload_n 3, 1) := by decide +kernel
theorem dX10_goOne_122 : decode cX10_goOne 122 = .ok (.ifCond .lt 34, 3) := by decide +kernel
theorem dX10_goOne_125 : decode cX10_goOne 125 = .ok (.aload_n 0, 1) := by decide +kernel
theorem dX10_goOne_126 : decode cX10_goOne 126 = .ok (.iload_n 1, 1) := by decide +kernel
theorem dX10_goOne_127 : decode cX10_goOne 127 = .ok (.iload_n 2, 1) := by decide +kernel
theorem dX10_goOne_128 : decode cX10_goOne 128 = .ok (.aload_n 0, 1) := by decide +kernel
theorem dX10_goOne_129 : decode cX10_goOne 129 = .ok (.getfield 173, 3) := by decide +kernel
theorem dX10_goOne_132 : decode cX10_goOne 132 = .ok (.iconst 1, 1) := by decide +kernel
theorem dX10_goOne_133 : decode cX10_goOne 133 = .ok (.if_icmp .ne 19, 3) := by decide +kernel
theorem dX10_goOne_136 : decode cX10_goOne 136 = .ok (.aload_n 0, 1) := by decide +kernel
theorem dX10_goOne_137 : decode cX10_goOne 137 = .ok (.iload_n 1, 1) := by decide +kernel
theorem dX10_goOne_138 : decode cX10_goOne 138 = .ok (.invokevirtual 219, 3) := by decide +kernel
theorem dX10_goOne_141 : decode cX10_goOne 141 = .ok (.ifCond .eq 11, 3) := by decide +kernel
theorem dX10_goOne_144 : decode cX10_goOne 144 = .ok (.aload_n 0, 1) := by decide +kernel
theorem dX10_goOne_145 : decode cX10_goOne 145 = .ok (.iload_n 2, 1) := by decide +kernel
theorem dX10_goOne_146 : decode cX10_goOne 146 = .ok (.invokevirtual 280, 3) := by decide +kernel
theorem dX10_goOne_149 : decode cX10_goOne 149 = .ok (.goto 4, 3) := by decide +kernel
theorem dX10_goOne_152 : decode cX10_goOne 152 = .ok (.iload_n 3, 1) := by decide +kernel
theorem dX10_goOne_153 : decode cX10_goOne 153 = .ok (.invokevirtual 283, 3) := by decide +kernel
theorem dX10_goOne_156 : decode cX10_goOne 156 = .ok (.iinc 2 1, 3) := by decide +kernel
theorem dX10_goOne_159 : decode cX10_goOne 159 = .ok (.goto (-64), 3) := by decide +kernel
theorem dX10_goOne_162 : decode cX10_goOne 162 = .ok (.aload_n 0, 1) := by decide +kernel
theorem dX10_goOne_163 : decode cX10_goOne 163 = .ok (.getfield 60, 3) := by decide +kernel
theorem dX10_goOne_166 : decode cX10_goOne 166 = .ok (.iload_n 1, 1) := by decide +kernel
theorem dX10_goOne_167 : decode cX10_goOne 167 = .ok (.aload_n 0, 1) := by decide +kernel
theorem dX10_goOne_168 : decode cX10_goOne 168 = .ok (.getfield 45, 3) := by decide +kernel
theorem dX10_goOne_171 : decode cX10_goOne 171 = .ok (.iload_n 1, 1) := by decide +kernel
theorem dX10_goOne_172 : decode cX10_goOne 172 = .ok (.iaload, 1) := by decide +kernel
theorem dX10_goOne_173 : decode cX10_goOne 173 = .ok (.aload_n 0, 1) := by decide +kernel
theorem dX10_goOne_174 : decode cX10_goOne 174 = .ok (.getfield 293, 3) := by decide +kernel
theorem dX10_goOne_177 : decode cX10_goOne 177 = .ok (.invokestatic 125, 3) := by decide +kernel
theorem dX10_goOne_180 : decode cX10_goOne 180 = .ok (.iastore, 1) := by decide +kernel
theorem dX10_goOne_181 : decode cX10_goOne 181 = .ok (.aload_n 0, 1) := by decide +kernel
theorem dX10_goOne_182 : decode cX10_goOne 182 = .ok (.getfield 63, 3) := by decide +kernel
theorem dX10_goOne_185 : decode cX10_goOne 185 = .ok (.iload_n 1, 1) := by decide +kernel
theorem dX10_goOne_186 : decode cX10_goOne 186 = .ok (.aload_n 0, 1) := by decide +kernel
theorem dX10_goOne_187 : decode cX10_goOne 187 = .ok (.getfield 60, 3) := by decide +kernel
theorem dX10_goOne_190 : decode cX10_goOne 190 = .ok (.iload_n 1, 1) := by decide +kernel
theorem dX10_goOne_191 : decode cX10_goOne 191 = .ok (.iaload, 1) := by decide +kernel
theorem dX10_goOne_192 : decode cX10_goOne 192 = .ok (.aload_n 0, 1) := by decide +kernel
theorem dX10_goOne_193 : decode cX10_goOne 193 = .ok (.getfield 57, 3) := by decide +kernel
theorem dX10_goOne_196 : decode cX10_goOne 196 = .ok (.iload_n 1, 1) := by decide +kernel
theorem dX10_goOne_197 : decode cX10_goOne 197 = .ok (.iaload, 1) := by decide +kernel
theorem dX10_goOne_198 : decode cX10_goOne 198 = .ok (.iadd, 1) := by decide +kernel
theorem dX10_goOne_199 : decode cX10_goOne 199 = .ok (.iastore, 1) := by decide +kernel
theorem dX10_goOne_200 : decode cX10_goOne 200 = .ok (.aload_n 0, 1) := by decide +kernel
theorem dX10_goOne_201 : decode cX10_goOne 201 = .ok (.aload_n 0, 1) := by decide +kernel
theorem dX10_goOne_202 : decode cX10_goOne 202 = .ok (.getfield 63, 3) := by decide +kernel
theorem dX10_goOne_205 : decode cX10_goOne 205 = .ok (.iload_n 1, 1) := by decide +kernel
theorem dX10_goOne_206 : decode cX10_goOne 206 = .ok (.iaload, 1) := by decide +kernel
theorem dX10_goOne_207 : decode cX10_goOne 207 = .ok (.putfield 293, 3) := by decide +kernel
theorem dX10_goOne_210 : decode cX10_goOne 210 = .ok (.aload_n 0, 1) := by decide +kernel
theorem dX10_goOne_211 : decode cX10_goOne 211 = .ok (.dup, 1) := by decide +kernel
theorem dX10_goOne_212 : decode cX10_goOne 212 = .ok (.getfield 296, 3) := by decide +kernel
theorem dX10_goOne_215 : decode cX10_goOne 215 = .ok (.aload_n 0, 1) := by decide +kernel
theorem dX10_goOne_216 : decode cX10_goOne 216 = .ok (.getfield 57, 3) := by decide +kernel
theorem dX10_goOne_219 : decode cX10_goOne 219 = .ok (.iload_n 1, 1) := by decide +kernel
theorem dX10_goOne_220 : decode cX10_goOne 220 = .ok (.iaload, 1) := by decide +kernel
theorem dX10_goOne_221 : decode cX10_goOne 221 = .ok (.iadd, 1) := by decide +kernel
theorem dX10_goOne_222 : decode cX10_goOne 222 = .ok (.putfield 296, 3) := by decide +kernel
theorem dX10_goOne_225 : decode cX10_goOne 225 = .ok (.return_, 1) := by decide +kernel
theorem dX10_turnOver_0 : decode cX10_turnOver 0 = .ok (.iconst 0, 1) := by decide +kernel
theorem dX10_turnOver_1 : decode cX10_turnOver 1 = .ok (.istore_n 1, 1) := by decide +kernel
theorem dX10_turnOver_2 : decode cX10_turnOver 2 = .ok (.iload_n 1, 1) := by decide +kernel
theorem dX10_turnOver_3 : decode cX10_turnOver 3 = .ok (.aload_n 0, 1) := by decide +kernel
theorem dX10_turnOver_4 : decode cX10_turnOver 4 = .ok (.getfield 19, 3) := by decide +kernel
theorem dX10_turnOver_7 : decode cX10_turnOver 7 = .ok (.if_icmp .ge 118, 3) := by decide +kernel
theorem dX10_turnOver_10 : decode cX10_turnOver 10 = .ok (.bipush 10, 2) := by decide +kernel
theorem dX10_turnOver_12 : decode cX10_turnOver 12 = .ok (.iload_n 1, 1) := by decide +kernel
theorem dX10_turnOver_13 : decode cX10_turnOver 13 = .ok (.imul, 1) := by decide +kernel
theorem dX10_turnOver_14 : decode cX10_turnOver 14 = .ok (.istore_n 2, 1) := by decide +kernel
theorem dX10_turnOver_15 : decode cX10_turnOver 15 = .ok (.iconst 0, 1) := by decide +kernel
theorem dX10_turnOver_16 : decode cX10_turnOver 16 = .ok (.istore_n 3, 1) := by decide +kernel
theorem dX10_turnOver_17 : decode cX10_turnOver 17 = .ok (.iload_n 3, 1) := by decide +kernel
theorem dX10_turnOver_18 : decode cX10_turnOver 18 = .ok (.aload_n 0, 1) := by decide +kernel
theorem dX10_turnOver_19 : decode cX10_turnOver 19 = .ok (.getfield 51, 3) := by decide +kernel
theorem dX10_turnOver_22 : decode cX10_turnOver 22 = .ok (.iload_n 1, 1) := by decide +kernel
theorem dX10_turnOver_23 : decode cX10_turnOver 23 = .ok (.iaload, 1) := by decide +kernel
theorem dX10_turnOver_24 : decode cX10_turnOver 24 = .ok (.if_icmp .ge 30, 3) := by decide +kernel
theorem dX10_turnOver_27 : decode cX10_turnOver 27 = .ok (.aload_n 0, 1) := by decide +kernel
theorem dX10_turnOver_28 : decode cX10_turnOver 28 = .ok (.dup, 1) := by decide +kernel
theorem dX10_turnOver_29 : decode cX10_turnOver 29 = .ok (.getfield 296, 3) := by decide +kernel
theorem dX10_turnOver_32 : decode cX10_turnOver 32 = .ok (.aload_n 0, 1) := by decide +kernel
theorem dX10_turnOver_33 : decode cX10_turnOver 33 = .ok (.aload_n 0, 1) := by decide +kernel
theorem dX10_turnOver_34 : decode cX10_turnOver 34 = .ok (.getfield 48, 3) := by decide +kernel
theorem dX10_turnOver_37 : decode cX10_turnOver 37 = .ok (.iload_n 2, 1) := by decide +kernel
theorem dX10_turnOver_38 : decode cX10_turnOver 38 = .ok (.iload_n 3, 1) := by decide +kernel
theorem dX10_turnOver_39 : decode cX10_turnOver 39 = .ok (.iadd, 1) := by decide +kernel
theorem dX10_turnOver_40 : decode cX10_turnOver 40 = .ok (.iaload, 1) := by decide +kernel
theorem dX10_turnOver_41 : decode cX10_turnOver 41 = .ok (.invokevirtual 216, 3) := by decide +kernel
theorem dX10_turnOver_44 : decode cX10_turnOver 44 = .ok (.iadd, 1) := by decide +kernel
theorem dX10_turnOver_45 : decode cX10_turnOver 45 = .ok (.putfield 296, 3) := by decide +kernel
theorem dX10_turnOver_48 : decode cX10_turnOver 48 = .ok (.iinc 3 1, 3) := by decide +kernel
theorem dX10_turnOver_51 : decode cX10_turnOver 51 = .ok (.goto (-34), 3) := by decide +kernel
theorem dX10_turnOver_54 : decode cX10_turnOver 54 = .ok (.iconst 0, 1) := by decide +kernel
theorem dX10_turnOver_55 : decode cX10_turnOver 55 = .ok (.istore_n 3, 1) := by decide +kernel
theorem dX10_turnOver_56 : decode cX10_turnOver 56 = .ok (.aload_n 0, 1) := by decide +kernel
theorem dX10_turnOver_57 : decode cX10_turnOver 57 = .ok (.getfield 51, 3) := by decide +kernel
theorem dX10_turnOver_60 : decode cX10_turnOver 60 = .ok (.iload_n 1, 1) := by decide +kernel
theorem dX10_turnOver_61 : decode cX10_turnOver 61 = .ok (.iaload, 1) := by decide +kernel
theorem dX10_turnOver_62 : decode cX10_turnOver 62 = .ok (.iconst 1, 1) := by decide +kernel
theorem dX10_turnOver_63 : decode cX10_turnOver 63 = .ok (.isub, 1) := by decide +kernel
theorem dX10_turnOver_64 : decode cX10_turnOver 64 = .ok (.istore 4, 2) := by decide +kernel
theorem dX10_turnOver_66 : decode cX10_turnOver 66 = .ok (.iload_n 3, 1) := by decide +kernel
theorem dX10_turnOver_67 : decode cX10_turnOver 67 = .ok (.iload 4, 2) := by decide +kernel
theorem dX10_turnOver_69 : decode cX10_turnOver 69 = .ok (.if_icmp .ge 50, 3) := by decide +kernel
theorem dX10_turnOver_72 : decode cX10_turnOver 72 = .ok (.aload_n 0, 1) := by decide +kernel
theorem dX10_turnOver_73 : decode cX10_turnOver 73 = .ok (.getfield 48, 3) := by decide +kernel
theorem dX10_turnOver_76 : decode cX10_turnOver 76 = .ok (.iload_n 2, 1) := by decide +kernel
theorem dX10_turnOver_77 : decode cX10_turnOver 77 = .ok (.iload_n 3, 1) := by decide +kernel
theorem dX10_turnOver_78 : decode cX10_turnOver 78 = .ok (.iadd, 1) := by decide +kernel
theorem dX10_turnOver_79 : decode cX10_turnOver 79 = .ok (.iaload, 1) := by decide +kernel
theorem dX10_turnOver_80 : decode cX10_turnOver 80 = .ok (.istore 5, 2) := by decide +kernel
theorem dX10_turnOver_82 : decode cX10_turnOver 82 = .ok (.aload_n 0, 1) := by decide +kernel
theorem dX10_turnOver_83 : decode cX10_turnOver 83 = .ok (.getfield 48, 3) := by decide +kernel
theorem dX10_turnOver_86 : decode cX10_turnOver 86 = .ok (.iload_n 2, 1) := by decide +kernel
theorem dX10_turnOver_87 : decode cX10_turnOver 87 = .ok (.iload_n 3, 1) := by decide +kernel
theorem dX10_turnOver_88 : decode cX10_turnOver 88 = .ok (.iadd, 1) := by decide +kernel
theorem dX10_turnOver_89 : decode cX10_turnOver 89 = .ok (.aload_n 0, 1) := by decide +kernel
theorem dX10_turnOver_90 : decode cX10_turnOver 90 = .ok (.getfield 48, 3) := by decide +kernel
theorem dX10_turnOver_93 : decode cX10_turnOver 93 = .ok (.iload_n 2, 1) := by decide +kernel
theorem dX10_turnOver_94 : decode cX10_turnOver 94 = .ok (.iload 4, 2) := by decide +kernel
theorem dX10_turnOver_96 : decode cX10_turnOver 96 = .ok (.iadd, 1) := by decide +kernel
theorem dX10_turnOver_97 : decode cX10_turnOver 97 = .ok (.iaload, 1) := by decide +kernel
theorem dX10_turnOver_98 : decode cX10_turnOver 98 = .ok (.iastore, 1) := by decide +kernel
theorem dX10_turnOver_99 : decode cX10_turnOver 99 = .ok (.aload_n 0, 1) := by decide +kernel
theorem dX10_turnOver_100 : decode cX10_turnOver 100 = .ok (.getfield 48, 3) := by decide +kernel
theorem dX10_turnOver_103 : decode cX10_turnOver 103 = .ok (.iload_n 2, 1) := by decide +kernel
theorem dX10_turnOver_104 : decode cX10_turnOver 104 = .ok (.iload 4, 2) := by decide +kernel
theorem dX10_turnOver_106 : decode cX10_turnOver 106 = .ok (.iadd, 1) := by decide +kernel
theorem dX10_turnOver_107 : decode cX10_turnOver 107 = .ok (.iload 5, 2) := by decide +kernel
theorem dX10_turnOver_109 : decode cX10_turnOver 109 = .ok (.iastore, 1) := by decide +kernel
theorem dX10_turnOver_110 : decode cX10_turnOver 110 = .ok (.iinc 3 1, 3) := by decide +kernel
theorem dX10_turnOver_113 : decode cX10_turnOver 113 = .ok (.iinc 4 (-1), 3) := by decide +kernel
theorem dX10_turnOver_116 : decode cX10_turnOver 116 = .ok (.goto (-50), 3) := by decide +kernel
theorem dX10_turnOver_119 : decode cX10_turnOver 119 = .ok (.iinc 1 1, 3) := by decide +kernel
theorem dX10_turnOver_122 : decode cX10_turnOver 122 = .ok (.goto (-120), 3) := by decide +kernel
theorem dX10_turnOver_125 : decode cX10_turnOver 125 = .ok (.return_, 1) := by decide +kernel
theorem dX10_go_0 : decode cX10_go 0 = .ok (.aload_n 0, 1) := by decide +kernel
theorem dX10_go_1 : decode cX10_go 1 = .ok (.iconst 0, 1) := by decide +kernel
theorem dX10_go_2 : decode cX10_go 2 = .ok (.putfield 296, 3) := by decide +kernel
theorem dX10_go_5 : decode cX10_go 5 = .ok (.aload_n 0, 1) := by decide +kernel
theorem dX10_go_6 : decode cX10_go 6 = .ok (.iconst 0, 1) := by decide +kernel
theorem dX10_go_7 : decode cX10_go 7 = .ok (.putfield 293, 3) := by decide +kernel
theorem dX10_go_10 : decode cX10_go 10 = .ok (.iconst 0, 1) := by decide +kernel
theorem dX10_go_11 : decode cX10_go 11 = .ok (.istore_n 3, 1) := by decide +kernel
theorem dX10_go_12 : decode cX10_go 12 = .ok (.iconst 0, 1) := by decide +kernel
theorem dX10_go_13 : decode cX10_go 13 = .ok (.istore 4, 2) := by decide +kernel
theorem dX10_go_15 : decode cX10_go 15 = .ok (.iload 4, 2) := by decide +kernel
theorem dX10_go_17 : decode cX10_go 17 = .ok (.aload_n 0, 1) := by decide +kernel
theorem dX10_go_18 : decode cX10_go 18 = .ok (.getfield 118, 3) := by decide +kernel
theorem dX10_go_21 : decode cX10_go 21 = .ok (.if_icmp .ge 25, 3) := by decide +kernel
theorem dX10_go_24 : decode cX10_go 24 = .ok (.aload_n 0, 1) := by decide +kernel
theorem dX10_go_25 : decode cX10_go 25 = .ok (.getfield 69, 3) := by decide +kernel
theorem dX10_go_28 : decode cX10_go 28 = .ok (.iload 4, 2) := by decide +kernel
theorem dX10_go_30 : decode cX10_go 30 = .ok (.iconst 0, 1) := by decide +kernel
theorem dX10_go_31 : decode cX10_go 31 = .ok (.iastore, 1) := by decide +kernel
theorem dX10_go_32 : decode cX10_go 32 = .ok (.aload_n 0, 1) := by decide +kernel
theorem dX10_go_33 : decode cX10_go 33 = .ok (.getfield 72, 3) := by decide +kernel
theorem dX10_go_36 : decode cX10_go 36 = .ok (.iload 4, 2) := by decide +kernel
theorem dX10_go_38 : decode cX10_go 38 = .ok (.iconst 0, 1) := by decide +kernel
theorem dX10_go_39 : decode cX10_go 39 = .ok (.bastore, 1) := by decide +kernel
theorem dX10_go_40 : decode cX10_go 40 = .ok (.iinc 4 1, 3) := by decide +kernel
theorem dX10_go_43 : decode cX10_go 43 = .ok (.goto (-28), 3) := by decide +kernel
theorem dX10_go_46 : decode cX10_go 46 = .ok (.iconst 0, 1) := by decide +kernel
theorem dX10_go_47 : decode cX10_go 47 = .ok (.istore 4, 2) := by decide +kernel
theorem dX10_go_49 : decode cX10_go 49 = .ok (.iload 4, 2) := by decide +kernel
theorem dX10_go_51 : decode cX10_go 51 = .ok (.iload_n 1, 1) := by decide +kernel
theorem dX10_go_52 : decode cX10_go 52 = .ok (.if_icmp .ge 46, 3) := by decide +kernel
theorem dX10_go_55 : decode cX10_go 55 = .ok (.iload_n 3, 1) := by decide +kernel
theorem dX10_go_56 : decode cX10_go 56 = .ok (.ifCond .ne 25, 3) := by decide +kernel
theorem dX10_go_59 : decode cX10_go 59 = .ok (.aload_n 0, 1) := by decide +kernel
theorem dX10_go_60 : decode cX10_go 60 = .ok (.getfield 45, 3) := by decide +kernel
theorem dX10_go_63 : decode cX10_go 63 = .ok (.aload_n 0, 1) := by decide +kernel
theorem dX10_go_64 : decode cX10_go 64 = .ok (.getfield 42, 3) := by decide +kernel
theorem dX10_go_67 : decode cX10_go 67 = .ok (.iload 4, 2) := by decide +kernel
theorem dX10_go_69 : decode cX10_go 69 = .ok (.iaload, 1) := by decide +kernel
theorem dX10_go_70 : decode cX10_go 70 = .ok (.iaload, 1) := by decide +kernel
theorem dX10_go_71 : decode cX10_go 71 = .ok (.iload_n 2, 1) := by decide +kernel
theorem dX10_go_72 : decode cX10_go 72 = .ok (.if_icmp .lt 9, 3) := by decide +kernel
theorem dX10_go_75 : decode cX10_go 75 = .ok (.aload_n 0, 1) := by decide +kernel
theorem dX10_go_76 : decode cX10_go 76 = .ok (.invokevirtual 299, 3) := by decide +kernel
theorem dX10_go_79 : decode cX10_go 79 = .ok (.iconst 1, 1) := by decide +kernel
theorem dX10_go_80 : decode cX10_go 80 = .ok (.istore_n 3, 1) := by decide +kernel
theorem dX10_go_81 : decode cX10_go 81 = .ok (.aload_n 0, 1) := by decide +kernel
theorem dX10_go_82 : decode cX10_go 82 = .ok (.aload_n 0, 1) := by decide +kernel
theorem dX10_go_83 : decode cX10_go 83 = .ok (.getfield 42, 3) := by decide +kernel
theorem dX10_go_86 : decode cX10_go 86 = .ok (.iload 4, 2) := by decide +kernel
theorem dX10_go_88 : decode cX10_go 88 = .ok (.iaload, 1) := by decide +kernel
theorem dX10_go_89 : decode cX10_go 89 = .ok (.invokevirtual 302, 3) := by decide +kernel
theorem dX10_go_92 : decode cX10_go 92 = .ok (.iinc 4 1, 3) := by decide +kernel
theorem dX10_go_95 : decode cX10_go 95 = .ok (.goto (-46), 3) := by decide +kernel
theorem dX10_go_98 : decode cX10_go 98 = .ok (.aload_n 0, 1) := by decide +kernel
theorem dX10_go_99 : decode cX10_go 99 = .ok (.getfield 296, 3) := by decide +kernel
theorem dX10_go_102 : decode cX10_go 102 = .ok (.ireturn, 1) := by decide +kernel
theorem dX10_layAndGo_0 : decode cX10_layAndGo 0 = .ok (.aload_n 0, 1) := by decide +kernel
theorem dX10_layAndGo_1 : decode cX10_layAndGo 1 = .ok (.invokevirtual 228, 3) := by decide +kernel
theorem dX10_layAndGo_4 : decode cX10_layAndGo 4 = .ok (.aload_n 0, 1) := by decide +kernel
theorem dX10_layAndGo_5 : decode cX10_layAndGo 5 = .ok (.aload_n 0, 1) := by decide +kernel
theorem dX10_layAndGo_6 : decode cX10_layAndGo 6 = .ok (.getfield 237, 3) := by decide +kernel
theorem dX10_layAndGo_9 : decode cX10_layAndGo 9 = .ok (.ldc_w 305, 3) := by decide +kernel
theorem dX10_layAndGo_12 : decode cX10_layAndGo 12 = .ok (.invokevirtual 306, 3) := by decide +kernel
theorem dX10_layAndGo_15 : decode cX10_layAndGo 15 = .ok (.ireturn, 1) := by decide +kernel
theorem dX10_night_0 : decode cX10_night 0 = .ok (.aload_n 0, 1) := by decide +kernel
theorem dX10_night_1 : decode cX10_night 1 = .ok (.invokevirtual 225, 3) := by decide +kernel
theorem dX10_night_4 : decode cX10_night 4 = .ok (.aload_n 0, 1) := by decide +kernel
theorem dX10_night_5 : decode cX10_night 5 = .ok (.invokevirtual 309, 3) := by decide +kernel
theorem dX10_night_8 : decode cX10_night 8 = .ok (.ireturn, 1) := by decide +kernel
theorem dX10_heap_0 : decode cX10_heap 0 = .ok (.iload_n 1, 1) := by decide +kernel
theorem dX10_heap_1 : decode cX10_heap 1 = .ok (.iconst 0, 1) := by decide +kernel
theorem dX10_heap_2 : decode cX10_heap 2 = .ok (.iconst 2, 1) := by decide +kernel
theorem dX10_heap_3 : decode cX10_heap 3 = .ok (.invokestatic 121, 3) := by decide +kernel
theorem dX10_heap_6 : decode cX10_heap 6 = .ok (.ifCond .eq 8, 3) := by decide +kernel
theorem dX10_heap_9 : decode cX10_heap 9 = .ok (.iload_n 2, 1) := by decide +kernel
theorem dX10_heap_10 : decode cX10_heap 10 = .ok (.iconst (-1), 1) := by decide +kernel
theorem dX10_heap_11 : decode cX10_heap 11 = .ok (.if_icmp .ge 5, 3) := by decide +kernel
theorem dX10_heap_14 : decode cX10_heap 14 = .ok (.iconst (-1), 1) := by decide +kernel
theorem dX10_heap_15 : decode cX10_heap 15 = .ok (.ireturn, 1) := by decide +kernel
theorem dX10_heap_16 : decode cX10_heap 16 = .ok (.aload_n 0, 1) := by decide +kernel
theorem dX10_heap_17 : decode cX10_heap 17 = .ok (.invokevirtual 225, 3) := by decide +kernel
theorem dX10_heap_20 : decode cX10_heap 20 = .ok (.aload_n 0, 1) := by decide +kernel
theorem dX10_heap_21 : decode cX10_heap 21 = .ok (.invokevirtual 228, 3) := by decide +kernel
theorem dX10_heap_24 : decode cX10_heap 24 = .ok (.iload_n 2, 1) := by decide +kernel
theorem dX10_heap_25 : decode cX10_heap 25 = .ok (.iconst (-1), 1) := by decide +kernel
theorem dX10_heap_26 : decode cX10_heap 26 = .ok (.if_icmp .ne 12, 3) := by decide +kernel
theorem dX10_heap_29 : decode cX10_heap 29 = .ok (.aload_n 0, 1) := by decide +kernel
theorem dX10_heap_30 : decode cX10_heap 30 = .ok (.getfield 51, 3) := by decide +kernel
theorem dX10_heap_33 : decode cX10_heap 33 = .ok (.iload_n 1, 1) := by decide +kernel
theorem dX10_heap_34 : decode cX10_heap 34 = .ok (.iaload, 1) := by decide +kernel
theorem dX10_heap_35 : decode cX10_heap 35 = .ok (.goto 29, 3) := by decide +kernel
theorem dX10_heap_38 : decode cX10_heap 38 = .ok (.iload_n 2, 1) := by decide +kernel
theorem dX10_heap_39 : decode cX10_heap 39 = .ok (.aload_n 0, 1) := by decide +kernel
theorem dX10_heap_40 : decode cX10_heap 40 = .ok (.getfield 51, 3) := by decide +kernel
theorem dX10_heap_43 : decode cX10_heap 43 = .ok (.iload_n 1, 1) := by decide +kernel
theorem dX10_heap_44 : decode cX10_heap 44 = .ok (.iaload, 1) := by decide +kernel
theorem dX10_heap_45 : decode cX10_heap 45 = .ok (.if_icmp .ge 17, 3) := by decide +kernel
theorem dX10_heap_48 : decode cX10_heap 48 = .ok (.aload_n 0, 1) := by decide +kernel
theorem dX10_heap_49 : decode cX10_heap 49 = .ok (.getfield 48, 3) := by decide +kernel
theorem dX10_heap_52 : decode cX10_heap 52 = .ok (.bipush 10, 2) := by decide +kernel
theorem dX10_heap_54 : decode cX10_heap 54 = .ok (.iload_n 1, 1) := by decide +kernel
theorem dX10_heap_55 : decode cX10_heap 55 = .ok (.imul, 1) := by decide +kernel
theorem dX10_heap_56 : decode cX10_heap 56 = .ok (.iload_n 2, 1) := by decide +kernel
theorem dX10_heap_57 : decode cX10_heap 57 = .ok (.iadd, 1) := by decide +kernel
theorem dX10_heap_58 : decode cX10_heap 58 = .ok (.iaload, 1) := by decide +kernel
theorem dX10_heap_59 : decode cX10_heap 59 = .ok (.goto 5, 3) := by decide +kernel
theorem dX10_heap_62 : decode cX10_heap 62 = .ok (.bipush (-4), 2) := by decide +kernel
theorem dX10_heap_64 : decode cX10_heap 64 = .ok (.ireturn, 1) := by decide +kernel
theorem dX10_above_0 : decode cX10_above 0 = .ok (.aload_n 0, 1) := by decide +kernel
theorem dX10_above_1 : decode cX10_above 1 = .ok (.iload_n 1, 1) := by decide +kernel
theorem dX10_above_2 : decode cX10_above 2 = .ok (.invokevirtual 176, 3) := by decide +kernel
theorem dX10_above_5 : decode cX10_above 5 = .ok (.ifCond .ne 5, 3) := by decide +kernel
theorem dX10_above_8 : decode cX10_above 8 = .ok (.iconst (-1), 1) := by decide +kernel
theorem dX10_above_9 : decode cX10_above 9 = .ok (.ireturn, 1) := by decide +kernel
theorem dX10_above_10 : decode cX10_above 10 = .ok (.aload_n 0, 1) := by decide +kernel
theorem dX10_above_11 : decode cX10_above 11 = .ok (.invokevirtual 225, 3) := by decide +kernel
theorem dX10_above_14 : decode cX10_above 14 = .ok (.aload_n 0, 1) := by decide +kernel
theorem dX10_above_15 : decode cX10_above 15 = .ok (.invokevirtual 228, 3) := by decide +kernel
theorem dX10_above_18 : decode cX10_above 18 = .ok (.aload_n 0, 1) := by decide +kernel
theorem dX10_above_19 : decode cX10_above 19 = .ok (.getfield 54, 3) := by decide +kernel
theorem dX10_above_22 : decode cX10_above 22 = .ok (.iload_n 1, 1) := by decide +kernel
theorem dX10_above_23 : decode cX10_above 23 = .ok (.iaload, 1) := by decide +kernel
theorem dX10_above_24 : decode cX10_above 24 = .ok (.istore_n 2, 1) := by decide +kernel
theorem dX10_above_25 : decode cX10_above 25 = .ok (.iload_n 2, 1) := by decide +kernel
theorem dX10_above_26 : decode cX10_above 26 = .ok (.iconst 0, 1) := by decide +kernel
theorem dX10_above_27 : decode cX10_above 27 = .ok (.iconst 2, 1) := by decide +kernel
theorem dX10_above_28 : decode cX10_above 28 = .ok (.invokestatic 121, 3) := by decide +kernel
theorem dX10_above_31 : decode cX10_above 31 = .ok (.ifCond .eq 21, 3) := by decide +kernel
theorem dX10_above_34 : decode cX10_above 34 = .ok (.aload_n 0, 1) := by decide +kernel
theorem dX10_above_35 : decode cX10_above 35 = .ok (.getfield 51, 3) := by decide +kernel
theorem dX10_above_38 : decode cX10_above 38 = .ok (.iload_n 2, 1) := by decide +kernel
theorem dX10_above_39 : decode cX10_above 39 = .ok (.iaload, 1) := by decide +kernel
theorem dX10_above_40 : decode cX10_above 40 = .ok (.iconst 1, 1) := by decide +kernel
theorem dX10_above_41 : decode cX10_above 41 = .ok (.isub, 1) := by decide +kernel
theorem dX10_above_42 : decode cX10_above 42 = .ok (.aload_n 0, 1) := by decide +kernel
theorem dX10_above_43 : decode cX10_above 43 = .ok (.iload_n 1, 1) := by decide +kernel
theorem dX10_above_44 : decode cX10_above 44 = .ok (.iload_n 2, 1) := by decide +kernel
theorem dX10_above_45 : decode cX10_above 45 = .ok (.invokevirtual 290, 3) := by decide +kernel
theorem dX10_above_48 : decode cX10_above 48 = .ok (.isub, 1) := by decide +kernel
theorem dX10_above_49 : decode cX10_above 49 = .ok (.goto 4, 3) := by decide +kernel
theorem dX10_above_52 : decode cX10_above 52 = .ok (.iconst 0, 1) := by decide +kernel
theorem dX10_above_53 : decode cX10_above 53 = .ok (.ireturn, 1) := by decide +kernel
theorem dX10_fate_0 : decode cX10_fate 0 = .ok (.aload_n 0, 1) := by decide +kernel
theorem dX10_fate_1 : decode cX10_fate 1 = .ok (.iload_n 1, 1) := by decide +kernel
theorem dX10_fate_2 : decode cX10_fate 2 = .ok (.invokevirtual 176, 3) := by decide +kernel
theorem dX10_fate_5 : decode cX10_fate 5 = .ok (.ifCond .ne 5, 3) := by decide +kernel
theorem dX10_fate_8 : decode cX10_fate 8 = .ok (.iconst (-1), 1) := by decide +kernel
theorem dX10_fate_9 : decode cX10_fate 9 = .ok (.ireturn, 1) := by decide +kernel
theorem dX10_fate_10 : decode cX10_fate 10 = .ok (.aload_n 0, 1) := by decide +kernel
theorem dX10_fate_11 : decode cX10_fate 11 = .ok (.invokevirtual 312, 3) := by decide +kernel
theorem dX10_fate_14 : decode cX10_fate 14 = .ok (.pop, 1) := by decide +kernel
theorem dX10_fate_15 : decode cX10_fate 15 = .ok (.iload_n 2, 1) := by decide +kernel
theorem dX10_fate_16 : decode cX10_fate 16 = .ok (.tableswitch 95 0 5 #[40, 47, 54, 61, 68, 88], 40) := by decide +kernel
theorem dX10_fate_56 : decode cX10_fate 56 = .ok (.aload_n 0, 1) := by decide +kernel
theorem dX10_fate_57 : decode cX10_fate 57 = .ok (.getfield 57, 3) := by decide +kernel
theorem dX10_fate_60 : decode cX10_fate 60 = .ok (.iload_n 1, 1) := by decide +kernel
theorem dX10_fate_61 : decode cX10_fate 61 = .ok (.iaload, 1) := by decide +kernel
theorem dX10_fate_62 : decode cX10_fate 62 = .ok (.ireturn, 1) := by decide +kernel
theorem dX10_fate_63 : decode cX10_fate 63 = .ok (.aload_n 0, 1) := by decide +kernel
theorem dX10_fate_64 : decode cX10_fate 64 = .ok (.getfield 60, 3) := by decide +kernel
theorem dX10_fate_67 : decode cX10_fate 67 = .ok (.iload_n 1, 1) := by decide +kernel
theorem dX10_fate_68 : decode cX10_fate 68 = .ok (.iaload, 1) := by decide +kernel
theorem dX10_fate_69 : decode cX10_fate 69 = .ok (.ireturn, 1) := by decide +kernel
theorem dX10_fate_70 : decode cX10_fate 70 = .ok (.aload_n 0, 1) := by decide +kernel
theorem dX10_fate_71 : decode cX10_fate 71 = .ok (.getfield 63, 3) := by decide +kernel
theorem dX10_fate_74 : decode cX10_fate 74 = .ok (.iload_n 1, 1) := by decide +kernel
theorem dX10_fate_75 : decode cX10_fate 75 = .ok (.iaload, 1) := by decide +kernel
theorem dX10_fate_76 : decode cX10_fate 76 = .ok (.ireturn, 1) := by decide +kernel
theorem dX10_fate_77 : decode cX10_fate 77 = .ok (.aload_n 0, 1) := by decide +kernel
theorem dX10_fate_78 : decode cX10_fate 78 = .ok (.getfield 66, 3) := by decide +kernel
theorem dX10_fate_81 : decode cX10_fate 81 = .ok (.iload_n 1, 1) := by decide +kernel
theorem dX10_fate_82 : decode cX10_fate 82 = .ok (.iaload, 1) := by decide +kernel
theorem dX10_fate_83 : decode cX10_fate 83 = .ok (.ireturn, 1) := by decide +kernel
theorem dX10_fate_84 : decode cX10_fate 84 = .ok (.iconst 0, 1) := by decide +kernel
theorem dX10_fate_85 : decode cX10_fate 85 = .ok (.istore_n 3, 1) := by decide +kernel
theorem dX10_fate_86 : decode cX10_fate 86 = .ok (.aload_n 0, 1) := by decide +kernel
theorem dX10_fate_87 : decode cX10_fate 87 = .ok (.getfield 42, 3) := by decide +kernel
theorem dX10_fate_90 : decode cX10_fate 90 = .ok (.iload_n 3, 1) := by decide +kernel
theorem dX10_fate_91 : decode cX10_fate 91 = .ok (.iaload, 1) := by decide +kernel
theorem dX10_fate_92 : decode cX10_fate 92 = .ok (.iload_n 1, 1) := by decide +kernel
theorem dX10_fate_93 : decode cX10_fate 93 = .ok (.if_icmp .eq 9, 3) := by decide +kernel
theorem dX10_fate_96 : decode cX10_fate 96 = .ok (.iinc 3 1, 3) := by decide +kernel
theorem dX10_fate_99 : decode cX10_fate 99 = .ok (.goto (-13), 3) := by decide +kernel
theorem dX10_fate_102 : decode cX10_fate 102 = .ok (.iload_n 3, 1) := by decide +kernel
theorem dX10_fate_103 : decode cX10_fate 103 = .ok (.ireturn, 1) := by decide +kernel
theorem dX10_fate_104 : decode cX10_fate 104 = .ok (.aload_n 0, 1) := by decide +kernel
theorem dX10_fate_105 : decode cX10_fate 105 = .ok (.getfield 69, 3) := by decide +kernel
theorem dX10_fate_108 : decode cX10_fate 108 = .ok (.iload_n 1, 1) := by decide +kernel
theorem dX10_fate_109 : decode cX10_fate 109 = .ok (.iaload, 1) := by decide +kernel
theorem dX10_fate_110 : decode cX10_fate 110 = .ok (.ireturn, 1) := by decide +kernel
theorem dX10_fate_111 : decode cX10_fate 111 = .ok (.iconst (-1), 1) := by decide +kernel
theorem dX10_fate_112 : decode cX10_fate 112 = .ok (.ireturn, 1) := by decide +kernel
theorem dX10_misses_0 : decode cX10_misses 0 = .ok (.aload_n 0, 1) := by decide +kernel
theorem dX10_misses_1 : decode cX10_misses 1 = .ok (.getfield 63, 3) := by decide +kernel
theorem dX10_misses_4 : decode cX10_misses 4 = .ok (.iload_n 1, 1) := by decide +kernel
theorem dX10_misses_5 : decode cX10_misses 5 = .ok (.iaload, 1) := by decide +kernel
theorem dX10_misses_6 : decode cX10_misses 6 = .ok (.aload_n 0, 1) := by decide +kernel
theorem dX10_misses_7 : decode cX10_misses 7 = .ok (.getfield 45, 3) := by decide +kernel
theorem dX10_misses_10 : decode cX10_misses 10 = .ok (.iload_n 1, 1) := by decide +kernel
theorem dX10_misses_11 : decode cX10_misses 11 = .ok (.iaload, 1) := by decide +kernel
theorem dX10_misses_12 : decode cX10_misses 12 = .ok (.aload_n 0, 1) := by decide +kernel
theorem dX10_misses_13 : decode cX10_misses 13 = .ok (.iload_n 1, 1) := by decide +kernel
theorem dX10_misses_14 : decode cX10_misses 14 = .ok (.invokevirtual 222, 3) := by decide +kernel
theorem dX10_misses_17 : decode cX10_misses 17 = .ok (.iadd, 1) := by decide +kernel
theorem dX10_misses_18 : decode cX10_misses 18 = .ok (.if_icmp .le 7, 3) := by decide +kernel
theorem dX10_misses_21 : decode cX10_misses 21 = .ok (.iconst 1, 1) := by decide +kernel
theorem dX10_misses_22 : decode cX10_misses 22 = .ok (.goto 4, 3) := by decide +kernel
theorem dX10_misses_25 : decode cX10_misses 25 = .ok (.iconst 0, 1) := by decide +kernel
theorem dX10_misses_26 : decode cX10_misses 26 = .ok (.ireturn, 1) := by decide +kernel
theorem dX10_sums_0 : decode cX10_sums 0 = .ok (.iload_n 1, 1) := by decide +kernel
theorem dX10_sums_1 : decode cX10_sums 1 = .ok (.iconst 0, 1) := by decide +kernel
theorem dX10_sums_2 : decode cX10_sums 2 = .ok (.iconst 5, 1) := by decide +kernel
theorem dX10_sums_3 : decode cX10_sums 3 = .ok (.invokestatic 121, 3) := by decide +kernel
theorem dX10_sums_6 : decode cX10_sums 6 = .ok (.ifCond .ne 5, 3) := by decide +kernel
theorem dX10_sums_9 : decode cX10_sums 9 = .ok (.iconst (-1), 1) := by decide +kernel
theorem dX10_sums_10 : decode cX10_sums 10 = .ok (.ireturn, 1) := by decide +kernel
theorem dX10_sums_11 : decode cX10_sums 11 = .ok (.aload_n 0, 1) := by decide +kernel
theorem dX10_sums_12 : decode cX10_sums 12 = .ok (.invokevirtual 312, 3) := by decide +kernel
theorem dX10_sums_15 : decode cX10_sums 15 = .ok (.istore_n 2, 1) := by decide +kernel
theorem dX10_sums_16 : decode cX10_sums 16 = .ok (.iconst 0, 1) := by decide +kernel
theorem dX10_sums_17 : decode cX10_sums 17 = .ok (.istore_n 3, 1) := by decide +kernel
theorem dX10_sums_18 : decode cX10_sums 18 = .ok (.iconst 0, 1) := by decide +kernel
theorem dX10_sums_19 : decode cX10_sums 19 = .ok (.istore 4, 2) := by decide +kernel
theorem dX10_sums_21 : decode cX10_sums 21 = .ok (.iconst 0, 1) := by decide +kernel
theorem dX10_sums_22 : decode cX10_sums 22 = .ok (.istore 5, 2) := by decide +kernel
theorem dX10_sums_24 : decode cX10_sums 24 = .ok (.iload 5, 2) := by decide +kernel
theorem dX10_sums_26 : decode cX10_sums 26 = .ok (.aload_n 0, 1) := by decide +kernel
theorem dX10_sums_27 : decode cX10_sums 27 = .ok (.getfield 118, 3) := by decide +kernel
theorem dX10_sums_30 : decode cX10_sums 30 = .ok (.if_icmp .ge 148, 3) := by decide +kernel
theorem dX10_sums_33 : decode cX10_sums 33 = .ok (.iload 4, 2) := by decide +kernel
theorem dX10_sums_35 : decode cX10_sums 35 = .ok (.aload_n 0, 1) := by decide +kernel
theorem dX10_sums_36 : decode cX10_sums 36 = .ok (.getfield 63, 3) := by decide +kernel
theorem dX10_sums_39 : decode cX10_sums 39 = .ok (.iload 5, 2) := by decide +kernel
theorem dX10_sums_41 : decode cX10_sums 41 = .ok (.iaload, 1) := by decide +kernel
theorem dX10_sums_42 : decode cX10_sums 42 = .ok (.invokestatic 125, 3) := by decide +kernel
theorem dX10_sums_45 : decode cX10_sums 45 = .ok (.istore 4, 2) := by decide +kernel
theorem dX10_sums_47 : decode cX10_sums 47 = .ok (.iload_n 1, 1) := by decide +kernel
theorem dX10_sums_48 : decode cX10_sums 48 = .ok (.tableswitch 107 1 3 #[28, 49, 84], 28) := by decide +kernel
theorem dX10_sums_76 : decode cX10_sums 76 = .ok (.iload_n 3, 1) := by decide +kernel
theorem dX10_sums_77 : decode cX10_sums 77 = .ok (.aload_n 0, 1) := by decide +kernel
theorem dX10_sums_78 : decode cX10_sums 78 = .ok (.getfield 60, 3) := by decide +kernel
theorem dX10_sums_81 : decode cX10_sums 81 = .ok (.iload 5, 2) := by decide +kernel
theorem dX10_sums_83 : decode cX10_sums 83 = .ok (.iaload, 1) := by decide +kernel
theorem dX10_sums_84 : decode cX10_sums 84 = .ok (.aload_n 0, 1) := by decide +kernel
theorem dX10_sums_85 : decode cX10_sums 85 = .ok (.getfield 45, 3) := by decide +kernel
theorem dX10_sums_88 : decode cX10_sums 88 = .ok (.iload 5, 2) := by decide +kernel
theorem dX10_sums_90 : decode cX10_sums 90 = .ok (.iaload, 1) := by decide +kernel
theorem dX10_sums_91 : decode cX10_sums 91 = .ok (.isub, 1) := by decide +kernel
theorem dX10_sums_92 : decode cX10_sums 92 = .ok (.iadd, 1) := by decide +kernel
theorem dX10_sums_93 : decode cX10_sums 93 = .ok (.istore_n 3, 1) := by decide +kernel
theorem dX10_sums_94 : decode cX10_sums 94 = .ok (.goto 78, 3) := by decide +kernel
theorem dX10_sums_97 : decode cX10_sums 97 = .ok (.iload_n 3, 1) := by decide +kernel
theorem dX10_sums_98 : decode cX10_sums 98 = .ok (.aload_n 0, 1) := by decide +kernel
theorem dX10_sums_99 : decode cX10_sums 99 = .ok (.getfield 66, 3) := by decide +kernel
theorem dX10_sums_102 : decode cX10_sums 102 = .ok (.iload 5, 2) := by decide +kernel
theorem dX10_sums_104 : decode cX10_sums 104 = .ok (.iaload, 1) := by decide +kernel
theorem dX10_sums_105 : decode cX10_sums 105 = .ok (.bipush (-4), 2) := by decide +kernel
theorem dX10_sums_107 : decode cX10_sums 107 = .ok (.if_icmp .eq 19, 3) := by decide +kernel
theorem dX10_sums_110 : decode cX10_sums 110 = .ok (.aload_n 0, 1) := by decide +kernel
theorem dX10_sums_111 : decode cX10_sums 111 = .ok (.getfield 66, 3) := by decide +kernel
theorem dX10_sums_114 : decode cX10_sums 114 = .ok (.iload 5, 2) := by decide +kernel
theorem dX10_sums_116 : decode cX10_sums 116 = .ok (.iaload, 1) := by decide +kernel
theorem dX10_sums_117 : decode cX10_sums 117 = .ok (.iload 5, 2) := by decide +kernel
theorem dX10_sums_119 : decode cX10_sums 119 = .ok (.if_icmp .eq 7, 3) := by decide +kernel
theorem dX10_sums_122 : decode cX10_sums 122 = .ok (.iconst 1, 1) := by decide +kernel
theorem dX10_sums_123 : decode cX10_sums 123 = .ok (.goto 4, 3) := by decide +kernel
theorem dX10_sums_126 : decode cX10_sums 126 = .ok (.iconst 0, 1) := by decide +kernel
theorem dX10_sums_127 : decode cX10_sums 127 = .ok (.iadd, 1) := by decide +kernel
theorem dX10_sums_128 : decode cX10_sums 128 = .ok (.istore_n 3, 1) := by decide +kernel
theorem dX10_sums_129 : decode cX10_sums 129 = .ok (.goto 43, 3) := by decide +kernel
theorem dX10_sums_132 : decode cX10_sums 132 = .ok (.iload_n 3, 1) := by decide +kernel
theorem dX10_sums_133 : decode cX10_sums 133 = .ok (.aload_n 0, 1) := by decide +kernel
theorem dX10_sums_134 : decode cX10_sums 134 = .ok (.getfield 66, 3) := by decide +kernel
theorem dX10_sums_137 : decode cX10_sums 137 = .ok (.iload 5, 2) := by decide +kernel
theorem dX10_sums_139 : decode cX10_sums 139 = .ok (.iaload, 1) := by decide +kernel
theorem dX10_sums_140 : decode cX10_sums 140 = .ok (.bipush (-4), 2) := by decide +kernel
theorem dX10_sums_142 : decode cX10_sums 142 = .ok (.if_icmp .ne 7, 3) := by decide +kernel
theorem dX10_sums_145 : decode cX10_sums 145 = .ok (.iconst 1, 1) := by decide +kernel
theorem dX10_sums_146 : decode cX10_sums 146 = .ok (.goto 4, 3) := by decide +kernel
theorem dX10_sums_149 : decode cX10_sums 149 = .ok (.iconst 0, 1) := by decide +kernel
theorem dX10_sums_150 : decode cX10_sums 150 = .ok (.iadd, 1) := by decide +kernel
theorem dX10_sums_151 : decode cX10_sums 151 = .ok (.istore_n 3, 1) := by decide +kernel
theorem dX10_sums_152 : decode cX10_sums 152 = .ok (.goto 20, 3) := by decide +kernel
theorem dX10_sums_155 : decode cX10_sums 155 = .ok (.iload_n 3, 1) := by decide +kernel
theorem dX10_sums_156 : decode cX10_sums 156 = .ok (.aload_n 0, 1) := by decide +kernel
theorem dX10_sums_157 : decode cX10_sums 157 = .ok (.iload 5, 2) := by decide +kernel
theorem dX10_sums_159 : decode cX10_sums 159 = .ok (.invokevirtual 315, 3) := by decide +kernel
theorem dX10_sums_162 : decode cX10_sums 162 = .ok (.ifCond .eq 7, 3) := by decide +kernel
theorem dX10_sums_165 : decode cX10_sums 165 = .ok (.iconst 1, 1) := by decide +kernel
theorem dX10_sums_166 : decode cX10_sums 166 = .ok (.goto 4, 3) := by decide +kernel
theorem dX10_sums_169 : decode cX10_sums 169 = .ok (.iconst 0, 1) := by decide +kernel
theorem dX10_sums_170 : decode cX10_sums 170 = .ok (.iadd, 1) := by decide +kernel
theorem dX10_sums_171 : decode cX10_sums 171 = .ok (.istore_n 3, 1) := by decide +kernel
theorem dX10_sums_172 : decode cX10_sums 172 = .ok (.iinc 5 1, 3) := by decide +kernel
theorem dX10_sums_175 : decode cX10_sums 175 = .ok (.goto (-151), 3) := by decide +kernel
theorem dX10_sums_178 : decode cX10_sums 178 = .ok (.iload_n 1, 1) := by decide +kernel
theorem dX10_sums_179 : decode cX10_sums 179 = .ok (.ifCond .ne 7, 3) := by decide +kernel
theorem dX10_sums_182 : decode cX10_sums 182 = .ok (.iload_n 2, 1) := by decide +kernel
theorem dX10_sums_183 : decode cX10_sums 183 = .ok (.goto 14, 3) := by decide +kernel
theorem dX10_sums_186 : decode cX10_sums 186 = .ok (.iload_n 1, 1) := by decide +kernel
theorem dX10_sums_187 : decode cX10_sums 187 = .ok (.iconst 4, 1) := by decide +kernel
theorem dX10_sums_188 : decode cX10_sums 188 = .ok (.if_icmp .ne 8, 3) := by decide +kernel
theorem dX10_sums_191 : decode cX10_sums 191 = .ok (.iload 4, 2) := by decide +kernel
theorem dX10_sums_193 : decode cX10_sums 193 = .ok (.goto 4, 3) := by decide +kernel
theorem dX10_sums_196 : decode cX10_sums 196 = .ok (.iload_n 3, 1) := by decide +kernel
theorem dX10_sums_197 : decode cX10_sums 197 = .ok (.ireturn, 1) := by decide +kernel
theorem dX10_missing_0 : decode cX10_missing 0 = .ok (.aload_n 0, 1) := by decide +kernel
theorem dX10_missing_1 : decode cX10_missing 1 = .ok (.invokevirtual 312, 3) := by decide +kernel
theorem dX10_missing_4 : decode cX10_missing 4 = .ok (.pop, 1) := by decide +kernel
theorem dX10_missing_5 : decode cX10_missing 5 = .ok (.iconst 0, 1) := by decide +kernel
theorem dX10_missing_6 : decode cX10_missing 6 = .ok (.istore_n 1, 1) := by decide +kernel
theorem dX10_missing_7 : decode cX10_missing 7 = .ok (.iconst 0, 1) := by decide +kernel
theorem dX10_missing_8 : decode cX10_missing 8 = .ok (.istore_n 2, 1) := by decide +kernel
theorem dX10_missing_9 : decode cX10_missing 9 = .ok (.iload_n 2, 1) := by decide +kernel
theorem dX10_missing_10 : decode cX10_missing 10 = .ok (.aload_n 0, 1) := by decide +kernel
theorem dX10_missing_11 : decode cX10_missing 11 = .ok (.getfield 118, 3) := by decide +kernel
theorem dX10_missing_14 : decode cX10_missing 14 = .ok (.if_icmp .ge 27, 3) := by decide +kernel
theorem dX10_missing_17 : decode cX10_missing 17 = .ok (.iload_n 1, 1) := by decide +kernel
theorem dX10_missing_18 : decode cX10_missing 18 = .ok (.aload_n 0, 1) := by decide +kernel
theorem dX10_missing_19 : decode cX10_missing 19 = .ok (.iload_n 2, 1) := by decide +kernel
theorem dX10_missing_20 : decode cX10_missing 20 = .ok (.invokevirtual 315, 3) := by decide +kernel
theorem dX10_missing_23 : decode cX10_missing 23 = .ok (.ifCond .eq 9, 3) := by decide +kernel
theorem dX10_missing_26 : decode cX10_missing 26 = .ok (.iconst 1, 1) := by decide +kernel
theorem dX10_missing_27 : decode cX10_missing 27 = .ok (.iload_n 2, 1) := by decide +kernel
theorem dX10_missing_28 : decode cX10_missing 28 = .ok (.ishl, 1) := by decide +kernel
theorem dX10_missing_29 : decode cX10_missing 29 = .ok (.goto 4, 3) := by decide +kernel
theorem dX10_missing_32 : decode cX10_missing 32 = .ok (.iconst 0, 1) := by decide +kernel
theorem dX10_missing_33 : decode cX10_missing 33 = .ok (.ior, 1) := by decide +kernel
theorem dX10_missing_34 : decode cX10_missing 34 = .ok (.istore_n 1, 1) := by decide +kernel
theorem dX10_missing_35 : decode cX10_missing 35 = .ok (.iinc 2 1, 3) := by decide +kernel
theorem dX10_missing_38 : decode cX10_missing 38 = .ok (.goto (-29), 3) := by decide +kernel
theorem dX10_missing_41 : decode cX10_missing 41 = .ok (.iload_n 1, 1) := by decide +kernel
theorem dX10_missing_42 : decode cX10_missing 42 = .ok (.ireturn, 1) := by decide +kernel
theorem dX10_then_0 : decode cX10_then 0 = .ok (.iload_n 1, 1) := by decide +kernel
theorem dX10_then_1 : decode cX10_then 1 = .ok (.iconst 0, 1) := by decide +kernel
theorem dX10_then_2 : decode cX10_then 2 = .ok (.aload_n 0, 1) := by decide +kernel
theorem dX10_then_3 : decode cX10_then 3 = .ok (.getfield 118, 3) := by decide +kernel
theorem dX10_then_6 : decode cX10_then 6 = .ok (.invokestatic 121, 3) := by decide +kernel
theorem dX10_then_9 : decode cX10_then 9 = .ok (.ifCond .eq 16, 3) := by decide +kernel
theorem dX10_then_12 : decode cX10_then 12 = .ok (.iload_n 2, 1) := by decide +kernel
theorem dX10_then_13 : decode cX10_then 13 = .ok (.iconst 0, 1) := by decide +kernel
theorem dX10_then_14 : decode cX10_then 14 = .ok (.iconst 2, 1) := by decide +kernel
theorem dX10_then_15 : decode cX10_then 15 = .ok (.invokestatic 121, 3) := by decide +kernel
theorem dX10_then_18 : decode cX10_then 18 = .ok (.ifCond .eq 7, 3) := by decide +kernel
theorem dX10_then_21 : decode cX10_then 21 = .ok (.iload_n 3, 1) := by decide +kernel
theorem dX10_then_22 : decode cX10_then 22 = .ok (.ifCond .ge 5, 3) := by decide +kernel
theorem dX10_then_25 : decode cX10_then 25 = .ok (.iconst (-1), 1) := by decide +kernel
theorem dX10_then_26 : decode cX10_then 26 = .ok (.ireturn, 1) := by decide +kernel
theorem dX10_then_27 : decode cX10_then 27 = .ok (.aload_n 0, 1) := by decide +kernel
theorem dX10_then_28 : decode cX10_then 28 = .ok (.invokevirtual 225, 3) := by decide +kernel
theorem dX10_then_31 : decode cX10_then 31 = .ok (.aload_n 0, 1) := by decide +kernel
theorem dX10_then_32 : decode cX10_then 32 = .ok (.invokevirtual 228, 3) := by decide +kernel
theorem dX10_then_35 : decode cX10_then 35 = .ok (.aload_n 0, 1) := by decide +kernel
theorem dX10_then_36 : decode cX10_then 36 = .ok (.iload_n 1, 1) := by decide +kernel
theorem dX10_then_37 : decode cX10_then 37 = .ok (.ldc_w 305, 3) := by decide +kernel
theorem dX10_then_40 : decode cX10_then 40 = .ok (.invokevirtual 306, 3) := by decide +kernel
theorem dX10_then_43 : decode cX10_then 43 = .ok (.pop, 1) := by decide +kernel
theorem dX10_then_44 : decode cX10_then 44 = .ok (.iload_n 3, 1) := by decide +kernel
theorem dX10_then_45 : decode cX10_then 45 = .ok (.aload_n 0, 1) := by decide +kernel
theorem dX10_then_46 : decode cX10_then 46 = .ok (.getfield 51, 3) := by decide +kernel
theorem dX10_then_49 : decode cX10_then 49 = .ok (.iload_n 2, 1) := by decide +kernel
theorem dX10_then_50 : decode cX10_then 50 = .ok (.iaload, 1) := by decide +kernel
theorem dX10_then_51 : decode cX10_then 51 = .ok (.if_icmp .ge 17, 3) := by decide +kernel
theorem dX10_then_54 : decode cX10_then 54 = .ok (.aload_n 0, 1) := by decide +kernel
theorem dX10_then_55 : decode cX10_then 55 = .ok (.getfield 48, 3) := by decide +kernel
theorem dX10_then_58 : decode cX10_then 58 = .ok (.bipush 10, 2) := by decide +kernel
theorem dX10_then_60 : decode cX10_then 60 = .ok (.iload_n 2, 1) := by decide +kernel
theorem dX10_then_61 : decode cX10_then 61 = .ok (.imul, 1) := by decide +kernel
theorem dX10_then_62 : decode cX10_then 62 = .ok (.iload_n 3, 1) := by decide +kernel
theorem dX10_then_63 : decode cX10_then 63 = .ok (.iadd, 1) := by decide +kernel
theorem dX10_then_64 : decode cX10_then 64 = .ok (.iaload, 1) := by decide +kernel
theorem dX10_then_65 : decode cX10_then 65 = .ok (.goto 5, 3) := by decide +kernel
theorem dX10_then_68 : decode cX10_then 68 = .ok (.bipush (-4), 2) := by decide +kernel
theorem dX10_then_70 : decode cX10_then 70 = .ok (.ireturn, 1) := by decide +kernel
theorem dX10_order_0 : decode cX10_order 0 = .ok (.iload_n 1, 1) := by decide +kernel
theorem dX10_order_1 : decode cX10_order 1 = .ok (.ifCond .ge 5, 3) := by decide +kernel
theorem dX10_order_4 : decode cX10_order 4 = .ok (.iconst (-1), 1) := by decide +kernel
theorem dX10_order_5 : decode cX10_order 5 = .ok (.ireturn, 1) := by decide +kernel
theorem dX10_order_6 : decode cX10_order 6 = .ok (.aload_n 0, 1) := by decide +kernel
theorem dX10_order_7 : decode cX10_order 7 = .ok (.invokevirtual 225, 3) := by decide +kernel
theorem dX10_order_10 : decode cX10_order 10 = .ok (.iload_n 1, 1) := by decide +kernel
theorem dX10_order_11 : decode cX10_order 11 = .ok (.aload_n 0, 1) := by decide +kernel
theorem dX10_order_12 : decode cX10_order 12 = .ok (.getfield 237, 3) := by decide +kernel
theorem dX10_order_15 : decode cX10_order 15 = .ok (.if_icmp .ge 12, 3) := by decide +kernel
theorem dX10_order_18 : decode cX10_order 18 = .ok (.aload_n 0, 1) := by decide +kernel
theorem dX10_order_19 : decode cX10_order 19 = .ok (.getfield 42, 3) := by decide +kernel
theorem dX10_order_22 : decode cX10_order 22 = .ok (.iload_n 1, 1) := by decide +kernel
theorem dX10_order_23 : decode cX10_order 23 = .ok (.iaload, 1) := by decide +kernel
theorem dX10_order_24 : decode cX10_order 24 = .ok (.goto 5, 3) := by decide +kernel
theorem dX10_order_27 : decode cX10_order 27 = .ok (.bipush (-4), 2) := by decide +kernel
theorem dX10_order_29 : decode cX10_order 29 = .ok (.ireturn, 1) := by decide +kernel
theorem dX10_chains_0 : decode cX10_chains 0 = .ok (.aload_n 0, 1) := by decide +kernel
theorem dX10_chains_1 : decode cX10_chains 1 = .ok (.invokevirtual 244, 3) := by decide +kernel
theorem dX10_chains_4 : decode cX10_chains 4 = .ok (.iconst 0, 1) := by decide +kernel
theorem dX10_chains_5 : decode cX10_chains 5 = .ok (.istore_n 1, 1) := by decide +kernel
theorem dX10_chains_6 : decode cX10_chains 6 = .ok (.aload_n 0, 1) := by decide +kernel
theorem dX10_chains_7 : decode cX10_chains 7 = .ok (.getfield 118, 3) := by decide +kernel
theorem dX10_chains_10 : decode cX10_chains 10 = .ok (.iconst 1, 1) := by decide +kernel
theorem dX10_chains_11 : decode cX10_chains 11 = .ok (.isub, 1) := by decide +kernel
theorem dX10_chains_12 : decode cX10_chains 12 = .ok (.istore_n 2, 1) := by decide +kernel
theorem dX10_chains_13 : decode cX10_chains 13 = .ok (.iload_n 2, 1) := by decide +kernel
theorem dX10_chains_14 : decode cX10_chains 14 = .ok (.ifCond .lt 92, 3) := by decide +kernel
theorem dX10_chains_17 : decode cX10_chains 17 = .ok (.aload_n 0, 1) := by decide +kernel
theorem dX10_chains_18 : decode cX10_chains 18 = .ok (.getfield 79, 3) := by decide +kernel
theorem dX10_chains_21 : decode cX10_chains 21 = .ok (.iload_n 2, 1) := by decide +kernel
theorem dX10_chains_22 : decode cX10_chains 22 = .ok (.iconst 1, 1) := by decide +kernel
theorem dX10_chains_23 : decode cX10_chains 23 = .ok (.iastore, 1) := by decide +kernel
theorem dX10_chains_24 : decode cX10_chains 24 = .ok (.iload_n 2, 1) := by decide +kernel
theorem dX10_chains_25 : decode cX10_chains 25 = .ok (.iconst 1, 1) := by decide +kernel
theorem dX10_chains_26 : decode cX10_chains 26 = .ok (.iadd, 1) := by decide +kernel
theorem dX10_chains_27 : decode cX10_chains 27 = .ok (.istore_n 3, 1) := by decide +kernel
theorem dX10_chains_28 : decode cX10_chains 28 = .ok (.iload_n 3, 1) := by decide +kernel
theorem dX10_chains_29 : decode cX10_chains 29 = .ok (.aload_n 0, 1) := by decide +kernel
theorem dX10_chains_30 : decode cX10_chains 30 = .ok (.getfield 118, 3) := by decide +kernel
theorem dX10_chains_33 : decode cX10_chains 33 = .ok (.if_icmp .ge 56, 3) := by decide +kernel
theorem dX10_chains_36 : decode cX10_chains 36 = .ok (.aload_n 0, 1) := by decide +kernel
theorem dX10_chains_37 : decode cX10_chains 37 = .ok (.getfield 79, 3) := by decide +kernel
theorem dX10_chains_40 : decode cX10_chains 40 = .ok (.iload_n 2, 1) := by decide +kernel
theorem dX10_chains_41 : decode cX10_chains 41 = .ok (.aload_n 0, 1) := by decide +kernel
theorem dX10_chains_42 : decode cX10_chains 42 = .ok (.getfield 45, 3) := by decide +kernel
theorem dX10_chains_45 : decode cX10_chains 45 = .ok (.iload_n 3, 1) := by decide +kernel
theorem dX10_chains_46 : decode cX10_chains 46 = .ok (.iaload, 1) := by decide +kernel
theorem dX10_chains_47 : decode cX10_chains 47 = .ok (.aload_n 0, 1) := by decide +kernel
theorem dX10_chains_48 : decode cX10_chains 48 = .ok (.getfield 45, 3) := by decide +kernel
theorem dX10_chains_51 : decode cX10_chains 51 = .ok (.iload_n 2, 1) := by decide +kernel
theorem dX10_chains_52 : decode cX10_chains 52 = .ok (.iaload, 1) := by decide +kernel
theorem dX10_chains_53 : decode cX10_chains 53 = .ok (.if_icmp .lt 23, 3) := by decide +kernel
theorem dX10_chains_56 : decode cX10_chains 56 = .ok (.aload_n 0, 1) := by decide +kernel
theorem dX10_chains_57 : decode cX10_chains 57 = .ok (.getfield 79, 3) := by decide +kernel
theorem dX10_chains_60 : decode cX10_chains 60 = .ok (.iload_n 2, 1) := by decide +kernel
theorem dX10_chains_61 : decode cX10_chains 61 = .ok (.iaload, 1) := by decide +kernel
theorem dX10_chains_62 : decode cX10_chains 62 = .ok (.aload_n 0, 1) := by decide +kernel
theorem dX10_chains_63 : decode cX10_chains 63 = .ok (.getfield 79, 3) := by decide +kernel
theorem dX10_chains_66 : decode cX10_chains 66 = .ok (.iload_n 3, 1) := by decide +kernel
theorem dX10_chains_67 : decode cX10_chains 67 = .ok (.iaload, 1) := by decide +kernel
theorem dX10_chains_68 : decode cX10_chains 68 = .ok (.iconst 1, 1) := by decide +kernel
theorem dX10_chains_69 : decode cX10_chains 69 = .ok (.iadd, 1) := by decide +kernel
theorem dX10_chains_70 : decode cX10_chains 70 = .ok (.invokestatic 125, 3) := by decide +kernel
theorem dX10_chains_73 : decode cX10_chains 73 = .ok (.goto 9, 3) := by decide +kernel
theorem dX10_chains_76 : decode cX10_chains 76 = .ok (.aload_n 0, 1) := by decide +kernel
theorem dX10_chains_77 : decode cX10_chains 77 = .ok (.getfield 79, 3) := by decide +kernel
theorem dX10_chains_80 : decode cX10_chains 80 = .ok (.iload_n 2, 1) := by decide +kernel
theorem dX10_chains_81 : decode cX10_chains 81 = .ok (.iaload, 1) := by decide +kernel
theorem dX10_chains_82 : decode cX10_chains 82 = .ok (.iastore, 1) := by decide +kernel
theorem dX10_chains_83 : decode cX10_chains 83 = .ok (.iinc 3 1, 3) := by decide +kernel
theorem dX10_chains_86 : decode cX10_chains 86 = .ok (.goto (-58), 3) := by decide +kernel
theorem dX10_chains_89 : decode cX10_chains 89 = .ok (.iload_n 1, 1) := by decide +kernel
theorem dX10_chains_90 : decode cX10_chains 90 = .ok (.aload_n 0, 1) := by decide +kernel
theorem dX10_chains_91 : decode cX10_chains 91 = .ok (.getfield 79, 3) := by decide +kernel
theorem dX10_chains_94 : decode cX10_chains 94 = .ok (.iload_n 2, 1) := by decide +kernel
theorem dX10_chains_95 : decode cX10_chains 95 = .ok (.iaload, 1) := by decide +kernel
theorem dX10_chains_96 : decode cX10_chains 96 = .ok (.invokestatic 125, 3) := by decide +kernel
theorem dX10_chains_99 : decode cX10_chains 99 = .ok (.istore_n 1, 1) := by decide +kernel
theorem dX10_chains_100 : decode cX10_chains 100 = .ok (.iinc 2 (-1), 3) := by decide +kernel
theorem dX10_chains_103 : decode cX10_chains 103 = .ok (.goto (-90), 3) := by decide +kernel
theorem dX10_chains_106 : decode cX10_chains 106 = .ok (.iload_n 1, 1) := by decide +kernel
theorem dX10_chains_107 : decode cX10_chains 107 = .ok (.ireturn, 1) := by decide +kernel
theorem dX10_fewest_0 : decode cX10_fewest 0 = .ok (.aload_n 0, 1) := by decide +kernel
theorem dX10_fewest_1 : decode cX10_fewest 1 = .ok (.invokevirtual 318, 3) := by decide +kernel
theorem dX10_fewest_4 : decode cX10_fewest 4 = .ok (.ireturn, 1) := by decide +kernel
theorem dX10_shown_0 : decode cX10_shown 0 = .ok (.iload_n 1, 1) := by decide +kernel
theorem dX10_shown_1 : decode cX10_shown 1 = .ok (.ifCond .ge 5, 3) := by decide +kernel
theorem dX10_shown_4 : decode cX10_shown 4 = .ok (.iconst (-1), 1) := by decide +kernel
theorem dX10_shown_5 : decode cX10_shown 5 = .ok (.ireturn, 1) := by decide +kernel
theorem dX10_shown_6 : decode cX10_shown 6 = .ok (.aload_n 0, 1) := by decide +kernel
theorem dX10_shown_7 : decode cX10_shown 7 = .ok (.invokevirtual 318, 3) := by decide +kernel
theorem dX10_shown_10 : decode cX10_shown 10 = .ok (.istore_n 2, 1) := by decide +kernel
theorem dX10_shown_11 : decode cX10_shown 11 = .ok (.iload_n 1, 1) := by decide +kernel
theorem dX10_shown_12 : decode cX10_shown 12 = .ok (.iload_n 2, 1) := by decide +kernel
theorem dX10_shown_13 : decode cX10_shown 13 = .ok (.if_icmp .lt 6, 3) := by decide +kernel
theorem dX10_shown_16 : decode cX10_shown 16 = .ok (.bipush (-4), 2) := by decide +kernel
theorem dX10_shown_18 : decode cX10_shown 18 = .ok (.ireturn, 1) := by decide +kernel
theorem dX10_shown_19 : decode cX10_shown 19 = .ok (.bipush (-4), 2) := by decide +kernel
theorem dX10_shown_21 : decode cX10_shown 21 = .ok (.istore_n 3, 1) := by decide +kernel
theorem dX10_shown_22 : decode cX10_shown 22 = .ok (.iconst 0, 1) := by decide +kernel
theorem dX10_shown_23 : decode cX10_shown 23 = .ok (.istore 4, 2) := by decide +kernel
theorem dX10_shown_25 : decode cX10_shown 25 = .ok (.iconst 0, 1) := by decide +kernel
theorem dX10_shown_26 : decode cX10_shown 26 = .ok (.istore 5, 2) := by decide +kernel
theorem dX10_shown_28 : decode cX10_shown 28 = .ok (.iload 5, 2) := by decide +kernel
theorem dX10_shown_30 : decode cX10_shown 30 = .ok (.aload_n 0, 1) := by decide +kernel
theorem dX10_shown_31 : decode cX10_shown 31 = .ok (.getfield 118, 3) := by decide +kernel
theorem dX10_shown_34 : decode cX10_shown 34 = .ok (.if_icmp .ge 60, 3) := by decide +kernel
theorem dX10_shown_37 : decode cX10_shown 37 = .ok (.aload_n 0, 1) := by decide +kernel
theorem dX10_shown_38 : decode cX10_shown 38 = .ok (.getfield 79, 3) := by decide +kernel
theorem dX10_shown_41 : decode cX10_shown 41 = .ok (.iload 5, 2) := by decide +kernel
theorem dX10_shown_43 : decode cX10_shown 43 = .ok (.iaload, 1) := by decide +kernel
theorem dX10_shown_44 : decode cX10_shown 44 = .ok (.iload_n 2, 1) := by decide +kernel
theorem dX10_shown_45 : decode cX10_shown 45 = .ok (.if_icmp .ne 43, 3) := by decide +kernel
theorem dX10_shown_48 : decode cX10_shown 48 = .ok (.iload_n 3, 1) := by decide +kernel
theorem dX10_shown_49 : decode cX10_shown 49 = .ok (.bipush (-4), 2) := by decide +kernel
theorem dX10_shown_51 : decode cX10_shown 51 = .ok (.if_icmp .eq 19, 3) := by decide +kernel
theorem dX10_shown_54 : decode cX10_shown 54 = .ok (.aload_n 0, 1) := by decide +kernel
theorem dX10_shown_55 : decode cX10_shown 55 = .ok (.getfield 45, 3) := by decide +kernel
theorem dX10_shown_58 : decode cX10_shown 58 = .ok (.iload 5, 2) := by decide +kernel
theorem dX10_shown_60 : decode cX10_shown 60 = .ok (.iaload, 1) := by decide +kernel
theorem dX10_shown_61 : decode cX10_shown 61 = .ok (.aload_n 0, 1) := by decide +kernel
theorem dX10_shown_62 : decode cX10_shown 62 = .ok (.getfield 45, 3) := by decide +kernel
theorem dX10_shown_65 : decode cX10_shown 65 = .ok (.iload_n 3, 1) := by decide +kernel
theorem dX10_shown_66 : decode cX10_shown 66 = .ok (.iaload, 1) := by decide +kernel
theorem dX10_shown_67 : decode cX10_shown 67 = .ok (.if_icmp .lt 21, 3) := by decide +kernel
theorem dX10_shown_70 : decode cX10_shown 70 = .ok (.iload 4, 2) := by decide +kernel
theorem dX10_shown_72 : decode cX10_shown 72 = .ok (.iload_n 1, 1) := by decide +kernel
theorem dX10_shown_73 : decode cX10_shown 73 = .ok (.if_icmp .ne 6, 3) := by decide +kernel
theorem dX10_shown_76 : decode cX10_shown 76 = .ok (.iload 5, 2) := by decide +kernel
theorem dX10_shown_78 : decode cX10_shown 78 = .ok (.ireturn, 1) := by decide +kernel
theorem dX10_shown_79 : decode cX10_shown 79 = .ok (.iload 5, 2) := by decide +kernel
theorem dX10_shown_81 : decode cX10_shown 81 = .ok (.istore_n 3, 1) := by decide +kernel
theorem dX10_shown_82 : decode cX10_shown 82 = .ok (.iinc 2 (-1), 3) := by decide +kernel
theorem dX10_shown_85 : decode cX10_shown 85 = .ok (.iinc 4 1, 3) := by decide +kernel
theorem dX10_shown_88 : decode cX10_shown 88 = .ok (.iinc 5 1, 3) := by decide +kernel
theorem dX10_shown_91 : decode cX10_shown 91 = .ok (.goto (-63), 3) := by decide +kernel
theorem dX10_shown_94 : decode cX10_shown 94 = .ok (.bipush (-4), 2) := by decide +kernel
theorem dX10_shown_96 : decode cX10_shown 96 = .ok (.ireturn, 1) := by decide +kernel
theorem dX10_layOnto_0 : decode cX10_layOnto 0 = .ok (.aload_n 0, 1) := by decide +kernel
theorem dX10_layOnto_1 : decode cX10_layOnto 1 = .ok (.invokevirtual 270, 3) := by decide +kernel
theorem dX10_layOnto_4 : decode cX10_layOnto 4 = .ok (.iconst 0, 1) := by decide +kernel
theorem dX10_layOnto_5 : decode cX10_layOnto 5 = .ok (.istore_n 1, 1) := by decide +kernel
theorem dX10_layOnto_6 : decode cX10_layOnto 6 = .ok (.iload_n 1, 1) := by decide +kernel
theorem dX10_layOnto_7 : decode cX10_layOnto 7 = .ok (.aload_n 0, 1) := by decide +kernel
theorem dX10_layOnto_8 : decode cX10_layOnto 8 = .ok (.getfield 118, 3) := by decide +kernel
theorem dX10_layOnto_11 : decode cX10_layOnto 11 = .ok (.if_icmp .ge 58, 3) := by decide +kernel
theorem dX10_layOnto_14 : decode cX10_layOnto 14 = .ok (.aload_n 0, 1) := by decide +kernel
theorem dX10_layOnto_15 : decode cX10_layOnto 15 = .ok (.getfield 54, 3) := by decide +kernel
theorem dX10_layOnto_18 : decode cX10_layOnto 18 = .ok (.iload_n 1, 1) := by decide +kernel
theorem dX10_layOnto_19 : decode cX10_layOnto 19 = .ok (.aload_n 0, 1) := by decide +kernel
theorem dX10_layOnto_20 : decode cX10_layOnto 20 = .ok (.getfield 82, 3) := by decide +kernel
theorem dX10_layOnto_23 : decode cX10_layOnto 23 = .ok (.iload_n 1, 1) := by decide +kernel
theorem dX10_layOnto_24 : decode cX10_layOnto 24 = .ok (.iaload, 1) := by decide +kernel
theorem dX10_layOnto_25 : decode cX10_layOnto 25 = .ok (.iastore, 1) := by decide +kernel
theorem dX10_layOnto_26 : decode cX10_layOnto 26 = .ok (.aload_n 0, 1) := by decide +kernel
theorem dX10_layOnto_27 : decode cX10_layOnto 27 = .ok (.getfield 82, 3) := by decide +kernel
theorem dX10_layOnto_30 : decode cX10_layOnto 30 = .ok (.iload_n 1, 1) := by decide +kernel
theorem dX10_layOnto_31 : decode cX10_layOnto 31 = .ok (.iaload, 1) := by decide +kernel
theorem dX10_layOnto_32 : decode cX10_layOnto 32 = .ok (.bipush 9, 2) := by decide +kernel
theorem dX10_layOnto_34 : decode cX10_layOnto 34 = .ok (.if_icmp .eq 29, 3) := by decide +kernel
theorem dX10_layOnto_37 : decode cX10_layOnto 37 = .ok (.aload_n 0, 1) := by decide +kernel
theorem dX10_layOnto_38 : decode cX10_layOnto 38 = .ok (.aload_n 0, 1) := by decide +kernel
theorem dX10_layOnto_39 : decode cX10_layOnto 39 = .ok (.getfield 82, 3) := by decide +kernel
theorem dX10_layOnto_42 : decode cX10_layOnto 42 = .ok (.iload_n 1, 1) := by decide +kernel
theorem dX10_layOnto_43 : decode cX10_layOnto 43 = .ok (.iaload, 1) := by decide +kernel
theorem dX10_layOnto_44 : decode cX10_layOnto 44 = .ok (.invokevirtual 260, 3) := by decide +kernel
theorem dX10_layOnto_47 : decode cX10_layOnto 47 = .ok (.ifCond .ne 5, 3) := by decide +kernel
theorem dX10_layOnto_50 : decode cX10_layOnto 50 = .ok (.iconst 0, 1) := by decide +kernel
theorem dX10_layOnto_51 : decode cX10_layOnto 51 = .ok (.ireturn, 1) := by decide +kernel
theorem dX10_layOnto_52 : decode cX10_layOnto 52 = .ok (.aload_n 0, 1) := by decide +kernel
theorem dX10_layOnto_53 : decode cX10_layOnto 53 = .ok (.aload_n 0, 1) := by decide +kernel
theorem dX10_layOnto_54 : decode cX10_layOnto 54 = .ok (.getfield 82, 3) := by decide +kernel
theorem dX10_layOnto_57 : decode cX10_layOnto 57 = .ok (.iload_n 1, 1) := by decide +kernel
theorem dX10_layOnto_58 : decode cX10_layOnto 58 = .ok (.iaload, 1) := by decide +kernel
theorem dX10_layOnto_59 : decode cX10_layOnto 59 = .ok (.iload_n 1, 1) := by decide +kernel
theorem dX10_layOnto_60 : decode cX10_layOnto 60 = .ok (.invokevirtual 276, 3) := by decide +kernel
theorem dX10_layOnto_63 : decode cX10_layOnto 63 = .ok (.iinc 1 1, 3) := by decide +kernel
theorem dX10_layOnto_66 : decode cX10_layOnto 66 = .ok (.goto (-60), 3) := by decide +kernel
theorem dX10_layOnto_69 : decode cX10_layOnto 69 = .ok (.iconst 1, 1) := by decide +kernel
theorem dX10_layOnto_70 : decode cX10_layOnto 70 = .ok (.ireturn, 1) := by decide +kernel
theorem dX10_nextLaying_0 : decode cX10_nextLaying 0 = .ok (.aload_n 0, 1) := by decide +kernel
theorem dX10_nextLaying_1 : decode cX10_nextLaying 1 = .ok (.getfield 118, 3) := by decide +kernel
theorem dX10_nextLaying_4 : decode cX10_nextLaying 4 = .ok (.iconst 1, 1) := by decide +kernel
theorem dX10_nextLaying_5 : decode cX10_nextLaying 5 = .ok (.isub, 1) := by decide +kernel
theorem dX10_nextLaying_6 : decode cX10_nextLaying 6 = .ok (.istore_n 1, 1) := by decide +kernel
theorem dX10_nextLaying_7 : decode cX10_nextLaying 7 = .ok (.iload_n 1, 1) := by decide +kernel
theorem dX10_nextLaying_8 : decode cX10_nextLaying 8 = .ok (.ifCond .lt 58, 3) := by decide +kernel
theorem dX10_nextLaying_11 : decode cX10_nextLaying 11 = .ok (.aload_n 0, 1) := by decide +kernel
theorem dX10_nextLaying_12 : decode cX10_nextLaying 12 = .ok (.getfield 82, 3) := by decide +kernel
theorem dX10_nextLaying_15 : decode cX10_nextLaying 15 = .ok (.iload_n 1, 1) := by decide +kernel
theorem dX10_nextLaying_16 : decode cX10_nextLaying 16 = .ok (.iaload, 1) := by decide +kernel
theorem dX10_nextLaying_17 : decode cX10_nextLaying 17 = .ok (.bipush 9, 2) := by decide +kernel
theorem dX10_nextLaying_19 : decode cX10_nextLaying 19 = .ok (.if_icmp .eq 18, 3) := by decide +kernel
theorem dX10_nextLaying_22 : decode cX10_nextLaying 22 = .ok (.aload_n 0, 1) := by decide +kernel
theorem dX10_nextLaying_23 : decode cX10_nextLaying 23 = .ok (.getfield 82, 3) := by decide +kernel
theorem dX10_nextLaying_26 : decode cX10_nextLaying 26 = .ok (.iload_n 1, 1) := by decide +kernel
theorem dX10_nextLaying_27 : decode cX10_nextLaying 27 = .ok (.iaload, 1) := by decide +kernel
theorem dX10_nextLaying_28 : decode cX10_nextLaying 28 = .ok (.aload_n 0, 1) := by decide +kernel
theorem dX10_nextLaying_29 : decode cX10_nextLaying 29 = .ok (.getfield 19, 3) := by decide +kernel
theorem dX10_nextLaying_32 : decode cX10_nextLaying 32 = .ok (.iconst 1, 1) := by decide +kernel
theorem dX10_nextLaying_33 : decode cX10_nextLaying 33 = .ok (.isub, 1) := by decide +kernel
theorem dX10_nextLaying_34 : decode cX10_nextLaying 34 = .ok (.if_icmp .ne 32, 3) := by decide +kernel
theorem dX10_nextLaying_37 : decode cX10_nextLaying 37 = .ok (.aload_n 0, 1) := by decide +kernel
theorem dX10_nextLaying_38 : decode cX10_nextLaying 38 = .ok (.getfield 82, 3) := by decide +kernel
theorem dX10_nextLaying_41 : decode cX10_nextLaying 41 = .ok (.iload_n 1, 1) := by decide +kernel
theorem dX10_nextLaying_42 : decode cX10_nextLaying 42 = .ok (.aload_n 0, 1) := by decide +kernel
theorem dX10_nextLaying_43 : decode cX10_nextLaying 43 = .ok (.getfield 82, 3) := by decide +kernel
theorem dX10_nextLaying_46 : decode cX10_nextLaying 46 = .ok (.iload_n 1, 1) := by decide +kernel
theorem dX10_nextLaying_47 : decode cX10_nextLaying 47 = .ok (.iaload, 1) := by decide +kernel
theorem dX10_nextLaying_48 : decode cX10_nextLaying 48 = .ok (.bipush 9, 2) := by decide +kernel
theorem dX10_nextLaying_50 : decode cX10_nextLaying 50 = .ok (.if_icmp .ne 8, 3) := by decide +kernel
theorem dX10_nextLaying_53 : decode cX10_nextLaying 53 = .ok (.bipush 9, 2) := by decide +kernel
theorem dX10_nextLaying_55 : decode cX10_nextLaying 55 = .ok (.goto 4, 3) := by decide +kernel
theorem dX10_nextLaying_58 : decode cX10_nextLaying 58 = .ok (.iconst 0, 1) := by decide +kernel
theorem dX10_nextLaying_59 : decode cX10_nextLaying 59 = .ok (.iastore, 1) := by decide +kernel
theorem dX10_nextLaying_60 : decode cX10_nextLaying 60 = .ok (.iinc 1 (-1), 3) := by decide +kernel
theorem dX10_nextLaying_63 : decode cX10_nextLaying 63 = .ok (.goto (-56), 3) := by decide +kernel
theorem dX10_nextLaying_66 : decode cX10_nextLaying 66 = .ok (.iload_n 1, 1) := by decide +kernel
theorem dX10_nextLaying_67 : decode cX10_nextLaying 67 = .ok (.ifCond .ge 5, 3) := by decide +kernel
theorem dX10_nextLaying_70 : decode cX10_nextLaying 70 = .ok (.iconst 0, 1) := by decide +kernel
theorem dX10_nextLaying_71 : decode cX10_nextLaying 71 = .ok (.ireturn, 1) := by decide +kernel
theorem dX10_nextLaying_72 : decode cX10_nextLaying 72 = .ok (.aload_n 0, 1) := by decide +kernel
theorem dX10_nextLaying_73 : decode cX10_nextLaying 73 = .ok (.getfield 82, 3) := by decide +kernel
theorem dX10_nextLaying_76 : decode cX10_nextLaying 76 = .ok (.iload_n 1, 1) := by decide +kernel
theorem dX10_nextLaying_77 : decode cX10_nextLaying 77 = .ok (.dup2, 1) := by decide +kernel
theorem dX10_nextLaying_78 : decode cX10_nextLaying 78 = .ok (.iaload, 1) := by decide +kernel
theorem dX10_nextLaying_79 : decode cX10_nextLaying 79 = .ok (.iconst 1, 1) := by decide +kernel
theorem dX10_nextLaying_80 : decode cX10_nextLaying 80 = .ok (.iadd, 1) := by decide +kernel
theorem dX10_nextLaying_81 : decode cX10_nextLaying 81 = .ok (.iastore, 1) := by decide +kernel
theorem dX10_nextLaying_82 : decode cX10_nextLaying 82 = .ok (.iconst 1, 1) := by decide +kernel
theorem dX10_nextLaying_83 : decode cX10_nextLaying 83 = .ok (.ireturn, 1) := by decide +kernel
theorem dX10_least_0 : decode cX10_least 0 = .ok (.iload_n 1, 1) := by decide +kernel
theorem dX10_least_1 : decode cX10_least 1 = .ok (.iconst 0, 1) := by decide +kernel
theorem dX10_least_2 : decode cX10_least 2 = .ok (.iconst 1, 1) := by decide +kernel
theorem dX10_least_3 : decode cX10_least 3 = .ok (.invokestatic 121, 3) := by decide +kernel
theorem dX10_least_6 : decode cX10_least 6 = .ok (.ifCond .ne 5, 3) := by decide +kernel
theorem dX10_least_9 : decode cX10_least 9 = .ok (.iconst (-1), 1) := by decide +kernel
theorem dX10_least_10 : decode cX10_least 10 = .ok (.ireturn, 1) := by decide +kernel
theorem dX10_least_11 : decode cX10_least 11 = .ok (.aload_n 0, 1) := by decide +kernel
theorem dX10_least_12 : decode cX10_least 12 = .ok (.getfield 118, 3) := by decide +kernel
theorem dX10_least_15 : decode cX10_least 15 = .ok (.bipush 6, 2) := by decide +kernel
theorem dX10_least_17 : decode cX10_least 17 = .ok (.if_icmp .le 6, 3) := by decide +kernel
theorem dX10_least_20 : decode cX10_least 20 = .ok (.bipush (-3), 2) := by decide +kernel
theorem dX10_least_22 : decode cX10_least 22 = .ok (.ireturn, 1) := by decide +kernel
theorem dX10_least_23 : decode cX10_least 23 = .ok (.aload_n 0, 1) := by decide +kernel
theorem dX10_least_24 : decode cX10_least 24 = .ok (.invokevirtual 225, 3) := by decide +kernel
theorem dX10_least_27 : decode cX10_least 27 = .ok (.iconst 0, 1) := by decide +kernel
theorem dX10_least_28 : decode cX10_least 28 = .ok (.istore_n 2, 1) := by decide +kernel
theorem dX10_least_29 : decode cX10_least 29 = .ok (.iload_n 2, 1) := by decide +kernel
theorem dX10_least_30 : decode cX10_least 30 = .ok (.aload_n 0, 1) := by decide +kernel
theorem dX10_least_31 : decode cX10_least 31 = .ok (.getfield 118, 3) := by decide +kernel
theorem dX10_least_34 : decode cX10_least 34 = .ok (.if_icmp .ge 29, 3) := by decide +kernel
theorem dX10_least_37 : decode cX10_least 37 = .ok (.aload_n 0, 1) := by decide +kernel
theorem dX10_least_38 : decode cX10_least 38 = .ok (.getfield 82, 3) := by decide +kernel
theorem dX10_least_41 : decode cX10_least 41 = .ok (.iload_n 2, 1) := by decide +kernel
theorem dX10_least_42 : decode cX10_least 42 = .ok (.aload_n 0, 1) := by decide +kernel
theorem dX10_least_43 : decode cX10_least 43 = .ok (.iload_n 2, 1) := by decide +kernel
theorem dX10_least_44 : decode cX10_least 44 = .ok (.invokevirtual 180, 3) := by decide +kernel
theorem dX10_least_47 : decode cX10_least 47 = .ok (.ifCond .eq 8, 3) := by decide +kernel
theorem dX10_least_50 : decode cX10_least 50 = .ok (.bipush 9, 2) := by decide +kernel
theorem dX10_least_52 : decode cX10_least 52 = .ok (.goto 4, 3) := by decide +kernel
theorem dX10_least_55 : decode cX10_least 55 = .ok (.iconst 0, 1) := by decide +kernel
theorem dX10_least_56 : decode cX10_least 56 = .ok (.iastore, 1) := by decide +kernel
theorem dX10_least_57 : decode cX10_least 57 = .ok (.iinc 2 1, 3) := by decide +kernel
theorem dX10_least_60 : decode cX10_least 60 = .ok (.goto (-31), 3) := by decide +kernel
theorem dX10_least_63 : decode cX10_least 63 = .ok (.bipush (-4), 2) := by decide +kernel
theorem dX10_least_65 : decode cX10_least 65 = .ok (.istore_n 2, 1) := by decide +kernel
theorem dX10_least_66 : decode cX10_least 66 = .ok (.bipush (-4), 2) := by decide +kernel
theorem dX10_least_68 : decode cX10_least 68 = .ok (.istore_n 3, 1) := by decide +kernel
theorem dX10_least_69 : decode cX10_least 69 = .ok (.iconst 1, 1) := by decide +kernel
theorem dX10_least_70 : decode cX10_least 70 = .ok (.istore 4, 2) := by decide +kernel
theorem dX10_least_72 : decode cX10_least 72 = .ok (.iload 4, 2) := by decide +kernel
theorem dX10_least_74 : decode cX10_least 74 = .ok (.ifCond .eq 80, 3) := by decide +kernel
theorem dX10_least_77 : decode cX10_least 77 = .ok (.aload_n 0, 1) := by decide +kernel
theorem dX10_least_78 : decode cX10_least 78 = .ok (.invokevirtual 321, 3) := by decide +kernel
theorem dX10_least_81 : decode cX10_least 81 = .ok (.ifCond .eq 64, 3) := by decide +kernel
theorem dX10_least_84 : decode cX10_least 84 = .ok (.aload_n 0, 1) := by decide +kernel
theorem dX10_least_85 : decode cX10_least 85 = .ok (.aload_n 0, 1) := by decide +kernel
theorem dX10_least_86 : decode cX10_least 86 = .ok (.getfield 237, 3) := by decide +kernel
theorem dX10_least_89 : decode cX10_least 89 = .ok (.ldc_w 305, 3) := by decide +kernel
theorem dX10_least_92 : decode cX10_least 92 = .ok (.invokevirtual 306, 3) := by decide +kernel
theorem dX10_least_95 : decode cX10_least 95 = .ok (.istore 5, 2) := by decide +kernel
theorem dX10_least_97 : decode cX10_least 97 = .ok (.iload_n 3, 1) := by decide +kernel
theorem dX10_least_98 : decode cX10_least 98 = .ok (.bipush (-4), 2) := by decide +kernel
theorem dX10_least_100 : decode cX10_least 100 = .ok (.if_icmp .eq 9, 3) := by decide +kernel
theorem dX10_least_103 : decode cX10_least 103 = .ok (.iload 5, 2) := by decide +kernel
theorem dX10_least_105 : decode cX10_least 105 = .ok (.iload_n 3, 1) := by decide +kernel
theorem dX10_least_106 : decode cX10_least 106 = .ok (.if_icmp .ge 39, 3) := by decide +kernel
theorem dX10_least_109 : decode cX10_least 109 = .ok (.iload 5, 2) := by decide +kernel
theorem dX10_least_111 : decode cX10_least 111 = .ok (.istore_n 3, 1) := by decide +kernel
theorem dX10_least_112 : decode cX10_least 112 = .ok (.iconst 0, 1) := by decide +kernel
theorem dX10_least_113 : decode cX10_least 113 = .ok (.istore_n 2, 1) := by decide +kernel
theorem dX10_least_114 : decode cX10_least 114 = .ok (.iconst 0, 1) := by decide +kernel
theorem dX10_least_115 : decode cX10_least 115 = .ok (.istore 6, 2) := by decide +kernel
theorem dX10_least_117 : decode cX10_least 117 = .ok (.iload 6, 2) := by decide +kernel
theorem dX10_least_119 : decode cX10_least 119 = .ok (.aload_n 0, 1) := by decide +kernel
theorem dX10_least_120 : decode cX10_least 120 = .ok (.getfield 118, 3) := by decide +kernel
theorem dX10_least_123 : decode cX10_least 123 = .ok (.if_icmp .ge 22, 3) := by decide +kernel
theorem dX10_least_126 : decode cX10_least 126 = .ok (.bipush 10, 2) := by decide +kernel
theorem dX10_least_128 : decode cX10_least 128 = .ok (.iload_n 2, 1) := by decide +kernel
theorem dX10_least_129 : decode cX10_least 129 = .ok (.imul, 1) := by decide +kernel
theorem dX10_least_130 : decode cX10_least 130 = .ok (.aload_n 0, 1) := by decide +kernel
theorem dX10_least_131 : decode cX10_least 131 = .ok (.getfield 82, 3) := by decide +kernel
theorem dX10_least_134 : decode cX10_least 134 = .ok (.iload 6, 2) := by decide +kernel
theorem dX10_least_136 : decode cX10_least 136 = .ok (.iaload, 1) := by decide +kernel
theorem dX10_least_137 : decode cX10_least 137 = .ok (.iadd, 1) := by decide +kernel
theorem dX10_least_138 : decode cX10_least 138 = .ok (.istore_n 2, 1) := by decide +kernel
theorem dX10_least_139 : decode cX10_least 139 = .ok (.iinc 6 1, 3) := by decide +kernel
theorem dX10_least_142 : decode cX10_least 142 = .ok (.goto (-25), 3) := by decide +kernel
theorem dX10_least_145 : decode cX10_least 145 = .ok (.aload_n 0, 1) := by decide +kernel
theorem dX10_least_146 : decode cX10_least 146 = .ok (.invokevirtual 324, 3) := by decide +kernel
theorem dX10_least_149 : decode cX10_least 149 = .ok (.istore 4, 2) := by decide +kernel
theorem dX10_least_151 : decode cX10_least 151 = .ok (.goto (-79), 3) := by decide +kernel
theorem dX10_least_154 : decode cX10_least 154 = .ok (.iload_n 1, 1) := by decide +kernel
theorem dX10_least_155 : decode cX10_least 155 = .ok (.ifCond .ne 7, 3) := by decide +kernel
theorem dX10_least_158 : decode cX10_least 158 = .ok (.iload_n 3, 1) := by decide +kernel
theorem dX10_least_159 : decode cX10_least 159 = .ok (.goto 4, 3) := by decide +kernel
theorem dX10_least_162 : decode cX10_least 162 = .ok (.iload_n 2, 1) := by decide +kernel
theorem dX10_least_163 : decode cX10_least 163 = .ok (.ireturn, 1) := by decide +kernel
theorem dX10_byBack_0 : decode cX10_byBack 0 = .ok (.aload_n 0, 1) := by decide +kernel
theorem dX10_byBack_1 : decode cX10_byBack 1 = .ok (.getfield 170, 3) := by decide +kernel
theorem dX10_byBack_4 : decode cX10_byBack 4 = .ok (.istore_n 2, 1) := by decide +kernel
theorem dX10_byBack_5 : decode cX10_byBack 5 = .ok (.aload_n 0, 1) := by decide +kernel
theorem dX10_byBack_6 : decode cX10_byBack 6 = .ok (.iload_n 1, 1) := by decide +kernel
theorem dX10_byBack_7 : decode cX10_byBack 7 = .ok (.putfield 170, 3) := by decide +kernel
theorem dX10_byBack_10 : decode cX10_byBack 10 = .ok (.aload_n 0, 1) := by decide +kernel
theorem dX10_byBack_11 : decode cX10_byBack 11 = .ok (.invokevirtual 312, 3) := by decide +kernel
theorem dX10_byBack_14 : decode cX10_byBack 14 = .ok (.istore_n 3, 1) := by decide +kernel
theorem dX10_byBack_15 : decode cX10_byBack 15 = .ok (.aload_n 0, 1) := by decide +kernel
theorem dX10_byBack_16 : decode cX10_byBack 16 = .ok (.iload_n 2, 1) := by decide +kernel
theorem dX10_byBack_17 : decode cX10_byBack 17 = .ok (.putfield 170, 3) := by decide +kernel
theorem dX10_byBack_20 : decode cX10_byBack 20 = .ok (.iload_n 3, 1) := by decide +kernel
theorem dX10_byBack_21 : decode cX10_byBack 21 = .ok (.ireturn, 1) := by decide +kernel
theorem dX10_backs_0 : decode cX10_backs 0 = .ok (.iload_n 1, 1) := by decide +kernel
theorem dX10_backs_1 : decode cX10_backs 1 = .ok (.iconst 0, 1) := by decide +kernel
theorem dX10_backs_2 : decode cX10_backs 2 = .ok (.iconst 2, 1) := by decide +kernel
theorem dX10_backs_3 : decode cX10_backs 3 = .ok (.invokestatic 121, 3) := by decide +kernel
theorem dX10_backs_6 : decode cX10_backs 6 = .ok (.ifCond .eq 11, 3) := by decide +kernel
theorem dX10_backs_9 : decode cX10_backs 9 = .ok (.aload_n 0, 1) := by decide +kernel
theorem dX10_backs_10 : decode cX10_backs 10 = .ok (.iload_n 1, 1) := by decide +kernel
theorem dX10_backs_11 : decode cX10_backs 11 = .ok (.invokevirtual 327, 3) := by decide +kernel
theorem dX10_backs_14 : decode cX10_backs 14 = .ok (.goto 4, 3) := by decide +kernel
theorem dX10_backs_17 : decode cX10_backs 17 = .ok (.iconst (-1), 1) := by decide +kernel
theorem dX10_backs_18 : decode cX10_backs 18 = .ok (.ireturn, 1) := by decide +kernel
theorem dX10_bestBack_0 : decode cX10_bestBack 0 = .ok (.iconst 0, 1) := by decide +kernel
theorem dX10_bestBack_1 : decode cX10_bestBack 1 = .ok (.istore_n 1, 1) := by decide +kernel
theorem dX10_bestBack_2 : decode cX10_bestBack 2 = .ok (.iconst 1, 1) := by decide +kernel
theorem dX10_bestBack_3 : decode cX10_bestBack 3 = .ok (.istore_n 2, 1) := by decide +kernel
theorem dX10_bestBack_4 : decode cX10_bestBack 4 = .ok (.iload_n 2, 1) := by decide +kernel
theorem dX10_bestBack_5 : decode cX10_bestBack 5 = .ok (.iconst 3, 1) := by decide +kernel
theorem dX10_bestBack_6 : decode cX10_bestBack 6 = .ok (.if_icmp .ge 28, 3) := by decide +kernel
theorem dX10_bestBack_9 : decode cX10_bestBack 9 = .ok (.aload_n 0, 1) := by decide +kernel
theorem dX10_bestBack_10 : decode cX10_bestBack 10 = .ok (.iload_n 2, 1) := by decide +kernel
theorem dX10_bestBack_11 : decode cX10_bestBack 11 = .ok (.invokevirtual 327, 3) := by decide +kernel
theorem dX10_bestBack_14 : decode cX10_bestBack 14 = .ok (.aload_n 0, 1) := by decide +kernel
theorem dX10_bestBack_15 : decode cX10_bestBack 15 = .ok (.iload_n 1, 1) := by decide +kernel
theorem dX10_bestBack_16 : decode cX10_bestBack 16 = .ok (.invokevirtual 327, 3) := by decide +kernel
theorem dX10_bestBack_19 : decode cX10_bestBack 19 = .ok (.if_icmp .ge 7, 3) := by decide +kernel
theorem dX10_bestBack_22 : decode cX10_bestBack 22 = .ok (.iload_n 2, 1) := by decide +kernel
theorem dX10_bestBack_23 : decode cX10_bestBack 23 = .ok (.goto 4, 3) := by decide +kernel
theorem dX10_bestBack_26 : decode cX10_bestBack 26 = .ok (.iload_n 1, 1) := by decide +kernel
theorem dX10_bestBack_27 : decode cX10_bestBack 27 = .ok (.istore_n 1, 1) := by decide +kernel
theorem dX10_bestBack_28 : decode cX10_bestBack 28 = .ok (.iinc 2 1, 3) := by decide +kernel
theorem dX10_bestBack_31 : decode cX10_bestBack 31 = .ok (.goto (-27), 3) := by decide +kernel
theorem dX10_bestBack_34 : decode cX10_bestBack 34 = .ok (.iload_n 1, 1) := by decide +kernel
theorem dX10_bestBack_35 : decode cX10_bestBack 35 = .ok (.ireturn, 1) := by decide +kernel
theorem dX10_byHooks_0 : decode cX10_byHooks 0 = .ok (.aload_n 0, 1) := by decide +kernel
theorem dX10_byHooks_1 : decode cX10_byHooks 1 = .ok (.getfield 134, 3) := by decide +kernel
theorem dX10_byHooks_4 : decode cX10_byHooks 4 = .ok (.istore_n 2, 1) := by decide +kernel
theorem dX10_byHooks_5 : decode cX10_byHooks 5 = .ok (.aload_n 0, 1) := by decide +kernel
theorem dX10_byHooks_6 : decode cX10_byHooks 6 = .ok (.iload_n 1, 1) := by decide +kernel
theorem dX10_byHooks_7 : decode cX10_byHooks 7 = .ok (.putfield 134, 3) := by decide +kernel
theorem dX10_byHooks_10 : decode cX10_byHooks 10 = .ok (.aload_n 0, 1) := by decide +kernel
theorem dX10_byHooks_11 : decode cX10_byHooks 11 = .ok (.invokevirtual 312, 3) := by decide +kernel
theorem dX10_byHooks_14 : decode cX10_byHooks 14 = .ok (.istore_n 3, 1) := by decide +kernel
theorem dX10_byHooks_15 : decode cX10_byHooks 15 = .ok (.aload_n 0, 1) := by decide +kernel
theorem dX10_byHooks_16 : decode cX10_byHooks 16 = .ok (.iload_n 2, 1) := by decide +kernel
theorem dX10_byHooks_17 : decode cX10_byHooks 17 = .ok (.putfield 134, 3) := by decide +kernel
theorem dX10_byHooks_20 : decode cX10_byHooks 20 = .ok (.iload_n 3, 1) := by decide +kernel
theorem dX10_byHooks_21 : decode cX10_byHooks 21 = .ok (.ireturn, 1) := by decide +kernel
theorem dX10_bestHooks_0 : decode cX10_bestHooks 0 = .ok (.bipush (-4), 2) := by decide +kernel
theorem dX10_bestHooks_2 : decode cX10_bestHooks 2 = .ok (.istore_n 2, 1) := by decide +kernel
theorem dX10_bestHooks_3 : decode cX10_bestHooks 3 = .ok (.iconst 0, 1) := by decide +kernel
theorem dX10_bestHooks_4 : decode cX10_bestHooks 4 = .ok (.istore_n 3, 1) := by decide +kernel
theorem dX10_bestHooks_5 : decode cX10_bestHooks 5 = .ok (.iconst 0, 1) := by decide +kernel
theorem dX10_bestHooks_6 : decode cX10_bestHooks 6 = .ok (.istore 4, 2) := by decide +kernel
theorem dX10_bestHooks_8 : decode cX10_bestHooks 8 = .ok (.iload 4, 2) := by decide +kernel
theorem dX10_bestHooks_10 : decode cX10_bestHooks 10 = .ok (.iconst 1, 1) := by decide +kernel
theorem dX10_bestHooks_11 : decode cX10_bestHooks 11 = .ok (.aload_n 0, 1) := by decide +kernel
theorem dX10_bestHooks_12 : decode cX10_bestHooks 12 = .ok (.getfield 118, 3) := by decide +kernel
theorem dX10_bestHooks_15 : decode cX10_bestHooks 15 = .ok (.ishl, 1) := by decide +kernel
theorem dX10_bestHooks_16 : decode cX10_bestHooks 16 = .ok (.if_icmp .ge 44, 3) := by decide +kernel
theorem dX10_bestHooks_19 : decode cX10_bestHooks 19 = .ok (.iload 4, 2) := by decide +kernel
theorem dX10_bestHooks_21 : decode cX10_bestHooks 21 = .ok (.invokestatic 183, 3) := by decide +kernel
theorem dX10_bestHooks_24 : decode cX10_bestHooks 24 = .ok (.iload_n 1, 1) := by decide +kernel
theorem dX10_bestHooks_25 : decode cX10_bestHooks 25 = .ok (.if_icmp .ne 29, 3) := by decide +kernel
theorem dX10_bestHooks_28 : decode cX10_bestHooks 28 = .ok (.aload_n 0, 1) := by decide +kernel
theorem dX10_bestHooks_29 : decode cX10_bestHooks 29 = .ok (.iload 4, 2) := by decide +kernel
theorem dX10_bestHooks_31 : decode cX10_bestHooks 31 = .ok (.invokevirtual 330, 3) := by decide +kernel
theorem dX10_bestHooks_34 : decode cX10_bestHooks 34 = .ok (.istore 5, 2) := by decide +kernel
theorem dX10_bestHooks_36 : decode cX10_bestHooks 36 = .ok (.iload_n 2, 1) := by decide +kernel
theorem dX10_bestHooks_37 : decode cX10_bestHooks 37 = .ok (.bipush (-4), 2) := by decide +kernel
theorem dX10_bestHooks_39 : decode cX10_bestHooks 39 = .ok (.if_icmp .eq 9, 3) := by decide +kernel
theorem dX10_bestHooks_42 : decode cX10_bestHooks 42 = .ok (.iload 5, 2) := by decide +kernel
theorem dX10_bestHooks_44 : decode cX10_bestHooks 44 = .ok (.iload_n 3, 1) := by decide +kernel
theorem dX10_bestHooks_45 : decode cX10_bestHooks 45 = .ok (.if_icmp .ge 9, 3) := by decide +kernel
theorem dX10_bestHooks_48 : decode cX10_bestHooks 48 = .ok (.iload 4, 2) := by decide +kernel
theorem dX10_bestHooks_50 : decode cX10_bestHooks 50 = .ok (.istore_n 2, 1) := by decide +kernel
theorem dX10_bestHooks_51 : decode cX10_bestHooks 51 = .ok (.iload 5, 2) := by decide +kernel
theorem dX10_bestHooks_53 : decode cX10_bestHooks 53 = .ok (.istore_n 3, 1) := by decide +kernel
theorem dX10_bestHooks_54 : decode cX10_bestHooks 54 = .ok (.iinc 4 1, 3) := by decide +kernel
theorem dX10_bestHooks_57 : decode cX10_bestHooks 57 = .ok (.goto (-49), 3) := by decide +kernel
theorem dX10_bestHooks_60 : decode cX10_bestHooks 60 = .ok (.iload_n 2, 1) := by decide +kernel
theorem dX10_bestHooks_61 : decode cX10_bestHooks 61 = .ok (.ireturn, 1) := by decide +kernel
theorem dX10_isHooks_0 : decode cX10_isHooks 0 = .ok (.iload_n 1, 1) := by decide +kernel
theorem dX10_isHooks_1 : decode cX10_isHooks 1 = .ok (.iconst 0, 1) := by decide +kernel
theorem dX10_isHooks_2 : decode cX10_isHooks 2 = .ok (.iconst 3, 1) := by decide +kernel
theorem dX10_isHooks_3 : decode cX10_isHooks 3 = .ok (.aload_n 0, 1) := by decide +kernel
theorem dX10_isHooks_4 : decode cX10_isHooks 4 = .ok (.getfield 118, 3) := by decide +kernel
theorem dX10_isHooks_7 : decode cX10_isHooks 7 = .ok (.invokestatic 333, 3) := by decide +kernel
theorem dX10_isHooks_10 : decode cX10_isHooks 10 = .ok (.invokestatic 121, 3) := by decide +kernel
theorem dX10_isHooks_13 : decode cX10_isHooks 13 = .ok (.ireturn, 1) := by decide +kernel
theorem dX10_whom_0 : decode cX10_whom 0 = .ok (.aload_n 0, 1) := by decide +kernel
theorem dX10_whom_1 : decode cX10_whom 1 = .ok (.iload_n 1, 1) := by decide +kernel
theorem dX10_whom_2 : decode cX10_whom 2 = .ok (.invokevirtual 336, 3) := by decide +kernel
theorem dX10_whom_5 : decode cX10_whom 5 = .ok (.ifCond .eq 12, 3) := by decide +kernel
theorem dX10_whom_8 : decode cX10_whom 8 = .ok (.iload_n 2, 1) := by decide +kernel
theorem dX10_whom_9 : decode cX10_whom 9 = .ok (.iconst 0, 1) := by decide +kernel
theorem dX10_whom_10 : decode cX10_whom 10 = .ok (.iconst 1, 1) := by decide +kernel
theorem dX10_whom_11 : decode cX10_whom 11 = .ok (.invokestatic 121, 3) := by decide +kernel
theorem dX10_whom_14 : decode cX10_whom 14 = .ok (.ifCond .ne 5, 3) := by decide +kernel
theorem dX10_whom_17 : decode cX10_whom 17 = .ok (.iconst (-1), 1) := by decide +kernel
theorem dX10_whom_18 : decode cX10_whom 18 = .ok (.ireturn, 1) := by decide +kernel
theorem dX10_whom_19 : decode cX10_whom 19 = .ok (.aload_n 0, 1) := by decide +kernel
theorem dX10_whom_20 : decode cX10_whom 20 = .ok (.iload_n 1, 1) := by decide +kernel
theorem dX10_whom_21 : decode cX10_whom 21 = .ok (.invokevirtual 339, 3) := by decide +kernel
theorem dX10_whom_24 : decode cX10_whom 24 = .ok (.istore_n 3, 1) := by decide +kernel
theorem dX10_whom_25 : decode cX10_whom 25 = .ok (.iload_n 2, 1) := by decide +kernel
theorem dX10_whom_26 : decode cX10_whom 26 = .ok (.ifCond .ne 7, 3) := by decide +kernel
theorem dX10_whom_29 : decode cX10_whom 29 = .ok (.iload_n 3, 1) := by decide +kernel
theorem dX10_whom_30 : decode cX10_whom 30 = .ok (.goto 8, 3) := by decide +kernel
theorem dX10_whom_33 : decode cX10_whom 33 = .ok (.aload_n 0, 1) := by decide +kernel
theorem dX10_whom_34 : decode cX10_whom 34 = .ok (.iload_n 3, 1) := by decide +kernel
theorem dX10_whom_35 : decode cX10_whom 35 = .ok (.invokevirtual 330, 3) := by decide +kernel
theorem dX10_whom_38 : decode cX10_whom 38 = .ok (.ireturn, 1) := by decide +kernel
theorem dX10_worth_0 : decode cX10_worth 0 = .ok (.aload_n 0, 1) := by decide +kernel
theorem dX10_worth_1 : decode cX10_worth 1 = .ok (.iload_n 1, 1) := by decide +kernel
theorem dX10_worth_2 : decode cX10_worth 2 = .ok (.invokevirtual 336, 3) := by decide +kernel
theorem dX10_worth_5 : decode cX10_worth 5 = .ok (.ifCond .eq 25, 3) := by decide +kernel
theorem dX10_worth_8 : decode cX10_worth 8 = .ok (.iconst 0, 1) := by decide +kernel
theorem dX10_worth_9 : decode cX10_worth 9 = .ok (.aload_n 0, 1) := by decide +kernel
theorem dX10_worth_10 : decode cX10_worth 10 = .ok (.iconst 0, 1) := by decide +kernel
theorem dX10_worth_11 : decode cX10_worth 11 = .ok (.invokevirtual 330, 3) := by decide +kernel
theorem dX10_worth_14 : decode cX10_worth 14 = .ok (.aload_n 0, 1) := by decide +kernel
theorem dX10_worth_15 : decode cX10_worth 15 = .ok (.aload_n 0, 1) := by decide +kernel
theorem dX10_worth_16 : decode cX10_worth 16 = .ok (.iload_n 1, 1) := by decide +kernel
theorem dX10_worth_17 : decode cX10_worth 17 = .ok (.invokevirtual 339, 3) := by decide +kernel
theorem dX10_worth_20 : decode cX10_worth 20 = .ok (.invokevirtual 330, 3) := by decide +kernel
theorem dX10_worth_23 : decode cX10_worth 23 = .ok (.isub, 1) := by decide +kernel
theorem dX10_worth_24 : decode cX10_worth 24 = .ok (.invokestatic 125, 3) := by decide +kernel
theorem dX10_worth_27 : decode cX10_worth 27 = .ok (.goto 4, 3) := by decide +kernel
theorem dX10_worth_30 : decode cX10_worth 30 = .ok (.iconst (-1), 1) := by decide +kernel
theorem dX10_worth_31 : decode cX10_worth 31 = .ok (.ireturn, 1) := by decide +kernel
theorem dX10_enough_0 : decode cX10_enough 0 = .ok (.iload_n 1, 1) := by decide +kernel
theorem dX10_enough_1 : decode cX10_enough 1 = .ok (.iconst 0, 1) := by decide +kernel
theorem dX10_enough_2 : decode cX10_enough 2 = .ok (.sipush 999, 3) := by decide +kernel
theorem dX10_enough_5 : decode cX10_enough 5 = .ok (.invokestatic 121, 3) := by decide +kernel
theorem dX10_enough_8 : decode cX10_enough 8 = .ok (.ifCond .ne 5, 3) := by decide +kernel
theorem dX10_enough_11 : decode cX10_enough 11 = .ok (.iconst (-1), 1) := by decide +kernel
theorem dX10_enough_12 : decode cX10_enough 12 = .ok (.ireturn, 1) := by decide +kernel
theorem dX10_enough_13 : decode cX10_enough 13 = .ok (.aload_n 0, 1) := by decide +kernel
theorem dX10_enough_14 : decode cX10_enough 14 = .ok (.getfield 19, 3) := by decide +kernel
theorem dX10_enough_17 : decode cX10_enough 17 = .ok (.istore_n 2, 1) := by decide +kernel
theorem dX10_enough_18 : decode cX10_enough 18 = .ok (.bipush (-4), 2) := by decide +kernel
theorem dX10_enough_20 : decode cX10_enough 20 = .ok (.istore_n 3, 1) := by decide +kernel
theorem dX10_enough_21 : decode cX10_enough 21 = .ok (.iconst 3, 1) := by decide +kernel
theorem dX10_enough_22 : decode cX10_enough 22 = .ok (.istore 4, 2) := by decide +kernel
theorem dX10_enough_24 : decode cX10_enough 24 = .ok (.iload 4, 2) := by decide +kernel
theorem dX10_enough_26 : decode cX10_enough 26 = .ok (.ifCond .le 30, 3) := by decide +kernel
theorem dX10_enough_29 : decode cX10_enough 29 = .ok (.aload_n 0, 1) := by decide +kernel
theorem dX10_enough_30 : decode cX10_enough 30 = .ok (.iload 4, 2) := by decide +kernel
theorem dX10_enough_32 : decode cX10_enough 32 = .ok (.putfield 19, 3) := by decide +kernel
theorem dX10_enough_35 : decode cX10_enough 35 = .ok (.aload_n 0, 1) := by decide +kernel
theorem dX10_enough_36 : decode cX10_enough 36 = .ok (.invokevirtual 312, 3) := by decide +kernel
theorem dX10_enough_39 : decode cX10_enough 39 = .ok (.iload_n 1, 1) := by decide +kernel
theorem dX10_enough_40 : decode cX10_enough 40 = .ok (.if_icmp .gt 8, 3) := by decide +kernel
theorem dX10_enough_43 : decode cX10_enough 43 = .ok (.iload 4, 2) := by decide +kernel
theorem dX10_enough_45 : decode cX10_enough 45 = .ok (.goto 4, 3) := by decide +kernel
theorem dX10_enough_48 : decode cX10_enough 48 = .ok (.iload_n 3, 1) := by decide +kernel
theorem dX10_enough_49 : decode cX10_enough 49 = .ok (.istore_n 3, 1) := by decide +kernel
theorem dX10_enough_50 : decode cX10_enough 50 = .ok (.iinc 4 (-1), 3) := by decide +kernel
theorem dX10_enough_53 : decode cX10_enough 53 = .ok (.goto (-29), 3) := by decide +kernel
theorem dX10_enough_56 : decode cX10_enough 56 = .ok (.aload_n 0, 1) := by decide +kernel
theorem dX10_enough_57 : decode cX10_enough 57 = .ok (.iload_n 2, 1) := by decide +kernel
theorem dX10_enough_58 : decode cX10_enough 58 = .ok (.putfield 19, 3) := by decide +kernel
theorem dX10_enough_61 : decode cX10_enough 61 = .ok (.iload_n 3, 1) := by decide +kernel
theorem dX10_enough_62 : decode cX10_enough 62 = .ok (.ireturn, 1) := by decide +kernel
theorem dX10_alongWith_0 : decode cX10_alongWith 0 = .ok (.aload_n 0, 1) := by decide +kernel
theorem dX10_alongWith_1 : decode cX10_alongWith 1 = .ok (.invokevirtual 225, 3) := by decide +kernel
theorem dX10_alongWith_4 : decode cX10_alongWith 4 = .ok (.aload_n 0, 1) := by decide +kernel
theorem dX10_alongWith_5 : decode cX10_alongWith 5 = .ok (.invokevirtual 228, 3) := by decide +kernel
theorem dX10_alongWith_8 : decode cX10_alongWith 8 = .ok (.aload_n 0, 1) := by decide +kernel
theorem dX10_alongWith_9 : decode cX10_alongWith 9 = .ok (.getfield 45, 3) := by decide +kernel
theorem dX10_alongWith_12 : decode cX10_alongWith 12 = .ok (.iload_n 1, 1) := by decide +kernel
