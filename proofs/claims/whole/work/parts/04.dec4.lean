theorem dX10_lost_69 : decode cX10_lost 69 = .ok (.iconst 0, 1) := by decide +kernel
theorem dX10_lost_70 : decode cX10_lost 70 = .ok (.istore 6, 2) := by decide +kernel
theorem dX10_lost_72 : decode cX10_lost 72 = .ok (.iconst 0, 1) := by decide +kernel
theorem dX10_lost_73 : decode cX10_lost 73 = .ok (.istore 7, 2) := by decide +kernel
theorem dX10_lost_75 : decode cX10_lost 75 = .ok (.iload 7, 2) := by decide +kernel
theorem dX10_lost_77 : decode cX10_lost 77 = .ok (.aload_n 0, 1) := by decide +kernel
theorem dX10_lost_78 : decode cX10_lost 78 = .ok (.getfield 120, 3) := by decide +kernel
theorem dX10_lost_81 : decode cX10_lost 81 = .ok (.if_icmp .ge 68, 3) := by decide +kernel
theorem dX10_lost_84 : decode cX10_lost 84 = .ok (.iload_n 3, 1) := by decide +kernel
theorem dX10_lost_85 : decode cX10_lost 85 = .ok (.istore 8, 2) := by decide +kernel
theorem dX10_lost_87 : decode cX10_lost 87 = .ok (.iload 8, 2) := by decide +kernel
theorem dX10_lost_89 : decode cX10_lost 89 = .ok (.iload 4, 2) := by decide +kernel
theorem dX10_lost_91 : decode cX10_lost 91 = .ok (.if_icmp .gt 52, 3) := by decide +kernel
theorem dX10_lost_94 : decode cX10_lost 94 = .ok (.iload_n 2, 1) := by decide +kernel
theorem dX10_lost_95 : decode cX10_lost 95 = .ok (.iconst (-1), 1) := by decide +kernel
theorem dX10_lost_96 : decode cX10_lost 96 = .ok (.if_icmp .eq 9, 3) := by decide +kernel
theorem dX10_lost_99 : decode cX10_lost 99 = .ok (.iload_n 2, 1) := by decide +kernel
theorem dX10_lost_100 : decode cX10_lost 100 = .ok (.iload 7, 2) := by decide +kernel
theorem dX10_lost_102 : decode cX10_lost 102 = .ok (.if_icmp .ne 35, 3) := by decide +kernel
theorem dX10_lost_105 : decode cX10_lost 105 = .ok (.aload_n 0, 1) := by decide +kernel
theorem dX10_lost_106 : decode cX10_lost 106 = .ok (.iload 7, 2) := by decide +kernel
theorem dX10_lost_108 : decode cX10_lost 108 = .ok (.iload 8, 2) := by decide +kernel
theorem dX10_lost_110 : decode cX10_lost 110 = .ok (.invokevirtual 283, 3) := by decide +kernel
theorem dX10_lost_113 : decode cX10_lost 113 = .ok (.ifCond .ne 24, 3) := by decide +kernel
theorem dX10_lost_116 : decode cX10_lost 116 = .ok (.iload 6, 2) := by decide +kernel
theorem dX10_lost_118 : decode cX10_lost 118 = .ok (.aload_n 0, 1) := by decide +kernel
theorem dX10_lost_119 : decode cX10_lost 119 = .ok (.iload 7, 2) := by decide +kernel
theorem dX10_lost_121 : decode cX10_lost 121 = .ok (.aload_n 0, 1) := by decide +kernel
theorem dX10_lost_122 : decode cX10_lost 122 = .ok (.iload 7, 2) := by decide +kernel
theorem dX10_lost_124 : decode cX10_lost 124 = .ok (.iload 8, 2) := by decide +kernel
theorem dX10_lost_126 : decode cX10_lost 126 = .ok (.invokevirtual 280, 3) := by decide +kernel
theorem dX10_lost_129 : decode cX10_lost 129 = .ok (.iload 8, 2) := by decide +kernel
theorem dX10_lost_131 : decode cX10_lost 131 = .ok (.invokevirtual 286, 3) := by decide +kernel
theorem dX10_lost_134 : decode cX10_lost 134 = .ok (.iadd, 1) := by decide +kernel
theorem dX10_lost_135 : decode cX10_lost 135 = .ok (.istore 6, 2) := by decide +kernel
theorem dX10_lost_137 : decode cX10_lost 137 = .ok (.iinc 8 1, 3) := by decide +kernel
theorem dX10_lost_140 : decode cX10_lost 140 = .ok (.goto (-53), 3) := by decide +kernel
theorem dX10_lost_143 : decode cX10_lost 143 = .ok (.iinc 7 1, 3) := by decide +kernel
theorem dX10_lost_146 : decode cX10_lost 146 = .ok (.goto (-71), 3) := by decide +kernel
theorem dX10_lost_149 : decode cX10_lost 149 = .ok (.iload 6, 2) := by decide +kernel
theorem dX10_lost_151 : decode cX10_lost 151 = .ok (.ireturn, 1) := by decide +kernel
set_option maxRecDepth 20000 in
theorem dX10_red_0 : decode cX10_red 0 = .ok (.iload_n 1, 1) := by decide +kernel
theorem dX10_red_1 : decode cX10_red 1 = .ok (.invokestatic 131, 3) := by decide +kernel
theorem dX10_red_4 : decode cX10_red 4 = .ok (.ifCond .eq 13, 3) := by decide +kernel
theorem dX10_red_7 : decode cX10_red 7 = .ok (.iload_n 2, 1) := by decide +kernel
theorem dX10_red_8 : decode cX10_red 8 = .ok (.iconst 0, 1) := by decide +kernel
theorem dX10_red_9 : decode cX10_red 9 = .ok (.bipush 15, 2) := by decide +kernel
theorem dX10_red_11 : decode cX10_red 11 = .ok (.invokestatic 123, 3) := by decide +kernel
theorem dX10_red_14 : decode cX10_red 14 = .ok (.ifCond .ne 5, 3) := by decide +kernel
theorem dX10_red_17 : decode cX10_red 17 = .ok (.iconst (-1), 1) := by decide +kernel
theorem dX10_red_18 : decode cX10_red 18 = .ok (.ireturn, 1) := by decide +kernel
theorem dX10_red_19 : decode cX10_red 19 = .ok (.aload_n 0, 1) := by decide +kernel
theorem dX10_red_20 : decode cX10_red 20 = .ok (.iload_n 1, 1) := by decide +kernel
theorem dX10_red_21 : decode cX10_red 21 = .ok (.iconst 0, 1) := by decide +kernel
theorem dX10_red_22 : decode cX10_red 22 = .ok (.invokevirtual 265, 3) := by decide +kernel
theorem dX10_red_25 : decode cX10_red 25 = .ok (.istore_n 3, 1) := by decide +kernel
theorem dX10_red_26 : decode cX10_red 26 = .ok (.iload_n 3, 1) := by decide +kernel
theorem dX10_red_27 : decode cX10_red 27 = .ok (.ifCond .ge 5, 3) := by decide +kernel
theorem dX10_red_30 : decode cX10_red 30 = .ok (.iload_n 3, 1) := by decide +kernel
theorem dX10_red_31 : decode cX10_red 31 = .ok (.ireturn, 1) := by decide +kernel
theorem dX10_red_32 : decode cX10_red 32 = .ok (.aload_n 0, 1) := by decide +kernel
theorem dX10_red_33 : decode cX10_red 33 = .ok (.iload_n 1, 1) := by decide +kernel
theorem dX10_red_34 : decode cX10_red 34 = .ok (.invokevirtual 268, 3) := by decide +kernel
theorem dX10_red_37 : decode cX10_red 37 = .ok (.aload_n 0, 1) := by decide +kernel
theorem dX10_red_38 : decode cX10_red 38 = .ok (.sipush 4000, 3) := by decide +kernel
theorem dX10_red_41 : decode cX10_red 41 = .ok (.invokevirtual 261, 3) := by decide +kernel
theorem dX10_red_44 : decode cX10_red 44 = .ok (.iconst 1, 1) := by decide +kernel
theorem dX10_red_45 : decode cX10_red 45 = .ok (.aload_n 0, 1) := by decide +kernel
theorem dX10_red_46 : decode cX10_red 46 = .ok (.getfield 120, 3) := by decide +kernel
theorem dX10_red_49 : decode cX10_red 49 = .ok (.ishl, 1) := by decide +kernel
theorem dX10_red_50 : decode cX10_red 50 = .ok (.iconst 1, 1) := by decide +kernel
theorem dX10_red_51 : decode cX10_red 51 = .ok (.isub, 1) := by decide +kernel
theorem dX10_red_52 : decode cX10_red 52 = .ok (.istore 4, 2) := by decide +kernel
theorem dX10_red_54 : decode cX10_red 54 = .ok (.iconst 0, 1) := by decide +kernel
theorem dX10_red_55 : decode cX10_red 55 = .ok (.istore 5, 2) := by decide +kernel
theorem dX10_red_57 : decode cX10_red 57 = .ok (.iload 5, 2) := by decide +kernel
theorem dX10_red_59 : decode cX10_red 59 = .ok (.aload_n 0, 1) := by decide +kernel
theorem dX10_red_60 : decode cX10_red 60 = .ok (.getfield 255, 3) := by decide +kernel
theorem dX10_red_63 : decode cX10_red 63 = .ok (.if_icmp .ge 39, 3) := by decide +kernel
theorem dX10_red_66 : decode cX10_red 66 = .ok (.aload_n 0, 1) := by decide +kernel
theorem dX10_red_67 : decode cX10_red 67 = .ok (.getfield 94, 3) := by decide +kernel
theorem dX10_red_70 : decode cX10_red 70 = .ok (.iload 5, 2) := by decide +kernel
theorem dX10_red_72 : decode cX10_red 72 = .ok (.iaload, 1) := by decide +kernel
theorem dX10_red_73 : decode cX10_red 73 = .ok (.bipush 60, 2) := by decide +kernel
theorem dX10_red_75 : decode cX10_red 75 = .ok (.idiv, 1) := by decide +kernel
theorem dX10_red_76 : decode cX10_red 76 = .ok (.iload_n 2, 1) := by decide +kernel
theorem dX10_red_77 : decode cX10_red 77 = .ok (.if_icmp .ne 19, 3) := by decide +kernel
theorem dX10_red_80 : decode cX10_red 80 = .ok (.iload 4, 2) := by decide +kernel
theorem dX10_red_82 : decode cX10_red 82 = .ok (.iconst 1, 1) := by decide +kernel
theorem dX10_red_83 : decode cX10_red 83 = .ok (.aload_n 0, 1) := by decide +kernel
theorem dX10_red_84 : decode cX10_red 84 = .ok (.getfield 97, 3) := by decide +kernel
theorem dX10_red_87 : decode cX10_red 87 = .ok (.iload 5, 2) := by decide +kernel
theorem dX10_red_89 : decode cX10_red 89 = .ok (.iaload, 1) := by decide +kernel
theorem dX10_red_90 : decode cX10_red 90 = .ok (.ishl, 1) := by decide +kernel
theorem dX10_red_91 : decode cX10_red 91 = .ok (.iconst (-1), 1) := by decide +kernel
theorem dX10_red_92 : decode cX10_red 92 = .ok (.ixor, 1) := by decide +kernel
theorem dX10_red_93 : decode cX10_red 93 = .ok (.iand, 1) := by decide +kernel
theorem dX10_red_94 : decode cX10_red 94 = .ok (.istore 4, 2) := by decide +kernel
theorem dX10_red_96 : decode cX10_red 96 = .ok (.iinc 5 1, 3) := by decide +kernel
theorem dX10_red_99 : decode cX10_red 99 = .ok (.goto (-42), 3) := by decide +kernel
theorem dX10_red_102 : decode cX10_red 102 = .ok (.iload 4, 2) := by decide +kernel
theorem dX10_red_104 : decode cX10_red 104 = .ok (.ireturn, 1) := by decide +kernel
set_option maxRecDepth 20000 in
theorem dX10_gapOf_0 : decode cX10_gapOf 0 = .ok (.aload_n 0, 1) := by decide +kernel
theorem dX10_gapOf_1 : decode cX10_gapOf 1 = .ok (.invokevirtual 271, 3) := by decide +kernel
theorem dX10_gapOf_4 : decode cX10_gapOf 4 = .ok (.istore_n 2, 1) := by decide +kernel
theorem dX10_gapOf_5 : decode cX10_gapOf 5 = .ok (.bipush (-2), 2) := by decide +kernel
theorem dX10_gapOf_7 : decode cX10_gapOf 7 = .ok (.istore_n 3, 1) := by decide +kernel
theorem dX10_gapOf_8 : decode cX10_gapOf 8 = .ok (.iconst (-1), 1) := by decide +kernel
theorem dX10_gapOf_9 : decode cX10_gapOf 9 = .ok (.istore 4, 2) := by decide +kernel
theorem dX10_gapOf_11 : decode cX10_gapOf 11 = .ok (.iconst (-1), 1) := by decide +kernel
theorem dX10_gapOf_12 : decode cX10_gapOf 12 = .ok (.istore 5, 2) := by decide +kernel
theorem dX10_gapOf_14 : decode cX10_gapOf 14 = .ok (.aload_n 0, 1) := by decide +kernel
theorem dX10_gapOf_15 : decode cX10_gapOf 15 = .ok (.getfield 231, 3) := by decide +kernel
theorem dX10_gapOf_18 : decode cX10_gapOf 18 = .ok (.ifCond .ne 7, 3) := by decide +kernel
theorem dX10_gapOf_21 : decode cX10_gapOf 21 = .ok (.iconst 0, 1) := by decide +kernel
theorem dX10_gapOf_22 : decode cX10_gapOf 22 = .ok (.goto 14, 3) := by decide +kernel
theorem dX10_gapOf_25 : decode cX10_gapOf 25 = .ok (.aload_n 0, 1) := by decide +kernel
theorem dX10_gapOf_26 : decode cX10_gapOf 26 = .ok (.iconst (-1), 1) := by decide +kernel
theorem dX10_gapOf_27 : decode cX10_gapOf 27 = .ok (.aload_n 0, 1) := by decide +kernel
theorem dX10_gapOf_28 : decode cX10_gapOf 28 = .ok (.getfield 91, 3) := by decide +kernel
theorem dX10_gapOf_31 : decode cX10_gapOf 31 = .ok (.iconst 0, 1) := by decide +kernel
theorem dX10_gapOf_32 : decode cX10_gapOf 32 = .ok (.iaload, 1) := by decide +kernel
theorem dX10_gapOf_33 : decode cX10_gapOf 33 = .ok (.invokevirtual 258, 3) := by decide +kernel
theorem dX10_gapOf_36 : decode cX10_gapOf 36 = .ok (.istore 6, 2) := by decide +kernel
theorem dX10_gapOf_38 : decode cX10_gapOf 38 = .ok (.iconst 0, 1) := by decide +kernel
theorem dX10_gapOf_39 : decode cX10_gapOf 39 = .ok (.istore 7, 2) := by decide +kernel
theorem dX10_gapOf_41 : decode cX10_gapOf 41 = .ok (.iload 7, 2) := by decide +kernel
theorem dX10_gapOf_43 : decode cX10_gapOf 43 = .ok (.aload_n 0, 1) := by decide +kernel
theorem dX10_gapOf_44 : decode cX10_gapOf 44 = .ok (.getfield 231, 3) := by decide +kernel
theorem dX10_gapOf_47 : decode cX10_gapOf 47 = .ok (.if_icmp .ge 98, 3) := by decide +kernel
theorem dX10_gapOf_50 : decode cX10_gapOf 50 = .ok (.aload_n 0, 1) := by decide +kernel
theorem dX10_gapOf_51 : decode cX10_gapOf 51 = .ok (.getfield 91, 3) := by decide +kernel
theorem dX10_gapOf_54 : decode cX10_gapOf 54 = .ok (.iload 7, 2) := by decide +kernel
theorem dX10_gapOf_56 : decode cX10_gapOf 56 = .ok (.iaload, 1) := by decide +kernel
theorem dX10_gapOf_57 : decode cX10_gapOf 57 = .ok (.iload_n 1, 1) := by decide +kernel
theorem dX10_gapOf_58 : decode cX10_gapOf 58 = .ok (.if_icmp .ne 44, 3) := by decide +kernel
theorem dX10_gapOf_61 : decode cX10_gapOf 61 = .ok (.iload_n 3, 1) := by decide +kernel
theorem dX10_gapOf_62 : decode cX10_gapOf 62 = .ok (.iload 5, 2) := by decide +kernel
theorem dX10_gapOf_64 : decode cX10_gapOf 64 = .ok (.ifCond .ge 8, 3) := by decide +kernel
theorem dX10_gapOf_67 : decode cX10_gapOf 67 = .ok (.iload 6, 2) := by decide +kernel
theorem dX10_gapOf_69 : decode cX10_gapOf 69 = .ok (.goto 16, 3) := by decide +kernel
theorem dX10_gapOf_72 : decode cX10_gapOf 72 = .ok (.iload_n 2, 1) := by decide +kernel
theorem dX10_gapOf_73 : decode cX10_gapOf 73 = .ok (.ifCond .ne 7, 3) := by decide +kernel
theorem dX10_gapOf_76 : decode cX10_gapOf 76 = .ok (.iconst 0, 1) := by decide +kernel
theorem dX10_gapOf_77 : decode cX10_gapOf 77 = .ok (.goto 8, 3) := by decide +kernel
theorem dX10_gapOf_80 : decode cX10_gapOf 80 = .ok (.iload 6, 2) := by decide +kernel
theorem dX10_gapOf_82 : decode cX10_gapOf 82 = .ok (.iload 5, 2) := by decide +kernel
theorem dX10_gapOf_84 : decode cX10_gapOf 84 = .ok (.isub, 1) := by decide +kernel
theorem dX10_gapOf_85 : decode cX10_gapOf 85 = .ok (.invokestatic 237, 3) := by decide +kernel
theorem dX10_gapOf_88 : decode cX10_gapOf 88 = .ok (.istore_n 3, 1) := by decide +kernel
theorem dX10_gapOf_89 : decode cX10_gapOf 89 = .ok (.iload 4, 2) := by decide +kernel
theorem dX10_gapOf_91 : decode cX10_gapOf 91 = .ok (.ifCond .ge 7, 3) := by decide +kernel
theorem dX10_gapOf_94 : decode cX10_gapOf 94 = .ok (.iload 6, 2) := by decide +kernel
theorem dX10_gapOf_96 : decode cX10_gapOf 96 = .ok (.istore 4, 2) := by decide +kernel
theorem dX10_gapOf_98 : decode cX10_gapOf 98 = .ok (.iload 6, 2) := by decide +kernel
theorem dX10_gapOf_100 : decode cX10_gapOf 100 = .ok (.istore 5, 2) := by decide +kernel
theorem dX10_gapOf_102 : decode cX10_gapOf 102 = .ok (.iload 6, 2) := by decide +kernel
theorem dX10_gapOf_104 : decode cX10_gapOf 104 = .ok (.aload_n 0, 1) := by decide +kernel
theorem dX10_gapOf_105 : decode cX10_gapOf 105 = .ok (.getfield 24, 3) := by decide +kernel
theorem dX10_gapOf_108 : decode cX10_gapOf 108 = .ok (.iconst 3, 1) := by decide +kernel
theorem dX10_gapOf_109 : decode cX10_gapOf 109 = .ok (.iaload, 1) := by decide +kernel
theorem dX10_gapOf_110 : decode cX10_gapOf 110 = .ok (.aload_n 0, 1) := by decide +kernel
theorem dX10_gapOf_111 : decode cX10_gapOf 111 = .ok (.aload_n 0, 1) := by decide +kernel
theorem dX10_gapOf_112 : decode cX10_gapOf 112 = .ok (.getfield 91, 3) := by decide +kernel
theorem dX10_gapOf_115 : decode cX10_gapOf 115 = .ok (.iload 7, 2) := by decide +kernel
theorem dX10_gapOf_117 : decode cX10_gapOf 117 = .ok (.iaload, 1) := by decide +kernel
theorem dX10_gapOf_118 : decode cX10_gapOf 118 = .ok (.aload_n 0, 1) := by decide +kernel
theorem dX10_gapOf_119 : decode cX10_gapOf 119 = .ok (.getfield 91, 3) := by decide +kernel
theorem dX10_gapOf_122 : decode cX10_gapOf 122 = .ok (.iload 7, 2) := by decide +kernel
theorem dX10_gapOf_124 : decode cX10_gapOf 124 = .ok (.iconst 1, 1) := by decide +kernel
theorem dX10_gapOf_125 : decode cX10_gapOf 125 = .ok (.iadd, 1) := by decide +kernel
theorem dX10_gapOf_126 : decode cX10_gapOf 126 = .ok (.aload_n 0, 1) := by decide +kernel
theorem dX10_gapOf_127 : decode cX10_gapOf 127 = .ok (.getfield 231, 3) := by decide +kernel
theorem dX10_gapOf_130 : decode cX10_gapOf 130 = .ok (.irem, 1) := by decide +kernel
theorem dX10_gapOf_131 : decode cX10_gapOf 131 = .ok (.iaload, 1) := by decide +kernel
theorem dX10_gapOf_132 : decode cX10_gapOf 132 = .ok (.invokevirtual 258, 3) := by decide +kernel
theorem dX10_gapOf_135 : decode cX10_gapOf 135 = .ok (.iadd, 1) := by decide +kernel
theorem dX10_gapOf_136 : decode cX10_gapOf 136 = .ok (.iadd, 1) := by decide +kernel
theorem dX10_gapOf_137 : decode cX10_gapOf 137 = .ok (.istore 6, 2) := by decide +kernel
theorem dX10_gapOf_139 : decode cX10_gapOf 139 = .ok (.iinc 7 1, 3) := by decide +kernel
theorem dX10_gapOf_142 : decode cX10_gapOf 142 = .ok (.goto (-101), 3) := by decide +kernel
theorem dX10_gapOf_145 : decode cX10_gapOf 145 = .ok (.iload_n 3, 1) := by decide +kernel
theorem dX10_gapOf_146 : decode cX10_gapOf 146 = .ok (.bipush (-2), 2) := by decide +kernel
theorem dX10_gapOf_148 : decode cX10_gapOf 148 = .ok (.if_icmp .eq 7, 3) := by decide +kernel
theorem dX10_gapOf_151 : decode cX10_gapOf 151 = .ok (.iload_n 2, 1) := by decide +kernel
theorem dX10_gapOf_152 : decode cX10_gapOf 152 = .ok (.ifCond .ne 7, 3) := by decide +kernel
theorem dX10_gapOf_155 : decode cX10_gapOf 155 = .ok (.iload_n 3, 1) := by decide +kernel
theorem dX10_gapOf_156 : decode cX10_gapOf 156 = .ok (.goto 14, 3) := by decide +kernel
theorem dX10_gapOf_159 : decode cX10_gapOf 159 = .ok (.iload_n 3, 1) := by decide +kernel
theorem dX10_gapOf_160 : decode cX10_gapOf 160 = .ok (.iload_n 2, 1) := by decide +kernel
theorem dX10_gapOf_161 : decode cX10_gapOf 161 = .ok (.iload 5, 2) := by decide +kernel
theorem dX10_gapOf_163 : decode cX10_gapOf 163 = .ok (.isub, 1) := by decide +kernel
theorem dX10_gapOf_164 : decode cX10_gapOf 164 = .ok (.iload 4, 2) := by decide +kernel
theorem dX10_gapOf_166 : decode cX10_gapOf 166 = .ok (.iadd, 1) := by decide +kernel
theorem dX10_gapOf_167 : decode cX10_gapOf 167 = .ok (.invokestatic 237, 3) := by decide +kernel
theorem dX10_gapOf_170 : decode cX10_gapOf 170 = .ok (.ireturn, 1) := by decide +kernel
set_option maxRecDepth 20000 in
theorem dX10_gap_0 : decode cX10_gap 0 = .ok (.iload_n 1, 1) := by decide +kernel
theorem dX10_gap_1 : decode cX10_gap 1 = .ok (.invokestatic 131, 3) := by decide +kernel
theorem dX10_gap_4 : decode cX10_gap 4 = .ok (.ifCond .eq 12, 3) := by decide +kernel
theorem dX10_gap_7 : decode cX10_gap 7 = .ok (.aload_n 0, 1) := by decide +kernel
theorem dX10_gap_8 : decode cX10_gap 8 = .ok (.iload_n 2, 1) := by decide +kernel
theorem dX10_gap_9 : decode cX10_gap 9 = .ok (.i2l, 1) := by decide +kernel
theorem dX10_gap_10 : decode cX10_gap 10 = .ok (.invokevirtual 137, 3) := by decide +kernel
theorem dX10_gap_13 : decode cX10_gap 13 = .ok (.ifCond .ne 5, 3) := by decide +kernel
theorem dX10_gap_16 : decode cX10_gap 16 = .ok (.iconst (-1), 1) := by decide +kernel
theorem dX10_gap_17 : decode cX10_gap 17 = .ok (.ireturn, 1) := by decide +kernel
theorem dX10_gap_18 : decode cX10_gap 18 = .ok (.aload_n 0, 1) := by decide +kernel
theorem dX10_gap_19 : decode cX10_gap 19 = .ok (.iload_n 1, 1) := by decide +kernel
theorem dX10_gap_20 : decode cX10_gap 20 = .ok (.iconst 0, 1) := by decide +kernel
theorem dX10_gap_21 : decode cX10_gap 21 = .ok (.invokevirtual 265, 3) := by decide +kernel
theorem dX10_gap_24 : decode cX10_gap 24 = .ok (.istore_n 3, 1) := by decide +kernel
theorem dX10_gap_25 : decode cX10_gap 25 = .ok (.iload_n 3, 1) := by decide +kernel
theorem dX10_gap_26 : decode cX10_gap 26 = .ok (.ifCond .ge 5, 3) := by decide +kernel
theorem dX10_gap_29 : decode cX10_gap 29 = .ok (.iload_n 3, 1) := by decide +kernel
theorem dX10_gap_30 : decode cX10_gap 30 = .ok (.ireturn, 1) := by decide +kernel
theorem dX10_gap_31 : decode cX10_gap 31 = .ok (.aload_n 0, 1) := by decide +kernel
theorem dX10_gap_32 : decode cX10_gap 32 = .ok (.iload_n 1, 1) := by decide +kernel
theorem dX10_gap_33 : decode cX10_gap 33 = .ok (.invokevirtual 268, 3) := by decide +kernel
theorem dX10_gap_36 : decode cX10_gap 36 = .ok (.aload_n 0, 1) := by decide +kernel
theorem dX10_gap_37 : decode cX10_gap 37 = .ok (.iload_n 2, 1) := by decide +kernel
theorem dX10_gap_38 : decode cX10_gap 38 = .ok (.invokevirtual 289, 3) := by decide +kernel
theorem dX10_gap_41 : decode cX10_gap 41 = .ok (.ireturn, 1) := by decide +kernel
set_option maxRecDepth 20000 in
theorem dX10_late_0 : decode cX10_late 0 = .ok (.iload_n 1, 1) := by decide +kernel
theorem dX10_late_1 : decode cX10_late 1 = .ok (.invokestatic 131, 3) := by decide +kernel
theorem dX10_late_4 : decode cX10_late 4 = .ok (.ifCond .ne 5, 3) := by decide +kernel
theorem dX10_late_7 : decode cX10_late 7 = .ok (.iconst (-1), 1) := by decide +kernel
theorem dX10_late_8 : decode cX10_late 8 = .ok (.ireturn, 1) := by decide +kernel
theorem dX10_late_9 : decode cX10_late 9 = .ok (.aload_n 0, 1) := by decide +kernel
theorem dX10_late_10 : decode cX10_late 10 = .ok (.iload_n 1, 1) := by decide +kernel
theorem dX10_late_11 : decode cX10_late 11 = .ok (.iconst 0, 1) := by decide +kernel
theorem dX10_late_12 : decode cX10_late 12 = .ok (.invokevirtual 265, 3) := by decide +kernel
theorem dX10_late_15 : decode cX10_late 15 = .ok (.istore_n 2, 1) := by decide +kernel
theorem dX10_late_16 : decode cX10_late 16 = .ok (.iload_n 2, 1) := by decide +kernel
theorem dX10_late_17 : decode cX10_late 17 = .ok (.ifCond .ge 5, 3) := by decide +kernel
theorem dX10_late_20 : decode cX10_late 20 = .ok (.iload_n 2, 1) := by decide +kernel
theorem dX10_late_21 : decode cX10_late 21 = .ok (.ireturn, 1) := by decide +kernel
theorem dX10_late_22 : decode cX10_late 22 = .ok (.aload_n 0, 1) := by decide +kernel
theorem dX10_late_23 : decode cX10_late 23 = .ok (.iload_n 1, 1) := by decide +kernel
theorem dX10_late_24 : decode cX10_late 24 = .ok (.invokevirtual 268, 3) := by decide +kernel
theorem dX10_late_27 : decode cX10_late 27 = .ok (.iconst 0, 1) := by decide +kernel
theorem dX10_late_28 : decode cX10_late 28 = .ok (.istore_n 3, 1) := by decide +kernel
theorem dX10_late_29 : decode cX10_late 29 = .ok (.iconst 0, 1) := by decide +kernel
theorem dX10_late_30 : decode cX10_late 30 = .ok (.istore 4, 2) := by decide +kernel
theorem dX10_late_32 : decode cX10_late 32 = .ok (.iload 4, 2) := by decide +kernel
theorem dX10_late_34 : decode cX10_late 34 = .ok (.aload_n 0, 1) := by decide +kernel
theorem dX10_late_35 : decode cX10_late 35 = .ok (.getfield 120, 3) := by decide +kernel
theorem dX10_late_38 : decode cX10_late 38 = .ok (.if_icmp .ge 43, 3) := by decide +kernel
theorem dX10_late_41 : decode cX10_late 41 = .ok (.aload_n 0, 1) := by decide +kernel
theorem dX10_late_42 : decode cX10_late 42 = .ok (.iload 4, 2) := by decide +kernel
theorem dX10_late_44 : decode cX10_late 44 = .ok (.invokevirtual 289, 3) := by decide +kernel
theorem dX10_late_47 : decode cX10_late 47 = .ok (.bipush (-2), 2) := by decide +kernel
theorem dX10_late_49 : decode cX10_late 49 = .ok (.if_icmp .eq 19, 3) := by decide +kernel
theorem dX10_late_52 : decode cX10_late 52 = .ok (.aload_n 0, 1) := by decide +kernel
theorem dX10_late_53 : decode cX10_late 53 = .ok (.iload 4, 2) := by decide +kernel
theorem dX10_late_55 : decode cX10_late 55 = .ok (.invokevirtual 289, 3) := by decide +kernel
theorem dX10_late_58 : decode cX10_late 58 = .ok (.aload_n 0, 1) := by decide +kernel
theorem dX10_late_59 : decode cX10_late 59 = .ok (.getfield 21, 3) := by decide +kernel
theorem dX10_late_62 : decode cX10_late 62 = .ok (.iload 4, 2) := by decide +kernel
theorem dX10_late_64 : decode cX10_late 64 = .ok (.iaload, 1) := by decide +kernel
theorem dX10_late_65 : decode cX10_late 65 = .ok (.if_icmp .le 10, 3) := by decide +kernel
theorem dX10_late_68 : decode cX10_late 68 = .ok (.iload_n 3, 1) := by decide +kernel
theorem dX10_late_69 : decode cX10_late 69 = .ok (.iconst 1, 1) := by decide +kernel
theorem dX10_late_70 : decode cX10_late 70 = .ok (.iload 4, 2) := by decide +kernel
theorem dX10_late_72 : decode cX10_late 72 = .ok (.ishl, 1) := by decide +kernel
theorem dX10_late_73 : decode cX10_late 73 = .ok (.ior, 1) := by decide +kernel
theorem dX10_late_74 : decode cX10_late 74 = .ok (.istore_n 3, 1) := by decide +kernel
theorem dX10_late_75 : decode cX10_late 75 = .ok (.iinc 4 1, 3) := by decide +kernel
theorem dX10_late_78 : decode cX10_late 78 = .ok (.goto (-46), 3) := by decide +kernel
theorem dX10_late_81 : decode cX10_late 81 = .ok (.iload_n 3, 1) := by decide +kernel
theorem dX10_late_82 : decode cX10_late 82 = .ok (.ireturn, 1) := by decide +kernel
theorem dX10_exchange_0 : decode cX10_exchange 0 = .ok (.aload_n 0, 1) := by decide +kernel
theorem dX10_exchange_1 : decode cX10_exchange 1 = .ok (.getfield 110, 3) := by decide +kernel
theorem dX10_exchange_4 : decode cX10_exchange 4 = .ok (.iload_n 1, 1) := by decide +kernel
theorem dX10_exchange_5 : decode cX10_exchange 5 = .ok (.iaload, 1) := by decide +kernel
theorem dX10_exchange_6 : decode cX10_exchange 6 = .ok (.istore_n 3, 1) := by decide +kernel
theorem dX10_exchange_7 : decode cX10_exchange 7 = .ok (.aload_n 0, 1) := by decide +kernel
theorem dX10_exchange_8 : decode cX10_exchange 8 = .ok (.getfield 110, 3) := by decide +kernel
theorem dX10_exchange_11 : decode cX10_exchange 11 = .ok (.iload_n 1, 1) := by decide +kernel
theorem dX10_exchange_12 : decode cX10_exchange 12 = .ok (.aload_n 0, 1) := by decide +kernel
theorem dX10_exchange_13 : decode cX10_exchange 13 = .ok (.getfield 110, 3) := by decide +kernel
theorem dX10_exchange_16 : decode cX10_exchange 16 = .ok (.iload_n 2, 1) := by decide +kernel
theorem dX10_exchange_17 : decode cX10_exchange 17 = .ok (.iaload, 1) := by decide +kernel
theorem dX10_exchange_18 : decode cX10_exchange 18 = .ok (.iastore, 1) := by decide +kernel
theorem dX10_exchange_19 : decode cX10_exchange 19 = .ok (.aload_n 0, 1) := by decide +kernel
theorem dX10_exchange_20 : decode cX10_exchange 20 = .ok (.getfield 110, 3) := by decide +kernel
theorem dX10_exchange_23 : decode cX10_exchange 23 = .ok (.iload_n 2, 1) := by decide +kernel
theorem dX10_exchange_24 : decode cX10_exchange 24 = .ok (.iload_n 3, 1) := by decide +kernel
theorem dX10_exchange_25 : decode cX10_exchange 25 = .ok (.iastore, 1) := by decide +kernel
theorem dX10_exchange_26 : decode cX10_exchange 26 = .ok (.return_, 1) := by decide +kernel
set_option maxRecDepth 20000 in
theorem dX10_nextOrder_0 : decode cX10_nextOrder 0 = .ok (.iload_n 1, 1) := by decide +kernel
theorem dX10_nextOrder_1 : decode cX10_nextOrder 1 = .ok (.iconst 2, 1) := by decide +kernel
theorem dX10_nextOrder_2 : decode cX10_nextOrder 2 = .ok (.isub, 1) := by decide +kernel
theorem dX10_nextOrder_3 : decode cX10_nextOrder 3 = .ok (.istore_n 2, 1) := by decide +kernel
theorem dX10_nextOrder_4 : decode cX10_nextOrder 4 = .ok (.iload_n 2, 1) := by decide +kernel
theorem dX10_nextOrder_5 : decode cX10_nextOrder 5 = .ok (.ifCond .lt 26, 3) := by decide +kernel
theorem dX10_nextOrder_8 : decode cX10_nextOrder 8 = .ok (.aload_n 0, 1) := by decide +kernel
theorem dX10_nextOrder_9 : decode cX10_nextOrder 9 = .ok (.getfield 110, 3) := by decide +kernel
theorem dX10_nextOrder_12 : decode cX10_nextOrder 12 = .ok (.iload_n 2, 1) := by decide +kernel
theorem dX10_nextOrder_13 : decode cX10_nextOrder 13 = .ok (.iaload, 1) := by decide +kernel
theorem dX10_nextOrder_14 : decode cX10_nextOrder 14 = .ok (.aload_n 0, 1) := by decide +kernel
theorem dX10_nextOrder_15 : decode cX10_nextOrder 15 = .ok (.getfield 110, 3) := by decide +kernel
theorem dX10_nextOrder_18 : decode cX10_nextOrder 18 = .ok (.iload_n 2, 1) := by decide +kernel
theorem dX10_nextOrder_19 : decode cX10_nextOrder 19 = .ok (.iconst 1, 1) := by decide +kernel
theorem dX10_nextOrder_20 : decode cX10_nextOrder 20 = .ok (.iadd, 1) := by decide +kernel
theorem dX10_nextOrder_21 : decode cX10_nextOrder 21 = .ok (.iaload, 1) := by decide +kernel
theorem dX10_nextOrder_22 : decode cX10_nextOrder 22 = .ok (.if_icmp .le 9, 3) := by decide +kernel
theorem dX10_nextOrder_25 : decode cX10_nextOrder 25 = .ok (.iinc 2 (-1), 3) := by decide +kernel
theorem dX10_nextOrder_28 : decode cX10_nextOrder 28 = .ok (.goto (-24), 3) := by decide +kernel
theorem dX10_nextOrder_31 : decode cX10_nextOrder 31 = .ok (.iload_n 2, 1) := by decide +kernel
theorem dX10_nextOrder_32 : decode cX10_nextOrder 32 = .ok (.ifCond .ge 5, 3) := by decide +kernel
theorem dX10_nextOrder_35 : decode cX10_nextOrder 35 = .ok (.iconst 0, 1) := by decide +kernel
theorem dX10_nextOrder_36 : decode cX10_nextOrder 36 = .ok (.ireturn, 1) := by decide +kernel
theorem dX10_nextOrder_37 : decode cX10_nextOrder 37 = .ok (.iload_n 1, 1) := by decide +kernel
theorem dX10_nextOrder_38 : decode cX10_nextOrder 38 = .ok (.iconst 1, 1) := by decide +kernel
theorem dX10_nextOrder_39 : decode cX10_nextOrder 39 = .ok (.isub, 1) := by decide +kernel
theorem dX10_nextOrder_40 : decode cX10_nextOrder 40 = .ok (.istore_n 3, 1) := by decide +kernel
theorem dX10_nextOrder_41 : decode cX10_nextOrder 41 = .ok (.aload_n 0, 1) := by decide +kernel
theorem dX10_nextOrder_42 : decode cX10_nextOrder 42 = .ok (.getfield 110, 3) := by decide +kernel
theorem dX10_nextOrder_45 : decode cX10_nextOrder 45 = .ok (.iload_n 3, 1) := by decide +kernel
theorem dX10_nextOrder_46 : decode cX10_nextOrder 46 = .ok (.iaload, 1) := by decide +kernel
theorem dX10_nextOrder_47 : decode cX10_nextOrder 47 = .ok (.aload_n 0, 1) := by decide +kernel
theorem dX10_nextOrder_48 : decode cX10_nextOrder 48 = .ok (.getfield 110, 3) := by decide +kernel
theorem dX10_nextOrder_51 : decode cX10_nextOrder 51 = .ok (.iload_n 2, 1) := by decide +kernel
theorem dX10_nextOrder_52 : decode cX10_nextOrder 52 = .ok (.iaload, 1) := by decide +kernel
theorem dX10_nextOrder_53 : decode cX10_nextOrder 53 = .ok (.if_icmp .ge 9, 3) := by decide +kernel
theorem dX10_nextOrder_56 : decode cX10_nextOrder 56 = .ok (.iinc 3 (-1), 3) := by decide +kernel
theorem dX10_nextOrder_59 : decode cX10_nextOrder 59 = .ok (.goto (-18), 3) := by decide +kernel
theorem dX10_nextOrder_62 : decode cX10_nextOrder 62 = .ok (.aload_n 0, 1) := by decide +kernel
theorem dX10_nextOrder_63 : decode cX10_nextOrder 63 = .ok (.iload_n 2, 1) := by decide +kernel
theorem dX10_nextOrder_64 : decode cX10_nextOrder 64 = .ok (.iload_n 3, 1) := by decide +kernel
theorem dX10_nextOrder_65 : decode cX10_nextOrder 65 = .ok (.invokevirtual 292, 3) := by decide +kernel
theorem dX10_nextOrder_68 : decode cX10_nextOrder 68 = .ok (.iload_n 2, 1) := by decide +kernel
theorem dX10_nextOrder_69 : decode cX10_nextOrder 69 = .ok (.iconst 1, 1) := by decide +kernel
theorem dX10_nextOrder_70 : decode cX10_nextOrder 70 = .ok (.iadd, 1) := by decide +kernel
theorem dX10_nextOrder_71 : decode cX10_nextOrder 71 = .ok (.istore 4, 2) := by decide +kernel
theorem dX10_nextOrder_73 : decode cX10_nextOrder 73 = .ok (.iload_n 1, 1) := by decide +kernel
theorem dX10_nextOrder_74 : decode cX10_nextOrder 74 = .ok (.iconst 1, 1) := by decide +kernel
theorem dX10_nextOrder_75 : decode cX10_nextOrder 75 = .ok (.isub, 1) := by decide +kernel
theorem dX10_nextOrder_76 : decode cX10_nextOrder 76 = .ok (.istore 5, 2) := by decide +kernel
theorem dX10_nextOrder_78 : decode cX10_nextOrder 78 = .ok (.iload 4, 2) := by decide +kernel
theorem dX10_nextOrder_80 : decode cX10_nextOrder 80 = .ok (.iload 5, 2) := by decide +kernel
theorem dX10_nextOrder_82 : decode cX10_nextOrder 82 = .ok (.if_icmp .ge 20, 3) := by decide +kernel
theorem dX10_nextOrder_85 : decode cX10_nextOrder 85 = .ok (.aload_n 0, 1) := by decide +kernel
theorem dX10_nextOrder_86 : decode cX10_nextOrder 86 = .ok (.iload 4, 2) := by decide +kernel
theorem dX10_nextOrder_88 : decode cX10_nextOrder 88 = .ok (.iload 5, 2) := by decide +kernel
theorem dX10_nextOrder_90 : decode cX10_nextOrder 90 = .ok (.invokevirtual 292, 3) := by decide +kernel
theorem dX10_nextOrder_93 : decode cX10_nextOrder 93 = .ok (.iinc 4 1, 3) := by decide +kernel
theorem dX10_nextOrder_96 : decode cX10_nextOrder 96 = .ok (.iinc 5 (-1), 3) := by decide +kernel
theorem dX10_nextOrder_99 : decode cX10_nextOrder 99 = .ok (.goto (-21), 3) := by decide +kernel
theorem dX10_nextOrder_102 : decode cX10_nextOrder 102 = .ok (.iconst 1, 1) := by decide +kernel
theorem dX10_nextOrder_103 : decode cX10_nextOrder 103 = .ok (.ireturn, 1) := by decide +kernel
set_option maxRecDepth 20000 in
theorem dX10_took_0 : decode cX10_took 0 = .ok (.iconst 0, 1) := by decide +kernel
theorem dX10_took_1 : decode cX10_took 1 = .ok (.istore_n 2, 1) := by decide +kernel
theorem dX10_took_2 : decode cX10_took 2 = .ok (.iconst (-1), 1) := by decide +kernel
theorem dX10_took_3 : decode cX10_took 3 = .ok (.istore_n 3, 1) := by decide +kernel
theorem dX10_took_4 : decode cX10_took 4 = .ok (.iconst 0, 1) := by decide +kernel
theorem dX10_took_5 : decode cX10_took 5 = .ok (.istore 4, 2) := by decide +kernel
theorem dX10_took_7 : decode cX10_took 7 = .ok (.iload 4, 2) := by decide +kernel
theorem dX10_took_9 : decode cX10_took 9 = .ok (.iload_n 1, 1) := by decide +kernel
theorem dX10_took_10 : decode cX10_took 10 = .ok (.if_icmp .ge 39, 3) := by decide +kernel
theorem dX10_took_13 : decode cX10_took 13 = .ok (.iload_n 2, 1) := by decide +kernel
theorem dX10_took_14 : decode cX10_took 14 = .ok (.aload_n 0, 1) := by decide +kernel
theorem dX10_took_15 : decode cX10_took 15 = .ok (.iload_n 3, 1) := by decide +kernel
theorem dX10_took_16 : decode cX10_took 16 = .ok (.aload_n 0, 1) := by decide +kernel
theorem dX10_took_17 : decode cX10_took 17 = .ok (.getfield 110, 3) := by decide +kernel
theorem dX10_took_20 : decode cX10_took 20 = .ok (.iload 4, 2) := by decide +kernel
theorem dX10_took_22 : decode cX10_took 22 = .ok (.iaload, 1) := by decide +kernel
theorem dX10_took_23 : decode cX10_took 23 = .ok (.invokevirtual 258, 3) := by decide +kernel
theorem dX10_took_26 : decode cX10_took 26 = .ok (.aload_n 0, 1) := by decide +kernel
theorem dX10_took_27 : decode cX10_took 27 = .ok (.getfield 24, 3) := by decide +kernel
theorem dX10_took_30 : decode cX10_took 30 = .ok (.iconst 3, 1) := by decide +kernel
theorem dX10_took_31 : decode cX10_took 31 = .ok (.iaload, 1) := by decide +kernel
theorem dX10_took_32 : decode cX10_took 32 = .ok (.iadd, 1) := by decide +kernel
theorem dX10_took_33 : decode cX10_took 33 = .ok (.iadd, 1) := by decide +kernel
theorem dX10_took_34 : decode cX10_took 34 = .ok (.istore_n 2, 1) := by decide +kernel
theorem dX10_took_35 : decode cX10_took 35 = .ok (.aload_n 0, 1) := by decide +kernel
theorem dX10_took_36 : decode cX10_took 36 = .ok (.getfield 110, 3) := by decide +kernel
theorem dX10_took_39 : decode cX10_took 39 = .ok (.iload 4, 2) := by decide +kernel
theorem dX10_took_41 : decode cX10_took 41 = .ok (.iaload, 1) := by decide +kernel
theorem dX10_took_42 : decode cX10_took 42 = .ok (.istore_n 3, 1) := by decide +kernel
theorem dX10_took_43 : decode cX10_took 43 = .ok (.iinc 4 1, 3) := by decide +kernel
theorem dX10_took_46 : decode cX10_took 46 = .ok (.goto (-39), 3) := by decide +kernel
theorem dX10_took_49 : decode cX10_took 49 = .ok (.iload_n 2, 1) := by decide +kernel
theorem dX10_took_50 : decode cX10_took 50 = .ok (.aload_n 0, 1) := by decide +kernel
theorem dX10_took_51 : decode cX10_took 51 = .ok (.iload_n 3, 1) := by decide +kernel
theorem dX10_took_52 : decode cX10_took 52 = .ok (.iconst (-1), 1) := by decide +kernel
theorem dX10_took_53 : decode cX10_took 53 = .ok (.invokevirtual 258, 3) := by decide +kernel
theorem dX10_took_56 : decode cX10_took 56 = .ok (.iadd, 1) := by decide +kernel
theorem dX10_took_57 : decode cX10_took 57 = .ok (.ireturn, 1) := by decide +kernel
set_option maxRecDepth 20000 in
theorem dX10_shortestOf_0 : decode cX10_shortestOf 0 = .ok (.iconst 0, 1) := by decide +kernel
theorem dX10_shortestOf_1 : decode cX10_shortestOf 1 = .ok (.istore_n 2, 1) := by decide +kernel
theorem dX10_shortestOf_2 : decode cX10_shortestOf 2 = .ok (.iconst 0, 1) := by decide +kernel
theorem dX10_shortestOf_3 : decode cX10_shortestOf 3 = .ok (.istore_n 3, 1) := by decide +kernel
theorem dX10_shortestOf_4 : decode cX10_shortestOf 4 = .ok (.iload_n 3, 1) := by decide +kernel
theorem dX10_shortestOf_5 : decode cX10_shortestOf 5 = .ok (.aload_n 0, 1) := by decide +kernel
theorem dX10_shortestOf_6 : decode cX10_shortestOf 6 = .ok (.getfield 120, 3) := by decide +kernel
theorem dX10_shortestOf_9 : decode cX10_shortestOf 9 = .ok (.if_icmp .ge 28, 3) := by decide +kernel
theorem dX10_shortestOf_12 : decode cX10_shortestOf 12 = .ok (.iload_n 1, 1) := by decide +kernel
theorem dX10_shortestOf_13 : decode cX10_shortestOf 13 = .ok (.iload_n 3, 1) := by decide +kernel
theorem dX10_shortestOf_14 : decode cX10_shortestOf 14 = .ok (.ishr, 1) := by decide +kernel
theorem dX10_shortestOf_15 : decode cX10_shortestOf 15 = .ok (.iconst 1, 1) := by decide +kernel
theorem dX10_shortestOf_16 : decode cX10_shortestOf 16 = .ok (.iand, 1) := by decide +kernel
theorem dX10_shortestOf_17 : decode cX10_shortestOf 17 = .ok (.iconst 1, 1) := by decide +kernel
theorem dX10_shortestOf_18 : decode cX10_shortestOf 18 = .ok (.if_icmp .ne 13, 3) := by decide +kernel
theorem dX10_shortestOf_21 : decode cX10_shortestOf 21 = .ok (.aload_n 0, 1) := by decide +kernel
theorem dX10_shortestOf_22 : decode cX10_shortestOf 22 = .ok (.getfield 110, 3) := by decide +kernel
theorem dX10_shortestOf_25 : decode cX10_shortestOf 25 = .ok (.iload_n 2, 1) := by decide +kernel
theorem dX10_shortestOf_26 : decode cX10_shortestOf 26 = .ok (.iinc 2 1, 3) := by decide +kernel
theorem dX10_shortestOf_29 : decode cX10_shortestOf 29 = .ok (.iload_n 3, 1) := by decide +kernel
theorem dX10_shortestOf_30 : decode cX10_shortestOf 30 = .ok (.iastore, 1) := by decide +kernel
theorem dX10_shortestOf_31 : decode cX10_shortestOf 31 = .ok (.iinc 3 1, 3) := by decide +kernel
theorem dX10_shortestOf_34 : decode cX10_shortestOf 34 = .ok (.goto (-30), 3) := by decide +kernel
theorem dX10_shortestOf_37 : decode cX10_shortestOf 37 = .ok (.iconst (-1), 1) := by decide +kernel
theorem dX10_shortestOf_38 : decode cX10_shortestOf 38 = .ok (.istore_n 3, 1) := by decide +kernel
theorem dX10_shortestOf_39 : decode cX10_shortestOf 39 = .ok (.iconst 1, 1) := by decide +kernel
theorem dX10_shortestOf_40 : decode cX10_shortestOf 40 = .ok (.istore 4, 2) := by decide +kernel
theorem dX10_shortestOf_42 : decode cX10_shortestOf 42 = .ok (.iload 4, 2) := by decide +kernel
theorem dX10_shortestOf_44 : decode cX10_shortestOf 44 = .ok (.ifCond .eq 62, 3) := by decide +kernel
theorem dX10_shortestOf_47 : decode cX10_shortestOf 47 = .ok (.aload_n 0, 1) := by decide +kernel
theorem dX10_shortestOf_48 : decode cX10_shortestOf 48 = .ok (.iload_n 2, 1) := by decide +kernel
theorem dX10_shortestOf_49 : decode cX10_shortestOf 49 = .ok (.invokevirtual 296, 3) := by decide +kernel
theorem dX10_shortestOf_52 : decode cX10_shortestOf 52 = .ok (.istore 5, 2) := by decide +kernel
theorem dX10_shortestOf_54 : decode cX10_shortestOf 54 = .ok (.iload_n 3, 1) := by decide +kernel
theorem dX10_shortestOf_55 : decode cX10_shortestOf 55 = .ok (.ifCond .lt 9, 3) := by decide +kernel
theorem dX10_shortestOf_58 : decode cX10_shortestOf 58 = .ok (.iload 5, 2) := by decide +kernel
theorem dX10_shortestOf_60 : decode cX10_shortestOf 60 = .ok (.iload_n 3, 1) := by decide +kernel
theorem dX10_shortestOf_61 : decode cX10_shortestOf 61 = .ok (.if_icmp .ge 35, 3) := by decide +kernel
theorem dX10_shortestOf_64 : decode cX10_shortestOf 64 = .ok (.iload 5, 2) := by decide +kernel
theorem dX10_shortestOf_66 : decode cX10_shortestOf 66 = .ok (.istore_n 3, 1) := by decide +kernel
theorem dX10_shortestOf_67 : decode cX10_shortestOf 67 = .ok (.iconst 0, 1) := by decide +kernel
theorem dX10_shortestOf_68 : decode cX10_shortestOf 68 = .ok (.istore 6, 2) := by decide +kernel
theorem dX10_shortestOf_70 : decode cX10_shortestOf 70 = .ok (.iload 6, 2) := by decide +kernel
theorem dX10_shortestOf_72 : decode cX10_shortestOf 72 = .ok (.iload_n 2, 1) := by decide +kernel
theorem dX10_shortestOf_73 : decode cX10_shortestOf 73 = .ok (.if_icmp .ge 23, 3) := by decide +kernel
theorem dX10_shortestOf_76 : decode cX10_shortestOf 76 = .ok (.aload_n 0, 1) := by decide +kernel
theorem dX10_shortestOf_77 : decode cX10_shortestOf 77 = .ok (.getfield 113, 3) := by decide +kernel
theorem dX10_shortestOf_80 : decode cX10_shortestOf 80 = .ok (.iload 6, 2) := by decide +kernel
theorem dX10_shortestOf_82 : decode cX10_shortestOf 82 = .ok (.aload_n 0, 1) := by decide +kernel
theorem dX10_shortestOf_83 : decode cX10_shortestOf 83 = .ok (.getfield 110, 3) := by decide +kernel
theorem dX10_shortestOf_86 : decode cX10_shortestOf 86 = .ok (.iload 6, 2) := by decide +kernel
theorem dX10_shortestOf_88 : decode cX10_shortestOf 88 = .ok (.iaload, 1) := by decide +kernel
theorem dX10_shortestOf_89 : decode cX10_shortestOf 89 = .ok (.iastore, 1) := by decide +kernel
theorem dX10_shortestOf_90 : decode cX10_shortestOf 90 = .ok (.iinc 6 1, 3) := by decide +kernel
theorem dX10_shortestOf_93 : decode cX10_shortestOf 93 = .ok (.goto (-23), 3) := by decide +kernel
theorem dX10_shortestOf_96 : decode cX10_shortestOf 96 = .ok (.aload_n 0, 1) := by decide +kernel
theorem dX10_shortestOf_97 : decode cX10_shortestOf 97 = .ok (.iload_n 2, 1) := by decide +kernel
theorem dX10_shortestOf_98 : decode cX10_shortestOf 98 = .ok (.invokevirtual 299, 3) := by decide +kernel
theorem dX10_shortestOf_101 : decode cX10_shortestOf 101 = .ok (.istore 4, 2) := by decide +kernel
theorem dX10_shortestOf_103 : decode cX10_shortestOf 103 = .ok (.goto (-61), 3) := by decide +kernel
theorem dX10_shortestOf_106 : decode cX10_shortestOf 106 = .ok (.iload_n 3, 1) := by decide +kernel
theorem dX10_shortestOf_107 : decode cX10_shortestOf 107 = .ok (.ireturn, 1) := by decide +kernel
set_option maxRecDepth 20000 in
theorem dX10_isSet_0 : decode cX10_isSet 0 = .ok (.iload_n 1, 1) := by decide +kernel
theorem dX10_isSet_1 : decode cX10_isSet 1 = .ok (.iconst 0, 1) := by decide +kernel
theorem dX10_isSet_2 : decode cX10_isSet 2 = .ok (.iconst 1, 1) := by decide +kernel
theorem dX10_isSet_3 : decode cX10_isSet 3 = .ok (.aload_n 0, 1) := by decide +kernel
theorem dX10_isSet_4 : decode cX10_isSet 4 = .ok (.getfield 120, 3) := by decide +kernel
theorem dX10_isSet_7 : decode cX10_isSet 7 = .ok (.ishl, 1) := by decide +kernel
theorem dX10_isSet_8 : decode cX10_isSet 8 = .ok (.iconst 1, 1) := by decide +kernel
theorem dX10_isSet_9 : decode cX10_isSet 9 = .ok (.isub, 1) := by decide +kernel
theorem dX10_isSet_10 : decode cX10_isSet 10 = .ok (.invokestatic 123, 3) := by decide +kernel
theorem dX10_isSet_13 : decode cX10_isSet 13 = .ok (.ireturn, 1) := by decide +kernel
set_option maxRecDepth 20000 in
theorem dX10_shortest_0 : decode cX10_shortest 0 = .ok (.aload_n 0, 1) := by decide +kernel
theorem dX10_shortest_1 : decode cX10_shortest 1 = .ok (.iload_n 1, 1) := by decide +kernel
theorem dX10_shortest_2 : decode cX10_shortest 2 = .ok (.invokevirtual 302, 3) := by decide +kernel
theorem dX10_shortest_5 : decode cX10_shortest 5 = .ok (.ifCond .eq 8, 3) := by decide +kernel
theorem dX10_shortest_8 : decode cX10_shortest 8 = .ok (.iload_n 2, 1) := by decide +kernel
theorem dX10_shortest_9 : decode cX10_shortest 9 = .ok (.iconst (-1), 1) := by decide +kernel
theorem dX10_shortest_10 : decode cX10_shortest 10 = .ok (.if_icmp .ge 5, 3) := by decide +kernel
theorem dX10_shortest_13 : decode cX10_shortest 13 = .ok (.iconst (-1), 1) := by decide +kernel
theorem dX10_shortest_14 : decode cX10_shortest 14 = .ok (.ireturn, 1) := by decide +kernel
theorem dX10_shortest_15 : decode cX10_shortest 15 = .ok (.iload_n 1, 1) := by decide +kernel
theorem dX10_shortest_16 : decode cX10_shortest 16 = .ok (.invokestatic 305, 3) := by decide +kernel
theorem dX10_shortest_19 : decode cX10_shortest 19 = .ok (.bipush 7, 2) := by decide +kernel
theorem dX10_shortest_21 : decode cX10_shortest 21 = .ok (.if_icmp .le 6, 3) := by decide +kernel
theorem dX10_shortest_24 : decode cX10_shortest 24 = .ok (.bipush (-5), 2) := by decide +kernel
theorem dX10_shortest_26 : decode cX10_shortest 26 = .ok (.ireturn, 1) := by decide +kernel
theorem dX10_shortest_27 : decode cX10_shortest 27 = .ok (.iload_n 2, 1) := by decide +kernel
theorem dX10_shortest_28 : decode cX10_shortest 28 = .ok (.iload_n 1, 1) := by decide +kernel
theorem dX10_shortest_29 : decode cX10_shortest 29 = .ok (.invokestatic 305, 3) := by decide +kernel
theorem dX10_shortest_32 : decode cX10_shortest 32 = .ok (.if_icmp .lt 6, 3) := by decide +kernel
theorem dX10_shortest_35 : decode cX10_shortest 35 = .ok (.bipush (-2), 2) := by decide +kernel
theorem dX10_shortest_37 : decode cX10_shortest 37 = .ok (.ireturn, 1) := by decide +kernel
theorem dX10_shortest_38 : decode cX10_shortest 38 = .ok (.aload_n 0, 1) := by decide +kernel
theorem dX10_shortest_39 : decode cX10_shortest 39 = .ok (.iload_n 1, 1) := by decide +kernel
theorem dX10_shortest_40 : decode cX10_shortest 40 = .ok (.invokevirtual 310, 3) := by decide +kernel
theorem dX10_shortest_43 : decode cX10_shortest 43 = .ok (.istore_n 3, 1) := by decide +kernel
theorem dX10_shortest_44 : decode cX10_shortest 44 = .ok (.iload_n 2, 1) := by decide +kernel
theorem dX10_shortest_45 : decode cX10_shortest 45 = .ok (.iconst (-1), 1) := by decide +kernel
theorem dX10_shortest_46 : decode cX10_shortest 46 = .ok (.if_icmp .ne 7, 3) := by decide +kernel
theorem dX10_shortest_49 : decode cX10_shortest 49 = .ok (.iload_n 3, 1) := by decide +kernel
theorem dX10_shortest_50 : decode cX10_shortest 50 = .ok (.goto 9, 3) := by decide +kernel
theorem dX10_shortest_53 : decode cX10_shortest 53 = .ok (.aload_n 0, 1) := by decide +kernel
theorem dX10_shortest_54 : decode cX10_shortest 54 = .ok (.getfield 113, 3) := by decide +kernel
theorem dX10_shortest_57 : decode cX10_shortest 57 = .ok (.iload_n 2, 1) := by decide +kernel
theorem dX10_shortest_58 : decode cX10_shortest 58 = .ok (.iaload, 1) := by decide +kernel
theorem dX10_shortest_59 : decode cX10_shortest 59 = .ok (.ireturn, 1) := by decide +kernel
set_option maxRecDepth 20000 in
theorem dX10_leftOut_0 : decode cX10_leftOut 0 = .ok (.aload_n 0, 1) := by decide +kernel
theorem dX10_leftOut_1 : decode cX10_leftOut 1 = .ok (.iload_n 1, 1) := by decide +kernel
theorem dX10_leftOut_2 : decode cX10_leftOut 2 = .ok (.invokevirtual 302, 3) := by decide +kernel
theorem dX10_leftOut_5 : decode cX10_leftOut 5 = .ok (.ifCond .eq 12, 3) := by decide +kernel
theorem dX10_leftOut_8 : decode cX10_leftOut 8 = .ok (.iload_n 2, 1) := by decide +kernel
theorem dX10_leftOut_9 : decode cX10_leftOut 9 = .ok (.iconst 0, 1) := by decide +kernel
theorem dX10_leftOut_10 : decode cX10_leftOut 10 = .ok (.iconst 1, 1) := by decide +kernel
theorem dX10_leftOut_11 : decode cX10_leftOut 11 = .ok (.invokestatic 123, 3) := by decide +kernel
theorem dX10_leftOut_14 : decode cX10_leftOut 14 = .ok (.ifCond .ne 5, 3) := by decide +kernel
theorem dX10_leftOut_17 : decode cX10_leftOut 17 = .ok (.iconst (-1), 1) := by decide +kernel
theorem dX10_leftOut_18 : decode cX10_leftOut 18 = .ok (.ireturn, 1) := by decide +kernel
theorem dX10_leftOut_19 : decode cX10_leftOut 19 = .ok (.iload_n 1, 1) := by decide +kernel
theorem dX10_leftOut_20 : decode cX10_leftOut 20 = .ok (.invokestatic 305, 3) := by decide +kernel
theorem dX10_leftOut_23 : decode cX10_leftOut 23 = .ok (.bipush 7, 2) := by decide +kernel
theorem dX10_leftOut_25 : decode cX10_leftOut 25 = .ok (.if_icmp .le 6, 3) := by decide +kernel
theorem dX10_leftOut_28 : decode cX10_leftOut 28 = .ok (.bipush (-5), 2) := by decide +kernel
theorem dX10_leftOut_30 : decode cX10_leftOut 30 = .ok (.ireturn, 1) := by decide +kernel
theorem dX10_leftOut_31 : decode cX10_leftOut 31 = .ok (.bipush (-2), 2) := by decide +kernel
theorem dX10_leftOut_33 : decode cX10_leftOut 33 = .ok (.istore_n 3, 1) := by decide +kernel
theorem dX10_leftOut_34 : decode cX10_leftOut 34 = .ok (.bipush (-2), 2) := by decide +kernel
theorem dX10_leftOut_36 : decode cX10_leftOut 36 = .ok (.istore 4, 2) := by decide +kernel
theorem dX10_leftOut_38 : decode cX10_leftOut 38 = .ok (.iconst 0, 1) := by decide +kernel
theorem dX10_leftOut_39 : decode cX10_leftOut 39 = .ok (.istore 5, 2) := by decide +kernel
theorem dX10_leftOut_41 : decode cX10_leftOut 41 = .ok (.iload 5, 2) := by decide +kernel
theorem dX10_leftOut_43 : decode cX10_leftOut 43 = .ok (.aload_n 0, 1) := by decide +kernel
theorem dX10_leftOut_44 : decode cX10_leftOut 44 = .ok (.getfield 120, 3) := by decide +kernel
theorem dX10_leftOut_47 : decode cX10_leftOut 47 = .ok (.if_icmp .ge 58, 3) := by decide +kernel
theorem dX10_leftOut_50 : decode cX10_leftOut 50 = .ok (.iload_n 1, 1) := by decide +kernel
theorem dX10_leftOut_51 : decode cX10_leftOut 51 = .ok (.iload 5, 2) := by decide +kernel
theorem dX10_leftOut_53 : decode cX10_leftOut 53 = .ok (.ishr, 1) := by decide +kernel
theorem dX10_leftOut_54 : decode cX10_leftOut 54 = .ok (.iconst 1, 1) := by decide +kernel
theorem dX10_leftOut_55 : decode cX10_leftOut 55 = .ok (.iand, 1) := by decide +kernel
theorem dX10_leftOut_56 : decode cX10_leftOut 56 = .ok (.ifCond .ne 6, 3) := by decide +kernel
theorem dX10_leftOut_59 : decode cX10_leftOut 59 = .ok (.goto 40, 3) := by decide +kernel
theorem dX10_leftOut_62 : decode cX10_leftOut 62 = .ok (.aload_n 0, 1) := by decide +kernel
theorem dX10_leftOut_63 : decode cX10_leftOut 63 = .ok (.iload_n 1, 1) := by decide +kernel
theorem dX10_leftOut_64 : decode cX10_leftOut 64 = .ok (.iconst 1, 1) := by decide +kernel
theorem dX10_leftOut_65 : decode cX10_leftOut 65 = .ok (.iload 5, 2) := by decide +kernel
theorem dX10_leftOut_67 : decode cX10_leftOut 67 = .ok (.ishl, 1) := by decide +kernel
theorem dX10_leftOut_68 : decode cX10_leftOut 68 = .ok (.iconst (-1), 1) := by decide +kernel
theorem dX10_leftOut_69 : decode cX10_leftOut 69 = .ok (.ixor, 1) := by decide +kernel
theorem dX10_leftOut_70 : decode cX10_leftOut 70 = .ok (.iand, 1) := by decide +kernel
theorem dX10_leftOut_71 : decode cX10_leftOut 71 = .ok (.invokevirtual 310, 3) := by decide +kernel
theorem dX10_leftOut_74 : decode cX10_leftOut 74 = .ok (.istore 6, 2) := by decide +kernel
theorem dX10_leftOut_76 : decode cX10_leftOut 76 = .ok (.iload_n 3, 1) := by decide +kernel
theorem dX10_leftOut_77 : decode cX10_leftOut 77 = .ok (.bipush (-2), 2) := by decide +kernel
theorem dX10_leftOut_79 : decode cX10_leftOut 79 = .ok (.if_icmp .eq 13, 3) := by decide +kernel
theorem dX10_leftOut_82 : decode cX10_leftOut 82 = .ok (.iload 6, 2) := by decide +kernel
theorem dX10_leftOut_84 : decode cX10_leftOut 84 = .ok (.iload 4, 2) := by decide +kernel
theorem dX10_leftOut_86 : decode cX10_leftOut 86 = .ok (.if_icmp .lt 6, 3) := by decide +kernel
theorem dX10_leftOut_89 : decode cX10_leftOut 89 = .ok (.goto 10, 3) := by decide +kernel
theorem dX10_leftOut_92 : decode cX10_leftOut 92 = .ok (.iload 6, 2) := by decide +kernel
theorem dX10_leftOut_94 : decode cX10_leftOut 94 = .ok (.istore 4, 2) := by decide +kernel
theorem dX10_leftOut_96 : decode cX10_leftOut 96 = .ok (.iload 5, 2) := by decide +kernel
theorem dX10_leftOut_98 : decode cX10_leftOut 98 = .ok (.istore_n 3, 1) := by decide +kernel
theorem dX10_leftOut_99 : decode cX10_leftOut 99 = .ok (.iinc 5 1, 3) := by decide +kernel
theorem dX10_leftOut_102 : decode cX10_leftOut 102 = .ok (.goto (-61), 3) := by decide +kernel
theorem dX10_leftOut_105 : decode cX10_leftOut 105 = .ok (.iload_n 2, 1) := by decide +kernel
theorem dX10_leftOut_106 : decode cX10_leftOut 106 = .ok (.ifCond .ne 7, 3) := by decide +kernel
theorem dX10_leftOut_109 : decode cX10_leftOut 109 = .ok (.iload_n 3, 1) := by decide +kernel
theorem dX10_leftOut_110 : decode cX10_leftOut 110 = .ok (.goto 5, 3) := by decide +kernel
theorem dX10_leftOut_113 : decode cX10_leftOut 113 = .ok (.iload 4, 2) := by decide +kernel
theorem dX10_leftOut_115 : decode cX10_leftOut 115 = .ok (.ireturn, 1) := by decide +kernel
set_option maxRecDepth 20000 in
theorem dX10_thiefAt_0 : decode cX10_thiefAt 0 = .ok (.iconst 0, 1) := by decide +kernel
theorem dX10_thiefAt_1 : decode cX10_thiefAt 1 = .ok (.istore 4, 2) := by decide +kernel
theorem dX10_thiefAt_3 : decode cX10_thiefAt 3 = .ok (.iload_n 2, 1) := by decide +kernel
theorem dX10_thiefAt_4 : decode cX10_thiefAt 4 = .ok (.istore 5, 2) := by decide +kernel
theorem dX10_thiefAt_6 : decode cX10_thiefAt 6 = .ok (.iload 5, 2) := by decide +kernel
theorem dX10_thiefAt_8 : decode cX10_thiefAt 8 = .ok (.sipush 999, 3) := by decide +kernel
theorem dX10_thiefAt_11 : decode cX10_thiefAt 11 = .ok (.iload_n 3, 1) := by decide +kernel
theorem dX10_thiefAt_12 : decode cX10_thiefAt 12 = .ok (.iadd, 1) := by decide +kernel
theorem dX10_thiefAt_13 : decode cX10_thiefAt 13 = .ok (.if_icmp .ge 42, 3) := by decide +kernel
theorem dX10_thiefAt_16 : decode cX10_thiefAt 16 = .ok (.aload_n 0, 1) := by decide +kernel
theorem dX10_thiefAt_17 : decode cX10_thiefAt 17 = .ok (.iload_n 1, 1) := by decide +kernel
theorem dX10_thiefAt_18 : decode cX10_thiefAt 18 = .ok (.iload 5, 2) := by decide +kernel
theorem dX10_thiefAt_20 : decode cX10_thiefAt 20 = .ok (.invokevirtual 283, 3) := by decide +kernel
theorem dX10_thiefAt_23 : decode cX10_thiefAt 23 = .ok (.ifCond .eq 7, 3) := by decide +kernel
theorem dX10_thiefAt_26 : decode cX10_thiefAt 26 = .ok (.iconst 0, 1) := by decide +kernel
theorem dX10_thiefAt_27 : decode cX10_thiefAt 27 = .ok (.goto 7, 3) := by decide +kernel
theorem dX10_thiefAt_30 : decode cX10_thiefAt 30 = .ok (.iload 4, 2) := by decide +kernel
theorem dX10_thiefAt_32 : decode cX10_thiefAt 32 = .ok (.iconst 1, 1) := by decide +kernel
theorem dX10_thiefAt_33 : decode cX10_thiefAt 33 = .ok (.iadd, 1) := by decide +kernel
theorem dX10_thiefAt_34 : decode cX10_thiefAt 34 = .ok (.istore 4, 2) := by decide +kernel
theorem dX10_thiefAt_36 : decode cX10_thiefAt 36 = .ok (.iload 4, 2) := by decide +kernel
theorem dX10_thiefAt_38 : decode cX10_thiefAt 38 = .ok (.iload_n 3, 1) := by decide +kernel
theorem dX10_thiefAt_39 : decode cX10_thiefAt 39 = .ok (.if_icmp .ne 10, 3) := by decide +kernel
theorem dX10_thiefAt_42 : decode cX10_thiefAt 42 = .ok (.iload 5, 2) := by decide +kernel
theorem dX10_thiefAt_44 : decode cX10_thiefAt 44 = .ok (.iload_n 3, 1) := by decide +kernel
theorem dX10_thiefAt_45 : decode cX10_thiefAt 45 = .ok (.isub, 1) := by decide +kernel
theorem dX10_thiefAt_46 : decode cX10_thiefAt 46 = .ok (.iconst 1, 1) := by decide +kernel
theorem dX10_thiefAt_47 : decode cX10_thiefAt 47 = .ok (.iadd, 1) := by decide +kernel
theorem dX10_thiefAt_48 : decode cX10_thiefAt 48 = .ok (.ireturn, 1) := by decide +kernel
theorem dX10_thiefAt_49 : decode cX10_thiefAt 49 = .ok (.iinc 5 1, 3) := by decide +kernel
theorem dX10_thiefAt_52 : decode cX10_thiefAt 52 = .ok (.goto (-46), 3) := by decide +kernel
theorem dX10_thiefAt_55 : decode cX10_thiefAt 55 = .ok (.bipush (-2), 2) := by decide +kernel
theorem dX10_thiefAt_57 : decode cX10_thiefAt 57 = .ok (.ireturn, 1) := by decide +kernel
set_option maxRecDepth 20000 in
theorem dX10_thief_0 : decode cX10_thief 0 = .ok (.iload_n 1, 1) := by decide +kernel
theorem dX10_thief_1 : decode cX10_thief 1 = .ok (.invokestatic 131, 3) := by decide +kernel
theorem dX10_thief_4 : decode cX10_thief 4 = .ok (.ifCond .eq 30, 3) := by decide +kernel
theorem dX10_thief_7 : decode cX10_thief 7 = .ok (.aload_n 0, 1) := by decide +kernel
theorem dX10_thief_8 : decode cX10_thief 8 = .ok (.iload_n 2, 1) := by decide +kernel
theorem dX10_thief_9 : decode cX10_thief 9 = .ok (.i2l, 1) := by decide +kernel
theorem dX10_thief_10 : decode cX10_thief 10 = .ok (.invokevirtual 137, 3) := by decide +kernel
theorem dX10_thief_13 : decode cX10_thief 13 = .ok (.ifCond .eq 21, 3) := by decide +kernel
theorem dX10_thief_16 : decode cX10_thief 16 = .ok (.iload_n 3, 1) := by decide +kernel
theorem dX10_thief_17 : decode cX10_thief 17 = .ok (.invokestatic 274, 3) := by decide +kernel
theorem dX10_thief_20 : decode cX10_thief 20 = .ok (.ifCond .eq 14, 3) := by decide +kernel
theorem dX10_thief_23 : decode cX10_thief 23 = .ok (.iload 4, 2) := by decide +kernel
theorem dX10_thief_25 : decode cX10_thief 25 = .ok (.iconst 1, 1) := by decide +kernel
theorem dX10_thief_26 : decode cX10_thief 26 = .ok (.bipush 99, 2) := by decide +kernel
theorem dX10_thief_28 : decode cX10_thief 28 = .ok (.invokestatic 123, 3) := by decide +kernel
theorem dX10_thief_31 : decode cX10_thief 31 = .ok (.ifCond .ne 5, 3) := by decide +kernel
theorem dX10_thief_34 : decode cX10_thief 34 = .ok (.iconst (-1), 1) := by decide +kernel
theorem dX10_thief_35 : decode cX10_thief 35 = .ok (.ireturn, 1) := by decide +kernel
theorem dX10_thief_36 : decode cX10_thief 36 = .ok (.aload_n 0, 1) := by decide +kernel
theorem dX10_thief_37 : decode cX10_thief 37 = .ok (.iload_n 1, 1) := by decide +kernel
theorem dX10_thief_38 : decode cX10_thief 38 = .ok (.iconst 0, 1) := by decide +kernel
theorem dX10_thief_39 : decode cX10_thief 39 = .ok (.invokevirtual 265, 3) := by decide +kernel
theorem dX10_thief_42 : decode cX10_thief 42 = .ok (.istore 5, 2) := by decide +kernel
theorem dX10_thief_44 : decode cX10_thief 44 = .ok (.iload 5, 2) := by decide +kernel
theorem dX10_thief_46 : decode cX10_thief 46 = .ok (.ifCond .ge 6, 3) := by decide +kernel
theorem dX10_thief_49 : decode cX10_thief 49 = .ok (.iload 5, 2) := by decide +kernel
theorem dX10_thief_51 : decode cX10_thief 51 = .ok (.ireturn, 1) := by decide +kernel
theorem dX10_thief_52 : decode cX10_thief 52 = .ok (.aload_n 0, 1) := by decide +kernel
theorem dX10_thief_53 : decode cX10_thief 53 = .ok (.iload_n 1, 1) := by decide +kernel
theorem dX10_thief_54 : decode cX10_thief 54 = .ok (.invokevirtual 268, 3) := by decide +kernel
theorem dX10_thief_57 : decode cX10_thief 57 = .ok (.aload_n 0, 1) := by decide +kernel
theorem dX10_thief_58 : decode cX10_thief 58 = .ok (.invokevirtual 277, 3) := by decide +kernel
theorem dX10_thief_61 : decode cX10_thief 61 = .ok (.aload_n 0, 1) := by decide +kernel
theorem dX10_thief_62 : decode cX10_thief 62 = .ok (.iload_n 2, 1) := by decide +kernel
theorem dX10_thief_63 : decode cX10_thief 63 = .ok (.iload_n 3, 1) := by decide +kernel
theorem dX10_thief_64 : decode cX10_thief 64 = .ok (.iload 4, 2) := by decide +kernel
theorem dX10_thief_66 : decode cX10_thief 66 = .ok (.invokevirtual 313, 3) := by decide +kernel
theorem dX10_thief_69 : decode cX10_thief 69 = .ok (.ireturn, 1) := by decide +kernel
set_option maxRecDepth 20000 in
theorem dX10_safe_0 : decode cX10_safe 0 = .ok (.iload_n 1, 1) := by decide +kernel
theorem dX10_safe_1 : decode cX10_safe 1 = .ok (.invokestatic 131, 3) := by decide +kernel
theorem dX10_safe_4 : decode cX10_safe 4 = .ok (.ifCond .eq 13, 3) := by decide +kernel
theorem dX10_safe_7 : decode cX10_safe 7 = .ok (.iload_n 2, 1) := by decide +kernel
theorem dX10_safe_8 : decode cX10_safe 8 = .ok (.iconst 1, 1) := by decide +kernel
theorem dX10_safe_9 : decode cX10_safe 9 = .ok (.bipush 99, 2) := by decide +kernel
theorem dX10_safe_11 : decode cX10_safe 11 = .ok (.invokestatic 123, 3) := by decide +kernel
theorem dX10_safe_14 : decode cX10_safe 14 = .ok (.ifCond .ne 5, 3) := by decide +kernel
theorem dX10_safe_17 : decode cX10_safe 17 = .ok (.iconst (-1), 1) := by decide +kernel
theorem dX10_safe_18 : decode cX10_safe 18 = .ok (.ireturn, 1) := by decide +kernel
theorem dX10_safe_19 : decode cX10_safe 19 = .ok (.aload_n 0, 1) := by decide +kernel
theorem dX10_safe_20 : decode cX10_safe 20 = .ok (.iload_n 1, 1) := by decide +kernel
theorem dX10_safe_21 : decode cX10_safe 21 = .ok (.iconst 0, 1) := by decide +kernel
theorem dX10_safe_22 : decode cX10_safe 22 = .ok (.invokevirtual 265, 3) := by decide +kernel
theorem dX10_safe_25 : decode cX10_safe 25 = .ok (.istore_n 3, 1) := by decide +kernel
theorem dX10_safe_26 : decode cX10_safe 26 = .ok (.iload_n 3, 1) := by decide +kernel
theorem dX10_safe_27 : decode cX10_safe 27 = .ok (.ifCond .ge 5, 3) := by decide +kernel
theorem dX10_safe_30 : decode cX10_safe 30 = .ok (.iload_n 3, 1) := by decide +kernel
theorem dX10_safe_31 : decode cX10_safe 31 = .ok (.ireturn, 1) := by decide +kernel
theorem dX10_safe_32 : decode cX10_safe 32 = .ok (.aload_n 0, 1) := by decide +kernel
theorem dX10_safe_33 : decode cX10_safe 33 = .ok (.iload_n 1, 1) := by decide +kernel
theorem dX10_safe_34 : decode cX10_safe 34 = .ok (.invokevirtual 268, 3) := by decide +kernel
theorem dX10_safe_37 : decode cX10_safe 37 = .ok (.aload_n 0, 1) := by decide +kernel
theorem dX10_safe_38 : decode cX10_safe 38 = .ok (.invokevirtual 277, 3) := by decide +kernel
theorem dX10_safe_41 : decode cX10_safe 41 = .ok (.iconst 0, 1) := by decide +kernel
theorem dX10_safe_42 : decode cX10_safe 42 = .ok (.istore 4, 2) := by decide +kernel
theorem dX10_safe_44 : decode cX10_safe 44 = .ok (.iconst 0, 1) := by decide +kernel
theorem dX10_safe_45 : decode cX10_safe 45 = .ok (.istore 5, 2) := by decide +kernel
theorem dX10_safe_47 : decode cX10_safe 47 = .ok (.iload 5, 2) := by decide +kernel
theorem dX10_safe_49 : decode cX10_safe 49 = .ok (.aload_n 0, 1) := by decide +kernel
theorem dX10_safe_50 : decode cX10_safe 50 = .ok (.getfield 120, 3) := by decide +kernel
theorem dX10_safe_53 : decode cX10_safe 53 = .ok (.if_icmp .ge 31, 3) := by decide +kernel
theorem dX10_safe_56 : decode cX10_safe 56 = .ok (.aload_n 0, 1) := by decide +kernel
theorem dX10_safe_57 : decode cX10_safe 57 = .ok (.iload 5, 2) := by decide +kernel
theorem dX10_safe_59 : decode cX10_safe 59 = .ok (.iconst 0, 1) := by decide +kernel
theorem dX10_safe_60 : decode cX10_safe 60 = .ok (.iload_n 2, 1) := by decide +kernel
theorem dX10_safe_61 : decode cX10_safe 61 = .ok (.invokevirtual 313, 3) := by decide +kernel
theorem dX10_safe_64 : decode cX10_safe 64 = .ok (.bipush (-2), 2) := by decide +kernel
theorem dX10_safe_66 : decode cX10_safe 66 = .ok (.if_icmp .ne 12, 3) := by decide +kernel
theorem dX10_safe_69 : decode cX10_safe 69 = .ok (.iload 4, 2) := by decide +kernel
theorem dX10_safe_71 : decode cX10_safe 71 = .ok (.iconst 1, 1) := by decide +kernel
theorem dX10_safe_72 : decode cX10_safe 72 = .ok (.iload 5, 2) := by decide +kernel
theorem dX10_safe_74 : decode cX10_safe 74 = .ok (.ishl, 1) := by decide +kernel
theorem dX10_safe_75 : decode cX10_safe 75 = .ok (.ior, 1) := by decide +kernel
theorem dX10_safe_76 : decode cX10_safe 76 = .ok (.istore 4, 2) := by decide +kernel
theorem dX10_safe_78 : decode cX10_safe 78 = .ok (.iinc 5 1, 3) := by decide +kernel
theorem dX10_safe_81 : decode cX10_safe 81 = .ok (.goto (-34), 3) := by decide +kernel
theorem dX10_safe_84 : decode cX10_safe 84 = .ok (.iload 4, 2) := by decide +kernel
theorem dX10_safe_86 : decode cX10_safe 86 = .ok (.ireturn, 1) := by decide +kernel
theorem dX10_twoOf_0 : decode cX10_twoOf 0 = .ok (.iconst 0, 1) := by decide +kernel
theorem dX10_twoOf_1 : decode cX10_twoOf 1 = .ok (.istore_n 3, 1) := by decide +kernel
theorem dX10_twoOf_2 : decode cX10_twoOf 2 = .ok (.iload_n 3, 1) := by decide +kernel
theorem dX10_twoOf_3 : decode cX10_twoOf 3 = .ok (.sipush 1000, 3) := by decide +kernel
theorem dX10_twoOf_6 : decode cX10_twoOf 6 = .ok (.if_icmp .ge 16, 3) := by decide +kernel
theorem dX10_twoOf_9 : decode cX10_twoOf 9 = .ok (.aload_n 0, 1) := by decide +kernel
theorem dX10_twoOf_10 : decode cX10_twoOf 10 = .ok (.getfield 107, 3) := by decide +kernel
theorem dX10_twoOf_13 : decode cX10_twoOf 13 = .ok (.iload_n 3, 1) := by decide +kernel
theorem dX10_twoOf_14 : decode cX10_twoOf 14 = .ok (.iconst 0, 1) := by decide +kernel
theorem dX10_twoOf_15 : decode cX10_twoOf 15 = .ok (.iastore, 1) := by decide +kernel
theorem dX10_twoOf_16 : decode cX10_twoOf 16 = .ok (.iinc 3 1, 3) := by decide +kernel
theorem dX10_twoOf_19 : decode cX10_twoOf 19 = .ok (.goto (-17), 3) := by decide +kernel
theorem dX10_twoOf_22 : decode cX10_twoOf 22 = .ok (.iconst 0, 1) := by decide +kernel
theorem dX10_twoOf_23 : decode cX10_twoOf 23 = .ok (.istore_n 3, 1) := by decide +kernel
theorem dX10_twoOf_24 : decode cX10_twoOf 24 = .ok (.iload_n 3, 1) := by decide +kernel
theorem dX10_twoOf_25 : decode cX10_twoOf 25 = .ok (.aload_n 0, 1) := by decide +kernel
theorem dX10_twoOf_26 : decode cX10_twoOf 26 = .ok (.getfield 255, 3) := by decide +kernel
theorem dX10_twoOf_29 : decode cX10_twoOf 29 = .ok (.if_icmp .ge 78, 3) := by decide +kernel
theorem dX10_twoOf_32 : decode cX10_twoOf 32 = .ok (.aload_n 0, 1) := by decide +kernel
theorem dX10_twoOf_33 : decode cX10_twoOf 33 = .ok (.getfield 97, 3) := by decide +kernel
theorem dX10_twoOf_36 : decode cX10_twoOf 36 = .ok (.iload_n 3, 1) := by decide +kernel
theorem dX10_twoOf_37 : decode cX10_twoOf 37 = .ok (.iaload, 1) := by decide +kernel
theorem dX10_twoOf_38 : decode cX10_twoOf 38 = .ok (.iload_n 1, 1) := by decide +kernel
theorem dX10_twoOf_39 : decode cX10_twoOf 39 = .ok (.if_icmp .eq 6, 3) := by decide +kernel
theorem dX10_twoOf_42 : decode cX10_twoOf 42 = .ok (.goto 59, 3) := by decide +kernel
theorem dX10_twoOf_45 : decode cX10_twoOf 45 = .ok (.aload_n 0, 1) := by decide +kernel
theorem dX10_twoOf_46 : decode cX10_twoOf 46 = .ok (.getfield 94, 3) := by decide +kernel
theorem dX10_twoOf_49 : decode cX10_twoOf 49 = .ok (.iload_n 3, 1) := by decide +kernel
theorem dX10_twoOf_50 : decode cX10_twoOf 50 = .ok (.iaload, 1) := by decide +kernel
theorem dX10_twoOf_51 : decode cX10_twoOf 51 = .ok (.istore 4, 2) := by decide +kernel
theorem dX10_twoOf_53 : decode cX10_twoOf 53 = .ok (.iload 4, 2) := by decide +kernel
theorem dX10_twoOf_55 : decode cX10_twoOf 55 = .ok (.iload_n 2, 1) := by decide +kernel
theorem dX10_twoOf_56 : decode cX10_twoOf 56 = .ok (.if_icmp .lt 22, 3) := by decide +kernel
theorem dX10_twoOf_59 : decode cX10_twoOf 59 = .ok (.iload 4, 2) := by decide +kernel
theorem dX10_twoOf_61 : decode cX10_twoOf 61 = .ok (.sipush 1000, 3) := by decide +kernel
theorem dX10_twoOf_64 : decode cX10_twoOf 64 = .ok (.if_icmp .ge 14, 3) := by decide +kernel
theorem dX10_twoOf_67 : decode cX10_twoOf 67 = .ok (.aload_n 0, 1) := by decide +kernel
theorem dX10_twoOf_68 : decode cX10_twoOf 68 = .ok (.getfield 107, 3) := by decide +kernel
theorem dX10_twoOf_71 : decode cX10_twoOf 71 = .ok (.iload 4, 2) := by decide +kernel
theorem dX10_twoOf_73 : decode cX10_twoOf 73 = .ok (.dup2, 1) := by decide +kernel
theorem dX10_twoOf_74 : decode cX10_twoOf 74 = .ok (.iaload, 1) := by decide +kernel
theorem dX10_twoOf_75 : decode cX10_twoOf 75 = .ok (.iconst 1, 1) := by decide +kernel
theorem dX10_twoOf_76 : decode cX10_twoOf 76 = .ok (.iadd, 1) := by decide +kernel
theorem dX10_twoOf_77 : decode cX10_twoOf 77 = .ok (.iastore, 1) := by decide +kernel
theorem dX10_twoOf_78 : decode cX10_twoOf 78 = .ok (.iload 4, 2) := by decide +kernel
theorem dX10_twoOf_80 : decode cX10_twoOf 80 = .ok (.iload_n 2, 1) := by decide +kernel
theorem dX10_twoOf_81 : decode cX10_twoOf 81 = .ok (.iadd, 1) := by decide +kernel
theorem dX10_twoOf_82 : decode cX10_twoOf 82 = .ok (.sipush 1000, 3) := by decide +kernel
theorem dX10_twoOf_85 : decode cX10_twoOf 85 = .ok (.if_icmp .ge 16, 3) := by decide +kernel
theorem dX10_twoOf_88 : decode cX10_twoOf 88 = .ok (.aload_n 0, 1) := by decide +kernel
theorem dX10_twoOf_89 : decode cX10_twoOf 89 = .ok (.getfield 107, 3) := by decide +kernel
theorem dX10_twoOf_92 : decode cX10_twoOf 92 = .ok (.iload 4, 2) := by decide +kernel
theorem dX10_twoOf_94 : decode cX10_twoOf 94 = .ok (.iload_n 2, 1) := by decide +kernel
theorem dX10_twoOf_95 : decode cX10_twoOf 95 = .ok (.iadd, 1) := by decide +kernel
theorem dX10_twoOf_96 : decode cX10_twoOf 96 = .ok (.dup2, 1) := by decide +kernel
theorem dX10_twoOf_97 : decode cX10_twoOf 97 = .ok (.iaload, 1) := by decide +kernel
theorem dX10_twoOf_98 : decode cX10_twoOf 98 = .ok (.iconst 1, 1) := by decide +kernel
theorem dX10_twoOf_99 : decode cX10_twoOf 99 = .ok (.iadd, 1) := by decide +kernel
theorem dX10_twoOf_100 : decode cX10_twoOf 100 = .ok (.iastore, 1) := by decide +kernel
theorem dX10_twoOf_101 : decode cX10_twoOf 101 = .ok (.iinc 3 1, 3) := by decide +kernel
theorem dX10_twoOf_104 : decode cX10_twoOf 104 = .ok (.goto (-80), 3) := by decide +kernel
theorem dX10_twoOf_107 : decode cX10_twoOf 107 = .ok (.iconst 0, 1) := by decide +kernel
theorem dX10_twoOf_108 : decode cX10_twoOf 108 = .ok (.istore_n 3, 1) := by decide +kernel
theorem dX10_twoOf_109 : decode cX10_twoOf 109 = .ok (.iconst (-1), 1) := by decide +kernel
theorem dX10_twoOf_110 : decode cX10_twoOf 110 = .ok (.istore 4, 2) := by decide +kernel
theorem dX10_twoOf_112 : decode cX10_twoOf 112 = .ok (.iconst 0, 1) := by decide +kernel
theorem dX10_twoOf_113 : decode cX10_twoOf 113 = .ok (.istore 5, 2) := by decide +kernel
theorem dX10_twoOf_115 : decode cX10_twoOf 115 = .ok (.iconst 0, 1) := by decide +kernel
theorem dX10_twoOf_116 : decode cX10_twoOf 116 = .ok (.istore 6, 2) := by decide +kernel
theorem dX10_twoOf_118 : decode cX10_twoOf 118 = .ok (.iload 6, 2) := by decide +kernel
theorem dX10_twoOf_120 : decode cX10_twoOf 120 = .ok (.sipush 1000, 3) := by decide +kernel
theorem dX10_twoOf_123 : decode cX10_twoOf 123 = .ok (.if_icmp .ge 53, 3) := by decide +kernel
theorem dX10_twoOf_126 : decode cX10_twoOf 126 = .ok (.aload_n 0, 1) := by decide +kernel
theorem dX10_twoOf_127 : decode cX10_twoOf 127 = .ok (.getfield 107, 3) := by decide +kernel
theorem dX10_twoOf_130 : decode cX10_twoOf 130 = .ok (.iload 6, 2) := by decide +kernel
theorem dX10_twoOf_132 : decode cX10_twoOf 132 = .ok (.iaload, 1) := by decide +kernel
theorem dX10_twoOf_133 : decode cX10_twoOf 133 = .ok (.ifCond .ne 6, 3) := by decide +kernel
theorem dX10_twoOf_136 : decode cX10_twoOf 136 = .ok (.goto 34, 3) := by decide +kernel
theorem dX10_twoOf_139 : decode cX10_twoOf 139 = .ok (.iload_n 3, 1) := by decide +kernel
theorem dX10_twoOf_140 : decode cX10_twoOf 140 = .ok (.aload_n 0, 1) := by decide +kernel
theorem dX10_twoOf_141 : decode cX10_twoOf 141 = .ok (.getfield 107, 3) := by decide +kernel
theorem dX10_twoOf_144 : decode cX10_twoOf 144 = .ok (.iload 6, 2) := by decide +kernel
theorem dX10_twoOf_146 : decode cX10_twoOf 146 = .ok (.iaload, 1) := by decide +kernel
theorem dX10_twoOf_147 : decode cX10_twoOf 147 = .ok (.iadd, 1) := by decide +kernel
theorem dX10_twoOf_148 : decode cX10_twoOf 148 = .ok (.istore_n 3, 1) := by decide +kernel
theorem dX10_twoOf_149 : decode cX10_twoOf 149 = .ok (.iload 4, 2) := by decide +kernel
theorem dX10_twoOf_151 : decode cX10_twoOf 151 = .ok (.ifCond .lt 15, 3) := by decide +kernel
theorem dX10_twoOf_154 : decode cX10_twoOf 154 = .ok (.iload 5, 2) := by decide +kernel
theorem dX10_twoOf_156 : decode cX10_twoOf 156 = .ok (.iload 6, 2) := by decide +kernel
theorem dX10_twoOf_158 : decode cX10_twoOf 158 = .ok (.iload 4, 2) := by decide +kernel
theorem dX10_twoOf_160 : decode cX10_twoOf 160 = .ok (.isub, 1) := by decide +kernel
theorem dX10_twoOf_161 : decode cX10_twoOf 161 = .ok (.invokestatic 237, 3) := by decide +kernel
theorem dX10_twoOf_164 : decode cX10_twoOf 164 = .ok (.istore 5, 2) := by decide +kernel
theorem dX10_twoOf_166 : decode cX10_twoOf 166 = .ok (.iload 6, 2) := by decide +kernel
theorem dX10_twoOf_168 : decode cX10_twoOf 168 = .ok (.istore 4, 2) := by decide +kernel
theorem dX10_twoOf_170 : decode cX10_twoOf 170 = .ok (.iinc 6 1, 3) := by decide +kernel
theorem dX10_twoOf_173 : decode cX10_twoOf 173 = .ok (.goto (-55), 3) := by decide +kernel
theorem dX10_twoOf_176 : decode cX10_twoOf 176 = .ok (.iload_n 3, 1) := by decide +kernel
theorem dX10_twoOf_177 : decode cX10_twoOf 177 = .ok (.iconst 2, 1) := by decide +kernel
theorem dX10_twoOf_178 : decode cX10_twoOf 178 = .ok (.if_icmp .ge 8, 3) := by decide +kernel
theorem dX10_twoOf_181 : decode cX10_twoOf 181 = .ok (.bipush (-2), 2) := by decide +kernel
theorem dX10_twoOf_183 : decode cX10_twoOf 183 = .ok (.goto 5, 3) := by decide +kernel
theorem dX10_twoOf_186 : decode cX10_twoOf 186 = .ok (.iload 5, 2) := by decide +kernel
theorem dX10_twoOf_188 : decode cX10_twoOf 188 = .ok (.ireturn, 1) := by decide +kernel
set_option maxRecDepth 20000 in
theorem dX10_bestTwo_0 : decode cX10_bestTwo 0 = .ok (.iconst 0, 1) := by decide +kernel
theorem dX10_bestTwo_1 : decode cX10_bestTwo 1 = .ok (.istore_n 1, 1) := by decide +kernel
theorem dX10_bestTwo_2 : decode cX10_bestTwo 2 = .ok (.iconst (-1), 1) := by decide +kernel
theorem dX10_bestTwo_3 : decode cX10_bestTwo 3 = .ok (.istore_n 2, 1) := by decide +kernel
theorem dX10_bestTwo_4 : decode cX10_bestTwo 4 = .ok (.iconst 0, 1) := by decide +kernel
theorem dX10_bestTwo_5 : decode cX10_bestTwo 5 = .ok (.istore_n 3, 1) := by decide +kernel
theorem dX10_bestTwo_6 : decode cX10_bestTwo 6 = .ok (.iload_n 3, 1) := by decide +kernel
theorem dX10_bestTwo_7 : decode cX10_bestTwo 7 = .ok (.bipush 100, 2) := by decide +kernel
theorem dX10_bestTwo_9 : decode cX10_bestTwo 9 = .ok (.if_icmp .ge 62, 3) := by decide +kernel
theorem dX10_bestTwo_12 : decode cX10_bestTwo 12 = .ok (.iconst 0, 1) := by decide +kernel
theorem dX10_bestTwo_13 : decode cX10_bestTwo 13 = .ok (.istore 4, 2) := by decide +kernel
theorem dX10_bestTwo_15 : decode cX10_bestTwo 15 = .ok (.iconst 0, 1) := by decide +kernel
theorem dX10_bestTwo_16 : decode cX10_bestTwo 16 = .ok (.istore 5, 2) := by decide +kernel
theorem dX10_bestTwo_18 : decode cX10_bestTwo 18 = .ok (.iload 5, 2) := by decide +kernel
theorem dX10_bestTwo_20 : decode cX10_bestTwo 20 = .ok (.aload_n 0, 1) := by decide +kernel
theorem dX10_bestTwo_21 : decode cX10_bestTwo 21 = .ok (.getfield 120, 3) := by decide +kernel
theorem dX10_bestTwo_24 : decode cX10_bestTwo 24 = .ok (.if_icmp .ge 23, 3) := by decide +kernel
theorem dX10_bestTwo_27 : decode cX10_bestTwo 27 = .ok (.iload 4, 2) := by decide +kernel
theorem dX10_bestTwo_29 : decode cX10_bestTwo 29 = .ok (.aload_n 0, 1) := by decide +kernel
theorem dX10_bestTwo_30 : decode cX10_bestTwo 30 = .ok (.iload 5, 2) := by decide +kernel
theorem dX10_bestTwo_32 : decode cX10_bestTwo 32 = .ok (.iload_n 3, 1) := by decide +kernel
theorem dX10_bestTwo_33 : decode cX10_bestTwo 33 = .ok (.invokevirtual 316, 3) := by decide +kernel
theorem dX10_bestTwo_36 : decode cX10_bestTwo 36 = .ok (.invokestatic 237, 3) := by decide +kernel
theorem dX10_bestTwo_39 : decode cX10_bestTwo 39 = .ok (.istore 4, 2) := by decide +kernel
theorem dX10_bestTwo_41 : decode cX10_bestTwo 41 = .ok (.iinc 5 1, 3) := by decide +kernel
theorem dX10_bestTwo_44 : decode cX10_bestTwo 44 = .ok (.goto (-26), 3) := by decide +kernel
theorem dX10_bestTwo_47 : decode cX10_bestTwo 47 = .ok (.iload_n 2, 1) := by decide +kernel
theorem dX10_bestTwo_48 : decode cX10_bestTwo 48 = .ok (.ifCond .lt 12, 3) := by decide +kernel
theorem dX10_bestTwo_51 : decode cX10_bestTwo 51 = .ok (.iload 4, 2) := by decide +kernel
theorem dX10_bestTwo_53 : decode cX10_bestTwo 53 = .ok (.iload_n 2, 1) := by decide +kernel
theorem dX10_bestTwo_54 : decode cX10_bestTwo 54 = .ok (.if_icmp .lt 6, 3) := by decide +kernel
theorem dX10_bestTwo_57 : decode cX10_bestTwo 57 = .ok (.goto 8, 3) := by decide +kernel
theorem dX10_bestTwo_60 : decode cX10_bestTwo 60 = .ok (.iload 4, 2) := by decide +kernel
theorem dX10_bestTwo_62 : decode cX10_bestTwo 62 = .ok (.istore_n 2, 1) := by decide +kernel
theorem dX10_bestTwo_63 : decode cX10_bestTwo 63 = .ok (.iload_n 3, 1) := by decide +kernel
theorem dX10_bestTwo_64 : decode cX10_bestTwo 64 = .ok (.istore_n 1, 1) := by decide +kernel
theorem dX10_bestTwo_65 : decode cX10_bestTwo 65 = .ok (.iinc 3 1, 3) := by decide +kernel
theorem dX10_bestTwo_68 : decode cX10_bestTwo 68 = .ok (.goto (-62), 3) := by decide +kernel
theorem dX10_bestTwo_71 : decode cX10_bestTwo 71 = .ok (.iload_n 1, 1) := by decide +kernel
theorem dX10_bestTwo_72 : decode cX10_bestTwo 72 = .ok (.ireturn, 1) := by decide +kernel
set_option maxRecDepth 20000 in
theorem dX10_two_0 : decode cX10_two 0 = .ok (.iload_n 1, 1) := by decide +kernel
theorem dX10_two_1 : decode cX10_two 1 = .ok (.invokestatic 131, 3) := by decide +kernel
theorem dX10_two_4 : decode cX10_two 4 = .ok (.ifCond .eq 27, 3) := by decide +kernel
theorem dX10_two_7 : decode cX10_two 7 = .ok (.iload_n 2, 1) := by decide +kernel
theorem dX10_two_8 : decode cX10_two 8 = .ok (.iconst (-1), 1) := by decide +kernel
theorem dX10_two_9 : decode cX10_two 9 = .ok (.if_icmp .eq 24, 3) := by decide +kernel
theorem dX10_two_12 : decode cX10_two 12 = .ok (.aload_n 0, 1) := by decide +kernel
theorem dX10_two_13 : decode cX10_two 13 = .ok (.iload_n 2, 1) := by decide +kernel
theorem dX10_two_14 : decode cX10_two 14 = .ok (.i2l, 1) := by decide +kernel
theorem dX10_two_15 : decode cX10_two 15 = .ok (.invokevirtual 137, 3) := by decide +kernel
theorem dX10_two_18 : decode cX10_two 18 = .ok (.ifCond .eq 13, 3) := by decide +kernel
theorem dX10_two_21 : decode cX10_two 21 = .ok (.iload_n 3, 1) := by decide +kernel
theorem dX10_two_22 : decode cX10_two 22 = .ok (.iconst 0, 1) := by decide +kernel
theorem dX10_two_23 : decode cX10_two 23 = .ok (.bipush 99, 2) := by decide +kernel
theorem dX10_two_25 : decode cX10_two 25 = .ok (.invokestatic 123, 3) := by decide +kernel
theorem dX10_two_28 : decode cX10_two 28 = .ok (.ifCond .ne 5, 3) := by decide +kernel
theorem dX10_two_31 : decode cX10_two 31 = .ok (.iconst (-1), 1) := by decide +kernel
theorem dX10_two_32 : decode cX10_two 32 = .ok (.ireturn, 1) := by decide +kernel
theorem dX10_two_33 : decode cX10_two 33 = .ok (.aload_n 0, 1) := by decide +kernel
theorem dX10_two_34 : decode cX10_two 34 = .ok (.iload_n 1, 1) := by decide +kernel
theorem dX10_two_35 : decode cX10_two 35 = .ok (.iconst 0, 1) := by decide +kernel
theorem dX10_two_36 : decode cX10_two 36 = .ok (.invokevirtual 265, 3) := by decide +kernel
theorem dX10_two_39 : decode cX10_two 39 = .ok (.istore 4, 2) := by decide +kernel
theorem dX10_two_41 : decode cX10_two 41 = .ok (.iload 4, 2) := by decide +kernel
theorem dX10_two_43 : decode cX10_two 43 = .ok (.ifCond .ge 6, 3) := by decide +kernel
theorem dX10_two_46 : decode cX10_two 46 = .ok (.iload 4, 2) := by decide +kernel
theorem dX10_two_48 : decode cX10_two 48 = .ok (.ireturn, 1) := by decide +kernel
theorem dX10_two_49 : decode cX10_two 49 = .ok (.aload_n 0, 1) := by decide +kernel
theorem dX10_two_50 : decode cX10_two 50 = .ok (.iload_n 1, 1) := by decide +kernel
theorem dX10_two_51 : decode cX10_two 51 = .ok (.invokevirtual 268, 3) := by decide +kernel
theorem dX10_two_54 : decode cX10_two 54 = .ok (.aload_n 0, 1) := by decide +kernel
theorem dX10_two_55 : decode cX10_two 55 = .ok (.sipush 4000, 3) := by decide +kernel
theorem dX10_two_58 : decode cX10_two 58 = .ok (.invokevirtual 261, 3) := by decide +kernel
theorem dX10_two_61 : decode cX10_two 61 = .ok (.iload_n 2, 1) := by decide +kernel
theorem dX10_two_62 : decode cX10_two 62 = .ok (.iconst (-1), 1) := by decide +kernel
theorem dX10_two_63 : decode cX10_two 63 = .ok (.if_icmp .ne 10, 3) := by decide +kernel
theorem dX10_two_66 : decode cX10_two 66 = .ok (.aload_n 0, 1) := by decide +kernel
theorem dX10_two_67 : decode cX10_two 67 = .ok (.invokevirtual 319, 3) := by decide +kernel
theorem dX10_two_70 : decode cX10_two 70 = .ok (.goto 9, 3) := by decide +kernel
theorem dX10_two_73 : decode cX10_two 73 = .ok (.aload_n 0, 1) := by decide +kernel
theorem dX10_two_74 : decode cX10_two 74 = .ok (.iload_n 2, 1) := by decide +kernel
theorem dX10_two_75 : decode cX10_two 75 = .ok (.iload_n 3, 1) := by decide +kernel
theorem dX10_two_76 : decode cX10_two 76 = .ok (.invokevirtual 316, 3) := by decide +kernel
theorem dX10_two_79 : decode cX10_two 79 = .ok (.ireturn, 1) := by decide +kernel
set_option maxRecDepth 20000 in
theorem dX10_bothWays_0 : decode cX10_bothWays 0 = .ok (.aload_n 0, 1) := by decide +kernel
theorem dX10_bothWays_1 : decode cX10_bothWays 1 = .ok (.invokevirtual 277, 3) := by decide +kernel
theorem dX10_bothWays_4 : decode cX10_bothWays 4 = .ok (.iconst 0, 1) := by decide +kernel
theorem dX10_bothWays_5 : decode cX10_bothWays 5 = .ok (.istore_n 2, 1) := by decide +kernel
theorem dX10_bothWays_6 : decode cX10_bothWays 6 = .ok (.iload_n 2, 1) := by decide +kernel
theorem dX10_bothWays_7 : decode cX10_bothWays 7 = .ok (.sipush 2000, 3) := by decide +kernel
theorem dX10_bothWays_10 : decode cX10_bothWays 10 = .ok (.if_icmp .ge 21, 3) := by decide +kernel
theorem dX10_bothWays_13 : decode cX10_bothWays 13 = .ok (.aload_n 0, 1) := by decide +kernel
theorem dX10_bothWays_14 : decode cX10_bothWays 14 = .ok (.getfield 103, 3) := by decide +kernel
theorem dX10_bothWays_17 : decode cX10_bothWays 17 = .ok (.iload_n 2, 1) := by decide +kernel
theorem dX10_bothWays_18 : decode cX10_bothWays 18 = .ok (.aload_n 0, 1) := by decide +kernel
theorem dX10_bothWays_19 : decode cX10_bothWays 19 = .ok (.iload_n 1, 1) := by decide +kernel
theorem dX10_bothWays_20 : decode cX10_bothWays 20 = .ok (.iload_n 2, 1) := by decide +kernel
theorem dX10_bothWays_21 : decode cX10_bothWays 21 = .ok (.invokevirtual 283, 3) := by decide +kernel
theorem dX10_bothWays_24 : decode cX10_bothWays 24 = .ok (.bastore, 1) := by decide +kernel
theorem dX10_bothWays_25 : decode cX10_bothWays 25 = .ok (.iinc 2 1, 3) := by decide +kernel
theorem dX10_bothWays_28 : decode cX10_bothWays 28 = .ok (.goto (-22), 3) := by decide +kernel
theorem dX10_bothWays_31 : decode cX10_bothWays 31 = .ok (.aload_n 0, 1) := by decide +kernel
theorem dX10_bothWays_32 : decode cX10_bothWays 32 = .ok (.invokevirtual 322, 3) := by decide +kernel
theorem dX10_bothWays_35 : decode cX10_bothWays 35 = .ok (.aload_n 0, 1) := by decide +kernel
theorem dX10_bothWays_36 : decode cX10_bothWays 36 = .ok (.invokevirtual 277, 3) := by decide +kernel
theorem dX10_bothWays_39 : decode cX10_bothWays 39 = .ok (.iconst 0, 1) := by decide +kernel
theorem dX10_bothWays_40 : decode cX10_bothWays 40 = .ok (.istore_n 2, 1) := by decide +kernel
theorem dX10_bothWays_41 : decode cX10_bothWays 41 = .ok (.iload_n 2, 1) := by decide +kernel
theorem dX10_bothWays_42 : decode cX10_bothWays 42 = .ok (.sipush 2000, 3) := by decide +kernel
theorem dX10_bothWays_45 : decode cX10_bothWays 45 = .ok (.if_icmp .ge 25, 3) := by decide +kernel
theorem dX10_bothWays_48 : decode cX10_bothWays 48 = .ok (.aload_n 0, 1) := by decide +kernel
theorem dX10_bothWays_49 : decode cX10_bothWays 49 = .ok (.getfield 103, 3) := by decide +kernel
theorem dX10_bothWays_52 : decode cX10_bothWays 52 = .ok (.sipush 2000, 3) := by decide +kernel
theorem dX10_bothWays_55 : decode cX10_bothWays 55 = .ok (.iload_n 2, 1) := by decide +kernel
theorem dX10_bothWays_56 : decode cX10_bothWays 56 = .ok (.iadd, 1) := by decide +kernel
theorem dX10_bothWays_57 : decode cX10_bothWays 57 = .ok (.aload_n 0, 1) := by decide +kernel
theorem dX10_bothWays_58 : decode cX10_bothWays 58 = .ok (.iload_n 1, 1) := by decide +kernel
theorem dX10_bothWays_59 : decode cX10_bothWays 59 = .ok (.iload_n 2, 1) := by decide +kernel
theorem dX10_bothWays_60 : decode cX10_bothWays 60 = .ok (.invokevirtual 283, 3) := by decide +kernel
theorem dX10_bothWays_63 : decode cX10_bothWays 63 = .ok (.bastore, 1) := by decide +kernel
theorem dX10_bothWays_64 : decode cX10_bothWays 64 = .ok (.iinc 2 1, 3) := by decide +kernel
theorem dX10_bothWays_67 : decode cX10_bothWays 67 = .ok (.goto (-26), 3) := by decide +kernel
theorem dX10_bothWays_70 : decode cX10_bothWays 70 = .ok (.aload_n 0, 1) := by decide +kernel
theorem dX10_bothWays_71 : decode cX10_bothWays 71 = .ok (.invokevirtual 322, 3) := by decide +kernel
theorem dX10_bothWays_74 : decode cX10_bothWays 74 = .ok (.return_, 1) := by decide +kernel
theorem dX10_isFree_0 : decode cX10_isFree 0 = .ok (.iload_n 2, 1) := by decide +kernel
theorem dX10_isFree_1 : decode cX10_isFree 1 = .ok (.istore 4, 2) := by decide +kernel
theorem dX10_isFree_3 : decode cX10_isFree 3 = .ok (.iload 4, 2) := by decide +kernel
theorem dX10_isFree_5 : decode cX10_isFree 5 = .ok (.iload_n 2, 1) := by decide +kernel
theorem dX10_isFree_6 : decode cX10_isFree 6 = .ok (.iload_n 3, 1) := by decide +kernel
theorem dX10_isFree_7 : decode cX10_isFree 7 = .ok (.iadd, 1) := by decide +kernel
theorem dX10_isFree_8 : decode cX10_isFree 8 = .ok (.if_icmp .ge 27, 3) := by decide +kernel
theorem dX10_isFree_11 : decode cX10_isFree 11 = .ok (.aload_n 0, 1) := by decide +kernel
theorem dX10_isFree_12 : decode cX10_isFree 12 = .ok (.getfield 103, 3) := by decide +kernel
theorem dX10_isFree_15 : decode cX10_isFree 15 = .ok (.sipush 2000, 3) := by decide +kernel
theorem dX10_isFree_18 : decode cX10_isFree 18 = .ok (.iload_n 1, 1) := by decide +kernel
theorem dX10_isFree_19 : decode cX10_isFree 19 = .ok (.imul, 1) := by decide +kernel
theorem dX10_isFree_20 : decode cX10_isFree 20 = .ok (.iload 4, 2) := by decide +kernel
theorem dX10_isFree_22 : decode cX10_isFree 22 = .ok (.iadd, 1) := by decide +kernel
theorem dX10_isFree_23 : decode cX10_isFree 23 = .ok (.baload, 1) := by decide +kernel
theorem dX10_isFree_24 : decode cX10_isFree 24 = .ok (.ifCond .eq 5, 3) := by decide +kernel
theorem dX10_isFree_27 : decode cX10_isFree 27 = .ok (.iconst 0, 1) := by decide +kernel
theorem dX10_isFree_28 : decode cX10_isFree 28 = .ok (.ireturn, 1) := by decide +kernel
theorem dX10_isFree_29 : decode cX10_isFree 29 = .ok (.iinc 4 1, 3) := by decide +kernel
theorem dX10_isFree_32 : decode cX10_isFree 32 = .ok (.goto (-29), 3) := by decide +kernel
theorem dX10_isFree_35 : decode cX10_isFree 35 = .ok (.iconst 1, 1) := by decide +kernel
theorem dX10_isFree_36 : decode cX10_isFree 36 = .ok (.ireturn, 1) := by decide +kernel
set_option maxRecDepth 20000 in
theorem dX10_succeeds_0 : decode cX10_succeeds 0 = .ok (.aload_n 0, 1) := by decide +kernel
theorem dX10_succeeds_1 : decode cX10_succeeds 1 = .ok (.iconst 0, 1) := by decide +kernel
theorem dX10_succeeds_2 : decode cX10_succeeds 2 = .ok (.iload_n 1, 1) := by decide +kernel
theorem dX10_succeeds_3 : decode cX10_succeeds 3 = .ok (.iload_n 3, 1) := by decide +kernel
theorem dX10_succeeds_4 : decode cX10_succeeds 4 = .ok (.invokevirtual 325, 3) := by decide +kernel
theorem dX10_succeeds_7 : decode cX10_succeeds 7 = .ok (.ifCond .eq 7, 3) := by decide +kernel
theorem dX10_succeeds_10 : decode cX10_succeeds 10 = .ok (.iload_n 2, 1) := by decide +kernel
theorem dX10_succeeds_11 : decode cX10_succeeds 11 = .ok (.goto 4, 3) := by decide +kernel
theorem dX10_succeeds_14 : decode cX10_succeeds 14 = .ok (.iconst 0, 1) := by decide +kernel
theorem dX10_succeeds_15 : decode cX10_succeeds 15 = .ok (.aload_n 0, 1) := by decide +kernel
theorem dX10_succeeds_16 : decode cX10_succeeds 16 = .ok (.iconst 1, 1) := by decide +kernel
theorem dX10_succeeds_17 : decode cX10_succeeds 17 = .ok (.iload_n 1, 1) := by decide +kernel
theorem dX10_succeeds_18 : decode cX10_succeeds 18 = .ok (.iload_n 3, 1) := by decide +kernel
theorem dX10_succeeds_19 : decode cX10_succeeds 19 = .ok (.invokevirtual 325, 3) := by decide +kernel
theorem dX10_succeeds_22 : decode cX10_succeeds 22 = .ok (.ifCond .eq 10, 3) := by decide +kernel
theorem dX10_succeeds_25 : decode cX10_succeeds 25 = .ok (.bipush 12, 2) := by decide +kernel
theorem dX10_succeeds_27 : decode cX10_succeeds 27 = .ok (.iload_n 2, 1) := by decide +kernel
theorem dX10_succeeds_28 : decode cX10_succeeds 28 = .ok (.isub, 1) := by decide +kernel
theorem dX10_succeeds_29 : decode cX10_succeeds 29 = .ok (.goto 4, 3) := by decide +kernel
theorem dX10_succeeds_32 : decode cX10_succeeds 32 = .ok (.iconst 0, 1) := by decide +kernel
theorem dX10_succeeds_33 : decode cX10_succeeds 33 = .ok (.iadd, 1) := by decide +kernel
theorem dX10_succeeds_34 : decode cX10_succeeds 34 = .ok (.ireturn, 1) := by decide +kernel
theorem dX10_isMix_0 : decode cX10_isMix 0 = .ok (.iload_n 0, 1) := by decide +kernel
theorem dX10_isMix_1 : decode cX10_isMix 1 = .ok (.ifCond .lt 23, 3) := by decide +kernel
theorem dX10_isMix_4 : decode cX10_isMix 4 = .ok (.iload_n 0, 1) := by decide +kernel
theorem dX10_isMix_5 : decode cX10_isMix 5 = .ok (.bipush 100, 2) := by decide +kernel
theorem dX10_isMix_7 : decode cX10_isMix 7 = .ok (.idiv, 1) := by decide +kernel
theorem dX10_isMix_8 : decode cX10_isMix 8 = .ok (.bipush 13, 2) := by decide +kernel
theorem dX10_isMix_10 : decode cX10_isMix 10 = .ok (.if_icmp .ge 14, 3) := by decide +kernel
theorem dX10_isMix_13 : decode cX10_isMix 13 = .ok (.iload_n 0, 1) := by decide +kernel
theorem dX10_isMix_14 : decode cX10_isMix 14 = .ok (.bipush 100, 2) := by decide +kernel
theorem dX10_isMix_16 : decode cX10_isMix 16 = .ok (.irem, 1) := by decide +kernel
theorem dX10_isMix_17 : decode cX10_isMix 17 = .ok (.ifCond .le 7, 3) := by decide +kernel
theorem dX10_isMix_20 : decode cX10_isMix 20 = .ok (.iconst 1, 1) := by decide +kernel
theorem dX10_isMix_21 : decode cX10_isMix 21 = .ok (.goto 4, 3) := by decide +kernel
theorem dX10_isMix_24 : decode cX10_isMix 24 = .ok (.iconst 0, 1) := by decide +kernel
theorem dX10_isMix_25 : decode cX10_isMix 25 = .ok (.ireturn, 1) := by decide +kernel
set_option maxRecDepth 20000 in
theorem dX10_success_0 : decode cX10_success 0 = .ok (.iload_n 1, 1) := by decide +kernel
theorem dX10_success_1 : decode cX10_success 1 = .ok (.invokestatic 131, 3) := by decide +kernel
theorem dX10_success_4 : decode cX10_success 4 = .ok (.ifCond .eq 31, 3) := by decide +kernel
theorem dX10_success_7 : decode cX10_success 7 = .ok (.aload_n 0, 1) := by decide +kernel
theorem dX10_success_8 : decode cX10_success 8 = .ok (.iload_n 2, 1) := by decide +kernel
theorem dX10_success_9 : decode cX10_success 9 = .ok (.i2l, 1) := by decide +kernel
theorem dX10_success_10 : decode cX10_success 10 = .ok (.invokevirtual 137, 3) := by decide +kernel
theorem dX10_success_13 : decode cX10_success 13 = .ok (.ifCond .eq 22, 3) := by decide +kernel
theorem dX10_success_16 : decode cX10_success 16 = .ok (.iload_n 3, 1) := by decide +kernel
theorem dX10_success_17 : decode cX10_success 17 = .ok (.iconst 0, 1) := by decide +kernel
theorem dX10_success_18 : decode cX10_success 18 = .ok (.sipush 599, 3) := by decide +kernel
theorem dX10_success_21 : decode cX10_success 21 = .ok (.invokestatic 123, 3) := by decide +kernel
theorem dX10_success_24 : decode cX10_success 24 = .ok (.ifCond .eq 11, 3) := by decide +kernel
theorem dX10_success_27 : decode cX10_success 27 = .ok (.iload 4, 2) := by decide +kernel
theorem dX10_success_29 : decode cX10_success 29 = .ok (.invokestatic 328, 3) := by decide +kernel
theorem dX10_success_32 : decode cX10_success 32 = .ok (.ifCond .ne 5, 3) := by decide +kernel
theorem dX10_success_35 : decode cX10_success 35 = .ok (.iconst (-1), 1) := by decide +kernel
theorem dX10_success_36 : decode cX10_success 36 = .ok (.ireturn, 1) := by decide +kernel
theorem dX10_success_37 : decode cX10_success 37 = .ok (.aload_n 0, 1) := by decide +kernel
theorem dX10_success_38 : decode cX10_success 38 = .ok (.iload_n 1, 1) := by decide +kernel
theorem dX10_success_39 : decode cX10_success 39 = .ok (.iconst 0, 1) := by decide +kernel
theorem dX10_success_40 : decode cX10_success 40 = .ok (.invokevirtual 265, 3) := by decide +kernel
theorem dX10_success_43 : decode cX10_success 43 = .ok (.istore 5, 2) := by decide +kernel
theorem dX10_success_45 : decode cX10_success 45 = .ok (.iload 5, 2) := by decide +kernel
theorem dX10_success_47 : decode cX10_success 47 = .ok (.ifCond .ge 6, 3) := by decide +kernel
theorem dX10_success_50 : decode cX10_success 50 = .ok (.iload 5, 2) := by decide +kernel
theorem dX10_success_52 : decode cX10_success 52 = .ok (.ireturn, 1) := by decide +kernel
theorem dX10_success_53 : decode cX10_success 53 = .ok (.aload_n 0, 1) := by decide +kernel
theorem dX10_success_54 : decode cX10_success 54 = .ok (.iload_n 1, 1) := by decide +kernel
theorem dX10_success_55 : decode cX10_success 55 = .ok (.invokevirtual 268, 3) := by decide +kernel
theorem dX10_success_58 : decode cX10_success 58 = .ok (.aload_n 0, 1) := by decide +kernel
theorem dX10_success_59 : decode cX10_success 59 = .ok (.iload_n 2, 1) := by decide +kernel
theorem dX10_success_60 : decode cX10_success 60 = .ok (.invokevirtual 331, 3) := by decide +kernel
theorem dX10_success_63 : decode cX10_success 63 = .ok (.aload_n 0, 1) := by decide +kernel
theorem dX10_success_64 : decode cX10_success 64 = .ok (.iload_n 3, 1) := by decide +kernel
theorem dX10_success_65 : decode cX10_success 65 = .ok (.iload 4, 2) := by decide +kernel
theorem dX10_success_67 : decode cX10_success 67 = .ok (.bipush 100, 2) := by decide +kernel
theorem dX10_success_69 : decode cX10_success 69 = .ok (.idiv, 1) := by decide +kernel
theorem dX10_success_70 : decode cX10_success 70 = .ok (.iload 4, 2) := by decide +kernel
theorem dX10_success_72 : decode cX10_success 72 = .ok (.bipush 100, 2) := by decide +kernel
theorem dX10_success_74 : decode cX10_success 74 = .ok (.irem, 1) := by decide +kernel
theorem dX10_success_75 : decode cX10_success 75 = .ok (.invokevirtual 334, 3) := by decide +kernel
theorem dX10_success_78 : decode cX10_success 78 = .ok (.ireturn, 1) := by decide +kernel
set_option maxRecDepth 20000 in
theorem dX10_bestMinute_0 : decode cX10_bestMinute 0 = .ok (.iconst 0, 1) := by decide +kernel
theorem dX10_bestMinute_1 : decode cX10_bestMinute 1 = .ok (.istore_n 3, 1) := by decide +kernel
theorem dX10_bestMinute_2 : decode cX10_bestMinute 2 = .ok (.iconst (-1), 1) := by decide +kernel
theorem dX10_bestMinute_3 : decode cX10_bestMinute 3 = .ok (.istore 4, 2) := by decide +kernel
theorem dX10_bestMinute_5 : decode cX10_bestMinute 5 = .ok (.iconst 0, 1) := by decide +kernel
theorem dX10_bestMinute_6 : decode cX10_bestMinute 6 = .ok (.istore 5, 2) := by decide +kernel
theorem dX10_bestMinute_8 : decode cX10_bestMinute 8 = .ok (.iload 5, 2) := by decide +kernel
theorem dX10_bestMinute_10 : decode cX10_bestMinute 10 = .ok (.sipush 600, 3) := by decide +kernel
theorem dX10_bestMinute_13 : decode cX10_bestMinute 13 = .ok (.if_icmp .ge 36, 3) := by decide +kernel
theorem dX10_bestMinute_16 : decode cX10_bestMinute 16 = .ok (.aload_n 0, 1) := by decide +kernel
theorem dX10_bestMinute_17 : decode cX10_bestMinute 17 = .ok (.iload 5, 2) := by decide +kernel
theorem dX10_bestMinute_19 : decode cX10_bestMinute 19 = .ok (.iload_n 1, 1) := by decide +kernel
theorem dX10_bestMinute_20 : decode cX10_bestMinute 20 = .ok (.iload_n 2, 1) := by decide +kernel
theorem dX10_bestMinute_21 : decode cX10_bestMinute 21 = .ok (.invokevirtual 334, 3) := by decide +kernel
theorem dX10_bestMinute_24 : decode cX10_bestMinute 24 = .ok (.istore 6, 2) := by decide +kernel
theorem dX10_bestMinute_26 : decode cX10_bestMinute 26 = .ok (.iload 6, 2) := by decide +kernel
theorem dX10_bestMinute_28 : decode cX10_bestMinute 28 = .ok (.iload 4, 2) := by decide +kernel
theorem dX10_bestMinute_30 : decode cX10_bestMinute 30 = .ok (.if_icmp .gt 6, 3) := by decide +kernel
theorem dX10_bestMinute_33 : decode cX10_bestMinute 33 = .ok (.goto 10, 3) := by decide +kernel
theorem dX10_bestMinute_36 : decode cX10_bestMinute 36 = .ok (.iload 6, 2) := by decide +kernel
theorem dX10_bestMinute_38 : decode cX10_bestMinute 38 = .ok (.istore 4, 2) := by decide +kernel
theorem dX10_bestMinute_40 : decode cX10_bestMinute 40 = .ok (.iload 5, 2) := by decide +kernel
theorem dX10_bestMinute_42 : decode cX10_bestMinute 42 = .ok (.istore_n 3, 1) := by decide +kernel
theorem dX10_bestMinute_43 : decode cX10_bestMinute 43 = .ok (.iinc 5 1, 3) := by decide +kernel
theorem dX10_bestMinute_46 : decode cX10_bestMinute 46 = .ok (.goto (-38), 3) := by decide +kernel
theorem dX10_bestMinute_49 : decode cX10_bestMinute 49 = .ok (.iload_n 3, 1) := by decide +kernel
theorem dX10_bestMinute_50 : decode cX10_bestMinute 50 = .ok (.ireturn, 1) := by decide +kernel
set_option maxRecDepth 20000 in
theorem dX10_bestMinute__0 : decode cX10_bestMinute_ 0 = .ok (.iload_n 1, 1) := by decide +kernel
theorem dX10_bestMinute__1 : decode cX10_bestMinute_ 1 = .ok (.invokestatic 131, 3) := by decide +kernel
theorem dX10_bestMinute__4 : decode cX10_bestMinute_ 4 = .ok (.ifCond .eq 29, 3) := by decide +kernel
theorem dX10_bestMinute__7 : decode cX10_bestMinute_ 7 = .ok (.aload_n 0, 1) := by decide +kernel
theorem dX10_bestMinute__8 : decode cX10_bestMinute_ 8 = .ok (.iload_n 2, 1) := by decide +kernel
theorem dX10_bestMinute__9 : decode cX10_bestMinute_ 9 = .ok (.i2l, 1) := by decide +kernel
theorem dX10_bestMinute__10 : decode cX10_bestMinute_ 10 = .ok (.invokevirtual 137, 3) := by decide +kernel
theorem dX10_bestMinute__13 : decode cX10_bestMinute_ 13 = .ok (.ifCond .eq 20, 3) := by decide +kernel
theorem dX10_bestMinute__16 : decode cX10_bestMinute_ 16 = .ok (.iload_n 3, 1) := by decide +kernel
theorem dX10_bestMinute__17 : decode cX10_bestMinute_ 17 = .ok (.invokestatic 328, 3) := by decide +kernel
theorem dX10_bestMinute__20 : decode cX10_bestMinute_ 20 = .ok (.ifCond .eq 13, 3) := by decide +kernel
theorem dX10_bestMinute__23 : decode cX10_bestMinute_ 23 = .ok (.iload 4, 2) := by decide +kernel
theorem dX10_bestMinute__25 : decode cX10_bestMinute_ 25 = .ok (.iconst 0, 1) := by decide +kernel
theorem dX10_bestMinute__26 : decode cX10_bestMinute_ 26 = .ok (.iconst 1, 1) := by decide +kernel
theorem dX10_bestMinute__27 : decode cX10_bestMinute_ 27 = .ok (.invokestatic 123, 3) := by decide +kernel
theorem dX10_bestMinute__30 : decode cX10_bestMinute_ 30 = .ok (.ifCond .ne 5, 3) := by decide +kernel
theorem dX10_bestMinute__33 : decode cX10_bestMinute_ 33 = .ok (.iconst (-1), 1) := by decide +kernel
theorem dX10_bestMinute__34 : decode cX10_bestMinute_ 34 = .ok (.ireturn, 1) := by decide +kernel
theorem dX10_bestMinute__35 : decode cX10_bestMinute_ 35 = .ok (.aload_n 0, 1) := by decide +kernel
theorem dX10_bestMinute__36 : decode cX10_bestMinute_ 36 = .ok (.iload_n 1, 1) := by decide +kernel
theorem dX10_bestMinute__37 : decode cX10_bestMinute_ 37 = .ok (.iconst 0, 1) := by decide +kernel
theorem dX10_bestMinute__38 : decode cX10_bestMinute_ 38 = .ok (.invokevirtual 265, 3) := by decide +kernel
theorem dX10_bestMinute__41 : decode cX10_bestMinute_ 41 = .ok (.istore 5, 2) := by decide +kernel
theorem dX10_bestMinute__43 : decode cX10_bestMinute_ 43 = .ok (.iload 5, 2) := by decide +kernel
theorem dX10_bestMinute__45 : decode cX10_bestMinute_ 45 = .ok (.ifCond .ge 6, 3) := by decide +kernel
theorem dX10_bestMinute__48 : decode cX10_bestMinute_ 48 = .ok (.iload 5, 2) := by decide +kernel
theorem dX10_bestMinute__50 : decode cX10_bestMinute_ 50 = .ok (.ireturn, 1) := by decide +kernel
theorem dX10_bestMinute__51 : decode cX10_bestMinute_ 51 = .ok (.aload_n 0, 1) := by decide +kernel
theorem dX10_bestMinute__52 : decode cX10_bestMinute_ 52 = .ok (.iload_n 1, 1) := by decide +kernel
theorem dX10_bestMinute__53 : decode cX10_bestMinute_ 53 = .ok (.invokevirtual 268, 3) := by decide +kernel
theorem dX10_bestMinute__56 : decode cX10_bestMinute_ 56 = .ok (.aload_n 0, 1) := by decide +kernel
theorem dX10_bestMinute__57 : decode cX10_bestMinute_ 57 = .ok (.iload_n 2, 1) := by decide +kernel
theorem dX10_bestMinute__58 : decode cX10_bestMinute_ 58 = .ok (.invokevirtual 331, 3) := by decide +kernel
theorem dX10_bestMinute__61 : decode cX10_bestMinute_ 61 = .ok (.aload_n 0, 1) := by decide +kernel
theorem dX10_bestMinute__62 : decode cX10_bestMinute_ 62 = .ok (.iload_n 3, 1) := by decide +kernel
theorem dX10_bestMinute__63 : decode cX10_bestMinute_ 63 = .ok (.bipush 100, 2) := by decide +kernel
theorem dX10_bestMinute__65 : decode cX10_bestMinute_ 65 = .ok (.idiv, 1) := by decide +kernel
theorem dX10_bestMinute__66 : decode cX10_bestMinute_ 66 = .ok (.iload_n 3, 1) := by decide +kernel
theorem dX10_bestMinute__67 : decode cX10_bestMinute_ 67 = .ok (.bipush 100, 2) := by decide +kernel
theorem dX10_bestMinute__69 : decode cX10_bestMinute_ 69 = .ok (.irem, 1) := by decide +kernel
theorem dX10_bestMinute__70 : decode cX10_bestMinute_ 70 = .ok (.invokevirtual 337, 3) := by decide +kernel
theorem dX10_bestMinute__73 : decode cX10_bestMinute_ 73 = .ok (.istore 6, 2) := by decide +kernel
theorem dX10_bestMinute__75 : decode cX10_bestMinute_ 75 = .ok (.iload 4, 2) := by decide +kernel
theorem dX10_bestMinute__77 : decode cX10_bestMinute_ 77 = .ok (.ifCond .ne 8, 3) := by decide +kernel
theorem dX10_bestMinute__80 : decode cX10_bestMinute_ 80 = .ok (.iload 6, 2) := by decide +kernel
theorem dX10_bestMinute__82 : decode cX10_bestMinute_ 82 = .ok (.goto 17, 3) := by decide +kernel
theorem dX10_bestMinute__85 : decode cX10_bestMinute_ 85 = .ok (.aload_n 0, 1) := by decide +kernel
theorem dX10_bestMinute__86 : decode cX10_bestMinute_ 86 = .ok (.iload 6, 2) := by decide +kernel
theorem dX10_bestMinute__88 : decode cX10_bestMinute_ 88 = .ok (.iload_n 3, 1) := by decide +kernel
theorem dX10_bestMinute__89 : decode cX10_bestMinute_ 89 = .ok (.bipush 100, 2) := by decide +kernel
theorem dX10_bestMinute__91 : decode cX10_bestMinute_ 91 = .ok (.idiv, 1) := by decide +kernel
theorem dX10_bestMinute__92 : decode cX10_bestMinute_ 92 = .ok (.iload_n 3, 1) := by decide +kernel
theorem dX10_bestMinute__93 : decode cX10_bestMinute_ 93 = .ok (.bipush 100, 2) := by decide +kernel
theorem dX10_bestMinute__95 : decode cX10_bestMinute_ 95 = .ok (.irem, 1) := by decide +kernel
theorem dX10_bestMinute__96 : decode cX10_bestMinute_ 96 = .ok (.invokevirtual 334, 3) := by decide +kernel
theorem dX10_bestMinute__99 : decode cX10_bestMinute_ 99 = .ok (.ireturn, 1) := by decide +kernel
set_option maxRecDepth 20000 in
theorem dX10_mix_0 : decode cX10_mix 0 = .ok (.iload_n 1, 1) := by decide +kernel
theorem dX10_mix_1 : decode cX10_mix 1 = .ok (.invokestatic 131, 3) := by decide +kernel
theorem dX10_mix_4 : decode cX10_mix 4 = .ok (.ifCond .eq 22, 3) := by decide +kernel
theorem dX10_mix_7 : decode cX10_mix 7 = .ok (.aload_n 0, 1) := by decide +kernel
theorem dX10_mix_8 : decode cX10_mix 8 = .ok (.iload_n 2, 1) := by decide +kernel
theorem dX10_mix_9 : decode cX10_mix 9 = .ok (.i2l, 1) := by decide +kernel
theorem dX10_mix_10 : decode cX10_mix 10 = .ok (.invokevirtual 137, 3) := by decide +kernel
theorem dX10_mix_13 : decode cX10_mix 13 = .ok (.ifCond .eq 13, 3) := by decide +kernel
theorem dX10_mix_16 : decode cX10_mix 16 = .ok (.iload_n 3, 1) := by decide +kernel
theorem dX10_mix_17 : decode cX10_mix 17 = .ok (.iconst 1, 1) := by decide +kernel
theorem dX10_mix_18 : decode cX10_mix 18 = .ok (.bipush 99, 2) := by decide +kernel
theorem dX10_mix_20 : decode cX10_mix 20 = .ok (.invokestatic 123, 3) := by decide +kernel
theorem dX10_mix_23 : decode cX10_mix 23 = .ok (.ifCond .ne 5, 3) := by decide +kernel
theorem dX10_mix_26 : decode cX10_mix 26 = .ok (.iconst (-1), 1) := by decide +kernel
theorem dX10_mix_27 : decode cX10_mix 27 = .ok (.ireturn, 1) := by decide +kernel
theorem dX10_mix_28 : decode cX10_mix 28 = .ok (.aload_n 0, 1) := by decide +kernel
theorem dX10_mix_29 : decode cX10_mix 29 = .ok (.iload_n 1, 1) := by decide +kernel
theorem dX10_mix_30 : decode cX10_mix 30 = .ok (.iconst 0, 1) := by decide +kernel
theorem dX10_mix_31 : decode cX10_mix 31 = .ok (.invokevirtual 265, 3) := by decide +kernel
theorem dX10_mix_34 : decode cX10_mix 34 = .ok (.istore 4, 2) := by decide +kernel
theorem dX10_mix_36 : decode cX10_mix 36 = .ok (.iload 4, 2) := by decide +kernel
theorem dX10_mix_38 : decode cX10_mix 38 = .ok (.ifCond .ge 6, 3) := by decide +kernel
theorem dX10_mix_41 : decode cX10_mix 41 = .ok (.iload 4, 2) := by decide +kernel
theorem dX10_mix_43 : decode cX10_mix 43 = .ok (.ireturn, 1) := by decide +kernel
theorem dX10_mix_44 : decode cX10_mix 44 = .ok (.aload_n 0, 1) := by decide +kernel
theorem dX10_mix_45 : decode cX10_mix 45 = .ok (.iload_n 1, 1) := by decide +kernel
theorem dX10_mix_46 : decode cX10_mix 46 = .ok (.invokevirtual 268, 3) := by decide +kernel
theorem dX10_mix_49 : decode cX10_mix 49 = .ok (.aload_n 0, 1) := by decide +kernel
theorem dX10_mix_50 : decode cX10_mix 50 = .ok (.iload_n 2, 1) := by decide +kernel
theorem dX10_mix_51 : decode cX10_mix 51 = .ok (.invokevirtual 331, 3) := by decide +kernel
theorem dX10_mix_54 : decode cX10_mix 54 = .ok (.iconst 0, 1) := by decide +kernel
theorem dX10_mix_55 : decode cX10_mix 55 = .ok (.istore 5, 2) := by decide +kernel
theorem dX10_mix_57 : decode cX10_mix 57 = .ok (.bipush 99, 2) := by decide +kernel
theorem dX10_mix_59 : decode cX10_mix 59 = .ok (.istore 6, 2) := by decide +kernel
theorem dX10_mix_61 : decode cX10_mix 61 = .ok (.iconst 0, 1) := by decide +kernel
theorem dX10_mix_62 : decode cX10_mix 62 = .ok (.istore 7, 2) := by decide +kernel
theorem dX10_mix_64 : decode cX10_mix 64 = .ok (.iload 7, 2) := by decide +kernel
theorem dX10_mix_66 : decode cX10_mix 66 = .ok (.bipush 13, 2) := by decide +kernel
theorem dX10_mix_68 : decode cX10_mix 68 = .ok (.if_icmp .ge 43, 3) := by decide +kernel
theorem dX10_mix_71 : decode cX10_mix 71 = .ok (.aload_n 0, 1) := by decide +kernel
theorem dX10_mix_72 : decode cX10_mix 72 = .ok (.aload_n 0, 1) := by decide +kernel
theorem dX10_mix_73 : decode cX10_mix 73 = .ok (.iload 7, 2) := by decide +kernel
theorem dX10_mix_75 : decode cX10_mix 75 = .ok (.iload_n 3, 1) := by decide +kernel
theorem dX10_mix_76 : decode cX10_mix 76 = .ok (.invokevirtual 337, 3) := by decide +kernel
theorem dX10_mix_79 : decode cX10_mix 79 = .ok (.iload 7, 2) := by decide +kernel
theorem dX10_mix_81 : decode cX10_mix 81 = .ok (.iload_n 3, 1) := by decide +kernel
theorem dX10_mix_82 : decode cX10_mix 82 = .ok (.invokevirtual 334, 3) := by decide +kernel
theorem dX10_mix_85 : decode cX10_mix 85 = .ok (.istore 8, 2) := by decide +kernel
theorem dX10_mix_87 : decode cX10_mix 87 = .ok (.iload 8, 2) := by decide +kernel
theorem dX10_mix_89 : decode cX10_mix 89 = .ok (.iload 6, 2) := by decide +kernel
theorem dX10_mix_91 : decode cX10_mix 91 = .ok (.if_icmp .lt 6, 3) := by decide +kernel
theorem dX10_mix_94 : decode cX10_mix 94 = .ok (.goto 11, 3) := by decide +kernel
theorem dX10_mix_97 : decode cX10_mix 97 = .ok (.iload 8, 2) := by decide +kernel
theorem dX10_mix_99 : decode cX10_mix 99 = .ok (.istore 6, 2) := by decide +kernel
theorem dX10_mix_101 : decode cX10_mix 101 = .ok (.iload 7, 2) := by decide +kernel
theorem dX10_mix_103 : decode cX10_mix 103 = .ok (.istore 5, 2) := by decide +kernel
theorem dX10_mix_105 : decode cX10_mix 105 = .ok (.iinc 7 1, 3) := by decide +kernel
theorem dX10_mix_108 : decode cX10_mix 108 = .ok (.goto (-44), 3) := by decide +kernel
theorem dX10_mix_111 : decode cX10_mix 111 = .ok (.iload 5, 2) := by decide +kernel
theorem dX10_mix_113 : decode cX10_mix 113 = .ok (.ireturn, 1) := by decide +kernel
set_option maxRecDepth 20000 in
theorem dX10_later_0 : decode cX10_later 0 = .ok (.iconst 2, 1) := by decide +kernel
theorem dX10_later_1 : decode cX10_later 1 = .ok (.iload_n 2, 1) := by decide +kernel
theorem dX10_later_2 : decode cX10_later 2 = .ok (.imul, 1) := by decide +kernel
theorem dX10_later_3 : decode cX10_later 3 = .ok (.iconst 1, 1) := by decide +kernel
theorem dX10_later_4 : decode cX10_later 4 = .ok (.iadd, 1) := by decide +kernel
theorem dX10_later_5 : decode cX10_later 5 = .ok (.aload_n 0, 1) := by decide +kernel
theorem dX10_later_6 : decode cX10_later 6 = .ok (.getfield 84, 3) := by decide +kernel
theorem dX10_later_9 : decode cX10_later 9 = .ok (.iload_n 1, 1) := by decide +kernel
theorem dX10_later_10 : decode cX10_later 10 = .ok (.iaload, 1) := by decide +kernel
theorem dX10_later_11 : decode cX10_later 11 = .ok (.if_icmp .lt 7, 3) := by decide +kernel
theorem dX10_later_14 : decode cX10_later 14 = .ok (.sipush (-9999), 3) := by decide +kernel
theorem dX10_later_17 : decode cX10_later 17 = .ok (.ireturn, 1) := by decide +kernel
theorem dX10_later_18 : decode cX10_later 18 = .ok (.aload_n 0, 1) := by decide +kernel
theorem dX10_later_19 : decode cX10_later 19 = .ok (.iload_n 1, 1) := by decide +kernel
theorem dX10_later_20 : decode cX10_later 20 = .ok (.iconst 2, 1) := by decide +kernel
theorem dX10_later_21 : decode cX10_later 21 = .ok (.iload_n 2, 1) := by decide +kernel
theorem dX10_later_22 : decode cX10_later 22 = .ok (.imul, 1) := by decide +kernel
theorem dX10_later_23 : decode cX10_later 23 = .ok (.invokevirtual 252, 3) := by decide +kernel
theorem dX10_later_26 : decode cX10_later 26 = .ok (.istore_n 3, 1) := by decide +kernel
theorem dX10_later_27 : decode cX10_later 27 = .ok (.aload_n 0, 1) := by decide +kernel
theorem dX10_later_28 : decode cX10_later 28 = .ok (.iload_n 1, 1) := by decide +kernel
theorem dX10_later_29 : decode cX10_later 29 = .ok (.iconst 2, 1) := by decide +kernel
theorem dX10_later_30 : decode cX10_later 30 = .ok (.iload_n 2, 1) := by decide +kernel
theorem dX10_later_31 : decode cX10_later 31 = .ok (.imul, 1) := by decide +kernel
theorem dX10_later_32 : decode cX10_later 32 = .ok (.iconst 1, 1) := by decide +kernel
theorem dX10_later_33 : decode cX10_later 33 = .ok (.iadd, 1) := by decide +kernel
theorem dX10_later_34 : decode cX10_later 34 = .ok (.invokevirtual 252, 3) := by decide +kernel
theorem dX10_later_37 : decode cX10_later 37 = .ok (.istore 4, 2) := by decide +kernel
theorem dX10_later_39 : decode cX10_later 39 = .ok (.aload_n 0, 1) := by decide +kernel
theorem dX10_later_40 : decode cX10_later 40 = .ok (.iload_n 3, 1) := by decide +kernel
theorem dX10_later_41 : decode cX10_later 41 = .ok (.i2l, 1) := by decide +kernel
theorem dX10_later_42 : decode cX10_later 42 = .ok (.invokevirtual 137, 3) := by decide +kernel
theorem dX10_later_45 : decode cX10_later 45 = .ok (.ifCond .ne 7, 3) := by decide +kernel
theorem dX10_later_48 : decode cX10_later 48 = .ok (.sipush (-9999), 3) := by decide +kernel
theorem dX10_later_51 : decode cX10_later 51 = .ok (.ireturn, 1) := by decide +kernel
theorem dX10_later_52 : decode cX10_later 52 = .ok (.iload_n 2, 1) := by decide +kernel
theorem dX10_later_53 : decode cX10_later 53 = .ok (.ifCond .ne 13, 3) := by decide +kernel
theorem dX10_later_56 : decode cX10_later 56 = .ok (.iload 4, 2) := by decide +kernel
theorem dX10_later_58 : decode cX10_later 58 = .ok (.aload_n 0, 1) := by decide +kernel
theorem dX10_later_59 : decode cX10_later 59 = .ok (.iconst (-1), 1) := by decide +kernel
theorem dX10_later_60 : decode cX10_later 60 = .ok (.iload_n 3, 1) := by decide +kernel
theorem dX10_later_61 : decode cX10_later 61 = .ok (.invokevirtual 258, 3) := by decide +kernel
theorem dX10_later_64 : decode cX10_later 64 = .ok (.isub, 1) := by decide +kernel
theorem dX10_later_65 : decode cX10_later 65 = .ok (.ireturn, 1) := by decide +kernel
theorem dX10_later_66 : decode cX10_later 66 = .ok (.aload_n 0, 1) := by decide +kernel
theorem dX10_later_67 : decode cX10_later 67 = .ok (.iload_n 1, 1) := by decide +kernel
theorem dX10_later_68 : decode cX10_later 68 = .ok (.iconst 2, 1) := by decide +kernel
theorem dX10_later_69 : decode cX10_later 69 = .ok (.iload_n 2, 1) := by decide +kernel
theorem dX10_later_70 : decode cX10_later 70 = .ok (.imul, 1) := by decide +kernel
theorem dX10_later_71 : decode cX10_later 71 = .ok (.iconst 2, 1) := by decide +kernel
theorem dX10_later_72 : decode cX10_later 72 = .ok (.isub, 1) := by decide +kernel
theorem dX10_later_73 : decode cX10_later 73 = .ok (.invokevirtual 252, 3) := by decide +kernel
theorem dX10_later_76 : decode cX10_later 76 = .ok (.istore 5, 2) := by decide +kernel
theorem dX10_later_78 : decode cX10_later 78 = .ok (.aload_n 0, 1) := by decide +kernel
theorem dX10_later_79 : decode cX10_later 79 = .ok (.iload 5, 2) := by decide +kernel
theorem dX10_later_81 : decode cX10_later 81 = .ok (.i2l, 1) := by decide +kernel
theorem dX10_later_82 : decode cX10_later 82 = .ok (.invokevirtual 137, 3) := by decide +kernel
theorem dX10_later_85 : decode cX10_later 85 = .ok (.ifCond .eq 34, 3) := by decide +kernel
theorem dX10_later_88 : decode cX10_later 88 = .ok (.iload 4, 2) := by decide +kernel
theorem dX10_later_90 : decode cX10_later 90 = .ok (.aload_n 0, 1) := by decide +kernel
theorem dX10_later_91 : decode cX10_later 91 = .ok (.iload_n 1, 1) := by decide +kernel
theorem dX10_later_92 : decode cX10_later 92 = .ok (.iconst 2, 1) := by decide +kernel
theorem dX10_later_93 : decode cX10_later 93 = .ok (.iload_n 2, 1) := by decide +kernel
theorem dX10_later_94 : decode cX10_later 94 = .ok (.imul, 1) := by decide +kernel
theorem dX10_later_95 : decode cX10_later 95 = .ok (.iconst 1, 1) := by decide +kernel
theorem dX10_later_96 : decode cX10_later 96 = .ok (.isub, 1) := by decide +kernel
theorem dX10_later_97 : decode cX10_later 97 = .ok (.invokevirtual 252, 3) := by decide +kernel
theorem dX10_later_100 : decode cX10_later 100 = .ok (.isub, 1) := by decide +kernel
theorem dX10_later_101 : decode cX10_later 101 = .ok (.aload_n 0, 1) := by decide +kernel
theorem dX10_later_102 : decode cX10_later 102 = .ok (.getfield 24, 3) := by decide +kernel
theorem dX10_later_105 : decode cX10_later 105 = .ok (.iconst 3, 1) := by decide +kernel
theorem dX10_later_106 : decode cX10_later 106 = .ok (.iaload, 1) := by decide +kernel
theorem dX10_later_107 : decode cX10_later 107 = .ok (.isub, 1) := by decide +kernel
theorem dX10_later_108 : decode cX10_later 108 = .ok (.aload_n 0, 1) := by decide +kernel
theorem dX10_later_109 : decode cX10_later 109 = .ok (.iload 5, 2) := by decide +kernel
theorem dX10_later_111 : decode cX10_later 111 = .ok (.iload_n 3, 1) := by decide +kernel
theorem dX10_later_112 : decode cX10_later 112 = .ok (.invokevirtual 258, 3) := by decide +kernel
theorem dX10_later_115 : decode cX10_later 115 = .ok (.isub, 1) := by decide +kernel
theorem dX10_later_116 : decode cX10_later 116 = .ok (.goto 6, 3) := by decide +kernel
theorem dX10_later_119 : decode cX10_later 119 = .ok (.sipush (-9999), 3) := by decide +kernel
theorem dX10_later_122 : decode cX10_later 122 = .ok (.ireturn, 1) := by decide +kernel
set_option maxRecDepth 20000 in
theorem dX10_paper_0 : decode cX10_paper 0 = .ok (.iload_n 1, 1) := by decide +kernel
theorem dX10_paper_1 : decode cX10_paper 1 = .ok (.invokestatic 131, 3) := by decide +kernel
theorem dX10_paper_4 : decode cX10_paper 4 = .ok (.ifCond .eq 12, 3) := by decide +kernel
theorem dX10_paper_7 : decode cX10_paper 7 = .ok (.iload_n 2, 1) := by decide +kernel
theorem dX10_paper_8 : decode cX10_paper 8 = .ok (.iconst 0, 1) := by decide +kernel
theorem dX10_paper_9 : decode cX10_paper 9 = .ok (.iconst 3, 1) := by decide +kernel
theorem dX10_paper_10 : decode cX10_paper 10 = .ok (.invokestatic 123, 3) := by decide +kernel
theorem dX10_paper_13 : decode cX10_paper 13 = .ok (.ifCond .ne 5, 3) := by decide +kernel
theorem dX10_paper_16 : decode cX10_paper 16 = .ok (.iconst (-1), 1) := by decide +kernel
theorem dX10_paper_17 : decode cX10_paper 17 = .ok (.ireturn, 1) := by decide +kernel
theorem dX10_paper_18 : decode cX10_paper 18 = .ok (.aload_n 0, 1) := by decide +kernel
theorem dX10_paper_19 : decode cX10_paper 19 = .ok (.iload_n 1, 1) := by decide +kernel
theorem dX10_paper_20 : decode cX10_paper 20 = .ok (.iconst 1, 1) := by decide +kernel
theorem dX10_paper_21 : decode cX10_paper 21 = .ok (.invokevirtual 265, 3) := by decide +kernel
theorem dX10_paper_24 : decode cX10_paper 24 = .ok (.istore_n 3, 1) := by decide +kernel
theorem dX10_paper_25 : decode cX10_paper 25 = .ok (.iload_n 3, 1) := by decide +kernel
theorem dX10_paper_26 : decode cX10_paper 26 = .ok (.ifCond .ge 5, 3) := by decide +kernel
theorem dX10_paper_29 : decode cX10_paper 29 = .ok (.iload_n 3, 1) := by decide +kernel
theorem dX10_paper_30 : decode cX10_paper 30 = .ok (.ireturn, 1) := by decide +kernel
theorem dX10_paper_31 : decode cX10_paper 31 = .ok (.bipush (-2), 2) := by decide +kernel
theorem dX10_paper_33 : decode cX10_paper 33 = .ok (.istore 4, 2) := by decide +kernel
theorem dX10_paper_35 : decode cX10_paper 35 = .ok (.iconst 0, 1) := by decide +kernel
theorem dX10_paper_36 : decode cX10_paper 36 = .ok (.istore 5, 2) := by decide +kernel
theorem dX10_paper_38 : decode cX10_paper 38 = .ok (.iconst 0, 1) := by decide +kernel
theorem dX10_paper_39 : decode cX10_paper 39 = .ok (.istore 6, 2) := by decide +kernel
theorem dX10_paper_41 : decode cX10_paper 41 = .ok (.bipush (-2), 2) := by decide +kernel
theorem dX10_paper_43 : decode cX10_paper 43 = .ok (.istore 7, 2) := by decide +kernel
theorem dX10_paper_45 : decode cX10_paper 45 = .ok (.iconst 0, 1) := by decide +kernel
theorem dX10_paper_46 : decode cX10_paper 46 = .ok (.istore 8, 2) := by decide +kernel
theorem dX10_paper_48 : decode cX10_paper 48 = .ok (.iconst 0, 1) := by decide +kernel
theorem dX10_paper_49 : decode cX10_paper 49 = .ok (.istore 9, 2) := by decide +kernel
theorem dX10_paper_51 : decode cX10_paper 51 = .ok (.iconst 2, 1) := by decide +kernel
theorem dX10_paper_52 : decode cX10_paper 52 = .ok (.iload 9, 2) := by decide +kernel
theorem dX10_paper_54 : decode cX10_paper 54 = .ok (.imul, 1) := by decide +kernel
theorem dX10_paper_55 : decode cX10_paper 55 = .ok (.aload_n 0, 1) := by decide +kernel
theorem dX10_paper_56 : decode cX10_paper 56 = .ok (.getfield 84, 3) := by decide +kernel
theorem dX10_paper_59 : decode cX10_paper 59 = .ok (.iload_n 1, 1) := by decide +kernel
theorem dX10_paper_60 : decode cX10_paper 60 = .ok (.iaload, 1) := by decide +kernel
theorem dX10_paper_61 : decode cX10_paper 61 = .ok (.if_icmp .ge 72, 3) := by decide +kernel
theorem dX10_paper_64 : decode cX10_paper 64 = .ok (.aload_n 0, 1) := by decide +kernel
theorem dX10_paper_65 : decode cX10_paper 65 = .ok (.iload_n 1, 1) := by decide +kernel
theorem dX10_paper_66 : decode cX10_paper 66 = .ok (.iload 9, 2) := by decide +kernel
theorem dX10_paper_68 : decode cX10_paper 68 = .ok (.invokevirtual 340, 3) := by decide +kernel
theorem dX10_paper_71 : decode cX10_paper 71 = .ok (.istore 10, 2) := by decide +kernel
theorem dX10_paper_73 : decode cX10_paper 73 = .ok (.iload 10, 2) := by decide +kernel
theorem dX10_paper_75 : decode cX10_paper 75 = .ok (.ifCond .ge 17, 3) := by decide +kernel
theorem dX10_paper_78 : decode cX10_paper 78 = .ok (.iinc 8 1, 3) := by decide +kernel
theorem dX10_paper_81 : decode cX10_paper 81 = .ok (.iload 4, 2) := by decide +kernel
theorem dX10_paper_83 : decode cX10_paper 83 = .ok (.bipush (-2), 2) := by decide +kernel
theorem dX10_paper_85 : decode cX10_paper 85 = .ok (.if_icmp .ne 7, 3) := by decide +kernel
theorem dX10_paper_88 : decode cX10_paper 88 = .ok (.iload 9, 2) := by decide +kernel
theorem dX10_paper_90 : decode cX10_paper 90 = .ok (.istore 4, 2) := by decide +kernel
theorem dX10_paper_92 : decode cX10_paper 92 = .ok (.iload 4, 2) := by decide +kernel
theorem dX10_paper_94 : decode cX10_paper 94 = .ok (.bipush (-2), 2) := by decide +kernel
theorem dX10_paper_96 : decode cX10_paper 96 = .ok (.if_icmp .eq 6, 3) := by decide +kernel
theorem dX10_paper_99 : decode cX10_paper 99 = .ok (.goto 28, 3) := by decide +kernel
theorem dX10_paper_102 : decode cX10_paper 102 = .ok (.iload 5, 2) := by decide +kernel
theorem dX10_paper_104 : decode cX10_paper 104 = .ok (.iload 10, 2) := by decide +kernel
theorem dX10_paper_106 : decode cX10_paper 106 = .ok (.iadd, 1) := by decide +kernel
theorem dX10_paper_107 : decode cX10_paper 107 = .ok (.istore 5, 2) := by decide +kernel
theorem dX10_paper_109 : decode cX10_paper 109 = .ok (.iload 10, 2) := by decide +kernel
theorem dX10_paper_111 : decode cX10_paper 111 = .ok (.iload 6, 2) := by decide +kernel
theorem dX10_paper_113 : decode cX10_paper 113 = .ok (.if_icmp .gt 6, 3) := by decide +kernel
theorem dX10_paper_116 : decode cX10_paper 116 = .ok (.goto 11, 3) := by decide +kernel
theorem dX10_paper_119 : decode cX10_paper 119 = .ok (.iload 10, 2) := by decide +kernel
theorem dX10_paper_121 : decode cX10_paper 121 = .ok (.istore 6, 2) := by decide +kernel
theorem dX10_paper_123 : decode cX10_paper 123 = .ok (.iload 9, 2) := by decide +kernel
theorem dX10_paper_125 : decode cX10_paper 125 = .ok (.istore 7, 2) := by decide +kernel
theorem dX10_paper_127 : decode cX10_paper 127 = .ok (.iinc 9 1, 3) := by decide +kernel
theorem dX10_paper_130 : decode cX10_paper 130 = .ok (.goto (-79), 3) := by decide +kernel
theorem dX10_paper_133 : decode cX10_paper 133 = .ok (.iload_n 2, 1) := by decide +kernel
theorem dX10_paper_134 : decode cX10_paper 134 = .ok (.ifCond .ne 8, 3) := by decide +kernel
theorem dX10_paper_137 : decode cX10_paper 137 = .ok (.iload 4, 2) := by decide +kernel
theorem dX10_paper_139 : decode cX10_paper 139 = .ok (.goto 25, 3) := by decide +kernel
theorem dX10_paper_142 : decode cX10_paper 142 = .ok (.iload_n 2, 1) := by decide +kernel
theorem dX10_paper_143 : decode cX10_paper 143 = .ok (.iconst 1, 1) := by decide +kernel
theorem dX10_paper_144 : decode cX10_paper 144 = .ok (.if_icmp .ne 8, 3) := by decide +kernel
theorem dX10_paper_147 : decode cX10_paper 147 = .ok (.iload 5, 2) := by decide +kernel
theorem dX10_paper_149 : decode cX10_paper 149 = .ok (.goto 15, 3) := by decide +kernel
theorem dX10_paper_152 : decode cX10_paper 152 = .ok (.iload_n 2, 1) := by decide +kernel
theorem dX10_paper_153 : decode cX10_paper 153 = .ok (.iconst 2, 1) := by decide +kernel
theorem dX10_paper_154 : decode cX10_paper 154 = .ok (.if_icmp .ne 8, 3) := by decide +kernel
theorem dX10_paper_157 : decode cX10_paper 157 = .ok (.iload 7, 2) := by decide +kernel
theorem dX10_paper_159 : decode cX10_paper 159 = .ok (.goto 5, 3) := by decide +kernel
theorem dX10_paper_162 : decode cX10_paper 162 = .ok (.iload 8, 2) := by decide +kernel
theorem dX10_paper_164 : decode cX10_paper 164 = .ok (.ireturn, 1) := by decide +kernel
set_option maxRecDepth 20000 in
theorem dX10_isPaper_0 : decode cX10_isPaper 0 = .ok (.aload_n 0, 1) := by decide +kernel
theorem dX10_isPaper_1 : decode cX10_isPaper 1 = .ok (.bipush 30, 2) := by decide +kernel
theorem dX10_isPaper_3 : decode cX10_isPaper 3 = .ok (.invokevirtual 261, 3) := by decide +kernel
theorem dX10_isPaper_6 : decode cX10_isPaper 6 = .ok (.iconst 0, 1) := by decide +kernel
theorem dX10_isPaper_7 : decode cX10_isPaper 7 = .ok (.istore_n 2, 1) := by decide +kernel
theorem dX10_isPaper_8 : decode cX10_isPaper 8 = .ok (.iconst 2, 1) := by decide +kernel
theorem dX10_isPaper_9 : decode cX10_isPaper 9 = .ok (.iload_n 2, 1) := by decide +kernel
theorem dX10_isPaper_10 : decode cX10_isPaper 10 = .ok (.imul, 1) := by decide +kernel
theorem dX10_isPaper_11 : decode cX10_isPaper 11 = .ok (.aload_n 0, 1) := by decide +kernel
theorem dX10_isPaper_12 : decode cX10_isPaper 12 = .ok (.getfield 84, 3) := by decide +kernel
theorem dX10_isPaper_15 : decode cX10_isPaper 15 = .ok (.iload_n 1, 1) := by decide +kernel
theorem dX10_isPaper_16 : decode cX10_isPaper 16 = .ok (.iaload, 1) := by decide +kernel
theorem dX10_isPaper_17 : decode cX10_isPaper 17 = .ok (.if_icmp .ge 71, 3) := by decide +kernel
theorem dX10_isPaper_20 : decode cX10_isPaper 20 = .ok (.iconst 2, 1) := by decide +kernel
theorem dX10_isPaper_21 : decode cX10_isPaper 21 = .ok (.iload_n 2, 1) := by decide +kernel
theorem dX10_isPaper_22 : decode cX10_isPaper 22 = .ok (.imul, 1) := by decide +kernel
theorem dX10_isPaper_23 : decode cX10_isPaper 23 = .ok (.iconst 1, 1) := by decide +kernel
theorem dX10_isPaper_24 : decode cX10_isPaper 24 = .ok (.iadd, 1) := by decide +kernel
theorem dX10_isPaper_25 : decode cX10_isPaper 25 = .ok (.aload_n 0, 1) := by decide +kernel
theorem dX10_isPaper_26 : decode cX10_isPaper 26 = .ok (.getfield 84, 3) := by decide +kernel
theorem dX10_isPaper_29 : decode cX10_isPaper 29 = .ok (.iload_n 1, 1) := by decide +kernel
theorem dX10_isPaper_30 : decode cX10_isPaper 30 = .ok (.iaload, 1) := by decide +kernel
theorem dX10_isPaper_31 : decode cX10_isPaper 31 = .ok (.if_icmp .ge 11, 3) := by decide +kernel
theorem dX10_isPaper_34 : decode cX10_isPaper 34 = .ok (.iload_n 2, 1) := by decide +kernel
theorem dX10_isPaper_35 : decode cX10_isPaper 35 = .ok (.aload_n 0, 1) := by decide +kernel
theorem dX10_isPaper_36 : decode cX10_isPaper 36 = .ok (.getfield 255, 3) := by decide +kernel
theorem dX10_isPaper_39 : decode cX10_isPaper 39 = .ok (.if_icmp .lt 5, 3) := by decide +kernel
theorem dX10_isPaper_42 : decode cX10_isPaper 42 = .ok (.iconst 0, 1) := by decide +kernel
theorem dX10_isPaper_43 : decode cX10_isPaper 43 = .ok (.ireturn, 1) := by decide +kernel
theorem dX10_isPaper_44 : decode cX10_isPaper 44 = .ok (.aload_n 0, 1) := by decide +kernel
theorem dX10_isPaper_45 : decode cX10_isPaper 45 = .ok (.iload_n 1, 1) := by decide +kernel
theorem dX10_isPaper_46 : decode cX10_isPaper 46 = .ok (.iconst 2, 1) := by decide +kernel
theorem dX10_isPaper_47 : decode cX10_isPaper 47 = .ok (.iload_n 2, 1) := by decide +kernel
theorem dX10_isPaper_48 : decode cX10_isPaper 48 = .ok (.imul, 1) := by decide +kernel
theorem dX10_isPaper_49 : decode cX10_isPaper 49 = .ok (.invokevirtual 252, 3) := by decide +kernel
theorem dX10_isPaper_52 : decode cX10_isPaper 52 = .ok (.aload_n 0, 1) := by decide +kernel
theorem dX10_isPaper_53 : decode cX10_isPaper 53 = .ok (.getfield 97, 3) := by decide +kernel
theorem dX10_isPaper_56 : decode cX10_isPaper 56 = .ok (.iload_n 2, 1) := by decide +kernel
theorem dX10_isPaper_57 : decode cX10_isPaper 57 = .ok (.iaload, 1) := by decide +kernel
theorem dX10_isPaper_58 : decode cX10_isPaper 58 = .ok (.if_icmp .ne 22, 3) := by decide +kernel
theorem dX10_isPaper_61 : decode cX10_isPaper 61 = .ok (.aload_n 0, 1) := by decide +kernel
theorem dX10_isPaper_62 : decode cX10_isPaper 62 = .ok (.iload_n 1, 1) := by decide +kernel
theorem dX10_isPaper_63 : decode cX10_isPaper 63 = .ok (.iconst 2, 1) := by decide +kernel
theorem dX10_isPaper_64 : decode cX10_isPaper 64 = .ok (.iload_n 2, 1) := by decide +kernel
theorem dX10_isPaper_65 : decode cX10_isPaper 65 = .ok (.imul, 1) := by decide +kernel
theorem dX10_isPaper_66 : decode cX10_isPaper 66 = .ok (.iconst 1, 1) := by decide +kernel
theorem dX10_isPaper_67 : decode cX10_isPaper 67 = .ok (.iadd, 1) := by decide +kernel
theorem dX10_isPaper_68 : decode cX10_isPaper 68 = .ok (.invokevirtual 252, 3) := by decide +kernel
theorem dX10_isPaper_71 : decode cX10_isPaper 71 = .ok (.aload_n 0, 1) := by decide +kernel
theorem dX10_isPaper_72 : decode cX10_isPaper 72 = .ok (.getfield 94, 3) := by decide +kernel
theorem dX10_isPaper_75 : decode cX10_isPaper 75 = .ok (.iload_n 2, 1) := by decide +kernel
theorem dX10_isPaper_76 : decode cX10_isPaper 76 = .ok (.iaload, 1) := by decide +kernel
theorem dX10_isPaper_77 : decode cX10_isPaper 77 = .ok (.if_icmp .eq 5, 3) := by decide +kernel
theorem dX10_isPaper_80 : decode cX10_isPaper 80 = .ok (.iconst 0, 1) := by decide +kernel
theorem dX10_isPaper_81 : decode cX10_isPaper 81 = .ok (.ireturn, 1) := by decide +kernel
theorem dX10_isPaper_82 : decode cX10_isPaper 82 = .ok (.iinc 2 1, 3) := by decide +kernel
theorem dX10_isPaper_85 : decode cX10_isPaper 85 = .ok (.goto (-77), 3) := by decide +kernel
theorem dX10_isPaper_88 : decode cX10_isPaper 88 = .ok (.iconst 1, 1) := by decide +kernel
theorem dX10_isPaper_89 : decode cX10_isPaper 89 = .ok (.ireturn, 1) := by decide +kernel
set_option maxRecDepth 20000 in
theorem dX10_which_0 : decode cX10_which 0 = .ok (.iload_n 1, 1) := by decide +kernel
theorem dX10_which_1 : decode cX10_which 1 = .ok (.ifCond .lt 23, 3) := by decide +kernel
theorem dX10_which_4 : decode cX10_which 4 = .ok (.iload_n 1, 1) := by decide +kernel
theorem dX10_which_5 : decode cX10_which 5 = .ok (.bipush 10, 2) := by decide +kernel
theorem dX10_which_7 : decode cX10_which 7 = .ok (.idiv, 1) := by decide +kernel
theorem dX10_which_8 : decode cX10_which 8 = .ok (.invokestatic 131, 3) := by decide +kernel
theorem dX10_which_11 : decode cX10_which 11 = .ok (.ifCond .eq 13, 3) := by decide +kernel
theorem dX10_which_14 : decode cX10_which 14 = .ok (.iload_n 1, 1) := by decide +kernel
theorem dX10_which_15 : decode cX10_which 15 = .ok (.bipush 10, 2) := by decide +kernel
theorem dX10_which_17 : decode cX10_which 17 = .ok (.irem, 1) := by decide +kernel
theorem dX10_which_18 : decode cX10_which 18 = .ok (.invokestatic 131, 3) := by decide +kernel
theorem dX10_which_21 : decode cX10_which 21 = .ok (.ifCond .ne 5, 3) := by decide +kernel
theorem dX10_which_24 : decode cX10_which 24 = .ok (.iconst (-1), 1) := by decide +kernel
theorem dX10_which_25 : decode cX10_which 25 = .ok (.ireturn, 1) := by decide +kernel
theorem dX10_which_26 : decode cX10_which 26 = .ok (.aload_n 0, 1) := by decide +kernel
theorem dX10_which_27 : decode cX10_which 27 = .ok (.getfield 81, 3) := by decide +kernel
theorem dX10_which_30 : decode cX10_which 30 = .ok (.iload_n 1, 1) := by decide +kernel
theorem dX10_which_31 : decode cX10_which 31 = .ok (.bipush 10, 2) := by decide +kernel
theorem dX10_which_33 : decode cX10_which 33 = .ok (.idiv, 1) := by decide +kernel
theorem dX10_which_34 : decode cX10_which 34 = .ok (.iaload, 1) := by decide +kernel
theorem dX10_which_35 : decode cX10_which 35 = .ok (.iconst (-1), 1) := by decide +kernel
theorem dX10_which_36 : decode cX10_which 36 = .ok (.if_icmp .eq 16, 3) := by decide +kernel
theorem dX10_which_39 : decode cX10_which 39 = .ok (.aload_n 0, 1) := by decide +kernel
theorem dX10_which_40 : decode cX10_which 40 = .ok (.getfield 81, 3) := by decide +kernel
theorem dX10_which_43 : decode cX10_which 43 = .ok (.iload_n 1, 1) := by decide +kernel
theorem dX10_which_44 : decode cX10_which 44 = .ok (.bipush 10, 2) := by decide +kernel
theorem dX10_which_46 : decode cX10_which 46 = .ok (.irem, 1) := by decide +kernel
theorem dX10_which_47 : decode cX10_which 47 = .ok (.iaload, 1) := by decide +kernel
theorem dX10_which_48 : decode cX10_which 48 = .ok (.iconst (-1), 1) := by decide +kernel
theorem dX10_which_49 : decode cX10_which 49 = .ok (.if_icmp .ne 6, 3) := by decide +kernel
theorem dX10_which_52 : decode cX10_which 52 = .ok (.bipush (-11), 2) := by decide +kernel
theorem dX10_which_54 : decode cX10_which 54 = .ok (.ireturn, 1) := by decide +kernel
theorem dX10_which_55 : decode cX10_which 55 = .ok (.aload_n 0, 1) := by decide +kernel
theorem dX10_which_56 : decode cX10_which 56 = .ok (.getfield 81, 3) := by decide +kernel
theorem dX10_which_59 : decode cX10_which 59 = .ok (.iload_n 1, 1) := by decide +kernel
theorem dX10_which_60 : decode cX10_which 60 = .ok (.bipush 10, 2) := by decide +kernel
theorem dX10_which_62 : decode cX10_which 62 = .ok (.idiv, 1) := by decide +kernel
theorem dX10_which_63 : decode cX10_which 63 = .ok (.iaload, 1) := by decide +kernel
theorem dX10_which_64 : decode cX10_which 64 = .ok (.ifCond .ne 16, 3) := by decide +kernel
theorem dX10_which_67 : decode cX10_which 67 = .ok (.aload_n 0, 1) := by decide +kernel
theorem dX10_which_68 : decode cX10_which 68 = .ok (.getfield 81, 3) := by decide +kernel
theorem dX10_which_71 : decode cX10_which 71 = .ok (.iload_n 1, 1) := by decide +kernel
theorem dX10_which_72 : decode cX10_which 72 = .ok (.bipush 10, 2) := by decide +kernel
theorem dX10_which_74 : decode cX10_which 74 = .ok (.irem, 1) := by decide +kernel
theorem dX10_which_75 : decode cX10_which 75 = .ok (.iaload, 1) := by decide +kernel
theorem dX10_which_76 : decode cX10_which 76 = .ok (.iconst 1, 1) := by decide +kernel
theorem dX10_which_77 : decode cX10_which 77 = .ok (.if_icmp .eq 6, 3) := by decide +kernel
theorem dX10_which_80 : decode cX10_which 80 = .ok (.bipush (-12), 2) := by decide +kernel
theorem dX10_which_82 : decode cX10_which 82 = .ok (.ireturn, 1) := by decide +kernel
theorem dX10_which_83 : decode cX10_which 83 = .ok (.aload_n 0, 1) := by decide +kernel
theorem dX10_which_84 : decode cX10_which 84 = .ok (.iload_n 1, 1) := by decide +kernel
theorem dX10_which_85 : decode cX10_which 85 = .ok (.bipush 10, 2) := by decide +kernel
theorem dX10_which_87 : decode cX10_which 87 = .ok (.idiv, 1) := by decide +kernel
theorem dX10_which_88 : decode cX10_which 88 = .ok (.invokevirtual 268, 3) := by decide +kernel
theorem dX10_which_91 : decode cX10_which 91 = .ok (.aload_n 0, 1) := by decide +kernel
theorem dX10_which_92 : decode cX10_which 92 = .ok (.iload_n 1, 1) := by decide +kernel
theorem dX10_which_93 : decode cX10_which 93 = .ok (.bipush 10, 2) := by decide +kernel
theorem dX10_which_95 : decode cX10_which 95 = .ok (.irem, 1) := by decide +kernel
theorem dX10_which_96 : decode cX10_which 96 = .ok (.invokevirtual 343, 3) := by decide +kernel
theorem dX10_which_99 : decode cX10_which 99 = .ok (.ifCond .eq 7, 3) := by decide +kernel
theorem dX10_which_102 : decode cX10_which 102 = .ok (.iconst 1, 1) := by decide +kernel
theorem dX10_which_103 : decode cX10_which 103 = .ok (.goto 4, 3) := by decide +kernel
theorem dX10_which_106 : decode cX10_which 106 = .ok (.iconst 0, 1) := by decide +kernel
theorem dX10_which_107 : decode cX10_which 107 = .ok (.istore_n 2, 1) := by decide +kernel
theorem dX10_which_108 : decode cX10_which 108 = .ok (.aload_n 0, 1) := by decide +kernel
theorem dX10_which_109 : decode cX10_which 109 = .ok (.invokevirtual 322, 3) := by decide +kernel
theorem dX10_which_112 : decode cX10_which 112 = .ok (.iload_n 2, 1) := by decide +kernel
theorem dX10_which_113 : decode cX10_which 113 = .ok (.aload_n 0, 1) := by decide +kernel
theorem dX10_which_114 : decode cX10_which 114 = .ok (.iload_n 1, 1) := by decide +kernel
theorem dX10_which_115 : decode cX10_which 115 = .ok (.bipush 10, 2) := by decide +kernel
theorem dX10_which_117 : decode cX10_which 117 = .ok (.irem, 1) := by decide +kernel
theorem dX10_which_118 : decode cX10_which 118 = .ok (.invokevirtual 343, 3) := by decide +kernel
theorem dX10_which_121 : decode cX10_which 121 = .ok (.ifCond .eq 7, 3) := by decide +kernel
theorem dX10_which_124 : decode cX10_which 124 = .ok (.iconst 2, 1) := by decide +kernel
theorem dX10_which_125 : decode cX10_which 125 = .ok (.goto 4, 3) := by decide +kernel
theorem dX10_which_128 : decode cX10_which 128 = .ok (.iconst 0, 1) := by decide +kernel
theorem dX10_which_129 : decode cX10_which 129 = .ok (.iadd, 1) := by decide +kernel
theorem dX10_which_130 : decode cX10_which 130 = .ok (.ireturn, 1) := by decide +kernel
set_option maxRecDepth 20000 in
theorem dX10_fit_0 : decode cX10_fit 0 = .ok (.iload_n 1, 1) := by decide +kernel
theorem dX10_fit_1 : decode cX10_fit 1 = .ok (.invokestatic 131, 3) := by decide +kernel
theorem dX10_fit_4 : decode cX10_fit 4 = .ok (.ifCond .eq 8, 3) := by decide +kernel
theorem dX10_fit_7 : decode cX10_fit 7 = .ok (.iload_n 2, 1) := by decide +kernel
theorem dX10_fit_8 : decode cX10_fit 8 = .ok (.iconst (-1), 1) := by decide +kernel
theorem dX10_fit_9 : decode cX10_fit 9 = .ok (.if_icmp .ge 5, 3) := by decide +kernel
theorem dX10_fit_12 : decode cX10_fit 12 = .ok (.iconst (-1), 1) := by decide +kernel
theorem dX10_fit_13 : decode cX10_fit 13 = .ok (.ireturn, 1) := by decide +kernel
theorem dX10_fit_14 : decode cX10_fit 14 = .ok (.aload_n 0, 1) := by decide +kernel
theorem dX10_fit_15 : decode cX10_fit 15 = .ok (.iload_n 1, 1) := by decide +kernel
theorem dX10_fit_16 : decode cX10_fit 16 = .ok (.iconst 1, 1) := by decide +kernel
theorem dX10_fit_17 : decode cX10_fit 17 = .ok (.invokevirtual 265, 3) := by decide +kernel
theorem dX10_fit_20 : decode cX10_fit 20 = .ok (.istore_n 3, 1) := by decide +kernel
theorem dX10_fit_21 : decode cX10_fit 21 = .ok (.iload_n 3, 1) := by decide +kernel
theorem dX10_fit_22 : decode cX10_fit 22 = .ok (.ifCond .ge 5, 3) := by decide +kernel
theorem dX10_fit_25 : decode cX10_fit 25 = .ok (.iload_n 3, 1) := by decide +kernel
theorem dX10_fit_26 : decode cX10_fit 26 = .ok (.ireturn, 1) := by decide +kernel
theorem dX10_fit_27 : decode cX10_fit 27 = .ok (.aload_n 0, 1) := by decide +kernel
theorem dX10_fit_28 : decode cX10_fit 28 = .ok (.getfield 120, 3) := by decide +kernel
theorem dX10_fit_31 : decode cX10_fit 31 = .ok (.bipush 6, 2) := by decide +kernel
theorem dX10_fit_33 : decode cX10_fit 33 = .ok (.if_icmp .le 6, 3) := by decide +kernel
theorem dX10_fit_36 : decode cX10_fit 36 = .ok (.bipush (-5), 2) := by decide +kernel
theorem dX10_fit_38 : decode cX10_fit 38 = .ok (.ireturn, 1) := by decide +kernel
theorem dX10_fit_39 : decode cX10_fit 39 = .ok (.iconst 0, 1) := by decide +kernel
theorem dX10_fit_40 : decode cX10_fit 40 = .ok (.istore 4, 2) := by decide +kernel
theorem dX10_fit_42 : decode cX10_fit 42 = .ok (.iload 4, 2) := by decide +kernel
theorem dX10_fit_44 : decode cX10_fit 44 = .ok (.aload_n 0, 1) := by decide +kernel
theorem dX10_fit_45 : decode cX10_fit 45 = .ok (.getfield 120, 3) := by decide +kernel
theorem dX10_fit_48 : decode cX10_fit 48 = .ok (.if_icmp .ge 18, 3) := by decide +kernel
theorem dX10_fit_51 : decode cX10_fit 51 = .ok (.aload_n 0, 1) := by decide +kernel
theorem dX10_fit_52 : decode cX10_fit 52 = .ok (.getfield 110, 3) := by decide +kernel
theorem dX10_fit_55 : decode cX10_fit 55 = .ok (.iload 4, 2) := by decide +kernel
theorem dX10_fit_57 : decode cX10_fit 57 = .ok (.iload 4, 2) := by decide +kernel
theorem dX10_fit_59 : decode cX10_fit 59 = .ok (.iastore, 1) := by decide +kernel
theorem dX10_fit_60 : decode cX10_fit 60 = .ok (.iinc 4 1, 3) := by decide +kernel
theorem dX10_fit_63 : decode cX10_fit 63 = .ok (.goto (-21), 3) := by decide +kernel
theorem dX10_fit_66 : decode cX10_fit 66 = .ok (.iconst 0, 1) := by decide +kernel
theorem dX10_fit_67 : decode cX10_fit 67 = .ok (.istore 4, 2) := by decide +kernel
theorem dX10_fit_69 : decode cX10_fit 69 = .ok (.iconst 1, 1) := by decide +kernel
theorem dX10_fit_70 : decode cX10_fit 70 = .ok (.istore 5, 2) := by decide +kernel
theorem dX10_fit_72 : decode cX10_fit 72 = .ok (.iload 5, 2) := by decide +kernel
theorem dX10_fit_74 : decode cX10_fit 74 = .ok (.ifCond .eq 104, 3) := by decide +kernel
theorem dX10_fit_77 : decode cX10_fit 77 = .ok (.aload_n 0, 1) := by decide +kernel
theorem dX10_fit_78 : decode cX10_fit 78 = .ok (.aload_n 0, 1) := by decide +kernel
theorem dX10_fit_79 : decode cX10_fit 79 = .ok (.getfield 120, 3) := by decide +kernel
theorem dX10_fit_82 : decode cX10_fit 82 = .ok (.putfield 231, 3) := by decide +kernel
theorem dX10_fit_85 : decode cX10_fit 85 = .ok (.iconst 0, 1) := by decide +kernel
theorem dX10_fit_86 : decode cX10_fit 86 = .ok (.istore 6, 2) := by decide +kernel
theorem dX10_fit_88 : decode cX10_fit 88 = .ok (.iload 6, 2) := by decide +kernel
theorem dX10_fit_90 : decode cX10_fit 90 = .ok (.aload_n 0, 1) := by decide +kernel
theorem dX10_fit_91 : decode cX10_fit 91 = .ok (.getfield 120, 3) := by decide +kernel
theorem dX10_fit_94 : decode cX10_fit 94 = .ok (.if_icmp .ge 23, 3) := by decide +kernel
theorem dX10_fit_97 : decode cX10_fit 97 = .ok (.aload_n 0, 1) := by decide +kernel
theorem dX10_fit_98 : decode cX10_fit 98 = .ok (.getfield 91, 3) := by decide +kernel
theorem dX10_fit_101 : decode cX10_fit 101 = .ok (.iload 6, 2) := by decide +kernel
theorem dX10_fit_103 : decode cX10_fit 103 = .ok (.aload_n 0, 1) := by decide +kernel
theorem dX10_fit_104 : decode cX10_fit 104 = .ok (.getfield 110, 3) := by decide +kernel
theorem dX10_fit_107 : decode cX10_fit 107 = .ok (.iload 6, 2) := by decide +kernel
theorem dX10_fit_109 : decode cX10_fit 109 = .ok (.iaload, 1) := by decide +kernel
theorem dX10_fit_110 : decode cX10_fit 110 = .ok (.iastore, 1) := by decide +kernel
theorem dX10_fit_111 : decode cX10_fit 111 = .ok (.iinc 6 1, 3) := by decide +kernel
theorem dX10_fit_114 : decode cX10_fit 114 = .ok (.goto (-26), 3) := by decide +kernel
theorem dX10_fit_117 : decode cX10_fit 117 = .ok (.aload_n 0, 1) := by decide +kernel
theorem dX10_fit_118 : decode cX10_fit 118 = .ok (.iload_n 1, 1) := by decide +kernel
theorem dX10_fit_119 : decode cX10_fit 119 = .ok (.invokevirtual 343, 3) := by decide +kernel
theorem dX10_fit_122 : decode cX10_fit 122 = .ok (.ifCond .eq 43, 3) := by decide +kernel
theorem dX10_fit_125 : decode cX10_fit 125 = .ok (.iload 4, 2) := by decide +kernel
theorem dX10_fit_127 : decode cX10_fit 127 = .ok (.iinc 4 1, 3) := by decide +kernel
theorem dX10_fit_130 : decode cX10_fit 130 = .ok (.ifCond .ne 35, 3) := by decide +kernel
theorem dX10_fit_133 : decode cX10_fit 133 = .ok (.iconst 0, 1) := by decide +kernel
theorem dX10_fit_134 : decode cX10_fit 134 = .ok (.istore 6, 2) := by decide +kernel
theorem dX10_fit_136 : decode cX10_fit 136 = .ok (.iload 6, 2) := by decide +kernel
theorem dX10_fit_138 : decode cX10_fit 138 = .ok (.aload_n 0, 1) := by decide +kernel
theorem dX10_fit_139 : decode cX10_fit 139 = .ok (.getfield 120, 3) := by decide +kernel
theorem dX10_fit_142 : decode cX10_fit 142 = .ok (.if_icmp .ge 23, 3) := by decide +kernel
theorem dX10_fit_145 : decode cX10_fit 145 = .ok (.aload_n 0, 1) := by decide +kernel
theorem dX10_fit_146 : decode cX10_fit 146 = .ok (.getfield 113, 3) := by decide +kernel
theorem dX10_fit_149 : decode cX10_fit 149 = .ok (.iload 6, 2) := by decide +kernel
theorem dX10_fit_151 : decode cX10_fit 151 = .ok (.aload_n 0, 1) := by decide +kernel
theorem dX10_fit_152 : decode cX10_fit 152 = .ok (.getfield 110, 3) := by decide +kernel
theorem dX10_fit_155 : decode cX10_fit 155 = .ok (.iload 6, 2) := by decide +kernel
theorem dX10_fit_157 : decode cX10_fit 157 = .ok (.iaload, 1) := by decide +kernel
theorem dX10_fit_158 : decode cX10_fit 158 = .ok (.iastore, 1) := by decide +kernel
theorem dX10_fit_159 : decode cX10_fit 159 = .ok (.iinc 6 1, 3) := by decide +kernel
theorem dX10_fit_162 : decode cX10_fit 162 = .ok (.goto (-26), 3) := by decide +kernel
theorem dX10_fit_165 : decode cX10_fit 165 = .ok (.aload_n 0, 1) := by decide +kernel
theorem dX10_fit_166 : decode cX10_fit 166 = .ok (.aload_n 0, 1) := by decide +kernel
theorem dX10_fit_167 : decode cX10_fit 167 = .ok (.getfield 120, 3) := by decide +kernel
theorem dX10_fit_170 : decode cX10_fit 170 = .ok (.invokevirtual 299, 3) := by decide +kernel
theorem dX10_fit_173 : decode cX10_fit 173 = .ok (.istore 5, 2) := by decide +kernel
theorem dX10_fit_175 : decode cX10_fit 175 = .ok (.goto (-103), 3) := by decide +kernel
theorem dX10_fit_178 : decode cX10_fit 178 = .ok (.iload_n 2, 1) := by decide +kernel
theorem dX10_fit_179 : decode cX10_fit 179 = .ok (.iconst (-1), 1) := by decide +kernel
theorem dX10_fit_180 : decode cX10_fit 180 = .ok (.if_icmp .ne 8, 3) := by decide +kernel
theorem dX10_fit_183 : decode cX10_fit 183 = .ok (.iload 4, 2) := by decide +kernel
theorem dX10_fit_185 : decode cX10_fit 185 = .ok (.goto 27, 3) := by decide +kernel
theorem dX10_fit_188 : decode cX10_fit 188 = .ok (.iload 4, 2) := by decide +kernel
theorem dX10_fit_190 : decode cX10_fit 190 = .ok (.ifCond .le 20, 3) := by decide +kernel
theorem dX10_fit_193 : decode cX10_fit 193 = .ok (.iload_n 2, 1) := by decide +kernel
theorem dX10_fit_194 : decode cX10_fit 194 = .ok (.aload_n 0, 1) := by decide +kernel
theorem dX10_fit_195 : decode cX10_fit 195 = .ok (.getfield 120, 3) := by decide +kernel
theorem dX10_fit_198 : decode cX10_fit 198 = .ok (.if_icmp .ge 12, 3) := by decide +kernel
theorem dX10_fit_201 : decode cX10_fit 201 = .ok (.aload_n 0, 1) := by decide +kernel
theorem dX10_fit_202 : decode cX10_fit 202 = .ok (.getfield 113, 3) := by decide +kernel
theorem dX10_fit_205 : decode cX10_fit 205 = .ok (.iload_n 2, 1) := by decide +kernel
theorem dX10_fit_206 : decode cX10_fit 206 = .ok (.iaload, 1) := by decide +kernel
theorem dX10_fit_207 : decode cX10_fit 207 = .ok (.goto 5, 3) := by decide +kernel
theorem dX10_fit_210 : decode cX10_fit 210 = .ok (.bipush (-2), 2) := by decide +kernel
theorem dX10_fit_212 : decode cX10_fit 212 = .ok (.ireturn, 1) := by decide +kernel
set_option maxRecDepth 20000 in
theorem dX10_apartFrom_0 : decode cX10_apartFrom 0 = .ok (.aload_n 0, 1) := by decide +kernel
theorem dX10_apartFrom_1 : decode cX10_apartFrom 1 = .ok (.iload_n 1, 1) := by decide +kernel
theorem dX10_apartFrom_2 : decode cX10_apartFrom 2 = .ok (.invokevirtual 240, 3) := by decide +kernel
theorem dX10_apartFrom_5 : decode cX10_apartFrom 5 = .ok (.iload_n 2, 1) := by decide +kernel
theorem dX10_apartFrom_6 : decode cX10_apartFrom 6 = .ok (.bipush 16, 2) := by decide +kernel
theorem dX10_apartFrom_8 : decode cX10_apartFrom 8 = .ok (.irem, 1) := by decide +kernel
theorem dX10_apartFrom_9 : decode cX10_apartFrom 9 = .ok (.isub, 1) := by decide +kernel
theorem dX10_apartFrom_10 : decode cX10_apartFrom 10 = .ok (.invokestatic 243, 3) := by decide +kernel
theorem dX10_apartFrom_13 : decode cX10_apartFrom 13 = .ok (.aload_n 0, 1) := by decide +kernel
theorem dX10_apartFrom_14 : decode cX10_apartFrom 14 = .ok (.iload_n 1, 1) := by decide +kernel
theorem dX10_apartFrom_15 : decode cX10_apartFrom 15 = .ok (.invokevirtual 246, 3) := by decide +kernel
theorem dX10_apartFrom_18 : decode cX10_apartFrom 18 = .ok (.iload_n 2, 1) := by decide +kernel
theorem dX10_apartFrom_19 : decode cX10_apartFrom 19 = .ok (.bipush 16, 2) := by decide +kernel
theorem dX10_apartFrom_21 : decode cX10_apartFrom 21 = .ok (.idiv, 1) := by decide +kernel
theorem dX10_apartFrom_22 : decode cX10_apartFrom 22 = .ok (.isub, 1) := by decide +kernel
theorem dX10_apartFrom_23 : decode cX10_apartFrom 23 = .ok (.invokestatic 243, 3) := by decide +kernel
theorem dX10_apartFrom_26 : decode cX10_apartFrom 26 = .ok (.iadd, 1) := by decide +kernel
theorem dX10_apartFrom_27 : decode cX10_apartFrom 27 = .ok (.ireturn, 1) := by decide +kernel
set_option maxRecDepth 20000 in
theorem dX10_nearest_0 : decode cX10_nearest 0 = .ok (.iconst 0, 1) := by decide +kernel
theorem dX10_nearest_1 : decode cX10_nearest 1 = .ok (.istore_n 2, 1) := by decide +kernel
theorem dX10_nearest_2 : decode cX10_nearest 2 = .ok (.iconst 0, 1) := by decide +kernel
theorem dX10_nearest_3 : decode cX10_nearest 3 = .ok (.istore_n 3, 1) := by decide +kernel
theorem dX10_nearest_4 : decode cX10_nearest 4 = .ok (.iload_n 3, 1) := by decide +kernel
theorem dX10_nearest_5 : decode cX10_nearest 5 = .ok (.aload_n 0, 1) := by decide +kernel
theorem dX10_nearest_6 : decode cX10_nearest 6 = .ok (.getfield 120, 3) := by decide +kernel
theorem dX10_nearest_9 : decode cX10_nearest 9 = .ok (.if_icmp .ge 33, 3) := by decide +kernel
theorem dX10_nearest_12 : decode cX10_nearest 12 = .ok (.iload_n 3, 1) := by decide +kernel
theorem dX10_nearest_13 : decode cX10_nearest 13 = .ok (.ifCond .ne 12, 3) := by decide +kernel
theorem dX10_nearest_16 : decode cX10_nearest 16 = .ok (.aload_n 0, 1) := by decide +kernel
theorem dX10_nearest_17 : decode cX10_nearest 17 = .ok (.iload_n 3, 1) := by decide +kernel
theorem dX10_nearest_18 : decode cX10_nearest 18 = .ok (.iload_n 1, 1) := by decide +kernel
theorem dX10_nearest_19 : decode cX10_nearest 19 = .ok (.invokevirtual 346, 3) := by decide +kernel
theorem dX10_nearest_22 : decode cX10_nearest 22 = .ok (.goto 13, 3) := by decide +kernel
theorem dX10_nearest_25 : decode cX10_nearest 25 = .ok (.iload_n 2, 1) := by decide +kernel
theorem dX10_nearest_26 : decode cX10_nearest 26 = .ok (.aload_n 0, 1) := by decide +kernel
theorem dX10_nearest_27 : decode cX10_nearest 27 = .ok (.iload_n 3, 1) := by decide +kernel
theorem dX10_nearest_28 : decode cX10_nearest 28 = .ok (.iload_n 1, 1) := by decide +kernel
theorem dX10_nearest_29 : decode cX10_nearest 29 = .ok (.invokevirtual 346, 3) := by decide +kernel
theorem dX10_nearest_32 : decode cX10_nearest 32 = .ok (.invokestatic 226, 3) := by decide +kernel
theorem dX10_nearest_35 : decode cX10_nearest 35 = .ok (.istore_n 2, 1) := by decide +kernel
theorem dX10_nearest_36 : decode cX10_nearest 36 = .ok (.iinc 3 1, 3) := by decide +kernel
theorem dX10_nearest_39 : decode cX10_nearest 39 = .ok (.goto (-35), 3) := by decide +kernel
theorem dX10_nearest_42 : decode cX10_nearest 42 = .ok (.iload_n 2, 1) := by decide +kernel
theorem dX10_nearest_43 : decode cX10_nearest 43 = .ok (.ireturn, 1) := by decide +kernel
set_option maxRecDepth 20000 in
theorem dX10_hang_0 : decode cX10_hang 0 = .ok (.iload_n 1, 1) := by decide +kernel
theorem dX10_hang_1 : decode cX10_hang 1 = .ok (.iconst 0, 1) := by decide +kernel
theorem dX10_hang_2 : decode cX10_hang 2 = .ok (.bipush 30, 2) := by decide +kernel
theorem dX10_hang_4 : decode cX10_hang 4 = .ok (.invokestatic 123, 3) := by decide +kernel
theorem dX10_hang_7 : decode cX10_hang 7 = .ok (.ifCond .eq 12, 3) := by decide +kernel
theorem dX10_hang_10 : decode cX10_hang 10 = .ok (.iload_n 2, 1) := by decide +kernel
theorem dX10_hang_11 : decode cX10_hang 11 = .ok (.iconst 0, 1) := by decide +kernel
theorem dX10_hang_12 : decode cX10_hang 12 = .ok (.iconst 1, 1) := by decide +kernel
theorem dX10_hang_13 : decode cX10_hang 13 = .ok (.invokestatic 123, 3) := by decide +kernel
theorem dX10_hang_16 : decode cX10_hang 16 = .ok (.ifCond .ne 5, 3) := by decide +kernel
theorem dX10_hang_19 : decode cX10_hang 19 = .ok (.iconst (-1), 1) := by decide +kernel
theorem dX10_hang_20 : decode cX10_hang 20 = .ok (.ireturn, 1) := by decide +kernel
theorem dX10_hang_21 : decode cX10_hang 21 = .ok (.iconst 0, 1) := by decide +kernel
theorem dX10_hang_22 : decode cX10_hang 22 = .ok (.istore_n 3, 1) := by decide +kernel
theorem dX10_hang_23 : decode cX10_hang 23 = .ok (.iconst (-1), 1) := by decide +kernel
theorem dX10_hang_24 : decode cX10_hang 24 = .ok (.istore 4, 2) := by decide +kernel
theorem dX10_hang_26 : decode cX10_hang 26 = .ok (.iconst 0, 1) := by decide +kernel
theorem dX10_hang_27 : decode cX10_hang 27 = .ok (.istore 5, 2) := by decide +kernel
theorem dX10_hang_29 : decode cX10_hang 29 = .ok (.iload 5, 2) := by decide +kernel
theorem dX10_hang_31 : decode cX10_hang 31 = .ok (.sipush 256, 3) := by decide +kernel
theorem dX10_hang_34 : decode cX10_hang 34 = .ok (.if_icmp .ge 45, 3) := by decide +kernel
theorem dX10_hang_37 : decode cX10_hang 37 = .ok (.aload_n 0, 1) := by decide +kernel
theorem dX10_hang_38 : decode cX10_hang 38 = .ok (.iconst (-1), 1) := by decide +kernel
theorem dX10_hang_39 : decode cX10_hang 39 = .ok (.iload 5, 2) := by decide +kernel
theorem dX10_hang_41 : decode cX10_hang 41 = .ok (.invokevirtual 346, 3) := by decide +kernel
theorem dX10_hang_44 : decode cX10_hang 44 = .ok (.iload_n 1, 1) := by decide +kernel
theorem dX10_hang_45 : decode cX10_hang 45 = .ok (.if_icmp .gt 28, 3) := by decide +kernel
theorem dX10_hang_48 : decode cX10_hang 48 = .ok (.aload_n 0, 1) := by decide +kernel
theorem dX10_hang_49 : decode cX10_hang 49 = .ok (.iload 5, 2) := by decide +kernel
theorem dX10_hang_51 : decode cX10_hang 51 = .ok (.invokevirtual 349, 3) := by decide +kernel
theorem dX10_hang_54 : decode cX10_hang 54 = .ok (.iload 4, 2) := by decide +kernel
theorem dX10_hang_56 : decode cX10_hang 56 = .ok (.if_icmp .gt 6, 3) := by decide +kernel
theorem dX10_hang_59 : decode cX10_hang 59 = .ok (.goto 14, 3) := by decide +kernel
theorem dX10_hang_62 : decode cX10_hang 62 = .ok (.aload_n 0, 1) := by decide +kernel
theorem dX10_hang_63 : decode cX10_hang 63 = .ok (.iload 5, 2) := by decide +kernel
theorem dX10_hang_65 : decode cX10_hang 65 = .ok (.invokevirtual 349, 3) := by decide +kernel
theorem dX10_hang_68 : decode cX10_hang 68 = .ok (.istore 4, 2) := by decide +kernel
theorem dX10_hang_70 : decode cX10_hang 70 = .ok (.iload 5, 2) := by decide +kernel
theorem dX10_hang_72 : decode cX10_hang 72 = .ok (.istore_n 3, 1) := by decide +kernel
theorem dX10_hang_73 : decode cX10_hang 73 = .ok (.iinc 5 1, 3) := by decide +kernel
theorem dX10_hang_76 : decode cX10_hang 76 = .ok (.goto (-47), 3) := by decide +kernel
theorem dX10_hang_79 : decode cX10_hang 79 = .ok (.iload_n 2, 1) := by decide +kernel
theorem dX10_hang_80 : decode cX10_hang 80 = .ok (.ifCond .ne 7, 3) := by decide +kernel
theorem dX10_hang_83 : decode cX10_hang 83 = .ok (.iload_n 3, 1) := by decide +kernel
theorem dX10_hang_84 : decode cX10_hang 84 = .ok (.goto 5, 3) := by decide +kernel
theorem dX10_hang_87 : decode cX10_hang 87 = .ok (.iload 4, 2) := by decide +kernel
theorem dX10_hang_89 : decode cX10_hang 89 = .ok (.ireturn, 1) := by decide +kernel
set_option maxRecDepth 20000 in
theorem dX10_drawn_0 : decode cX10_drawn 0 = .ok (.iload_n 2, 1) := by decide +kernel
theorem dX10_drawn_1 : decode cX10_drawn 1 = .ok (.ifCond .lt 32, 3) := by decide +kernel
theorem dX10_drawn_4 : decode cX10_drawn 4 = .ok (.iload_n 2, 1) := by decide +kernel
theorem dX10_drawn_5 : decode cX10_drawn 5 = .ok (.bipush 10, 2) := by decide +kernel
theorem dX10_drawn_7 : decode cX10_drawn 7 = .ok (.idiv, 1) := by decide +kernel
theorem dX10_drawn_8 : decode cX10_drawn 8 = .ok (.iconst 1, 1) := by decide +kernel
theorem dX10_drawn_9 : decode cX10_drawn 9 = .ok (.bipush 30, 2) := by decide +kernel
theorem dX10_drawn_11 : decode cX10_drawn 11 = .ok (.invokestatic 123, 3) := by decide +kernel
theorem dX10_drawn_14 : decode cX10_drawn 14 = .ok (.ifCond .eq 19, 3) := by decide +kernel
theorem dX10_drawn_17 : decode cX10_drawn 17 = .ok (.iload_n 2, 1) := by decide +kernel
theorem dX10_drawn_18 : decode cX10_drawn 18 = .ok (.bipush 10, 2) := by decide +kernel
theorem dX10_drawn_20 : decode cX10_drawn 20 = .ok (.irem, 1) := by decide +kernel
theorem dX10_drawn_21 : decode cX10_drawn 21 = .ok (.ifCond .eq 12, 3) := by decide +kernel
theorem dX10_drawn_24 : decode cX10_drawn 24 = .ok (.iload_n 3, 1) := by decide +kernel
theorem dX10_drawn_25 : decode cX10_drawn 25 = .ok (.iconst 0, 1) := by decide +kernel
theorem dX10_drawn_26 : decode cX10_drawn 26 = .ok (.iconst 1, 1) := by decide +kernel
theorem dX10_drawn_27 : decode cX10_drawn 27 = .ok (.invokestatic 123, 3) := by decide +kernel
theorem dX10_drawn_30 : decode cX10_drawn 30 = .ok (.ifCond .ne 5, 3) := by decide +kernel
theorem dX10_drawn_33 : decode cX10_drawn 33 = .ok (.iconst (-1), 1) := by decide +kernel
theorem dX10_drawn_34 : decode cX10_drawn 34 = .ok (.ireturn, 1) := by decide +kernel
theorem dX10_drawn_35 : decode cX10_drawn 35 = .ok (.iload_n 1, 1) := by decide +kernel
theorem dX10_drawn_36 : decode cX10_drawn 36 = .ok (.istore 4, 2) := by decide +kernel
theorem dX10_drawn_38 : decode cX10_drawn 38 = .ok (.iconst 0, 1) := by decide +kernel
theorem dX10_drawn_39 : decode cX10_drawn 39 = .ok (.istore 5, 2) := by decide +kernel
theorem dX10_drawn_41 : decode cX10_drawn 41 = .ok (.iconst 0, 1) := by decide +kernel
theorem dX10_drawn_42 : decode cX10_drawn 42 = .ok (.istore 6, 2) := by decide +kernel
theorem dX10_drawn_44 : decode cX10_drawn 44 = .ok (.iconst 0, 1) := by decide +kernel
theorem dX10_drawn_45 : decode cX10_drawn 45 = .ok (.istore 7, 2) := by decide +kernel
theorem dX10_drawn_47 : decode cX10_drawn 47 = .ok (.iload 7, 2) := by decide +kernel
theorem dX10_drawn_49 : decode cX10_drawn 49 = .ok (.iload_n 2, 1) := by decide +kernel
theorem dX10_drawn_50 : decode cX10_drawn 50 = .ok (.bipush 10, 2) := by decide +kernel
theorem dX10_drawn_52 : decode cX10_drawn 52 = .ok (.idiv, 1) := by decide +kernel
theorem dX10_drawn_53 : decode cX10_drawn 53 = .ok (.if_icmp .ge 157, 3) := by decide +kernel
theorem dX10_drawn_56 : decode cX10_drawn 56 = .ok (.aload_n 0, 1) := by decide +kernel
theorem dX10_drawn_57 : decode cX10_drawn 57 = .ok (.getfield 120, 3) := by decide +kernel
theorem dX10_drawn_60 : decode cX10_drawn 60 = .ok (.ifCond .le 150, 3) := by decide +kernel
theorem dX10_drawn_63 : decode cX10_drawn 63 = .ok (.iconst 0, 1) := by decide +kernel
theorem dX10_drawn_64 : decode cX10_drawn 64 = .ok (.istore 8, 2) := by decide +kernel
theorem dX10_drawn_66 : decode cX10_drawn 66 = .ok (.iconst (-1), 1) := by decide +kernel
theorem dX10_drawn_67 : decode cX10_drawn 67 = .ok (.istore 9, 2) := by decide +kernel
theorem dX10_drawn_69 : decode cX10_drawn 69 = .ok (.iconst 0, 1) := by decide +kernel
theorem dX10_drawn_70 : decode cX10_drawn 70 = .ok (.istore 10, 2) := by decide +kernel
theorem dX10_drawn_72 : decode cX10_drawn 72 = .ok (.iload 10, 2) := by decide +kernel
theorem dX10_drawn_74 : decode cX10_drawn 74 = .ok (.iload_n 2, 1) := by decide +kernel
theorem dX10_drawn_75 : decode cX10_drawn 75 = .ok (.bipush 10, 2) := by decide +kernel
theorem dX10_drawn_77 : decode cX10_drawn 77 = .ok (.irem, 1) := by decide +kernel
theorem dX10_drawn_78 : decode cX10_drawn 78 = .ok (.if_icmp .ge 110, 3) := by decide +kernel
theorem dX10_drawn_81 : decode cX10_drawn 81 = .ok (.iload 4, 2) := by decide +kernel
theorem dX10_drawn_83 : decode cX10_drawn 83 = .ok (.ldc_w 352, 3) := by decide +kernel
theorem dX10_drawn_86 : decode cX10_drawn 86 = .ok (.imul, 1) := by decide +kernel
theorem dX10_drawn_87 : decode cX10_drawn 87 = .ok (.sipush 12345, 3) := by decide +kernel
theorem dX10_drawn_90 : decode cX10_drawn 90 = .ok (.iadd, 1) := by decide +kernel
theorem dX10_drawn_91 : decode cX10_drawn 91 = .ok (.istore 4, 2) := by decide +kernel
theorem dX10_drawn_93 : decode cX10_drawn 93 = .ok (.iload 4, 2) := by decide +kernel
theorem dX10_drawn_95 : decode cX10_drawn 95 = .ok (.bipush 8, 2) := by decide +kernel
theorem dX10_drawn_97 : decode cX10_drawn 97 = .ok (.iushr, 1) := by decide +kernel
theorem dX10_drawn_98 : decode cX10_drawn 98 = .ok (.aload_n 0, 1) := by decide +kernel
theorem dX10_drawn_99 : decode cX10_drawn 99 = .ok (.getfield 120, 3) := by decide +kernel
theorem dX10_drawn_102 : decode cX10_drawn 102 = .ok (.irem, 1) := by decide +kernel
theorem dX10_drawn_103 : decode cX10_drawn 103 = .ok (.istore 11, 2) := by decide +kernel
theorem dX10_drawn_105 : decode cX10_drawn 105 = .ok (.iload 4, 2) := by decide +kernel
theorem dX10_drawn_107 : decode cX10_drawn 107 = .ok (.bipush 16, 2) := by decide +kernel
theorem dX10_drawn_109 : decode cX10_drawn 109 = .ok (.iushr, 1) := by decide +kernel
theorem dX10_drawn_110 : decode cX10_drawn 110 = .ok (.iconst 1, 1) := by decide +kernel
theorem dX10_drawn_111 : decode cX10_drawn 111 = .ok (.iand, 1) := by decide +kernel
theorem dX10_drawn_112 : decode cX10_drawn 112 = .ok (.iconst 1, 1) := by decide +kernel
theorem dX10_drawn_113 : decode cX10_drawn 113 = .ok (.if_icmp .ne 12, 3) := by decide +kernel
theorem dX10_drawn_116 : decode cX10_drawn 116 = .ok (.aload_n 0, 1) := by decide +kernel
theorem dX10_drawn_117 : decode cX10_drawn 117 = .ok (.getfield 120, 3) := by decide +kernel
theorem dX10_drawn_120 : decode cX10_drawn 120 = .ok (.iconst 1, 1) := by decide +kernel
theorem dX10_drawn_121 : decode cX10_drawn 121 = .ok (.isub, 1) := by decide +kernel
theorem dX10_drawn_122 : decode cX10_drawn 122 = .ok (.goto 4, 3) := by decide +kernel
theorem dX10_drawn_125 : decode cX10_drawn 125 = .ok (.iconst 1, 1) := by decide +kernel
theorem dX10_drawn_126 : decode cX10_drawn 126 = .ok (.istore 12, 2) := by decide +kernel
theorem dX10_drawn_128 : decode cX10_drawn 128 = .ok (.iconst 0, 1) := by decide +kernel
theorem dX10_drawn_129 : decode cX10_drawn 129 = .ok (.istore 13, 2) := by decide +kernel
theorem dX10_drawn_131 : decode cX10_drawn 131 = .ok (.iload 13, 2) := by decide +kernel
theorem dX10_drawn_133 : decode cX10_drawn 133 = .ok (.aload_n 0, 1) := by decide +kernel
theorem dX10_drawn_134 : decode cX10_drawn 134 = .ok (.getfield 120, 3) := by decide +kernel
theorem dX10_drawn_137 : decode cX10_drawn 137 = .ok (.if_icmp .ge 45, 3) := by decide +kernel
theorem dX10_drawn_140 : decode cX10_drawn 140 = .ok (.iload 8, 2) := by decide +kernel
theorem dX10_drawn_142 : decode cX10_drawn 142 = .ok (.aload_n 0, 1) := by decide +kernel
theorem dX10_drawn_143 : decode cX10_drawn 143 = .ok (.iload 9, 2) := by decide +kernel
theorem dX10_drawn_145 : decode cX10_drawn 145 = .ok (.iload 11, 2) := by decide +kernel
theorem dX10_drawn_147 : decode cX10_drawn 147 = .ok (.invokevirtual 258, 3) := by decide +kernel
theorem dX10_drawn_150 : decode cX10_drawn 150 = .ok (.aload_n 0, 1) := by decide +kernel
theorem dX10_drawn_151 : decode cX10_drawn 151 = .ok (.getfield 24, 3) := by decide +kernel
theorem dX10_drawn_154 : decode cX10_drawn 154 = .ok (.iconst 3, 1) := by decide +kernel
theorem dX10_drawn_155 : decode cX10_drawn 155 = .ok (.iaload, 1) := by decide +kernel
theorem dX10_drawn_156 : decode cX10_drawn 156 = .ok (.iadd, 1) := by decide +kernel
theorem dX10_drawn_157 : decode cX10_drawn 157 = .ok (.iadd, 1) := by decide +kernel
theorem dX10_drawn_158 : decode cX10_drawn 158 = .ok (.istore 8, 2) := by decide +kernel
theorem dX10_drawn_160 : decode cX10_drawn 160 = .ok (.iload 11, 2) := by decide +kernel
theorem dX10_drawn_162 : decode cX10_drawn 162 = .ok (.istore 9, 2) := by decide +kernel
theorem dX10_drawn_164 : decode cX10_drawn 164 = .ok (.iload 11, 2) := by decide +kernel
theorem dX10_drawn_166 : decode cX10_drawn 166 = .ok (.iload 12, 2) := by decide +kernel
theorem dX10_drawn_168 : decode cX10_drawn 168 = .ok (.iadd, 1) := by decide +kernel
theorem dX10_drawn_169 : decode cX10_drawn 169 = .ok (.aload_n 0, 1) := by decide +kernel
theorem dX10_drawn_170 : decode cX10_drawn 170 = .ok (.getfield 120, 3) := by decide +kernel
theorem dX10_drawn_173 : decode cX10_drawn 173 = .ok (.irem, 1) := by decide +kernel
theorem dX10_drawn_174 : decode cX10_drawn 174 = .ok (.istore 11, 2) := by decide +kernel
theorem dX10_drawn_176 : decode cX10_drawn 176 = .ok (.iinc 13 1, 3) := by decide +kernel
theorem dX10_drawn_179 : decode cX10_drawn 179 = .ok (.goto (-48), 3) := by decide +kernel
theorem dX10_drawn_182 : decode cX10_drawn 182 = .ok (.iinc 10 1, 3) := by decide +kernel
theorem dX10_drawn_185 : decode cX10_drawn 185 = .ok (.goto (-113), 3) := by decide +kernel
theorem dX10_drawn_188 : decode cX10_drawn 188 = .ok (.iload 5, 2) := by decide +kernel
theorem dX10_drawn_190 : decode cX10_drawn 190 = .ok (.iload 8, 2) := by decide +kernel
theorem dX10_drawn_192 : decode cX10_drawn 192 = .ok (.iadd, 1) := by decide +kernel
theorem dX10_drawn_193 : decode cX10_drawn 193 = .ok (.istore 5, 2) := by decide +kernel
theorem dX10_drawn_195 : decode cX10_drawn 195 = .ok (.iload 6, 2) := by decide +kernel
theorem dX10_drawn_197 : decode cX10_drawn 197 = .ok (.iload 8, 2) := by decide +kernel
theorem dX10_drawn_199 : decode cX10_drawn 199 = .ok (.invokestatic 237, 3) := by decide +kernel
theorem dX10_drawn_202 : decode cX10_drawn 202 = .ok (.istore 6, 2) := by decide +kernel
theorem dX10_drawn_204 : decode cX10_drawn 204 = .ok (.iinc 7 1, 3) := by decide +kernel
theorem dX10_drawn_207 : decode cX10_drawn 207 = .ok (.goto (-160), 3) := by decide +kernel
theorem dX10_drawn_210 : decode cX10_drawn 210 = .ok (.iload_n 3, 1) := by decide +kernel
theorem dX10_drawn_211 : decode cX10_drawn 211 = .ok (.ifCond .ne 8, 3) := by decide +kernel
theorem dX10_drawn_214 : decode cX10_drawn 214 = .ok (.iload 5, 2) := by decide +kernel
theorem dX10_drawn_216 : decode cX10_drawn 216 = .ok (.goto 5, 3) := by decide +kernel
theorem dX10_drawn_219 : decode cX10_drawn 219 = .ok (.iload 6, 2) := by decide +kernel
theorem dX10_drawn_221 : decode cX10_drawn 221 = .ok (.ireturn, 1) := by decide +kernel
set_option maxRecDepth 20000 in
theorem dX10_walk_0 : decode cX10_walk 0 = .ok (.aload_n 0, 1) := by decide +kernel
theorem dX10_walk_1 : decode cX10_walk 1 = .ok (.iload_n 1, 1) := by decide +kernel
theorem dX10_walk_2 : decode cX10_walk 2 = .ok (.i2l, 1) := by decide +kernel
theorem dX10_walk_3 : decode cX10_walk 3 = .ok (.invokevirtual 137, 3) := by decide +kernel
theorem dX10_walk_6 : decode cX10_walk 6 = .ok (.ifCond .ne 5, 3) := by decide +kernel
theorem dX10_walk_9 : decode cX10_walk 9 = .ok (.iconst (-1), 1) := by decide +kernel
theorem dX10_walk_10 : decode cX10_walk 10 = .ok (.ireturn, 1) := by decide +kernel
theorem dX10_walk_11 : decode cX10_walk 11 = .ok (.aload_n 0, 1) := by decide +kernel
theorem dX10_walk_12 : decode cX10_walk 12 = .ok (.aload_n 0, 1) := by decide +kernel
theorem dX10_walk_13 : decode cX10_walk 13 = .ok (.getfield 116, 3) := by decide +kernel
theorem dX10_walk_16 : decode cX10_walk 16 = .ok (.iload_n 1, 1) := by decide +kernel
theorem dX10_walk_17 : decode cX10_walk 17 = .ok (.invokevirtual 258, 3) := by decide +kernel
theorem dX10_walk_20 : decode cX10_walk 20 = .ok (.istore_n 2, 1) := by decide +kernel
theorem dX10_walk_21 : decode cX10_walk 21 = .ok (.aload_n 0, 1) := by decide +kernel
theorem dX10_walk_22 : decode cX10_walk 22 = .ok (.getfield 353, 3) := by decide +kernel
theorem dX10_walk_25 : decode cX10_walk 25 = .ok (.iload_n 2, 1) := by decide +kernel
theorem dX10_walk_26 : decode cX10_walk 26 = .ok (.iadd, 1) := by decide +kernel
theorem dX10_walk_27 : decode cX10_walk 27 = .ok (.aload_n 0, 1) := by decide +kernel
theorem dX10_walk_28 : decode cX10_walk 28 = .ok (.getfield 24, 3) := by decide +kernel
theorem dX10_walk_31 : decode cX10_walk 31 = .ok (.iconst 3, 1) := by decide +kernel
theorem dX10_walk_32 : decode cX10_walk 32 = .ok (.iaload, 1) := by decide +kernel
theorem dX10_walk_33 : decode cX10_walk 33 = .ok (.iadd, 1) := by decide +kernel
theorem dX10_walk_34 : decode cX10_walk 34 = .ok (.sipush 9999, 3) := by decide +kernel
theorem dX10_walk_37 : decode cX10_walk 37 = .ok (.if_icmp .le 6, 3) := by decide +kernel
theorem dX10_walk_40 : decode cX10_walk 40 = .ok (.bipush (-5), 2) := by decide +kernel
theorem dX10_walk_42 : decode cX10_walk 42 = .ok (.ireturn, 1) := by decide +kernel
theorem dX10_walk_43 : decode cX10_walk 43 = .ok (.aload_n 0, 1) := by decide +kernel
theorem dX10_walk_44 : decode cX10_walk 44 = .ok (.dup, 1) := by decide +kernel
theorem dX10_walk_45 : decode cX10_walk 45 = .ok (.getfield 353, 3) := by decide +kernel
theorem dX10_walk_48 : decode cX10_walk 48 = .ok (.iload_n 2, 1) := by decide +kernel
theorem dX10_walk_49 : decode cX10_walk 49 = .ok (.aload_n 0, 1) := by decide +kernel
theorem dX10_walk_50 : decode cX10_walk 50 = .ok (.getfield 24, 3) := by decide +kernel
theorem dX10_walk_53 : decode cX10_walk 53 = .ok (.iconst 3, 1) := by decide +kernel
theorem dX10_walk_54 : decode cX10_walk 54 = .ok (.iaload, 1) := by decide +kernel
theorem dX10_walk_55 : decode cX10_walk 55 = .ok (.iadd, 1) := by decide +kernel
theorem dX10_walk_56 : decode cX10_walk 56 = .ok (.iadd, 1) := by decide +kernel
theorem dX10_walk_57 : decode cX10_walk 57 = .ok (.putfield 353, 3) := by decide +kernel
theorem dX10_walk_60 : decode cX10_walk 60 = .ok (.aload_n 0, 1) := by decide +kernel
theorem dX10_walk_61 : decode cX10_walk 61 = .ok (.iload_n 1, 1) := by decide +kernel
theorem dX10_walk_62 : decode cX10_walk 62 = .ok (.putfield 116, 3) := by decide +kernel
theorem dX10_walk_65 : decode cX10_walk 65 = .ok (.aload_n 0, 1) := by decide +kernel
theorem dX10_walk_66 : decode cX10_walk 66 = .ok (.getfield 60, 3) := by decide +kernel
theorem dX10_walk_69 : decode cX10_walk 69 = .ok (.iload_n 1, 1) := by decide +kernel
theorem dX10_walk_70 : decode cX10_walk 70 = .ok (.dup2, 1) := by decide +kernel
theorem dX10_walk_71 : decode cX10_walk 71 = .ok (.iaload, 1) := by decide +kernel
theorem dX10_walk_72 : decode cX10_walk 72 = .ok (.iconst 1, 1) := by decide +kernel
theorem dX10_walk_73 : decode cX10_walk 73 = .ok (.iadd, 1) := by decide +kernel
theorem dX10_walk_74 : decode cX10_walk 74 = .ok (.iastore, 1) := by decide +kernel
theorem dX10_walk_75 : decode cX10_walk 75 = .ok (.aload_n 0, 1) := by decide +kernel
theorem dX10_walk_76 : decode cX10_walk 76 = .ok (.getfield 63, 3) := by decide +kernel
theorem dX10_walk_79 : decode cX10_walk 79 = .ok (.iconst 0, 1) := by decide +kernel
theorem dX10_walk_80 : decode cX10_walk 80 = .ok (.dup2, 1) := by decide +kernel
theorem dX10_walk_81 : decode cX10_walk 81 = .ok (.iaload, 1) := by decide +kernel
theorem dX10_walk_82 : decode cX10_walk 82 = .ok (.iload_n 2, 1) := by decide +kernel
theorem dX10_walk_83 : decode cX10_walk 83 = .ok (.iadd, 1) := by decide +kernel
theorem dX10_walk_84 : decode cX10_walk 84 = .ok (.iastore, 1) := by decide +kernel
theorem dX10_walk_85 : decode cX10_walk 85 = .ok (.aload_n 0, 1) := by decide +kernel
theorem dX10_walk_86 : decode cX10_walk 86 = .ok (.getfield 63, 3) := by decide +kernel
theorem dX10_walk_89 : decode cX10_walk 89 = .ok (.iconst 1, 1) := by decide +kernel
theorem dX10_walk_90 : decode cX10_walk 90 = .ok (.dup2, 1) := by decide +kernel
theorem dX10_walk_91 : decode cX10_walk 91 = .ok (.iaload, 1) := by decide +kernel
theorem dX10_walk_92 : decode cX10_walk 92 = .ok (.iconst 1, 1) := by decide +kernel
theorem dX10_walk_93 : decode cX10_walk 93 = .ok (.iadd, 1) := by decide +kernel
theorem dX10_walk_94 : decode cX10_walk 94 = .ok (.iastore, 1) := by decide +kernel
theorem dX10_walk_95 : decode cX10_walk 95 = .ok (.aload_n 0, 1) := by decide +kernel
theorem dX10_walk_96 : decode cX10_walk 96 = .ok (.getfield 63, 3) := by decide +kernel
theorem dX10_walk_99 : decode cX10_walk 99 = .ok (.iconst 2, 1) := by decide +kernel
theorem dX10_walk_100 : decode cX10_walk 100 = .ok (.dup2, 1) := by decide +kernel
theorem dX10_walk_101 : decode cX10_walk 101 = .ok (.iaload, 1) := by decide +kernel
theorem dX10_walk_102 : decode cX10_walk 102 = .ok (.aload_n 0, 1) := by decide +kernel
theorem dX10_walk_103 : decode cX10_walk 103 = .ok (.getfield 24, 3) := by decide +kernel
theorem dX10_walk_106 : decode cX10_walk 106 = .ok (.iconst 3, 1) := by decide +kernel
theorem dX10_walk_107 : decode cX10_walk 107 = .ok (.iaload, 1) := by decide +kernel
theorem dX10_walk_108 : decode cX10_walk 108 = .ok (.iadd, 1) := by decide +kernel
theorem dX10_walk_109 : decode cX10_walk 109 = .ok (.iastore, 1) := by decide +kernel
theorem dX10_walk_110 : decode cX10_walk 110 = .ok (.aload_n 0, 1) := by decide +kernel
theorem dX10_walk_111 : decode cX10_walk 111 = .ok (.getfield 353, 3) := by decide +kernel
theorem dX10_walk_114 : decode cX10_walk 114 = .ok (.ireturn, 1) := by decide +kernel
set_option maxRecDepth 20000 in
theorem dX10_waits_0 : decode cX10_waits 0 = .ok (.iload_n 1, 1) := by decide +kernel
theorem dX10_waits_1 : decode cX10_waits 1 = .ok (.iconst 1, 1) := by decide +kernel
theorem dX10_waits_2 : decode cX10_waits 2 = .ok (.sipush 999, 3) := by decide +kernel
theorem dX10_waits_5 : decode cX10_waits 5 = .ok (.invokestatic 123, 3) := by decide +kernel
theorem dX10_waits_8 : decode cX10_waits 8 = .ok (.ifCond .ne 5, 3) := by decide +kernel
theorem dX10_waits_11 : decode cX10_waits 11 = .ok (.iconst (-1), 1) := by decide +kernel
theorem dX10_waits_12 : decode cX10_waits 12 = .ok (.ireturn, 1) := by decide +kernel
theorem dX10_waits_13 : decode cX10_waits 13 = .ok (.aload_n 0, 1) := by decide +kernel
theorem dX10_waits_14 : decode cX10_waits 14 = .ok (.getfield 353, 3) := by decide +kernel
theorem dX10_waits_17 : decode cX10_waits 17 = .ok (.iload_n 1, 1) := by decide +kernel
theorem dX10_waits_18 : decode cX10_waits 18 = .ok (.iadd, 1) := by decide +kernel
theorem dX10_waits_19 : decode cX10_waits 19 = .ok (.sipush 9999, 3) := by decide +kernel
theorem dX10_waits_22 : decode cX10_waits 22 = .ok (.if_icmp .le 6, 3) := by decide +kernel
theorem dX10_waits_25 : decode cX10_waits 25 = .ok (.bipush (-5), 2) := by decide +kernel
theorem dX10_waits_27 : decode cX10_waits 27 = .ok (.ireturn, 1) := by decide +kernel
theorem dX10_waits_28 : decode cX10_waits 28 = .ok (.aload_n 0, 1) := by decide +kernel
theorem dX10_waits_29 : decode cX10_waits 29 = .ok (.dup, 1) := by decide +kernel
theorem dX10_waits_30 : decode cX10_waits 30 = .ok (.getfield 353, 3) := by decide +kernel
theorem dX10_waits_33 : decode cX10_waits 33 = .ok (.iload_n 1, 1) := by decide +kernel
theorem dX10_waits_34 : decode cX10_waits 34 = .ok (.iadd, 1) := by decide +kernel
theorem dX10_waits_35 : decode cX10_waits 35 = .ok (.putfield 353, 3) := by decide +kernel
theorem dX10_waits_38 : decode cX10_waits 38 = .ok (.aload_n 0, 1) := by decide +kernel
theorem dX10_waits_39 : decode cX10_waits 39 = .ok (.getfield 63, 3) := by decide +kernel
theorem dX10_waits_42 : decode cX10_waits 42 = .ok (.iconst 3, 1) := by decide +kernel
theorem dX10_waits_43 : decode cX10_waits 43 = .ok (.dup2, 1) := by decide +kernel
theorem dX10_waits_44 : decode cX10_waits 44 = .ok (.iaload, 1) := by decide +kernel
theorem dX10_waits_45 : decode cX10_waits 45 = .ok (.iload_n 1, 1) := by decide +kernel
theorem dX10_waits_46 : decode cX10_waits 46 = .ok (.iadd, 1) := by decide +kernel
theorem dX10_waits_47 : decode cX10_waits 47 = .ok (.iastore, 1) := by decide +kernel
theorem dX10_waits_48 : decode cX10_waits 48 = .ok (.aload_n 0, 1) := by decide +kernel
theorem dX10_waits_49 : decode cX10_waits 49 = .ok (.getfield 353, 3) := by decide +kernel
theorem dX10_waits_52 : decode cX10_waits 52 = .ok (.ireturn, 1) := by decide +kernel
set_option maxRecDepth 20000 in
theorem dX10_home_0 : decode cX10_home 0 = .ok (.aload_n 0, 1) := by decide +kernel
theorem dX10_home_1 : decode cX10_home 1 = .ok (.aload_n 0, 1) := by decide +kernel
theorem dX10_home_2 : decode cX10_home 2 = .ok (.getfield 116, 3) := by decide +kernel
theorem dX10_home_5 : decode cX10_home 5 = .ok (.iconst (-1), 1) := by decide +kernel
theorem dX10_home_6 : decode cX10_home 6 = .ok (.invokevirtual 258, 3) := by decide +kernel
theorem dX10_home_9 : decode cX10_home 9 = .ok (.istore_n 1, 1) := by decide +kernel
theorem dX10_home_10 : decode cX10_home 10 = .ok (.aload_n 0, 1) := by decide +kernel
theorem dX10_home_11 : decode cX10_home 11 = .ok (.getfield 353, 3) := by decide +kernel
theorem dX10_home_14 : decode cX10_home 14 = .ok (.iload_n 1, 1) := by decide +kernel
theorem dX10_home_15 : decode cX10_home 15 = .ok (.iadd, 1) := by decide +kernel
theorem dX10_home_16 : decode cX10_home 16 = .ok (.sipush 9999, 3) := by decide +kernel
theorem dX10_home_19 : decode cX10_home 19 = .ok (.if_icmp .le 6, 3) := by decide +kernel
theorem dX10_home_22 : decode cX10_home 22 = .ok (.bipush (-5), 2) := by decide +kernel
theorem dX10_home_24 : decode cX10_home 24 = .ok (.ireturn, 1) := by decide +kernel
theorem dX10_home_25 : decode cX10_home 25 = .ok (.aload_n 0, 1) := by decide +kernel
theorem dX10_home_26 : decode cX10_home 26 = .ok (.dup, 1) := by decide +kernel
theorem dX10_home_27 : decode cX10_home 27 = .ok (.getfield 353, 3) := by decide +kernel
theorem dX10_home_30 : decode cX10_home 30 = .ok (.iload_n 1, 1) := by decide +kernel
theorem dX10_home_31 : decode cX10_home 31 = .ok (.iadd, 1) := by decide +kernel
theorem dX10_home_32 : decode cX10_home 32 = .ok (.putfield 353, 3) := by decide +kernel
theorem dX10_home_35 : decode cX10_home 35 = .ok (.aload_n 0, 1) := by decide +kernel
theorem dX10_home_36 : decode cX10_home 36 = .ok (.iconst (-1), 1) := by decide +kernel
theorem dX10_home_37 : decode cX10_home 37 = .ok (.putfield 116, 3) := by decide +kernel
theorem dX10_home_40 : decode cX10_home 40 = .ok (.aload_n 0, 1) := by decide +kernel
theorem dX10_home_41 : decode cX10_home 41 = .ok (.getfield 63, 3) := by decide +kernel
theorem dX10_home_44 : decode cX10_home 44 = .ok (.iconst 0, 1) := by decide +kernel
theorem dX10_home_45 : decode cX10_home 45 = .ok (.dup2, 1) := by decide +kernel
theorem dX10_home_46 : decode cX10_home 46 = .ok (.iaload, 1) := by decide +kernel
theorem dX10_home_47 : decode cX10_home 47 = .ok (.iload_n 1, 1) := by decide +kernel
theorem dX10_home_48 : decode cX10_home 48 = .ok (.iadd, 1) := by decide +kernel
theorem dX10_home_49 : decode cX10_home 49 = .ok (.iastore, 1) := by decide +kernel
theorem dX10_home_50 : decode cX10_home 50 = .ok (.aload_n 0, 1) := by decide +kernel
theorem dX10_home_51 : decode cX10_home 51 = .ok (.getfield 353, 3) := by decide +kernel
theorem dX10_home_54 : decode cX10_home 54 = .ok (.ireturn, 1) := by decide +kernel
set_option maxRecDepth 20000 in
theorem dX10_led_0 : decode cX10_led 0 = .ok (.iload_n 1, 1) := by decide +kernel
theorem dX10_led_1 : decode cX10_led 1 = .ok (.iconst 4, 1) := by decide +kernel
theorem dX10_led_2 : decode cX10_led 2 = .ok (.if_icmp .ne 10, 3) := by decide +kernel
theorem dX10_led_5 : decode cX10_led 5 = .ok (.aload_n 0, 1) := by decide +kernel
theorem dX10_led_6 : decode cX10_led 6 = .ok (.getfield 353, 3) := by decide +kernel
theorem dX10_led_9 : decode cX10_led 9 = .ok (.goto 22, 3) := by decide +kernel
theorem dX10_led_12 : decode cX10_led 12 = .ok (.iload_n 1, 1) := by decide +kernel
theorem dX10_led_13 : decode cX10_led 13 = .ok (.iconst 0, 1) := by decide +kernel
theorem dX10_led_14 : decode cX10_led 14 = .ok (.iconst 3, 1) := by decide +kernel
theorem dX10_led_15 : decode cX10_led 15 = .ok (.invokestatic 123, 3) := by decide +kernel
theorem dX10_led_18 : decode cX10_led 18 = .ok (.ifCond .eq 12, 3) := by decide +kernel
theorem dX10_led_21 : decode cX10_led 21 = .ok (.aload_n 0, 1) := by decide +kernel
theorem dX10_led_22 : decode cX10_led 22 = .ok (.getfield 63, 3) := by decide +kernel
theorem dX10_led_25 : decode cX10_led 25 = .ok (.iload_n 1, 1) := by decide +kernel
theorem dX10_led_26 : decode cX10_led 26 = .ok (.iaload, 1) := by decide +kernel
theorem dX10_led_27 : decode cX10_led 27 = .ok (.goto 4, 3) := by decide +kernel
theorem dX10_led_30 : decode cX10_led 30 = .ok (.iconst (-1), 1) := by decide +kernel
theorem dX10_led_31 : decode cX10_led 31 = .ok (.ireturn, 1) := by decide +kernel
theorem dX10_image_0 : decode cX10_image 0 = .ok (.aload_n 0, 1) := by decide +kernel
theorem dX10_image_1 : decode cX10_image 1 = .ok (.iconst 1, 1) := by decide +kernel
theorem dX10_image_2 : decode cX10_image 2 = .ok (.putfield 356, 3) := by decide +kernel
theorem dX10_image_5 : decode cX10_image 5 = .ok (.aload_n 0, 1) := by decide +kernel
theorem dX10_image_6 : decode cX10_image 6 = .ok (.aload_n 0, 1) := by decide +kernel
theorem dX10_image_7 : decode cX10_image 7 = .ok (.getfield 120, 3) := by decide +kernel
theorem dX10_image_10 : decode cX10_image 10 = .ok (.putfield 359, 3) := by decide +kernel
theorem dX10_image_13 : decode cX10_image 13 = .ok (.aload_n 0, 1) := by decide +kernel
theorem dX10_image_14 : decode cX10_image 14 = .ok (.aload_n 0, 1) := by decide +kernel
theorem dX10_image_15 : decode cX10_image 15 = .ok (.getfield 116, 3) := by decide +kernel
theorem dX10_image_18 : decode cX10_image 18 = .ok (.putfield 362, 3) := by decide +kernel
theorem dX10_image_21 : decode cX10_image 21 = .ok (.aload_n 0, 1) := by decide +kernel
theorem dX10_image_22 : decode cX10_image 22 = .ok (.aload_n 0, 1) := by decide +kernel
theorem dX10_image_23 : decode cX10_image 23 = .ok (.getfield 353, 3) := by decide +kernel
theorem dX10_image_26 : decode cX10_image 26 = .ok (.putfield 365, 3) := by decide +kernel
theorem dX10_image_29 : decode cX10_image 29 = .ok (.iconst 0, 1) := by decide +kernel
theorem dX10_image_30 : decode cX10_image 30 = .ok (.istore_n 1, 1) := by decide +kernel
theorem dX10_image_31 : decode cX10_image 31 = .ok (.iload_n 1, 1) := by decide +kernel
theorem dX10_image_32 : decode cX10_image 32 = .ok (.bipush 9, 2) := by decide +kernel
theorem dX10_image_34 : decode cX10_image 34 = .ok (.if_icmp .ge 21, 3) := by decide +kernel
theorem dX10_image_37 : decode cX10_image 37 = .ok (.aload_n 0, 1) := by decide +kernel
theorem dX10_image_38 : decode cX10_image 38 = .ok (.getfield 66, 3) := by decide +kernel
theorem dX10_image_41 : decode cX10_image 41 = .ok (.iload_n 1, 1) := by decide +kernel
theorem dX10_image_42 : decode cX10_image 42 = .ok (.aload_n 0, 1) := by decide +kernel
theorem dX10_image_43 : decode cX10_image 43 = .ok (.getfield 60, 3) := by decide +kernel
theorem dX10_image_46 : decode cX10_image 46 = .ok (.iload_n 1, 1) := by decide +kernel
theorem dX10_image_47 : decode cX10_image 47 = .ok (.iaload, 1) := by decide +kernel
theorem dX10_image_48 : decode cX10_image 48 = .ok (.iastore, 1) := by decide +kernel
theorem dX10_image_49 : decode cX10_image 49 = .ok (.iinc 1 1, 3) := by decide +kernel
theorem dX10_image_52 : decode cX10_image 52 = .ok (.goto (-21), 3) := by decide +kernel
theorem dX10_image_55 : decode cX10_image 55 = .ok (.iconst 0, 1) := by decide +kernel
theorem dX10_image_56 : decode cX10_image 56 = .ok (.istore_n 1, 1) := by decide +kernel
theorem dX10_image_57 : decode cX10_image 57 = .ok (.iload_n 1, 1) := by decide +kernel
theorem dX10_image_58 : decode cX10_image 58 = .ok (.iconst 4, 1) := by decide +kernel
theorem dX10_image_59 : decode cX10_image 59 = .ok (.if_icmp .ge 21, 3) := by decide +kernel
theorem dX10_image_62 : decode cX10_image 62 = .ok (.aload_n 0, 1) := by decide +kernel
theorem dX10_image_63 : decode cX10_image 63 = .ok (.getfield 69, 3) := by decide +kernel
theorem dX10_image_66 : decode cX10_image 66 = .ok (.iload_n 1, 1) := by decide +kernel
theorem dX10_image_67 : decode cX10_image 67 = .ok (.aload_n 0, 1) := by decide +kernel
theorem dX10_image_68 : decode cX10_image 68 = .ok (.getfield 63, 3) := by decide +kernel
theorem dX10_image_71 : decode cX10_image 71 = .ok (.iload_n 1, 1) := by decide +kernel
theorem dX10_image_72 : decode cX10_image 72 = .ok (.iaload, 1) := by decide +kernel
theorem dX10_image_73 : decode cX10_image 73 = .ok (.iastore, 1) := by decide +kernel
theorem dX10_image_74 : decode cX10_image 74 = .ok (.iinc 1 1, 3) := by decide +kernel
theorem dX10_image_77 : decode cX10_image 77 = .ok (.goto (-20), 3) := by decide +kernel
theorem dX10_image_80 : decode cX10_image 80 = .ok (.aload_n 0, 1) := by decide +kernel
theorem dX10_image_81 : decode cX10_image 81 = .ok (.getfield 353, 3) := by decide +kernel
theorem dX10_image_84 : decode cX10_image 84 = .ok (.ireturn, 1) := by decide +kernel
theorem dX10_back_0 : decode cX10_back 0 = .ok (.aload_n 0, 1) := by decide +kernel
theorem dX10_back_1 : decode cX10_back 1 = .ok (.getfield 356, 3) := by decide +kernel
theorem dX10_back_4 : decode cX10_back 4 = .ok (.ifCond .ne 6, 3) := by decide +kernel
theorem dX10_back_7 : decode cX10_back 7 = .ok (.bipush (-5), 2) := by decide +kernel
theorem dX10_back_9 : decode cX10_back 9 = .ok (.ireturn, 1) := by decide +kernel
theorem dX10_back_10 : decode cX10_back 10 = .ok (.aload_n 0, 1) := by decide +kernel
theorem dX10_back_11 : decode cX10_back 11 = .ok (.aload_n 0, 1) := by decide +kernel
theorem dX10_back_12 : decode cX10_back 12 = .ok (.getfield 362, 3) := by decide +kernel
theorem dX10_back_15 : decode cX10_back 15 = .ok (.putfield 116, 3) := by decide +kernel
theorem dX10_back_18 : decode cX10_back 18 = .ok (.aload_n 0, 1) := by decide +kernel
theorem dX10_back_19 : decode cX10_back 19 = .ok (.aload_n 0, 1) := by decide +kernel
theorem dX10_back_20 : decode cX10_back 20 = .ok (.getfield 365, 3) := by decide +kernel
theorem dX10_back_23 : decode cX10_back 23 = .ok (.putfield 353, 3) := by decide +kernel
theorem dX10_back_26 : decode cX10_back 26 = .ok (.iconst 0, 1) := by decide +kernel
theorem dX10_back_27 : decode cX10_back 27 = .ok (.istore_n 1, 1) := by decide +kernel
theorem dX10_back_28 : decode cX10_back 28 = .ok (.iload_n 1, 1) := by decide +kernel
theorem dX10_back_29 : decode cX10_back 29 = .ok (.bipush 9, 2) := by decide +kernel
theorem dX10_back_31 : decode cX10_back 31 = .ok (.if_icmp .ge 33, 3) := by decide +kernel
theorem dX10_back_34 : decode cX10_back 34 = .ok (.aload_n 0, 1) := by decide +kernel
theorem dX10_back_35 : decode cX10_back 35 = .ok (.getfield 60, 3) := by decide +kernel
theorem dX10_back_38 : decode cX10_back 38 = .ok (.iload_n 1, 1) := by decide +kernel
theorem dX10_back_39 : decode cX10_back 39 = .ok (.iload_n 1, 1) := by decide +kernel
theorem dX10_back_40 : decode cX10_back 40 = .ok (.aload_n 0, 1) := by decide +kernel
theorem dX10_back_41 : decode cX10_back 41 = .ok (.getfield 359, 3) := by decide +kernel
theorem dX10_back_44 : decode cX10_back 44 = .ok (.if_icmp .ge 12, 3) := by decide +kernel
theorem dX10_back_47 : decode cX10_back 47 = .ok (.aload_n 0, 1) := by decide +kernel
theorem dX10_back_48 : decode cX10_back 48 = .ok (.getfield 66, 3) := by decide +kernel
theorem dX10_back_51 : decode cX10_back 51 = .ok (.iload_n 1, 1) := by decide +kernel
theorem dX10_back_52 : decode cX10_back 52 = .ok (.iaload, 1) := by decide +kernel
theorem dX10_back_53 : decode cX10_back 53 = .ok (.goto 4, 3) := by decide +kernel
theorem dX10_back_56 : decode cX10_back 56 = .ok (.iconst 0, 1) := by decide +kernel
theorem dX10_back_57 : decode cX10_back 57 = .ok (.iastore, 1) := by decide +kernel
theorem dX10_back_58 : decode cX10_back 58 = .ok (.iinc 1 1, 3) := by decide +kernel
theorem dX10_back_61 : decode cX10_back 61 = .ok (.goto (-33), 3) := by decide +kernel
theorem dX10_back_64 : decode cX10_back 64 = .ok (.iconst 0, 1) := by decide +kernel
theorem dX10_back_65 : decode cX10_back 65 = .ok (.istore_n 1, 1) := by decide +kernel
theorem dX10_back_66 : decode cX10_back 66 = .ok (.iload_n 1, 1) := by decide +kernel
theorem dX10_back_67 : decode cX10_back 67 = .ok (.iconst 4, 1) := by decide +kernel
theorem dX10_back_68 : decode cX10_back 68 = .ok (.if_icmp .ge 21, 3) := by decide +kernel
theorem dX10_back_71 : decode cX10_back 71 = .ok (.aload_n 0, 1) := by decide +kernel
theorem dX10_back_72 : decode cX10_back 72 = .ok (.getfield 63, 3) := by decide +kernel
theorem dX10_back_75 : decode cX10_back 75 = .ok (.iload_n 1, 1) := by decide +kernel
theorem dX10_back_76 : decode cX10_back 76 = .ok (.aload_n 0, 1) := by decide +kernel
theorem dX10_back_77 : decode cX10_back 77 = .ok (.getfield 69, 3) := by decide +kernel
theorem dX10_back_80 : decode cX10_back 80 = .ok (.iload_n 1, 1) := by decide +kernel
theorem dX10_back_81 : decode cX10_back 81 = .ok (.iaload, 1) := by decide +kernel
theorem dX10_back_82 : decode cX10_back 82 = .ok (.iastore, 1) := by decide +kernel
theorem dX10_back_83 : decode cX10_back 83 = .ok (.iinc 1 1, 3) := by decide +kernel
theorem dX10_back_86 : decode cX10_back 86 = .ok (.goto (-20), 3) := by decide +kernel
theorem dX10_back_89 : decode cX10_back 89 = .ok (.aload_n 0, 1) := by decide +kernel
theorem dX10_back_90 : decode cX10_back 90 = .ok (.getfield 353, 3) := by decide +kernel
theorem dX10_back_93 : decode cX10_back 93 = .ok (.ireturn, 1) := by decide +kernel
theorem dX10_above_0 : decode cX10_above 0 = .ok (.iload_n 0, 1) := by decide +kernel
theorem dX10_above_1 : decode cX10_above 1 = .ok (.tableswitch 43 3 7 #[35, 37, 39, 43, 41], 35) := by decide +kernel
theorem dX10_above_36 : decode cX10_above 36 = .ok (.iconst 2, 1) := by decide +kernel
theorem dX10_above_37 : decode cX10_above 37 = .ok (.ireturn, 1) := by decide +kernel
theorem dX10_above_38 : decode cX10_above 38 = .ok (.iconst 1, 1) := by decide +kernel
theorem dX10_above_39 : decode cX10_above 39 = .ok (.ireturn, 1) := by decide +kernel
theorem dX10_above_40 : decode cX10_above 40 = .ok (.iconst 3, 1) := by decide +kernel
theorem dX10_above_41 : decode cX10_above 41 = .ok (.ireturn, 1) := by decide +kernel
theorem dX10_above_42 : decode cX10_above 42 = .ok (.iconst 4, 1) := by decide +kernel
theorem dX10_above_43 : decode cX10_above 43 = .ok (.ireturn, 1) := by decide +kernel
theorem dX10_above_44 : decode cX10_above 44 = .ok (.iconst 0, 1) := by decide +kernel
theorem dX10_above_45 : decode cX10_above 45 = .ok (.ireturn, 1) := by decide +kernel
theorem dX10_ran_0 : decode cX10_ran 0 = .ok (.aload_n 0, 1) := by decide +kernel
theorem dX10_ran_1 : decode cX10_ran 1 = .ok (.getfield 368, 3) := by decide +kernel
theorem dX10_ran_4 : decode cX10_ran 4 = .ok (.bipush 24, 2) := by decide +kernel
theorem dX10_ran_6 : decode cX10_ran 6 = .ok (.if_icmp .ge 13, 3) := by decide +kernel
theorem dX10_ran_9 : decode cX10_ran 9 = .ok (.aload_n 0, 1) := by decide +kernel
theorem dX10_ran_10 : decode cX10_ran 10 = .ok (.getfield 78, 3) := by decide +kernel
theorem dX10_ran_13 : decode cX10_ran 13 = .ok (.aload_n 0, 1) := by decide +kernel
theorem dX10_ran_14 : decode cX10_ran 14 = .ok (.getfield 368, 3) := by decide +kernel
theorem dX10_ran_17 : decode cX10_ran 17 = .ok (.iload_n 1, 1) := by decide +kernel
theorem dX10_ran_18 : decode cX10_ran 18 = .ok (.iastore, 1) := by decide +kernel
theorem dX10_ran_19 : decode cX10_ran 19 = .ok (.aload_n 0, 1) := by decide +kernel
theorem dX10_ran_20 : decode cX10_ran 20 = .ok (.dup, 1) := by decide +kernel
theorem dX10_ran_21 : decode cX10_ran 21 = .ok (.getfield 368, 3) := by decide +kernel
theorem dX10_ran_24 : decode cX10_ran 24 = .ok (.iconst 1, 1) := by decide +kernel
theorem dX10_ran_25 : decode cX10_ran 25 = .ok (.iadd, 1) := by decide +kernel
theorem dX10_ran_26 : decode cX10_ran 26 = .ok (.putfield 368, 3) := by decide +kernel
theorem dX10_ran_29 : decode cX10_ran 29 = .ok (.return_, 1) := by decide +kernel
set_option maxRecDepth 20000 in
theorem dX10_turnsBy_0 : decode cX10_turnsBy 0 = .ok (.iload_n 2, 1) := by decide +kernel
theorem dX10_turnsBy_1 : decode cX10_turnsBy 1 = .ok (.lookupswitch 76 #[(0, 35), (1, 44), (6, 60)], 35) := by decide +kernel
theorem dX10_turnsBy_36 : decode cX10_turnsBy 36 = .ok (.aload_n 0, 1) := by decide +kernel
theorem dX10_turnsBy_37 : decode cX10_turnsBy 37 = .ok (.iconst 1, 1) := by decide +kernel
theorem dX10_turnsBy_38 : decode cX10_turnsBy 38 = .ok (.invokevirtual 371, 3) := by decide +kernel
theorem dX10_turnsBy_41 : decode cX10_turnsBy 41 = .ok (.iload_n 3, 1) := by decide +kernel
theorem dX10_turnsBy_42 : decode cX10_turnsBy 42 = .ok (.iload_n 1, 1) := by decide +kernel
theorem dX10_turnsBy_43 : decode cX10_turnsBy 43 = .ok (.iadd, 1) := by decide +kernel
theorem dX10_turnsBy_44 : decode cX10_turnsBy 44 = .ok (.ireturn, 1) := by decide +kernel
theorem dX10_turnsBy_45 : decode cX10_turnsBy 45 = .ok (.aload_n 0, 1) := by decide +kernel
theorem dX10_turnsBy_46 : decode cX10_turnsBy 46 = .ok (.bipush 20, 2) := by decide +kernel
theorem dX10_turnsBy_48 : decode cX10_turnsBy 48 = .ok (.invokevirtual 371, 3) := by decide +kernel
theorem dX10_turnsBy_51 : decode cX10_turnsBy 51 = .ok (.aload_n 0, 1) := by decide +kernel
theorem dX10_turnsBy_52 : decode cX10_turnsBy 52 = .ok (.iload_n 1, 1) := by decide +kernel
theorem dX10_turnsBy_53 : decode cX10_turnsBy 53 = .ok (.iconst 0, 1) := by decide +kernel
theorem dX10_turnsBy_54 : decode cX10_turnsBy 54 = .ok (.iload_n 3, 1) := by decide +kernel
theorem dX10_turnsBy_55 : decode cX10_turnsBy 55 = .ok (.invokevirtual 374, 3) := by decide +kernel
theorem dX10_turnsBy_58 : decode cX10_turnsBy 58 = .ok (.iconst 3, 1) := by decide +kernel
theorem dX10_turnsBy_59 : decode cX10_turnsBy 59 = .ok (.iadd, 1) := by decide +kernel
theorem dX10_turnsBy_60 : decode cX10_turnsBy 60 = .ok (.ireturn, 1) := by decide +kernel
theorem dX10_turnsBy_61 : decode cX10_turnsBy 61 = .ok (.aload_n 0, 1) := by decide +kernel
theorem dX10_turnsBy_62 : decode cX10_turnsBy 62 = .ok (.bipush 70, 2) := by decide +kernel
theorem dX10_turnsBy_64 : decode cX10_turnsBy 64 = .ok (.invokevirtual 371, 3) := by decide +kernel
theorem dX10_turnsBy_67 : decode cX10_turnsBy 67 = .ok (.aload_n 0, 1) := by decide +kernel
theorem dX10_turnsBy_68 : decode cX10_turnsBy 68 = .ok (.iload_n 1, 1) := by decide +kernel
theorem dX10_turnsBy_69 : decode cX10_turnsBy 69 = .ok (.iconst 0, 1) := by decide +kernel
theorem dX10_turnsBy_70 : decode cX10_turnsBy 70 = .ok (.iload_n 3, 1) := by decide +kernel
theorem dX10_turnsBy_71 : decode cX10_turnsBy 71 = .ok (.invokevirtual 374, 3) := by decide +kernel
theorem dX10_turnsBy_74 : decode cX10_turnsBy 74 = .ok (.iconst 2, 1) := by decide +kernel
theorem dX10_turnsBy_75 : decode cX10_turnsBy 75 = .ok (.imul, 1) := by decide +kernel
theorem dX10_turnsBy_76 : decode cX10_turnsBy 76 = .ok (.ireturn, 1) := by decide +kernel
theorem dX10_turnsBy_77 : decode cX10_turnsBy 77 = .ok (.aload_n 0, 1) := by decide +kernel
theorem dX10_turnsBy_78 : decode cX10_turnsBy 78 = .ok (.iload_n 1, 1) := by decide +kernel
theorem dX10_turnsBy_79 : decode cX10_turnsBy 79 = .ok (.iload_n 2, 1) := by decide +kernel
theorem dX10_turnsBy_80 : decode cX10_turnsBy 80 = .ok (.invokestatic 377, 3) := by decide +kernel
theorem dX10_turnsBy_83 : decode cX10_turnsBy 83 = .ok (.iload_n 3, 1) := by decide +kernel
theorem dX10_turnsBy_84 : decode cX10_turnsBy 84 = .ok (.invokevirtual 374, 3) := by decide +kernel
theorem dX10_turnsBy_87 : decode cX10_turnsBy 87 = .ok (.ireturn, 1) := by decide +kernel
set_option maxRecDepth 20000 in
theorem dX10_seesBy_0 : decode cX10_seesBy 0 = .ok (.iload_n 2, 1) := by decide +kernel
theorem dX10_seesBy_1 : decode cX10_seesBy 1 = .ok (.tableswitch 130 0 7 #[47, 130, 68, 83, 130, 130, 130, 99], 47) := by decide +kernel
theorem dX10_seesBy_48 : decode cX10_seesBy 48 = .ok (.aload_n 0, 1) := by decide +kernel
theorem dX10_seesBy_49 : decode cX10_seesBy 49 = .ok (.bipush 10, 2) := by decide +kernel
theorem dX10_seesBy_51 : decode cX10_seesBy 51 = .ok (.invokevirtual 371, 3) := by decide +kernel
theorem dX10_seesBy_54 : decode cX10_seesBy 54 = .ok (.aload_n 0, 1) := by decide +kernel
theorem dX10_seesBy_55 : decode cX10_seesBy 55 = .ok (.iload_n 1, 1) := by decide +kernel
theorem dX10_seesBy_56 : decode cX10_seesBy 56 = .ok (.aload_n 0, 1) := by decide +kernel
theorem dX10_seesBy_57 : decode cX10_seesBy 57 = .ok (.getfield 75, 3) := by decide +kernel
theorem dX10_seesBy_60 : decode cX10_seesBy 60 = .ok (.iload_n 1, 1) := by decide +kernel
theorem dX10_seesBy_61 : decode cX10_seesBy 61 = .ok (.iaload, 1) := by decide +kernel
theorem dX10_seesBy_62 : decode cX10_seesBy 62 = .ok (.iload_n 3, 1) := by decide +kernel
theorem dX10_seesBy_63 : decode cX10_seesBy 63 = .ok (.invokevirtual 374, 3) := by decide +kernel
theorem dX10_seesBy_66 : decode cX10_seesBy 66 = .ok (.iconst 2, 1) := by decide +kernel
theorem dX10_seesBy_67 : decode cX10_seesBy 67 = .ok (.imul, 1) := by decide +kernel
theorem dX10_seesBy_68 : decode cX10_seesBy 68 = .ok (.ireturn, 1) := by decide +kernel
theorem dX10_seesBy_69 : decode cX10_seesBy 69 = .ok (.aload_n 0, 1) := by decide +kernel
theorem dX10_seesBy_70 : decode cX10_seesBy 70 = .ok (.bipush 30, 2) := by decide +kernel
theorem dX10_seesBy_72 : decode cX10_seesBy 72 = .ok (.invokevirtual 371, 3) := by decide +kernel
theorem dX10_seesBy_75 : decode cX10_seesBy 75 = .ok (.aload_n 0, 1) := by decide +kernel
theorem dX10_seesBy_76 : decode cX10_seesBy 76 = .ok (.iload_n 1, 1) := by decide +kernel
theorem dX10_seesBy_77 : decode cX10_seesBy 77 = .ok (.iconst 0, 1) := by decide +kernel
theorem dX10_seesBy_78 : decode cX10_seesBy 78 = .ok (.iload_n 3, 1) := by decide +kernel
theorem dX10_seesBy_79 : decode cX10_seesBy 79 = .ok (.invokevirtual 380, 3) := by decide +kernel
theorem dX10_seesBy_82 : decode cX10_seesBy 82 = .ok (.ineg, 1) := by decide +kernel
theorem dX10_seesBy_83 : decode cX10_seesBy 83 = .ok (.ireturn, 1) := by decide +kernel
theorem dX10_seesBy_84 : decode cX10_seesBy 84 = .ok (.aload_n 0, 1) := by decide +kernel
theorem dX10_seesBy_85 : decode cX10_seesBy 85 = .ok (.bipush 41, 2) := by decide +kernel
theorem dX10_seesBy_87 : decode cX10_seesBy 87 = .ok (.invokevirtual 371, 3) := by decide +kernel
theorem dX10_seesBy_90 : decode cX10_seesBy 90 = .ok (.aload_n 0, 1) := by decide +kernel
theorem dX10_seesBy_91 : decode cX10_seesBy 91 = .ok (.iload_n 1, 1) := by decide +kernel
theorem dX10_seesBy_92 : decode cX10_seesBy 92 = .ok (.iconst 2, 1) := by decide +kernel
theorem dX10_seesBy_93 : decode cX10_seesBy 93 = .ok (.iload_n 3, 1) := by decide +kernel
theorem dX10_seesBy_94 : decode cX10_seesBy 94 = .ok (.iconst 1, 1) := by decide +kernel
theorem dX10_seesBy_95 : decode cX10_seesBy 95 = .ok (.iadd, 1) := by decide +kernel
theorem dX10_seesBy_96 : decode cX10_seesBy 96 = .ok (.invokevirtual 380, 3) := by decide +kernel
theorem dX10_seesBy_99 : decode cX10_seesBy 99 = .ok (.ireturn, 1) := by decide +kernel
theorem dX10_seesBy_100 : decode cX10_seesBy 100 = .ok (.aload_n 0, 1) := by decide +kernel
theorem dX10_seesBy_101 : decode cX10_seesBy 101 = .ok (.bipush 80, 2) := by decide +kernel
theorem dX10_seesBy_103 : decode cX10_seesBy 103 = .ok (.invokevirtual 371, 3) := by decide +kernel
theorem dX10_seesBy_106 : decode cX10_seesBy 106 = .ok (.aload_n 0, 1) := by decide +kernel
theorem dX10_seesBy_107 : decode cX10_seesBy 107 = .ok (.iload_n 1, 1) := by decide +kernel
theorem dX10_seesBy_108 : decode cX10_seesBy 108 = .ok (.iconst 4, 1) := by decide +kernel
theorem dX10_seesBy_109 : decode cX10_seesBy 109 = .ok (.iload_n 3, 1) := by decide +kernel
theorem dX10_seesBy_110 : decode cX10_seesBy 110 = .ok (.invokevirtual 380, 3) := by decide +kernel
theorem dX10_seesBy_113 : decode cX10_seesBy 113 = .ok (.istore 4, 2) := by decide +kernel
theorem dX10_seesBy_115 : decode cX10_seesBy 115 = .ok (.iload 4, 2) := by decide +kernel
theorem dX10_seesBy_117 : decode cX10_seesBy 117 = .ok (.aload_n 0, 1) := by decide +kernel
theorem dX10_seesBy_118 : decode cX10_seesBy 118 = .ok (.iload_n 1, 1) := by decide +kernel
theorem dX10_seesBy_119 : decode cX10_seesBy 119 = .ok (.aload_n 0, 1) := by decide +kernel
theorem dX10_seesBy_120 : decode cX10_seesBy 120 = .ok (.getfield 75, 3) := by decide +kernel
theorem dX10_seesBy_123 : decode cX10_seesBy 123 = .ok (.iload_n 1, 1) := by decide +kernel
theorem dX10_seesBy_124 : decode cX10_seesBy 124 = .ok (.iaload, 1) := by decide +kernel
theorem dX10_seesBy_125 : decode cX10_seesBy 125 = .ok (.iconst 2, 1) := by decide +kernel
theorem dX10_seesBy_126 : decode cX10_seesBy 126 = .ok (.invokevirtual 383, 3) := by decide +kernel
theorem dX10_seesBy_129 : decode cX10_seesBy 129 = .ok (.iadd, 1) := by decide +kernel
theorem dX10_seesBy_130 : decode cX10_seesBy 130 = .ok (.ireturn, 1) := by decide +kernel
theorem dX10_seesBy_131 : decode cX10_seesBy 131 = .ok (.aload_n 0, 1) := by decide +kernel
theorem dX10_seesBy_132 : decode cX10_seesBy 132 = .ok (.iload_n 1, 1) := by decide +kernel
theorem dX10_seesBy_133 : decode cX10_seesBy 133 = .ok (.iload_n 2, 1) := by decide +kernel
theorem dX10_seesBy_134 : decode cX10_seesBy 134 = .ok (.invokestatic 377, 3) := by decide +kernel
theorem dX10_seesBy_137 : decode cX10_seesBy 137 = .ok (.iload_n 3, 1) := by decide +kernel
theorem dX10_seesBy_138 : decode cX10_seesBy 138 = .ok (.invokevirtual 380, 3) := by decide +kernel
theorem dX10_seesBy_141 : decode cX10_seesBy 141 = .ok (.ireturn, 1) := by decide +kernel
set_option maxRecDepth 20000 in
theorem dX10_fearsBy_0 : decode cX10_fearsBy 0 = .ok (.iload_n 2, 1) := by decide +kernel
theorem dX10_fearsBy_1 : decode cX10_fearsBy 1 = .ok (.tableswitch 92 0 4 #[35, 92, 92, 45, 61], 35) := by decide +kernel
theorem dX10_fearsBy_36 : decode cX10_fearsBy 36 = .ok (.aload_n 0, 1) := by decide +kernel
theorem dX10_fearsBy_37 : decode cX10_fearsBy 37 = .ok (.bipush 11, 2) := by decide +kernel
theorem dX10_fearsBy_39 : decode cX10_fearsBy 39 = .ok (.invokevirtual 371, 3) := by decide +kernel
theorem dX10_fearsBy_42 : decode cX10_fearsBy 42 = .ok (.iload_n 3, 1) := by decide +kernel
theorem dX10_fearsBy_43 : decode cX10_fearsBy 43 = .ok (.iload_n 1, 1) := by decide +kernel
theorem dX10_fearsBy_44 : decode cX10_fearsBy 44 = .ok (.ixor, 1) := by decide +kernel
theorem dX10_fearsBy_45 : decode cX10_fearsBy 45 = .ok (.ireturn, 1) := by decide +kernel
theorem dX10_fearsBy_46 : decode cX10_fearsBy 46 = .ok (.aload_n 0, 1) := by decide +kernel
theorem dX10_fearsBy_47 : decode cX10_fearsBy 47 = .ok (.bipush 40, 2) := by decide +kernel
theorem dX10_fearsBy_49 : decode cX10_fearsBy 49 = .ok (.invokevirtual 371, 3) := by decide +kernel
theorem dX10_fearsBy_52 : decode cX10_fearsBy 52 = .ok (.aload_n 0, 1) := by decide +kernel
theorem dX10_fearsBy_53 : decode cX10_fearsBy 53 = .ok (.iload_n 1, 1) := by decide +kernel
theorem dX10_fearsBy_54 : decode cX10_fearsBy 54 = .ok (.iconst 2, 1) := by decide +kernel
theorem dX10_fearsBy_55 : decode cX10_fearsBy 55 = .ok (.iload_n 3, 1) := by decide +kernel
theorem dX10_fearsBy_56 : decode cX10_fearsBy 56 = .ok (.invokevirtual 383, 3) := by decide +kernel
theorem dX10_fearsBy_59 : decode cX10_fearsBy 59 = .ok (.iconst 3, 1) := by decide +kernel
theorem dX10_fearsBy_60 : decode cX10_fearsBy 60 = .ok (.imul, 1) := by decide +kernel
theorem dX10_fearsBy_61 : decode cX10_fearsBy 61 = .ok (.ireturn, 1) := by decide +kernel
theorem dX10_fearsBy_62 : decode cX10_fearsBy 62 = .ok (.aload_n 0, 1) := by decide +kernel
theorem dX10_fearsBy_63 : decode cX10_fearsBy 63 = .ok (.bipush 50, 2) := by decide +kernel
theorem dX10_fearsBy_65 : decode cX10_fearsBy 65 = .ok (.invokevirtual 371, 3) := by decide +kernel
theorem dX10_fearsBy_68 : decode cX10_fearsBy 68 = .ok (.aload_n 0, 1) := by decide +kernel
theorem dX10_fearsBy_69 : decode cX10_fearsBy 69 = .ok (.iload_n 1, 1) := by decide +kernel
theorem dX10_fearsBy_70 : decode cX10_fearsBy 70 = .ok (.iconst 1, 1) := by decide +kernel
theorem dX10_fearsBy_71 : decode cX10_fearsBy 71 = .ok (.iload_n 3, 1) := by decide +kernel
theorem dX10_fearsBy_72 : decode cX10_fearsBy 72 = .ok (.invokevirtual 383, 3) := by decide +kernel
theorem dX10_fearsBy_75 : decode cX10_fearsBy 75 = .ok (.istore 4, 2) := by decide +kernel
theorem dX10_fearsBy_77 : decode cX10_fearsBy 77 = .ok (.iload 4, 2) := by decide +kernel
theorem dX10_fearsBy_79 : decode cX10_fearsBy 79 = .ok (.aload_n 0, 1) := by decide +kernel
theorem dX10_fearsBy_80 : decode cX10_fearsBy 80 = .ok (.iload_n 1, 1) := by decide +kernel
theorem dX10_fearsBy_81 : decode cX10_fearsBy 81 = .ok (.aload_n 0, 1) := by decide +kernel
theorem dX10_fearsBy_82 : decode cX10_fearsBy 82 = .ok (.getfield 75, 3) := by decide +kernel
theorem dX10_fearsBy_85 : decode cX10_fearsBy 85 = .ok (.iload_n 1, 1) := by decide +kernel
theorem dX10_fearsBy_86 : decode cX10_fearsBy 86 = .ok (.iaload, 1) := by decide +kernel
theorem dX10_fearsBy_87 : decode cX10_fearsBy 87 = .ok (.iconst 2, 1) := by decide +kernel
theorem dX10_fearsBy_88 : decode cX10_fearsBy 88 = .ok (.invokevirtual 374, 3) := by decide +kernel
theorem dX10_fearsBy_91 : decode cX10_fearsBy 91 = .ok (.isub, 1) := by decide +kernel
theorem dX10_fearsBy_92 : decode cX10_fearsBy 92 = .ok (.ireturn, 1) := by decide +kernel
theorem dX10_fearsBy_93 : decode cX10_fearsBy 93 = .ok (.aload_n 0, 1) := by decide +kernel
theorem dX10_fearsBy_94 : decode cX10_fearsBy 94 = .ok (.iload_n 1, 1) := by decide +kernel
theorem dX10_fearsBy_95 : decode cX10_fearsBy 95 = .ok (.iload_n 2, 1) := by decide +kernel
theorem dX10_fearsBy_96 : decode cX10_fearsBy 96 = .ok (.invokestatic 377, 3) := by decide +kernel
theorem dX10_fearsBy_99 : decode cX10_fearsBy 99 = .ok (.iload_n 3, 1) := by decide +kernel
theorem dX10_fearsBy_100 : decode cX10_fearsBy 100 = .ok (.invokevirtual 383, 3) := by decide +kernel
theorem dX10_fearsBy_103 : decode cX10_fearsBy 103 = .ok (.ireturn, 1) := by decide +kernel
set_option maxRecDepth 20000 in
theorem dX10_tells_0 : decode cX10_tells 0 = .ok (.iload_n 2, 1) := by decide +kernel
theorem dX10_tells_1 : decode cX10_tells 1 = .ok (.lookupswitch 102 #[(0, 35), (5, 70), (7, 86)], 35) := by decide +kernel
theorem dX10_tells_36 : decode cX10_tells 36 = .ok (.aload_n 0, 1) := by decide +kernel
theorem dX10_tells_37 : decode cX10_tells 37 = .ok (.iconst 2, 1) := by decide +kernel
theorem dX10_tells_38 : decode cX10_tells 38 = .ok (.invokevirtual 371, 3) := by decide +kernel
theorem dX10_tells_41 : decode cX10_tells 41 = .ok (.aload_n 0, 1) := by decide +kernel
theorem dX10_tells_42 : decode cX10_tells 42 = .ok (.iload_n 1, 1) := by decide +kernel
theorem dX10_tells_43 : decode cX10_tells 43 = .ok (.aload_n 0, 1) := by decide +kernel
theorem dX10_tells_44 : decode cX10_tells 44 = .ok (.getfield 75, 3) := by decide +kernel
theorem dX10_tells_47 : decode cX10_tells 47 = .ok (.iload_n 1, 1) := by decide +kernel
theorem dX10_tells_48 : decode cX10_tells 48 = .ok (.iaload, 1) := by decide +kernel
theorem dX10_tells_49 : decode cX10_tells 49 = .ok (.iload_n 3, 1) := by decide +kernel
theorem dX10_tells_50 : decode cX10_tells 50 = .ok (.invokevirtual 380, 3) := by decide +kernel
theorem dX10_tells_53 : decode cX10_tells 53 = .ok (.istore 4, 2) := by decide +kernel
theorem dX10_tells_55 : decode cX10_tells 55 = .ok (.iload 4, 2) := by decide +kernel
theorem dX10_tells_57 : decode cX10_tells 57 = .ok (.aload_n 0, 1) := by decide +kernel
theorem dX10_tells_58 : decode cX10_tells 58 = .ok (.iload_n 1, 1) := by decide +kernel
theorem dX10_tells_59 : decode cX10_tells 59 = .ok (.aload_n 0, 1) := by decide +kernel
theorem dX10_tells_60 : decode cX10_tells 60 = .ok (.getfield 75, 3) := by decide +kernel
theorem dX10_tells_63 : decode cX10_tells 63 = .ok (.iload_n 1, 1) := by decide +kernel
theorem dX10_tells_64 : decode cX10_tells 64 = .ok (.iaload, 1) := by decide +kernel
theorem dX10_tells_65 : decode cX10_tells 65 = .ok (.iconst 1, 1) := by decide +kernel
theorem dX10_tells_66 : decode cX10_tells 66 = .ok (.invokevirtual 383, 3) := by decide +kernel
theorem dX10_tells_69 : decode cX10_tells 69 = .ok (.isub, 1) := by decide +kernel
theorem dX10_tells_70 : decode cX10_tells 70 = .ok (.ireturn, 1) := by decide +kernel
theorem dX10_tells_71 : decode cX10_tells 71 = .ok (.aload_n 0, 1) := by decide +kernel
theorem dX10_tells_72 : decode cX10_tells 72 = .ok (.bipush 60, 2) := by decide +kernel
theorem dX10_tells_74 : decode cX10_tells 74 = .ok (.invokevirtual 371, 3) := by decide +kernel
theorem dX10_tells_77 : decode cX10_tells 77 = .ok (.aload_n 0, 1) := by decide +kernel
theorem dX10_tells_78 : decode cX10_tells 78 = .ok (.iload_n 1, 1) := by decide +kernel
theorem dX10_tells_79 : decode cX10_tells 79 = .ok (.iconst 3, 1) := by decide +kernel
theorem dX10_tells_80 : decode cX10_tells 80 = .ok (.iload_n 3, 1) := by decide +kernel
theorem dX10_tells_81 : decode cX10_tells 81 = .ok (.invokevirtual 386, 3) := by decide +kernel
theorem dX10_tells_84 : decode cX10_tells 84 = .ok (.iconst 5, 1) := by decide +kernel
theorem dX10_tells_85 : decode cX10_tells 85 = .ok (.ixor, 1) := by decide +kernel
theorem dX10_tells_86 : decode cX10_tells 86 = .ok (.ireturn, 1) := by decide +kernel
theorem dX10_tells_87 : decode cX10_tells 87 = .ok (.aload_n 0, 1) := by decide +kernel
theorem dX10_tells_88 : decode cX10_tells 88 = .ok (.bipush 81, 2) := by decide +kernel
theorem dX10_tells_90 : decode cX10_tells 90 = .ok (.invokevirtual 371, 3) := by decide +kernel
theorem dX10_tells_93 : decode cX10_tells 93 = .ok (.aload_n 0, 1) := by decide +kernel
theorem dX10_tells_94 : decode cX10_tells 94 = .ok (.iload_n 1, 1) := by decide +kernel
theorem dX10_tells_95 : decode cX10_tells 95 = .ok (.iconst 4, 1) := by decide +kernel
theorem dX10_tells_96 : decode cX10_tells 96 = .ok (.iload_n 3, 1) := by decide +kernel
theorem dX10_tells_97 : decode cX10_tells 97 = .ok (.invokevirtual 386, 3) := by decide +kernel
theorem dX10_tells_100 : decode cX10_tells 100 = .ok (.iconst 1, 1) := by decide +kernel
theorem dX10_tells_101 : decode cX10_tells 101 = .ok (.isub, 1) := by decide +kernel
theorem dX10_tells_102 : decode cX10_tells 102 = .ok (.ireturn, 1) := by decide +kernel
theorem dX10_tells_103 : decode cX10_tells 103 = .ok (.aload_n 0, 1) := by decide +kernel
theorem dX10_tells_104 : decode cX10_tells 104 = .ok (.iload_n 1, 1) := by decide +kernel
theorem dX10_tells_105 : decode cX10_tells 105 = .ok (.iload_n 2, 1) := by decide +kernel
theorem dX10_tells_106 : decode cX10_tells 106 = .ok (.invokestatic 377, 3) := by decide +kernel
theorem dX10_tells_109 : decode cX10_tells 109 = .ok (.iload_n 3, 1) := by decide +kernel
theorem dX10_tells_110 : decode cX10_tells 110 = .ok (.invokevirtual 386, 3) := by decide +kernel
theorem dX10_tells_113 : decode cX10_tells 113 = .ok (.ireturn, 1) := by decide +kernel
set_option maxRecDepth 20000 in
theorem dX10_body_0 : decode cX10_body 0 = .ok (.iload_n 1, 1) := by decide +kernel
theorem dX10_body_1 : decode cX10_body 1 = .ok (.iconst 0, 1) := by decide +kernel
theorem dX10_body_2 : decode cX10_body 2 = .ok (.bipush 7, 2) := by decide +kernel
theorem dX10_body_4 : decode cX10_body 4 = .ok (.invokestatic 123, 3) := by decide +kernel
theorem dX10_body_7 : decode cX10_body 7 = .ok (.ifCond .ne 5, 3) := by decide +kernel
theorem dX10_body_10 : decode cX10_body 10 = .ok (.iconst (-1), 1) := by decide +kernel
theorem dX10_body_11 : decode cX10_body 11 = .ok (.ireturn, 1) := by decide +kernel
theorem dX10_body_12 : decode cX10_body 12 = .ok (.aload_n 0, 1) := by decide +kernel
theorem dX10_body_13 : decode cX10_body 13 = .ok (.getfield 389, 3) := by decide +kernel
theorem dX10_body_16 : decode cX10_body 16 = .ok (.bipush 50, 2) := by decide +kernel
theorem dX10_body_18 : decode cX10_body 18 = .ok (.if_icmp .ne 6, 3) := by decide +kernel
theorem dX10_body_21 : decode cX10_body 21 = .ok (.bipush (-3), 2) := by decide +kernel
theorem dX10_body_23 : decode cX10_body 23 = .ok (.ireturn, 1) := by decide +kernel
theorem dX10_body_24 : decode cX10_body 24 = .ok (.aload_n 0, 1) := by decide +kernel
theorem dX10_body_25 : decode cX10_body 25 = .ok (.getfield 75, 3) := by decide +kernel
theorem dX10_body_28 : decode cX10_body 28 = .ok (.aload_n 0, 1) := by decide +kernel
theorem dX10_body_29 : decode cX10_body 29 = .ok (.getfield 389, 3) := by decide +kernel
theorem dX10_body_32 : decode cX10_body 32 = .ok (.iload_n 1, 1) := by decide +kernel
theorem dX10_body_33 : decode cX10_body 33 = .ok (.iastore, 1) := by decide +kernel
theorem dX10_body_34 : decode cX10_body 34 = .ok (.aload_n 0, 1) := by decide +kernel
theorem dX10_body_35 : decode cX10_body 35 = .ok (.dup, 1) := by decide +kernel
theorem dX10_body_36 : decode cX10_body 36 = .ok (.getfield 389, 3) := by decide +kernel
theorem dX10_body_39 : decode cX10_body 39 = .ok (.dup_x1, 1) := by decide +kernel
theorem dX10_body_40 : decode cX10_body 40 = .ok (.iconst 1, 1) := by decide +kernel
theorem dX10_body_41 : decode cX10_body 41 = .ok (.iadd, 1) := by decide +kernel
theorem dX10_body_42 : decode cX10_body 42 = .ok (.putfield 389, 3) := by decide +kernel
theorem dX10_body_45 : decode cX10_body 45 = .ok (.ireturn, 1) := by decide +kernel
set_option maxRecDepth 20000 in
theorem dX10_act_0 : decode cX10_act 0 = .ok (.aload_n 0, 1) := by decide +kernel
theorem dX10_act_1 : decode cX10_act 1 = .ok (.iconst 0, 1) := by decide +kernel
theorem dX10_act_2 : decode cX10_act 2 = .ok (.putfield 368, 3) := by decide +kernel
theorem dX10_act_5 : decode cX10_act 5 = .ok (.iload_n 1, 1) := by decide +kernel
theorem dX10_act_6 : decode cX10_act 6 = .ok (.iconst 0, 1) := by decide +kernel
theorem dX10_act_7 : decode cX10_act 7 = .ok (.aload_n 0, 1) := by decide +kernel
theorem dX10_act_8 : decode cX10_act 8 = .ok (.getfield 389, 3) := by decide +kernel
theorem dX10_act_11 : decode cX10_act 11 = .ok (.iconst 1, 1) := by decide +kernel
theorem dX10_act_12 : decode cX10_act 12 = .ok (.isub, 1) := by decide +kernel
theorem dX10_act_13 : decode cX10_act 13 = .ok (.invokestatic 123, 3) := by decide +kernel
theorem dX10_act_16 : decode cX10_act 16 = .ok (.ifCond .eq 12, 3) := by decide +kernel
theorem dX10_act_19 : decode cX10_act 19 = .ok (.iload_n 2, 1) := by decide +kernel
theorem dX10_act_20 : decode cX10_act 20 = .ok (.iconst 0, 1) := by decide +kernel
theorem dX10_act_21 : decode cX10_act 21 = .ok (.iconst 3, 1) := by decide +kernel
theorem dX10_act_22 : decode cX10_act 22 = .ok (.invokestatic 123, 3) := by decide +kernel
theorem dX10_act_25 : decode cX10_act 25 = .ok (.ifCond .ne 5, 3) := by decide +kernel
theorem dX10_act_28 : decode cX10_act 28 = .ok (.iconst 0, 1) := by decide +kernel
theorem dX10_act_29 : decode cX10_act 29 = .ok (.ireturn, 1) := by decide +kernel
theorem dX10_act_30 : decode cX10_act 30 = .ok (.aload_n 0, 1) := by decide +kernel
theorem dX10_act_31 : decode cX10_act 31 = .ok (.getfield 75, 3) := by decide +kernel
theorem dX10_act_34 : decode cX10_act 34 = .ok (.iload_n 1, 1) := by decide +kernel
theorem dX10_act_35 : decode cX10_act 35 = .ok (.iaload, 1) := by decide +kernel
theorem dX10_act_36 : decode cX10_act 36 = .ok (.istore 4, 2) := by decide +kernel
theorem dX10_act_38 : decode cX10_act 38 = .ok (.iload_n 2, 1) := by decide +kernel
theorem dX10_act_39 : decode cX10_act 39 = .ok (.ifCond .ne 14, 3) := by decide +kernel
theorem dX10_act_42 : decode cX10_act 42 = .ok (.aload_n 0, 1) := by decide +kernel
theorem dX10_act_43 : decode cX10_act 43 = .ok (.iload_n 1, 1) := by decide +kernel
theorem dX10_act_44 : decode cX10_act 44 = .ok (.iload 4, 2) := by decide +kernel
theorem dX10_act_46 : decode cX10_act 46 = .ok (.iload_n 3, 1) := by decide +kernel
theorem dX10_act_47 : decode cX10_act 47 = .ok (.invokevirtual 374, 3) := by decide +kernel
theorem dX10_act_50 : decode cX10_act 50 = .ok (.goto 43, 3) := by decide +kernel
theorem dX10_act_53 : decode cX10_act 53 = .ok (.iload_n 2, 1) := by decide +kernel
theorem dX10_act_54 : decode cX10_act 54 = .ok (.iconst 1, 1) := by decide +kernel
theorem dX10_act_55 : decode cX10_act 55 = .ok (.if_icmp .ne 14, 3) := by decide +kernel
theorem dX10_act_58 : decode cX10_act 58 = .ok (.aload_n 0, 1) := by decide +kernel
theorem dX10_act_59 : decode cX10_act 59 = .ok (.iload_n 1, 1) := by decide +kernel
theorem dX10_act_60 : decode cX10_act 60 = .ok (.iload 4, 2) := by decide +kernel
theorem dX10_act_62 : decode cX10_act 62 = .ok (.iload_n 3, 1) := by decide +kernel
theorem dX10_act_63 : decode cX10_act 63 = .ok (.invokevirtual 380, 3) := by decide +kernel
theorem dX10_act_66 : decode cX10_act 66 = .ok (.goto 27, 3) := by decide +kernel
theorem dX10_act_69 : decode cX10_act 69 = .ok (.iload_n 2, 1) := by decide +kernel
theorem dX10_act_70 : decode cX10_act 70 = .ok (.iconst 2, 1) := by decide +kernel
theorem dX10_act_71 : decode cX10_act 71 = .ok (.if_icmp .ne 14, 3) := by decide +kernel
theorem dX10_act_74 : decode cX10_act 74 = .ok (.aload_n 0, 1) := by decide +kernel
theorem dX10_act_75 : decode cX10_act 75 = .ok (.iload_n 1, 1) := by decide +kernel
theorem dX10_act_76 : decode cX10_act 76 = .ok (.iload 4, 2) := by decide +kernel
theorem dX10_act_78 : decode cX10_act 78 = .ok (.iload_n 3, 1) := by decide +kernel
theorem dX10_act_79 : decode cX10_act 79 = .ok (.invokevirtual 383, 3) := by decide +kernel
theorem dX10_act_82 : decode cX10_act 82 = .ok (.goto 11, 3) := by decide +kernel
theorem dX10_act_85 : decode cX10_act 85 = .ok (.aload_n 0, 1) := by decide +kernel
theorem dX10_act_86 : decode cX10_act 86 = .ok (.iload_n 1, 1) := by decide +kernel
theorem dX10_act_87 : decode cX10_act 87 = .ok (.iload 4, 2) := by decide +kernel
theorem dX10_act_89 : decode cX10_act 89 = .ok (.iload_n 3, 1) := by decide +kernel
theorem dX10_act_90 : decode cX10_act 90 = .ok (.invokevirtual 386, 3) := by decide +kernel
theorem dX10_act_93 : decode cX10_act 93 = .ok (.ireturn, 1) := by decide +kernel
set_option maxRecDepth 20000 in
theorem dX10_trace_0 : decode cX10_trace 0 = .ok (.iload_n 1, 1) := by decide +kernel
theorem dX10_trace_1 : decode cX10_trace 1 = .ok (.iconst 0, 1) := by decide +kernel
theorem dX10_trace_2 : decode cX10_trace 2 = .ok (.bipush 24, 2) := by decide +kernel
theorem dX10_trace_4 : decode cX10_trace 4 = .ok (.aload_n 0, 1) := by decide +kernel
theorem dX10_trace_5 : decode cX10_trace 5 = .ok (.getfield 368, 3) := by decide +kernel
theorem dX10_trace_8 : decode cX10_trace 8 = .ok (.invokestatic 226, 3) := by decide +kernel
theorem dX10_trace_11 : decode cX10_trace 11 = .ok (.iconst 1, 1) := by decide +kernel
theorem dX10_trace_12 : decode cX10_trace 12 = .ok (.isub, 1) := by decide +kernel
theorem dX10_trace_13 : decode cX10_trace 13 = .ok (.invokestatic 123, 3) := by decide +kernel
theorem dX10_trace_16 : decode cX10_trace 16 = .ok (.ifCond .eq 12, 3) := by decide +kernel
theorem dX10_trace_19 : decode cX10_trace 19 = .ok (.aload_n 0, 1) := by decide +kernel
theorem dX10_trace_20 : decode cX10_trace 20 = .ok (.getfield 78, 3) := by decide +kernel
theorem dX10_trace_23 : decode cX10_trace 23 = .ok (.iload_n 1, 1) := by decide +kernel
theorem dX10_trace_24 : decode cX10_trace 24 = .ok (.iaload, 1) := by decide +kernel
theorem dX10_trace_25 : decode cX10_trace 25 = .ok (.goto 4, 3) := by decide +kernel
theorem dX10_trace_28 : decode cX10_trace 28 = .ok (.iconst (-1), 1) := by decide +kernel
theorem dX10_trace_29 : decode cX10_trace 29 = .ok (.ireturn, 1) := by decide +kernel
set_option maxRecDepth 20000 in
theorem dX10_keep_0 : decode cX10_keep 0 = .ok (.iload_n 1, 1) := by decide +kernel
theorem dX10_keep_1 : decode cX10_keep 1 = .ok (.invokestatic 131, 3) := by decide +kernel
theorem dX10_keep_4 : decode cX10_keep 4 = .ok (.ifCond .eq 17, 3) := by decide +kernel
theorem dX10_keep_7 : decode cX10_keep 7 = .ok (.iload_n 2, 1) := by decide +kernel
theorem dX10_keep_8 : decode cX10_keep 8 = .ok (.iconst (-1), 1) := by decide +kernel
theorem dX10_keep_9 : decode cX10_keep 9 = .ok (.aload_n 0, 1) := by decide +kernel
theorem dX10_keep_10 : decode cX10_keep 10 = .ok (.getfield 389, 3) := by decide +kernel
theorem dX10_keep_13 : decode cX10_keep 13 = .ok (.iconst 1, 1) := by decide +kernel
theorem dX10_keep_14 : decode cX10_keep 14 = .ok (.isub, 1) := by decide +kernel
theorem dX10_keep_15 : decode cX10_keep 15 = .ok (.invokestatic 123, 3) := by decide +kernel
theorem dX10_keep_18 : decode cX10_keep 18 = .ok (.ifCond .ne 5, 3) := by decide +kernel
theorem dX10_keep_21 : decode cX10_keep 21 = .ok (.iconst (-1), 1) := by decide +kernel
theorem dX10_keep_22 : decode cX10_keep 22 = .ok (.ireturn, 1) := by decide +kernel
theorem dX10_keep_23 : decode cX10_keep 23 = .ok (.aload_n 0, 1) := by decide +kernel
theorem dX10_keep_24 : decode cX10_keep 24 = .ok (.getfield 81, 3) := by decide +kernel
theorem dX10_keep_27 : decode cX10_keep 27 = .ok (.iload_n 1, 1) := by decide +kernel
theorem dX10_keep_28 : decode cX10_keep 28 = .ok (.iload_n 2, 1) := by decide +kernel
theorem dX10_keep_29 : decode cX10_keep 29 = .ok (.ifCond .ge 7, 3) := by decide +kernel
theorem dX10_keep_32 : decode cX10_keep 32 = .ok (.iconst (-1), 1) := by decide +kernel
theorem dX10_keep_33 : decode cX10_keep 33 = .ok (.goto 7, 3) := by decide +kernel
theorem dX10_keep_36 : decode cX10_keep 36 = .ok (.bipush 10, 2) := by decide +kernel
theorem dX10_keep_38 : decode cX10_keep 38 = .ok (.iload_n 2, 1) := by decide +kernel
theorem dX10_keep_39 : decode cX10_keep 39 = .ok (.iadd, 1) := by decide +kernel
theorem dX10_keep_40 : decode cX10_keep 40 = .ok (.iastore, 1) := by decide +kernel
theorem dX10_keep_41 : decode cX10_keep 41 = .ok (.aload_n 0, 1) := by decide +kernel
theorem dX10_keep_42 : decode cX10_keep 42 = .ok (.getfield 84, 3) := by decide +kernel
theorem dX10_keep_45 : decode cX10_keep 45 = .ok (.iload_n 1, 1) := by decide +kernel
theorem dX10_keep_46 : decode cX10_keep 46 = .ok (.iconst 0, 1) := by decide +kernel
theorem dX10_keep_47 : decode cX10_keep 47 = .ok (.iastore, 1) := by decide +kernel
theorem dX10_keep_48 : decode cX10_keep 48 = .ok (.iconst 1, 1) := by decide +kernel
theorem dX10_keep_49 : decode cX10_keep 49 = .ok (.ireturn, 1) := by decide +kernel
set_option maxRecDepth 20000 in
theorem dX10_row_0 : decode cX10_row 0 = .ok (.iload_n 1, 1) := by decide +kernel
theorem dX10_row_1 : decode cX10_row 1 = .ok (.invokestatic 131, 3) := by decide +kernel
theorem dX10_row_4 : decode cX10_row 4 = .ok (.ifCond .eq 18, 3) := by decide +kernel
theorem dX10_row_7 : decode cX10_row 7 = .ok (.iload_n 2, 1) := by decide +kernel
theorem dX10_row_8 : decode cX10_row 8 = .ok (.iconst 0, 1) := by decide +kernel
theorem dX10_row_9 : decode cX10_row 9 = .ok (.iconst 4, 1) := by decide +kernel
theorem dX10_row_10 : decode cX10_row 10 = .ok (.invokestatic 123, 3) := by decide +kernel
theorem dX10_row_13 : decode cX10_row 13 = .ok (.ifCond .eq 9, 3) := by decide +kernel
theorem dX10_row_16 : decode cX10_row 16 = .ok (.iload_n 3, 1) := by decide +kernel
theorem dX10_row_17 : decode cX10_row 17 = .ok (.bipush 60, 2) := by decide +kernel
theorem dX10_row_19 : decode cX10_row 19 = .ok (.if_icmp .le 5, 3) := by decide +kernel
theorem dX10_row_22 : decode cX10_row 22 = .ok (.iconst (-1), 1) := by decide +kernel
theorem dX10_row_23 : decode cX10_row 23 = .ok (.ireturn, 1) := by decide +kernel
theorem dX10_row_24 : decode cX10_row 24 = .ok (.iload_n 3, 1) := by decide +kernel
theorem dX10_row_25 : decode cX10_row 25 = .ok (.ifCond .ge 6, 3) := by decide +kernel
theorem dX10_row_28 : decode cX10_row 28 = .ok (.bipush (-14), 2) := by decide +kernel
theorem dX10_row_30 : decode cX10_row 30 = .ok (.ireturn, 1) := by decide +kernel
theorem dX10_row_31 : decode cX10_row 31 = .ok (.aload_n 0, 1) := by decide +kernel
theorem dX10_row_32 : decode cX10_row 32 = .ok (.getfield 81, 3) := by decide +kernel
theorem dX10_row_35 : decode cX10_row 35 = .ok (.iload_n 1, 1) := by decide +kernel
theorem dX10_row_36 : decode cX10_row 36 = .ok (.iload_n 2, 1) := by decide +kernel
theorem dX10_row_37 : decode cX10_row 37 = .ok (.iastore, 1) := by decide +kernel
theorem dX10_row_38 : decode cX10_row 38 = .ok (.aload_n 0, 1) := by decide +kernel
theorem dX10_row_39 : decode cX10_row 39 = .ok (.getfield 84, 3) := by decide +kernel
theorem dX10_row_42 : decode cX10_row 42 = .ok (.iload_n 1, 1) := by decide +kernel
theorem dX10_row_43 : decode cX10_row 43 = .ok (.iload_n 3, 1) := by decide +kernel
theorem dX10_row_44 : decode cX10_row 44 = .ok (.iastore, 1) := by decide +kernel
theorem dX10_row_45 : decode cX10_row 45 = .ok (.iconst 0, 1) := by decide +kernel
theorem dX10_row_46 : decode cX10_row 46 = .ok (.istore 4, 2) := by decide +kernel
theorem dX10_row_48 : decode cX10_row 48 = .ok (.iload 4, 2) := by decide +kernel
theorem dX10_row_50 : decode cX10_row 50 = .ok (.bipush 60, 2) := by decide +kernel
theorem dX10_row_52 : decode cX10_row 52 = .ok (.if_icmp .ge 22, 3) := by decide +kernel
theorem dX10_row_55 : decode cX10_row 55 = .ok (.aload_n 0, 1) := by decide +kernel
theorem dX10_row_56 : decode cX10_row 56 = .ok (.getfield 87, 3) := by decide +kernel
theorem dX10_row_59 : decode cX10_row 59 = .ok (.bipush 60, 2) := by decide +kernel
theorem dX10_row_61 : decode cX10_row 61 = .ok (.iload_n 1, 1) := by decide +kernel
theorem dX10_row_62 : decode cX10_row 62 = .ok (.imul, 1) := by decide +kernel
theorem dX10_row_63 : decode cX10_row 63 = .ok (.iload 4, 2) := by decide +kernel
theorem dX10_row_65 : decode cX10_row 65 = .ok (.iadd, 1) := by decide +kernel
theorem dX10_row_66 : decode cX10_row 66 = .ok (.lconst 0, 1) := by decide +kernel
theorem dX10_row_67 : decode cX10_row 67 = .ok (.lastore, 1) := by decide +kernel
theorem dX10_row_68 : decode cX10_row 68 = .ok (.iinc 4 1, 3) := by decide +kernel
theorem dX10_row_71 : decode cX10_row 71 = .ok (.goto (-23), 3) := by decide +kernel
theorem dX10_row_74 : decode cX10_row 74 = .ok (.iconst 1, 1) := by decide +kernel
theorem dX10_row_75 : decode cX10_row 75 = .ok (.ireturn, 1) := by decide +kernel
set_option maxRecDepth 20000 in
theorem dX10_isRow_0 : decode cX10_isRow 0 = .ok (.aload_n 0, 1) := by decide +kernel
theorem dX10_isRow_1 : decode cX10_isRow 1 = .ok (.getfield 81, 3) := by decide +kernel
theorem dX10_isRow_4 : decode cX10_isRow 4 = .ok (.iload_n 1, 1) := by decide +kernel
theorem dX10_isRow_5 : decode cX10_isRow 5 = .ok (.iaload, 1) := by decide +kernel
theorem dX10_isRow_6 : decode cX10_isRow 6 = .ok (.iconst 0, 1) := by decide +kernel
theorem dX10_isRow_7 : decode cX10_isRow 7 = .ok (.iconst 4, 1) := by decide +kernel
theorem dX10_isRow_8 : decode cX10_isRow 8 = .ok (.invokestatic 123, 3) := by decide +kernel
theorem dX10_isRow_11 : decode cX10_isRow 11 = .ok (.ireturn, 1) := by decide +kernel
theorem dX10_kept_0 : decode cX10_kept 0 = .ok (.iload_n 0, 1) := by decide +kernel
theorem dX10_kept_1 : decode cX10_kept 1 = .ok (.tableswitch 47 0 3 #[31, 36, 41, 45], 31) := by decide +kernel
theorem dX10_kept_32 : decode cX10_kept 32 = .ok (.lload_n 1, 1) := by decide +kernel
theorem dX10_kept_33 : decode cX10_kept 33 = .ok (.l2i, 1) := by decide +kernel
theorem dX10_kept_34 : decode cX10_kept 34 = .ok (.i2b, 1) := by decide +kernel
theorem dX10_kept_35 : decode cX10_kept 35 = .ok (.i2l, 1) := by decide +kernel
theorem dX10_kept_36 : decode cX10_kept 36 = .ok (.lreturn, 1) := by decide +kernel
theorem dX10_kept_37 : decode cX10_kept 37 = .ok (.lload_n 1, 1) := by decide +kernel
theorem dX10_kept_38 : decode cX10_kept 38 = .ok (.l2i, 1) := by decide +kernel
theorem dX10_kept_39 : decode cX10_kept 39 = .ok (.i2s, 1) := by decide +kernel
theorem dX10_kept_40 : decode cX10_kept 40 = .ok (.i2l, 1) := by decide +kernel
theorem dX10_kept_41 : decode cX10_kept 41 = .ok (.lreturn, 1) := by decide +kernel
theorem dX10_kept_42 : decode cX10_kept 42 = .ok (.lload_n 1, 1) := by decide +kernel
theorem dX10_kept_43 : decode cX10_kept 43 = .ok (.l2i, 1) := by decide +kernel
theorem dX10_kept_44 : decode cX10_kept 44 = .ok (.i2l, 1) := by decide +kernel
theorem dX10_kept_45 : decode cX10_kept 45 = .ok (.lreturn, 1) := by decide +kernel
theorem dX10_kept_46 : decode cX10_kept 46 = .ok (.lload_n 1, 1) := by decide +kernel
theorem dX10_kept_47 : decode cX10_kept 47 = .ok (.lreturn, 1) := by decide +kernel
theorem dX10_kept_48 : decode cX10_kept 48 = .ok (.lload_n 1, 1) := by decide +kernel
theorem dX10_kept_49 : decode cX10_kept 49 = .ok (.lconst 0, 1) := by decide +kernel
theorem dX10_kept_50 : decode cX10_kept 50 = .ok (.lcmp, 1) := by decide +kernel
theorem dX10_kept_51 : decode cX10_kept 51 = .ok (.ifCond .eq 7, 3) := by decide +kernel
theorem dX10_kept_54 : decode cX10_kept 54 = .ok (.lconst 1, 1) := by decide +kernel
theorem dX10_kept_55 : decode cX10_kept 55 = .ok (.goto 4, 3) := by decide +kernel
theorem dX10_kept_58 : decode cX10_kept 58 = .ok (.lconst 0, 1) := by decide +kernel
theorem dX10_kept_59 : decode cX10_kept 59 = .ok (.lreturn, 1) := by decide +kernel
set_option maxRecDepth 20000 in
theorem dX10_put_0 : decode cX10_put 0 = .ok (.iload_n 1, 1) := by decide +kernel
theorem dX10_put_1 : decode cX10_put 1 = .ok (.invokestatic 131, 3) := by decide +kernel
theorem dX10_put_4 : decode cX10_put 4 = .ok (.ifCond .ne 5, 3) := by decide +kernel
theorem dX10_put_7 : decode cX10_put 7 = .ok (.iconst (-1), 1) := by decide +kernel
theorem dX10_put_8 : decode cX10_put 8 = .ok (.ireturn, 1) := by decide +kernel
theorem dX10_put_9 : decode cX10_put 9 = .ok (.aload_n 0, 1) := by decide +kernel
theorem dX10_put_10 : decode cX10_put 10 = .ok (.getfield 81, 3) := by decide +kernel
theorem dX10_put_13 : decode cX10_put 13 = .ok (.iload_n 1, 1) := by decide +kernel
theorem dX10_put_14 : decode cX10_put 14 = .ok (.iaload, 1) := by decide +kernel
theorem dX10_put_15 : decode cX10_put 15 = .ok (.iconst (-1), 1) := by decide +kernel
theorem dX10_put_16 : decode cX10_put 16 = .ok (.if_icmp .ne 6, 3) := by decide +kernel
theorem dX10_put_19 : decode cX10_put 19 = .ok (.bipush (-11), 2) := by decide +kernel
theorem dX10_put_21 : decode cX10_put 21 = .ok (.ireturn, 1) := by decide +kernel
theorem dX10_put_22 : decode cX10_put 22 = .ok (.aload_n 0, 1) := by decide +kernel
theorem dX10_put_23 : decode cX10_put 23 = .ok (.iload_n 1, 1) := by decide +kernel
theorem dX10_put_24 : decode cX10_put 24 = .ok (.invokevirtual 392, 3) := by decide +kernel
theorem dX10_put_27 : decode cX10_put 27 = .ok (.ifCond .ne 6, 3) := by decide +kernel
theorem dX10_put_30 : decode cX10_put 30 = .ok (.bipush (-12), 2) := by decide +kernel
theorem dX10_put_32 : decode cX10_put 32 = .ok (.ireturn, 1) := by decide +kernel
theorem dX10_put_33 : decode cX10_put 33 = .ok (.iload_n 2, 1) := by decide +kernel
theorem dX10_put_34 : decode cX10_put 34 = .ok (.iconst 0, 1) := by decide +kernel
theorem dX10_put_35 : decode cX10_put 35 = .ok (.aload_n 0, 1) := by decide +kernel
theorem dX10_put_36 : decode cX10_put 36 = .ok (.getfield 84, 3) := by decide +kernel
theorem dX10_put_39 : decode cX10_put 39 = .ok (.iload_n 1, 1) := by decide +kernel
theorem dX10_put_40 : decode cX10_put 40 = .ok (.iaload, 1) := by decide +kernel
theorem dX10_put_41 : decode cX10_put 41 = .ok (.iconst 1, 1) := by decide +kernel
theorem dX10_put_42 : decode cX10_put 42 = .ok (.isub, 1) := by decide +kernel
theorem dX10_put_43 : decode cX10_put 43 = .ok (.invokestatic 123, 3) := by decide +kernel
theorem dX10_put_46 : decode cX10_put 46 = .ok (.ifCond .ne 6, 3) := by decide +kernel
theorem dX10_put_49 : decode cX10_put 49 = .ok (.bipush (-13), 2) := by decide +kernel
theorem dX10_put_51 : decode cX10_put 51 = .ok (.ireturn, 1) := by decide +kernel
theorem dX10_put_52 : decode cX10_put 52 = .ok (.aload_n 0, 1) := by decide +kernel
theorem dX10_put_53 : decode cX10_put 53 = .ok (.getfield 87, 3) := by decide +kernel
theorem dX10_put_56 : decode cX10_put 56 = .ok (.bipush 60, 2) := by decide +kernel
theorem dX10_put_58 : decode cX10_put 58 = .ok (.iload_n 1, 1) := by decide +kernel
theorem dX10_put_59 : decode cX10_put 59 = .ok (.imul, 1) := by decide +kernel
theorem dX10_put_60 : decode cX10_put 60 = .ok (.iload_n 2, 1) := by decide +kernel
theorem dX10_put_61 : decode cX10_put 61 = .ok (.iadd, 1) := by decide +kernel
theorem dX10_put_62 : decode cX10_put 62 = .ok (.aload_n 0, 1) := by decide +kernel
theorem dX10_put_63 : decode cX10_put 63 = .ok (.getfield 81, 3) := by decide +kernel
theorem dX10_put_66 : decode cX10_put 66 = .ok (.iload_n 1, 1) := by decide +kernel
theorem dX10_put_67 : decode cX10_put 67 = .ok (.iaload, 1) := by decide +kernel
theorem dX10_put_68 : decode cX10_put 68 = .ok (.lload_n 3, 1) := by decide +kernel
theorem dX10_put_69 : decode cX10_put 69 = .ok (.invokestatic 395, 3) := by decide +kernel
theorem dX10_put_72 : decode cX10_put 72 = .ok (.lastore, 1) := by decide +kernel
theorem dX10_put_73 : decode cX10_put 73 = .ok (.iconst 1, 1) := by decide +kernel
theorem dX10_put_74 : decode cX10_put 74 = .ok (.ireturn, 1) := by decide +kernel
set_option maxRecDepth 20000 in
theorem dX10_element_0 : decode cX10_element 0 = .ok (.iload_n 1, 1) := by decide +kernel
theorem dX10_element_1 : decode cX10_element 1 = .ok (.invokestatic 131, 3) := by decide +kernel
theorem dX10_element_4 : decode cX10_element 4 = .ok (.ifCond .eq 41, 3) := by decide +kernel
theorem dX10_element_7 : decode cX10_element 7 = .ok (.aload_n 0, 1) := by decide +kernel
theorem dX10_element_8 : decode cX10_element 8 = .ok (.iload_n 1, 1) := by decide +kernel
theorem dX10_element_9 : decode cX10_element 9 = .ok (.invokevirtual 392, 3) := by decide +kernel
theorem dX10_element_12 : decode cX10_element 12 = .ok (.ifCond .eq 33, 3) := by decide +kernel
theorem dX10_element_15 : decode cX10_element 15 = .ok (.iload_n 2, 1) := by decide +kernel
theorem dX10_element_16 : decode cX10_element 16 = .ok (.iconst 0, 1) := by decide +kernel
theorem dX10_element_17 : decode cX10_element 17 = .ok (.aload_n 0, 1) := by decide +kernel
theorem dX10_element_18 : decode cX10_element 18 = .ok (.getfield 84, 3) := by decide +kernel
theorem dX10_element_21 : decode cX10_element 21 = .ok (.iload_n 1, 1) := by decide +kernel
theorem dX10_element_22 : decode cX10_element 22 = .ok (.iaload, 1) := by decide +kernel
theorem dX10_element_23 : decode cX10_element 23 = .ok (.iconst 1, 1) := by decide +kernel
theorem dX10_element_24 : decode cX10_element 24 = .ok (.isub, 1) := by decide +kernel
theorem dX10_element_25 : decode cX10_element 25 = .ok (.invokestatic 123, 3) := by decide +kernel
theorem dX10_element_28 : decode cX10_element 28 = .ok (.ifCond .eq 17, 3) := by decide +kernel
theorem dX10_element_31 : decode cX10_element 31 = .ok (.aload_n 0, 1) := by decide +kernel
theorem dX10_element_32 : decode cX10_element 32 = .ok (.getfield 87, 3) := by decide +kernel
theorem dX10_element_35 : decode cX10_element 35 = .ok (.bipush 60, 2) := by decide +kernel
theorem dX10_element_37 : decode cX10_element 37 = .ok (.iload_n 1, 1) := by decide +kernel
theorem dX10_element_38 : decode cX10_element 38 = .ok (.imul, 1) := by decide +kernel
theorem dX10_element_39 : decode cX10_element 39 = .ok (.iload_n 2, 1) := by decide +kernel
theorem dX10_element_40 : decode cX10_element 40 = .ok (.iadd, 1) := by decide +kernel
theorem dX10_element_41 : decode cX10_element 41 = .ok (.laload, 1) := by decide +kernel
theorem dX10_element_42 : decode cX10_element 42 = .ok (.goto 6, 3) := by decide +kernel
theorem dX10_element_45 : decode cX10_element 45 = .ok (.ldc2_w 399, 3) := by decide +kernel
theorem dX10_element_48 : decode cX10_element 48 = .ok (.lreturn, 1) := by decide +kernel
set_option maxRecDepth 20000 in
theorem dX10_shift_0 : decode cX10_shift 0 = .ok (.iload_n 1, 1) := by decide +kernel
theorem dX10_shift_1 : decode cX10_shift 1 = .ok (.invokestatic 131, 3) := by decide +kernel
theorem dX10_shift_4 : decode cX10_shift 4 = .ok (.ifCond .eq 10, 3) := by decide +kernel
theorem dX10_shift_7 : decode cX10_shift 7 = .ok (.iload_n 3, 1) := by decide +kernel
theorem dX10_shift_8 : decode cX10_shift 8 = .ok (.invokestatic 131, 3) := by decide +kernel
theorem dX10_shift_11 : decode cX10_shift 11 = .ok (.ifCond .ne 5, 3) := by decide +kernel
theorem dX10_shift_14 : decode cX10_shift 14 = .ok (.iconst (-1), 1) := by decide +kernel
theorem dX10_shift_15 : decode cX10_shift 15 = .ok (.ireturn, 1) := by decide +kernel
theorem dX10_shift_16 : decode cX10_shift 16 = .ok (.aload_n 0, 1) := by decide +kernel
theorem dX10_shift_17 : decode cX10_shift 17 = .ok (.getfield 81, 3) := by decide +kernel
theorem dX10_shift_20 : decode cX10_shift 20 = .ok (.iload_n 1, 1) := by decide +kernel
theorem dX10_shift_21 : decode cX10_shift 21 = .ok (.iaload, 1) := by decide +kernel
theorem dX10_shift_22 : decode cX10_shift 22 = .ok (.iconst (-1), 1) := by decide +kernel
theorem dX10_shift_23 : decode cX10_shift 23 = .ok (.if_icmp .eq 13, 3) := by decide +kernel
theorem dX10_shift_26 : decode cX10_shift 26 = .ok (.aload_n 0, 1) := by decide +kernel
theorem dX10_shift_27 : decode cX10_shift 27 = .ok (.getfield 81, 3) := by decide +kernel
theorem dX10_shift_30 : decode cX10_shift 30 = .ok (.iload_n 3, 1) := by decide +kernel
theorem dX10_shift_31 : decode cX10_shift 31 = .ok (.iaload, 1) := by decide +kernel
theorem dX10_shift_32 : decode cX10_shift 32 = .ok (.iconst (-1), 1) := by decide +kernel
theorem dX10_shift_33 : decode cX10_shift 33 = .ok (.if_icmp .ne 6, 3) := by decide +kernel
theorem dX10_shift_36 : decode cX10_shift 36 = .ok (.bipush (-11), 2) := by decide +kernel
theorem dX10_shift_38 : decode cX10_shift 38 = .ok (.ireturn, 1) := by decide +kernel
theorem dX10_shift_39 : decode cX10_shift 39 = .ok (.aload_n 0, 1) := by decide +kernel
theorem dX10_shift_40 : decode cX10_shift 40 = .ok (.iload_n 1, 1) := by decide +kernel
theorem dX10_shift_41 : decode cX10_shift 41 = .ok (.invokevirtual 392, 3) := by decide +kernel
theorem dX10_shift_44 : decode cX10_shift 44 = .ok (.ifCond .eq 26, 3) := by decide +kernel
theorem dX10_shift_47 : decode cX10_shift 47 = .ok (.aload_n 0, 1) := by decide +kernel
theorem dX10_shift_48 : decode cX10_shift 48 = .ok (.iload_n 3, 1) := by decide +kernel
theorem dX10_shift_49 : decode cX10_shift 49 = .ok (.invokevirtual 392, 3) := by decide +kernel
theorem dX10_shift_52 : decode cX10_shift 52 = .ok (.ifCond .eq 18, 3) := by decide +kernel
theorem dX10_shift_55 : decode cX10_shift 55 = .ok (.aload_n 0, 1) := by decide +kernel
theorem dX10_shift_56 : decode cX10_shift 56 = .ok (.getfield 81, 3) := by decide +kernel
theorem dX10_shift_59 : decode cX10_shift 59 = .ok (.iload_n 1, 1) := by decide +kernel
theorem dX10_shift_60 : decode cX10_shift 60 = .ok (.iaload, 1) := by decide +kernel
theorem dX10_shift_61 : decode cX10_shift 61 = .ok (.aload_n 0, 1) := by decide +kernel
theorem dX10_shift_62 : decode cX10_shift 62 = .ok (.getfield 81, 3) := by decide +kernel
theorem dX10_shift_65 : decode cX10_shift 65 = .ok (.iload_n 3, 1) := by decide +kernel
theorem dX10_shift_66 : decode cX10_shift 66 = .ok (.iaload, 1) := by decide +kernel
theorem dX10_shift_67 : decode cX10_shift 67 = .ok (.if_icmp .eq 6, 3) := by decide +kernel
theorem dX10_shift_70 : decode cX10_shift 70 = .ok (.bipush (-12), 2) := by decide +kernel
theorem dX10_shift_72 : decode cX10_shift 72 = .ok (.ireturn, 1) := by decide +kernel
theorem dX10_shift_73 : decode cX10_shift 73 = .ok (.iload 5, 2) := by decide +kernel
theorem dX10_shift_75 : decode cX10_shift 75 = .ok (.ifCond .lt 47, 3) := by decide +kernel
theorem dX10_shift_78 : decode cX10_shift 78 = .ok (.iload_n 2, 1) := by decide +kernel
theorem dX10_shift_79 : decode cX10_shift 79 = .ok (.ifCond .lt 43, 3) := by decide +kernel
theorem dX10_shift_82 : decode cX10_shift 82 = .ok (.iload 4, 2) := by decide +kernel
theorem dX10_shift_84 : decode cX10_shift 84 = .ok (.ifCond .lt 38, 3) := by decide +kernel
theorem dX10_shift_87 : decode cX10_shift 87 = .ok (.iload_n 2, 1) := by decide +kernel
theorem dX10_shift_88 : decode cX10_shift 88 = .ok (.i2l, 1) := by decide +kernel
theorem dX10_shift_89 : decode cX10_shift 89 = .ok (.iload 5, 2) := by decide +kernel
theorem dX10_shift_91 : decode cX10_shift 91 = .ok (.i2l, 1) := by decide +kernel
theorem dX10_shift_92 : decode cX10_shift 92 = .ok (.ladd, 1) := by decide +kernel
theorem dX10_shift_93 : decode cX10_shift 93 = .ok (.aload_n 0, 1) := by decide +kernel
theorem dX10_shift_94 : decode cX10_shift 94 = .ok (.getfield 84, 3) := by decide +kernel
theorem dX10_shift_97 : decode cX10_shift 97 = .ok (.iload_n 1, 1) := by decide +kernel
theorem dX10_shift_98 : decode cX10_shift 98 = .ok (.iaload, 1) := by decide +kernel
theorem dX10_shift_99 : decode cX10_shift 99 = .ok (.i2l, 1) := by decide +kernel
theorem dX10_shift_100 : decode cX10_shift 100 = .ok (.lcmp, 1) := by decide +kernel
theorem dX10_shift_101 : decode cX10_shift 101 = .ok (.ifCond .gt 21, 3) := by decide +kernel
theorem dX10_shift_104 : decode cX10_shift 104 = .ok (.iload 4, 2) := by decide +kernel
theorem dX10_shift_106 : decode cX10_shift 106 = .ok (.i2l, 1) := by decide +kernel
theorem dX10_shift_107 : decode cX10_shift 107 = .ok (.iload 5, 2) := by decide +kernel
theorem dX10_shift_109 : decode cX10_shift 109 = .ok (.i2l, 1) := by decide +kernel
theorem dX10_shift_110 : decode cX10_shift 110 = .ok (.ladd, 1) := by decide +kernel
theorem dX10_shift_111 : decode cX10_shift 111 = .ok (.aload_n 0, 1) := by decide +kernel
theorem dX10_shift_112 : decode cX10_shift 112 = .ok (.getfield 84, 3) := by decide +kernel
theorem dX10_shift_115 : decode cX10_shift 115 = .ok (.iload_n 3, 1) := by decide +kernel
theorem dX10_shift_116 : decode cX10_shift 116 = .ok (.iaload, 1) := by decide +kernel
theorem dX10_shift_117 : decode cX10_shift 117 = .ok (.i2l, 1) := by decide +kernel
theorem dX10_shift_118 : decode cX10_shift 118 = .ok (.lcmp, 1) := by decide +kernel
theorem dX10_shift_119 : decode cX10_shift 119 = .ok (.ifCond .le 6, 3) := by decide +kernel
theorem dX10_shift_122 : decode cX10_shift 122 = .ok (.bipush (-13), 2) := by decide +kernel
theorem dX10_shift_124 : decode cX10_shift 124 = .ok (.ireturn, 1) := by decide +kernel
theorem dX10_shift_125 : decode cX10_shift 125 = .ok (.iload_n 1, 1) := by decide +kernel
theorem dX10_shift_126 : decode cX10_shift 126 = .ok (.iload_n 3, 1) := by decide +kernel
theorem dX10_shift_127 : decode cX10_shift 127 = .ok (.if_icmp .ne 58, 3) := by decide +kernel
theorem dX10_shift_130 : decode cX10_shift 130 = .ok (.iload_n 2, 1) := by decide +kernel
theorem dX10_shift_131 : decode cX10_shift 131 = .ok (.iload 4, 2) := by decide +kernel
theorem dX10_shift_133 : decode cX10_shift 133 = .ok (.if_icmp .ge 52, 3) := by decide +kernel
theorem dX10_shift_136 : decode cX10_shift 136 = .ok (.iload 5, 2) := by decide +kernel
theorem dX10_shift_138 : decode cX10_shift 138 = .ok (.iconst 1, 1) := by decide +kernel
theorem dX10_shift_139 : decode cX10_shift 139 = .ok (.isub, 1) := by decide +kernel
theorem dX10_shift_140 : decode cX10_shift 140 = .ok (.istore 6, 2) := by decide +kernel
theorem dX10_shift_142 : decode cX10_shift 142 = .ok (.iload 6, 2) := by decide +kernel
theorem dX10_shift_144 : decode cX10_shift 144 = .ok (.ifCond .lt 38, 3) := by decide +kernel
theorem dX10_shift_147 : decode cX10_shift 147 = .ok (.aload_n 0, 1) := by decide +kernel
theorem dX10_shift_148 : decode cX10_shift 148 = .ok (.getfield 87, 3) := by decide +kernel
theorem dX10_shift_151 : decode cX10_shift 151 = .ok (.bipush 60, 2) := by decide +kernel
theorem dX10_shift_153 : decode cX10_shift 153 = .ok (.iload_n 3, 1) := by decide +kernel
theorem dX10_shift_154 : decode cX10_shift 154 = .ok (.imul, 1) := by decide +kernel
theorem dX10_shift_155 : decode cX10_shift 155 = .ok (.iload 4, 2) := by decide +kernel
theorem dX10_shift_157 : decode cX10_shift 157 = .ok (.iadd, 1) := by decide +kernel
theorem dX10_shift_158 : decode cX10_shift 158 = .ok (.iload 6, 2) := by decide +kernel
theorem dX10_shift_160 : decode cX10_shift 160 = .ok (.iadd, 1) := by decide +kernel
theorem dX10_shift_161 : decode cX10_shift 161 = .ok (.aload_n 0, 1) := by decide +kernel
theorem dX10_shift_162 : decode cX10_shift 162 = .ok (.getfield 87, 3) := by decide +kernel
theorem dX10_shift_165 : decode cX10_shift 165 = .ok (.bipush 60, 2) := by decide +kernel
theorem dX10_shift_167 : decode cX10_shift 167 = .ok (.iload_n 1, 1) := by decide +kernel
theorem dX10_shift_168 : decode cX10_shift 168 = .ok (.imul, 1) := by decide +kernel
theorem dX10_shift_169 : decode cX10_shift 169 = .ok (.iload_n 2, 1) := by decide +kernel
theorem dX10_shift_170 : decode cX10_shift 170 = .ok (.iadd, 1) := by decide +kernel
theorem dX10_shift_171 : decode cX10_shift 171 = .ok (.iload 6, 2) := by decide +kernel
theorem dX10_shift_173 : decode cX10_shift 173 = .ok (.iadd, 1) := by decide +kernel
theorem dX10_shift_174 : decode cX10_shift 174 = .ok (.laload, 1) := by decide +kernel
theorem dX10_shift_175 : decode cX10_shift 175 = .ok (.lastore, 1) := by decide +kernel
theorem dX10_shift_176 : decode cX10_shift 176 = .ok (.iinc 6 (-1), 3) := by decide +kernel
theorem dX10_shift_179 : decode cX10_shift 179 = .ok (.goto (-37), 3) := by decide +kernel
theorem dX10_shift_182 : decode cX10_shift 182 = .ok (.goto 48, 3) := by decide +kernel
theorem dX10_shift_185 : decode cX10_shift 185 = .ok (.iconst 0, 1) := by decide +kernel
theorem dX10_shift_186 : decode cX10_shift 186 = .ok (.istore 6, 2) := by decide +kernel
theorem dX10_shift_188 : decode cX10_shift 188 = .ok (.iload 6, 2) := by decide +kernel
theorem dX10_shift_190 : decode cX10_shift 190 = .ok (.iload 5, 2) := by decide +kernel
theorem dX10_shift_192 : decode cX10_shift 192 = .ok (.if_icmp .ge 38, 3) := by decide +kernel
theorem dX10_shift_195 : decode cX10_shift 195 = .ok (.aload_n 0, 1) := by decide +kernel
theorem dX10_shift_196 : decode cX10_shift 196 = .ok (.getfield 87, 3) := by decide +kernel
theorem dX10_shift_199 : decode cX10_shift 199 = .ok (.bipush 60, 2) := by decide +kernel
theorem dX10_shift_201 : decode cX10_shift 201 = .ok (.iload_n 3, 1) := by decide +kernel
theorem dX10_shift_202 : decode cX10_shift 202 = .ok (.imul, 1) := by decide +kernel
theorem dX10_shift_203 : decode cX10_shift 203 = .ok (.iload 4, 2) := by decide +kernel
theorem dX10_shift_205 : decode cX10_shift 205 = .ok (.iadd, 1) := by decide +kernel
theorem dX10_shift_206 : decode cX10_shift 206 = .ok (.iload 6, 2) := by decide +kernel
theorem dX10_shift_208 : decode cX10_shift 208 = .ok (.iadd, 1) := by decide +kernel
theorem dX10_shift_209 : decode cX10_shift 209 = .ok (.aload_n 0, 1) := by decide +kernel
theorem dX10_shift_210 : decode cX10_shift 210 = .ok (.getfield 87, 3) := by decide +kernel
theorem dX10_shift_213 : decode cX10_shift 213 = .ok (.bipush 60, 2) := by decide +kernel
theorem dX10_shift_215 : decode cX10_shift 215 = .ok (.iload_n 1, 1) := by decide +kernel
theorem dX10_shift_216 : decode cX10_shift 216 = .ok (.imul, 1) := by decide +kernel
theorem dX10_shift_217 : decode cX10_shift 217 = .ok (.iload_n 2, 1) := by decide +kernel
theorem dX10_shift_218 : decode cX10_shift 218 = .ok (.iadd, 1) := by decide +kernel
theorem dX10_shift_219 : decode cX10_shift 219 = .ok (.iload 6, 2) := by decide +kernel
theorem dX10_shift_221 : decode cX10_shift 221 = .ok (.iadd, 1) := by decide +kernel
theorem dX10_shift_222 : decode cX10_shift 222 = .ok (.laload, 1) := by decide +kernel
theorem dX10_shift_223 : decode cX10_shift 223 = .ok (.lastore, 1) := by decide +kernel
theorem dX10_shift_224 : decode cX10_shift 224 = .ok (.iinc 6 1, 3) := by decide +kernel
theorem dX10_shift_227 : decode cX10_shift 227 = .ok (.goto (-39), 3) := by decide +kernel
theorem dX10_shift_230 : decode cX10_shift 230 = .ok (.iload 5, 2) := by decide +kernel
theorem dX10_shift_232 : decode cX10_shift 232 = .ok (.ireturn, 1) := by decide +kernel
set_option maxRecDepth 20000 in
theorem dX10_taken_0 : decode cX10_taken 0 = .ok (.iload_n 1, 1) := by decide +kernel
theorem dX10_taken_1 : decode cX10_taken 1 = .ok (.invokestatic 131, 3) := by decide +kernel
theorem dX10_taken_4 : decode cX10_taken 4 = .ok (.ifCond .eq 13, 3) := by decide +kernel
theorem dX10_taken_7 : decode cX10_taken 7 = .ok (.iload_n 2, 1) := by decide +kernel
theorem dX10_taken_8 : decode cX10_taken 8 = .ok (.iconst 0, 1) := by decide +kernel
theorem dX10_taken_9 : decode cX10_taken 9 = .ok (.bipush 7, 2) := by decide +kernel
theorem dX10_taken_11 : decode cX10_taken 11 = .ok (.invokestatic 123, 3) := by decide +kernel
theorem dX10_taken_14 : decode cX10_taken 14 = .ok (.ifCond .ne 5, 3) := by decide +kernel
theorem dX10_taken_17 : decode cX10_taken 17 = .ok (.iconst (-1), 1) := by decide +kernel
theorem dX10_taken_18 : decode cX10_taken 18 = .ok (.ireturn, 1) := by decide +kernel
theorem dX10_taken_19 : decode cX10_taken 19 = .ok (.aload_n 0, 1) := by decide +kernel
theorem dX10_taken_20 : decode cX10_taken 20 = .ok (.getfield 81, 3) := by decide +kernel
theorem dX10_taken_23 : decode cX10_taken 23 = .ok (.iload_n 1, 1) := by decide +kernel
theorem dX10_taken_24 : decode cX10_taken 24 = .ok (.iaload, 1) := by decide +kernel
theorem dX10_taken_25 : decode cX10_taken 25 = .ok (.iconst (-1), 1) := by decide +kernel
theorem dX10_taken_26 : decode cX10_taken 26 = .ok (.if_icmp .ne 6, 3) := by decide +kernel
theorem dX10_taken_29 : decode cX10_taken 29 = .ok (.bipush (-11), 2) := by decide +kernel
theorem dX10_taken_31 : decode cX10_taken 31 = .ok (.ireturn, 1) := by decide +kernel
theorem dX10_taken_32 : decode cX10_taken 32 = .ok (.aload_n 0, 1) := by decide +kernel
theorem dX10_taken_33 : decode cX10_taken 33 = .ok (.iload_n 1, 1) := by decide +kernel
theorem dX10_taken_34 : decode cX10_taken 34 = .ok (.invokevirtual 392, 3) := by decide +kernel
theorem dX10_taken_37 : decode cX10_taken 37 = .ok (.ifCond .eq 6, 3) := by decide +kernel
theorem dX10_taken_40 : decode cX10_taken 40 = .ok (.bipush (-12), 2) := by decide +kernel
theorem dX10_taken_42 : decode cX10_taken 42 = .ok (.ireturn, 1) := by decide +kernel
theorem dX10_taken_43 : decode cX10_taken 43 = .ok (.aload_n 0, 1) := by decide +kernel
theorem dX10_taken_44 : decode cX10_taken 44 = .ok (.getfield 75, 3) := by decide +kernel
theorem dX10_taken_47 : decode cX10_taken 47 = .ok (.aload_n 0, 1) := by decide +kernel
theorem dX10_taken_48 : decode cX10_taken 48 = .ok (.getfield 81, 3) := by decide +kernel
theorem dX10_taken_51 : decode cX10_taken 51 = .ok (.iload_n 1, 1) := by decide +kernel
theorem dX10_taken_52 : decode cX10_taken 52 = .ok (.iaload, 1) := by decide +kernel
theorem dX10_taken_53 : decode cX10_taken 53 = .ok (.bipush 10, 2) := by decide +kernel
theorem dX10_taken_55 : decode cX10_taken 55 = .ok (.isub, 1) := by decide +kernel
theorem dX10_taken_56 : decode cX10_taken 56 = .ok (.iaload, 1) := by decide +kernel
theorem dX10_taken_57 : decode cX10_taken 57 = .ok (.istore_n 3, 1) := by decide +kernel
theorem dX10_taken_58 : decode cX10_taken 58 = .ok (.iload_n 3, 1) := by decide +kernel
theorem dX10_taken_59 : decode cX10_taken 59 = .ok (.istore 4, 2) := by decide +kernel
theorem dX10_taken_61 : decode cX10_taken 61 = .ok (.iload 4, 2) := by decide +kernel
theorem dX10_taken_63 : decode cX10_taken 63 = .ok (.iload_n 2, 1) := by decide +kernel
theorem dX10_taken_64 : decode cX10_taken 64 = .ok (.if_icmp .eq 18, 3) := by decide +kernel
theorem dX10_taken_67 : decode cX10_taken 67 = .ok (.iload 4, 2) := by decide +kernel
theorem dX10_taken_69 : decode cX10_taken 69 = .ok (.ifCond .le 13, 3) := by decide +kernel
theorem dX10_taken_72 : decode cX10_taken 72 = .ok (.iload 4, 2) := by decide +kernel
theorem dX10_taken_74 : decode cX10_taken 74 = .ok (.invokestatic 377, 3) := by decide +kernel
theorem dX10_taken_77 : decode cX10_taken 77 = .ok (.istore 4, 2) := by decide +kernel
theorem dX10_taken_79 : decode cX10_taken 79 = .ok (.goto (-18), 3) := by decide +kernel
theorem dX10_taken_82 : decode cX10_taken 82 = .ok (.iload 4, 2) := by decide +kernel
theorem dX10_taken_84 : decode cX10_taken 84 = .ok (.iload_n 2, 1) := by decide +kernel
theorem dX10_taken_85 : decode cX10_taken 85 = .ok (.if_icmp .ne 7, 3) := by decide +kernel
theorem dX10_taken_88 : decode cX10_taken 88 = .ok (.iload_n 3, 1) := by decide +kernel
theorem dX10_taken_89 : decode cX10_taken 89 = .ok (.goto 5, 3) := by decide +kernel
theorem dX10_taken_92 : decode cX10_taken 92 = .ok (.bipush (-12), 2) := by decide +kernel
theorem dX10_taken_94 : decode cX10_taken 94 = .ok (.ireturn, 1) := by decide +kernel
theorem dX10_count_0 : decode cX10_count 0 = .ok (.iload_n 1, 1) := by decide +kernel
theorem dX10_count_1 : decode cX10_count 1 = .ok (.tableswitch 60 0 4 #[35, 40, 45, 50, 55], 35) := by decide +kernel
theorem dX10_count_36 : decode cX10_count 36 = .ok (.aload_n 0, 1) := by decide +kernel
theorem dX10_count_37 : decode cX10_count 37 = .ok (.getfield 120, 3) := by decide +kernel
theorem dX10_count_40 : decode cX10_count 40 = .ok (.ireturn, 1) := by decide +kernel
theorem dX10_count_41 : decode cX10_count 41 = .ok (.aload_n 0, 1) := by decide +kernel
theorem dX10_count_42 : decode cX10_count 42 = .ok (.getfield 162, 3) := by decide +kernel
theorem dX10_count_45 : decode cX10_count 45 = .ok (.ireturn, 1) := by decide +kernel
theorem dX10_count_46 : decode cX10_count 46 = .ok (.aload_n 0, 1) := by decide +kernel
theorem dX10_count_47 : decode cX10_count 47 = .ok (.getfield 156, 3) := by decide +kernel
theorem dX10_count_50 : decode cX10_count 50 = .ok (.ireturn, 1) := by decide +kernel
theorem dX10_count_51 : decode cX10_count 51 = .ok (.aload_n 0, 1) := by decide +kernel
theorem dX10_count_52 : decode cX10_count 52 = .ok (.getfield 389, 3) := by decide +kernel
theorem dX10_count_55 : decode cX10_count 55 = .ok (.ireturn, 1) := by decide +kernel
theorem dX10_count_56 : decode cX10_count 56 = .ok (.aload_n 0, 1) := by decide +kernel
theorem dX10_count_57 : decode cX10_count 57 = .ok (.getfield 368, 3) := by decide +kernel
theorem dX10_count_60 : decode cX10_count 60 = .ok (.ireturn, 1) := by decide +kernel
theorem dX10_count_61 : decode cX10_count 61 = .ok (.iconst (-1), 1) := by decide +kernel
theorem dX10_count_62 : decode cX10_count 62 = .ok (.ireturn, 1) := by decide +kernel
