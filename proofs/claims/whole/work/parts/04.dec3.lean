theorem dX9_which_17 : decode cX9_which 17 = .ok (.irem, 1) := by decide +kernel
theorem dX9_which_18 : decode cX9_which 18 = .ok (.invokestatic 102, 3) := by decide +kernel
theorem dX9_which_21 : decode cX9_which 21 = .ok (.ifCond .ne 5, 3) := by decide +kernel
theorem dX9_which_24 : decode cX9_which 24 = .ok (.iconst (-1), 1) := by decide +kernel
theorem dX9_which_25 : decode cX9_which 25 = .ok (.ireturn, 1) := by decide +kernel
theorem dX9_which_26 : decode cX9_which 26 = .ok (.aload_n 0, 1) := by decide +kernel
theorem dX9_which_27 : decode cX9_which 27 = .ok (.getfield 32, 3) := by decide +kernel
theorem dX9_which_30 : decode cX9_which 30 = .ok (.iload_n 1, 1) := by decide +kernel
theorem dX9_which_31 : decode cX9_which 31 = .ok (.bipush 10, 2) := by decide +kernel
theorem dX9_which_33 : decode cX9_which 33 = .ok (.irem, 1) := by decide +kernel
theorem dX9_which_34 : decode cX9_which 34 = .ok (.aaload, 1) := by decide +kernel
theorem dX9_which_35 : decode cX9_which 35 = .ok (.astore_n 2, 1) := by decide +kernel
theorem dX9_which_36 : decode cX9_which 36 = .ok (.aload_n 2, 1) := by decide +kernel
theorem dX9_which_37 : decode cX9_which 37 = .ok (.getfield 304, 3) := by decide +kernel
theorem dX9_which_40 : decode cX9_which 40 = .ok (.ifCond .eq 18, 3) := by decide +kernel
theorem dX9_which_43 : decode cX9_which 43 = .ok (.aload_n 0, 1) := by decide +kernel
theorem dX9_which_44 : decode cX9_which 44 = .ok (.getfield 32, 3) := by decide +kernel
theorem dX9_which_47 : decode cX9_which 47 = .ok (.iload_n 1, 1) := by decide +kernel
theorem dX9_which_48 : decode cX9_which 48 = .ok (.bipush 10, 2) := by decide +kernel
theorem dX9_which_50 : decode cX9_which 50 = .ok (.idiv, 1) := by decide +kernel
theorem dX9_which_51 : decode cX9_which 51 = .ok (.aaload, 1) := by decide +kernel
theorem dX9_which_52 : decode cX9_which 52 = .ok (.getfield 304, 3) := by decide +kernel
theorem dX9_which_55 : decode cX9_which 55 = .ok (.ifCond .ne 6, 3) := by decide +kernel
theorem dX9_which_58 : decode cX9_which 58 = .ok (.bipush (-11), 2) := by decide +kernel
theorem dX9_which_60 : decode cX9_which 60 = .ok (.ireturn, 1) := by decide +kernel
theorem dX9_which_61 : decode cX9_which 61 = .ok (.aload_n 0, 1) := by decide +kernel
theorem dX9_which_62 : decode cX9_which 62 = .ok (.iload_n 1, 1) := by decide +kernel
theorem dX9_which_63 : decode cX9_which 63 = .ok (.bipush 10, 2) := by decide +kernel
theorem dX9_which_65 : decode cX9_which 65 = .ok (.idiv, 1) := by decide +kernel
theorem dX9_which_66 : decode cX9_which 66 = .ok (.invokevirtual 257, 3) := by decide +kernel
theorem dX9_which_69 : decode cX9_which 69 = .ok (.istore_n 3, 1) := by decide +kernel
theorem dX9_which_70 : decode cX9_which 70 = .ok (.iload_n 3, 1) := by decide +kernel
theorem dX9_which_71 : decode cX9_which 71 = .ok (.ifCond .ne 9, 3) := by decide +kernel
theorem dX9_which_74 : decode cX9_which 74 = .ok (.aload_n 2, 1) := by decide +kernel
theorem dX9_which_75 : decode cX9_which 75 = .ok (.iconst 1, 1) := by decide +kernel
theorem dX9_which_76 : decode cX9_which 76 = .ok (.invokevirtual 106, 3) := by decide +kernel
theorem dX9_which_79 : decode cX9_which 79 = .ok (.istore_n 3, 1) := by decide +kernel
theorem dX9_which_80 : decode cX9_which 80 = .ok (.iload_n 3, 1) := by decide +kernel
theorem dX9_which_81 : decode cX9_which 81 = .ok (.ifCond .ge 5, 3) := by decide +kernel
theorem dX9_which_84 : decode cX9_which 84 = .ok (.iload_n 3, 1) := by decide +kernel
theorem dX9_which_85 : decode cX9_which 85 = .ok (.ireturn, 1) := by decide +kernel
theorem dX9_which_86 : decode cX9_which 86 = .ok (.aload_n 0, 1) := by decide +kernel
theorem dX9_which_87 : decode cX9_which 87 = .ok (.getfield 41, 3) := by decide +kernel
theorem dX9_which_90 : decode cX9_which 90 = .ok (.aload_n 2, 1) := by decide +kernel
theorem dX9_which_91 : decode cX9_which 91 = .ok (.invokevirtual 307, 3) := by decide +kernel
theorem dX9_which_94 : decode cX9_which 94 = .ok (.ifCond .eq 7, 3) := by decide +kernel
theorem dX9_which_97 : decode cX9_which 97 = .ok (.iconst 1, 1) := by decide +kernel
theorem dX9_which_98 : decode cX9_which 98 = .ok (.goto 4, 3) := by decide +kernel
theorem dX9_which_101 : decode cX9_which 101 = .ok (.iconst 0, 1) := by decide +kernel
theorem dX9_which_102 : decode cX9_which 102 = .ok (.aload_n 0, 1) := by decide +kernel
theorem dX9_which_103 : decode cX9_which 103 = .ok (.getfield 45, 3) := by decide +kernel
theorem dX9_which_106 : decode cX9_which 106 = .ok (.aload_n 2, 1) := by decide +kernel
theorem dX9_which_107 : decode cX9_which 107 = .ok (.invokevirtual 307, 3) := by decide +kernel
theorem dX9_which_110 : decode cX9_which 110 = .ok (.ifCond .eq 7, 3) := by decide +kernel
theorem dX9_which_113 : decode cX9_which 113 = .ok (.iconst 2, 1) := by decide +kernel
theorem dX9_which_114 : decode cX9_which 114 = .ok (.goto 4, 3) := by decide +kernel
theorem dX9_which_117 : decode cX9_which 117 = .ok (.iconst 0, 1) := by decide +kernel
theorem dX9_which_118 : decode cX9_which 118 = .ok (.ior, 1) := by decide +kernel
theorem dX9_which_119 : decode cX9_which 119 = .ok (.ireturn, 1) := by decide +kernel
set_option maxRecDepth 20000 in
theorem dX9_fit_0 : decode cX9_fit 0 = .ok (.iload_n 1, 1) := by decide +kernel
theorem dX9_fit_1 : decode cX9_fit 1 = .ok (.invokestatic 102, 3) := by decide +kernel
theorem dX9_fit_4 : decode cX9_fit 4 = .ok (.ifCond .eq 8, 3) := by decide +kernel
theorem dX9_fit_7 : decode cX9_fit 7 = .ok (.iload_n 2, 1) := by decide +kernel
theorem dX9_fit_8 : decode cX9_fit 8 = .ok (.iconst (-1), 1) := by decide +kernel
theorem dX9_fit_9 : decode cX9_fit 9 = .ok (.if_icmp .ge 5, 3) := by decide +kernel
theorem dX9_fit_12 : decode cX9_fit 12 = .ok (.iconst (-1), 1) := by decide +kernel
theorem dX9_fit_13 : decode cX9_fit 13 = .ok (.ireturn, 1) := by decide +kernel
theorem dX9_fit_14 : decode cX9_fit 14 = .ok (.aload_n 0, 1) := by decide +kernel
theorem dX9_fit_15 : decode cX9_fit 15 = .ok (.getfield 32, 3) := by decide +kernel
theorem dX9_fit_18 : decode cX9_fit 18 = .ok (.iload_n 1, 1) := by decide +kernel
theorem dX9_fit_19 : decode cX9_fit 19 = .ok (.aaload, 1) := by decide +kernel
theorem dX9_fit_20 : decode cX9_fit 20 = .ok (.astore_n 3, 1) := by decide +kernel
theorem dX9_fit_21 : decode cX9_fit 21 = .ok (.aload_n 3, 1) := by decide +kernel
theorem dX9_fit_22 : decode cX9_fit 22 = .ok (.iconst 1, 1) := by decide +kernel
theorem dX9_fit_23 : decode cX9_fit 23 = .ok (.invokevirtual 106, 3) := by decide +kernel
theorem dX9_fit_26 : decode cX9_fit 26 = .ok (.istore 4, 2) := by decide +kernel
theorem dX9_fit_28 : decode cX9_fit 28 = .ok (.iload 4, 2) := by decide +kernel
theorem dX9_fit_30 : decode cX9_fit 30 = .ok (.ifCond .ge 6, 3) := by decide +kernel
theorem dX9_fit_33 : decode cX9_fit 33 = .ok (.iload 4, 2) := by decide +kernel
theorem dX9_fit_35 : decode cX9_fit 35 = .ok (.ireturn, 1) := by decide +kernel
theorem dX9_fit_36 : decode cX9_fit 36 = .ok (.aload_n 0, 1) := by decide +kernel
theorem dX9_fit_37 : decode cX9_fit 37 = .ok (.getfield 10, 3) := by decide +kernel
theorem dX9_fit_40 : decode cX9_fit 40 = .ok (.getfield 94, 3) := by decide +kernel
theorem dX9_fit_43 : decode cX9_fit 43 = .ok (.bipush 6, 2) := by decide +kernel
theorem dX9_fit_45 : decode cX9_fit 45 = .ok (.if_icmp .le 6, 3) := by decide +kernel
theorem dX9_fit_48 : decode cX9_fit 48 = .ok (.bipush (-5), 2) := by decide +kernel
theorem dX9_fit_50 : decode cX9_fit 50 = .ok (.ireturn, 1) := by decide +kernel
theorem dX9_fit_51 : decode cX9_fit 51 = .ok (.aload_n 0, 1) := by decide +kernel
theorem dX9_fit_52 : decode cX9_fit 52 = .ok (.aload_n 3, 1) := by decide +kernel
theorem dX9_fit_53 : decode cX9_fit 53 = .ok (.invokevirtual 311, 3) := by decide +kernel
theorem dX9_fit_56 : decode cX9_fit 56 = .ok (.istore 5, 2) := by decide +kernel
theorem dX9_fit_58 : decode cX9_fit 58 = .ok (.iload_n 2, 1) := by decide +kernel
theorem dX9_fit_59 : decode cX9_fit 59 = .ok (.iconst (-1), 1) := by decide +kernel
theorem dX9_fit_60 : decode cX9_fit 60 = .ok (.if_icmp .ne 6, 3) := by decide +kernel
theorem dX9_fit_63 : decode cX9_fit 63 = .ok (.iload 5, 2) := by decide +kernel
theorem dX9_fit_65 : decode cX9_fit 65 = .ok (.ireturn, 1) := by decide +kernel
theorem dX9_fit_66 : decode cX9_fit 66 = .ok (.iload 5, 2) := by decide +kernel
theorem dX9_fit_68 : decode cX9_fit 68 = .ok (.ifCond .eq 14, 3) := by decide +kernel
theorem dX9_fit_71 : decode cX9_fit 71 = .ok (.iload_n 2, 1) := by decide +kernel
theorem dX9_fit_72 : decode cX9_fit 72 = .ok (.aload_n 0, 1) := by decide +kernel
theorem dX9_fit_73 : decode cX9_fit 73 = .ok (.getfield 10, 3) := by decide +kernel
theorem dX9_fit_76 : decode cX9_fit 76 = .ok (.getfield 94, 3) := by decide +kernel
theorem dX9_fit_79 : decode cX9_fit 79 = .ok (.if_icmp .lt 8, 3) := by decide +kernel
theorem dX9_fit_82 : decode cX9_fit 82 = .ok (.bipush (-2), 2) := by decide +kernel
theorem dX9_fit_84 : decode cX9_fit 84 = .ok (.goto 9, 3) := by decide +kernel
theorem dX9_fit_87 : decode cX9_fit 87 = .ok (.aload_n 0, 1) := by decide +kernel
theorem dX9_fit_88 : decode cX9_fit 88 = .ok (.getfield 86, 3) := by decide +kernel
theorem dX9_fit_91 : decode cX9_fit 91 = .ok (.iload_n 2, 1) := by decide +kernel
theorem dX9_fit_92 : decode cX9_fit 92 = .ok (.iaload, 1) := by decide +kernel
theorem dX9_fit_93 : decode cX9_fit 93 = .ok (.ireturn, 1) := by decide +kernel
set_option maxRecDepth 20000 in
theorem dX9_countFits_0 : decode cX9_countFits 0 = .ok (.aload_n 1, 1) := by decide +kernel
theorem dX9_countFits_1 : decode cX9_countFits 1 = .ok (.getfield 118, 3) := by decide +kernel
theorem dX9_countFits_4 : decode cX9_countFits 4 = .ok (.iconst 2, 1) := by decide +kernel
theorem dX9_countFits_5 : decode cX9_countFits 5 = .ok (.idiv, 1) := by decide +kernel
theorem dX9_countFits_6 : decode cX9_countFits 6 = .ok (.aload_n 0, 1) := by decide +kernel
theorem dX9_countFits_7 : decode cX9_countFits 7 = .ok (.getfield 10, 3) := by decide +kernel
theorem dX9_countFits_10 : decode cX9_countFits 10 = .ok (.getfield 94, 3) := by decide +kernel
theorem dX9_countFits_13 : decode cX9_countFits 13 = .ok (.invokestatic 314, 3) := by decide +kernel
theorem dX9_countFits_16 : decode cX9_countFits 16 = .ok (.istore_n 2, 1) := by decide +kernel
theorem dX9_countFits_17 : decode cX9_countFits 17 = .ok (.iconst 0, 1) := by decide +kernel
theorem dX9_countFits_18 : decode cX9_countFits 18 = .ok (.istore_n 3, 1) := by decide +kernel
theorem dX9_countFits_19 : decode cX9_countFits 19 = .ok (.iconst 0, 1) := by decide +kernel
theorem dX9_countFits_20 : decode cX9_countFits 20 = .ok (.istore 4, 2) := by decide +kernel
theorem dX9_countFits_22 : decode cX9_countFits 22 = .ok (.iload 4, 2) := by decide +kernel
theorem dX9_countFits_24 : decode cX9_countFits 24 = .ok (.iload_n 2, 1) := by decide +kernel
theorem dX9_countFits_25 : decode cX9_countFits 25 = .ok (.if_icmp .ge 59, 3) := by decide +kernel
theorem dX9_countFits_28 : decode cX9_countFits 28 = .ok (.aload_n 1, 1) := by decide +kernel
theorem dX9_countFits_29 : decode cX9_countFits 29 = .ok (.iconst 2, 1) := by decide +kernel
theorem dX9_countFits_30 : decode cX9_countFits 30 = .ok (.iload 4, 2) := by decide +kernel
theorem dX9_countFits_32 : decode cX9_countFits 32 = .ok (.imul, 1) := by decide +kernel
theorem dX9_countFits_33 : decode cX9_countFits 33 = .ok (.invokevirtual 119, 3) := by decide +kernel
theorem dX9_countFits_36 : decode cX9_countFits 36 = .ok (.l2i, 1) := by decide +kernel
theorem dX9_countFits_37 : decode cX9_countFits 37 = .ok (.istore 5, 2) := by decide +kernel
theorem dX9_countFits_39 : decode cX9_countFits 39 = .ok (.aload_n 0, 1) := by decide +kernel
theorem dX9_countFits_40 : decode cX9_countFits 40 = .ok (.getfield 10, 3) := by decide +kernel
theorem dX9_countFits_43 : decode cX9_countFits 43 = .ok (.iload 5, 2) := by decide +kernel
theorem dX9_countFits_45 : decode cX9_countFits 45 = .ok (.invokevirtual 134, 3) := by decide +kernel
theorem dX9_countFits_48 : decode cX9_countFits 48 = .ok (.ifCond .eq 12, 3) := by decide +kernel
theorem dX9_countFits_51 : decode cX9_countFits 51 = .ok (.iload_n 3, 1) := by decide +kernel
theorem dX9_countFits_52 : decode cX9_countFits 52 = .ok (.iload 5, 2) := by decide +kernel
theorem dX9_countFits_54 : decode cX9_countFits 54 = .ok (.ishr, 1) := by decide +kernel
theorem dX9_countFits_55 : decode cX9_countFits 55 = .ok (.iconst 1, 1) := by decide +kernel
theorem dX9_countFits_56 : decode cX9_countFits 56 = .ok (.iand, 1) := by decide +kernel
theorem dX9_countFits_57 : decode cX9_countFits 57 = .ok (.ifCond .eq 5, 3) := by decide +kernel
theorem dX9_countFits_60 : decode cX9_countFits 60 = .ok (.iconst 0, 1) := by decide +kernel
theorem dX9_countFits_61 : decode cX9_countFits 61 = .ok (.ireturn, 1) := by decide +kernel
theorem dX9_countFits_62 : decode cX9_countFits 62 = .ok (.aload_n 0, 1) := by decide +kernel
theorem dX9_countFits_63 : decode cX9_countFits 63 = .ok (.getfield 86, 3) := by decide +kernel
theorem dX9_countFits_66 : decode cX9_countFits 66 = .ok (.iload 4, 2) := by decide +kernel
theorem dX9_countFits_68 : decode cX9_countFits 68 = .ok (.iload 5, 2) := by decide +kernel
theorem dX9_countFits_70 : decode cX9_countFits 70 = .ok (.iastore, 1) := by decide +kernel
theorem dX9_countFits_71 : decode cX9_countFits 71 = .ok (.iload_n 3, 1) := by decide +kernel
theorem dX9_countFits_72 : decode cX9_countFits 72 = .ok (.iconst 1, 1) := by decide +kernel
theorem dX9_countFits_73 : decode cX9_countFits 73 = .ok (.iload 5, 2) := by decide +kernel
theorem dX9_countFits_75 : decode cX9_countFits 75 = .ok (.ishl, 1) := by decide +kernel
theorem dX9_countFits_76 : decode cX9_countFits 76 = .ok (.ior, 1) := by decide +kernel
theorem dX9_countFits_77 : decode cX9_countFits 77 = .ok (.istore_n 3, 1) := by decide +kernel
theorem dX9_countFits_78 : decode cX9_countFits 78 = .ok (.iinc 4 1, 3) := by decide +kernel
theorem dX9_countFits_81 : decode cX9_countFits 81 = .ok (.goto (-59), 3) := by decide +kernel
theorem dX9_countFits_84 : decode cX9_countFits 84 = .ok (.iload_n 2, 1) := by decide +kernel
theorem dX9_countFits_85 : decode cX9_countFits 85 = .ok (.istore 4, 2) := by decide +kernel
theorem dX9_countFits_87 : decode cX9_countFits 87 = .ok (.iconst 1, 1) := by decide +kernel
theorem dX9_countFits_88 : decode cX9_countFits 88 = .ok (.istore 5, 2) := by decide +kernel
theorem dX9_countFits_90 : decode cX9_countFits 90 = .ok (.iconst 0, 1) := by decide +kernel
theorem dX9_countFits_91 : decode cX9_countFits 91 = .ok (.istore 6, 2) := by decide +kernel
theorem dX9_countFits_93 : decode cX9_countFits 93 = .ok (.iload 6, 2) := by decide +kernel
theorem dX9_countFits_95 : decode cX9_countFits 95 = .ok (.aload_n 0, 1) := by decide +kernel
theorem dX9_countFits_96 : decode cX9_countFits 96 = .ok (.getfield 10, 3) := by decide +kernel
theorem dX9_countFits_99 : decode cX9_countFits 99 = .ok (.getfield 94, 3) := by decide +kernel
theorem dX9_countFits_102 : decode cX9_countFits 102 = .ok (.if_icmp .ge 46, 3) := by decide +kernel
theorem dX9_countFits_105 : decode cX9_countFits 105 = .ok (.iload 4, 2) := by decide +kernel
theorem dX9_countFits_107 : decode cX9_countFits 107 = .ok (.bipush 6, 2) := by decide +kernel
theorem dX9_countFits_109 : decode cX9_countFits 109 = .ok (.if_icmp .ge 39, 3) := by decide +kernel
theorem dX9_countFits_112 : decode cX9_countFits 112 = .ok (.iload_n 3, 1) := by decide +kernel
theorem dX9_countFits_113 : decode cX9_countFits 113 = .ok (.iload 6, 2) := by decide +kernel
theorem dX9_countFits_115 : decode cX9_countFits 115 = .ok (.ishr, 1) := by decide +kernel
theorem dX9_countFits_116 : decode cX9_countFits 116 = .ok (.iconst 1, 1) := by decide +kernel
theorem dX9_countFits_117 : decode cX9_countFits 117 = .ok (.iand, 1) := by decide +kernel
theorem dX9_countFits_118 : decode cX9_countFits 118 = .ok (.ifCond .ne 24, 3) := by decide +kernel
theorem dX9_countFits_121 : decode cX9_countFits 121 = .ok (.aload_n 0, 1) := by decide +kernel
theorem dX9_countFits_122 : decode cX9_countFits 122 = .ok (.getfield 86, 3) := by decide +kernel
theorem dX9_countFits_125 : decode cX9_countFits 125 = .ok (.iload 4, 2) := by decide +kernel
theorem dX9_countFits_127 : decode cX9_countFits 127 = .ok (.iinc 4 1, 3) := by decide +kernel
theorem dX9_countFits_130 : decode cX9_countFits 130 = .ok (.iload 6, 2) := by decide +kernel
theorem dX9_countFits_132 : decode cX9_countFits 132 = .ok (.iastore, 1) := by decide +kernel
theorem dX9_countFits_133 : decode cX9_countFits 133 = .ok (.iload 5, 2) := by decide +kernel
theorem dX9_countFits_135 : decode cX9_countFits 135 = .ok (.iload 4, 2) := by decide +kernel
theorem dX9_countFits_137 : decode cX9_countFits 137 = .ok (.iload_n 2, 1) := by decide +kernel
theorem dX9_countFits_138 : decode cX9_countFits 138 = .ok (.isub, 1) := by decide +kernel
theorem dX9_countFits_139 : decode cX9_countFits 139 = .ok (.imul, 1) := by decide +kernel
theorem dX9_countFits_140 : decode cX9_countFits 140 = .ok (.istore 5, 2) := by decide +kernel
theorem dX9_countFits_142 : decode cX9_countFits 142 = .ok (.iinc 6 1, 3) := by decide +kernel
theorem dX9_countFits_145 : decode cX9_countFits 145 = .ok (.goto (-52), 3) := by decide +kernel
theorem dX9_countFits_148 : decode cX9_countFits 148 = .ok (.aload_n 0, 1) := by decide +kernel
theorem dX9_countFits_149 : decode cX9_countFits 149 = .ok (.getfield 41, 3) := by decide +kernel
theorem dX9_countFits_152 : decode cX9_countFits 152 = .ok (.aload_n 0, 1) := by decide +kernel
theorem dX9_countFits_153 : decode cX9_countFits 153 = .ok (.getfield 86, 3) := by decide +kernel
theorem dX9_countFits_156 : decode cX9_countFits 156 = .ok (.iload 4, 2) := by decide +kernel
theorem dX9_countFits_158 : decode cX9_countFits 158 = .ok (.invokevirtual 317, 3) := by decide +kernel
theorem dX9_countFits_161 : decode cX9_countFits 161 = .ok (.aload_n 0, 1) := by decide +kernel
theorem dX9_countFits_162 : decode cX9_countFits 162 = .ok (.getfield 41, 3) := by decide +kernel
theorem dX9_countFits_165 : decode cX9_countFits 165 = .ok (.aload_n 1, 1) := by decide +kernel
theorem dX9_countFits_166 : decode cX9_countFits 166 = .ok (.invokevirtual 307, 3) := by decide +kernel
theorem dX9_countFits_169 : decode cX9_countFits 169 = .ok (.ifCond .eq 8, 3) := by decide +kernel
theorem dX9_countFits_172 : decode cX9_countFits 172 = .ok (.iload 5, 2) := by decide +kernel
theorem dX9_countFits_174 : decode cX9_countFits 174 = .ok (.goto 4, 3) := by decide +kernel
theorem dX9_countFits_177 : decode cX9_countFits 177 = .ok (.iconst 0, 1) := by decide +kernel
theorem dX9_countFits_178 : decode cX9_countFits 178 = .ok (.ireturn, 1) := by decide +kernel
set_option maxRecDepth 20000 in
theorem dX9_hang_0 : decode cX9_hang 0 = .ok (.iload_n 1, 1) := by decide +kernel
theorem dX9_hang_1 : decode cX9_hang 1 = .ok (.ifCond .lt 16, 3) := by decide +kernel
theorem dX9_hang_4 : decode cX9_hang 4 = .ok (.iload_n 1, 1) := by decide +kernel
theorem dX9_hang_5 : decode cX9_hang 5 = .ok (.bipush 30, 2) := by decide +kernel
theorem dX9_hang_7 : decode cX9_hang 7 = .ok (.if_icmp .gt 10, 3) := by decide +kernel
theorem dX9_hang_10 : decode cX9_hang 10 = .ok (.iload_n 2, 1) := by decide +kernel
theorem dX9_hang_11 : decode cX9_hang 11 = .ok (.invokestatic 150, 3) := by decide +kernel
theorem dX9_hang_14 : decode cX9_hang 14 = .ok (.ifCond .ne 5, 3) := by decide +kernel
theorem dX9_hang_17 : decode cX9_hang 17 = .ok (.iconst (-1), 1) := by decide +kernel
theorem dX9_hang_18 : decode cX9_hang 18 = .ok (.ireturn, 1) := by decide +kernel
theorem dX9_hang_19 : decode cX9_hang 19 = .ok (.bipush (-2), 2) := by decide +kernel
theorem dX9_hang_21 : decode cX9_hang 21 = .ok (.istore_n 3, 1) := by decide +kernel
theorem dX9_hang_22 : decode cX9_hang 22 = .ok (.iconst (-1), 1) := by decide +kernel
theorem dX9_hang_23 : decode cX9_hang 23 = .ok (.istore 4, 2) := by decide +kernel
theorem dX9_hang_25 : decode cX9_hang 25 = .ok (.iconst 0, 1) := by decide +kernel
theorem dX9_hang_26 : decode cX9_hang 26 = .ok (.istore 5, 2) := by decide +kernel
theorem dX9_hang_28 : decode cX9_hang 28 = .ok (.iload 5, 2) := by decide +kernel
theorem dX9_hang_30 : decode cX9_hang 30 = .ok (.sipush 256, 3) := by decide +kernel
theorem dX9_hang_33 : decode cX9_hang 33 = .ok (.if_icmp .ge 66, 3) := by decide +kernel
theorem dX9_hang_36 : decode cX9_hang 36 = .ok (.aload_n 0, 1) := by decide +kernel
theorem dX9_hang_37 : decode cX9_hang 37 = .ok (.getfield 10, 3) := by decide +kernel
theorem dX9_hang_40 : decode cX9_hang 40 = .ok (.bipush 9, 2) := by decide +kernel
theorem dX9_hang_42 : decode cX9_hang 42 = .ok (.iload 5, 2) := by decide +kernel
theorem dX9_hang_44 : decode cX9_hang 44 = .ok (.bipush 15, 2) := by decide +kernel
theorem dX9_hang_46 : decode cX9_hang 46 = .ok (.iand, 1) := by decide +kernel
theorem dX9_hang_47 : decode cX9_hang 47 = .ok (.iload 5, 2) := by decide +kernel
theorem dX9_hang_49 : decode cX9_hang 49 = .ok (.iconst 4, 1) := by decide +kernel
theorem dX9_hang_50 : decode cX9_hang 50 = .ok (.ishr, 1) := by decide +kernel
theorem dX9_hang_51 : decode cX9_hang 51 = .ok (.invokevirtual 321, 3) := by decide +kernel
theorem dX9_hang_54 : decode cX9_hang 54 = .ok (.iload_n 1, 1) := by decide +kernel
theorem dX9_hang_55 : decode cX9_hang 55 = .ok (.if_icmp .le 6, 3) := by decide +kernel
theorem dX9_hang_58 : decode cX9_hang 58 = .ok (.goto 35, 3) := by decide +kernel
theorem dX9_hang_61 : decode cX9_hang 61 = .ok (.aload_n 0, 1) := by decide +kernel
theorem dX9_hang_62 : decode cX9_hang 62 = .ok (.getfield 10, 3) := by decide +kernel
theorem dX9_hang_65 : decode cX9_hang 65 = .ok (.iload 5, 2) := by decide +kernel
theorem dX9_hang_67 : decode cX9_hang 67 = .ok (.bipush 15, 2) := by decide +kernel
theorem dX9_hang_69 : decode cX9_hang 69 = .ok (.iand, 1) := by decide +kernel
theorem dX9_hang_70 : decode cX9_hang 70 = .ok (.iload 5, 2) := by decide +kernel
theorem dX9_hang_72 : decode cX9_hang 72 = .ok (.iconst 4, 1) := by decide +kernel
theorem dX9_hang_73 : decode cX9_hang 73 = .ok (.ishr, 1) := by decide +kernel
theorem dX9_hang_74 : decode cX9_hang 74 = .ok (.invokevirtual 324, 3) := by decide +kernel
theorem dX9_hang_77 : decode cX9_hang 77 = .ok (.istore 6, 2) := by decide +kernel
theorem dX9_hang_79 : decode cX9_hang 79 = .ok (.iload 6, 2) := by decide +kernel
theorem dX9_hang_81 : decode cX9_hang 81 = .ok (.iload 4, 2) := by decide +kernel
theorem dX9_hang_83 : decode cX9_hang 83 = .ok (.if_icmp .le 10, 3) := by decide +kernel
theorem dX9_hang_86 : decode cX9_hang 86 = .ok (.iload 5, 2) := by decide +kernel
theorem dX9_hang_88 : decode cX9_hang 88 = .ok (.istore_n 3, 1) := by decide +kernel
theorem dX9_hang_89 : decode cX9_hang 89 = .ok (.iload 6, 2) := by decide +kernel
theorem dX9_hang_91 : decode cX9_hang 91 = .ok (.istore 4, 2) := by decide +kernel
theorem dX9_hang_93 : decode cX9_hang 93 = .ok (.iinc 5 1, 3) := by decide +kernel
theorem dX9_hang_96 : decode cX9_hang 96 = .ok (.goto (-68), 3) := by decide +kernel
theorem dX9_hang_99 : decode cX9_hang 99 = .ok (.iload_n 2, 1) := by decide +kernel
theorem dX9_hang_100 : decode cX9_hang 100 = .ok (.ifCond .ne 7, 3) := by decide +kernel
theorem dX9_hang_103 : decode cX9_hang 103 = .ok (.iload_n 3, 1) := by decide +kernel
theorem dX9_hang_104 : decode cX9_hang 104 = .ok (.goto 5, 3) := by decide +kernel
theorem dX9_hang_107 : decode cX9_hang 107 = .ok (.iload 4, 2) := by decide +kernel
theorem dX9_hang_109 : decode cX9_hang 109 = .ok (.ireturn, 1) := by decide +kernel
set_option maxRecDepth 20000 in
theorem dX9_drawn_0 : decode cX9_drawn 0 = .ok (.iload_n 2, 1) := by decide +kernel
theorem dX9_drawn_1 : decode cX9_drawn 1 = .ok (.bipush 10, 2) := by decide +kernel
theorem dX9_drawn_3 : decode cX9_drawn 3 = .ok (.idiv, 1) := by decide +kernel
theorem dX9_drawn_4 : decode cX9_drawn 4 = .ok (.istore 4, 2) := by decide +kernel
theorem dX9_drawn_6 : decode cX9_drawn 6 = .ok (.iload_n 2, 1) := by decide +kernel
theorem dX9_drawn_7 : decode cX9_drawn 7 = .ok (.bipush 10, 2) := by decide +kernel
theorem dX9_drawn_9 : decode cX9_drawn 9 = .ok (.irem, 1) := by decide +kernel
theorem dX9_drawn_10 : decode cX9_drawn 10 = .ok (.istore 5, 2) := by decide +kernel
theorem dX9_drawn_12 : decode cX9_drawn 12 = .ok (.iload_n 2, 1) := by decide +kernel
theorem dX9_drawn_13 : decode cX9_drawn 13 = .ok (.ifCond .lt 29, 3) := by decide +kernel
theorem dX9_drawn_16 : decode cX9_drawn 16 = .ok (.iload 4, 2) := by decide +kernel
theorem dX9_drawn_18 : decode cX9_drawn 18 = .ok (.iconst 1, 1) := by decide +kernel
theorem dX9_drawn_19 : decode cX9_drawn 19 = .ok (.if_icmp .lt 23, 3) := by decide +kernel
theorem dX9_drawn_22 : decode cX9_drawn 22 = .ok (.iload 4, 2) := by decide +kernel
theorem dX9_drawn_24 : decode cX9_drawn 24 = .ok (.bipush 30, 2) := by decide +kernel
theorem dX9_drawn_26 : decode cX9_drawn 26 = .ok (.if_icmp .gt 16, 3) := by decide +kernel
theorem dX9_drawn_29 : decode cX9_drawn 29 = .ok (.iload 5, 2) := by decide +kernel
theorem dX9_drawn_31 : decode cX9_drawn 31 = .ok (.iconst 1, 1) := by decide +kernel
theorem dX9_drawn_32 : decode cX9_drawn 32 = .ok (.if_icmp .lt 10, 3) := by decide +kernel
theorem dX9_drawn_35 : decode cX9_drawn 35 = .ok (.iload_n 3, 1) := by decide +kernel
theorem dX9_drawn_36 : decode cX9_drawn 36 = .ok (.invokestatic 150, 3) := by decide +kernel
theorem dX9_drawn_39 : decode cX9_drawn 39 = .ok (.ifCond .ne 5, 3) := by decide +kernel
theorem dX9_drawn_42 : decode cX9_drawn 42 = .ok (.iconst (-1), 1) := by decide +kernel
theorem dX9_drawn_43 : decode cX9_drawn 43 = .ok (.ireturn, 1) := by decide +kernel
theorem dX9_drawn_44 : decode cX9_drawn 44 = .ok (.aload_n 0, 1) := by decide +kernel
theorem dX9_drawn_45 : decode cX9_drawn 45 = .ok (.getfield 10, 3) := by decide +kernel
theorem dX9_drawn_48 : decode cX9_drawn 48 = .ok (.getfield 94, 3) := by decide +kernel
theorem dX9_drawn_51 : decode cX9_drawn 51 = .ok (.ifCond .ne 5, 3) := by decide +kernel
theorem dX9_drawn_54 : decode cX9_drawn 54 = .ok (.iconst 0, 1) := by decide +kernel
theorem dX9_drawn_55 : decode cX9_drawn 55 = .ok (.ireturn, 1) := by decide +kernel
theorem dX9_drawn_56 : decode cX9_drawn 56 = .ok (.iload_n 1, 1) := by decide +kernel
theorem dX9_drawn_57 : decode cX9_drawn 57 = .ok (.istore 6, 2) := by decide +kernel
theorem dX9_drawn_59 : decode cX9_drawn 59 = .ok (.iconst 0, 1) := by decide +kernel
theorem dX9_drawn_60 : decode cX9_drawn 60 = .ok (.istore 7, 2) := by decide +kernel
theorem dX9_drawn_62 : decode cX9_drawn 62 = .ok (.iconst 0, 1) := by decide +kernel
theorem dX9_drawn_63 : decode cX9_drawn 63 = .ok (.istore 8, 2) := by decide +kernel
theorem dX9_drawn_65 : decode cX9_drawn 65 = .ok (.iconst 0, 1) := by decide +kernel
theorem dX9_drawn_66 : decode cX9_drawn 66 = .ok (.istore 9, 2) := by decide +kernel
theorem dX9_drawn_68 : decode cX9_drawn 68 = .ok (.iload 9, 2) := by decide +kernel
theorem dX9_drawn_70 : decode cX9_drawn 70 = .ok (.iload 4, 2) := by decide +kernel
theorem dX9_drawn_72 : decode cX9_drawn 72 = .ok (.if_icmp .ge 154, 3) := by decide +kernel
theorem dX9_drawn_75 : decode cX9_drawn 75 = .ok (.bipush 9, 2) := by decide +kernel
theorem dX9_drawn_77 : decode cX9_drawn 77 = .ok (.istore 10, 2) := by decide +kernel
theorem dX9_drawn_79 : decode cX9_drawn 79 = .ok (.iconst 0, 1) := by decide +kernel
theorem dX9_drawn_80 : decode cX9_drawn 80 = .ok (.istore 11, 2) := by decide +kernel
theorem dX9_drawn_82 : decode cX9_drawn 82 = .ok (.iconst 0, 1) := by decide +kernel
theorem dX9_drawn_83 : decode cX9_drawn 83 = .ok (.istore 12, 2) := by decide +kernel
theorem dX9_drawn_85 : decode cX9_drawn 85 = .ok (.iload 12, 2) := by decide +kernel
theorem dX9_drawn_87 : decode cX9_drawn 87 = .ok (.iload 5, 2) := by decide +kernel
theorem dX9_drawn_89 : decode cX9_drawn 89 = .ok (.if_icmp .ge 115, 3) := by decide +kernel
theorem dX9_drawn_92 : decode cX9_drawn 92 = .ok (.iload 6, 2) := by decide +kernel
theorem dX9_drawn_94 : decode cX9_drawn 94 = .ok (.ldc_w 327, 3) := by decide +kernel
theorem dX9_drawn_97 : decode cX9_drawn 97 = .ok (.imul, 1) := by decide +kernel
theorem dX9_drawn_98 : decode cX9_drawn 98 = .ok (.sipush 12345, 3) := by decide +kernel
theorem dX9_drawn_101 : decode cX9_drawn 101 = .ok (.iadd, 1) := by decide +kernel
theorem dX9_drawn_102 : decode cX9_drawn 102 = .ok (.istore 6, 2) := by decide +kernel
theorem dX9_drawn_104 : decode cX9_drawn 104 = .ok (.iload 6, 2) := by decide +kernel
theorem dX9_drawn_106 : decode cX9_drawn 106 = .ok (.bipush 8, 2) := by decide +kernel
theorem dX9_drawn_108 : decode cX9_drawn 108 = .ok (.iushr, 1) := by decide +kernel
theorem dX9_drawn_109 : decode cX9_drawn 109 = .ok (.aload_n 0, 1) := by decide +kernel
theorem dX9_drawn_110 : decode cX9_drawn 110 = .ok (.getfield 10, 3) := by decide +kernel
theorem dX9_drawn_113 : decode cX9_drawn 113 = .ok (.getfield 94, 3) := by decide +kernel
theorem dX9_drawn_116 : decode cX9_drawn 116 = .ok (.irem, 1) := by decide +kernel
theorem dX9_drawn_117 : decode cX9_drawn 117 = .ok (.istore 13, 2) := by decide +kernel
theorem dX9_drawn_119 : decode cX9_drawn 119 = .ok (.iload 6, 2) := by decide +kernel
theorem dX9_drawn_121 : decode cX9_drawn 121 = .ok (.bipush 16, 2) := by decide +kernel
theorem dX9_drawn_123 : decode cX9_drawn 123 = .ok (.iushr, 1) := by decide +kernel
theorem dX9_drawn_124 : decode cX9_drawn 124 = .ok (.iconst 1, 1) := by decide +kernel
theorem dX9_drawn_125 : decode cX9_drawn 125 = .ok (.iand, 1) := by decide +kernel
theorem dX9_drawn_126 : decode cX9_drawn 126 = .ok (.iconst 1, 1) := by decide +kernel
theorem dX9_drawn_127 : decode cX9_drawn 127 = .ok (.if_icmp .ne 15, 3) := by decide +kernel
theorem dX9_drawn_130 : decode cX9_drawn 130 = .ok (.aload_n 0, 1) := by decide +kernel
theorem dX9_drawn_131 : decode cX9_drawn 131 = .ok (.getfield 10, 3) := by decide +kernel
theorem dX9_drawn_134 : decode cX9_drawn 134 = .ok (.getfield 94, 3) := by decide +kernel
theorem dX9_drawn_137 : decode cX9_drawn 137 = .ok (.iconst 1, 1) := by decide +kernel
theorem dX9_drawn_138 : decode cX9_drawn 138 = .ok (.isub, 1) := by decide +kernel
theorem dX9_drawn_139 : decode cX9_drawn 139 = .ok (.goto 4, 3) := by decide +kernel
theorem dX9_drawn_142 : decode cX9_drawn 142 = .ok (.iconst 1, 1) := by decide +kernel
theorem dX9_drawn_143 : decode cX9_drawn 143 = .ok (.istore 14, 2) := by decide +kernel
theorem dX9_drawn_145 : decode cX9_drawn 145 = .ok (.iload 11, 2) := by decide +kernel
theorem dX9_drawn_147 : decode cX9_drawn 147 = .ok (.aload_n 0, 1) := by decide +kernel
theorem dX9_drawn_148 : decode cX9_drawn 148 = .ok (.getfield 10, 3) := by decide +kernel
theorem dX9_drawn_151 : decode cX9_drawn 151 = .ok (.iload 10, 2) := by decide +kernel
theorem dX9_drawn_153 : decode cX9_drawn 153 = .ok (.iload 13, 2) := by decide +kernel
theorem dX9_drawn_155 : decode cX9_drawn 155 = .ok (.invokevirtual 298, 3) := by decide +kernel
theorem dX9_drawn_158 : decode cX9_drawn 158 = .ok (.aload_n 0, 1) := by decide +kernel
theorem dX9_drawn_159 : decode cX9_drawn 159 = .ok (.getfield 10, 3) := by decide +kernel
theorem dX9_drawn_162 : decode cX9_drawn 162 = .ok (.iload 13, 2) := by decide +kernel
theorem dX9_drawn_164 : decode cX9_drawn 164 = .ok (.iload 14, 2) := by decide +kernel
theorem dX9_drawn_166 : decode cX9_drawn 166 = .ok (.invokevirtual 328, 3) := by decide +kernel
theorem dX9_drawn_169 : decode cX9_drawn 169 = .ok (.iadd, 1) := by decide +kernel
theorem dX9_drawn_170 : decode cX9_drawn 170 = .ok (.iadd, 1) := by decide +kernel
theorem dX9_drawn_171 : decode cX9_drawn 171 = .ok (.istore 11, 2) := by decide +kernel
theorem dX9_drawn_173 : decode cX9_drawn 173 = .ok (.iload 13, 2) := by decide +kernel
theorem dX9_drawn_175 : decode cX9_drawn 175 = .ok (.iload 14, 2) := by decide +kernel
theorem dX9_drawn_177 : decode cX9_drawn 177 = .ok (.aload_n 0, 1) := by decide +kernel
theorem dX9_drawn_178 : decode cX9_drawn 178 = .ok (.getfield 10, 3) := by decide +kernel
theorem dX9_drawn_181 : decode cX9_drawn 181 = .ok (.getfield 94, 3) := by decide +kernel
theorem dX9_drawn_184 : decode cX9_drawn 184 = .ok (.iconst 1, 1) := by decide +kernel
theorem dX9_drawn_185 : decode cX9_drawn 185 = .ok (.isub, 1) := by decide +kernel
theorem dX9_drawn_186 : decode cX9_drawn 186 = .ok (.imul, 1) := by decide +kernel
theorem dX9_drawn_187 : decode cX9_drawn 187 = .ok (.iadd, 1) := by decide +kernel
theorem dX9_drawn_188 : decode cX9_drawn 188 = .ok (.aload_n 0, 1) := by decide +kernel
theorem dX9_drawn_189 : decode cX9_drawn 189 = .ok (.getfield 10, 3) := by decide +kernel
theorem dX9_drawn_192 : decode cX9_drawn 192 = .ok (.getfield 94, 3) := by decide +kernel
theorem dX9_drawn_195 : decode cX9_drawn 195 = .ok (.irem, 1) := by decide +kernel
theorem dX9_drawn_196 : decode cX9_drawn 196 = .ok (.istore 10, 2) := by decide +kernel
theorem dX9_drawn_198 : decode cX9_drawn 198 = .ok (.iinc 12 1, 3) := by decide +kernel
theorem dX9_drawn_201 : decode cX9_drawn 201 = .ok (.goto (-116), 3) := by decide +kernel
theorem dX9_drawn_204 : decode cX9_drawn 204 = .ok (.iload 7, 2) := by decide +kernel
theorem dX9_drawn_206 : decode cX9_drawn 206 = .ok (.iload 11, 2) := by decide +kernel
theorem dX9_drawn_208 : decode cX9_drawn 208 = .ok (.iadd, 1) := by decide +kernel
theorem dX9_drawn_209 : decode cX9_drawn 209 = .ok (.istore 7, 2) := by decide +kernel
theorem dX9_drawn_211 : decode cX9_drawn 211 = .ok (.iload 8, 2) := by decide +kernel
theorem dX9_drawn_213 : decode cX9_drawn 213 = .ok (.iload 11, 2) := by decide +kernel
theorem dX9_drawn_215 : decode cX9_drawn 215 = .ok (.invokestatic 249, 3) := by decide +kernel
theorem dX9_drawn_218 : decode cX9_drawn 218 = .ok (.istore 8, 2) := by decide +kernel
theorem dX9_drawn_220 : decode cX9_drawn 220 = .ok (.iinc 9 1, 3) := by decide +kernel
theorem dX9_drawn_223 : decode cX9_drawn 223 = .ok (.goto (-155), 3) := by decide +kernel
theorem dX9_drawn_226 : decode cX9_drawn 226 = .ok (.iload_n 3, 1) := by decide +kernel
theorem dX9_drawn_227 : decode cX9_drawn 227 = .ok (.ifCond .ne 8, 3) := by decide +kernel
theorem dX9_drawn_230 : decode cX9_drawn 230 = .ok (.iload 7, 2) := by decide +kernel
theorem dX9_drawn_232 : decode cX9_drawn 232 = .ok (.goto 5, 3) := by decide +kernel
theorem dX9_drawn_235 : decode cX9_drawn 235 = .ok (.iload 8, 2) := by decide +kernel
theorem dX9_drawn_237 : decode cX9_drawn 237 = .ok (.ireturn, 1) := by decide +kernel
set_option maxRecDepth 20000 in
theorem dX9_walk_0 : decode cX9_walk 0 = .ok (.aload_n 0, 1) := by decide +kernel
theorem dX9_walk_1 : decode cX9_walk 1 = .ok (.getfield 10, 3) := by decide +kernel
theorem dX9_walk_4 : decode cX9_walk 4 = .ok (.iload_n 1, 1) := by decide +kernel
theorem dX9_walk_5 : decode cX9_walk 5 = .ok (.invokevirtual 134, 3) := by decide +kernel
theorem dX9_walk_8 : decode cX9_walk 8 = .ok (.ifCond .ne 5, 3) := by decide +kernel
theorem dX9_walk_11 : decode cX9_walk 11 = .ok (.iconst (-1), 1) := by decide +kernel
theorem dX9_walk_12 : decode cX9_walk 12 = .ok (.ireturn, 1) := by decide +kernel
theorem dX9_walk_13 : decode cX9_walk 13 = .ok (.aload_n 0, 1) := by decide +kernel
theorem dX9_walk_14 : decode cX9_walk 14 = .ok (.getfield 65, 3) := by decide +kernel
theorem dX9_walk_17 : decode cX9_walk 17 = .ok (.iload_n 1, 1) := by decide +kernel
theorem dX9_walk_18 : decode cX9_walk 18 = .ok (.aload_n 0, 1) := by decide +kernel
theorem dX9_walk_19 : decode cX9_walk 19 = .ok (.getfield 10, 3) := by decide +kernel
theorem dX9_walk_22 : decode cX9_walk 22 = .ok (.aload_n 0, 1) := by decide +kernel
theorem dX9_walk_23 : decode cX9_walk 23 = .ok (.getfield 65, 3) := by decide +kernel
theorem dX9_walk_26 : decode cX9_walk 26 = .ok (.getfield 331, 3) := by decide +kernel
theorem dX9_walk_29 : decode cX9_walk 29 = .ok (.iload_n 1, 1) := by decide +kernel
theorem dX9_walk_30 : decode cX9_walk 30 = .ok (.invokevirtual 298, 3) := by decide +kernel
theorem dX9_walk_33 : decode cX9_walk 33 = .ok (.aload_n 0, 1) := by decide +kernel
theorem dX9_walk_34 : decode cX9_walk 34 = .ok (.getfield 10, 3) := by decide +kernel
theorem dX9_walk_37 : decode cX9_walk 37 = .ok (.invokevirtual 301, 3) := by decide +kernel
theorem dX9_walk_40 : decode cX9_walk 40 = .ok (.invokevirtual 334, 3) := by decide +kernel
theorem dX9_walk_43 : decode cX9_walk 43 = .ok (.ifCond .eq 13, 3) := by decide +kernel
theorem dX9_walk_46 : decode cX9_walk 46 = .ok (.aload_n 0, 1) := by decide +kernel
theorem dX9_walk_47 : decode cX9_walk 47 = .ok (.getfield 65, 3) := by decide +kernel
theorem dX9_walk_50 : decode cX9_walk 50 = .ok (.getfield 338, 3) := by decide +kernel
theorem dX9_walk_53 : decode cX9_walk 53 = .ok (.goto 5, 3) := by decide +kernel
theorem dX9_walk_56 : decode cX9_walk 56 = .ok (.bipush (-5), 2) := by decide +kernel
theorem dX9_walk_58 : decode cX9_walk 58 = .ok (.ireturn, 1) := by decide +kernel
set_option maxRecDepth 20000 in
theorem dX9_waits_0 : decode cX9_waits 0 = .ok (.iload_n 1, 1) := by decide +kernel
theorem dX9_waits_1 : decode cX9_waits 1 = .ok (.iconst 1, 1) := by decide +kernel
theorem dX9_waits_2 : decode cX9_waits 2 = .ok (.if_icmp .lt 10, 3) := by decide +kernel
theorem dX9_waits_5 : decode cX9_waits 5 = .ok (.iload_n 1, 1) := by decide +kernel
theorem dX9_waits_6 : decode cX9_waits 6 = .ok (.sipush 999, 3) := by decide +kernel
theorem dX9_waits_9 : decode cX9_waits 9 = .ok (.if_icmp .le 5, 3) := by decide +kernel
theorem dX9_waits_12 : decode cX9_waits 12 = .ok (.iconst (-1), 1) := by decide +kernel
theorem dX9_waits_13 : decode cX9_waits 13 = .ok (.ireturn, 1) := by decide +kernel
theorem dX9_waits_14 : decode cX9_waits 14 = .ok (.aload_n 0, 1) := by decide +kernel
theorem dX9_waits_15 : decode cX9_waits 15 = .ok (.getfield 65, 3) := by decide +kernel
theorem dX9_waits_18 : decode cX9_waits 18 = .ok (.iload_n 1, 1) := by decide +kernel
theorem dX9_waits_19 : decode cX9_waits 19 = .ok (.invokevirtual 341, 3) := by decide +kernel
theorem dX9_waits_22 : decode cX9_waits 22 = .ok (.ifCond .eq 13, 3) := by decide +kernel
theorem dX9_waits_25 : decode cX9_waits 25 = .ok (.aload_n 0, 1) := by decide +kernel
theorem dX9_waits_26 : decode cX9_waits 26 = .ok (.getfield 65, 3) := by decide +kernel
theorem dX9_waits_29 : decode cX9_waits 29 = .ok (.getfield 338, 3) := by decide +kernel
theorem dX9_waits_32 : decode cX9_waits 32 = .ok (.goto 5, 3) := by decide +kernel
theorem dX9_waits_35 : decode cX9_waits 35 = .ok (.bipush (-5), 2) := by decide +kernel
theorem dX9_waits_37 : decode cX9_waits 37 = .ok (.ireturn, 1) := by decide +kernel
set_option maxRecDepth 20000 in
theorem dX9_home_0 : decode cX9_home 0 = .ok (.aload_n 0, 1) := by decide +kernel
theorem dX9_home_1 : decode cX9_home 1 = .ok (.getfield 65, 3) := by decide +kernel
theorem dX9_home_4 : decode cX9_home 4 = .ok (.aload_n 0, 1) := by decide +kernel
theorem dX9_home_5 : decode cX9_home 5 = .ok (.getfield 10, 3) := by decide +kernel
theorem dX9_home_8 : decode cX9_home 8 = .ok (.aload_n 0, 1) := by decide +kernel
theorem dX9_home_9 : decode cX9_home 9 = .ok (.getfield 65, 3) := by decide +kernel
theorem dX9_home_12 : decode cX9_home 12 = .ok (.getfield 331, 3) := by decide +kernel
theorem dX9_home_15 : decode cX9_home 15 = .ok (.bipush 9, 2) := by decide +kernel
theorem dX9_home_17 : decode cX9_home 17 = .ok (.invokevirtual 298, 3) := by decide +kernel
theorem dX9_home_20 : decode cX9_home 20 = .ok (.invokevirtual 344, 3) := by decide +kernel
theorem dX9_home_23 : decode cX9_home 23 = .ok (.ifCond .eq 13, 3) := by decide +kernel
theorem dX9_home_26 : decode cX9_home 26 = .ok (.aload_n 0, 1) := by decide +kernel
theorem dX9_home_27 : decode cX9_home 27 = .ok (.getfield 65, 3) := by decide +kernel
theorem dX9_home_30 : decode cX9_home 30 = .ok (.getfield 338, 3) := by decide +kernel
theorem dX9_home_33 : decode cX9_home 33 = .ok (.goto 5, 3) := by decide +kernel
theorem dX9_home_36 : decode cX9_home 36 = .ok (.bipush (-5), 2) := by decide +kernel
theorem dX9_home_38 : decode cX9_home 38 = .ok (.ireturn, 1) := by decide +kernel
theorem dX9_led_0 : decode cX9_led 0 = .ok (.iload_n 1, 1) := by decide +kernel
theorem dX9_led_1 : decode cX9_led 1 = .ok (.tableswitch 75 0 4 #[35, 43, 51, 59, 67], 35) := by decide +kernel
theorem dX9_led_36 : decode cX9_led 36 = .ok (.aload_n 0, 1) := by decide +kernel
theorem dX9_led_37 : decode cX9_led 37 = .ok (.getfield 65, 3) := by decide +kernel
theorem dX9_led_40 : decode cX9_led 40 = .ok (.getfield 347, 3) := by decide +kernel
theorem dX9_led_43 : decode cX9_led 43 = .ok (.ireturn, 1) := by decide +kernel
theorem dX9_led_44 : decode cX9_led 44 = .ok (.aload_n 0, 1) := by decide +kernel
theorem dX9_led_45 : decode cX9_led 45 = .ok (.getfield 65, 3) := by decide +kernel
theorem dX9_led_48 : decode cX9_led 48 = .ok (.getfield 350, 3) := by decide +kernel
theorem dX9_led_51 : decode cX9_led 51 = .ok (.ireturn, 1) := by decide +kernel
theorem dX9_led_52 : decode cX9_led 52 = .ok (.aload_n 0, 1) := by decide +kernel
theorem dX9_led_53 : decode cX9_led 53 = .ok (.getfield 65, 3) := by decide +kernel
theorem dX9_led_56 : decode cX9_led 56 = .ok (.getfield 353, 3) := by decide +kernel
theorem dX9_led_59 : decode cX9_led 59 = .ok (.ireturn, 1) := by decide +kernel
theorem dX9_led_60 : decode cX9_led 60 = .ok (.aload_n 0, 1) := by decide +kernel
theorem dX9_led_61 : decode cX9_led 61 = .ok (.getfield 65, 3) := by decide +kernel
theorem dX9_led_64 : decode cX9_led 64 = .ok (.getfield 356, 3) := by decide +kernel
theorem dX9_led_67 : decode cX9_led 67 = .ok (.ireturn, 1) := by decide +kernel
theorem dX9_led_68 : decode cX9_led 68 = .ok (.aload_n 0, 1) := by decide +kernel
theorem dX9_led_69 : decode cX9_led 69 = .ok (.getfield 65, 3) := by decide +kernel
theorem dX9_led_72 : decode cX9_led 72 = .ok (.getfield 338, 3) := by decide +kernel
theorem dX9_led_75 : decode cX9_led 75 = .ok (.ireturn, 1) := by decide +kernel
theorem dX9_led_76 : decode cX9_led 76 = .ok (.iconst (-1), 1) := by decide +kernel
theorem dX9_led_77 : decode cX9_led 77 = .ok (.ireturn, 1) := by decide +kernel
set_option maxRecDepth 20000 in
theorem dX9_image_0 : decode cX9_image 0 = .ok (.aload_n 0, 1) := by decide +kernel
theorem dX9_image_1 : decode cX9_image 1 = .ok (.getfield 69, 3) := by decide +kernel
theorem dX9_image_4 : decode cX9_image 4 = .ok (.aload_n 0, 1) := by decide +kernel
theorem dX9_image_5 : decode cX9_image 5 = .ok (.getfield 65, 3) := by decide +kernel
theorem dX9_image_8 : decode cX9_image 8 = .ok (.invokevirtual 359, 3) := by decide +kernel
theorem dX9_image_11 : decode cX9_image 11 = .ok (.aload_n 0, 1) := by decide +kernel
theorem dX9_image_12 : decode cX9_image 12 = .ok (.iconst 1, 1) := by decide +kernel
theorem dX9_image_13 : decode cX9_image 13 = .ok (.putfield 363, 3) := by decide +kernel
theorem dX9_image_16 : decode cX9_image 16 = .ok (.aload_n 0, 1) := by decide +kernel
theorem dX9_image_17 : decode cX9_image 17 = .ok (.getfield 65, 3) := by decide +kernel
theorem dX9_image_20 : decode cX9_image 20 = .ok (.getfield 338, 3) := by decide +kernel
theorem dX9_image_23 : decode cX9_image 23 = .ok (.ireturn, 1) := by decide +kernel
set_option maxRecDepth 20000 in
theorem dX9_back_0 : decode cX9_back 0 = .ok (.aload_n 0, 1) := by decide +kernel
theorem dX9_back_1 : decode cX9_back 1 = .ok (.getfield 363, 3) := by decide +kernel
theorem dX9_back_4 : decode cX9_back 4 = .ok (.ifCond .ne 6, 3) := by decide +kernel
theorem dX9_back_7 : decode cX9_back 7 = .ok (.bipush (-5), 2) := by decide +kernel
theorem dX9_back_9 : decode cX9_back 9 = .ok (.ireturn, 1) := by decide +kernel
theorem dX9_back_10 : decode cX9_back 10 = .ok (.aload_n 0, 1) := by decide +kernel
theorem dX9_back_11 : decode cX9_back 11 = .ok (.getfield 65, 3) := by decide +kernel
theorem dX9_back_14 : decode cX9_back 14 = .ok (.aload_n 0, 1) := by decide +kernel
theorem dX9_back_15 : decode cX9_back 15 = .ok (.getfield 69, 3) := by decide +kernel
theorem dX9_back_18 : decode cX9_back 18 = .ok (.invokevirtual 359, 3) := by decide +kernel
theorem dX9_back_21 : decode cX9_back 21 = .ok (.aload_n 0, 1) := by decide +kernel
theorem dX9_back_22 : decode cX9_back 22 = .ok (.getfield 65, 3) := by decide +kernel
theorem dX9_back_25 : decode cX9_back 25 = .ok (.getfield 338, 3) := by decide +kernel
theorem dX9_back_28 : decode cX9_back 28 = .ok (.ireturn, 1) := by decide +kernel
set_option maxRecDepth 20000 in
theorem dX9_undo_0 : decode cX9_undo 0 = .ok (.aload_n 0, 1) := by decide +kernel
theorem dX9_undo_1 : decode cX9_undo 1 = .ok (.getfield 19, 3) := by decide +kernel
theorem dX9_undo_4 : decode cX9_undo 4 = .ok (.aload_n 0, 1) := by decide +kernel
theorem dX9_undo_5 : decode cX9_undo 5 = .ok (.getfield 10, 3) := by decide +kernel
theorem dX9_undo_8 : decode cX9_undo 8 = .ok (.getfield 127, 3) := by decide +kernel
theorem dX9_undo_11 : decode cX9_undo 11 = .ok (.invokevirtual 367, 3) := by decide +kernel
theorem dX9_undo_14 : decode cX9_undo 14 = .ok (.ifCond .eq 13, 3) := by decide +kernel
theorem dX9_undo_17 : decode cX9_undo 17 = .ok (.aload_n 0, 1) := by decide +kernel
theorem dX9_undo_18 : decode cX9_undo 18 = .ok (.getfield 19, 3) := by decide +kernel
theorem dX9_undo_21 : decode cX9_undo 21 = .ok (.getfield 371, 3) := by decide +kernel
theorem dX9_undo_24 : decode cX9_undo 24 = .ok (.goto 5, 3) := by decide +kernel
theorem dX9_undo_27 : decode cX9_undo 27 = .ok (.bipush (-5), 2) := by decide +kernel
theorem dX9_undo_29 : decode cX9_undo 29 = .ok (.ireturn, 1) := by decide +kernel
set_option maxRecDepth 20000 in
theorem dX9_redo_0 : decode cX9_redo 0 = .ok (.aload_n 0, 1) := by decide +kernel
theorem dX9_redo_1 : decode cX9_redo 1 = .ok (.getfield 19, 3) := by decide +kernel
theorem dX9_redo_4 : decode cX9_redo 4 = .ok (.aload_n 0, 1) := by decide +kernel
theorem dX9_redo_5 : decode cX9_redo 5 = .ok (.getfield 10, 3) := by decide +kernel
theorem dX9_redo_8 : decode cX9_redo 8 = .ok (.getfield 127, 3) := by decide +kernel
theorem dX9_redo_11 : decode cX9_redo 11 = .ok (.invokevirtual 374, 3) := by decide +kernel
theorem dX9_redo_14 : decode cX9_redo 14 = .ok (.ifCond .eq 21, 3) := by decide +kernel
theorem dX9_redo_17 : decode cX9_redo 17 = .ok (.aload_n 0, 1) := by decide +kernel
theorem dX9_redo_18 : decode cX9_redo 18 = .ok (.getfield 19, 3) := by decide +kernel
theorem dX9_redo_21 : decode cX9_redo 21 = .ok (.getfield 377, 3) := by decide +kernel
theorem dX9_redo_24 : decode cX9_redo 24 = .ok (.aload_n 0, 1) := by decide +kernel
theorem dX9_redo_25 : decode cX9_redo 25 = .ok (.getfield 19, 3) := by decide +kernel
theorem dX9_redo_28 : decode cX9_redo 28 = .ok (.getfield 371, 3) := by decide +kernel
theorem dX9_redo_31 : decode cX9_redo 31 = .ok (.isub, 1) := by decide +kernel
theorem dX9_redo_32 : decode cX9_redo 32 = .ok (.goto 5, 3) := by decide +kernel
theorem dX9_redo_35 : decode cX9_redo 35 = .ok (.bipush (-5), 2) := by decide +kernel
theorem dX9_redo_37 : decode cX9_redo 37 = .ok (.ireturn, 1) := by decide +kernel
set_option maxRecDepth 20000 in
theorem dX9_body_0 : decode cX9_body 0 = .ok (.iload_n 1, 1) := by decide +kernel
theorem dX9_body_1 : decode cX9_body 1 = .ok (.invokestatic 378, 3) := by decide +kernel
theorem dX9_body_4 : decode cX9_body 4 = .ok (.ifCond .ne 5, 3) := by decide +kernel
theorem dX9_body_7 : decode cX9_body 7 = .ok (.iconst (-1), 1) := by decide +kernel
theorem dX9_body_8 : decode cX9_body 8 = .ok (.ireturn, 1) := by decide +kernel
theorem dX9_body_9 : decode cX9_body 9 = .ok (.aload_n 0, 1) := by decide +kernel
theorem dX9_body_10 : decode cX9_body 10 = .ok (.getfield 75, 3) := by decide +kernel
theorem dX9_body_13 : decode cX9_body 13 = .ok (.iload_n 1, 1) := by decide +kernel
theorem dX9_body_14 : decode cX9_body 14 = .ok (.invokevirtual 381, 3) := by decide +kernel
theorem dX9_body_17 : decode cX9_body 17 = .ok (.ireturn, 1) := by decide +kernel
set_option maxRecDepth 20000 in
theorem dX9_act_0 : decode cX9_act 0 = .ok (.aload_n 0, 1) := by decide +kernel
theorem dX9_act_1 : decode cX9_act 1 = .ok (.getfield 75, 3) := by decide +kernel
theorem dX9_act_4 : decode cX9_act 4 = .ok (.iload_n 1, 1) := by decide +kernel
theorem dX9_act_5 : decode cX9_act 5 = .ok (.iload_n 2, 1) := by decide +kernel
theorem dX9_act_6 : decode cX9_act 6 = .ok (.iload_n 3, 1) := by decide +kernel
theorem dX9_act_7 : decode cX9_act 7 = .ok (.invokevirtual 383, 3) := by decide +kernel
theorem dX9_act_10 : decode cX9_act 10 = .ok (.ireturn, 1) := by decide +kernel
set_option maxRecDepth 20000 in
theorem dX9_trace_0 : decode cX9_trace 0 = .ok (.iload_n 1, 1) := by decide +kernel
theorem dX9_trace_1 : decode cX9_trace 1 = .ok (.ifCond .lt 14, 3) := by decide +kernel
theorem dX9_trace_4 : decode cX9_trace 4 = .ok (.iload_n 1, 1) := by decide +kernel
theorem dX9_trace_5 : decode cX9_trace 5 = .ok (.aload_n 0, 1) := by decide +kernel
theorem dX9_trace_6 : decode cX9_trace 6 = .ok (.getfield 75, 3) := by decide +kernel
theorem dX9_trace_9 : decode cX9_trace 9 = .ok (.invokevirtual 386, 3) := by decide +kernel
theorem dX9_trace_12 : decode cX9_trace 12 = .ok (.if_icmp .lt 7, 3) := by decide +kernel
theorem dX9_trace_15 : decode cX9_trace 15 = .ok (.iconst (-1), 1) := by decide +kernel
theorem dX9_trace_16 : decode cX9_trace 16 = .ok (.goto 12, 3) := by decide +kernel
theorem dX9_trace_19 : decode cX9_trace 19 = .ok (.aload_n 0, 1) := by decide +kernel
theorem dX9_trace_20 : decode cX9_trace 20 = .ok (.getfield 75, 3) := by decide +kernel
theorem dX9_trace_23 : decode cX9_trace 23 = .ok (.getfield 389, 3) := by decide +kernel
theorem dX9_trace_26 : decode cX9_trace 26 = .ok (.iload_n 1, 1) := by decide +kernel
theorem dX9_trace_27 : decode cX9_trace 27 = .ok (.iaload, 1) := by decide +kernel
theorem dX9_trace_28 : decode cX9_trace 28 = .ok (.ireturn, 1) := by decide +kernel
set_option maxRecDepth 20000 in
theorem dX9_keep_0 : decode cX9_keep 0 = .ok (.iload_n 1, 1) := by decide +kernel
theorem dX9_keep_1 : decode cX9_keep 1 = .ok (.invokestatic 102, 3) := by decide +kernel
theorem dX9_keep_4 : decode cX9_keep 4 = .ok (.ifCond .eq 19, 3) := by decide +kernel
theorem dX9_keep_7 : decode cX9_keep 7 = .ok (.iload_n 2, 1) := by decide +kernel
theorem dX9_keep_8 : decode cX9_keep 8 = .ok (.iconst (-1), 1) := by decide +kernel
theorem dX9_keep_9 : decode cX9_keep 9 = .ok (.if_icmp .eq 16, 3) := by decide +kernel
theorem dX9_keep_12 : decode cX9_keep 12 = .ok (.aload_n 0, 1) := by decide +kernel
theorem dX9_keep_13 : decode cX9_keep 13 = .ok (.getfield 75, 3) := by decide +kernel
theorem dX9_keep_16 : decode cX9_keep 16 = .ok (.iload_n 2, 1) := by decide +kernel
theorem dX9_keep_17 : decode cX9_keep 17 = .ok (.invokevirtual 392, 3) := by decide +kernel
theorem dX9_keep_20 : decode cX9_keep 20 = .ok (.ifCond .ne 5, 3) := by decide +kernel
theorem dX9_keep_23 : decode cX9_keep 23 = .ok (.iconst (-1), 1) := by decide +kernel
theorem dX9_keep_24 : decode cX9_keep 24 = .ok (.ireturn, 1) := by decide +kernel
theorem dX9_keep_25 : decode cX9_keep 25 = .ok (.aload_n 0, 1) := by decide +kernel
theorem dX9_keep_26 : decode cX9_keep 26 = .ok (.getfield 32, 3) := by decide +kernel
theorem dX9_keep_29 : decode cX9_keep 29 = .ok (.iload_n 1, 1) := by decide +kernel
theorem dX9_keep_30 : decode cX9_keep 30 = .ok (.aaload, 1) := by decide +kernel
theorem dX9_keep_31 : decode cX9_keep 31 = .ok (.iload_n 2, 1) := by decide +kernel
theorem dX9_keep_32 : decode cX9_keep 32 = .ok (.invokevirtual 395, 3) := by decide +kernel
theorem dX9_keep_35 : decode cX9_keep 35 = .ok (.iconst 1, 1) := by decide +kernel
theorem dX9_keep_36 : decode cX9_keep 36 = .ok (.ireturn, 1) := by decide +kernel
set_option maxRecDepth 20000 in
theorem dX9_row_0 : decode cX9_row 0 = .ok (.iload_n 1, 1) := by decide +kernel
theorem dX9_row_1 : decode cX9_row 1 = .ok (.invokestatic 102, 3) := by decide +kernel
theorem dX9_row_4 : decode cX9_row 4 = .ok (.ifCond .eq 18, 3) := by decide +kernel
theorem dX9_row_7 : decode cX9_row 7 = .ok (.iload_n 2, 1) := by decide +kernel
theorem dX9_row_8 : decode cX9_row 8 = .ok (.ifCond .lt 14, 3) := by decide +kernel
theorem dX9_row_11 : decode cX9_row 11 = .ok (.iload_n 2, 1) := by decide +kernel
theorem dX9_row_12 : decode cX9_row 12 = .ok (.iconst 4, 1) := by decide +kernel
theorem dX9_row_13 : decode cX9_row 13 = .ok (.if_icmp .gt 9, 3) := by decide +kernel
theorem dX9_row_16 : decode cX9_row 16 = .ok (.iload_n 3, 1) := by decide +kernel
theorem dX9_row_17 : decode cX9_row 17 = .ok (.bipush 60, 2) := by decide +kernel
theorem dX9_row_19 : decode cX9_row 19 = .ok (.if_icmp .le 5, 3) := by decide +kernel
theorem dX9_row_22 : decode cX9_row 22 = .ok (.iconst (-1), 1) := by decide +kernel
theorem dX9_row_23 : decode cX9_row 23 = .ok (.ireturn, 1) := by decide +kernel
theorem dX9_row_24 : decode cX9_row 24 = .ok (.iload_n 3, 1) := by decide +kernel
theorem dX9_row_25 : decode cX9_row 25 = .ok (.ifCond .ge 6, 3) := by decide +kernel
theorem dX9_row_28 : decode cX9_row 28 = .ok (.bipush (-14), 2) := by decide +kernel
theorem dX9_row_30 : decode cX9_row 30 = .ok (.ireturn, 1) := by decide +kernel
theorem dX9_row_31 : decode cX9_row 31 = .ok (.aload_n 0, 1) := by decide +kernel
theorem dX9_row_32 : decode cX9_row 32 = .ok (.getfield 32, 3) := by decide +kernel
theorem dX9_row_35 : decode cX9_row 35 = .ok (.iload_n 1, 1) := by decide +kernel
theorem dX9_row_36 : decode cX9_row 36 = .ok (.aaload, 1) := by decide +kernel
theorem dX9_row_37 : decode cX9_row 37 = .ok (.iload_n 2, 1) := by decide +kernel
theorem dX9_row_38 : decode cX9_row 38 = .ok (.iload_n 3, 1) := by decide +kernel
theorem dX9_row_39 : decode cX9_row 39 = .ok (.invokevirtual 399, 3) := by decide +kernel
theorem dX9_row_42 : decode cX9_row 42 = .ok (.iconst 1, 1) := by decide +kernel
theorem dX9_row_43 : decode cX9_row 43 = .ok (.ireturn, 1) := by decide +kernel
set_option maxRecDepth 20000 in
theorem dX9_put_0 : decode cX9_put 0 = .ok (.iload_n 1, 1) := by decide +kernel
theorem dX9_put_1 : decode cX9_put 1 = .ok (.invokestatic 102, 3) := by decide +kernel
theorem dX9_put_4 : decode cX9_put 4 = .ok (.ifCond .ne 5, 3) := by decide +kernel
theorem dX9_put_7 : decode cX9_put 7 = .ok (.iconst (-1), 1) := by decide +kernel
theorem dX9_put_8 : decode cX9_put 8 = .ok (.ireturn, 1) := by decide +kernel
theorem dX9_put_9 : decode cX9_put 9 = .ok (.aload_n 0, 1) := by decide +kernel
theorem dX9_put_10 : decode cX9_put 10 = .ok (.getfield 32, 3) := by decide +kernel
theorem dX9_put_13 : decode cX9_put 13 = .ok (.iload_n 1, 1) := by decide +kernel
theorem dX9_put_14 : decode cX9_put 14 = .ok (.aaload, 1) := by decide +kernel
theorem dX9_put_15 : decode cX9_put 15 = .ok (.iload_n 2, 1) := by decide +kernel
theorem dX9_put_16 : decode cX9_put 16 = .ok (.invokevirtual 402, 3) := by decide +kernel
theorem dX9_put_19 : decode cX9_put 19 = .ok (.istore 5, 2) := by decide +kernel
theorem dX9_put_21 : decode cX9_put 21 = .ok (.iload 5, 2) := by decide +kernel
theorem dX9_put_23 : decode cX9_put 23 = .ok (.ifCond .ge 6, 3) := by decide +kernel
theorem dX9_put_26 : decode cX9_put 26 = .ok (.iload 5, 2) := by decide +kernel
theorem dX9_put_28 : decode cX9_put 28 = .ok (.ireturn, 1) := by decide +kernel
theorem dX9_put_29 : decode cX9_put 29 = .ok (.aload_n 0, 1) := by decide +kernel
theorem dX9_put_30 : decode cX9_put 30 = .ok (.getfield 32, 3) := by decide +kernel
theorem dX9_put_33 : decode cX9_put 33 = .ok (.iload_n 1, 1) := by decide +kernel
theorem dX9_put_34 : decode cX9_put 34 = .ok (.aaload, 1) := by decide +kernel
theorem dX9_put_35 : decode cX9_put 35 = .ok (.iload_n 2, 1) := by decide +kernel
theorem dX9_put_36 : decode cX9_put 36 = .ok (.lload_n 3, 1) := by decide +kernel
theorem dX9_put_37 : decode cX9_put 37 = .ok (.invokevirtual 405, 3) := by decide +kernel
theorem dX9_put_40 : decode cX9_put 40 = .ok (.iconst 1, 1) := by decide +kernel
theorem dX9_put_41 : decode cX9_put 41 = .ok (.ireturn, 1) := by decide +kernel
set_option maxRecDepth 20000 in
theorem dX9_element_0 : decode cX9_element 0 = .ok (.iload_n 1, 1) := by decide +kernel
theorem dX9_element_1 : decode cX9_element 1 = .ok (.invokestatic 102, 3) := by decide +kernel
theorem dX9_element_4 : decode cX9_element 4 = .ok (.ifCond .eq 16, 3) := by decide +kernel
theorem dX9_element_7 : decode cX9_element 7 = .ok (.aload_n 0, 1) := by decide +kernel
theorem dX9_element_8 : decode cX9_element 8 = .ok (.getfield 32, 3) := by decide +kernel
theorem dX9_element_11 : decode cX9_element 11 = .ok (.iload_n 1, 1) := by decide +kernel
theorem dX9_element_12 : decode cX9_element 12 = .ok (.aaload, 1) := by decide +kernel
theorem dX9_element_13 : decode cX9_element 13 = .ok (.iload_n 2, 1) := by decide +kernel
theorem dX9_element_14 : decode cX9_element 14 = .ok (.invokevirtual 402, 3) := by decide +kernel
theorem dX9_element_17 : decode cX9_element 17 = .ok (.ifCond .ge 7, 3) := by decide +kernel
theorem dX9_element_20 : decode cX9_element 20 = .ok (.ldc2_w 409, 3) := by decide +kernel
theorem dX9_element_23 : decode cX9_element 23 = .ok (.lreturn, 1) := by decide +kernel
theorem dX9_element_24 : decode cX9_element 24 = .ok (.aload_n 0, 1) := by decide +kernel
theorem dX9_element_25 : decode cX9_element 25 = .ok (.getfield 32, 3) := by decide +kernel
theorem dX9_element_28 : decode cX9_element 28 = .ok (.iload_n 1, 1) := by decide +kernel
theorem dX9_element_29 : decode cX9_element 29 = .ok (.aaload, 1) := by decide +kernel
theorem dX9_element_30 : decode cX9_element 30 = .ok (.iload_n 2, 1) := by decide +kernel
theorem dX9_element_31 : decode cX9_element 31 = .ok (.invokevirtual 119, 3) := by decide +kernel
theorem dX9_element_34 : decode cX9_element 34 = .ok (.lreturn, 1) := by decide +kernel
set_option maxRecDepth 20000 in
theorem dX9_shift_0 : decode cX9_shift 0 = .ok (.iload_n 1, 1) := by decide +kernel
theorem dX9_shift_1 : decode cX9_shift 1 = .ok (.invokestatic 102, 3) := by decide +kernel
theorem dX9_shift_4 : decode cX9_shift 4 = .ok (.ifCond .eq 10, 3) := by decide +kernel
theorem dX9_shift_7 : decode cX9_shift 7 = .ok (.iload_n 3, 1) := by decide +kernel
theorem dX9_shift_8 : decode cX9_shift 8 = .ok (.invokestatic 102, 3) := by decide +kernel
theorem dX9_shift_11 : decode cX9_shift 11 = .ok (.ifCond .ne 5, 3) := by decide +kernel
theorem dX9_shift_14 : decode cX9_shift 14 = .ok (.iconst (-1), 1) := by decide +kernel
theorem dX9_shift_15 : decode cX9_shift 15 = .ok (.ireturn, 1) := by decide +kernel
theorem dX9_shift_16 : decode cX9_shift 16 = .ok (.aload_n 0, 1) := by decide +kernel
theorem dX9_shift_17 : decode cX9_shift 17 = .ok (.getfield 32, 3) := by decide +kernel
theorem dX9_shift_20 : decode cX9_shift 20 = .ok (.iload_n 1, 1) := by decide +kernel
theorem dX9_shift_21 : decode cX9_shift 21 = .ok (.aaload, 1) := by decide +kernel
theorem dX9_shift_22 : decode cX9_shift 22 = .ok (.astore 6, 2) := by decide +kernel
theorem dX9_shift_24 : decode cX9_shift 24 = .ok (.aload_n 0, 1) := by decide +kernel
theorem dX9_shift_25 : decode cX9_shift 25 = .ok (.getfield 32, 3) := by decide +kernel
theorem dX9_shift_28 : decode cX9_shift 28 = .ok (.iload_n 3, 1) := by decide +kernel
theorem dX9_shift_29 : decode cX9_shift 29 = .ok (.aaload, 1) := by decide +kernel
theorem dX9_shift_30 : decode cX9_shift 30 = .ok (.astore 7, 2) := by decide +kernel
theorem dX9_shift_32 : decode cX9_shift 32 = .ok (.aload 6, 2) := by decide +kernel
theorem dX9_shift_34 : decode cX9_shift 34 = .ok (.getfield 304, 3) := by decide +kernel
theorem dX9_shift_37 : decode cX9_shift 37 = .ok (.ifCond .eq 11, 3) := by decide +kernel
theorem dX9_shift_40 : decode cX9_shift 40 = .ok (.aload 7, 2) := by decide +kernel
theorem dX9_shift_42 : decode cX9_shift 42 = .ok (.getfield 304, 3) := by decide +kernel
theorem dX9_shift_45 : decode cX9_shift 45 = .ok (.ifCond .ne 6, 3) := by decide +kernel
theorem dX9_shift_48 : decode cX9_shift 48 = .ok (.bipush (-11), 2) := by decide +kernel
theorem dX9_shift_50 : decode cX9_shift 50 = .ok (.ireturn, 1) := by decide +kernel
theorem dX9_shift_51 : decode cX9_shift 51 = .ok (.aload 6, 2) := by decide +kernel
theorem dX9_shift_53 : decode cX9_shift 53 = .ok (.getfield 304, 3) := by decide +kernel
theorem dX9_shift_56 : decode cX9_shift 56 = .ok (.iconst 2, 1) := by decide +kernel
theorem dX9_shift_57 : decode cX9_shift 57 = .ok (.if_icmp .ne 25, 3) := by decide +kernel
theorem dX9_shift_60 : decode cX9_shift 60 = .ok (.aload 7, 2) := by decide +kernel
theorem dX9_shift_62 : decode cX9_shift 62 = .ok (.getfield 304, 3) := by decide +kernel
theorem dX9_shift_65 : decode cX9_shift 65 = .ok (.iconst 2, 1) := by decide +kernel
theorem dX9_shift_66 : decode cX9_shift 66 = .ok (.if_icmp .ne 16, 3) := by decide +kernel
theorem dX9_shift_69 : decode cX9_shift 69 = .ok (.aload 6, 2) := by decide +kernel
theorem dX9_shift_71 : decode cX9_shift 71 = .ok (.getfield 411, 3) := by decide +kernel
theorem dX9_shift_74 : decode cX9_shift 74 = .ok (.aload 7, 2) := by decide +kernel
theorem dX9_shift_76 : decode cX9_shift 76 = .ok (.getfield 411, 3) := by decide +kernel
theorem dX9_shift_79 : decode cX9_shift 79 = .ok (.if_icmp .eq 6, 3) := by decide +kernel
theorem dX9_shift_82 : decode cX9_shift 82 = .ok (.bipush (-12), 2) := by decide +kernel
theorem dX9_shift_84 : decode cX9_shift 84 = .ok (.ireturn, 1) := by decide +kernel
theorem dX9_shift_85 : decode cX9_shift 85 = .ok (.aload 6, 2) := by decide +kernel
theorem dX9_shift_87 : decode cX9_shift 87 = .ok (.iload_n 2, 1) := by decide +kernel
theorem dX9_shift_88 : decode cX9_shift 88 = .ok (.iload 5, 2) := by decide +kernel
theorem dX9_shift_90 : decode cX9_shift 90 = .ok (.invokevirtual 414, 3) := by decide +kernel
theorem dX9_shift_93 : decode cX9_shift 93 = .ok (.ifCond .eq 15, 3) := by decide +kernel
theorem dX9_shift_96 : decode cX9_shift 96 = .ok (.aload 7, 2) := by decide +kernel
theorem dX9_shift_98 : decode cX9_shift 98 = .ok (.iload 4, 2) := by decide +kernel
theorem dX9_shift_100 : decode cX9_shift 100 = .ok (.iload 5, 2) := by decide +kernel
theorem dX9_shift_102 : decode cX9_shift 102 = .ok (.invokevirtual 414, 3) := by decide +kernel
theorem dX9_shift_105 : decode cX9_shift 105 = .ok (.ifCond .ne 6, 3) := by decide +kernel
theorem dX9_shift_108 : decode cX9_shift 108 = .ok (.bipush (-13), 2) := by decide +kernel
theorem dX9_shift_110 : decode cX9_shift 110 = .ok (.ireturn, 1) := by decide +kernel
theorem dX9_shift_111 : decode cX9_shift 111 = .ok (.aload 6, 2) := by decide +kernel
theorem dX9_shift_113 : decode cX9_shift 113 = .ok (.getfield 417, 3) := by decide +kernel
theorem dX9_shift_116 : decode cX9_shift 116 = .ok (.iload_n 2, 1) := by decide +kernel
theorem dX9_shift_117 : decode cX9_shift 117 = .ok (.aload 7, 2) := by decide +kernel
theorem dX9_shift_119 : decode cX9_shift 119 = .ok (.getfield 417, 3) := by decide +kernel
theorem dX9_shift_122 : decode cX9_shift 122 = .ok (.iload 4, 2) := by decide +kernel
theorem dX9_shift_124 : decode cX9_shift 124 = .ok (.iload 5, 2) := by decide +kernel
theorem dX9_shift_126 : decode cX9_shift 126 = .ok (.invokestatic 421, 3) := by decide +kernel
theorem dX9_shift_129 : decode cX9_shift 129 = .ok (.iload 5, 2) := by decide +kernel
theorem dX9_shift_131 : decode cX9_shift 131 = .ok (.ireturn, 1) := by decide +kernel
set_option maxRecDepth 20000 in
theorem dX9_taken_0 : decode cX9_taken 0 = .ok (.iload_n 1, 1) := by decide +kernel
theorem dX9_taken_1 : decode cX9_taken 1 = .ok (.invokestatic 102, 3) := by decide +kernel
theorem dX9_taken_4 : decode cX9_taken 4 = .ok (.ifCond .eq 10, 3) := by decide +kernel
theorem dX9_taken_7 : decode cX9_taken 7 = .ok (.iload_n 2, 1) := by decide +kernel
theorem dX9_taken_8 : decode cX9_taken 8 = .ok (.invokestatic 378, 3) := by decide +kernel
theorem dX9_taken_11 : decode cX9_taken 11 = .ok (.ifCond .ne 5, 3) := by decide +kernel
theorem dX9_taken_14 : decode cX9_taken 14 = .ok (.iconst (-1), 1) := by decide +kernel
theorem dX9_taken_15 : decode cX9_taken 15 = .ok (.ireturn, 1) := by decide +kernel
theorem dX9_taken_16 : decode cX9_taken 16 = .ok (.aload_n 0, 1) := by decide +kernel
theorem dX9_taken_17 : decode cX9_taken 17 = .ok (.getfield 32, 3) := by decide +kernel
theorem dX9_taken_20 : decode cX9_taken 20 = .ok (.iload_n 1, 1) := by decide +kernel
theorem dX9_taken_21 : decode cX9_taken 21 = .ok (.aaload, 1) := by decide +kernel
theorem dX9_taken_22 : decode cX9_taken 22 = .ok (.astore_n 3, 1) := by decide +kernel
theorem dX9_taken_23 : decode cX9_taken 23 = .ok (.aload_n 3, 1) := by decide +kernel
theorem dX9_taken_24 : decode cX9_taken 24 = .ok (.getfield 304, 3) := by decide +kernel
theorem dX9_taken_27 : decode cX9_taken 27 = .ok (.ifCond .ne 6, 3) := by decide +kernel
theorem dX9_taken_30 : decode cX9_taken 30 = .ok (.bipush (-11), 2) := by decide +kernel
theorem dX9_taken_32 : decode cX9_taken 32 = .ok (.ireturn, 1) := by decide +kernel
theorem dX9_taken_33 : decode cX9_taken 33 = .ok (.aload_n 3, 1) := by decide +kernel
theorem dX9_taken_34 : decode cX9_taken 34 = .ok (.getfield 304, 3) := by decide +kernel
theorem dX9_taken_37 : decode cX9_taken 37 = .ok (.iconst 1, 1) := by decide +kernel
theorem dX9_taken_38 : decode cX9_taken 38 = .ok (.if_icmp .ne 17, 3) := by decide +kernel
theorem dX9_taken_41 : decode cX9_taken 41 = .ok (.aload_n 0, 1) := by decide +kernel
theorem dX9_taken_42 : decode cX9_taken 42 = .ok (.getfield 75, 3) := by decide +kernel
theorem dX9_taken_45 : decode cX9_taken 45 = .ok (.aload_n 3, 1) := by decide +kernel
theorem dX9_taken_46 : decode cX9_taken 46 = .ok (.getfield 427, 3) := by decide +kernel
theorem dX9_taken_49 : decode cX9_taken 49 = .ok (.invokevirtual 430, 3) := by decide +kernel
theorem dX9_taken_52 : decode cX9_taken 52 = .ok (.goto 4, 3) := by decide +kernel
theorem dX9_taken_55 : decode cX9_taken 55 = .ok (.iconst (-1), 1) := by decide +kernel
theorem dX9_taken_56 : decode cX9_taken 56 = .ok (.istore 4, 2) := by decide +kernel
theorem dX9_taken_58 : decode cX9_taken 58 = .ok (.iload 4, 2) := by decide +kernel
theorem dX9_taken_60 : decode cX9_taken 60 = .ok (.iload_n 2, 1) := by decide +kernel
theorem dX9_taken_61 : decode cX9_taken 61 = .ok (.invokestatic 433, 3) := by decide +kernel
theorem dX9_taken_64 : decode cX9_taken 64 = .ok (.ifCond .eq 8, 3) := by decide +kernel
theorem dX9_taken_67 : decode cX9_taken 67 = .ok (.iload 4, 2) := by decide +kernel
theorem dX9_taken_69 : decode cX9_taken 69 = .ok (.goto 5, 3) := by decide +kernel
theorem dX9_taken_72 : decode cX9_taken 72 = .ok (.bipush (-12), 2) := by decide +kernel
theorem dX9_taken_74 : decode cX9_taken 74 = .ok (.ireturn, 1) := by decide +kernel
theorem dX9_count_0 : decode cX9_count 0 = .ok (.iload_n 1, 1) := by decide +kernel
theorem dX9_count_1 : decode cX9_count 1 = .ok (.tableswitch 75 0 4 #[35, 43, 51, 59, 67], 35) := by decide +kernel
theorem dX9_count_36 : decode cX9_count 36 = .ok (.aload_n 0, 1) := by decide +kernel
theorem dX9_count_37 : decode cX9_count 37 = .ok (.getfield 10, 3) := by decide +kernel
theorem dX9_count_40 : decode cX9_count 40 = .ok (.getfield 94, 3) := by decide +kernel
theorem dX9_count_43 : decode cX9_count 43 = .ok (.ireturn, 1) := by decide +kernel
theorem dX9_count_44 : decode cX9_count 44 = .ok (.aload_n 0, 1) := by decide +kernel
theorem dX9_count_45 : decode cX9_count 45 = .ok (.getfield 26, 3) := by decide +kernel
theorem dX9_count_48 : decode cX9_count 48 = .ok (.getfield 143, 3) := by decide +kernel
theorem dX9_count_51 : decode cX9_count 51 = .ok (.ireturn, 1) := by decide +kernel
theorem dX9_count_52 : decode cX9_count 52 = .ok (.aload_n 0, 1) := by decide +kernel
theorem dX9_count_53 : decode cX9_count 53 = .ok (.getfield 19, 3) := by decide +kernel
theorem dX9_count_56 : decode cX9_count 56 = .ok (.getfield 371, 3) := by decide +kernel
theorem dX9_count_59 : decode cX9_count 59 = .ok (.ireturn, 1) := by decide +kernel
theorem dX9_count_60 : decode cX9_count 60 = .ok (.aload_n 0, 1) := by decide +kernel
theorem dX9_count_61 : decode cX9_count 61 = .ok (.getfield 75, 3) := by decide +kernel
theorem dX9_count_64 : decode cX9_count 64 = .ok (.getfield 436, 3) := by decide +kernel
theorem dX9_count_67 : decode cX9_count 67 = .ok (.ireturn, 1) := by decide +kernel
theorem dX9_count_68 : decode cX9_count 68 = .ok (.aload_n 0, 1) := by decide +kernel
theorem dX9_count_69 : decode cX9_count 69 = .ok (.getfield 75, 3) := by decide +kernel
theorem dX9_count_72 : decode cX9_count 72 = .ok (.getfield 437, 3) := by decide +kernel
theorem dX9_count_75 : decode cX9_count 75 = .ok (.ireturn, 1) := by decide +kernel
theorem dX9_count_76 : decode cX9_count 76 = .ok (.iconst (-1), 1) := by decide +kernel
theorem dX9_count_77 : decode cX9_count 77 = .ok (.ireturn, 1) := by decide +kernel
theorem dX9_isShelf_0 : decode cX9_isShelf 0 = .ok (.iload_n 0, 1) := by decide +kernel
theorem dX9_isShelf_1 : decode cX9_isShelf 1 = .ok (.ifCond .lt 13, 3) := by decide +kernel
theorem dX9_isShelf_4 : decode cX9_isShelf 4 = .ok (.iload_n 0, 1) := by decide +kernel
theorem dX9_isShelf_5 : decode cX9_isShelf 5 = .ok (.bipush 6, 2) := by decide +kernel
theorem dX9_isShelf_7 : decode cX9_isShelf 7 = .ok (.if_icmp .ge 7, 3) := by decide +kernel
theorem dX9_isShelf_10 : decode cX9_isShelf 10 = .ok (.iconst 1, 1) := by decide +kernel
theorem dX9_isShelf_11 : decode cX9_isShelf 11 = .ok (.goto 4, 3) := by decide +kernel
theorem dX9_isShelf_14 : decode cX9_isShelf 14 = .ok (.iconst 0, 1) := by decide +kernel
theorem dX9_isShelf_15 : decode cX9_isShelf 15 = .ok (.ireturn, 1) := by decide +kernel
theorem dX9_isEither_0 : decode cX9_isEither 0 = .ok (.iload_n 0, 1) := by decide +kernel
theorem dX9_isEither_1 : decode cX9_isEither 1 = .ok (.ifCond .eq 8, 3) := by decide +kernel
theorem dX9_isEither_4 : decode cX9_isEither 4 = .ok (.iload_n 0, 1) := by decide +kernel
theorem dX9_isEither_5 : decode cX9_isEither 5 = .ok (.iconst 1, 1) := by decide +kernel
theorem dX9_isEither_6 : decode cX9_isEither 6 = .ok (.if_icmp .ne 7, 3) := by decide +kernel
theorem dX9_isEither_9 : decode cX9_isEither 9 = .ok (.iconst 1, 1) := by decide +kernel
theorem dX9_isEither_10 : decode cX9_isEither 10 = .ok (.goto 4, 3) := by decide +kernel
theorem dX9_isEither_13 : decode cX9_isEither 13 = .ok (.iconst 0, 1) := by decide +kernel
theorem dX9_isEither_14 : decode cX9_isEither 14 = .ok (.ireturn, 1) := by decide +kernel
theorem dX9_isMinute_0 : decode cX9_isMinute 0 = .ok (.iload_n 0, 1) := by decide +kernel
theorem dX9_isMinute_1 : decode cX9_isMinute 1 = .ok (.ifCond .lt 14, 3) := by decide +kernel
theorem dX9_isMinute_4 : decode cX9_isMinute 4 = .ok (.iload_n 0, 1) := by decide +kernel
theorem dX9_isMinute_5 : decode cX9_isMinute 5 = .ok (.sipush 999, 3) := by decide +kernel
theorem dX9_isMinute_8 : decode cX9_isMinute 8 = .ok (.if_icmp .gt 7, 3) := by decide +kernel
theorem dX9_isMinute_11 : decode cX9_isMinute 11 = .ok (.iconst 1, 1) := by decide +kernel
theorem dX9_isMinute_12 : decode cX9_isMinute 12 = .ok (.goto 4, 3) := by decide +kernel
theorem dX9_isMinute_15 : decode cX9_isMinute 15 = .ok (.iconst 0, 1) := by decide +kernel
theorem dX9_isMinute_16 : decode cX9_isMinute 16 = .ok (.ireturn, 1) := by decide +kernel
theorem dX9_isNeed_0 : decode cX9_isNeed 0 = .ok (.iload_n 0, 1) := by decide +kernel
theorem dX9_isNeed_1 : decode cX9_isNeed 1 = .ok (.iconst 1, 1) := by decide +kernel
theorem dX9_isNeed_2 : decode cX9_isNeed 2 = .ok (.if_icmp .lt 13, 3) := by decide +kernel
theorem dX9_isNeed_5 : decode cX9_isNeed 5 = .ok (.iload_n 0, 1) := by decide +kernel
theorem dX9_isNeed_6 : decode cX9_isNeed 6 = .ok (.bipush 99, 2) := by decide +kernel
theorem dX9_isNeed_8 : decode cX9_isNeed 8 = .ok (.if_icmp .gt 7, 3) := by decide +kernel
theorem dX9_isNeed_11 : decode cX9_isNeed 11 = .ok (.iconst 1, 1) := by decide +kernel
theorem dX9_isNeed_12 : decode cX9_isNeed 12 = .ok (.goto 4, 3) := by decide +kernel
theorem dX9_isNeed_15 : decode cX9_isNeed 15 = .ok (.iconst 0, 1) := by decide +kernel
theorem dX9_isNeed_16 : decode cX9_isNeed 16 = .ok (.ireturn, 1) := by decide +kernel
set_option maxRecDepth 20000 in
theorem dX9_isOddsAndNeed_0 : decode cX9_isOddsAndNeed 0 = .ok (.iload_n 0, 1) := by decide +kernel
theorem dX9_isOddsAndNeed_1 : decode cX9_isOddsAndNeed 1 = .ok (.ifCond .lt 26, 3) := by decide +kernel
theorem dX9_isOddsAndNeed_4 : decode cX9_isOddsAndNeed 4 = .ok (.iload_n 0, 1) := by decide +kernel
theorem dX9_isOddsAndNeed_5 : decode cX9_isOddsAndNeed 5 = .ok (.bipush 100, 2) := by decide +kernel
theorem dX9_isOddsAndNeed_7 : decode cX9_isOddsAndNeed 7 = .ok (.idiv, 1) := by decide +kernel
theorem dX9_isOddsAndNeed_8 : decode cX9_isOddsAndNeed 8 = .ok (.bipush 12, 2) := by decide +kernel
theorem dX9_isOddsAndNeed_10 : decode cX9_isOddsAndNeed 10 = .ok (.if_icmp .gt 17, 3) := by decide +kernel
theorem dX9_isOddsAndNeed_13 : decode cX9_isOddsAndNeed 13 = .ok (.iload_n 0, 1) := by decide +kernel
theorem dX9_isOddsAndNeed_14 : decode cX9_isOddsAndNeed 14 = .ok (.bipush 100, 2) := by decide +kernel
theorem dX9_isOddsAndNeed_16 : decode cX9_isOddsAndNeed 16 = .ok (.irem, 1) := by decide +kernel
theorem dX9_isOddsAndNeed_17 : decode cX9_isOddsAndNeed 17 = .ok (.invokestatic 234, 3) := by decide +kernel
theorem dX9_isOddsAndNeed_20 : decode cX9_isOddsAndNeed 20 = .ok (.ifCond .eq 7, 3) := by decide +kernel
theorem dX9_isOddsAndNeed_23 : decode cX9_isOddsAndNeed 23 = .ok (.iconst 1, 1) := by decide +kernel
theorem dX9_isOddsAndNeed_24 : decode cX9_isOddsAndNeed 24 = .ok (.goto 4, 3) := by decide +kernel
theorem dX9_isOddsAndNeed_27 : decode cX9_isOddsAndNeed 27 = .ok (.iconst 0, 1) := by decide +kernel
theorem dX9_isOddsAndNeed_28 : decode cX9_isOddsAndNeed 28 = .ok (.ireturn, 1) := by decide +kernel
set_option maxRecDepth 20000 in
theorem dX9_layForth_0 : decode cX9_layForth 0 = .ok (.aload_n 0, 1) := by decide +kernel
theorem dX9_layForth_1 : decode cX9_layForth 1 = .ok (.getfield 32, 3) := by decide +kernel
theorem dX9_layForth_4 : decode cX9_layForth 4 = .ok (.iload_n 1, 1) := by decide +kernel
theorem dX9_layForth_5 : decode cX9_layForth 5 = .ok (.aaload, 1) := by decide +kernel
theorem dX9_layForth_6 : decode cX9_layForth 6 = .ok (.iconst 0, 1) := by decide +kernel
theorem dX9_layForth_7 : decode cX9_layForth 7 = .ok (.invokevirtual 106, 3) := by decide +kernel
theorem dX9_layForth_10 : decode cX9_layForth 10 = .ok (.istore_n 2, 1) := by decide +kernel
theorem dX9_layForth_11 : decode cX9_layForth 11 = .ok (.iload_n 2, 1) := by decide +kernel
theorem dX9_layForth_12 : decode cX9_layForth 12 = .ok (.ifCond .ne 16, 3) := by decide +kernel
theorem dX9_layForth_15 : decode cX9_layForth 15 = .ok (.aload_n 0, 1) := by decide +kernel
theorem dX9_layForth_16 : decode cX9_layForth 16 = .ok (.getfield 41, 3) := by decide +kernel
theorem dX9_layForth_19 : decode cX9_layForth 19 = .ok (.aload_n 0, 1) := by decide +kernel
theorem dX9_layForth_20 : decode cX9_layForth 20 = .ok (.getfield 32, 3) := by decide +kernel
theorem dX9_layForth_23 : decode cX9_layForth 23 = .ok (.iload_n 1, 1) := by decide +kernel
theorem dX9_layForth_24 : decode cX9_layForth 24 = .ok (.aaload, 1) := by decide +kernel
theorem dX9_layForth_25 : decode cX9_layForth 25 = .ok (.invokevirtual 440, 3) := by decide +kernel
theorem dX9_layForth_28 : decode cX9_layForth 28 = .ok (.iload_n 2, 1) := by decide +kernel
theorem dX9_layForth_29 : decode cX9_layForth 29 = .ok (.ireturn, 1) := by decide +kernel
set_option maxRecDepth 20000 in
theorem dX9_layBoth_0 : decode cX9_layBoth 0 = .ok (.aload_n 0, 1) := by decide +kernel
theorem dX9_layBoth_1 : decode cX9_layBoth 1 = .ok (.iload_n 1, 1) := by decide +kernel
theorem dX9_layBoth_2 : decode cX9_layBoth 2 = .ok (.invokevirtual 153, 3) := by decide +kernel
theorem dX9_layBoth_5 : decode cX9_layBoth 5 = .ok (.istore_n 2, 1) := by decide +kernel
theorem dX9_layBoth_6 : decode cX9_layBoth 6 = .ok (.iload_n 2, 1) := by decide +kernel
theorem dX9_layBoth_7 : decode cX9_layBoth 7 = .ok (.ifCond .ne 14, 3) := by decide +kernel
theorem dX9_layBoth_10 : decode cX9_layBoth 10 = .ok (.aload_n 0, 1) := by decide +kernel
theorem dX9_layBoth_11 : decode cX9_layBoth 11 = .ok (.getfield 45, 3) := by decide +kernel
theorem dX9_layBoth_14 : decode cX9_layBoth 14 = .ok (.aload_n 0, 1) := by decide +kernel
theorem dX9_layBoth_15 : decode cX9_layBoth 15 = .ok (.getfield 41, 3) := by decide +kernel
theorem dX9_layBoth_18 : decode cX9_layBoth 18 = .ok (.invokevirtual 444, 3) := by decide +kernel
theorem dX9_layBoth_21 : decode cX9_layBoth 21 = .ok (.iload_n 2, 1) := by decide +kernel
theorem dX9_layBoth_22 : decode cX9_layBoth 22 = .ok (.ireturn, 1) := by decide +kernel
theorem dX10_init_0 : decode cX10_init 0 = .ok (.aload_n 0, 1) := by decide +kernel
theorem dX10_init_1 : decode cX10_init 1 = .ok (.invokespecial 3, 3) := by decide +kernel
theorem dX10_init_4 : decode cX10_init 4 = .ok (.aload_n 0, 1) := by decide +kernel
theorem dX10_init_5 : decode cX10_init 5 = .ok (.bipush 9, 2) := by decide +kernel
theorem dX10_init_7 : decode cX10_init 7 = .ok (.newarray .int, 2) := by decide +kernel
theorem dX10_init_9 : decode cX10_init 9 = .ok (.putfield 9, 3) := by decide +kernel
theorem dX10_init_12 : decode cX10_init 12 = .ok (.aload_n 0, 1) := by decide +kernel
theorem dX10_init_13 : decode cX10_init 13 = .ok (.bipush 9, 2) := by decide +kernel
theorem dX10_init_15 : decode cX10_init 15 = .ok (.newarray .int, 2) := by decide +kernel
theorem dX10_init_17 : decode cX10_init 17 = .ok (.putfield 15, 3) := by decide +kernel
theorem dX10_init_20 : decode cX10_init 20 = .ok (.aload_n 0, 1) := by decide +kernel
theorem dX10_init_21 : decode cX10_init 21 = .ok (.bipush 9, 2) := by decide +kernel
theorem dX10_init_23 : decode cX10_init 23 = .ok (.newarray .int, 2) := by decide +kernel
theorem dX10_init_25 : decode cX10_init 25 = .ok (.putfield 18, 3) := by decide +kernel
theorem dX10_init_28 : decode cX10_init 28 = .ok (.aload_n 0, 1) := by decide +kernel
theorem dX10_init_29 : decode cX10_init 29 = .ok (.bipush 9, 2) := by decide +kernel
theorem dX10_init_31 : decode cX10_init 31 = .ok (.newarray .int, 2) := by decide +kernel
theorem dX10_init_33 : decode cX10_init 33 = .ok (.putfield 21, 3) := by decide +kernel
theorem dX10_init_36 : decode cX10_init 36 = .ok (.aload_n 0, 1) := by decide +kernel
theorem dX10_init_37 : decode cX10_init 37 = .ok (.iconst 4, 1) := by decide +kernel
theorem dX10_init_38 : decode cX10_init 38 = .ok (.newarray .int, 2) := by decide +kernel
theorem dX10_init_40 : decode cX10_init 40 = .ok (.putfield 24, 3) := by decide +kernel
theorem dX10_init_43 : decode cX10_init 43 = .ok (.aload_n 0, 1) := by decide +kernel
theorem dX10_init_44 : decode cX10_init 44 = .ok (.bipush 120, 2) := by decide +kernel
theorem dX10_init_46 : decode cX10_init 46 = .ok (.newarray .int, 2) := by decide +kernel
theorem dX10_init_48 : decode cX10_init 48 = .ok (.putfield 27, 3) := by decide +kernel
theorem dX10_init_51 : decode cX10_init 51 = .ok (.aload_n 0, 1) := by decide +kernel
theorem dX10_init_52 : decode cX10_init 52 = .ok (.bipush 60, 2) := by decide +kernel
theorem dX10_init_54 : decode cX10_init 54 = .ok (.newarray .int, 2) := by decide +kernel
theorem dX10_init_56 : decode cX10_init 56 = .ok (.putfield 30, 3) := by decide +kernel
theorem dX10_init_59 : decode cX10_init 59 = .ok (.aload_n 0, 1) := by decide +kernel
theorem dX10_init_60 : decode cX10_init 60 = .ok (.bipush 60, 2) := by decide +kernel
theorem dX10_init_62 : decode cX10_init 62 = .ok (.newarray .int, 2) := by decide +kernel
theorem dX10_init_64 : decode cX10_init 64 = .ok (.putfield 33, 3) := by decide +kernel
theorem dX10_init_67 : decode cX10_init 67 = .ok (.aload_n 0, 1) := by decide +kernel
theorem dX10_init_68 : decode cX10_init 68 = .ok (.bipush 60, 2) := by decide +kernel
theorem dX10_init_70 : decode cX10_init 70 = .ok (.newarray .int, 2) := by decide +kernel
theorem dX10_init_72 : decode cX10_init 72 = .ok (.putfield 36, 3) := by decide +kernel
theorem dX10_init_75 : decode cX10_init 75 = .ok (.aload_n 0, 1) := by decide +kernel
theorem dX10_init_76 : decode cX10_init 76 = .ok (.sipush 200, 3) := by decide +kernel
theorem dX10_init_79 : decode cX10_init 79 = .ok (.newarray .int, 2) := by decide +kernel
theorem dX10_init_81 : decode cX10_init 81 = .ok (.putfield 39, 3) := by decide +kernel
theorem dX10_init_84 : decode cX10_init 84 = .ok (.aload_n 0, 1) := by decide +kernel
theorem dX10_init_85 : decode cX10_init 85 = .ok (.bipush 61, 2) := by decide +kernel
theorem dX10_init_87 : decode cX10_init 87 = .ok (.newarray .int, 2) := by decide +kernel
theorem dX10_init_89 : decode cX10_init 89 = .ok (.putfield 42, 3) := by decide +kernel
theorem dX10_init_92 : decode cX10_init 92 = .ok (.aload_n 0, 1) := by decide +kernel
theorem dX10_init_93 : decode cX10_init 93 = .ok (.bipush 61, 2) := by decide +kernel
theorem dX10_init_95 : decode cX10_init 95 = .ok (.newarray .int, 2) := by decide +kernel
theorem dX10_init_97 : decode cX10_init 97 = .ok (.putfield 45, 3) := by decide +kernel
theorem dX10_init_100 : decode cX10_init 100 = .ok (.aload_n 0, 1) := by decide +kernel
theorem dX10_init_101 : decode cX10_init 101 = .ok (.bipush 61, 2) := by decide +kernel
theorem dX10_init_103 : decode cX10_init 103 = .ok (.newarray .int, 2) := by decide +kernel
theorem dX10_init_105 : decode cX10_init 105 = .ok (.putfield 48, 3) := by decide +kernel
theorem dX10_init_108 : decode cX10_init 108 = .ok (.aload_n 0, 1) := by decide +kernel
theorem dX10_init_109 : decode cX10_init 109 = .ok (.sipush 200, 3) := by decide +kernel
theorem dX10_init_112 : decode cX10_init 112 = .ok (.newarray .int, 2) := by decide +kernel
theorem dX10_init_114 : decode cX10_init 114 = .ok (.putfield 51, 3) := by decide +kernel
theorem dX10_init_117 : decode cX10_init 117 = .ok (.aload_n 0, 1) := by decide +kernel
theorem dX10_init_118 : decode cX10_init 118 = .ok (.sipush 200, 3) := by decide +kernel
theorem dX10_init_121 : decode cX10_init 121 = .ok (.newarray .int, 2) := by decide +kernel
theorem dX10_init_123 : decode cX10_init 123 = .ok (.putfield 54, 3) := by decide +kernel
theorem dX10_init_126 : decode cX10_init 126 = .ok (.aload_n 0, 1) := by decide +kernel
theorem dX10_init_127 : decode cX10_init 127 = .ok (.bipush 6, 2) := by decide +kernel
theorem dX10_init_129 : decode cX10_init 129 = .ok (.newarray .int, 2) := by decide +kernel
theorem dX10_init_131 : decode cX10_init 131 = .ok (.putfield 57, 3) := by decide +kernel
theorem dX10_init_134 : decode cX10_init 134 = .ok (.aload_n 0, 1) := by decide +kernel
theorem dX10_init_135 : decode cX10_init 135 = .ok (.bipush 9, 2) := by decide +kernel
theorem dX10_init_137 : decode cX10_init 137 = .ok (.newarray .int, 2) := by decide +kernel
theorem dX10_init_139 : decode cX10_init 139 = .ok (.putfield 60, 3) := by decide +kernel
theorem dX10_init_142 : decode cX10_init 142 = .ok (.aload_n 0, 1) := by decide +kernel
theorem dX10_init_143 : decode cX10_init 143 = .ok (.iconst 4, 1) := by decide +kernel
theorem dX10_init_144 : decode cX10_init 144 = .ok (.newarray .int, 2) := by decide +kernel
theorem dX10_init_146 : decode cX10_init 146 = .ok (.putfield 63, 3) := by decide +kernel
theorem dX10_init_149 : decode cX10_init 149 = .ok (.aload_n 0, 1) := by decide +kernel
theorem dX10_init_150 : decode cX10_init 150 = .ok (.bipush 9, 2) := by decide +kernel
theorem dX10_init_152 : decode cX10_init 152 = .ok (.newarray .int, 2) := by decide +kernel
theorem dX10_init_154 : decode cX10_init 154 = .ok (.putfield 66, 3) := by decide +kernel
theorem dX10_init_157 : decode cX10_init 157 = .ok (.aload_n 0, 1) := by decide +kernel
theorem dX10_init_158 : decode cX10_init 158 = .ok (.iconst 4, 1) := by decide +kernel
theorem dX10_init_159 : decode cX10_init 159 = .ok (.newarray .int, 2) := by decide +kernel
theorem dX10_init_161 : decode cX10_init 161 = .ok (.putfield 69, 3) := by decide +kernel
theorem dX10_init_164 : decode cX10_init 164 = .ok (.aload_n 0, 1) := by decide +kernel
theorem dX10_init_165 : decode cX10_init 165 = .ok (.sipush 160, 3) := by decide +kernel
theorem dX10_init_168 : decode cX10_init 168 = .ok (.newarray .int, 2) := by decide +kernel
theorem dX10_init_170 : decode cX10_init 170 = .ok (.putfield 72, 3) := by decide +kernel
theorem dX10_init_173 : decode cX10_init 173 = .ok (.aload_n 0, 1) := by decide +kernel
theorem dX10_init_174 : decode cX10_init 174 = .ok (.bipush 50, 2) := by decide +kernel
theorem dX10_init_176 : decode cX10_init 176 = .ok (.newarray .int, 2) := by decide +kernel
theorem dX10_init_178 : decode cX10_init 178 = .ok (.putfield 75, 3) := by decide +kernel
theorem dX10_init_181 : decode cX10_init 181 = .ok (.aload_n 0, 1) := by decide +kernel
theorem dX10_init_182 : decode cX10_init 182 = .ok (.bipush 24, 2) := by decide +kernel
theorem dX10_init_184 : decode cX10_init 184 = .ok (.newarray .int, 2) := by decide +kernel
theorem dX10_init_186 : decode cX10_init 186 = .ok (.putfield 78, 3) := by decide +kernel
theorem dX10_init_189 : decode cX10_init 189 = .ok (.aload_n 0, 1) := by decide +kernel
theorem dX10_init_190 : decode cX10_init 190 = .ok (.bipush 6, 2) := by decide +kernel
theorem dX10_init_192 : decode cX10_init 192 = .ok (.newarray .int, 2) := by decide +kernel
theorem dX10_init_194 : decode cX10_init 194 = .ok (.putfield 81, 3) := by decide +kernel
theorem dX10_init_197 : decode cX10_init 197 = .ok (.aload_n 0, 1) := by decide +kernel
theorem dX10_init_198 : decode cX10_init 198 = .ok (.bipush 6, 2) := by decide +kernel
theorem dX10_init_200 : decode cX10_init 200 = .ok (.newarray .int, 2) := by decide +kernel
theorem dX10_init_202 : decode cX10_init 202 = .ok (.putfield 84, 3) := by decide +kernel
theorem dX10_init_205 : decode cX10_init 205 = .ok (.aload_n 0, 1) := by decide +kernel
theorem dX10_init_206 : decode cX10_init 206 = .ok (.sipush 360, 3) := by decide +kernel
theorem dX10_init_209 : decode cX10_init 209 = .ok (.newarray .long, 2) := by decide +kernel
theorem dX10_init_211 : decode cX10_init 211 = .ok (.putfield 87, 3) := by decide +kernel
theorem dX10_init_214 : decode cX10_init 214 = .ok (.aload_n 0, 1) := by decide +kernel
theorem dX10_init_215 : decode cX10_init 215 = .ok (.bipush 20, 2) := by decide +kernel
theorem dX10_init_217 : decode cX10_init 217 = .ok (.newarray .int, 2) := by decide +kernel
theorem dX10_init_219 : decode cX10_init 219 = .ok (.putfield 91, 3) := by decide +kernel
theorem dX10_init_222 : decode cX10_init 222 = .ok (.aload_n 0, 1) := by decide +kernel
theorem dX10_init_223 : decode cX10_init 223 = .ok (.sipush 4000, 3) := by decide +kernel
theorem dX10_init_226 : decode cX10_init 226 = .ok (.newarray .int, 2) := by decide +kernel
theorem dX10_init_228 : decode cX10_init 228 = .ok (.putfield 94, 3) := by decide +kernel
theorem dX10_init_231 : decode cX10_init 231 = .ok (.aload_n 0, 1) := by decide +kernel
theorem dX10_init_232 : decode cX10_init 232 = .ok (.sipush 4000, 3) := by decide +kernel
theorem dX10_init_235 : decode cX10_init 235 = .ok (.newarray .int, 2) := by decide +kernel
theorem dX10_init_237 : decode cX10_init 237 = .ok (.putfield 97, 3) := by decide +kernel
theorem dX10_init_240 : decode cX10_init 240 = .ok (.aload_n 0, 1) := by decide +kernel
theorem dX10_init_241 : decode cX10_init 241 = .ok (.sipush 18000, 3) := by decide +kernel
theorem dX10_init_244 : decode cX10_init 244 = .ok (.newarray .int, 2) := by decide +kernel
theorem dX10_init_246 : decode cX10_init 246 = .ok (.putfield 100, 3) := by decide +kernel
theorem dX10_init_249 : decode cX10_init 249 = .ok (.aload_n 0, 1) := by decide +kernel
theorem dX10_init_250 : decode cX10_init 250 = .ok (.sipush 4000, 3) := by decide +kernel
theorem dX10_init_253 : decode cX10_init 253 = .ok (.newarray .boolean, 2) := by decide +kernel
theorem dX10_init_255 : decode cX10_init 255 = .ok (.putfield 103, 3) := by decide +kernel
theorem dX10_init_258 : decode cX10_init 258 = .ok (.aload_n 0, 1) := by decide +kernel
theorem dX10_init_259 : decode cX10_init 259 = .ok (.sipush 1000, 3) := by decide +kernel
theorem dX10_init_262 : decode cX10_init 262 = .ok (.newarray .int, 2) := by decide +kernel
theorem dX10_init_264 : decode cX10_init 264 = .ok (.putfield 107, 3) := by decide +kernel
theorem dX10_init_267 : decode cX10_init 267 = .ok (.aload_n 0, 1) := by decide +kernel
theorem dX10_init_268 : decode cX10_init 268 = .ok (.bipush 9, 2) := by decide +kernel
theorem dX10_init_270 : decode cX10_init 270 = .ok (.newarray .int, 2) := by decide +kernel
theorem dX10_init_272 : decode cX10_init 272 = .ok (.putfield 110, 3) := by decide +kernel
theorem dX10_init_275 : decode cX10_init 275 = .ok (.aload_n 0, 1) := by decide +kernel
theorem dX10_init_276 : decode cX10_init 276 = .ok (.bipush 9, 2) := by decide +kernel
theorem dX10_init_278 : decode cX10_init 278 = .ok (.newarray .int, 2) := by decide +kernel
theorem dX10_init_280 : decode cX10_init 280 = .ok (.putfield 113, 3) := by decide +kernel
theorem dX10_init_283 : decode cX10_init 283 = .ok (.aload_n 0, 1) := by decide +kernel
theorem dX10_init_284 : decode cX10_init 284 = .ok (.getfield 24, 3) := by decide +kernel
theorem dX10_init_287 : decode cX10_init 287 = .ok (.iconst 2, 1) := by decide +kernel
theorem dX10_init_288 : decode cX10_init 288 = .ok (.iconst 1, 1) := by decide +kernel
theorem dX10_init_289 : decode cX10_init 289 = .ok (.iastore, 1) := by decide +kernel
theorem dX10_init_290 : decode cX10_init 290 = .ok (.aload_n 0, 1) := by decide +kernel
theorem dX10_init_291 : decode cX10_init 291 = .ok (.getfield 24, 3) := by decide +kernel
theorem dX10_init_294 : decode cX10_init 294 = .ok (.iconst 3, 1) := by decide +kernel
theorem dX10_init_295 : decode cX10_init 295 = .ok (.iconst 1, 1) := by decide +kernel
theorem dX10_init_296 : decode cX10_init 296 = .ok (.iastore, 1) := by decide +kernel
theorem dX10_init_297 : decode cX10_init 297 = .ok (.aload_n 0, 1) := by decide +kernel
theorem dX10_init_298 : decode cX10_init 298 = .ok (.iconst (-1), 1) := by decide +kernel
theorem dX10_init_299 : decode cX10_init 299 = .ok (.putfield 116, 3) := by decide +kernel
theorem dX10_init_302 : decode cX10_init 302 = .ok (.iconst 0, 1) := by decide +kernel
theorem dX10_init_303 : decode cX10_init 303 = .ok (.istore_n 1, 1) := by decide +kernel
theorem dX10_init_304 : decode cX10_init 304 = .ok (.iload_n 1, 1) := by decide +kernel
theorem dX10_init_305 : decode cX10_init 305 = .ok (.bipush 6, 2) := by decide +kernel
theorem dX10_init_307 : decode cX10_init 307 = .ok (.if_icmp .ge 16, 3) := by decide +kernel
theorem dX10_init_310 : decode cX10_init 310 = .ok (.aload_n 0, 1) := by decide +kernel
theorem dX10_init_311 : decode cX10_init 311 = .ok (.getfield 81, 3) := by decide +kernel
theorem dX10_init_314 : decode cX10_init 314 = .ok (.iload_n 1, 1) := by decide +kernel
theorem dX10_init_315 : decode cX10_init 315 = .ok (.iconst (-1), 1) := by decide +kernel
theorem dX10_init_316 : decode cX10_init 316 = .ok (.iastore, 1) := by decide +kernel
theorem dX10_init_317 : decode cX10_init 317 = .ok (.iinc 1 1, 3) := by decide +kernel
theorem dX10_init_320 : decode cX10_init 320 = .ok (.goto (-16), 3) := by decide +kernel
theorem dX10_init_323 : decode cX10_init 323 = .ok (.return_, 1) := by decide +kernel
theorem dX10_within_0 : decode cX10_within 0 = .ok (.iload_n 0, 1) := by decide +kernel
theorem dX10_within_1 : decode cX10_within 1 = .ok (.iload_n 1, 1) := by decide +kernel
theorem dX10_within_2 : decode cX10_within 2 = .ok (.if_icmp .lt 12, 3) := by decide +kernel
theorem dX10_within_5 : decode cX10_within 5 = .ok (.iload_n 0, 1) := by decide +kernel
theorem dX10_within_6 : decode cX10_within 6 = .ok (.iload_n 2, 1) := by decide +kernel
theorem dX10_within_7 : decode cX10_within 7 = .ok (.if_icmp .gt 7, 3) := by decide +kernel
theorem dX10_within_10 : decode cX10_within 10 = .ok (.iconst 1, 1) := by decide +kernel
theorem dX10_within_11 : decode cX10_within 11 = .ok (.goto 4, 3) := by decide +kernel
theorem dX10_within_14 : decode cX10_within 14 = .ok (.iconst 0, 1) := by decide +kernel
theorem dX10_within_15 : decode cX10_within 15 = .ok (.ireturn, 1) := by decide +kernel
theorem dX10_isPost_0 : decode cX10_isPost 0 = .ok (.lload_n 1, 1) := by decide +kernel
theorem dX10_isPost_1 : decode cX10_isPost 1 = .ok (.lconst 0, 1) := by decide +kernel
theorem dX10_isPost_2 : decode cX10_isPost 2 = .ok (.lcmp, 1) := by decide +kernel
theorem dX10_isPost_3 : decode cX10_isPost 3 = .ok (.ifCond .lt 17, 3) := by decide +kernel
theorem dX10_isPost_6 : decode cX10_isPost 6 = .ok (.lload_n 1, 1) := by decide +kernel
theorem dX10_isPost_7 : decode cX10_isPost 7 = .ok (.aload_n 0, 1) := by decide +kernel
theorem dX10_isPost_8 : decode cX10_isPost 8 = .ok (.getfield 120, 3) := by decide +kernel
theorem dX10_isPost_11 : decode cX10_isPost 11 = .ok (.i2l, 1) := by decide +kernel
theorem dX10_isPost_12 : decode cX10_isPost 12 = .ok (.lcmp, 1) := by decide +kernel
theorem dX10_isPost_13 : decode cX10_isPost 13 = .ok (.ifCond .ge 7, 3) := by decide +kernel
theorem dX10_isPost_16 : decode cX10_isPost 16 = .ok (.iconst 1, 1) := by decide +kernel
theorem dX10_isPost_17 : decode cX10_isPost 17 = .ok (.goto 4, 3) := by decide +kernel
theorem dX10_isPost_20 : decode cX10_isPost 20 = .ok (.iconst 0, 1) := by decide +kernel
theorem dX10_isPost_21 : decode cX10_isPost 21 = .ok (.ireturn, 1) := by decide +kernel
set_option maxRecDepth 20000 in
theorem dX10_isMinute_0 : decode cX10_isMinute 0 = .ok (.iload_n 0, 1) := by decide +kernel
theorem dX10_isMinute_1 : decode cX10_isMinute 1 = .ok (.iconst 0, 1) := by decide +kernel
theorem dX10_isMinute_2 : decode cX10_isMinute 2 = .ok (.sipush 999, 3) := by decide +kernel
theorem dX10_isMinute_5 : decode cX10_isMinute 5 = .ok (.invokestatic 123, 3) := by decide +kernel
theorem dX10_isMinute_8 : decode cX10_isMinute 8 = .ok (.ireturn, 1) := by decide +kernel
set_option maxRecDepth 20000 in
theorem dX10_isShelf_0 : decode cX10_isShelf 0 = .ok (.iload_n 0, 1) := by decide +kernel
theorem dX10_isShelf_1 : decode cX10_isShelf 1 = .ok (.iconst 0, 1) := by decide +kernel
theorem dX10_isShelf_2 : decode cX10_isShelf 2 = .ok (.iconst 5, 1) := by decide +kernel
theorem dX10_isShelf_3 : decode cX10_isShelf 3 = .ok (.invokestatic 123, 3) := by decide +kernel
theorem dX10_isShelf_6 : decode cX10_isShelf 6 = .ok (.ireturn, 1) := by decide +kernel
theorem dX10_newPost_0 : decode cX10_newPost 0 = .ok (.aload_n 0, 1) := by decide +kernel
theorem dX10_newPost_1 : decode cX10_newPost 1 = .ok (.getfield 9, 3) := by decide +kernel
theorem dX10_newPost_4 : decode cX10_newPost 4 = .ok (.aload_n 0, 1) := by decide +kernel
theorem dX10_newPost_5 : decode cX10_newPost 5 = .ok (.getfield 120, 3) := by decide +kernel
theorem dX10_newPost_8 : decode cX10_newPost 8 = .ok (.iload_n 1, 1) := by decide +kernel
theorem dX10_newPost_9 : decode cX10_newPost 9 = .ok (.iastore, 1) := by decide +kernel
theorem dX10_newPost_10 : decode cX10_newPost 10 = .ok (.aload_n 0, 1) := by decide +kernel
theorem dX10_newPost_11 : decode cX10_newPost 11 = .ok (.getfield 15, 3) := by decide +kernel
theorem dX10_newPost_14 : decode cX10_newPost 14 = .ok (.aload_n 0, 1) := by decide +kernel
theorem dX10_newPost_15 : decode cX10_newPost 15 = .ok (.getfield 120, 3) := by decide +kernel
theorem dX10_newPost_18 : decode cX10_newPost 18 = .ok (.iload_n 2, 1) := by decide +kernel
theorem dX10_newPost_19 : decode cX10_newPost 19 = .ok (.iastore, 1) := by decide +kernel
theorem dX10_newPost_20 : decode cX10_newPost 20 = .ok (.aload_n 0, 1) := by decide +kernel
theorem dX10_newPost_21 : decode cX10_newPost 21 = .ok (.getfield 18, 3) := by decide +kernel
theorem dX10_newPost_24 : decode cX10_newPost 24 = .ok (.aload_n 0, 1) := by decide +kernel
theorem dX10_newPost_25 : decode cX10_newPost 25 = .ok (.getfield 120, 3) := by decide +kernel
theorem dX10_newPost_28 : decode cX10_newPost 28 = .ok (.iload_n 3, 1) := by decide +kernel
theorem dX10_newPost_29 : decode cX10_newPost 29 = .ok (.iastore, 1) := by decide +kernel
theorem dX10_newPost_30 : decode cX10_newPost 30 = .ok (.aload_n 0, 1) := by decide +kernel
theorem dX10_newPost_31 : decode cX10_newPost 31 = .ok (.getfield 21, 3) := by decide +kernel
theorem dX10_newPost_34 : decode cX10_newPost 34 = .ok (.aload_n 0, 1) := by decide +kernel
theorem dX10_newPost_35 : decode cX10_newPost 35 = .ok (.getfield 120, 3) := by decide +kernel
theorem dX10_newPost_38 : decode cX10_newPost 38 = .ok (.bipush 60, 2) := by decide +kernel
theorem dX10_newPost_40 : decode cX10_newPost 40 = .ok (.iastore, 1) := by decide +kernel
theorem dX10_newPost_41 : decode cX10_newPost 41 = .ok (.aload_n 0, 1) := by decide +kernel
theorem dX10_newPost_42 : decode cX10_newPost 42 = .ok (.getfield 60, 3) := by decide +kernel
theorem dX10_newPost_45 : decode cX10_newPost 45 = .ok (.aload_n 0, 1) := by decide +kernel
theorem dX10_newPost_46 : decode cX10_newPost 46 = .ok (.getfield 120, 3) := by decide +kernel
theorem dX10_newPost_49 : decode cX10_newPost 49 = .ok (.iconst 0, 1) := by decide +kernel
theorem dX10_newPost_50 : decode cX10_newPost 50 = .ok (.iastore, 1) := by decide +kernel
theorem dX10_newPost_51 : decode cX10_newPost 51 = .ok (.aload_n 0, 1) := by decide +kernel
theorem dX10_newPost_52 : decode cX10_newPost 52 = .ok (.dup, 1) := by decide +kernel
theorem dX10_newPost_53 : decode cX10_newPost 53 = .ok (.getfield 120, 3) := by decide +kernel
theorem dX10_newPost_56 : decode cX10_newPost 56 = .ok (.dup_x1, 1) := by decide +kernel
theorem dX10_newPost_57 : decode cX10_newPost 57 = .ok (.iconst 1, 1) := by decide +kernel
theorem dX10_newPost_58 : decode cX10_newPost 58 = .ok (.iadd, 1) := by decide +kernel
theorem dX10_newPost_59 : decode cX10_newPost 59 = .ok (.putfield 120, 3) := by decide +kernel
theorem dX10_newPost_62 : decode cX10_newPost 62 = .ok (.ireturn, 1) := by decide +kernel
set_option maxRecDepth 20000 in
theorem dX10_post_0 : decode cX10_post 0 = .ok (.iload_n 1, 1) := by decide +kernel
theorem dX10_post_1 : decode cX10_post 1 = .ok (.ifCond .lt 21, 3) := by decide +kernel
theorem dX10_post_4 : decode cX10_post 4 = .ok (.iload_n 1, 1) := by decide +kernel
theorem dX10_post_5 : decode cX10_post 5 = .ok (.bipush 100, 2) := by decide +kernel
theorem dX10_post_7 : decode cX10_post 7 = .ok (.idiv, 1) := by decide +kernel
theorem dX10_post_8 : decode cX10_post 8 = .ok (.bipush 15, 2) := by decide +kernel
theorem dX10_post_10 : decode cX10_post 10 = .ok (.if_icmp .gt 12, 3) := by decide +kernel
theorem dX10_post_13 : decode cX10_post 13 = .ok (.iload_n 1, 1) := by decide +kernel
theorem dX10_post_14 : decode cX10_post 14 = .ok (.bipush 100, 2) := by decide +kernel
theorem dX10_post_16 : decode cX10_post 16 = .ok (.irem, 1) := by decide +kernel
theorem dX10_post_17 : decode cX10_post 17 = .ok (.bipush 15, 2) := by decide +kernel
theorem dX10_post_19 : decode cX10_post 19 = .ok (.if_icmp .le 5, 3) := by decide +kernel
theorem dX10_post_22 : decode cX10_post 22 = .ok (.iconst (-1), 1) := by decide +kernel
theorem dX10_post_23 : decode cX10_post 23 = .ok (.ireturn, 1) := by decide +kernel
theorem dX10_post_24 : decode cX10_post 24 = .ok (.aload_n 0, 1) := by decide +kernel
theorem dX10_post_25 : decode cX10_post 25 = .ok (.getfield 120, 3) := by decide +kernel
theorem dX10_post_28 : decode cX10_post 28 = .ok (.bipush 9, 2) := by decide +kernel
theorem dX10_post_30 : decode cX10_post 30 = .ok (.if_icmp .ne 8, 3) := by decide +kernel
theorem dX10_post_33 : decode cX10_post 33 = .ok (.bipush (-3), 2) := by decide +kernel
theorem dX10_post_35 : decode cX10_post 35 = .ok (.goto 16, 3) := by decide +kernel
theorem dX10_post_38 : decode cX10_post 38 = .ok (.aload_n 0, 1) := by decide +kernel
theorem dX10_post_39 : decode cX10_post 39 = .ok (.iload_n 1, 1) := by decide +kernel
theorem dX10_post_40 : decode cX10_post 40 = .ok (.bipush 100, 2) := by decide +kernel
theorem dX10_post_42 : decode cX10_post 42 = .ok (.irem, 1) := by decide +kernel
theorem dX10_post_43 : decode cX10_post 43 = .ok (.iload_n 1, 1) := by decide +kernel
theorem dX10_post_44 : decode cX10_post 44 = .ok (.bipush 100, 2) := by decide +kernel
theorem dX10_post_46 : decode cX10_post 46 = .ok (.idiv, 1) := by decide +kernel
theorem dX10_post_47 : decode cX10_post 47 = .ok (.iconst 1, 1) := by decide +kernel
theorem dX10_post_48 : decode cX10_post 48 = .ok (.invokevirtual 127, 3) := by decide +kernel
theorem dX10_post_51 : decode cX10_post 51 = .ok (.ireturn, 1) := by decide +kernel
set_option maxRecDepth 20000 in
theorem dX10_posts_0 : decode cX10_posts 0 = .ok (.iload_n 1, 1) := by decide +kernel
theorem dX10_posts_1 : decode cX10_posts 1 = .ok (.invokestatic 131, 3) := by decide +kernel
theorem dX10_posts_4 : decode cX10_posts 4 = .ok (.ifCond .eq 13, 3) := by decide +kernel
theorem dX10_posts_7 : decode cX10_posts 7 = .ok (.iload_n 3, 1) := by decide +kernel
theorem dX10_posts_8 : decode cX10_posts 8 = .ok (.iconst 1, 1) := by decide +kernel
theorem dX10_posts_9 : decode cX10_posts 9 = .ok (.bipush 9, 2) := by decide +kernel
theorem dX10_posts_11 : decode cX10_posts 11 = .ok (.invokestatic 123, 3) := by decide +kernel
theorem dX10_posts_14 : decode cX10_posts 14 = .ok (.ifCond .ne 5, 3) := by decide +kernel
theorem dX10_posts_17 : decode cX10_posts 17 = .ok (.iconst (-1), 1) := by decide +kernel
theorem dX10_posts_18 : decode cX10_posts 18 = .ok (.ireturn, 1) := by decide +kernel
theorem dX10_posts_19 : decode cX10_posts 19 = .ok (.aload_n 0, 1) := by decide +kernel
theorem dX10_posts_20 : decode cX10_posts 20 = .ok (.getfield 81, 3) := by decide +kernel
theorem dX10_posts_23 : decode cX10_posts 23 = .ok (.iload_n 1, 1) := by decide +kernel
theorem dX10_posts_24 : decode cX10_posts 24 = .ok (.iaload, 1) := by decide +kernel
theorem dX10_posts_25 : decode cX10_posts 25 = .ok (.iconst (-1), 1) := by decide +kernel
theorem dX10_posts_26 : decode cX10_posts 26 = .ok (.if_icmp .ne 5, 3) := by decide +kernel
theorem dX10_posts_29 : decode cX10_posts 29 = .ok (.iconst 0, 1) := by decide +kernel
theorem dX10_posts_30 : decode cX10_posts 30 = .ok (.ireturn, 1) := by decide +kernel
theorem dX10_posts_31 : decode cX10_posts 31 = .ok (.aload_n 0, 1) := by decide +kernel
theorem dX10_posts_32 : decode cX10_posts 32 = .ok (.getfield 81, 3) := by decide +kernel
theorem dX10_posts_35 : decode cX10_posts 35 = .ok (.iload_n 1, 1) := by decide +kernel
theorem dX10_posts_36 : decode cX10_posts 36 = .ok (.iaload, 1) := by decide +kernel
theorem dX10_posts_37 : decode cX10_posts 37 = .ok (.ifCond .eq 6, 3) := by decide +kernel
theorem dX10_posts_40 : decode cX10_posts 40 = .ok (.bipush (-12), 2) := by decide +kernel
theorem dX10_posts_42 : decode cX10_posts 42 = .ok (.ireturn, 1) := by decide +kernel
theorem dX10_posts_43 : decode cX10_posts 43 = .ok (.iconst 0, 1) := by decide +kernel
theorem dX10_posts_44 : decode cX10_posts 44 = .ok (.istore 4, 2) := by decide +kernel
theorem dX10_posts_46 : decode cX10_posts 46 = .ok (.iconst 0, 1) := by decide +kernel
theorem dX10_posts_47 : decode cX10_posts 47 = .ok (.istore 5, 2) := by decide +kernel
theorem dX10_posts_49 : decode cX10_posts 49 = .ok (.iload 5, 2) := by decide +kernel
theorem dX10_posts_51 : decode cX10_posts 51 = .ok (.iload_n 3, 1) := by decide +kernel
theorem dX10_posts_52 : decode cX10_posts 52 = .ok (.if_icmp .ge 161, 3) := by decide +kernel
theorem dX10_posts_55 : decode cX10_posts 55 = .ok (.iload_n 2, 1) := by decide +kernel
theorem dX10_posts_56 : decode cX10_posts 56 = .ok (.i2l, 1) := by decide +kernel
theorem dX10_posts_57 : decode cX10_posts 57 = .ok (.ldc2_w 135, 3) := by decide +kernel
theorem dX10_posts_60 : decode cX10_posts 60 = .ok (.iload 5, 2) := by decide +kernel
theorem dX10_posts_62 : decode cX10_posts 62 = .ok (.i2l, 1) := by decide +kernel
theorem dX10_posts_63 : decode cX10_posts 63 = .ok (.lmul, 1) := by decide +kernel
theorem dX10_posts_64 : decode cX10_posts 64 = .ok (.ladd, 1) := by decide +kernel
theorem dX10_posts_65 : decode cX10_posts 65 = .ok (.lstore 6, 2) := by decide +kernel
theorem dX10_posts_67 : decode cX10_posts 67 = .ok (.lload 6, 2) := by decide +kernel
theorem dX10_posts_69 : decode cX10_posts 69 = .ok (.lconst 0, 1) := by decide +kernel
theorem dX10_posts_70 : decode cX10_posts 70 = .ok (.lcmp, 1) := by decide +kernel
theorem dX10_posts_71 : decode cX10_posts 71 = .ok (.ifCond .lt 29, 3) := by decide +kernel
theorem dX10_posts_74 : decode cX10_posts 74 = .ok (.lload 6, 2) := by decide +kernel
theorem dX10_posts_76 : decode cX10_posts 76 = .ok (.ldc2_w 135, 3) := by decide +kernel
theorem dX10_posts_79 : decode cX10_posts 79 = .ok (.ladd, 1) := by decide +kernel
theorem dX10_posts_80 : decode cX10_posts 80 = .ok (.aload_n 0, 1) := by decide +kernel
theorem dX10_posts_81 : decode cX10_posts 81 = .ok (.getfield 84, 3) := by decide +kernel
theorem dX10_posts_84 : decode cX10_posts 84 = .ok (.iload_n 1, 1) := by decide +kernel
theorem dX10_posts_85 : decode cX10_posts 85 = .ok (.iaload, 1) := by decide +kernel
theorem dX10_posts_86 : decode cX10_posts 86 = .ok (.i2l, 1) := by decide +kernel
theorem dX10_posts_87 : decode cX10_posts 87 = .ok (.lcmp, 1) := by decide +kernel
theorem dX10_posts_88 : decode cX10_posts 88 = .ok (.ifCond .gt 12, 3) := by decide +kernel
theorem dX10_posts_91 : decode cX10_posts 91 = .ok (.aload_n 0, 1) := by decide +kernel
theorem dX10_posts_92 : decode cX10_posts 92 = .ok (.getfield 120, 3) := by decide +kernel
theorem dX10_posts_95 : decode cX10_posts 95 = .ok (.bipush 9, 2) := by decide +kernel
theorem dX10_posts_97 : decode cX10_posts 97 = .ok (.if_icmp .ne 6, 3) := by decide +kernel
theorem dX10_posts_100 : decode cX10_posts 100 = .ok (.iload 4, 2) := by decide +kernel
theorem dX10_posts_102 : decode cX10_posts 102 = .ok (.ireturn, 1) := by decide +kernel
theorem dX10_posts_103 : decode cX10_posts 103 = .ok (.bipush 60, 2) := by decide +kernel
theorem dX10_posts_105 : decode cX10_posts 105 = .ok (.iload_n 1, 1) := by decide +kernel
theorem dX10_posts_106 : decode cX10_posts 106 = .ok (.imul, 1) := by decide +kernel
theorem dX10_posts_107 : decode cX10_posts 107 = .ok (.lload 6, 2) := by decide +kernel
theorem dX10_posts_109 : decode cX10_posts 109 = .ok (.l2i, 1) := by decide +kernel
theorem dX10_posts_110 : decode cX10_posts 110 = .ok (.iadd, 1) := by decide +kernel
theorem dX10_posts_111 : decode cX10_posts 111 = .ok (.istore 8, 2) := by decide +kernel
theorem dX10_posts_113 : decode cX10_posts 113 = .ok (.aload_n 0, 1) := by decide +kernel
theorem dX10_posts_114 : decode cX10_posts 114 = .ok (.getfield 87, 3) := by decide +kernel
theorem dX10_posts_117 : decode cX10_posts 117 = .ok (.iload 8, 2) := by decide +kernel
theorem dX10_posts_119 : decode cX10_posts 119 = .ok (.laload, 1) := by decide +kernel
theorem dX10_posts_120 : decode cX10_posts 120 = .ok (.l2i, 1) := by decide +kernel
theorem dX10_posts_121 : decode cX10_posts 121 = .ok (.iconst 0, 1) := by decide +kernel
theorem dX10_posts_122 : decode cX10_posts 122 = .ok (.bipush 15, 2) := by decide +kernel
theorem dX10_posts_124 : decode cX10_posts 124 = .ok (.invokestatic 123, 3) := by decide +kernel
theorem dX10_posts_127 : decode cX10_posts 127 = .ok (.ifCond .eq 41, 3) := by decide +kernel
theorem dX10_posts_130 : decode cX10_posts 130 = .ok (.aload_n 0, 1) := by decide +kernel
theorem dX10_posts_131 : decode cX10_posts 131 = .ok (.getfield 87, 3) := by decide +kernel
theorem dX10_posts_134 : decode cX10_posts 134 = .ok (.iload 8, 2) := by decide +kernel
theorem dX10_posts_136 : decode cX10_posts 136 = .ok (.iconst 1, 1) := by decide +kernel
theorem dX10_posts_137 : decode cX10_posts 137 = .ok (.iadd, 1) := by decide +kernel
theorem dX10_posts_138 : decode cX10_posts 138 = .ok (.laload, 1) := by decide +kernel
theorem dX10_posts_139 : decode cX10_posts 139 = .ok (.l2i, 1) := by decide +kernel
theorem dX10_posts_140 : decode cX10_posts 140 = .ok (.iconst 0, 1) := by decide +kernel
theorem dX10_posts_141 : decode cX10_posts 141 = .ok (.bipush 15, 2) := by decide +kernel
theorem dX10_posts_143 : decode cX10_posts 143 = .ok (.invokestatic 123, 3) := by decide +kernel
theorem dX10_posts_146 : decode cX10_posts 146 = .ok (.ifCond .eq 22, 3) := by decide +kernel
theorem dX10_posts_149 : decode cX10_posts 149 = .ok (.aload_n 0, 1) := by decide +kernel
theorem dX10_posts_150 : decode cX10_posts 150 = .ok (.getfield 87, 3) := by decide +kernel
theorem dX10_posts_153 : decode cX10_posts 153 = .ok (.iload 8, 2) := by decide +kernel
theorem dX10_posts_155 : decode cX10_posts 155 = .ok (.iconst 2, 1) := by decide +kernel
theorem dX10_posts_156 : decode cX10_posts 156 = .ok (.iadd, 1) := by decide +kernel
theorem dX10_posts_157 : decode cX10_posts 157 = .ok (.laload, 1) := by decide +kernel
theorem dX10_posts_158 : decode cX10_posts 158 = .ok (.l2i, 1) := by decide +kernel
theorem dX10_posts_159 : decode cX10_posts 159 = .ok (.iconst 0, 1) := by decide +kernel
theorem dX10_posts_160 : decode cX10_posts 160 = .ok (.bipush 9, 2) := by decide +kernel
theorem dX10_posts_162 : decode cX10_posts 162 = .ok (.invokestatic 123, 3) := by decide +kernel
theorem dX10_posts_165 : decode cX10_posts 165 = .ok (.ifCond .ne 6, 3) := by decide +kernel
theorem dX10_posts_168 : decode cX10_posts 168 = .ok (.iload 4, 2) := by decide +kernel
theorem dX10_posts_170 : decode cX10_posts 170 = .ok (.ireturn, 1) := by decide +kernel
theorem dX10_posts_171 : decode cX10_posts 171 = .ok (.aload_n 0, 1) := by decide +kernel
theorem dX10_posts_172 : decode cX10_posts 172 = .ok (.aload_n 0, 1) := by decide +kernel
theorem dX10_posts_173 : decode cX10_posts 173 = .ok (.getfield 87, 3) := by decide +kernel
theorem dX10_posts_176 : decode cX10_posts 176 = .ok (.iload 8, 2) := by decide +kernel
theorem dX10_posts_178 : decode cX10_posts 178 = .ok (.laload, 1) := by decide +kernel
theorem dX10_posts_179 : decode cX10_posts 179 = .ok (.l2i, 1) := by decide +kernel
theorem dX10_posts_180 : decode cX10_posts 180 = .ok (.aload_n 0, 1) := by decide +kernel
theorem dX10_posts_181 : decode cX10_posts 181 = .ok (.getfield 87, 3) := by decide +kernel
theorem dX10_posts_184 : decode cX10_posts 184 = .ok (.iload 8, 2) := by decide +kernel
theorem dX10_posts_186 : decode cX10_posts 186 = .ok (.iconst 1, 1) := by decide +kernel
theorem dX10_posts_187 : decode cX10_posts 187 = .ok (.iadd, 1) := by decide +kernel
theorem dX10_posts_188 : decode cX10_posts 188 = .ok (.laload, 1) := by decide +kernel
theorem dX10_posts_189 : decode cX10_posts 189 = .ok (.l2i, 1) := by decide +kernel
theorem dX10_posts_190 : decode cX10_posts 190 = .ok (.aload_n 0, 1) := by decide +kernel
theorem dX10_posts_191 : decode cX10_posts 191 = .ok (.getfield 87, 3) := by decide +kernel
theorem dX10_posts_194 : decode cX10_posts 194 = .ok (.iload 8, 2) := by decide +kernel
theorem dX10_posts_196 : decode cX10_posts 196 = .ok (.iconst 2, 1) := by decide +kernel
theorem dX10_posts_197 : decode cX10_posts 197 = .ok (.iadd, 1) := by decide +kernel
theorem dX10_posts_198 : decode cX10_posts 198 = .ok (.laload, 1) := by decide +kernel
theorem dX10_posts_199 : decode cX10_posts 199 = .ok (.l2i, 1) := by decide +kernel
theorem dX10_posts_200 : decode cX10_posts 200 = .ok (.invokevirtual 127, 3) := by decide +kernel
theorem dX10_posts_203 : decode cX10_posts 203 = .ok (.pop, 1) := by decide +kernel
theorem dX10_posts_204 : decode cX10_posts 204 = .ok (.iinc 4 1, 3) := by decide +kernel
theorem dX10_posts_207 : decode cX10_posts 207 = .ok (.iinc 5 1, 3) := by decide +kernel
theorem dX10_posts_210 : decode cX10_posts 210 = .ok (.goto (-161), 3) := by decide +kernel
theorem dX10_posts_213 : decode cX10_posts 213 = .ok (.iload 4, 2) := by decide +kernel
theorem dX10_posts_215 : decode cX10_posts 215 = .ok (.ireturn, 1) := by decide +kernel
set_option maxRecDepth 20000 in
theorem dX10_isOf_0 : decode cX10_isOf 0 = .ok (.iload_n 2, 1) := by decide +kernel
theorem dX10_isOf_1 : decode cX10_isOf 1 = .ok (.iconst 0, 1) := by decide +kernel
theorem dX10_isOf_2 : decode cX10_isOf 2 = .ok (.iconst 3, 1) := by decide +kernel
theorem dX10_isOf_3 : decode cX10_isOf 3 = .ok (.invokestatic 123, 3) := by decide +kernel
theorem dX10_isOf_6 : decode cX10_isOf 6 = .ok (.ifCond .eq 12, 3) := by decide +kernel
theorem dX10_isOf_9 : decode cX10_isOf 9 = .ok (.aload_n 0, 1) := by decide +kernel
theorem dX10_isOf_10 : decode cX10_isOf 10 = .ok (.iload_n 1, 1) := by decide +kernel
theorem dX10_isOf_11 : decode cX10_isOf 11 = .ok (.i2l, 1) := by decide +kernel
theorem dX10_isOf_12 : decode cX10_isOf 12 = .ok (.invokevirtual 137, 3) := by decide +kernel
theorem dX10_isOf_15 : decode cX10_isOf 15 = .ok (.goto 22, 3) := by decide +kernel
theorem dX10_isOf_18 : decode cX10_isOf 18 = .ok (.iload_n 2, 1) := by decide +kernel
theorem dX10_isOf_19 : decode cX10_isOf 19 = .ok (.iconst 4, 1) := by decide +kernel
theorem dX10_isOf_20 : decode cX10_isOf 20 = .ok (.bipush 7, 2) := by decide +kernel
theorem dX10_isOf_22 : decode cX10_isOf 22 = .ok (.invokestatic 123, 3) := by decide +kernel
theorem dX10_isOf_25 : decode cX10_isOf 25 = .ok (.ifCond .eq 11, 3) := by decide +kernel
theorem dX10_isOf_28 : decode cX10_isOf 28 = .ok (.iload_n 1, 1) := by decide +kernel
theorem dX10_isOf_29 : decode cX10_isOf 29 = .ok (.ifCond .ne 7, 3) := by decide +kernel
theorem dX10_isOf_32 : decode cX10_isOf 32 = .ok (.iconst 1, 1) := by decide +kernel
theorem dX10_isOf_33 : decode cX10_isOf 33 = .ok (.goto 4, 3) := by decide +kernel
theorem dX10_isOf_36 : decode cX10_isOf 36 = .ok (.iconst 0, 1) := by decide +kernel
theorem dX10_isOf_37 : decode cX10_isOf 37 = .ok (.ireturn, 1) := by decide +kernel
set_option maxRecDepth 20000 in
theorem dX10_isFit_0 : decode cX10_isFit 0 = .ok (.iload_n 0, 1) := by decide +kernel
theorem dX10_isFit_1 : decode cX10_isFit 1 = .ok (.tableswitch 64 2 7 #[39, 47, 64, 64, 56, 39], 39) := by decide +kernel
theorem dX10_isFit_40 : decode cX10_isFit 40 = .ok (.iload_n 1, 1) := by decide +kernel
theorem dX10_isFit_41 : decode cX10_isFit 41 = .ok (.iconst 0, 1) := by decide +kernel
theorem dX10_isFit_42 : decode cX10_isFit 42 = .ok (.bipush 9, 2) := by decide +kernel
theorem dX10_isFit_44 : decode cX10_isFit 44 = .ok (.invokestatic 123, 3) := by decide +kernel
theorem dX10_isFit_47 : decode cX10_isFit 47 = .ok (.ireturn, 1) := by decide +kernel
theorem dX10_isFit_48 : decode cX10_isFit 48 = .ok (.iload_n 1, 1) := by decide +kernel
theorem dX10_isFit_49 : decode cX10_isFit 49 = .ok (.iconst 1, 1) := by decide +kernel
theorem dX10_isFit_50 : decode cX10_isFit 50 = .ok (.sipush 999, 3) := by decide +kernel
theorem dX10_isFit_53 : decode cX10_isFit 53 = .ok (.invokestatic 123, 3) := by decide +kernel
theorem dX10_isFit_56 : decode cX10_isFit 56 = .ok (.ireturn, 1) := by decide +kernel
theorem dX10_isFit_57 : decode cX10_isFit 57 = .ok (.iload_n 1, 1) := by decide +kernel
theorem dX10_isFit_58 : decode cX10_isFit 58 = .ok (.iconst 1, 1) := by decide +kernel
theorem dX10_isFit_59 : decode cX10_isFit 59 = .ok (.bipush 9, 2) := by decide +kernel
theorem dX10_isFit_61 : decode cX10_isFit 61 = .ok (.invokestatic 123, 3) := by decide +kernel
theorem dX10_isFit_64 : decode cX10_isFit 64 = .ok (.ireturn, 1) := by decide +kernel
theorem dX10_isFit_65 : decode cX10_isFit 65 = .ok (.iload_n 1, 1) := by decide +kernel
theorem dX10_isFit_66 : decode cX10_isFit 66 = .ok (.iconst 0, 1) := by decide +kernel
theorem dX10_isFit_67 : decode cX10_isFit 67 = .ok (.bipush 15, 2) := by decide +kernel
theorem dX10_isFit_69 : decode cX10_isFit 69 = .ok (.invokestatic 123, 3) := by decide +kernel
theorem dX10_isFit_72 : decode cX10_isFit 72 = .ok (.ireturn, 1) := by decide +kernel
theorem dX10_get_0 : decode cX10_get 0 = .ok (.iload_n 2, 1) := by decide +kernel
theorem dX10_get_1 : decode cX10_get 1 = .ok (.tableswitch 59 0 3 #[31, 38, 45, 52], 31) := by decide +kernel
theorem dX10_get_32 : decode cX10_get 32 = .ok (.aload_n 0, 1) := by decide +kernel
theorem dX10_get_33 : decode cX10_get 33 = .ok (.getfield 9, 3) := by decide +kernel
theorem dX10_get_36 : decode cX10_get 36 = .ok (.iload_n 1, 1) := by decide +kernel
theorem dX10_get_37 : decode cX10_get 37 = .ok (.iaload, 1) := by decide +kernel
theorem dX10_get_38 : decode cX10_get 38 = .ok (.ireturn, 1) := by decide +kernel
theorem dX10_get_39 : decode cX10_get 39 = .ok (.aload_n 0, 1) := by decide +kernel
theorem dX10_get_40 : decode cX10_get 40 = .ok (.getfield 15, 3) := by decide +kernel
theorem dX10_get_43 : decode cX10_get 43 = .ok (.iload_n 1, 1) := by decide +kernel
theorem dX10_get_44 : decode cX10_get 44 = .ok (.iaload, 1) := by decide +kernel
theorem dX10_get_45 : decode cX10_get 45 = .ok (.ireturn, 1) := by decide +kernel
theorem dX10_get_46 : decode cX10_get 46 = .ok (.aload_n 0, 1) := by decide +kernel
theorem dX10_get_47 : decode cX10_get 47 = .ok (.getfield 18, 3) := by decide +kernel
theorem dX10_get_50 : decode cX10_get 50 = .ok (.iload_n 1, 1) := by decide +kernel
theorem dX10_get_51 : decode cX10_get 51 = .ok (.iaload, 1) := by decide +kernel
theorem dX10_get_52 : decode cX10_get 52 = .ok (.ireturn, 1) := by decide +kernel
theorem dX10_get_53 : decode cX10_get 53 = .ok (.aload_n 0, 1) := by decide +kernel
theorem dX10_get_54 : decode cX10_get 54 = .ok (.getfield 21, 3) := by decide +kernel
theorem dX10_get_57 : decode cX10_get 57 = .ok (.iload_n 1, 1) := by decide +kernel
theorem dX10_get_58 : decode cX10_get 58 = .ok (.iaload, 1) := by decide +kernel
theorem dX10_get_59 : decode cX10_get 59 = .ok (.ireturn, 1) := by decide +kernel
theorem dX10_get_60 : decode cX10_get 60 = .ok (.aload_n 0, 1) := by decide +kernel
theorem dX10_get_61 : decode cX10_get 61 = .ok (.getfield 24, 3) := by decide +kernel
theorem dX10_get_64 : decode cX10_get 64 = .ok (.iload_n 2, 1) := by decide +kernel
theorem dX10_get_65 : decode cX10_get 65 = .ok (.iconst 4, 1) := by decide +kernel
theorem dX10_get_66 : decode cX10_get 66 = .ok (.isub, 1) := by decide +kernel
theorem dX10_get_67 : decode cX10_get 67 = .ok (.iaload, 1) := by decide +kernel
theorem dX10_get_68 : decode cX10_get 68 = .ok (.ireturn, 1) := by decide +kernel
theorem dX10_becomes_0 : decode cX10_becomes 0 = .ok (.iload_n 2, 1) := by decide +kernel
theorem dX10_becomes_1 : decode cX10_becomes 1 = .ok (.tableswitch 63 0 3 #[31, 39, 47, 55], 31) := by decide +kernel
theorem dX10_becomes_32 : decode cX10_becomes 32 = .ok (.aload_n 0, 1) := by decide +kernel
theorem dX10_becomes_33 : decode cX10_becomes 33 = .ok (.getfield 9, 3) := by decide +kernel
theorem dX10_becomes_36 : decode cX10_becomes 36 = .ok (.iload_n 1, 1) := by decide +kernel
theorem dX10_becomes_37 : decode cX10_becomes 37 = .ok (.iload_n 3, 1) := by decide +kernel
theorem dX10_becomes_38 : decode cX10_becomes 38 = .ok (.iastore, 1) := by decide +kernel
theorem dX10_becomes_39 : decode cX10_becomes 39 = .ok (.return_, 1) := by decide +kernel
theorem dX10_becomes_40 : decode cX10_becomes 40 = .ok (.aload_n 0, 1) := by decide +kernel
theorem dX10_becomes_41 : decode cX10_becomes 41 = .ok (.getfield 15, 3) := by decide +kernel
theorem dX10_becomes_44 : decode cX10_becomes 44 = .ok (.iload_n 1, 1) := by decide +kernel
theorem dX10_becomes_45 : decode cX10_becomes 45 = .ok (.iload_n 3, 1) := by decide +kernel
theorem dX10_becomes_46 : decode cX10_becomes 46 = .ok (.iastore, 1) := by decide +kernel
theorem dX10_becomes_47 : decode cX10_becomes 47 = .ok (.return_, 1) := by decide +kernel
theorem dX10_becomes_48 : decode cX10_becomes 48 = .ok (.aload_n 0, 1) := by decide +kernel
theorem dX10_becomes_49 : decode cX10_becomes 49 = .ok (.getfield 18, 3) := by decide +kernel
theorem dX10_becomes_52 : decode cX10_becomes 52 = .ok (.iload_n 1, 1) := by decide +kernel
theorem dX10_becomes_53 : decode cX10_becomes 53 = .ok (.iload_n 3, 1) := by decide +kernel
theorem dX10_becomes_54 : decode cX10_becomes 54 = .ok (.iastore, 1) := by decide +kernel
theorem dX10_becomes_55 : decode cX10_becomes 55 = .ok (.return_, 1) := by decide +kernel
theorem dX10_becomes_56 : decode cX10_becomes 56 = .ok (.aload_n 0, 1) := by decide +kernel
theorem dX10_becomes_57 : decode cX10_becomes 57 = .ok (.getfield 21, 3) := by decide +kernel
theorem dX10_becomes_60 : decode cX10_becomes 60 = .ok (.iload_n 1, 1) := by decide +kernel
theorem dX10_becomes_61 : decode cX10_becomes 61 = .ok (.iload_n 3, 1) := by decide +kernel
theorem dX10_becomes_62 : decode cX10_becomes 62 = .ok (.iastore, 1) := by decide +kernel
theorem dX10_becomes_63 : decode cX10_becomes 63 = .ok (.return_, 1) := by decide +kernel
theorem dX10_becomes_64 : decode cX10_becomes 64 = .ok (.aload_n 0, 1) := by decide +kernel
theorem dX10_becomes_65 : decode cX10_becomes 65 = .ok (.getfield 24, 3) := by decide +kernel
theorem dX10_becomes_68 : decode cX10_becomes 68 = .ok (.iload_n 2, 1) := by decide +kernel
theorem dX10_becomes_69 : decode cX10_becomes 69 = .ok (.iconst 4, 1) := by decide +kernel
theorem dX10_becomes_70 : decode cX10_becomes 70 = .ok (.isub, 1) := by decide +kernel
theorem dX10_becomes_71 : decode cX10_becomes 71 = .ok (.iload_n 3, 1) := by decide +kernel
theorem dX10_becomes_72 : decode cX10_becomes 72 = .ok (.iastore, 1) := by decide +kernel
theorem dX10_becomes_73 : decode cX10_becomes 73 = .ok (.return_, 1) := by decide +kernel
set_option maxRecDepth 20000 in
theorem dX10_mend_0 : decode cX10_mend 0 = .ok (.aload_n 0, 1) := by decide +kernel
theorem dX10_mend_1 : decode cX10_mend 1 = .ok (.iload_n 1, 1) := by decide +kernel
theorem dX10_mend_2 : decode cX10_mend 2 = .ok (.iload_n 2, 1) := by decide +kernel
theorem dX10_mend_3 : decode cX10_mend 3 = .ok (.invokevirtual 141, 3) := by decide +kernel
theorem dX10_mend_6 : decode cX10_mend 6 = .ok (.ifCond .eq 11, 3) := by decide +kernel
theorem dX10_mend_9 : decode cX10_mend 9 = .ok (.iload_n 2, 1) := by decide +kernel
theorem dX10_mend_10 : decode cX10_mend 10 = .ok (.iload_n 3, 1) := by decide +kernel
theorem dX10_mend_11 : decode cX10_mend 11 = .ok (.invokestatic 145, 3) := by decide +kernel
theorem dX10_mend_14 : decode cX10_mend 14 = .ok (.ifCond .ne 5, 3) := by decide +kernel
theorem dX10_mend_17 : decode cX10_mend 17 = .ok (.iconst (-1), 1) := by decide +kernel
theorem dX10_mend_18 : decode cX10_mend 18 = .ok (.ireturn, 1) := by decide +kernel
theorem dX10_mend_19 : decode cX10_mend 19 = .ok (.aload_n 0, 1) := by decide +kernel
theorem dX10_mend_20 : decode cX10_mend 20 = .ok (.iload_n 1, 1) := by decide +kernel
theorem dX10_mend_21 : decode cX10_mend 21 = .ok (.iload_n 2, 1) := by decide +kernel
theorem dX10_mend_22 : decode cX10_mend 22 = .ok (.invokevirtual 148, 3) := by decide +kernel
theorem dX10_mend_25 : decode cX10_mend 25 = .ok (.istore 4, 2) := by decide +kernel
theorem dX10_mend_27 : decode cX10_mend 27 = .ok (.iload 4, 2) := by decide +kernel
theorem dX10_mend_29 : decode cX10_mend 29 = .ok (.iload_n 3, 1) := by decide +kernel
theorem dX10_mend_30 : decode cX10_mend 30 = .ok (.if_icmp .ne 6, 3) := by decide +kernel
theorem dX10_mend_33 : decode cX10_mend 33 = .ok (.iload 4, 2) := by decide +kernel
theorem dX10_mend_35 : decode cX10_mend 35 = .ok (.ireturn, 1) := by decide +kernel
theorem dX10_mend_36 : decode cX10_mend 36 = .ok (.aload_n 0, 1) := by decide +kernel
theorem dX10_mend_37 : decode cX10_mend 37 = .ok (.iload_n 1, 1) := by decide +kernel
theorem dX10_mend_38 : decode cX10_mend 38 = .ok (.iload_n 2, 1) := by decide +kernel
theorem dX10_mend_39 : decode cX10_mend 39 = .ok (.iload_n 3, 1) := by decide +kernel
theorem dX10_mend_40 : decode cX10_mend 40 = .ok (.invokevirtual 152, 3) := by decide +kernel
theorem dX10_mend_43 : decode cX10_mend 43 = .ok (.aload_n 0, 1) := by decide +kernel
theorem dX10_mend_44 : decode cX10_mend 44 = .ok (.getfield 156, 3) := by decide +kernel
theorem dX10_mend_47 : decode cX10_mend 47 = .ok (.bipush 40, 2) := by decide +kernel
theorem dX10_mend_49 : decode cX10_mend 49 = .ok (.if_icmp .ne 46, 3) := by decide +kernel
theorem dX10_mend_52 : decode cX10_mend 52 = .ok (.iconst 0, 1) := by decide +kernel
theorem dX10_mend_53 : decode cX10_mend 53 = .ok (.istore 5, 2) := by decide +kernel
theorem dX10_mend_55 : decode cX10_mend 55 = .ok (.iload 5, 2) := by decide +kernel
theorem dX10_mend_57 : decode cX10_mend 57 = .ok (.sipush 156, 3) := by decide +kernel
theorem dX10_mend_60 : decode cX10_mend 60 = .ok (.if_icmp .ge 25, 3) := by decide +kernel
theorem dX10_mend_63 : decode cX10_mend 63 = .ok (.aload_n 0, 1) := by decide +kernel
theorem dX10_mend_64 : decode cX10_mend 64 = .ok (.getfield 72, 3) := by decide +kernel
theorem dX10_mend_67 : decode cX10_mend 67 = .ok (.iload 5, 2) := by decide +kernel
theorem dX10_mend_69 : decode cX10_mend 69 = .ok (.aload_n 0, 1) := by decide +kernel
theorem dX10_mend_70 : decode cX10_mend 70 = .ok (.getfield 72, 3) := by decide +kernel
theorem dX10_mend_73 : decode cX10_mend 73 = .ok (.iload 5, 2) := by decide +kernel
theorem dX10_mend_75 : decode cX10_mend 75 = .ok (.iconst 4, 1) := by decide +kernel
theorem dX10_mend_76 : decode cX10_mend 76 = .ok (.iadd, 1) := by decide +kernel
theorem dX10_mend_77 : decode cX10_mend 77 = .ok (.iaload, 1) := by decide +kernel
theorem dX10_mend_78 : decode cX10_mend 78 = .ok (.iastore, 1) := by decide +kernel
theorem dX10_mend_79 : decode cX10_mend 79 = .ok (.iinc 5 1, 3) := by decide +kernel
theorem dX10_mend_82 : decode cX10_mend 82 = .ok (.goto (-27), 3) := by decide +kernel
theorem dX10_mend_85 : decode cX10_mend 85 = .ok (.aload_n 0, 1) := by decide +kernel
theorem dX10_mend_86 : decode cX10_mend 86 = .ok (.dup, 1) := by decide +kernel
theorem dX10_mend_87 : decode cX10_mend 87 = .ok (.getfield 156, 3) := by decide +kernel
theorem dX10_mend_90 : decode cX10_mend 90 = .ok (.iconst 1, 1) := by decide +kernel
theorem dX10_mend_91 : decode cX10_mend 91 = .ok (.isub, 1) := by decide +kernel
theorem dX10_mend_92 : decode cX10_mend 92 = .ok (.putfield 156, 3) := by decide +kernel
theorem dX10_mend_95 : decode cX10_mend 95 = .ok (.aload_n 0, 1) := by decide +kernel
theorem dX10_mend_96 : decode cX10_mend 96 = .ok (.getfield 72, 3) := by decide +kernel
theorem dX10_mend_99 : decode cX10_mend 99 = .ok (.iconst 4, 1) := by decide +kernel
theorem dX10_mend_100 : decode cX10_mend 100 = .ok (.aload_n 0, 1) := by decide +kernel
theorem dX10_mend_101 : decode cX10_mend 101 = .ok (.getfield 156, 3) := by decide +kernel
theorem dX10_mend_104 : decode cX10_mend 104 = .ok (.imul, 1) := by decide +kernel
theorem dX10_mend_105 : decode cX10_mend 105 = .ok (.iload_n 1, 1) := by decide +kernel
theorem dX10_mend_106 : decode cX10_mend 106 = .ok (.iastore, 1) := by decide +kernel
theorem dX10_mend_107 : decode cX10_mend 107 = .ok (.aload_n 0, 1) := by decide +kernel
theorem dX10_mend_108 : decode cX10_mend 108 = .ok (.getfield 72, 3) := by decide +kernel
theorem dX10_mend_111 : decode cX10_mend 111 = .ok (.iconst 4, 1) := by decide +kernel
theorem dX10_mend_112 : decode cX10_mend 112 = .ok (.aload_n 0, 1) := by decide +kernel
theorem dX10_mend_113 : decode cX10_mend 113 = .ok (.getfield 156, 3) := by decide +kernel
theorem dX10_mend_116 : decode cX10_mend 116 = .ok (.imul, 1) := by decide +kernel
theorem dX10_mend_117 : decode cX10_mend 117 = .ok (.iconst 1, 1) := by decide +kernel
theorem dX10_mend_118 : decode cX10_mend 118 = .ok (.iadd, 1) := by decide +kernel
theorem dX10_mend_119 : decode cX10_mend 119 = .ok (.iload_n 2, 1) := by decide +kernel
theorem dX10_mend_120 : decode cX10_mend 120 = .ok (.iastore, 1) := by decide +kernel
theorem dX10_mend_121 : decode cX10_mend 121 = .ok (.aload_n 0, 1) := by decide +kernel
theorem dX10_mend_122 : decode cX10_mend 122 = .ok (.getfield 72, 3) := by decide +kernel
theorem dX10_mend_125 : decode cX10_mend 125 = .ok (.iconst 4, 1) := by decide +kernel
theorem dX10_mend_126 : decode cX10_mend 126 = .ok (.aload_n 0, 1) := by decide +kernel
theorem dX10_mend_127 : decode cX10_mend 127 = .ok (.getfield 156, 3) := by decide +kernel
theorem dX10_mend_130 : decode cX10_mend 130 = .ok (.imul, 1) := by decide +kernel
theorem dX10_mend_131 : decode cX10_mend 131 = .ok (.iconst 2, 1) := by decide +kernel
theorem dX10_mend_132 : decode cX10_mend 132 = .ok (.iadd, 1) := by decide +kernel
theorem dX10_mend_133 : decode cX10_mend 133 = .ok (.iload 4, 2) := by decide +kernel
theorem dX10_mend_135 : decode cX10_mend 135 = .ok (.iastore, 1) := by decide +kernel
theorem dX10_mend_136 : decode cX10_mend 136 = .ok (.aload_n 0, 1) := by decide +kernel
theorem dX10_mend_137 : decode cX10_mend 137 = .ok (.getfield 72, 3) := by decide +kernel
theorem dX10_mend_140 : decode cX10_mend 140 = .ok (.iconst 4, 1) := by decide +kernel
theorem dX10_mend_141 : decode cX10_mend 141 = .ok (.aload_n 0, 1) := by decide +kernel
theorem dX10_mend_142 : decode cX10_mend 142 = .ok (.getfield 156, 3) := by decide +kernel
theorem dX10_mend_145 : decode cX10_mend 145 = .ok (.imul, 1) := by decide +kernel
theorem dX10_mend_146 : decode cX10_mend 146 = .ok (.iconst 3, 1) := by decide +kernel
theorem dX10_mend_147 : decode cX10_mend 147 = .ok (.iadd, 1) := by decide +kernel
theorem dX10_mend_148 : decode cX10_mend 148 = .ok (.iload_n 3, 1) := by decide +kernel
theorem dX10_mend_149 : decode cX10_mend 149 = .ok (.iastore, 1) := by decide +kernel
theorem dX10_mend_150 : decode cX10_mend 150 = .ok (.aload_n 0, 1) := by decide +kernel
theorem dX10_mend_151 : decode cX10_mend 151 = .ok (.dup, 1) := by decide +kernel
theorem dX10_mend_152 : decode cX10_mend 152 = .ok (.getfield 156, 3) := by decide +kernel
theorem dX10_mend_155 : decode cX10_mend 155 = .ok (.iconst 1, 1) := by decide +kernel
theorem dX10_mend_156 : decode cX10_mend 156 = .ok (.iadd, 1) := by decide +kernel
theorem dX10_mend_157 : decode cX10_mend 157 = .ok (.putfield 156, 3) := by decide +kernel
theorem dX10_mend_160 : decode cX10_mend 160 = .ok (.aload_n 0, 1) := by decide +kernel
theorem dX10_mend_161 : decode cX10_mend 161 = .ok (.aload_n 0, 1) := by decide +kernel
theorem dX10_mend_162 : decode cX10_mend 162 = .ok (.getfield 156, 3) := by decide +kernel
theorem dX10_mend_165 : decode cX10_mend 165 = .ok (.putfield 159, 3) := by decide +kernel
theorem dX10_mend_168 : decode cX10_mend 168 = .ok (.iload 4, 2) := by decide +kernel
theorem dX10_mend_170 : decode cX10_mend 170 = .ok (.ireturn, 1) := by decide +kernel
set_option maxRecDepth 20000 in
theorem dX10_of_0 : decode cX10_of 0 = .ok (.iload_n 2, 1) := by decide +kernel
theorem dX10_of_1 : decode cX10_of 1 = .ok (.bipush 8, 2) := by decide +kernel
theorem dX10_of_3 : decode cX10_of 3 = .ok (.if_icmp .ne 23, 3) := by decide +kernel
theorem dX10_of_6 : decode cX10_of 6 = .ok (.aload_n 0, 1) := by decide +kernel
theorem dX10_of_7 : decode cX10_of 7 = .ok (.iload_n 1, 1) := by decide +kernel
theorem dX10_of_8 : decode cX10_of 8 = .ok (.i2l, 1) := by decide +kernel
theorem dX10_of_9 : decode cX10_of 9 = .ok (.invokevirtual 137, 3) := by decide +kernel
theorem dX10_of_12 : decode cX10_of 12 = .ok (.ifCond .eq 12, 3) := by decide +kernel
theorem dX10_of_15 : decode cX10_of 15 = .ok (.aload_n 0, 1) := by decide +kernel
theorem dX10_of_16 : decode cX10_of 16 = .ok (.getfield 60, 3) := by decide +kernel
theorem dX10_of_19 : decode cX10_of 19 = .ok (.iload_n 1, 1) := by decide +kernel
theorem dX10_of_20 : decode cX10_of 20 = .ok (.iaload, 1) := by decide +kernel
theorem dX10_of_21 : decode cX10_of 21 = .ok (.goto 4, 3) := by decide +kernel
theorem dX10_of_24 : decode cX10_of 24 = .ok (.iconst (-1), 1) := by decide +kernel
theorem dX10_of_25 : decode cX10_of 25 = .ok (.ireturn, 1) := by decide +kernel
theorem dX10_of_26 : decode cX10_of 26 = .ok (.aload_n 0, 1) := by decide +kernel
theorem dX10_of_27 : decode cX10_of 27 = .ok (.iload_n 1, 1) := by decide +kernel
theorem dX10_of_28 : decode cX10_of 28 = .ok (.iload_n 2, 1) := by decide +kernel
theorem dX10_of_29 : decode cX10_of 29 = .ok (.invokevirtual 141, 3) := by decide +kernel
theorem dX10_of_32 : decode cX10_of 32 = .ok (.ifCond .eq 12, 3) := by decide +kernel
theorem dX10_of_35 : decode cX10_of 35 = .ok (.aload_n 0, 1) := by decide +kernel
theorem dX10_of_36 : decode cX10_of 36 = .ok (.iload_n 1, 1) := by decide +kernel
theorem dX10_of_37 : decode cX10_of 37 = .ok (.iload_n 2, 1) := by decide +kernel
theorem dX10_of_38 : decode cX10_of 38 = .ok (.invokevirtual 148, 3) := by decide +kernel
theorem dX10_of_41 : decode cX10_of 41 = .ok (.goto 4, 3) := by decide +kernel
theorem dX10_of_44 : decode cX10_of 44 = .ok (.iconst (-1), 1) := by decide +kernel
theorem dX10_of_45 : decode cX10_of 45 = .ok (.ireturn, 1) := by decide +kernel
set_option maxRecDepth 20000 in
theorem dX10_undo_0 : decode cX10_undo 0 = .ok (.aload_n 0, 1) := by decide +kernel
theorem dX10_undo_1 : decode cX10_undo 1 = .ok (.getfield 156, 3) := by decide +kernel
theorem dX10_undo_4 : decode cX10_undo 4 = .ok (.ifCond .ne 6, 3) := by decide +kernel
theorem dX10_undo_7 : decode cX10_undo 7 = .ok (.bipush (-5), 2) := by decide +kernel
theorem dX10_undo_9 : decode cX10_undo 9 = .ok (.ireturn, 1) := by decide +kernel
theorem dX10_undo_10 : decode cX10_undo 10 = .ok (.aload_n 0, 1) := by decide +kernel
theorem dX10_undo_11 : decode cX10_undo 11 = .ok (.dup, 1) := by decide +kernel
theorem dX10_undo_12 : decode cX10_undo 12 = .ok (.getfield 156, 3) := by decide +kernel
theorem dX10_undo_15 : decode cX10_undo 15 = .ok (.iconst 1, 1) := by decide +kernel
theorem dX10_undo_16 : decode cX10_undo 16 = .ok (.isub, 1) := by decide +kernel
theorem dX10_undo_17 : decode cX10_undo 17 = .ok (.putfield 156, 3) := by decide +kernel
theorem dX10_undo_20 : decode cX10_undo 20 = .ok (.aload_n 0, 1) := by decide +kernel
theorem dX10_undo_21 : decode cX10_undo 21 = .ok (.aload_n 0, 1) := by decide +kernel
theorem dX10_undo_22 : decode cX10_undo 22 = .ok (.getfield 72, 3) := by decide +kernel
theorem dX10_undo_25 : decode cX10_undo 25 = .ok (.iconst 4, 1) := by decide +kernel
theorem dX10_undo_26 : decode cX10_undo 26 = .ok (.aload_n 0, 1) := by decide +kernel
theorem dX10_undo_27 : decode cX10_undo 27 = .ok (.getfield 156, 3) := by decide +kernel
theorem dX10_undo_30 : decode cX10_undo 30 = .ok (.imul, 1) := by decide +kernel
theorem dX10_undo_31 : decode cX10_undo 31 = .ok (.iaload, 1) := by decide +kernel
theorem dX10_undo_32 : decode cX10_undo 32 = .ok (.aload_n 0, 1) := by decide +kernel
theorem dX10_undo_33 : decode cX10_undo 33 = .ok (.getfield 72, 3) := by decide +kernel
theorem dX10_undo_36 : decode cX10_undo 36 = .ok (.iconst 4, 1) := by decide +kernel
theorem dX10_undo_37 : decode cX10_undo 37 = .ok (.aload_n 0, 1) := by decide +kernel
theorem dX10_undo_38 : decode cX10_undo 38 = .ok (.getfield 156, 3) := by decide +kernel
theorem dX10_undo_41 : decode cX10_undo 41 = .ok (.imul, 1) := by decide +kernel
theorem dX10_undo_42 : decode cX10_undo 42 = .ok (.iconst 1, 1) := by decide +kernel
theorem dX10_undo_43 : decode cX10_undo 43 = .ok (.iadd, 1) := by decide +kernel
theorem dX10_undo_44 : decode cX10_undo 44 = .ok (.iaload, 1) := by decide +kernel
theorem dX10_undo_45 : decode cX10_undo 45 = .ok (.aload_n 0, 1) := by decide +kernel
theorem dX10_undo_46 : decode cX10_undo 46 = .ok (.getfield 72, 3) := by decide +kernel
theorem dX10_undo_49 : decode cX10_undo 49 = .ok (.iconst 4, 1) := by decide +kernel
theorem dX10_undo_50 : decode cX10_undo 50 = .ok (.aload_n 0, 1) := by decide +kernel
theorem dX10_undo_51 : decode cX10_undo 51 = .ok (.getfield 156, 3) := by decide +kernel
theorem dX10_undo_54 : decode cX10_undo 54 = .ok (.imul, 1) := by decide +kernel
theorem dX10_undo_55 : decode cX10_undo 55 = .ok (.iconst 2, 1) := by decide +kernel
theorem dX10_undo_56 : decode cX10_undo 56 = .ok (.iadd, 1) := by decide +kernel
theorem dX10_undo_57 : decode cX10_undo 57 = .ok (.iaload, 1) := by decide +kernel
theorem dX10_undo_58 : decode cX10_undo 58 = .ok (.invokevirtual 152, 3) := by decide +kernel
theorem dX10_undo_61 : decode cX10_undo 61 = .ok (.aload_n 0, 1) := by decide +kernel
theorem dX10_undo_62 : decode cX10_undo 62 = .ok (.getfield 156, 3) := by decide +kernel
theorem dX10_undo_65 : decode cX10_undo 65 = .ok (.ireturn, 1) := by decide +kernel
set_option maxRecDepth 20000 in
theorem dX10_redo_0 : decode cX10_redo 0 = .ok (.aload_n 0, 1) := by decide +kernel
theorem dX10_redo_1 : decode cX10_redo 1 = .ok (.getfield 156, 3) := by decide +kernel
theorem dX10_redo_4 : decode cX10_redo 4 = .ok (.aload_n 0, 1) := by decide +kernel
theorem dX10_redo_5 : decode cX10_redo 5 = .ok (.getfield 159, 3) := by decide +kernel
theorem dX10_redo_8 : decode cX10_redo 8 = .ok (.if_icmp .ne 6, 3) := by decide +kernel
theorem dX10_redo_11 : decode cX10_redo 11 = .ok (.bipush (-5), 2) := by decide +kernel
theorem dX10_redo_13 : decode cX10_redo 13 = .ok (.ireturn, 1) := by decide +kernel
theorem dX10_redo_14 : decode cX10_redo 14 = .ok (.aload_n 0, 1) := by decide +kernel
theorem dX10_redo_15 : decode cX10_redo 15 = .ok (.aload_n 0, 1) := by decide +kernel
theorem dX10_redo_16 : decode cX10_redo 16 = .ok (.getfield 72, 3) := by decide +kernel
theorem dX10_redo_19 : decode cX10_redo 19 = .ok (.iconst 4, 1) := by decide +kernel
theorem dX10_redo_20 : decode cX10_redo 20 = .ok (.aload_n 0, 1) := by decide +kernel
theorem dX10_redo_21 : decode cX10_redo 21 = .ok (.getfield 156, 3) := by decide +kernel
theorem dX10_redo_24 : decode cX10_redo 24 = .ok (.imul, 1) := by decide +kernel
theorem dX10_redo_25 : decode cX10_redo 25 = .ok (.iaload, 1) := by decide +kernel
theorem dX10_redo_26 : decode cX10_redo 26 = .ok (.aload_n 0, 1) := by decide +kernel
theorem dX10_redo_27 : decode cX10_redo 27 = .ok (.getfield 72, 3) := by decide +kernel
theorem dX10_redo_30 : decode cX10_redo 30 = .ok (.iconst 4, 1) := by decide +kernel
theorem dX10_redo_31 : decode cX10_redo 31 = .ok (.aload_n 0, 1) := by decide +kernel
theorem dX10_redo_32 : decode cX10_redo 32 = .ok (.getfield 156, 3) := by decide +kernel
theorem dX10_redo_35 : decode cX10_redo 35 = .ok (.imul, 1) := by decide +kernel
theorem dX10_redo_36 : decode cX10_redo 36 = .ok (.iconst 1, 1) := by decide +kernel
theorem dX10_redo_37 : decode cX10_redo 37 = .ok (.iadd, 1) := by decide +kernel
theorem dX10_redo_38 : decode cX10_redo 38 = .ok (.iaload, 1) := by decide +kernel
theorem dX10_redo_39 : decode cX10_redo 39 = .ok (.aload_n 0, 1) := by decide +kernel
theorem dX10_redo_40 : decode cX10_redo 40 = .ok (.getfield 72, 3) := by decide +kernel
theorem dX10_redo_43 : decode cX10_redo 43 = .ok (.iconst 4, 1) := by decide +kernel
theorem dX10_redo_44 : decode cX10_redo 44 = .ok (.aload_n 0, 1) := by decide +kernel
theorem dX10_redo_45 : decode cX10_redo 45 = .ok (.getfield 156, 3) := by decide +kernel
theorem dX10_redo_48 : decode cX10_redo 48 = .ok (.imul, 1) := by decide +kernel
theorem dX10_redo_49 : decode cX10_redo 49 = .ok (.iconst 3, 1) := by decide +kernel
theorem dX10_redo_50 : decode cX10_redo 50 = .ok (.iadd, 1) := by decide +kernel
theorem dX10_redo_51 : decode cX10_redo 51 = .ok (.iaload, 1) := by decide +kernel
theorem dX10_redo_52 : decode cX10_redo 52 = .ok (.invokevirtual 152, 3) := by decide +kernel
theorem dX10_redo_55 : decode cX10_redo 55 = .ok (.aload_n 0, 1) := by decide +kernel
theorem dX10_redo_56 : decode cX10_redo 56 = .ok (.dup, 1) := by decide +kernel
theorem dX10_redo_57 : decode cX10_redo 57 = .ok (.getfield 156, 3) := by decide +kernel
theorem dX10_redo_60 : decode cX10_redo 60 = .ok (.iconst 1, 1) := by decide +kernel
theorem dX10_redo_61 : decode cX10_redo 61 = .ok (.iadd, 1) := by decide +kernel
theorem dX10_redo_62 : decode cX10_redo 62 = .ok (.putfield 156, 3) := by decide +kernel
theorem dX10_redo_65 : decode cX10_redo 65 = .ok (.aload_n 0, 1) := by decide +kernel
theorem dX10_redo_66 : decode cX10_redo 66 = .ok (.getfield 159, 3) := by decide +kernel
theorem dX10_redo_69 : decode cX10_redo 69 = .ok (.aload_n 0, 1) := by decide +kernel
theorem dX10_redo_70 : decode cX10_redo 70 = .ok (.getfield 156, 3) := by decide +kernel
theorem dX10_redo_73 : decode cX10_redo 73 = .ok (.isub, 1) := by decide +kernel
theorem dX10_redo_74 : decode cX10_redo 74 = .ok (.ireturn, 1) := by decide +kernel
set_option maxRecDepth 20000 in
theorem dX10_feed_0 : decode cX10_feed 0 = .ok (.iload_n 1, 1) := by decide +kernel
theorem dX10_feed_1 : decode cX10_feed 1 = .ok (.iconst 0, 1) := by decide +kernel
theorem dX10_feed_2 : decode cX10_feed 2 = .ok (.sipush 255, 3) := by decide +kernel
theorem dX10_feed_5 : decode cX10_feed 5 = .ok (.invokestatic 123, 3) := by decide +kernel
theorem dX10_feed_8 : decode cX10_feed 8 = .ok (.ifCond .ne 5, 3) := by decide +kernel
theorem dX10_feed_11 : decode cX10_feed 11 = .ok (.iconst (-1), 1) := by decide +kernel
theorem dX10_feed_12 : decode cX10_feed 12 = .ok (.ireturn, 1) := by decide +kernel
theorem dX10_feed_13 : decode cX10_feed 13 = .ok (.aload_n 0, 1) := by decide +kernel
theorem dX10_feed_14 : decode cX10_feed 14 = .ok (.getfield 162, 3) := by decide +kernel
theorem dX10_feed_17 : decode cX10_feed 17 = .ok (.bipush 120, 2) := by decide +kernel
theorem dX10_feed_19 : decode cX10_feed 19 = .ok (.if_icmp .ne 6, 3) := by decide +kernel
theorem dX10_feed_22 : decode cX10_feed 22 = .ok (.bipush (-3), 2) := by decide +kernel
theorem dX10_feed_24 : decode cX10_feed 24 = .ok (.ireturn, 1) := by decide +kernel
theorem dX10_feed_25 : decode cX10_feed 25 = .ok (.aload_n 0, 1) := by decide +kernel
theorem dX10_feed_26 : decode cX10_feed 26 = .ok (.getfield 27, 3) := by decide +kernel
theorem dX10_feed_29 : decode cX10_feed 29 = .ok (.aload_n 0, 1) := by decide +kernel
theorem dX10_feed_30 : decode cX10_feed 30 = .ok (.dup, 1) := by decide +kernel
theorem dX10_feed_31 : decode cX10_feed 31 = .ok (.getfield 162, 3) := by decide +kernel
theorem dX10_feed_34 : decode cX10_feed 34 = .ok (.dup_x1, 1) := by decide +kernel
theorem dX10_feed_35 : decode cX10_feed 35 = .ok (.iconst 1, 1) := by decide +kernel
theorem dX10_feed_36 : decode cX10_feed 36 = .ok (.iadd, 1) := by decide +kernel
theorem dX10_feed_37 : decode cX10_feed 37 = .ok (.putfield 162, 3) := by decide +kernel
theorem dX10_feed_40 : decode cX10_feed 40 = .ok (.iload_n 1, 1) := by decide +kernel
theorem dX10_feed_41 : decode cX10_feed 41 = .ok (.iastore, 1) := by decide +kernel
theorem dX10_feed_42 : decode cX10_feed 42 = .ok (.aload_n 0, 1) := by decide +kernel
theorem dX10_feed_43 : decode cX10_feed 43 = .ok (.getfield 162, 3) := by decide +kernel
theorem dX10_feed_46 : decode cX10_feed 46 = .ok (.ireturn, 1) := by decide +kernel
theorem dX10_sign_0 : decode cX10_sign 0 = .ok (.aload_n 0, 1) := by decide +kernel
theorem dX10_sign_1 : decode cX10_sign 1 = .ok (.getfield 165, 3) := by decide +kernel
theorem dX10_sign_4 : decode cX10_sign 4 = .ok (.aload_n 0, 1) := by decide +kernel
theorem dX10_sign_5 : decode cX10_sign 5 = .ok (.getfield 162, 3) := by decide +kernel
theorem dX10_sign_8 : decode cX10_sign 8 = .ok (.if_icmp .ge 15, 3) := by decide +kernel
theorem dX10_sign_11 : decode cX10_sign 11 = .ok (.aload_n 0, 1) := by decide +kernel
theorem dX10_sign_12 : decode cX10_sign 12 = .ok (.getfield 27, 3) := by decide +kernel
theorem dX10_sign_15 : decode cX10_sign 15 = .ok (.aload_n 0, 1) := by decide +kernel
theorem dX10_sign_16 : decode cX10_sign 16 = .ok (.getfield 165, 3) := by decide +kernel
theorem dX10_sign_19 : decode cX10_sign 19 = .ok (.iaload, 1) := by decide +kernel
theorem dX10_sign_20 : decode cX10_sign 20 = .ok (.goto 4, 3) := by decide +kernel
theorem dX10_sign_23 : decode cX10_sign 23 = .ok (.iconst (-1), 1) := by decide +kernel
theorem dX10_sign_24 : decode cX10_sign 24 = .ok (.ireturn, 1) := by decide +kernel
set_option maxRecDepth 20000 in
theorem dX10_is_0 : decode cX10_is 0 = .ok (.aload_n 0, 1) := by decide +kernel
theorem dX10_is_1 : decode cX10_is 1 = .ok (.invokevirtual 168, 3) := by decide +kernel
theorem dX10_is_4 : decode cX10_is 4 = .ok (.iload_n 1, 1) := by decide +kernel
theorem dX10_is_5 : decode cX10_is 5 = .ok (.if_icmp .eq 5, 3) := by decide +kernel
theorem dX10_is_8 : decode cX10_is 8 = .ok (.iconst 0, 1) := by decide +kernel
theorem dX10_is_9 : decode cX10_is 9 = .ok (.ireturn, 1) := by decide +kernel
theorem dX10_is_10 : decode cX10_is 10 = .ok (.aload_n 0, 1) := by decide +kernel
theorem dX10_is_11 : decode cX10_is 11 = .ok (.dup, 1) := by decide +kernel
theorem dX10_is_12 : decode cX10_is 12 = .ok (.getfield 165, 3) := by decide +kernel
theorem dX10_is_15 : decode cX10_is 15 = .ok (.iconst 1, 1) := by decide +kernel
theorem dX10_is_16 : decode cX10_is 16 = .ok (.iadd, 1) := by decide +kernel
theorem dX10_is_17 : decode cX10_is 17 = .ok (.putfield 165, 3) := by decide +kernel
theorem dX10_is_20 : decode cX10_is 20 = .ok (.iconst 1, 1) := by decide +kernel
theorem dX10_is_21 : decode cX10_is 21 = .ok (.ireturn, 1) := by decide +kernel
theorem dX10_codes_0 : decode cX10_codes 0 = .ok (.aload_n 0, 1) := by decide +kernel
theorem dX10_codes_1 : decode cX10_codes 1 = .ok (.getfield 51, 3) := by decide +kernel
theorem dX10_codes_4 : decode cX10_codes 4 = .ok (.aload_n 0, 1) := by decide +kernel
theorem dX10_codes_5 : decode cX10_codes 5 = .ok (.dup, 1) := by decide +kernel
theorem dX10_codes_6 : decode cX10_codes 6 = .ok (.getfield 172, 3) := by decide +kernel
theorem dX10_codes_9 : decode cX10_codes 9 = .ok (.dup_x1, 1) := by decide +kernel
theorem dX10_codes_10 : decode cX10_codes 10 = .ok (.iconst 1, 1) := by decide +kernel
theorem dX10_codes_11 : decode cX10_codes 11 = .ok (.iadd, 1) := by decide +kernel
theorem dX10_codes_12 : decode cX10_codes 12 = .ok (.putfield 172, 3) := by decide +kernel
theorem dX10_codes_15 : decode cX10_codes 15 = .ok (.iload_n 1, 1) := by decide +kernel
theorem dX10_codes_16 : decode cX10_codes 16 = .ok (.iastore, 1) := by decide +kernel
theorem dX10_codes_17 : decode cX10_codes 17 = .ok (.iconst 1, 1) := by decide +kernel
theorem dX10_codes_18 : decode cX10_codes 18 = .ok (.ireturn, 1) := by decide +kernel
set_option maxRecDepth 20000 in
theorem dX10_isDigit_0 : decode cX10_isDigit 0 = .ok (.aload_n 0, 1) := by decide +kernel
theorem dX10_isDigit_1 : decode cX10_isDigit 1 = .ok (.invokevirtual 168, 3) := by decide +kernel
theorem dX10_isDigit_4 : decode cX10_isDigit 4 = .ok (.bipush 48, 2) := by decide +kernel
theorem dX10_isDigit_6 : decode cX10_isDigit 6 = .ok (.if_icmp .lt 16, 3) := by decide +kernel
theorem dX10_isDigit_9 : decode cX10_isDigit 9 = .ok (.aload_n 0, 1) := by decide +kernel
theorem dX10_isDigit_10 : decode cX10_isDigit 10 = .ok (.invokevirtual 168, 3) := by decide +kernel
theorem dX10_isDigit_13 : decode cX10_isDigit 13 = .ok (.bipush 57, 2) := by decide +kernel
theorem dX10_isDigit_15 : decode cX10_isDigit 15 = .ok (.if_icmp .gt 7, 3) := by decide +kernel
theorem dX10_isDigit_18 : decode cX10_isDigit 18 = .ok (.iconst 1, 1) := by decide +kernel
theorem dX10_isDigit_19 : decode cX10_isDigit 19 = .ok (.goto 4, 3) := by decide +kernel
theorem dX10_isDigit_22 : decode cX10_isDigit 22 = .ok (.iconst 0, 1) := by decide +kernel
theorem dX10_isDigit_23 : decode cX10_isDigit 23 = .ok (.ireturn, 1) := by decide +kernel
theorem dX10_nameOf_0 : decode cX10_nameOf 0 = .ok (.iload_n 0, 1) := by decide +kernel
theorem dX10_nameOf_1 : decode cX10_nameOf 1 = .ok (.tableswitch 103 100 118 #[97, 103, 103, 103, 103, 103, 103, 103, 103, 95, 101, 103, 99, 103, 103, 103, 103, 93, 91], 91) := by decide +kernel
theorem dX10_nameOf_92 : decode cX10_nameOf 92 = .ok (.iconst 0, 1) := by decide +kernel
theorem dX10_nameOf_93 : decode cX10_nameOf 93 = .ok (.ireturn, 1) := by decide +kernel
theorem dX10_nameOf_94 : decode cX10_nameOf 94 = .ok (.iconst 1, 1) := by decide +kernel
theorem dX10_nameOf_95 : decode cX10_nameOf 95 = .ok (.ireturn, 1) := by decide +kernel
theorem dX10_nameOf_96 : decode cX10_nameOf 96 = .ok (.iconst 2, 1) := by decide +kernel
theorem dX10_nameOf_97 : decode cX10_nameOf 97 = .ok (.ireturn, 1) := by decide +kernel
theorem dX10_nameOf_98 : decode cX10_nameOf 98 = .ok (.iconst 3, 1) := by decide +kernel
theorem dX10_nameOf_99 : decode cX10_nameOf 99 = .ok (.ireturn, 1) := by decide +kernel
theorem dX10_nameOf_100 : decode cX10_nameOf 100 = .ok (.iconst 4, 1) := by decide +kernel
theorem dX10_nameOf_101 : decode cX10_nameOf 101 = .ok (.ireturn, 1) := by decide +kernel
theorem dX10_nameOf_102 : decode cX10_nameOf 102 = .ok (.iconst 5, 1) := by decide +kernel
theorem dX10_nameOf_103 : decode cX10_nameOf 103 = .ok (.ireturn, 1) := by decide +kernel
theorem dX10_nameOf_104 : decode cX10_nameOf 104 = .ok (.iconst (-1), 1) := by decide +kernel
theorem dX10_nameOf_105 : decode cX10_nameOf 105 = .ok (.ireturn, 1) := by decide +kernel
set_option maxRecDepth 20000 in
theorem dX10_isO_0 : decode cX10_isO 0 = .ok (.aload_n 0, 1) := by decide +kernel
theorem dX10_isO_1 : decode cX10_isO 1 = .ok (.invokevirtual 175, 3) := by decide +kernel
theorem dX10_isO_4 : decode cX10_isO 4 = .ok (.ifCond .eq 62, 3) := by decide +kernel
theorem dX10_isO_7 : decode cX10_isO 7 = .ok (.iconst 0, 1) := by decide +kernel
theorem dX10_isO_8 : decode cX10_isO 8 = .ok (.istore_n 1, 1) := by decide +kernel
theorem dX10_isO_9 : decode cX10_isO 9 = .ok (.iconst 0, 1) := by decide +kernel
theorem dX10_isO_10 : decode cX10_isO 10 = .ok (.istore_n 2, 1) := by decide +kernel
theorem dX10_isO_11 : decode cX10_isO 11 = .ok (.iload_n 2, 1) := by decide +kernel
theorem dX10_isO_12 : decode cX10_isO 12 = .ok (.iconst 4, 1) := by decide +kernel
theorem dX10_isO_13 : decode cX10_isO 13 = .ok (.if_icmp .ge 44, 3) := by decide +kernel
theorem dX10_isO_16 : decode cX10_isO 16 = .ok (.aload_n 0, 1) := by decide +kernel
theorem dX10_isO_17 : decode cX10_isO 17 = .ok (.invokevirtual 175, 3) := by decide +kernel
theorem dX10_isO_20 : decode cX10_isO 20 = .ok (.ifCond .eq 37, 3) := by decide +kernel
theorem dX10_isO_23 : decode cX10_isO 23 = .ok (.bipush 10, 2) := by decide +kernel
theorem dX10_isO_25 : decode cX10_isO 25 = .ok (.iload_n 1, 1) := by decide +kernel
theorem dX10_isO_26 : decode cX10_isO 26 = .ok (.imul, 1) := by decide +kernel
theorem dX10_isO_27 : decode cX10_isO 27 = .ok (.aload_n 0, 1) := by decide +kernel
theorem dX10_isO_28 : decode cX10_isO 28 = .ok (.getfield 27, 3) := by decide +kernel
theorem dX10_isO_31 : decode cX10_isO 31 = .ok (.aload_n 0, 1) := by decide +kernel
theorem dX10_isO_32 : decode cX10_isO 32 = .ok (.getfield 165, 3) := by decide +kernel
theorem dX10_isO_35 : decode cX10_isO 35 = .ok (.iaload, 1) := by decide +kernel
theorem dX10_isO_36 : decode cX10_isO 36 = .ok (.iadd, 1) := by decide +kernel
theorem dX10_isO_37 : decode cX10_isO 37 = .ok (.bipush 48, 2) := by decide +kernel
theorem dX10_isO_39 : decode cX10_isO 39 = .ok (.isub, 1) := by decide +kernel
theorem dX10_isO_40 : decode cX10_isO 40 = .ok (.istore_n 1, 1) := by decide +kernel
theorem dX10_isO_41 : decode cX10_isO 41 = .ok (.aload_n 0, 1) := by decide +kernel
theorem dX10_isO_42 : decode cX10_isO 42 = .ok (.dup, 1) := by decide +kernel
theorem dX10_isO_43 : decode cX10_isO 43 = .ok (.getfield 165, 3) := by decide +kernel
theorem dX10_isO_46 : decode cX10_isO 46 = .ok (.iconst 1, 1) := by decide +kernel
theorem dX10_isO_47 : decode cX10_isO 47 = .ok (.iadd, 1) := by decide +kernel
theorem dX10_isO_48 : decode cX10_isO 48 = .ok (.putfield 165, 3) := by decide +kernel
theorem dX10_isO_51 : decode cX10_isO 51 = .ok (.iinc 2 1, 3) := by decide +kernel
theorem dX10_isO_54 : decode cX10_isO 54 = .ok (.goto (-43), 3) := by decide +kernel
theorem dX10_isO_57 : decode cX10_isO 57 = .ok (.aload_n 0, 1) := by decide +kernel
theorem dX10_isO_58 : decode cX10_isO 58 = .ok (.bipush 18, 2) := by decide +kernel
theorem dX10_isO_60 : decode cX10_isO 60 = .ok (.iload_n 1, 1) := by decide +kernel
theorem dX10_isO_61 : decode cX10_isO 61 = .ok (.iadd, 1) := by decide +kernel
theorem dX10_isO_62 : decode cX10_isO 62 = .ok (.invokevirtual 179, 3) := by decide +kernel
theorem dX10_isO_65 : decode cX10_isO 65 = .ok (.ireturn, 1) := by decide +kernel
theorem dX10_isO_66 : decode cX10_isO 66 = .ok (.aload_n 0, 1) := by decide +kernel
theorem dX10_isO_67 : decode cX10_isO 67 = .ok (.invokevirtual 168, 3) := by decide +kernel
theorem dX10_isO_70 : decode cX10_isO 70 = .ok (.invokestatic 182, 3) := by decide +kernel
theorem dX10_isO_73 : decode cX10_isO 73 = .ok (.istore_n 1, 1) := by decide +kernel
theorem dX10_isO_74 : decode cX10_isO 74 = .ok (.iload_n 1, 1) := by decide +kernel
theorem dX10_isO_75 : decode cX10_isO 75 = .ok (.ifCond .lt 19, 3) := by decide +kernel
theorem dX10_isO_78 : decode cX10_isO 78 = .ok (.aload_n 0, 1) := by decide +kernel
theorem dX10_isO_79 : decode cX10_isO 79 = .ok (.dup, 1) := by decide +kernel
theorem dX10_isO_80 : decode cX10_isO 80 = .ok (.getfield 165, 3) := by decide +kernel
theorem dX10_isO_83 : decode cX10_isO 83 = .ok (.iconst 1, 1) := by decide +kernel
theorem dX10_isO_84 : decode cX10_isO 84 = .ok (.iadd, 1) := by decide +kernel
theorem dX10_isO_85 : decode cX10_isO 85 = .ok (.putfield 165, 3) := by decide +kernel
theorem dX10_isO_88 : decode cX10_isO 88 = .ok (.aload_n 0, 1) := by decide +kernel
theorem dX10_isO_89 : decode cX10_isO 89 = .ok (.iload_n 1, 1) := by decide +kernel
theorem dX10_isO_90 : decode cX10_isO 90 = .ok (.invokevirtual 179, 3) := by decide +kernel
theorem dX10_isO_93 : decode cX10_isO 93 = .ok (.ireturn, 1) := by decide +kernel
theorem dX10_isO_94 : decode cX10_isO 94 = .ok (.aload_n 0, 1) := by decide +kernel
theorem dX10_isO_95 : decode cX10_isO 95 = .ok (.getfield 186, 3) := by decide +kernel
theorem dX10_isO_98 : decode cX10_isO 98 = .ok (.bipush 6, 2) := by decide +kernel
theorem dX10_isO_100 : decode cX10_isO 100 = .ok (.if_icmp .ne 5, 3) := by decide +kernel
theorem dX10_isO_103 : decode cX10_isO 103 = .ok (.iconst 0, 1) := by decide +kernel
theorem dX10_isO_104 : decode cX10_isO 104 = .ok (.ireturn, 1) := by decide +kernel
theorem dX10_isO_105 : decode cX10_isO 105 = .ok (.aload_n 0, 1) := by decide +kernel
theorem dX10_isO_106 : decode cX10_isO 106 = .ok (.dup, 1) := by decide +kernel
theorem dX10_isO_107 : decode cX10_isO 107 = .ok (.getfield 186, 3) := by decide +kernel
theorem dX10_isO_110 : decode cX10_isO 110 = .ok (.iconst 1, 1) := by decide +kernel
theorem dX10_isO_111 : decode cX10_isO 111 = .ok (.iadd, 1) := by decide +kernel
theorem dX10_isO_112 : decode cX10_isO 112 = .ok (.putfield 186, 3) := by decide +kernel
theorem dX10_isO_115 : decode cX10_isO 115 = .ok (.aload_n 0, 1) := by decide +kernel
theorem dX10_isO_116 : decode cX10_isO 116 = .ok (.bipush 33, 2) := by decide +kernel
theorem dX10_isO_118 : decode cX10_isO 118 = .ok (.invokevirtual 189, 3) := by decide +kernel
theorem dX10_isO_121 : decode cX10_isO 121 = .ok (.ifCond .eq 28, 3) := by decide +kernel
theorem dX10_isO_124 : decode cX10_isO 124 = .ok (.aload_n 0, 1) := by decide +kernel
theorem dX10_isO_125 : decode cX10_isO 125 = .ok (.invokevirtual 192, 3) := by decide +kernel
theorem dX10_isO_128 : decode cX10_isO 128 = .ok (.ifCond .eq 16, 3) := by decide +kernel
theorem dX10_isO_131 : decode cX10_isO 131 = .ok (.aload_n 0, 1) := by decide +kernel
theorem dX10_isO_132 : decode cX10_isO 132 = .ok (.bipush 16, 2) := by decide +kernel
theorem dX10_isO_134 : decode cX10_isO 134 = .ok (.invokevirtual 179, 3) := by decide +kernel
theorem dX10_isO_137 : decode cX10_isO 137 = .ok (.ifCond .eq 7, 3) := by decide +kernel
theorem dX10_isO_140 : decode cX10_isO 140 = .ok (.iconst 1, 1) := by decide +kernel
theorem dX10_isO_141 : decode cX10_isO 141 = .ok (.goto 4, 3) := by decide +kernel
theorem dX10_isO_144 : decode cX10_isO 144 = .ok (.iconst 0, 1) := by decide +kernel
theorem dX10_isO_145 : decode cX10_isO 145 = .ok (.istore_n 2, 1) := by decide +kernel
theorem dX10_isO_146 : decode cX10_isO 146 = .ok (.goto 68, 3) := by decide +kernel
theorem dX10_isO_149 : decode cX10_isO 149 = .ok (.aload_n 0, 1) := by decide +kernel
theorem dX10_isO_150 : decode cX10_isO 150 = .ok (.bipush 45, 2) := by decide +kernel
theorem dX10_isO_152 : decode cX10_isO 152 = .ok (.invokevirtual 189, 3) := by decide +kernel
theorem dX10_isO_155 : decode cX10_isO 155 = .ok (.ifCond .eq 28, 3) := by decide +kernel
theorem dX10_isO_158 : decode cX10_isO 158 = .ok (.aload_n 0, 1) := by decide +kernel
theorem dX10_isO_159 : decode cX10_isO 159 = .ok (.invokevirtual 192, 3) := by decide +kernel
theorem dX10_isO_162 : decode cX10_isO 162 = .ok (.ifCond .eq 16, 3) := by decide +kernel
theorem dX10_isO_165 : decode cX10_isO 165 = .ok (.aload_n 0, 1) := by decide +kernel
theorem dX10_isO_166 : decode cX10_isO 166 = .ok (.bipush 17, 2) := by decide +kernel
theorem dX10_isO_168 : decode cX10_isO 168 = .ok (.invokevirtual 179, 3) := by decide +kernel
theorem dX10_isO_171 : decode cX10_isO 171 = .ok (.ifCond .eq 7, 3) := by decide +kernel
theorem dX10_isO_174 : decode cX10_isO 174 = .ok (.iconst 1, 1) := by decide +kernel
theorem dX10_isO_175 : decode cX10_isO 175 = .ok (.goto 4, 3) := by decide +kernel
theorem dX10_isO_178 : decode cX10_isO 178 = .ok (.iconst 0, 1) := by decide +kernel
theorem dX10_isO_179 : decode cX10_isO 179 = .ok (.istore_n 2, 1) := by decide +kernel
theorem dX10_isO_180 : decode cX10_isO 180 = .ok (.goto 34, 3) := by decide +kernel
theorem dX10_isO_183 : decode cX10_isO 183 = .ok (.aload_n 0, 1) := by decide +kernel
theorem dX10_isO_184 : decode cX10_isO 184 = .ok (.bipush 40, 2) := by decide +kernel
theorem dX10_isO_186 : decode cX10_isO 186 = .ok (.invokevirtual 189, 3) := by decide +kernel
theorem dX10_isO_189 : decode cX10_isO 189 = .ok (.ifCond .eq 23, 3) := by decide +kernel
theorem dX10_isO_192 : decode cX10_isO 192 = .ok (.aload_n 0, 1) := by decide +kernel
theorem dX10_isO_193 : decode cX10_isO 193 = .ok (.invokevirtual 195, 3) := by decide +kernel
theorem dX10_isO_196 : decode cX10_isO 196 = .ok (.ifCond .eq 16, 3) := by decide +kernel
theorem dX10_isO_199 : decode cX10_isO 199 = .ok (.aload_n 0, 1) := by decide +kernel
theorem dX10_isO_200 : decode cX10_isO 200 = .ok (.bipush 41, 2) := by decide +kernel
theorem dX10_isO_202 : decode cX10_isO 202 = .ok (.invokevirtual 189, 3) := by decide +kernel
theorem dX10_isO_205 : decode cX10_isO 205 = .ok (.ifCond .eq 7, 3) := by decide +kernel
theorem dX10_isO_208 : decode cX10_isO 208 = .ok (.iconst 1, 1) := by decide +kernel
theorem dX10_isO_209 : decode cX10_isO 209 = .ok (.goto 4, 3) := by decide +kernel
theorem dX10_isO_212 : decode cX10_isO 212 = .ok (.iconst 0, 1) := by decide +kernel
theorem dX10_isO_213 : decode cX10_isO 213 = .ok (.istore_n 2, 1) := by decide +kernel
theorem dX10_isO_214 : decode cX10_isO 214 = .ok (.aload_n 0, 1) := by decide +kernel
theorem dX10_isO_215 : decode cX10_isO 215 = .ok (.dup, 1) := by decide +kernel
theorem dX10_isO_216 : decode cX10_isO 216 = .ok (.getfield 186, 3) := by decide +kernel
theorem dX10_isO_219 : decode cX10_isO 219 = .ok (.iconst 1, 1) := by decide +kernel
theorem dX10_isO_220 : decode cX10_isO 220 = .ok (.isub, 1) := by decide +kernel
theorem dX10_isO_221 : decode cX10_isO 221 = .ok (.putfield 186, 3) := by decide +kernel
theorem dX10_isO_224 : decode cX10_isO 224 = .ok (.iload_n 2, 1) := by decide +kernel
theorem dX10_isO_225 : decode cX10_isO 225 = .ok (.ireturn, 1) := by decide +kernel
set_option maxRecDepth 20000 in
theorem dX10_isP_0 : decode cX10_isP 0 = .ok (.aload_n 0, 1) := by decide +kernel
theorem dX10_isP_1 : decode cX10_isP 1 = .ok (.invokevirtual 192, 3) := by decide +kernel
theorem dX10_isP_4 : decode cX10_isP 4 = .ok (.ifCond .ne 5, 3) := by decide +kernel
theorem dX10_isP_7 : decode cX10_isP 7 = .ok (.iconst 0, 1) := by decide +kernel
theorem dX10_isP_8 : decode cX10_isP 8 = .ok (.ireturn, 1) := by decide +kernel
theorem dX10_isP_9 : decode cX10_isP 9 = .ok (.aload_n 0, 1) := by decide +kernel
theorem dX10_isP_10 : decode cX10_isP 10 = .ok (.invokevirtual 168, 3) := by decide +kernel
theorem dX10_isP_13 : decode cX10_isP 13 = .ok (.bipush 42, 2) := by decide +kernel
theorem dX10_isP_15 : decode cX10_isP 15 = .ok (.if_icmp .ne 8, 3) := by decide +kernel
theorem dX10_isP_18 : decode cX10_isP 18 = .ok (.bipush 13, 2) := by decide +kernel
theorem dX10_isP_20 : decode cX10_isP 20 = .ok (.goto 32, 3) := by decide +kernel
theorem dX10_isP_23 : decode cX10_isP 23 = .ok (.aload_n 0, 1) := by decide +kernel
theorem dX10_isP_24 : decode cX10_isP 24 = .ok (.invokevirtual 168, 3) := by decide +kernel
theorem dX10_isP_27 : decode cX10_isP 27 = .ok (.bipush 47, 2) := by decide +kernel
theorem dX10_isP_29 : decode cX10_isP 29 = .ok (.if_icmp .ne 8, 3) := by decide +kernel
theorem dX10_isP_32 : decode cX10_isP 32 = .ok (.bipush 14, 2) := by decide +kernel
theorem dX10_isP_34 : decode cX10_isP 34 = .ok (.goto 18, 3) := by decide +kernel
theorem dX10_isP_37 : decode cX10_isP 37 = .ok (.aload_n 0, 1) := by decide +kernel
theorem dX10_isP_38 : decode cX10_isP 38 = .ok (.invokevirtual 168, 3) := by decide +kernel
theorem dX10_isP_41 : decode cX10_isP 41 = .ok (.bipush 37, 2) := by decide +kernel
theorem dX10_isP_43 : decode cX10_isP 43 = .ok (.if_icmp .ne 8, 3) := by decide +kernel
theorem dX10_isP_46 : decode cX10_isP 46 = .ok (.bipush 15, 2) := by decide +kernel
theorem dX10_isP_48 : decode cX10_isP 48 = .ok (.goto 4, 3) := by decide +kernel
theorem dX10_isP_51 : decode cX10_isP 51 = .ok (.iconst (-1), 1) := by decide +kernel
theorem dX10_isP_52 : decode cX10_isP 52 = .ok (.istore_n 1, 1) := by decide +kernel
theorem dX10_isP_53 : decode cX10_isP 53 = .ok (.iload_n 1, 1) := by decide +kernel
theorem dX10_isP_54 : decode cX10_isP 54 = .ok (.ifCond .ge 5, 3) := by decide +kernel
theorem dX10_isP_57 : decode cX10_isP 57 = .ok (.iconst 1, 1) := by decide +kernel
theorem dX10_isP_58 : decode cX10_isP 58 = .ok (.ireturn, 1) := by decide +kernel
theorem dX10_isP_59 : decode cX10_isP 59 = .ok (.aload_n 0, 1) := by decide +kernel
theorem dX10_isP_60 : decode cX10_isP 60 = .ok (.dup, 1) := by decide +kernel
theorem dX10_isP_61 : decode cX10_isP 61 = .ok (.getfield 165, 3) := by decide +kernel
theorem dX10_isP_64 : decode cX10_isP 64 = .ok (.iconst 1, 1) := by decide +kernel
theorem dX10_isP_65 : decode cX10_isP 65 = .ok (.iadd, 1) := by decide +kernel
theorem dX10_isP_66 : decode cX10_isP 66 = .ok (.putfield 165, 3) := by decide +kernel
theorem dX10_isP_69 : decode cX10_isP 69 = .ok (.aload_n 0, 1) := by decide +kernel
theorem dX10_isP_70 : decode cX10_isP 70 = .ok (.invokevirtual 192, 3) := by decide +kernel
theorem dX10_isP_73 : decode cX10_isP 73 = .ok (.ifCond .ne 5, 3) := by decide +kernel
theorem dX10_isP_76 : decode cX10_isP 76 = .ok (.iconst 0, 1) := by decide +kernel
theorem dX10_isP_77 : decode cX10_isP 77 = .ok (.ireturn, 1) := by decide +kernel
theorem dX10_isP_78 : decode cX10_isP 78 = .ok (.aload_n 0, 1) := by decide +kernel
theorem dX10_isP_79 : decode cX10_isP 79 = .ok (.iload_n 1, 1) := by decide +kernel
theorem dX10_isP_80 : decode cX10_isP 80 = .ok (.invokevirtual 179, 3) := by decide +kernel
theorem dX10_isP_83 : decode cX10_isP 83 = .ok (.pop, 1) := by decide +kernel
theorem dX10_isP_84 : decode cX10_isP 84 = .ok (.goto (-75), 3) := by decide +kernel
set_option maxRecDepth 20000 in
theorem dX10_isS_0 : decode cX10_isS 0 = .ok (.aload_n 0, 1) := by decide +kernel
theorem dX10_isS_1 : decode cX10_isS 1 = .ok (.invokevirtual 198, 3) := by decide +kernel
theorem dX10_isS_4 : decode cX10_isS 4 = .ok (.ifCond .ne 5, 3) := by decide +kernel
theorem dX10_isS_7 : decode cX10_isS 7 = .ok (.iconst 0, 1) := by decide +kernel
theorem dX10_isS_8 : decode cX10_isS 8 = .ok (.ireturn, 1) := by decide +kernel
theorem dX10_isS_9 : decode cX10_isS 9 = .ok (.aload_n 0, 1) := by decide +kernel
theorem dX10_isS_10 : decode cX10_isS 10 = .ok (.invokevirtual 168, 3) := by decide +kernel
theorem dX10_isS_13 : decode cX10_isS 13 = .ok (.bipush 43, 2) := by decide +kernel
theorem dX10_isS_15 : decode cX10_isS 15 = .ok (.if_icmp .ne 8, 3) := by decide +kernel
theorem dX10_isS_18 : decode cX10_isS 18 = .ok (.bipush 11, 2) := by decide +kernel
theorem dX10_isS_20 : decode cX10_isS 20 = .ok (.goto 18, 3) := by decide +kernel
theorem dX10_isS_23 : decode cX10_isS 23 = .ok (.aload_n 0, 1) := by decide +kernel
theorem dX10_isS_24 : decode cX10_isS 24 = .ok (.invokevirtual 168, 3) := by decide +kernel
theorem dX10_isS_27 : decode cX10_isS 27 = .ok (.bipush 45, 2) := by decide +kernel
theorem dX10_isS_29 : decode cX10_isS 29 = .ok (.if_icmp .ne 8, 3) := by decide +kernel
theorem dX10_isS_32 : decode cX10_isS 32 = .ok (.bipush 12, 2) := by decide +kernel
theorem dX10_isS_34 : decode cX10_isS 34 = .ok (.goto 4, 3) := by decide +kernel
theorem dX10_isS_37 : decode cX10_isS 37 = .ok (.iconst (-1), 1) := by decide +kernel
theorem dX10_isS_38 : decode cX10_isS 38 = .ok (.istore_n 1, 1) := by decide +kernel
theorem dX10_isS_39 : decode cX10_isS 39 = .ok (.iload_n 1, 1) := by decide +kernel
theorem dX10_isS_40 : decode cX10_isS 40 = .ok (.ifCond .ge 5, 3) := by decide +kernel
theorem dX10_isS_43 : decode cX10_isS 43 = .ok (.iconst 1, 1) := by decide +kernel
theorem dX10_isS_44 : decode cX10_isS 44 = .ok (.ireturn, 1) := by decide +kernel
theorem dX10_isS_45 : decode cX10_isS 45 = .ok (.aload_n 0, 1) := by decide +kernel
theorem dX10_isS_46 : decode cX10_isS 46 = .ok (.dup, 1) := by decide +kernel
theorem dX10_isS_47 : decode cX10_isS 47 = .ok (.getfield 165, 3) := by decide +kernel
theorem dX10_isS_50 : decode cX10_isS 50 = .ok (.iconst 1, 1) := by decide +kernel
theorem dX10_isS_51 : decode cX10_isS 51 = .ok (.iadd, 1) := by decide +kernel
theorem dX10_isS_52 : decode cX10_isS 52 = .ok (.putfield 165, 3) := by decide +kernel
theorem dX10_isS_55 : decode cX10_isS 55 = .ok (.aload_n 0, 1) := by decide +kernel
theorem dX10_isS_56 : decode cX10_isS 56 = .ok (.invokevirtual 198, 3) := by decide +kernel
theorem dX10_isS_59 : decode cX10_isS 59 = .ok (.ifCond .ne 5, 3) := by decide +kernel
theorem dX10_isS_62 : decode cX10_isS 62 = .ok (.iconst 0, 1) := by decide +kernel
theorem dX10_isS_63 : decode cX10_isS 63 = .ok (.ireturn, 1) := by decide +kernel
theorem dX10_isS_64 : decode cX10_isS 64 = .ok (.aload_n 0, 1) := by decide +kernel
theorem dX10_isS_65 : decode cX10_isS 65 = .ok (.iload_n 1, 1) := by decide +kernel
theorem dX10_isS_66 : decode cX10_isS 66 = .ok (.invokevirtual 179, 3) := by decide +kernel
theorem dX10_isS_69 : decode cX10_isS 69 = .ok (.pop, 1) := by decide +kernel
theorem dX10_isS_70 : decode cX10_isS 70 = .ok (.goto (-61), 3) := by decide +kernel
set_option maxRecDepth 20000 in
theorem dX10_isB_0 : decode cX10_isB 0 = .ok (.aload_n 0, 1) := by decide +kernel
theorem dX10_isB_1 : decode cX10_isB 1 = .ok (.invokevirtual 201, 3) := by decide +kernel
theorem dX10_isB_4 : decode cX10_isB 4 = .ok (.ifCond .ne 5, 3) := by decide +kernel
theorem dX10_isB_7 : decode cX10_isB 7 = .ok (.iconst 0, 1) := by decide +kernel
theorem dX10_isB_8 : decode cX10_isB 8 = .ok (.ireturn, 1) := by decide +kernel
theorem dX10_isB_9 : decode cX10_isB 9 = .ok (.aload_n 0, 1) := by decide +kernel
theorem dX10_isB_10 : decode cX10_isB 10 = .ok (.invokevirtual 168, 3) := by decide +kernel
theorem dX10_isB_13 : decode cX10_isB 13 = .ok (.bipush 60, 2) := by decide +kernel
theorem dX10_isB_15 : decode cX10_isB 15 = .ok (.if_icmp .ne 8, 3) := by decide +kernel
theorem dX10_isB_18 : decode cX10_isB 18 = .ok (.bipush 8, 2) := by decide +kernel
theorem dX10_isB_20 : decode cX10_isB 20 = .ok (.goto 32, 3) := by decide +kernel
theorem dX10_isB_23 : decode cX10_isB 23 = .ok (.aload_n 0, 1) := by decide +kernel
theorem dX10_isB_24 : decode cX10_isB 24 = .ok (.invokevirtual 168, 3) := by decide +kernel
theorem dX10_isB_27 : decode cX10_isB 27 = .ok (.bipush 61, 2) := by decide +kernel
theorem dX10_isB_29 : decode cX10_isB 29 = .ok (.if_icmp .ne 8, 3) := by decide +kernel
theorem dX10_isB_32 : decode cX10_isB 32 = .ok (.bipush 9, 2) := by decide +kernel
theorem dX10_isB_34 : decode cX10_isB 34 = .ok (.goto 18, 3) := by decide +kernel
theorem dX10_isB_37 : decode cX10_isB 37 = .ok (.aload_n 0, 1) := by decide +kernel
theorem dX10_isB_38 : decode cX10_isB 38 = .ok (.invokevirtual 168, 3) := by decide +kernel
theorem dX10_isB_41 : decode cX10_isB 41 = .ok (.bipush 62, 2) := by decide +kernel
theorem dX10_isB_43 : decode cX10_isB 43 = .ok (.if_icmp .ne 8, 3) := by decide +kernel
theorem dX10_isB_46 : decode cX10_isB 46 = .ok (.bipush 10, 2) := by decide +kernel
theorem dX10_isB_48 : decode cX10_isB 48 = .ok (.goto 4, 3) := by decide +kernel
theorem dX10_isB_51 : decode cX10_isB 51 = .ok (.iconst (-1), 1) := by decide +kernel
theorem dX10_isB_52 : decode cX10_isB 52 = .ok (.istore_n 1, 1) := by decide +kernel
theorem dX10_isB_53 : decode cX10_isB 53 = .ok (.iload_n 1, 1) := by decide +kernel
theorem dX10_isB_54 : decode cX10_isB 54 = .ok (.ifCond .ge 5, 3) := by decide +kernel
theorem dX10_isB_57 : decode cX10_isB 57 = .ok (.iconst 1, 1) := by decide +kernel
theorem dX10_isB_58 : decode cX10_isB 58 = .ok (.ireturn, 1) := by decide +kernel
theorem dX10_isB_59 : decode cX10_isB 59 = .ok (.aload_n 0, 1) := by decide +kernel
theorem dX10_isB_60 : decode cX10_isB 60 = .ok (.dup, 1) := by decide +kernel
theorem dX10_isB_61 : decode cX10_isB 61 = .ok (.getfield 165, 3) := by decide +kernel
theorem dX10_isB_64 : decode cX10_isB 64 = .ok (.iconst 1, 1) := by decide +kernel
theorem dX10_isB_65 : decode cX10_isB 65 = .ok (.iadd, 1) := by decide +kernel
theorem dX10_isB_66 : decode cX10_isB 66 = .ok (.putfield 165, 3) := by decide +kernel
theorem dX10_isB_69 : decode cX10_isB 69 = .ok (.aload_n 0, 1) := by decide +kernel
theorem dX10_isB_70 : decode cX10_isB 70 = .ok (.invokevirtual 201, 3) := by decide +kernel
theorem dX10_isB_73 : decode cX10_isB 73 = .ok (.ifCond .eq 15, 3) := by decide +kernel
theorem dX10_isB_76 : decode cX10_isB 76 = .ok (.aload_n 0, 1) := by decide +kernel
theorem dX10_isB_77 : decode cX10_isB 77 = .ok (.iload_n 1, 1) := by decide +kernel
theorem dX10_isB_78 : decode cX10_isB 78 = .ok (.invokevirtual 179, 3) := by decide +kernel
theorem dX10_isB_81 : decode cX10_isB 81 = .ok (.ifCond .eq 7, 3) := by decide +kernel
theorem dX10_isB_84 : decode cX10_isB 84 = .ok (.iconst 1, 1) := by decide +kernel
theorem dX10_isB_85 : decode cX10_isB 85 = .ok (.goto 4, 3) := by decide +kernel
theorem dX10_isB_88 : decode cX10_isB 88 = .ok (.iconst 0, 1) := by decide +kernel
theorem dX10_isB_89 : decode cX10_isB 89 = .ok (.ireturn, 1) := by decide +kernel
set_option maxRecDepth 20000 in
theorem dX10_isA_0 : decode cX10_isA 0 = .ok (.aload_n 0, 1) := by decide +kernel
theorem dX10_isA_1 : decode cX10_isA 1 = .ok (.invokevirtual 204, 3) := by decide +kernel
theorem dX10_isA_4 : decode cX10_isA 4 = .ok (.ifCond .ne 5, 3) := by decide +kernel
theorem dX10_isA_7 : decode cX10_isA 7 = .ok (.iconst 0, 1) := by decide +kernel
theorem dX10_isA_8 : decode cX10_isA 8 = .ok (.ireturn, 1) := by decide +kernel
theorem dX10_isA_9 : decode cX10_isA 9 = .ok (.aload_n 0, 1) := by decide +kernel
theorem dX10_isA_10 : decode cX10_isA 10 = .ok (.bipush 38, 2) := by decide +kernel
theorem dX10_isA_12 : decode cX10_isA 12 = .ok (.invokevirtual 189, 3) := by decide +kernel
theorem dX10_isA_15 : decode cX10_isA 15 = .ok (.ifCond .eq 22, 3) := by decide +kernel
theorem dX10_isA_18 : decode cX10_isA 18 = .ok (.aload_n 0, 1) := by decide +kernel
theorem dX10_isA_19 : decode cX10_isA 19 = .ok (.invokevirtual 204, 3) := by decide +kernel
theorem dX10_isA_22 : decode cX10_isA 22 = .ok (.ifCond .ne 5, 3) := by decide +kernel
theorem dX10_isA_25 : decode cX10_isA 25 = .ok (.iconst 0, 1) := by decide +kernel
theorem dX10_isA_26 : decode cX10_isA 26 = .ok (.ireturn, 1) := by decide +kernel
theorem dX10_isA_27 : decode cX10_isA 27 = .ok (.aload_n 0, 1) := by decide +kernel
theorem dX10_isA_28 : decode cX10_isA 28 = .ok (.bipush 7, 2) := by decide +kernel
theorem dX10_isA_30 : decode cX10_isA 30 = .ok (.invokevirtual 179, 3) := by decide +kernel
theorem dX10_isA_33 : decode cX10_isA 33 = .ok (.pop, 1) := by decide +kernel
theorem dX10_isA_34 : decode cX10_isA 34 = .ok (.goto (-25), 3) := by decide +kernel
theorem dX10_isA_37 : decode cX10_isA 37 = .ok (.iconst 1, 1) := by decide +kernel
theorem dX10_isA_38 : decode cX10_isA 38 = .ok (.ireturn, 1) := by decide +kernel
set_option maxRecDepth 20000 in
theorem dX10_isE_0 : decode cX10_isE 0 = .ok (.aload_n 0, 1) := by decide +kernel
theorem dX10_isE_1 : decode cX10_isE 1 = .ok (.invokevirtual 207, 3) := by decide +kernel
theorem dX10_isE_4 : decode cX10_isE 4 = .ok (.ifCond .ne 5, 3) := by decide +kernel
theorem dX10_isE_7 : decode cX10_isE 7 = .ok (.iconst 0, 1) := by decide +kernel
theorem dX10_isE_8 : decode cX10_isE 8 = .ok (.ireturn, 1) := by decide +kernel
theorem dX10_isE_9 : decode cX10_isE 9 = .ok (.aload_n 0, 1) := by decide +kernel
theorem dX10_isE_10 : decode cX10_isE 10 = .ok (.bipush 124, 2) := by decide +kernel
theorem dX10_isE_12 : decode cX10_isE 12 = .ok (.invokevirtual 189, 3) := by decide +kernel
theorem dX10_isE_15 : decode cX10_isE 15 = .ok (.ifCond .eq 22, 3) := by decide +kernel
theorem dX10_isE_18 : decode cX10_isE 18 = .ok (.aload_n 0, 1) := by decide +kernel
theorem dX10_isE_19 : decode cX10_isE 19 = .ok (.invokevirtual 207, 3) := by decide +kernel
theorem dX10_isE_22 : decode cX10_isE 22 = .ok (.ifCond .ne 5, 3) := by decide +kernel
theorem dX10_isE_25 : decode cX10_isE 25 = .ok (.iconst 0, 1) := by decide +kernel
theorem dX10_isE_26 : decode cX10_isE 26 = .ok (.ireturn, 1) := by decide +kernel
theorem dX10_isE_27 : decode cX10_isE 27 = .ok (.aload_n 0, 1) := by decide +kernel
theorem dX10_isE_28 : decode cX10_isE 28 = .ok (.bipush 6, 2) := by decide +kernel
theorem dX10_isE_30 : decode cX10_isE 30 = .ok (.invokevirtual 179, 3) := by decide +kernel
theorem dX10_isE_33 : decode cX10_isE 33 = .ok (.pop, 1) := by decide +kernel
theorem dX10_isE_34 : decode cX10_isE 34 = .ok (.goto (-25), 3) := by decide +kernel
theorem dX10_isE_37 : decode cX10_isE 37 = .ok (.iconst 1, 1) := by decide +kernel
theorem dX10_isE_38 : decode cX10_isE 38 = .ok (.ireturn, 1) := by decide +kernel
set_option maxRecDepth 20000 in
theorem dX10_isLine_0 : decode cX10_isLine 0 = .ok (.aload_n 0, 1) := by decide +kernel
theorem dX10_isLine_1 : decode cX10_isLine 1 = .ok (.getfield 42, 3) := by decide +kernel
theorem dX10_isLine_4 : decode cX10_isLine 4 = .ok (.aload_n 0, 1) := by decide +kernel
theorem dX10_isLine_5 : decode cX10_isLine 5 = .ok (.getfield 210, 3) := by decide +kernel
theorem dX10_isLine_8 : decode cX10_isLine 8 = .ok (.aload_n 0, 1) := by decide +kernel
theorem dX10_isLine_9 : decode cX10_isLine 9 = .ok (.getfield 172, 3) := by decide +kernel
theorem dX10_isLine_12 : decode cX10_isLine 12 = .ok (.iastore, 1) := by decide +kernel
theorem dX10_isLine_13 : decode cX10_isLine 13 = .ok (.aload_n 0, 1) := by decide +kernel
theorem dX10_isLine_14 : decode cX10_isLine 14 = .ok (.invokevirtual 195, 3) := by decide +kernel
theorem dX10_isLine_17 : decode cX10_isLine 17 = .ok (.ifCond .ne 5, 3) := by decide +kernel
theorem dX10_isLine_20 : decode cX10_isLine 20 = .ok (.iconst 0, 1) := by decide +kernel
theorem dX10_isLine_21 : decode cX10_isLine 21 = .ok (.ireturn, 1) := by decide +kernel
theorem dX10_isLine_22 : decode cX10_isLine 22 = .ok (.aload_n 0, 1) := by decide +kernel
theorem dX10_isLine_23 : decode cX10_isLine 23 = .ok (.getfield 45, 3) := by decide +kernel
theorem dX10_isLine_26 : decode cX10_isLine 26 = .ok (.aload_n 0, 1) := by decide +kernel
theorem dX10_isLine_27 : decode cX10_isLine 27 = .ok (.getfield 210, 3) := by decide +kernel
theorem dX10_isLine_30 : decode cX10_isLine 30 = .ok (.aload_n 0, 1) := by decide +kernel
theorem dX10_isLine_31 : decode cX10_isLine 31 = .ok (.getfield 42, 3) := by decide +kernel
theorem dX10_isLine_34 : decode cX10_isLine 34 = .ok (.aload_n 0, 1) := by decide +kernel
theorem dX10_isLine_35 : decode cX10_isLine 35 = .ok (.getfield 210, 3) := by decide +kernel
theorem dX10_isLine_38 : decode cX10_isLine 38 = .ok (.iaload, 1) := by decide +kernel
theorem dX10_isLine_39 : decode cX10_isLine 39 = .ok (.iastore, 1) := by decide +kernel
theorem dX10_isLine_40 : decode cX10_isLine 40 = .ok (.aload_n 0, 1) := by decide +kernel
theorem dX10_isLine_41 : decode cX10_isLine 41 = .ok (.bipush 63, 2) := by decide +kernel
theorem dX10_isLine_43 : decode cX10_isLine 43 = .ok (.invokevirtual 189, 3) := by decide +kernel
theorem dX10_isLine_46 : decode cX10_isLine 46 = .ok (.ifCond .eq 25, 3) := by decide +kernel
theorem dX10_isLine_49 : decode cX10_isLine 49 = .ok (.aload_n 0, 1) := by decide +kernel
theorem dX10_isLine_50 : decode cX10_isLine 50 = .ok (.getfield 45, 3) := by decide +kernel
theorem dX10_isLine_53 : decode cX10_isLine 53 = .ok (.aload_n 0, 1) := by decide +kernel
theorem dX10_isLine_54 : decode cX10_isLine 54 = .ok (.getfield 210, 3) := by decide +kernel
theorem dX10_isLine_57 : decode cX10_isLine 57 = .ok (.aload_n 0, 1) := by decide +kernel
theorem dX10_isLine_58 : decode cX10_isLine 58 = .ok (.getfield 172, 3) := by decide +kernel
theorem dX10_isLine_61 : decode cX10_isLine 61 = .ok (.iastore, 1) := by decide +kernel
theorem dX10_isLine_62 : decode cX10_isLine 62 = .ok (.aload_n 0, 1) := by decide +kernel
theorem dX10_isLine_63 : decode cX10_isLine 63 = .ok (.invokevirtual 195, 3) := by decide +kernel
theorem dX10_isLine_66 : decode cX10_isLine 66 = .ok (.ifCond .ne 5, 3) := by decide +kernel
theorem dX10_isLine_69 : decode cX10_isLine 69 = .ok (.iconst 0, 1) := by decide +kernel
theorem dX10_isLine_70 : decode cX10_isLine 70 = .ok (.ireturn, 1) := by decide +kernel
theorem dX10_isLine_71 : decode cX10_isLine 71 = .ok (.aload_n 0, 1) := by decide +kernel
theorem dX10_isLine_72 : decode cX10_isLine 72 = .ok (.getfield 48, 3) := by decide +kernel
theorem dX10_isLine_75 : decode cX10_isLine 75 = .ok (.aload_n 0, 1) := by decide +kernel
theorem dX10_isLine_76 : decode cX10_isLine 76 = .ok (.dup, 1) := by decide +kernel
theorem dX10_isLine_77 : decode cX10_isLine 77 = .ok (.getfield 210, 3) := by decide +kernel
theorem dX10_isLine_80 : decode cX10_isLine 80 = .ok (.dup_x1, 1) := by decide +kernel
theorem dX10_isLine_81 : decode cX10_isLine 81 = .ok (.iconst 1, 1) := by decide +kernel
theorem dX10_isLine_82 : decode cX10_isLine 82 = .ok (.iadd, 1) := by decide +kernel
theorem dX10_isLine_83 : decode cX10_isLine 83 = .ok (.putfield 210, 3) := by decide +kernel
theorem dX10_isLine_86 : decode cX10_isLine 86 = .ok (.aload_n 0, 1) := by decide +kernel
theorem dX10_isLine_87 : decode cX10_isLine 87 = .ok (.getfield 172, 3) := by decide +kernel
theorem dX10_isLine_90 : decode cX10_isLine 90 = .ok (.iastore, 1) := by decide +kernel
theorem dX10_isLine_91 : decode cX10_isLine 91 = .ok (.iconst 1, 1) := by decide +kernel
theorem dX10_isLine_92 : decode cX10_isLine 92 = .ok (.ireturn, 1) := by decide +kernel
set_option maxRecDepth 20000 in
theorem dX10_law_0 : decode cX10_law 0 = .ok (.aload_n 0, 1) := by decide +kernel
theorem dX10_law_1 : decode cX10_law 1 = .ok (.iconst 0, 1) := by decide +kernel
theorem dX10_law_2 : decode cX10_law 2 = .ok (.putfield 165, 3) := by decide +kernel
theorem dX10_law_5 : decode cX10_law 5 = .ok (.aload_n 0, 1) := by decide +kernel
theorem dX10_law_6 : decode cX10_law 6 = .ok (.iconst 0, 1) := by decide +kernel
theorem dX10_law_7 : decode cX10_law 7 = .ok (.putfield 186, 3) := by decide +kernel
theorem dX10_law_10 : decode cX10_law 10 = .ok (.aload_n 0, 1) := by decide +kernel
theorem dX10_law_11 : decode cX10_law 11 = .ok (.iconst 0, 1) := by decide +kernel
theorem dX10_law_12 : decode cX10_law 12 = .ok (.putfield 172, 3) := by decide +kernel
theorem dX10_law_15 : decode cX10_law 15 = .ok (.aload_n 0, 1) := by decide +kernel
theorem dX10_law_16 : decode cX10_law 16 = .ok (.iconst 0, 1) := by decide +kernel
theorem dX10_law_17 : decode cX10_law 17 = .ok (.putfield 210, 3) := by decide +kernel
theorem dX10_law_20 : decode cX10_law 20 = .ok (.aload_n 0, 1) := by decide +kernel
theorem dX10_law_21 : decode cX10_law 21 = .ok (.invokevirtual 213, 3) := by decide +kernel
theorem dX10_law_24 : decode cX10_law 24 = .ok (.istore_n 1, 1) := by decide +kernel
theorem dX10_law_25 : decode cX10_law 25 = .ok (.iload_n 1, 1) := by decide +kernel
theorem dX10_law_26 : decode cX10_law 26 = .ok (.ifCond .eq 20, 3) := by decide +kernel
theorem dX10_law_29 : decode cX10_law 29 = .ok (.aload_n 0, 1) := by decide +kernel
theorem dX10_law_30 : decode cX10_law 30 = .ok (.bipush 59, 2) := by decide +kernel
theorem dX10_law_32 : decode cX10_law 32 = .ok (.invokevirtual 189, 3) := by decide +kernel
theorem dX10_law_35 : decode cX10_law 35 = .ok (.ifCond .eq 11, 3) := by decide +kernel
theorem dX10_law_38 : decode cX10_law 38 = .ok (.aload_n 0, 1) := by decide +kernel
theorem dX10_law_39 : decode cX10_law 39 = .ok (.invokevirtual 213, 3) := by decide +kernel
theorem dX10_law_42 : decode cX10_law 42 = .ok (.istore_n 1, 1) := by decide +kernel
theorem dX10_law_43 : decode cX10_law 43 = .ok (.goto (-18), 3) := by decide +kernel
theorem dX10_law_46 : decode cX10_law 46 = .ok (.iload_n 1, 1) := by decide +kernel
theorem dX10_law_47 : decode cX10_law 47 = .ok (.ifCond .eq 18, 3) := by decide +kernel
theorem dX10_law_50 : decode cX10_law 50 = .ok (.aload_n 0, 1) := by decide +kernel
theorem dX10_law_51 : decode cX10_law 51 = .ok (.getfield 165, 3) := by decide +kernel
theorem dX10_law_54 : decode cX10_law 54 = .ok (.aload_n 0, 1) := by decide +kernel
theorem dX10_law_55 : decode cX10_law 55 = .ok (.getfield 162, 3) := by decide +kernel
theorem dX10_law_58 : decode cX10_law 58 = .ok (.if_icmp .ne 7, 3) := by decide +kernel
theorem dX10_law_61 : decode cX10_law 61 = .ok (.iconst 1, 1) := by decide +kernel
theorem dX10_law_62 : decode cX10_law 62 = .ok (.goto 4, 3) := by decide +kernel
theorem dX10_law_65 : decode cX10_law 65 = .ok (.iconst 0, 1) := by decide +kernel
theorem dX10_law_66 : decode cX10_law 66 = .ok (.istore_n 2, 1) := by decide +kernel
theorem dX10_law_67 : decode cX10_law 67 = .ok (.aload_n 0, 1) := by decide +kernel
theorem dX10_law_68 : decode cX10_law 68 = .ok (.iconst 0, 1) := by decide +kernel
theorem dX10_law_69 : decode cX10_law 69 = .ok (.putfield 162, 3) := by decide +kernel
theorem dX10_law_72 : decode cX10_law 72 = .ok (.iload_n 2, 1) := by decide +kernel
theorem dX10_law_73 : decode cX10_law 73 = .ok (.ifCond .ne 11, 3) := by decide +kernel
theorem dX10_law_76 : decode cX10_law 76 = .ok (.bipush (-100), 2) := by decide +kernel
theorem dX10_law_78 : decode cX10_law 78 = .ok (.aload_n 0, 1) := by decide +kernel
theorem dX10_law_79 : decode cX10_law 79 = .ok (.getfield 165, 3) := by decide +kernel
theorem dX10_law_82 : decode cX10_law 82 = .ok (.isub, 1) := by decide +kernel
theorem dX10_law_83 : decode cX10_law 83 = .ok (.ireturn, 1) := by decide +kernel
theorem dX10_law_84 : decode cX10_law 84 = .ok (.aload_n 0, 1) := by decide +kernel
theorem dX10_law_85 : decode cX10_law 85 = .ok (.iconst 1, 1) := by decide +kernel
theorem dX10_law_86 : decode cX10_law 86 = .ok (.putfield 216, 3) := by decide +kernel
theorem dX10_law_89 : decode cX10_law 89 = .ok (.aload_n 0, 1) := by decide +kernel
theorem dX10_law_90 : decode cX10_law 90 = .ok (.aload_n 0, 1) := by decide +kernel
theorem dX10_law_91 : decode cX10_law 91 = .ok (.getfield 210, 3) := by decide +kernel
theorem dX10_law_94 : decode cX10_law 94 = .ok (.putfield 220, 3) := by decide +kernel
theorem dX10_law_97 : decode cX10_law 97 = .ok (.iconst 0, 1) := by decide +kernel
theorem dX10_law_98 : decode cX10_law 98 = .ok (.istore_n 3, 1) := by decide +kernel
theorem dX10_law_99 : decode cX10_law 99 = .ok (.iload_n 3, 1) := by decide +kernel
theorem dX10_law_100 : decode cX10_law 100 = .ok (.aload_n 0, 1) := by decide +kernel
theorem dX10_law_101 : decode cX10_law 101 = .ok (.getfield 220, 3) := by decide +kernel
theorem dX10_law_104 : decode cX10_law 104 = .ok (.if_icmp .ge 45, 3) := by decide +kernel
theorem dX10_law_107 : decode cX10_law 107 = .ok (.aload_n 0, 1) := by decide +kernel
theorem dX10_law_108 : decode cX10_law 108 = .ok (.getfield 30, 3) := by decide +kernel
theorem dX10_law_111 : decode cX10_law 111 = .ok (.iload_n 3, 1) := by decide +kernel
theorem dX10_law_112 : decode cX10_law 112 = .ok (.aload_n 0, 1) := by decide +kernel
theorem dX10_law_113 : decode cX10_law 113 = .ok (.getfield 42, 3) := by decide +kernel
theorem dX10_law_116 : decode cX10_law 116 = .ok (.iload_n 3, 1) := by decide +kernel
theorem dX10_law_117 : decode cX10_law 117 = .ok (.iaload, 1) := by decide +kernel
theorem dX10_law_118 : decode cX10_law 118 = .ok (.iastore, 1) := by decide +kernel
theorem dX10_law_119 : decode cX10_law 119 = .ok (.aload_n 0, 1) := by decide +kernel
theorem dX10_law_120 : decode cX10_law 120 = .ok (.getfield 33, 3) := by decide +kernel
theorem dX10_law_123 : decode cX10_law 123 = .ok (.iload_n 3, 1) := by decide +kernel
theorem dX10_law_124 : decode cX10_law 124 = .ok (.aload_n 0, 1) := by decide +kernel
theorem dX10_law_125 : decode cX10_law 125 = .ok (.getfield 45, 3) := by decide +kernel
theorem dX10_law_128 : decode cX10_law 128 = .ok (.iload_n 3, 1) := by decide +kernel
theorem dX10_law_129 : decode cX10_law 129 = .ok (.iaload, 1) := by decide +kernel
theorem dX10_law_130 : decode cX10_law 130 = .ok (.iastore, 1) := by decide +kernel
theorem dX10_law_131 : decode cX10_law 131 = .ok (.aload_n 0, 1) := by decide +kernel
theorem dX10_law_132 : decode cX10_law 132 = .ok (.getfield 36, 3) := by decide +kernel
theorem dX10_law_135 : decode cX10_law 135 = .ok (.iload_n 3, 1) := by decide +kernel
theorem dX10_law_136 : decode cX10_law 136 = .ok (.aload_n 0, 1) := by decide +kernel
theorem dX10_law_137 : decode cX10_law 137 = .ok (.getfield 48, 3) := by decide +kernel
theorem dX10_law_140 : decode cX10_law 140 = .ok (.iload_n 3, 1) := by decide +kernel
theorem dX10_law_141 : decode cX10_law 141 = .ok (.iaload, 1) := by decide +kernel
theorem dX10_law_142 : decode cX10_law 142 = .ok (.iastore, 1) := by decide +kernel
theorem dX10_law_143 : decode cX10_law 143 = .ok (.iinc 3 1, 3) := by decide +kernel
theorem dX10_law_146 : decode cX10_law 146 = .ok (.goto (-47), 3) := by decide +kernel
theorem dX10_law_149 : decode cX10_law 149 = .ok (.iconst 0, 1) := by decide +kernel
theorem dX10_law_150 : decode cX10_law 150 = .ok (.istore_n 3, 1) := by decide +kernel
theorem dX10_law_151 : decode cX10_law 151 = .ok (.iload_n 3, 1) := by decide +kernel
theorem dX10_law_152 : decode cX10_law 152 = .ok (.aload_n 0, 1) := by decide +kernel
theorem dX10_law_153 : decode cX10_law 153 = .ok (.getfield 172, 3) := by decide +kernel
theorem dX10_law_156 : decode cX10_law 156 = .ok (.if_icmp .ge 21, 3) := by decide +kernel
theorem dX10_law_159 : decode cX10_law 159 = .ok (.aload_n 0, 1) := by decide +kernel
theorem dX10_law_160 : decode cX10_law 160 = .ok (.getfield 39, 3) := by decide +kernel
theorem dX10_law_163 : decode cX10_law 163 = .ok (.iload_n 3, 1) := by decide +kernel
theorem dX10_law_164 : decode cX10_law 164 = .ok (.aload_n 0, 1) := by decide +kernel
theorem dX10_law_165 : decode cX10_law 165 = .ok (.getfield 51, 3) := by decide +kernel
theorem dX10_law_168 : decode cX10_law 168 = .ok (.iload_n 3, 1) := by decide +kernel
theorem dX10_law_169 : decode cX10_law 169 = .ok (.iaload, 1) := by decide +kernel
theorem dX10_law_170 : decode cX10_law 170 = .ok (.iastore, 1) := by decide +kernel
theorem dX10_law_171 : decode cX10_law 171 = .ok (.iinc 3 1, 3) := by decide +kernel
theorem dX10_law_174 : decode cX10_law 174 = .ok (.goto (-23), 3) := by decide +kernel
theorem dX10_law_177 : decode cX10_law 177 = .ok (.iconst 1, 1) := by decide +kernel
theorem dX10_law_178 : decode cX10_law 178 = .ok (.ireturn, 1) := by decide +kernel
theorem dX10_both_0 : decode cX10_both 0 = .ok (.iload_n 0, 1) := by decide +kernel
theorem dX10_both_1 : decode cX10_both 1 = .ok (.tableswitch 136 6 14 #[51, 65, 79, 90, 101, 112, 116, 120, 124], 51) := by decide +kernel
theorem dX10_both_52 : decode cX10_both 52 = .ok (.iload_n 1, 1) := by decide +kernel
theorem dX10_both_53 : decode cX10_both 53 = .ok (.ifCond .ne 7, 3) := by decide +kernel
theorem dX10_both_56 : decode cX10_both 56 = .ok (.iload_n 2, 1) := by decide +kernel
theorem dX10_both_57 : decode cX10_both 57 = .ok (.ifCond .eq 7, 3) := by decide +kernel
theorem dX10_both_60 : decode cX10_both 60 = .ok (.iconst 1, 1) := by decide +kernel
theorem dX10_both_61 : decode cX10_both 61 = .ok (.goto 4, 3) := by decide +kernel
theorem dX10_both_64 : decode cX10_both 64 = .ok (.iconst 0, 1) := by decide +kernel
theorem dX10_both_65 : decode cX10_both 65 = .ok (.ireturn, 1) := by decide +kernel
theorem dX10_both_66 : decode cX10_both 66 = .ok (.iload_n 1, 1) := by decide +kernel
theorem dX10_both_67 : decode cX10_both 67 = .ok (.ifCond .eq 11, 3) := by decide +kernel
theorem dX10_both_70 : decode cX10_both 70 = .ok (.iload_n 2, 1) := by decide +kernel
theorem dX10_both_71 : decode cX10_both 71 = .ok (.ifCond .eq 7, 3) := by decide +kernel
theorem dX10_both_74 : decode cX10_both 74 = .ok (.iconst 1, 1) := by decide +kernel
theorem dX10_both_75 : decode cX10_both 75 = .ok (.goto 4, 3) := by decide +kernel
theorem dX10_both_78 : decode cX10_both 78 = .ok (.iconst 0, 1) := by decide +kernel
theorem dX10_both_79 : decode cX10_both 79 = .ok (.ireturn, 1) := by decide +kernel
theorem dX10_both_80 : decode cX10_both 80 = .ok (.iload_n 1, 1) := by decide +kernel
theorem dX10_both_81 : decode cX10_both 81 = .ok (.iload_n 2, 1) := by decide +kernel
theorem dX10_both_82 : decode cX10_both 82 = .ok (.if_icmp .ge 7, 3) := by decide +kernel
theorem dX10_both_85 : decode cX10_both 85 = .ok (.iconst 1, 1) := by decide +kernel
theorem dX10_both_86 : decode cX10_both 86 = .ok (.goto 4, 3) := by decide +kernel
theorem dX10_both_89 : decode cX10_both 89 = .ok (.iconst 0, 1) := by decide +kernel
theorem dX10_both_90 : decode cX10_both 90 = .ok (.ireturn, 1) := by decide +kernel
theorem dX10_both_91 : decode cX10_both 91 = .ok (.iload_n 1, 1) := by decide +kernel
theorem dX10_both_92 : decode cX10_both 92 = .ok (.iload_n 2, 1) := by decide +kernel
theorem dX10_both_93 : decode cX10_both 93 = .ok (.if_icmp .ne 7, 3) := by decide +kernel
theorem dX10_both_96 : decode cX10_both 96 = .ok (.iconst 1, 1) := by decide +kernel
theorem dX10_both_97 : decode cX10_both 97 = .ok (.goto 4, 3) := by decide +kernel
theorem dX10_both_100 : decode cX10_both 100 = .ok (.iconst 0, 1) := by decide +kernel
theorem dX10_both_101 : decode cX10_both 101 = .ok (.ireturn, 1) := by decide +kernel
theorem dX10_both_102 : decode cX10_both 102 = .ok (.iload_n 1, 1) := by decide +kernel
theorem dX10_both_103 : decode cX10_both 103 = .ok (.iload_n 2, 1) := by decide +kernel
theorem dX10_both_104 : decode cX10_both 104 = .ok (.if_icmp .le 7, 3) := by decide +kernel
theorem dX10_both_107 : decode cX10_both 107 = .ok (.iconst 1, 1) := by decide +kernel
theorem dX10_both_108 : decode cX10_both 108 = .ok (.goto 4, 3) := by decide +kernel
theorem dX10_both_111 : decode cX10_both 111 = .ok (.iconst 0, 1) := by decide +kernel
theorem dX10_both_112 : decode cX10_both 112 = .ok (.ireturn, 1) := by decide +kernel
theorem dX10_both_113 : decode cX10_both 113 = .ok (.iload_n 1, 1) := by decide +kernel
theorem dX10_both_114 : decode cX10_both 114 = .ok (.iload_n 2, 1) := by decide +kernel
theorem dX10_both_115 : decode cX10_both 115 = .ok (.iadd, 1) := by decide +kernel
theorem dX10_both_116 : decode cX10_both 116 = .ok (.ireturn, 1) := by decide +kernel
theorem dX10_both_117 : decode cX10_both 117 = .ok (.iload_n 1, 1) := by decide +kernel
theorem dX10_both_118 : decode cX10_both 118 = .ok (.iload_n 2, 1) := by decide +kernel
theorem dX10_both_119 : decode cX10_both 119 = .ok (.isub, 1) := by decide +kernel
theorem dX10_both_120 : decode cX10_both 120 = .ok (.ireturn, 1) := by decide +kernel
theorem dX10_both_121 : decode cX10_both 121 = .ok (.iload_n 1, 1) := by decide +kernel
theorem dX10_both_122 : decode cX10_both 122 = .ok (.iload_n 2, 1) := by decide +kernel
theorem dX10_both_123 : decode cX10_both 123 = .ok (.imul, 1) := by decide +kernel
theorem dX10_both_124 : decode cX10_both 124 = .ok (.ireturn, 1) := by decide +kernel
theorem dX10_both_125 : decode cX10_both 125 = .ok (.iload_n 2, 1) := by decide +kernel
theorem dX10_both_126 : decode cX10_both 126 = .ok (.ifCond .ne 7, 3) := by decide +kernel
theorem dX10_both_129 : decode cX10_both 129 = .ok (.iconst 0, 1) := by decide +kernel
theorem dX10_both_130 : decode cX10_both 130 = .ok (.goto 6, 3) := by decide +kernel
theorem dX10_both_133 : decode cX10_both 133 = .ok (.iload_n 1, 1) := by decide +kernel
theorem dX10_both_134 : decode cX10_both 134 = .ok (.iload_n 2, 1) := by decide +kernel
theorem dX10_both_135 : decode cX10_both 135 = .ok (.idiv, 1) := by decide +kernel
theorem dX10_both_136 : decode cX10_both 136 = .ok (.ireturn, 1) := by decide +kernel
theorem dX10_both_137 : decode cX10_both 137 = .ok (.iload_n 2, 1) := by decide +kernel
theorem dX10_both_138 : decode cX10_both 138 = .ok (.ifCond .ne 7, 3) := by decide +kernel
theorem dX10_both_141 : decode cX10_both 141 = .ok (.iconst 0, 1) := by decide +kernel
theorem dX10_both_142 : decode cX10_both 142 = .ok (.goto 6, 3) := by decide +kernel
theorem dX10_both_145 : decode cX10_both 145 = .ok (.iload_n 1, 1) := by decide +kernel
theorem dX10_both_146 : decode cX10_both 146 = .ok (.iload_n 2, 1) := by decide +kernel
theorem dX10_both_147 : decode cX10_both 147 = .ok (.irem, 1) := by decide +kernel
theorem dX10_both_148 : decode cX10_both 148 = .ok (.ireturn, 1) := by decide +kernel
set_option maxRecDepth 20000 in
theorem dX10_worked_0 : decode cX10_worked 0 = .ok (.iconst 0, 1) := by decide +kernel
theorem dX10_worked_1 : decode cX10_worked 1 = .ok (.istore_n 3, 1) := by decide +kernel
theorem dX10_worked_2 : decode cX10_worked 2 = .ok (.iload_n 1, 1) := by decide +kernel
theorem dX10_worked_3 : decode cX10_worked 3 = .ok (.istore 4, 2) := by decide +kernel
theorem dX10_worked_5 : decode cX10_worked 5 = .ok (.iload 4, 2) := by decide +kernel
theorem dX10_worked_7 : decode cX10_worked 7 = .ok (.iload_n 2, 1) := by decide +kernel
theorem dX10_worked_8 : decode cX10_worked 8 = .ok (.if_icmp .ge 155, 3) := by decide +kernel
theorem dX10_worked_11 : decode cX10_worked 11 = .ok (.aload_n 0, 1) := by decide +kernel
theorem dX10_worked_12 : decode cX10_worked 12 = .ok (.getfield 39, 3) := by decide +kernel
theorem dX10_worked_15 : decode cX10_worked 15 = .ok (.iload 4, 2) := by decide +kernel
theorem dX10_worked_17 : decode cX10_worked 17 = .ok (.iaload, 1) := by decide +kernel
theorem dX10_worked_18 : decode cX10_worked 18 = .ok (.istore 5, 2) := by decide +kernel
theorem dX10_worked_20 : decode cX10_worked 20 = .ok (.iload 5, 2) := by decide +kernel
theorem dX10_worked_22 : decode cX10_worked 22 = .ok (.bipush 18, 2) := by decide +kernel
theorem dX10_worked_24 : decode cX10_worked 24 = .ok (.if_icmp .ge 9, 3) := by decide +kernel
theorem dX10_worked_27 : decode cX10_worked 27 = .ok (.iload 5, 2) := by decide +kernel
theorem dX10_worked_29 : decode cX10_worked 29 = .ok (.iconst 5, 1) := by decide +kernel
theorem dX10_worked_30 : decode cX10_worked 30 = .ok (.if_icmp .gt 37, 3) := by decide +kernel
theorem dX10_worked_33 : decode cX10_worked 33 = .ok (.aload_n 0, 1) := by decide +kernel
theorem dX10_worked_34 : decode cX10_worked 34 = .ok (.getfield 54, 3) := by decide +kernel
theorem dX10_worked_37 : decode cX10_worked 37 = .ok (.iload_n 3, 1) := by decide +kernel
theorem dX10_worked_38 : decode cX10_worked 38 = .ok (.iinc 3 1, 3) := by decide +kernel
theorem dX10_worked_41 : decode cX10_worked 41 = .ok (.iload 5, 2) := by decide +kernel
theorem dX10_worked_43 : decode cX10_worked 43 = .ok (.bipush 18, 2) := by decide +kernel
theorem dX10_worked_45 : decode cX10_worked 45 = .ok (.if_icmp .lt 11, 3) := by decide +kernel
theorem dX10_worked_48 : decode cX10_worked 48 = .ok (.iload 5, 2) := by decide +kernel
theorem dX10_worked_50 : decode cX10_worked 50 = .ok (.bipush 18, 2) := by decide +kernel
theorem dX10_worked_52 : decode cX10_worked 52 = .ok (.isub, 1) := by decide +kernel
theorem dX10_worked_53 : decode cX10_worked 53 = .ok (.goto 10, 3) := by decide +kernel
theorem dX10_worked_56 : decode cX10_worked 56 = .ok (.aload_n 0, 1) := by decide +kernel
theorem dX10_worked_57 : decode cX10_worked 57 = .ok (.getfield 57, 3) := by decide +kernel
theorem dX10_worked_60 : decode cX10_worked 60 = .ok (.iload 5, 2) := by decide +kernel
theorem dX10_worked_62 : decode cX10_worked 62 = .ok (.iaload, 1) := by decide +kernel
theorem dX10_worked_63 : decode cX10_worked 63 = .ok (.iastore, 1) := by decide +kernel
theorem dX10_worked_64 : decode cX10_worked 64 = .ok (.goto 93, 3) := by decide +kernel
theorem dX10_worked_67 : decode cX10_worked 67 = .ok (.iload 5, 2) := by decide +kernel
theorem dX10_worked_69 : decode cX10_worked 69 = .ok (.bipush 16, 2) := by decide +kernel
theorem dX10_worked_71 : decode cX10_worked 71 = .ok (.if_icmp .eq 10, 3) := by decide +kernel
theorem dX10_worked_74 : decode cX10_worked 74 = .ok (.iload 5, 2) := by decide +kernel
theorem dX10_worked_76 : decode cX10_worked 76 = .ok (.bipush 17, 2) := by decide +kernel
theorem dX10_worked_78 : decode cX10_worked 78 = .ok (.if_icmp .ne 49, 3) := by decide +kernel
theorem dX10_worked_81 : decode cX10_worked 81 = .ok (.aload_n 0, 1) := by decide +kernel
theorem dX10_worked_82 : decode cX10_worked 82 = .ok (.getfield 54, 3) := by decide +kernel
theorem dX10_worked_85 : decode cX10_worked 85 = .ok (.iload_n 3, 1) := by decide +kernel
theorem dX10_worked_86 : decode cX10_worked 86 = .ok (.iconst 1, 1) := by decide +kernel
theorem dX10_worked_87 : decode cX10_worked 87 = .ok (.isub, 1) := by decide +kernel
theorem dX10_worked_88 : decode cX10_worked 88 = .ok (.iload 5, 2) := by decide +kernel
theorem dX10_worked_90 : decode cX10_worked 90 = .ok (.bipush 17, 2) := by decide +kernel
theorem dX10_worked_92 : decode cX10_worked 92 = .ok (.if_icmp .ne 15, 3) := by decide +kernel
theorem dX10_worked_95 : decode cX10_worked 95 = .ok (.aload_n 0, 1) := by decide +kernel
theorem dX10_worked_96 : decode cX10_worked 96 = .ok (.getfield 54, 3) := by decide +kernel
theorem dX10_worked_99 : decode cX10_worked 99 = .ok (.iload_n 3, 1) := by decide +kernel
theorem dX10_worked_100 : decode cX10_worked 100 = .ok (.iconst 1, 1) := by decide +kernel
theorem dX10_worked_101 : decode cX10_worked 101 = .ok (.isub, 1) := by decide +kernel
theorem dX10_worked_102 : decode cX10_worked 102 = .ok (.iaload, 1) := by decide +kernel
theorem dX10_worked_103 : decode cX10_worked 103 = .ok (.ineg, 1) := by decide +kernel
theorem dX10_worked_104 : decode cX10_worked 104 = .ok (.goto 19, 3) := by decide +kernel
theorem dX10_worked_107 : decode cX10_worked 107 = .ok (.aload_n 0, 1) := by decide +kernel
theorem dX10_worked_108 : decode cX10_worked 108 = .ok (.getfield 54, 3) := by decide +kernel
theorem dX10_worked_111 : decode cX10_worked 111 = .ok (.iload_n 3, 1) := by decide +kernel
theorem dX10_worked_112 : decode cX10_worked 112 = .ok (.iconst 1, 1) := by decide +kernel
theorem dX10_worked_113 : decode cX10_worked 113 = .ok (.isub, 1) := by decide +kernel
theorem dX10_worked_114 : decode cX10_worked 114 = .ok (.iaload, 1) := by decide +kernel
theorem dX10_worked_115 : decode cX10_worked 115 = .ok (.ifCond .ne 7, 3) := by decide +kernel
theorem dX10_worked_118 : decode cX10_worked 118 = .ok (.iconst 1, 1) := by decide +kernel
theorem dX10_worked_119 : decode cX10_worked 119 = .ok (.goto 4, 3) := by decide +kernel
theorem dX10_worked_122 : decode cX10_worked 122 = .ok (.iconst 0, 1) := by decide +kernel
theorem dX10_worked_123 : decode cX10_worked 123 = .ok (.iastore, 1) := by decide +kernel
theorem dX10_worked_124 : decode cX10_worked 124 = .ok (.goto 33, 3) := by decide +kernel
theorem dX10_worked_127 : decode cX10_worked 127 = .ok (.iinc 3 (-1), 3) := by decide +kernel
theorem dX10_worked_130 : decode cX10_worked 130 = .ok (.aload_n 0, 1) := by decide +kernel
theorem dX10_worked_131 : decode cX10_worked 131 = .ok (.getfield 54, 3) := by decide +kernel
theorem dX10_worked_134 : decode cX10_worked 134 = .ok (.iload_n 3, 1) := by decide +kernel
theorem dX10_worked_135 : decode cX10_worked 135 = .ok (.iconst 1, 1) := by decide +kernel
theorem dX10_worked_136 : decode cX10_worked 136 = .ok (.isub, 1) := by decide +kernel
theorem dX10_worked_137 : decode cX10_worked 137 = .ok (.iload 5, 2) := by decide +kernel
theorem dX10_worked_139 : decode cX10_worked 139 = .ok (.aload_n 0, 1) := by decide +kernel
theorem dX10_worked_140 : decode cX10_worked 140 = .ok (.getfield 54, 3) := by decide +kernel
theorem dX10_worked_143 : decode cX10_worked 143 = .ok (.iload_n 3, 1) := by decide +kernel
theorem dX10_worked_144 : decode cX10_worked 144 = .ok (.iconst 1, 1) := by decide +kernel
theorem dX10_worked_145 : decode cX10_worked 145 = .ok (.isub, 1) := by decide +kernel
theorem dX10_worked_146 : decode cX10_worked 146 = .ok (.iaload, 1) := by decide +kernel
theorem dX10_worked_147 : decode cX10_worked 147 = .ok (.aload_n 0, 1) := by decide +kernel
theorem dX10_worked_148 : decode cX10_worked 148 = .ok (.getfield 54, 3) := by decide +kernel
theorem dX10_worked_151 : decode cX10_worked 151 = .ok (.iload_n 3, 1) := by decide +kernel
theorem dX10_worked_152 : decode cX10_worked 152 = .ok (.iaload, 1) := by decide +kernel
theorem dX10_worked_153 : decode cX10_worked 153 = .ok (.invokestatic 223, 3) := by decide +kernel
theorem dX10_worked_156 : decode cX10_worked 156 = .ok (.iastore, 1) := by decide +kernel
theorem dX10_worked_157 : decode cX10_worked 157 = .ok (.iinc 4 1, 3) := by decide +kernel
theorem dX10_worked_160 : decode cX10_worked 160 = .ok (.goto (-155), 3) := by decide +kernel
theorem dX10_worked_163 : decode cX10_worked 163 = .ok (.aload_n 0, 1) := by decide +kernel
theorem dX10_worked_164 : decode cX10_worked 164 = .ok (.getfield 54, 3) := by decide +kernel
theorem dX10_worked_167 : decode cX10_worked 167 = .ok (.iconst 0, 1) := by decide +kernel
theorem dX10_worked_168 : decode cX10_worked 168 = .ok (.iaload, 1) := by decide +kernel
theorem dX10_worked_169 : decode cX10_worked 169 = .ok (.ireturn, 1) := by decide +kernel
set_option maxRecDepth 20000 in
theorem dX10_loss_0 : decode cX10_loss 0 = .ok (.aload_n 0, 1) := by decide +kernel
theorem dX10_loss_1 : decode cX10_loss 1 = .ok (.getfield 216, 3) := by decide +kernel
theorem dX10_loss_4 : decode cX10_loss 4 = .ok (.ifCond .ne 20, 3) := by decide +kernel
theorem dX10_loss_7 : decode cX10_loss 7 = .ok (.bipush 99, 2) := by decide +kernel
theorem dX10_loss_9 : decode cX10_loss 9 = .ok (.aload_n 0, 1) := by decide +kernel
theorem dX10_loss_10 : decode cX10_loss 10 = .ok (.getfield 18, 3) := by decide +kernel
theorem dX10_loss_13 : decode cX10_loss 13 = .ok (.iload_n 1, 1) := by decide +kernel
theorem dX10_loss_14 : decode cX10_loss 14 = .ok (.iaload, 1) := by decide +kernel
theorem dX10_loss_15 : decode cX10_loss 15 = .ok (.iload_n 2, 1) := by decide +kernel
theorem dX10_loss_16 : decode cX10_loss 16 = .ok (.imul, 1) := by decide +kernel
theorem dX10_loss_17 : decode cX10_loss 17 = .ok (.bipush 10, 2) := by decide +kernel
theorem dX10_loss_19 : decode cX10_loss 19 = .ok (.idiv, 1) := by decide +kernel
theorem dX10_loss_20 : decode cX10_loss 20 = .ok (.invokestatic 226, 3) := by decide +kernel
theorem dX10_loss_23 : decode cX10_loss 23 = .ok (.ireturn, 1) := by decide +kernel
theorem dX10_loss_24 : decode cX10_loss 24 = .ok (.aload_n 0, 1) := by decide +kernel
theorem dX10_loss_25 : decode cX10_loss 25 = .ok (.getfield 57, 3) := by decide +kernel
theorem dX10_loss_28 : decode cX10_loss 28 = .ok (.iconst 0, 1) := by decide +kernel
theorem dX10_loss_29 : decode cX10_loss 29 = .ok (.aload_n 0, 1) := by decide +kernel
theorem dX10_loss_30 : decode cX10_loss 30 = .ok (.getfield 18, 3) := by decide +kernel
theorem dX10_loss_33 : decode cX10_loss 33 = .ok (.iload_n 1, 1) := by decide +kernel
theorem dX10_loss_34 : decode cX10_loss 34 = .ok (.iaload, 1) := by decide +kernel
theorem dX10_loss_35 : decode cX10_loss 35 = .ok (.iastore, 1) := by decide +kernel
theorem dX10_loss_36 : decode cX10_loss 36 = .ok (.aload_n 0, 1) := by decide +kernel
theorem dX10_loss_37 : decode cX10_loss 37 = .ok (.getfield 57, 3) := by decide +kernel
theorem dX10_loss_40 : decode cX10_loss 40 = .ok (.iconst 1, 1) := by decide +kernel
theorem dX10_loss_41 : decode cX10_loss 41 = .ok (.iload_n 2, 1) := by decide +kernel
theorem dX10_loss_42 : decode cX10_loss 42 = .ok (.iastore, 1) := by decide +kernel
theorem dX10_loss_43 : decode cX10_loss 43 = .ok (.aload_n 0, 1) := by decide +kernel
theorem dX10_loss_44 : decode cX10_loss 44 = .ok (.getfield 57, 3) := by decide +kernel
theorem dX10_loss_47 : decode cX10_loss 47 = .ok (.iconst 2, 1) := by decide +kernel
theorem dX10_loss_48 : decode cX10_loss 48 = .ok (.iload_n 3, 1) := by decide +kernel
theorem dX10_loss_49 : decode cX10_loss 49 = .ok (.iastore, 1) := by decide +kernel
theorem dX10_loss_50 : decode cX10_loss 50 = .ok (.aload_n 0, 1) := by decide +kernel
theorem dX10_loss_51 : decode cX10_loss 51 = .ok (.getfield 57, 3) := by decide +kernel
theorem dX10_loss_54 : decode cX10_loss 54 = .ok (.iconst 3, 1) := by decide +kernel
theorem dX10_loss_55 : decode cX10_loss 55 = .ok (.aload_n 0, 1) := by decide +kernel
theorem dX10_loss_56 : decode cX10_loss 56 = .ok (.getfield 21, 3) := by decide +kernel
theorem dX10_loss_59 : decode cX10_loss 59 = .ok (.iload_n 1, 1) := by decide +kernel
theorem dX10_loss_60 : decode cX10_loss 60 = .ok (.iaload, 1) := by decide +kernel
theorem dX10_loss_61 : decode cX10_loss 61 = .ok (.iastore, 1) := by decide +kernel
theorem dX10_loss_62 : decode cX10_loss 62 = .ok (.aload_n 0, 1) := by decide +kernel
theorem dX10_loss_63 : decode cX10_loss 63 = .ok (.getfield 57, 3) := by decide +kernel
theorem dX10_loss_66 : decode cX10_loss 66 = .ok (.iconst 4, 1) := by decide +kernel
theorem dX10_loss_67 : decode cX10_loss 67 = .ok (.iload_n 1, 1) := by decide +kernel
theorem dX10_loss_68 : decode cX10_loss 68 = .ok (.iastore, 1) := by decide +kernel
theorem dX10_loss_69 : decode cX10_loss 69 = .ok (.aload_n 0, 1) := by decide +kernel
theorem dX10_loss_70 : decode cX10_loss 70 = .ok (.getfield 57, 3) := by decide +kernel
theorem dX10_loss_73 : decode cX10_loss 73 = .ok (.iconst 5, 1) := by decide +kernel
theorem dX10_loss_74 : decode cX10_loss 74 = .ok (.aload_n 0, 1) := by decide +kernel
theorem dX10_loss_75 : decode cX10_loss 75 = .ok (.getfield 231, 3) := by decide +kernel
theorem dX10_loss_78 : decode cX10_loss 78 = .ok (.iastore, 1) := by decide +kernel
theorem dX10_loss_79 : decode cX10_loss 79 = .ok (.iconst 0, 1) := by decide +kernel
theorem dX10_loss_80 : decode cX10_loss 80 = .ok (.istore 4, 2) := by decide +kernel
theorem dX10_loss_82 : decode cX10_loss 82 = .ok (.iload 4, 2) := by decide +kernel
theorem dX10_loss_84 : decode cX10_loss 84 = .ok (.aload_n 0, 1) := by decide +kernel
theorem dX10_loss_85 : decode cX10_loss 85 = .ok (.getfield 220, 3) := by decide +kernel
theorem dX10_loss_88 : decode cX10_loss 88 = .ok (.if_icmp .ge 78, 3) := by decide +kernel
theorem dX10_loss_91 : decode cX10_loss 91 = .ok (.aload_n 0, 1) := by decide +kernel
theorem dX10_loss_92 : decode cX10_loss 92 = .ok (.getfield 33, 3) := by decide +kernel
theorem dX10_loss_95 : decode cX10_loss 95 = .ok (.iload 4, 2) := by decide +kernel
theorem dX10_loss_97 : decode cX10_loss 97 = .ok (.iaload, 1) := by decide +kernel
theorem dX10_loss_98 : decode cX10_loss 98 = .ok (.aload_n 0, 1) := by decide +kernel
theorem dX10_loss_99 : decode cX10_loss 99 = .ok (.getfield 30, 3) := by decide +kernel
theorem dX10_loss_102 : decode cX10_loss 102 = .ok (.iload 4, 2) := by decide +kernel
theorem dX10_loss_104 : decode cX10_loss 104 = .ok (.iaload, 1) := by decide +kernel
theorem dX10_loss_105 : decode cX10_loss 105 = .ok (.if_icmp .le 27, 3) := by decide +kernel
theorem dX10_loss_108 : decode cX10_loss 108 = .ok (.aload_n 0, 1) := by decide +kernel
theorem dX10_loss_109 : decode cX10_loss 109 = .ok (.aload_n 0, 1) := by decide +kernel
theorem dX10_loss_110 : decode cX10_loss 110 = .ok (.getfield 30, 3) := by decide +kernel
theorem dX10_loss_113 : decode cX10_loss 113 = .ok (.iload 4, 2) := by decide +kernel
theorem dX10_loss_115 : decode cX10_loss 115 = .ok (.iaload, 1) := by decide +kernel
theorem dX10_loss_116 : decode cX10_loss 116 = .ok (.aload_n 0, 1) := by decide +kernel
theorem dX10_loss_117 : decode cX10_loss 117 = .ok (.getfield 33, 3) := by decide +kernel
theorem dX10_loss_120 : decode cX10_loss 120 = .ok (.iload 4, 2) := by decide +kernel
theorem dX10_loss_122 : decode cX10_loss 122 = .ok (.iaload, 1) := by decide +kernel
theorem dX10_loss_123 : decode cX10_loss 123 = .ok (.invokevirtual 234, 3) := by decide +kernel
theorem dX10_loss_126 : decode cX10_loss 126 = .ok (.ifCond .ne 6, 3) := by decide +kernel
theorem dX10_loss_129 : decode cX10_loss 129 = .ok (.goto 31, 3) := by decide +kernel
theorem dX10_loss_132 : decode cX10_loss 132 = .ok (.iconst 0, 1) := by decide +kernel
theorem dX10_loss_133 : decode cX10_loss 133 = .ok (.bipush 99, 2) := by decide +kernel
theorem dX10_loss_135 : decode cX10_loss 135 = .ok (.aload_n 0, 1) := by decide +kernel
theorem dX10_loss_136 : decode cX10_loss 136 = .ok (.aload_n 0, 1) := by decide +kernel
theorem dX10_loss_137 : decode cX10_loss 137 = .ok (.getfield 33, 3) := by decide +kernel
theorem dX10_loss_140 : decode cX10_loss 140 = .ok (.iload 4, 2) := by decide +kernel
theorem dX10_loss_142 : decode cX10_loss 142 = .ok (.iaload, 1) := by decide +kernel
theorem dX10_loss_143 : decode cX10_loss 143 = .ok (.aload_n 0, 1) := by decide +kernel
theorem dX10_loss_144 : decode cX10_loss 144 = .ok (.getfield 36, 3) := by decide +kernel
theorem dX10_loss_147 : decode cX10_loss 147 = .ok (.iload 4, 2) := by decide +kernel
theorem dX10_loss_149 : decode cX10_loss 149 = .ok (.iaload, 1) := by decide +kernel
theorem dX10_loss_150 : decode cX10_loss 150 = .ok (.invokevirtual 234, 3) := by decide +kernel
theorem dX10_loss_153 : decode cX10_loss 153 = .ok (.invokestatic 226, 3) := by decide +kernel
theorem dX10_loss_156 : decode cX10_loss 156 = .ok (.invokestatic 237, 3) := by decide +kernel
theorem dX10_loss_159 : decode cX10_loss 159 = .ok (.ireturn, 1) := by decide +kernel
theorem dX10_loss_160 : decode cX10_loss 160 = .ok (.iinc 4 1, 3) := by decide +kernel
theorem dX10_loss_163 : decode cX10_loss 163 = .ok (.goto (-81), 3) := by decide +kernel
theorem dX10_loss_166 : decode cX10_loss 166 = .ok (.iconst 0, 1) := by decide +kernel
theorem dX10_loss_167 : decode cX10_loss 167 = .ok (.ireturn, 1) := by decide +kernel
theorem dX10_xOf_0 : decode cX10_xOf 0 = .ok (.iload_n 1, 1) := by decide +kernel
theorem dX10_xOf_1 : decode cX10_xOf 1 = .ok (.iconst (-1), 1) := by decide +kernel
theorem dX10_xOf_2 : decode cX10_xOf 2 = .ok (.if_icmp .ne 12, 3) := by decide +kernel
theorem dX10_xOf_5 : decode cX10_xOf 5 = .ok (.aload_n 0, 1) := by decide +kernel
theorem dX10_xOf_6 : decode cX10_xOf 6 = .ok (.getfield 24, 3) := by decide +kernel
theorem dX10_xOf_9 : decode cX10_xOf 9 = .ok (.iconst 0, 1) := by decide +kernel
theorem dX10_xOf_10 : decode cX10_xOf 10 = .ok (.iaload, 1) := by decide +kernel
theorem dX10_xOf_11 : decode cX10_xOf 11 = .ok (.goto 9, 3) := by decide +kernel
theorem dX10_xOf_14 : decode cX10_xOf 14 = .ok (.aload_n 0, 1) := by decide +kernel
theorem dX10_xOf_15 : decode cX10_xOf 15 = .ok (.getfield 9, 3) := by decide +kernel
theorem dX10_xOf_18 : decode cX10_xOf 18 = .ok (.iload_n 1, 1) := by decide +kernel
theorem dX10_xOf_19 : decode cX10_xOf 19 = .ok (.iaload, 1) := by decide +kernel
theorem dX10_xOf_20 : decode cX10_xOf 20 = .ok (.ireturn, 1) := by decide +kernel
theorem dX10_yOf_0 : decode cX10_yOf 0 = .ok (.iload_n 1, 1) := by decide +kernel
theorem dX10_yOf_1 : decode cX10_yOf 1 = .ok (.iconst (-1), 1) := by decide +kernel
theorem dX10_yOf_2 : decode cX10_yOf 2 = .ok (.if_icmp .ne 12, 3) := by decide +kernel
theorem dX10_yOf_5 : decode cX10_yOf 5 = .ok (.aload_n 0, 1) := by decide +kernel
theorem dX10_yOf_6 : decode cX10_yOf 6 = .ok (.getfield 24, 3) := by decide +kernel
theorem dX10_yOf_9 : decode cX10_yOf 9 = .ok (.iconst 1, 1) := by decide +kernel
theorem dX10_yOf_10 : decode cX10_yOf 10 = .ok (.iaload, 1) := by decide +kernel
theorem dX10_yOf_11 : decode cX10_yOf 11 = .ok (.goto 9, 3) := by decide +kernel
theorem dX10_yOf_14 : decode cX10_yOf 14 = .ok (.aload_n 0, 1) := by decide +kernel
theorem dX10_yOf_15 : decode cX10_yOf 15 = .ok (.getfield 15, 3) := by decide +kernel
theorem dX10_yOf_18 : decode cX10_yOf 18 = .ok (.iload_n 1, 1) := by decide +kernel
theorem dX10_yOf_19 : decode cX10_yOf 19 = .ok (.iaload, 1) := by decide +kernel
theorem dX10_yOf_20 : decode cX10_yOf 20 = .ok (.ireturn, 1) := by decide +kernel
set_option maxRecDepth 20000 in
theorem dX10_apart_0 : decode cX10_apart 0 = .ok (.aload_n 0, 1) := by decide +kernel
theorem dX10_apart_1 : decode cX10_apart 1 = .ok (.iload_n 1, 1) := by decide +kernel
theorem dX10_apart_2 : decode cX10_apart 2 = .ok (.invokevirtual 240, 3) := by decide +kernel
theorem dX10_apart_5 : decode cX10_apart 5 = .ok (.aload_n 0, 1) := by decide +kernel
theorem dX10_apart_6 : decode cX10_apart 6 = .ok (.iload_n 2, 1) := by decide +kernel
theorem dX10_apart_7 : decode cX10_apart 7 = .ok (.invokevirtual 240, 3) := by decide +kernel
theorem dX10_apart_10 : decode cX10_apart 10 = .ok (.isub, 1) := by decide +kernel
theorem dX10_apart_11 : decode cX10_apart 11 = .ok (.invokestatic 243, 3) := by decide +kernel
theorem dX10_apart_14 : decode cX10_apart 14 = .ok (.aload_n 0, 1) := by decide +kernel
theorem dX10_apart_15 : decode cX10_apart 15 = .ok (.iload_n 1, 1) := by decide +kernel
theorem dX10_apart_16 : decode cX10_apart 16 = .ok (.invokevirtual 246, 3) := by decide +kernel
theorem dX10_apart_19 : decode cX10_apart 19 = .ok (.aload_n 0, 1) := by decide +kernel
theorem dX10_apart_20 : decode cX10_apart 20 = .ok (.iload_n 2, 1) := by decide +kernel
theorem dX10_apart_21 : decode cX10_apart 21 = .ok (.invokevirtual 246, 3) := by decide +kernel
theorem dX10_apart_24 : decode cX10_apart 24 = .ok (.isub, 1) := by decide +kernel
theorem dX10_apart_25 : decode cX10_apart 25 = .ok (.invokestatic 243, 3) := by decide +kernel
theorem dX10_apart_28 : decode cX10_apart 28 = .ok (.iadd, 1) := by decide +kernel
theorem dX10_apart_29 : decode cX10_apart 29 = .ok (.ireturn, 1) := by decide +kernel
set_option maxRecDepth 20000 in
theorem dX10_minutes_0 : decode cX10_minutes 0 = .ok (.aload_n 0, 1) := by decide +kernel
theorem dX10_minutes_1 : decode cX10_minutes 1 = .ok (.iload_n 1, 1) := by decide +kernel
theorem dX10_minutes_2 : decode cX10_minutes 2 = .ok (.iload_n 2, 1) := by decide +kernel
theorem dX10_minutes_3 : decode cX10_minutes 3 = .ok (.invokevirtual 249, 3) := by decide +kernel
theorem dX10_minutes_6 : decode cX10_minutes 6 = .ok (.aload_n 0, 1) := by decide +kernel
theorem dX10_minutes_7 : decode cX10_minutes 7 = .ok (.getfield 24, 3) := by decide +kernel
theorem dX10_minutes_10 : decode cX10_minutes 10 = .ok (.iconst 2, 1) := by decide +kernel
theorem dX10_minutes_11 : decode cX10_minutes 11 = .ok (.iaload, 1) := by decide +kernel
theorem dX10_minutes_12 : decode cX10_minutes 12 = .ok (.imul, 1) := by decide +kernel
theorem dX10_minutes_13 : decode cX10_minutes 13 = .ok (.ireturn, 1) := by decide +kernel
theorem dX10_noRow_0 : decode cX10_noRow 0 = .ok (.aload_n 0, 1) := by decide +kernel
theorem dX10_noRow_1 : decode cX10_noRow 1 = .ok (.getfield 81, 3) := by decide +kernel
theorem dX10_noRow_4 : decode cX10_noRow 4 = .ok (.iload_n 1, 1) := by decide +kernel
theorem dX10_noRow_5 : decode cX10_noRow 5 = .ok (.iaload, 1) := by decide +kernel
theorem dX10_noRow_6 : decode cX10_noRow 6 = .ok (.iconst (-1), 1) := by decide +kernel
theorem dX10_noRow_7 : decode cX10_noRow 7 = .ok (.if_icmp .ne 8, 3) := by decide +kernel
theorem dX10_noRow_10 : decode cX10_noRow 10 = .ok (.bipush (-11), 2) := by decide +kernel
theorem dX10_noRow_12 : decode cX10_noRow 12 = .ok (.goto 19, 3) := by decide +kernel
theorem dX10_noRow_15 : decode cX10_noRow 15 = .ok (.aload_n 0, 1) := by decide +kernel
theorem dX10_noRow_16 : decode cX10_noRow 16 = .ok (.getfield 81, 3) := by decide +kernel
theorem dX10_noRow_19 : decode cX10_noRow 19 = .ok (.iload_n 1, 1) := by decide +kernel
theorem dX10_noRow_20 : decode cX10_noRow 20 = .ok (.iaload, 1) := by decide +kernel
theorem dX10_noRow_21 : decode cX10_noRow 21 = .ok (.iload_n 2, 1) := by decide +kernel
theorem dX10_noRow_22 : decode cX10_noRow 22 = .ok (.if_icmp .eq 8, 3) := by decide +kernel
theorem dX10_noRow_25 : decode cX10_noRow 25 = .ok (.bipush (-12), 2) := by decide +kernel
theorem dX10_noRow_27 : decode cX10_noRow 27 = .ok (.goto 4, 3) := by decide +kernel
theorem dX10_noRow_30 : decode cX10_noRow 30 = .ok (.iconst 0, 1) := by decide +kernel
theorem dX10_noRow_31 : decode cX10_noRow 31 = .ok (.ireturn, 1) := by decide +kernel
theorem dX10_toldAt_0 : decode cX10_toldAt 0 = .ok (.aload_n 0, 1) := by decide +kernel
theorem dX10_toldAt_1 : decode cX10_toldAt 1 = .ok (.getfield 87, 3) := by decide +kernel
theorem dX10_toldAt_4 : decode cX10_toldAt 4 = .ok (.bipush 60, 2) := by decide +kernel
theorem dX10_toldAt_6 : decode cX10_toldAt 6 = .ok (.iload_n 1, 1) := by decide +kernel
theorem dX10_toldAt_7 : decode cX10_toldAt 7 = .ok (.imul, 1) := by decide +kernel
theorem dX10_toldAt_8 : decode cX10_toldAt 8 = .ok (.iload_n 2, 1) := by decide +kernel
theorem dX10_toldAt_9 : decode cX10_toldAt 9 = .ok (.iadd, 1) := by decide +kernel
theorem dX10_toldAt_10 : decode cX10_toldAt 10 = .ok (.laload, 1) := by decide +kernel
theorem dX10_toldAt_11 : decode cX10_toldAt 11 = .ok (.l2i, 1) := by decide +kernel
theorem dX10_toldAt_12 : decode cX10_toldAt 12 = .ok (.ireturn, 1) := by decide +kernel
set_option maxRecDepth 20000 in
theorem dX10_reads_0 : decode cX10_reads 0 = .ok (.aload_n 0, 1) := by decide +kernel
theorem dX10_reads_1 : decode cX10_reads 1 = .ok (.iconst 0, 1) := by decide +kernel
theorem dX10_reads_2 : decode cX10_reads 2 = .ok (.putfield 231, 3) := by decide +kernel
theorem dX10_reads_5 : decode cX10_reads 5 = .ok (.aload_n 0, 1) := by decide +kernel
theorem dX10_reads_6 : decode cX10_reads 6 = .ok (.getfield 231, 3) := by decide +kernel
theorem dX10_reads_9 : decode cX10_reads 9 = .ok (.bipush 20, 2) := by decide +kernel
theorem dX10_reads_11 : decode cX10_reads 11 = .ok (.if_icmp .ge 68, 3) := by decide +kernel
theorem dX10_reads_14 : decode cX10_reads 14 = .ok (.aload_n 0, 1) := by decide +kernel
theorem dX10_reads_15 : decode cX10_reads 15 = .ok (.getfield 231, 3) := by decide +kernel
theorem dX10_reads_18 : decode cX10_reads 18 = .ok (.aload_n 0, 1) := by decide +kernel
theorem dX10_reads_19 : decode cX10_reads 19 = .ok (.getfield 84, 3) := by decide +kernel
theorem dX10_reads_22 : decode cX10_reads 22 = .ok (.iload_n 1, 1) := by decide +kernel
theorem dX10_reads_23 : decode cX10_reads 23 = .ok (.iaload, 1) := by decide +kernel
theorem dX10_reads_24 : decode cX10_reads 24 = .ok (.if_icmp .ge 55, 3) := by decide +kernel
theorem dX10_reads_27 : decode cX10_reads 27 = .ok (.aload_n 0, 1) := by decide +kernel
theorem dX10_reads_28 : decode cX10_reads 28 = .ok (.aload_n 0, 1) := by decide +kernel
theorem dX10_reads_29 : decode cX10_reads 29 = .ok (.getfield 87, 3) := by decide +kernel
theorem dX10_reads_32 : decode cX10_reads 32 = .ok (.bipush 60, 2) := by decide +kernel
theorem dX10_reads_34 : decode cX10_reads 34 = .ok (.iload_n 1, 1) := by decide +kernel
theorem dX10_reads_35 : decode cX10_reads 35 = .ok (.imul, 1) := by decide +kernel
theorem dX10_reads_36 : decode cX10_reads 36 = .ok (.aload_n 0, 1) := by decide +kernel
theorem dX10_reads_37 : decode cX10_reads 37 = .ok (.getfield 231, 3) := by decide +kernel
theorem dX10_reads_40 : decode cX10_reads 40 = .ok (.iadd, 1) := by decide +kernel
theorem dX10_reads_41 : decode cX10_reads 41 = .ok (.laload, 1) := by decide +kernel
theorem dX10_reads_42 : decode cX10_reads 42 = .ok (.invokevirtual 137, 3) := by decide +kernel
theorem dX10_reads_45 : decode cX10_reads 45 = .ok (.ifCond .eq 34, 3) := by decide +kernel
theorem dX10_reads_48 : decode cX10_reads 48 = .ok (.aload_n 0, 1) := by decide +kernel
theorem dX10_reads_49 : decode cX10_reads 49 = .ok (.getfield 91, 3) := by decide +kernel
theorem dX10_reads_52 : decode cX10_reads 52 = .ok (.aload_n 0, 1) := by decide +kernel
theorem dX10_reads_53 : decode cX10_reads 53 = .ok (.getfield 231, 3) := by decide +kernel
theorem dX10_reads_56 : decode cX10_reads 56 = .ok (.aload_n 0, 1) := by decide +kernel
theorem dX10_reads_57 : decode cX10_reads 57 = .ok (.iload_n 1, 1) := by decide +kernel
theorem dX10_reads_58 : decode cX10_reads 58 = .ok (.aload_n 0, 1) := by decide +kernel
theorem dX10_reads_59 : decode cX10_reads 59 = .ok (.getfield 231, 3) := by decide +kernel
theorem dX10_reads_62 : decode cX10_reads 62 = .ok (.invokevirtual 252, 3) := by decide +kernel
theorem dX10_reads_65 : decode cX10_reads 65 = .ok (.iastore, 1) := by decide +kernel
theorem dX10_reads_66 : decode cX10_reads 66 = .ok (.aload_n 0, 1) := by decide +kernel
theorem dX10_reads_67 : decode cX10_reads 67 = .ok (.dup, 1) := by decide +kernel
theorem dX10_reads_68 : decode cX10_reads 68 = .ok (.getfield 231, 3) := by decide +kernel
theorem dX10_reads_71 : decode cX10_reads 71 = .ok (.iconst 1, 1) := by decide +kernel
theorem dX10_reads_72 : decode cX10_reads 72 = .ok (.iadd, 1) := by decide +kernel
theorem dX10_reads_73 : decode cX10_reads 73 = .ok (.putfield 231, 3) := by decide +kernel
theorem dX10_reads_76 : decode cX10_reads 76 = .ok (.goto (-71), 3) := by decide +kernel
theorem dX10_reads_79 : decode cX10_reads 79 = .ok (.return_, 1) := by decide +kernel
theorem dX10_turns_0 : decode cX10_turns 0 = .ok (.iconst 0, 1) := by decide +kernel
theorem dX10_turns_1 : decode cX10_turns 1 = .ok (.istore_n 1, 1) := by decide +kernel
theorem dX10_turns_2 : decode cX10_turns 2 = .ok (.aload_n 0, 1) := by decide +kernel
theorem dX10_turns_3 : decode cX10_turns 3 = .ok (.getfield 231, 3) := by decide +kernel
theorem dX10_turns_6 : decode cX10_turns 6 = .ok (.iconst 1, 1) := by decide +kernel
theorem dX10_turns_7 : decode cX10_turns 7 = .ok (.isub, 1) := by decide +kernel
theorem dX10_turns_8 : decode cX10_turns 8 = .ok (.istore_n 2, 1) := by decide +kernel
theorem dX10_turns_9 : decode cX10_turns 9 = .ok (.iload_n 1, 1) := by decide +kernel
theorem dX10_turns_10 : decode cX10_turns 10 = .ok (.iload_n 2, 1) := by decide +kernel
theorem dX10_turns_11 : decode cX10_turns 11 = .ok (.if_icmp .ge 38, 3) := by decide +kernel
theorem dX10_turns_14 : decode cX10_turns 14 = .ok (.aload_n 0, 1) := by decide +kernel
theorem dX10_turns_15 : decode cX10_turns 15 = .ok (.getfield 91, 3) := by decide +kernel
theorem dX10_turns_18 : decode cX10_turns 18 = .ok (.iload_n 1, 1) := by decide +kernel
theorem dX10_turns_19 : decode cX10_turns 19 = .ok (.iaload, 1) := by decide +kernel
theorem dX10_turns_20 : decode cX10_turns 20 = .ok (.istore_n 3, 1) := by decide +kernel
theorem dX10_turns_21 : decode cX10_turns 21 = .ok (.aload_n 0, 1) := by decide +kernel
theorem dX10_turns_22 : decode cX10_turns 22 = .ok (.getfield 91, 3) := by decide +kernel
theorem dX10_turns_25 : decode cX10_turns 25 = .ok (.iload_n 1, 1) := by decide +kernel
theorem dX10_turns_26 : decode cX10_turns 26 = .ok (.aload_n 0, 1) := by decide +kernel
theorem dX10_turns_27 : decode cX10_turns 27 = .ok (.getfield 91, 3) := by decide +kernel
theorem dX10_turns_30 : decode cX10_turns 30 = .ok (.iload_n 2, 1) := by decide +kernel
theorem dX10_turns_31 : decode cX10_turns 31 = .ok (.iaload, 1) := by decide +kernel
theorem dX10_turns_32 : decode cX10_turns 32 = .ok (.iastore, 1) := by decide +kernel
theorem dX10_turns_33 : decode cX10_turns 33 = .ok (.aload_n 0, 1) := by decide +kernel
theorem dX10_turns_34 : decode cX10_turns 34 = .ok (.getfield 91, 3) := by decide +kernel
theorem dX10_turns_37 : decode cX10_turns 37 = .ok (.iload_n 2, 1) := by decide +kernel
theorem dX10_turns_38 : decode cX10_turns 38 = .ok (.iload_n 3, 1) := by decide +kernel
theorem dX10_turns_39 : decode cX10_turns 39 = .ok (.iastore, 1) := by decide +kernel
theorem dX10_turns_40 : decode cX10_turns 40 = .ok (.iinc 1 1, 3) := by decide +kernel
theorem dX10_turns_43 : decode cX10_turns 43 = .ok (.iinc 2 (-1), 3) := by decide +kernel
theorem dX10_turns_46 : decode cX10_turns 46 = .ok (.goto (-37), 3) := by decide +kernel
theorem dX10_turns_49 : decode cX10_turns 49 = .ok (.return_, 1) := by decide +kernel
set_option maxRecDepth 20000 in
theorem dX10_walks_0 : decode cX10_walks 0 = .ok (.aload_n 0, 1) := by decide +kernel
theorem dX10_walks_1 : decode cX10_walks 1 = .ok (.iconst 0, 1) := by decide +kernel
theorem dX10_walks_2 : decode cX10_walks 2 = .ok (.putfield 255, 3) := by decide +kernel
theorem dX10_walks_5 : decode cX10_walks 5 = .ok (.iconst 0, 1) := by decide +kernel
theorem dX10_walks_6 : decode cX10_walks 6 = .ok (.istore_n 2, 1) := by decide +kernel
theorem dX10_walks_7 : decode cX10_walks 7 = .ok (.iconst (-1), 1) := by decide +kernel
theorem dX10_walks_8 : decode cX10_walks 8 = .ok (.istore_n 3, 1) := by decide +kernel
theorem dX10_walks_9 : decode cX10_walks 9 = .ok (.iconst 0, 1) := by decide +kernel
theorem dX10_walks_10 : decode cX10_walks 10 = .ok (.istore 4, 2) := by decide +kernel
theorem dX10_walks_12 : decode cX10_walks 12 = .ok (.aload_n 0, 1) := by decide +kernel
theorem dX10_walks_13 : decode cX10_walks 13 = .ok (.getfield 231, 3) := by decide +kernel
theorem dX10_walks_16 : decode cX10_walks 16 = .ok (.ifCond .le 98, 3) := by decide +kernel
theorem dX10_walks_19 : decode cX10_walks 19 = .ok (.aload_n 0, 1) := by decide +kernel
theorem dX10_walks_20 : decode cX10_walks 20 = .ok (.getfield 255, 3) := by decide +kernel
theorem dX10_walks_23 : decode cX10_walks 23 = .ok (.iload_n 1, 1) := by decide +kernel
theorem dX10_walks_24 : decode cX10_walks 24 = .ok (.if_icmp .ge 90, 3) := by decide +kernel
theorem dX10_walks_27 : decode cX10_walks 27 = .ok (.iload_n 2, 1) := by decide +kernel
theorem dX10_walks_28 : decode cX10_walks 28 = .ok (.aload_n 0, 1) := by decide +kernel
theorem dX10_walks_29 : decode cX10_walks 29 = .ok (.iload_n 3, 1) := by decide +kernel
theorem dX10_walks_30 : decode cX10_walks 30 = .ok (.aload_n 0, 1) := by decide +kernel
theorem dX10_walks_31 : decode cX10_walks 31 = .ok (.getfield 91, 3) := by decide +kernel
theorem dX10_walks_34 : decode cX10_walks 34 = .ok (.iload 4, 2) := by decide +kernel
theorem dX10_walks_36 : decode cX10_walks 36 = .ok (.iaload, 1) := by decide +kernel
theorem dX10_walks_37 : decode cX10_walks 37 = .ok (.invokevirtual 258, 3) := by decide +kernel
theorem dX10_walks_40 : decode cX10_walks 40 = .ok (.iadd, 1) := by decide +kernel
theorem dX10_walks_41 : decode cX10_walks 41 = .ok (.istore_n 2, 1) := by decide +kernel
theorem dX10_walks_42 : decode cX10_walks 42 = .ok (.iload_n 2, 1) := by decide +kernel
theorem dX10_walks_43 : decode cX10_walks 43 = .ok (.sipush 2000, 3) := by decide +kernel
theorem dX10_walks_46 : decode cX10_walks 46 = .ok (.if_icmp .lt 4, 3) := by decide +kernel
theorem dX10_walks_49 : decode cX10_walks 49 = .ok (.return_, 1) := by decide +kernel
theorem dX10_walks_50 : decode cX10_walks 50 = .ok (.aload_n 0, 1) := by decide +kernel
theorem dX10_walks_51 : decode cX10_walks 51 = .ok (.getfield 94, 3) := by decide +kernel
theorem dX10_walks_54 : decode cX10_walks 54 = .ok (.aload_n 0, 1) := by decide +kernel
theorem dX10_walks_55 : decode cX10_walks 55 = .ok (.getfield 255, 3) := by decide +kernel
theorem dX10_walks_58 : decode cX10_walks 58 = .ok (.iload_n 2, 1) := by decide +kernel
theorem dX10_walks_59 : decode cX10_walks 59 = .ok (.iastore, 1) := by decide +kernel
theorem dX10_walks_60 : decode cX10_walks 60 = .ok (.aload_n 0, 1) := by decide +kernel
theorem dX10_walks_61 : decode cX10_walks 61 = .ok (.getfield 97, 3) := by decide +kernel
theorem dX10_walks_64 : decode cX10_walks 64 = .ok (.aload_n 0, 1) := by decide +kernel
theorem dX10_walks_65 : decode cX10_walks 65 = .ok (.dup, 1) := by decide +kernel
theorem dX10_walks_66 : decode cX10_walks 66 = .ok (.getfield 255, 3) := by decide +kernel
theorem dX10_walks_69 : decode cX10_walks 69 = .ok (.dup_x1, 1) := by decide +kernel
theorem dX10_walks_70 : decode cX10_walks 70 = .ok (.iconst 1, 1) := by decide +kernel
theorem dX10_walks_71 : decode cX10_walks 71 = .ok (.iadd, 1) := by decide +kernel
theorem dX10_walks_72 : decode cX10_walks 72 = .ok (.putfield 255, 3) := by decide +kernel
theorem dX10_walks_75 : decode cX10_walks 75 = .ok (.aload_n 0, 1) := by decide +kernel
theorem dX10_walks_76 : decode cX10_walks 76 = .ok (.getfield 91, 3) := by decide +kernel
theorem dX10_walks_79 : decode cX10_walks 79 = .ok (.iload 4, 2) := by decide +kernel
theorem dX10_walks_81 : decode cX10_walks 81 = .ok (.iaload, 1) := by decide +kernel
theorem dX10_walks_82 : decode cX10_walks 82 = .ok (.iastore, 1) := by decide +kernel
theorem dX10_walks_83 : decode cX10_walks 83 = .ok (.aload_n 0, 1) := by decide +kernel
theorem dX10_walks_84 : decode cX10_walks 84 = .ok (.getfield 91, 3) := by decide +kernel
theorem dX10_walks_87 : decode cX10_walks 87 = .ok (.iload 4, 2) := by decide +kernel
theorem dX10_walks_89 : decode cX10_walks 89 = .ok (.iaload, 1) := by decide +kernel
theorem dX10_walks_90 : decode cX10_walks 90 = .ok (.istore_n 3, 1) := by decide +kernel
theorem dX10_walks_91 : decode cX10_walks 91 = .ok (.iload_n 2, 1) := by decide +kernel
theorem dX10_walks_92 : decode cX10_walks 92 = .ok (.aload_n 0, 1) := by decide +kernel
theorem dX10_walks_93 : decode cX10_walks 93 = .ok (.getfield 24, 3) := by decide +kernel
theorem dX10_walks_96 : decode cX10_walks 96 = .ok (.iconst 3, 1) := by decide +kernel
theorem dX10_walks_97 : decode cX10_walks 97 = .ok (.iaload, 1) := by decide +kernel
theorem dX10_walks_98 : decode cX10_walks 98 = .ok (.iadd, 1) := by decide +kernel
theorem dX10_walks_99 : decode cX10_walks 99 = .ok (.istore_n 2, 1) := by decide +kernel
theorem dX10_walks_100 : decode cX10_walks 100 = .ok (.iload 4, 2) := by decide +kernel
theorem dX10_walks_102 : decode cX10_walks 102 = .ok (.iconst 1, 1) := by decide +kernel
theorem dX10_walks_103 : decode cX10_walks 103 = .ok (.iadd, 1) := by decide +kernel
theorem dX10_walks_104 : decode cX10_walks 104 = .ok (.aload_n 0, 1) := by decide +kernel
theorem dX10_walks_105 : decode cX10_walks 105 = .ok (.getfield 231, 3) := by decide +kernel
theorem dX10_walks_108 : decode cX10_walks 108 = .ok (.irem, 1) := by decide +kernel
theorem dX10_walks_109 : decode cX10_walks 109 = .ok (.istore 4, 2) := by decide +kernel
theorem dX10_walks_111 : decode cX10_walks 111 = .ok (.goto (-99), 3) := by decide +kernel
theorem dX10_walks_114 : decode cX10_walks 114 = .ok (.return_, 1) := by decide +kernel
set_option maxRecDepth 20000 in
theorem dX10_looks_0 : decode cX10_looks 0 = .ok (.aload_n 0, 1) := by decide +kernel
theorem dX10_looks_1 : decode cX10_looks 1 = .ok (.sipush 4000, 3) := by decide +kernel
theorem dX10_looks_4 : decode cX10_looks 4 = .ok (.invokevirtual 261, 3) := by decide +kernel
theorem dX10_looks_7 : decode cX10_looks 7 = .ok (.iconst 0, 1) := by decide +kernel
theorem dX10_looks_8 : decode cX10_looks 8 = .ok (.istore_n 1, 1) := by decide +kernel
theorem dX10_looks_9 : decode cX10_looks 9 = .ok (.iload_n 1, 1) := by decide +kernel
theorem dX10_looks_10 : decode cX10_looks 10 = .ok (.sipush 18000, 3) := by decide +kernel
theorem dX10_looks_13 : decode cX10_looks 13 = .ok (.if_icmp .ge 16, 3) := by decide +kernel
theorem dX10_looks_16 : decode cX10_looks 16 = .ok (.aload_n 0, 1) := by decide +kernel
theorem dX10_looks_17 : decode cX10_looks 17 = .ok (.getfield 100, 3) := by decide +kernel
theorem dX10_looks_20 : decode cX10_looks 20 = .ok (.iload_n 1, 1) := by decide +kernel
theorem dX10_looks_21 : decode cX10_looks 21 = .ok (.iconst (-1), 1) := by decide +kernel
theorem dX10_looks_22 : decode cX10_looks 22 = .ok (.iastore, 1) := by decide +kernel
theorem dX10_looks_23 : decode cX10_looks 23 = .ok (.iinc 1 1, 3) := by decide +kernel
theorem dX10_looks_26 : decode cX10_looks 26 = .ok (.goto (-17), 3) := by decide +kernel
theorem dX10_looks_29 : decode cX10_looks 29 = .ok (.iconst 0, 1) := by decide +kernel
theorem dX10_looks_30 : decode cX10_looks 30 = .ok (.istore_n 1, 1) := by decide +kernel
theorem dX10_looks_31 : decode cX10_looks 31 = .ok (.iload_n 1, 1) := by decide +kernel
theorem dX10_looks_32 : decode cX10_looks 32 = .ok (.aload_n 0, 1) := by decide +kernel
theorem dX10_looks_33 : decode cX10_looks 33 = .ok (.getfield 255, 3) := by decide +kernel
theorem dX10_looks_36 : decode cX10_looks 36 = .ok (.if_icmp .ge 37, 3) := by decide +kernel
theorem dX10_looks_39 : decode cX10_looks 39 = .ok (.aload_n 0, 1) := by decide +kernel
theorem dX10_looks_40 : decode cX10_looks 40 = .ok (.getfield 100, 3) := by decide +kernel
theorem dX10_looks_43 : decode cX10_looks 43 = .ok (.sipush 2000, 3) := by decide +kernel
theorem dX10_looks_46 : decode cX10_looks 46 = .ok (.aload_n 0, 1) := by decide +kernel
theorem dX10_looks_47 : decode cX10_looks 47 = .ok (.getfield 97, 3) := by decide +kernel
theorem dX10_looks_50 : decode cX10_looks 50 = .ok (.iload_n 1, 1) := by decide +kernel
theorem dX10_looks_51 : decode cX10_looks 51 = .ok (.iaload, 1) := by decide +kernel
theorem dX10_looks_52 : decode cX10_looks 52 = .ok (.imul, 1) := by decide +kernel
theorem dX10_looks_53 : decode cX10_looks 53 = .ok (.aload_n 0, 1) := by decide +kernel
theorem dX10_looks_54 : decode cX10_looks 54 = .ok (.getfield 94, 3) := by decide +kernel
theorem dX10_looks_57 : decode cX10_looks 57 = .ok (.iload_n 1, 1) := by decide +kernel
theorem dX10_looks_58 : decode cX10_looks 58 = .ok (.iaload, 1) := by decide +kernel
theorem dX10_looks_59 : decode cX10_looks 59 = .ok (.iadd, 1) := by decide +kernel
theorem dX10_looks_60 : decode cX10_looks 60 = .ok (.aload_n 0, 1) := by decide +kernel
theorem dX10_looks_61 : decode cX10_looks 61 = .ok (.getfield 94, 3) := by decide +kernel
theorem dX10_looks_64 : decode cX10_looks 64 = .ok (.iload_n 1, 1) := by decide +kernel
theorem dX10_looks_65 : decode cX10_looks 65 = .ok (.iaload, 1) := by decide +kernel
theorem dX10_looks_66 : decode cX10_looks 66 = .ok (.iastore, 1) := by decide +kernel
theorem dX10_looks_67 : decode cX10_looks 67 = .ok (.iinc 1 1, 3) := by decide +kernel
theorem dX10_looks_70 : decode cX10_looks 70 = .ok (.goto (-39), 3) := by decide +kernel
theorem dX10_looks_73 : decode cX10_looks 73 = .ok (.iconst 0, 1) := by decide +kernel
theorem dX10_looks_74 : decode cX10_looks 74 = .ok (.istore_n 1, 1) := by decide +kernel
theorem dX10_looks_75 : decode cX10_looks 75 = .ok (.iload_n 1, 1) := by decide +kernel
theorem dX10_looks_76 : decode cX10_looks 76 = .ok (.bipush 9, 2) := by decide +kernel
theorem dX10_looks_78 : decode cX10_looks 78 = .ok (.if_icmp .ge 65, 3) := by decide +kernel
theorem dX10_looks_81 : decode cX10_looks 81 = .ok (.iconst 1, 1) := by decide +kernel
theorem dX10_looks_82 : decode cX10_looks 82 = .ok (.istore_n 2, 1) := by decide +kernel
theorem dX10_looks_83 : decode cX10_looks 83 = .ok (.iload_n 2, 1) := by decide +kernel
theorem dX10_looks_84 : decode cX10_looks 84 = .ok (.sipush 2000, 3) := by decide +kernel
theorem dX10_looks_87 : decode cX10_looks 87 = .ok (.if_icmp .ge 50, 3) := by decide +kernel
theorem dX10_looks_90 : decode cX10_looks 90 = .ok (.aload_n 0, 1) := by decide +kernel
theorem dX10_looks_91 : decode cX10_looks 91 = .ok (.getfield 100, 3) := by decide +kernel
theorem dX10_looks_94 : decode cX10_looks 94 = .ok (.sipush 2000, 3) := by decide +kernel
theorem dX10_looks_97 : decode cX10_looks 97 = .ok (.iload_n 1, 1) := by decide +kernel
theorem dX10_looks_98 : decode cX10_looks 98 = .ok (.imul, 1) := by decide +kernel
theorem dX10_looks_99 : decode cX10_looks 99 = .ok (.iload_n 2, 1) := by decide +kernel
theorem dX10_looks_100 : decode cX10_looks 100 = .ok (.iadd, 1) := by decide +kernel
theorem dX10_looks_101 : decode cX10_looks 101 = .ok (.iaload, 1) := by decide +kernel
theorem dX10_looks_102 : decode cX10_looks 102 = .ok (.ifCond .ge 29, 3) := by decide +kernel
theorem dX10_looks_105 : decode cX10_looks 105 = .ok (.aload_n 0, 1) := by decide +kernel
theorem dX10_looks_106 : decode cX10_looks 106 = .ok (.getfield 100, 3) := by decide +kernel
theorem dX10_looks_109 : decode cX10_looks 109 = .ok (.sipush 2000, 3) := by decide +kernel
theorem dX10_looks_112 : decode cX10_looks 112 = .ok (.iload_n 1, 1) := by decide +kernel
theorem dX10_looks_113 : decode cX10_looks 113 = .ok (.imul, 1) := by decide +kernel
theorem dX10_looks_114 : decode cX10_looks 114 = .ok (.iload_n 2, 1) := by decide +kernel
theorem dX10_looks_115 : decode cX10_looks 115 = .ok (.iadd, 1) := by decide +kernel
theorem dX10_looks_116 : decode cX10_looks 116 = .ok (.aload_n 0, 1) := by decide +kernel
theorem dX10_looks_117 : decode cX10_looks 117 = .ok (.getfield 100, 3) := by decide +kernel
theorem dX10_looks_120 : decode cX10_looks 120 = .ok (.sipush 2000, 3) := by decide +kernel
theorem dX10_looks_123 : decode cX10_looks 123 = .ok (.iload_n 1, 1) := by decide +kernel
theorem dX10_looks_124 : decode cX10_looks 124 = .ok (.imul, 1) := by decide +kernel
theorem dX10_looks_125 : decode cX10_looks 125 = .ok (.iload_n 2, 1) := by decide +kernel
theorem dX10_looks_126 : decode cX10_looks 126 = .ok (.iadd, 1) := by decide +kernel
theorem dX10_looks_127 : decode cX10_looks 127 = .ok (.iconst 1, 1) := by decide +kernel
theorem dX10_looks_128 : decode cX10_looks 128 = .ok (.isub, 1) := by decide +kernel
theorem dX10_looks_129 : decode cX10_looks 129 = .ok (.iaload, 1) := by decide +kernel
theorem dX10_looks_130 : decode cX10_looks 130 = .ok (.iastore, 1) := by decide +kernel
theorem dX10_looks_131 : decode cX10_looks 131 = .ok (.iinc 2 1, 3) := by decide +kernel
theorem dX10_looks_134 : decode cX10_looks 134 = .ok (.goto (-51), 3) := by decide +kernel
theorem dX10_looks_137 : decode cX10_looks 137 = .ok (.iinc 1 1, 3) := by decide +kernel
theorem dX10_looks_140 : decode cX10_looks 140 = .ok (.goto (-65), 3) := by decide +kernel
theorem dX10_looks_143 : decode cX10_looks 143 = .ok (.return_, 1) := by decide +kernel
theorem dX10_isSeen_0 : decode cX10_isSeen 0 = .ok (.aload_n 0, 1) := by decide +kernel
theorem dX10_isSeen_1 : decode cX10_isSeen 1 = .ok (.getfield 100, 3) := by decide +kernel
theorem dX10_isSeen_4 : decode cX10_isSeen 4 = .ok (.sipush 2000, 3) := by decide +kernel
theorem dX10_isSeen_7 : decode cX10_isSeen 7 = .ok (.iload_n 1, 1) := by decide +kernel
theorem dX10_isSeen_8 : decode cX10_isSeen 8 = .ok (.imul, 1) := by decide +kernel
theorem dX10_isSeen_9 : decode cX10_isSeen 9 = .ok (.iload_n 2, 1) := by decide +kernel
theorem dX10_isSeen_10 : decode cX10_isSeen 10 = .ok (.iadd, 1) := by decide +kernel
theorem dX10_isSeen_11 : decode cX10_isSeen 11 = .ok (.iaload, 1) := by decide +kernel
theorem dX10_isSeen_12 : decode cX10_isSeen 12 = .ok (.istore_n 3, 1) := by decide +kernel
theorem dX10_isSeen_13 : decode cX10_isSeen 13 = .ok (.iload_n 3, 1) := by decide +kernel
theorem dX10_isSeen_14 : decode cX10_isSeen 14 = .ok (.ifCond .lt 23, 3) := by decide +kernel
theorem dX10_isSeen_17 : decode cX10_isSeen 17 = .ok (.iload_n 2, 1) := by decide +kernel
theorem dX10_isSeen_18 : decode cX10_isSeen 18 = .ok (.iload_n 3, 1) := by decide +kernel
theorem dX10_isSeen_19 : decode cX10_isSeen 19 = .ok (.isub, 1) := by decide +kernel
theorem dX10_isSeen_20 : decode cX10_isSeen 20 = .ok (.iconst 1, 1) := by decide +kernel
theorem dX10_isSeen_21 : decode cX10_isSeen 21 = .ok (.aload_n 0, 1) := by decide +kernel
theorem dX10_isSeen_22 : decode cX10_isSeen 22 = .ok (.getfield 24, 3) := by decide +kernel
theorem dX10_isSeen_25 : decode cX10_isSeen 25 = .ok (.iconst 3, 1) := by decide +kernel
theorem dX10_isSeen_26 : decode cX10_isSeen 26 = .ok (.iaload, 1) := by decide +kernel
theorem dX10_isSeen_27 : decode cX10_isSeen 27 = .ok (.invokestatic 237, 3) := by decide +kernel
theorem dX10_isSeen_30 : decode cX10_isSeen 30 = .ok (.if_icmp .ge 7, 3) := by decide +kernel
theorem dX10_isSeen_33 : decode cX10_isSeen 33 = .ok (.iconst 1, 1) := by decide +kernel
theorem dX10_isSeen_34 : decode cX10_isSeen 34 = .ok (.goto 4, 3) := by decide +kernel
theorem dX10_isSeen_37 : decode cX10_isSeen 37 = .ok (.iconst 0, 1) := by decide +kernel
theorem dX10_isSeen_38 : decode cX10_isSeen 38 = .ok (.ireturn, 1) := by decide +kernel
theorem dX10_unseenFor_0 : decode cX10_unseenFor 0 = .ok (.aload_n 0, 1) := by decide +kernel
theorem dX10_unseenFor_1 : decode cX10_unseenFor 1 = .ok (.getfield 100, 3) := by decide +kernel
theorem dX10_unseenFor_4 : decode cX10_unseenFor 4 = .ok (.sipush 2000, 3) := by decide +kernel
theorem dX10_unseenFor_7 : decode cX10_unseenFor 7 = .ok (.iload_n 1, 1) := by decide +kernel
theorem dX10_unseenFor_8 : decode cX10_unseenFor 8 = .ok (.imul, 1) := by decide +kernel
theorem dX10_unseenFor_9 : decode cX10_unseenFor 9 = .ok (.iload_n 2, 1) := by decide +kernel
theorem dX10_unseenFor_10 : decode cX10_unseenFor 10 = .ok (.iadd, 1) := by decide +kernel
theorem dX10_unseenFor_11 : decode cX10_unseenFor 11 = .ok (.iaload, 1) := by decide +kernel
theorem dX10_unseenFor_12 : decode cX10_unseenFor 12 = .ok (.istore_n 3, 1) := by decide +kernel
theorem dX10_unseenFor_13 : decode cX10_unseenFor 13 = .ok (.iload_n 3, 1) := by decide +kernel
theorem dX10_unseenFor_14 : decode cX10_unseenFor 14 = .ok (.ifCond .ge 9, 3) := by decide +kernel
theorem dX10_unseenFor_17 : decode cX10_unseenFor 17 = .ok (.iload_n 2, 1) := by decide +kernel
theorem dX10_unseenFor_18 : decode cX10_unseenFor 18 = .ok (.iconst 1, 1) := by decide +kernel
theorem dX10_unseenFor_19 : decode cX10_unseenFor 19 = .ok (.iadd, 1) := by decide +kernel
theorem dX10_unseenFor_20 : decode cX10_unseenFor 20 = .ok (.goto 6, 3) := by decide +kernel
theorem dX10_unseenFor_23 : decode cX10_unseenFor 23 = .ok (.iload_n 2, 1) := by decide +kernel
theorem dX10_unseenFor_24 : decode cX10_unseenFor 24 = .ok (.iload_n 3, 1) := by decide +kernel
theorem dX10_unseenFor_25 : decode cX10_unseenFor 25 = .ok (.isub, 1) := by decide +kernel
theorem dX10_unseenFor_26 : decode cX10_unseenFor 26 = .ok (.ireturn, 1) := by decide +kernel
set_option maxRecDepth 20000 in
theorem dX10_oneRound_0 : decode cX10_oneRound 0 = .ok (.iconst 0, 1) := by decide +kernel
theorem dX10_oneRound_1 : decode cX10_oneRound 1 = .ok (.istore_n 1, 1) := by decide +kernel
theorem dX10_oneRound_2 : decode cX10_oneRound 2 = .ok (.iconst 0, 1) := by decide +kernel
theorem dX10_oneRound_3 : decode cX10_oneRound 3 = .ok (.istore_n 2, 1) := by decide +kernel
theorem dX10_oneRound_4 : decode cX10_oneRound 4 = .ok (.iload_n 2, 1) := by decide +kernel
theorem dX10_oneRound_5 : decode cX10_oneRound 5 = .ok (.aload_n 0, 1) := by decide +kernel
theorem dX10_oneRound_6 : decode cX10_oneRound 6 = .ok (.getfield 231, 3) := by decide +kernel
theorem dX10_oneRound_9 : decode cX10_oneRound 9 = .ok (.if_icmp .ge 42, 3) := by decide +kernel
theorem dX10_oneRound_12 : decode cX10_oneRound 12 = .ok (.iload_n 1, 1) := by decide +kernel
theorem dX10_oneRound_13 : decode cX10_oneRound 13 = .ok (.aload_n 0, 1) := by decide +kernel
theorem dX10_oneRound_14 : decode cX10_oneRound 14 = .ok (.getfield 24, 3) := by decide +kernel
theorem dX10_oneRound_17 : decode cX10_oneRound 17 = .ok (.iconst 3, 1) := by decide +kernel
theorem dX10_oneRound_18 : decode cX10_oneRound 18 = .ok (.iaload, 1) := by decide +kernel
theorem dX10_oneRound_19 : decode cX10_oneRound 19 = .ok (.aload_n 0, 1) := by decide +kernel
theorem dX10_oneRound_20 : decode cX10_oneRound 20 = .ok (.aload_n 0, 1) := by decide +kernel
theorem dX10_oneRound_21 : decode cX10_oneRound 21 = .ok (.getfield 91, 3) := by decide +kernel
theorem dX10_oneRound_24 : decode cX10_oneRound 24 = .ok (.iload_n 2, 1) := by decide +kernel
theorem dX10_oneRound_25 : decode cX10_oneRound 25 = .ok (.iaload, 1) := by decide +kernel
theorem dX10_oneRound_26 : decode cX10_oneRound 26 = .ok (.aload_n 0, 1) := by decide +kernel
theorem dX10_oneRound_27 : decode cX10_oneRound 27 = .ok (.getfield 91, 3) := by decide +kernel
theorem dX10_oneRound_30 : decode cX10_oneRound 30 = .ok (.iload_n 2, 1) := by decide +kernel
theorem dX10_oneRound_31 : decode cX10_oneRound 31 = .ok (.iconst 1, 1) := by decide +kernel
theorem dX10_oneRound_32 : decode cX10_oneRound 32 = .ok (.iadd, 1) := by decide +kernel
theorem dX10_oneRound_33 : decode cX10_oneRound 33 = .ok (.aload_n 0, 1) := by decide +kernel
theorem dX10_oneRound_34 : decode cX10_oneRound 34 = .ok (.getfield 231, 3) := by decide +kernel
theorem dX10_oneRound_37 : decode cX10_oneRound 37 = .ok (.irem, 1) := by decide +kernel
theorem dX10_oneRound_38 : decode cX10_oneRound 38 = .ok (.iaload, 1) := by decide +kernel
theorem dX10_oneRound_39 : decode cX10_oneRound 39 = .ok (.invokevirtual 258, 3) := by decide +kernel
theorem dX10_oneRound_42 : decode cX10_oneRound 42 = .ok (.iadd, 1) := by decide +kernel
theorem dX10_oneRound_43 : decode cX10_oneRound 43 = .ok (.iadd, 1) := by decide +kernel
theorem dX10_oneRound_44 : decode cX10_oneRound 44 = .ok (.istore_n 1, 1) := by decide +kernel
theorem dX10_oneRound_45 : decode cX10_oneRound 45 = .ok (.iinc 2 1, 3) := by decide +kernel
theorem dX10_oneRound_48 : decode cX10_oneRound 48 = .ok (.goto (-44), 3) := by decide +kernel
theorem dX10_oneRound_51 : decode cX10_oneRound 51 = .ok (.iload_n 1, 1) := by decide +kernel
theorem dX10_oneRound_52 : decode cX10_oneRound 52 = .ok (.ireturn, 1) := by decide +kernel
set_option maxRecDepth 20000 in
theorem dX10_round_0 : decode cX10_round 0 = .ok (.iload_n 1, 1) := by decide +kernel
theorem dX10_round_1 : decode cX10_round 1 = .ok (.invokestatic 131, 3) := by decide +kernel
theorem dX10_round_4 : decode cX10_round 4 = .ok (.ifCond .eq 12, 3) := by decide +kernel
theorem dX10_round_7 : decode cX10_round 7 = .ok (.iload_n 2, 1) := by decide +kernel
theorem dX10_round_8 : decode cX10_round 8 = .ok (.iconst 0, 1) := by decide +kernel
theorem dX10_round_9 : decode cX10_round 9 = .ok (.iconst 1, 1) := by decide +kernel
theorem dX10_round_10 : decode cX10_round 10 = .ok (.invokestatic 123, 3) := by decide +kernel
theorem dX10_round_13 : decode cX10_round 13 = .ok (.ifCond .ne 5, 3) := by decide +kernel
theorem dX10_round_16 : decode cX10_round 16 = .ok (.iconst (-1), 1) := by decide +kernel
theorem dX10_round_17 : decode cX10_round 17 = .ok (.ireturn, 1) := by decide +kernel
theorem dX10_round_18 : decode cX10_round 18 = .ok (.aload_n 0, 1) := by decide +kernel
theorem dX10_round_19 : decode cX10_round 19 = .ok (.iload_n 1, 1) := by decide +kernel
theorem dX10_round_20 : decode cX10_round 20 = .ok (.iconst 0, 1) := by decide +kernel
theorem dX10_round_21 : decode cX10_round 21 = .ok (.invokevirtual 265, 3) := by decide +kernel
theorem dX10_round_24 : decode cX10_round 24 = .ok (.istore_n 3, 1) := by decide +kernel
theorem dX10_round_25 : decode cX10_round 25 = .ok (.iload_n 3, 1) := by decide +kernel
theorem dX10_round_26 : decode cX10_round 26 = .ok (.ifCond .ge 5, 3) := by decide +kernel
theorem dX10_round_29 : decode cX10_round 29 = .ok (.iload_n 3, 1) := by decide +kernel
theorem dX10_round_30 : decode cX10_round 30 = .ok (.ireturn, 1) := by decide +kernel
theorem dX10_round_31 : decode cX10_round 31 = .ok (.aload_n 0, 1) := by decide +kernel
theorem dX10_round_32 : decode cX10_round 32 = .ok (.iload_n 1, 1) := by decide +kernel
theorem dX10_round_33 : decode cX10_round 33 = .ok (.invokevirtual 268, 3) := by decide +kernel
theorem dX10_round_36 : decode cX10_round 36 = .ok (.iload_n 2, 1) := by decide +kernel
theorem dX10_round_37 : decode cX10_round 37 = .ok (.ifCond .ne 10, 3) := by decide +kernel
theorem dX10_round_40 : decode cX10_round 40 = .ok (.aload_n 0, 1) := by decide +kernel
theorem dX10_round_41 : decode cX10_round 41 = .ok (.getfield 231, 3) := by decide +kernel
theorem dX10_round_44 : decode cX10_round 44 = .ok (.goto 7, 3) := by decide +kernel
theorem dX10_round_47 : decode cX10_round 47 = .ok (.aload_n 0, 1) := by decide +kernel
theorem dX10_round_48 : decode cX10_round 48 = .ok (.invokevirtual 271, 3) := by decide +kernel
theorem dX10_round_51 : decode cX10_round 51 = .ok (.ireturn, 1) := by decide +kernel
set_option maxRecDepth 20000 in
theorem dX10_first_0 : decode cX10_first 0 = .ok (.iload_n 1, 1) := by decide +kernel
theorem dX10_first_1 : decode cX10_first 1 = .ok (.invokestatic 131, 3) := by decide +kernel
theorem dX10_first_4 : decode cX10_first 4 = .ok (.ifCond .eq 12, 3) := by decide +kernel
theorem dX10_first_7 : decode cX10_first 7 = .ok (.aload_n 0, 1) := by decide +kernel
theorem dX10_first_8 : decode cX10_first 8 = .ok (.iload_n 2, 1) := by decide +kernel
theorem dX10_first_9 : decode cX10_first 9 = .ok (.i2l, 1) := by decide +kernel
theorem dX10_first_10 : decode cX10_first 10 = .ok (.invokevirtual 137, 3) := by decide +kernel
theorem dX10_first_13 : decode cX10_first 13 = .ok (.ifCond .ne 5, 3) := by decide +kernel
theorem dX10_first_16 : decode cX10_first 16 = .ok (.iconst (-1), 1) := by decide +kernel
theorem dX10_first_17 : decode cX10_first 17 = .ok (.ireturn, 1) := by decide +kernel
theorem dX10_first_18 : decode cX10_first 18 = .ok (.aload_n 0, 1) := by decide +kernel
theorem dX10_first_19 : decode cX10_first 19 = .ok (.iload_n 1, 1) := by decide +kernel
theorem dX10_first_20 : decode cX10_first 20 = .ok (.iconst 0, 1) := by decide +kernel
theorem dX10_first_21 : decode cX10_first 21 = .ok (.invokevirtual 265, 3) := by decide +kernel
theorem dX10_first_24 : decode cX10_first 24 = .ok (.istore_n 3, 1) := by decide +kernel
theorem dX10_first_25 : decode cX10_first 25 = .ok (.iload_n 3, 1) := by decide +kernel
theorem dX10_first_26 : decode cX10_first 26 = .ok (.ifCond .ge 5, 3) := by decide +kernel
theorem dX10_first_29 : decode cX10_first 29 = .ok (.iload_n 3, 1) := by decide +kernel
theorem dX10_first_30 : decode cX10_first 30 = .ok (.ireturn, 1) := by decide +kernel
theorem dX10_first_31 : decode cX10_first 31 = .ok (.aload_n 0, 1) := by decide +kernel
theorem dX10_first_32 : decode cX10_first 32 = .ok (.iload_n 1, 1) := by decide +kernel
theorem dX10_first_33 : decode cX10_first 33 = .ok (.invokevirtual 268, 3) := by decide +kernel
theorem dX10_first_36 : decode cX10_first 36 = .ok (.aload_n 0, 1) := by decide +kernel
theorem dX10_first_37 : decode cX10_first 37 = .ok (.sipush 4000, 3) := by decide +kernel
theorem dX10_first_40 : decode cX10_first 40 = .ok (.invokevirtual 261, 3) := by decide +kernel
theorem dX10_first_43 : decode cX10_first 43 = .ok (.iconst 0, 1) := by decide +kernel
theorem dX10_first_44 : decode cX10_first 44 = .ok (.istore 4, 2) := by decide +kernel
theorem dX10_first_46 : decode cX10_first 46 = .ok (.iload 4, 2) := by decide +kernel
theorem dX10_first_48 : decode cX10_first 48 = .ok (.aload_n 0, 1) := by decide +kernel
theorem dX10_first_49 : decode cX10_first 49 = .ok (.getfield 255, 3) := by decide +kernel
theorem dX10_first_52 : decode cX10_first 52 = .ok (.if_icmp .ge 41, 3) := by decide +kernel
theorem dX10_first_55 : decode cX10_first 55 = .ok (.aload_n 0, 1) := by decide +kernel
theorem dX10_first_56 : decode cX10_first 56 = .ok (.getfield 97, 3) := by decide +kernel
theorem dX10_first_59 : decode cX10_first 59 = .ok (.iload 4, 2) := by decide +kernel
theorem dX10_first_61 : decode cX10_first 61 = .ok (.iaload, 1) := by decide +kernel
theorem dX10_first_62 : decode cX10_first 62 = .ok (.iload_n 2, 1) := by decide +kernel
theorem dX10_first_63 : decode cX10_first 63 = .ok (.if_icmp .ne 24, 3) := by decide +kernel
theorem dX10_first_66 : decode cX10_first 66 = .ok (.aload_n 0, 1) := by decide +kernel
theorem dX10_first_67 : decode cX10_first 67 = .ok (.getfield 94, 3) := by decide +kernel
theorem dX10_first_70 : decode cX10_first 70 = .ok (.iload 4, 2) := by decide +kernel
theorem dX10_first_72 : decode cX10_first 72 = .ok (.iaload, 1) := by decide +kernel
theorem dX10_first_73 : decode cX10_first 73 = .ok (.sipush 1000, 3) := by decide +kernel
theorem dX10_first_76 : decode cX10_first 76 = .ok (.if_icmp .ge 11, 3) := by decide +kernel
theorem dX10_first_79 : decode cX10_first 79 = .ok (.aload_n 0, 1) := by decide +kernel
theorem dX10_first_80 : decode cX10_first 80 = .ok (.getfield 94, 3) := by decide +kernel
theorem dX10_first_83 : decode cX10_first 83 = .ok (.iload 4, 2) := by decide +kernel
theorem dX10_first_85 : decode cX10_first 85 = .ok (.iaload, 1) := by decide +kernel
theorem dX10_first_86 : decode cX10_first 86 = .ok (.ireturn, 1) := by decide +kernel
theorem dX10_first_87 : decode cX10_first 87 = .ok (.iinc 4 1, 3) := by decide +kernel
theorem dX10_first_90 : decode cX10_first 90 = .ok (.goto (-44), 3) := by decide +kernel
theorem dX10_first_93 : decode cX10_first 93 = .ok (.bipush (-2), 2) := by decide +kernel
theorem dX10_first_95 : decode cX10_first 95 = .ok (.ireturn, 1) := by decide +kernel
set_option maxRecDepth 20000 in
theorem dX10_by_0 : decode cX10_by 0 = .ok (.iload_n 1, 1) := by decide +kernel
theorem dX10_by_1 : decode cX10_by 1 = .ok (.invokestatic 131, 3) := by decide +kernel
theorem dX10_by_4 : decode cX10_by 4 = .ok (.ifCond .eq 19, 3) := by decide +kernel
theorem dX10_by_7 : decode cX10_by 7 = .ok (.iload_n 2, 1) := by decide +kernel
theorem dX10_by_8 : decode cX10_by 8 = .ok (.invokestatic 274, 3) := by decide +kernel
theorem dX10_by_11 : decode cX10_by 11 = .ok (.ifCond .eq 12, 3) := by decide +kernel
theorem dX10_by_14 : decode cX10_by 14 = .ok (.iload_n 3, 1) := by decide +kernel
theorem dX10_by_15 : decode cX10_by 15 = .ok (.iconst 0, 1) := by decide +kernel
theorem dX10_by_16 : decode cX10_by 16 = .ok (.iconst 1, 1) := by decide +kernel
theorem dX10_by_17 : decode cX10_by 17 = .ok (.invokestatic 123, 3) := by decide +kernel
theorem dX10_by_20 : decode cX10_by 20 = .ok (.ifCond .ne 5, 3) := by decide +kernel
theorem dX10_by_23 : decode cX10_by 23 = .ok (.iconst (-1), 1) := by decide +kernel
theorem dX10_by_24 : decode cX10_by 24 = .ok (.ireturn, 1) := by decide +kernel
theorem dX10_by_25 : decode cX10_by 25 = .ok (.aload_n 0, 1) := by decide +kernel
theorem dX10_by_26 : decode cX10_by 26 = .ok (.iload_n 1, 1) := by decide +kernel
theorem dX10_by_27 : decode cX10_by 27 = .ok (.iconst 0, 1) := by decide +kernel
theorem dX10_by_28 : decode cX10_by 28 = .ok (.invokevirtual 265, 3) := by decide +kernel
theorem dX10_by_31 : decode cX10_by 31 = .ok (.istore 4, 2) := by decide +kernel
theorem dX10_by_33 : decode cX10_by 33 = .ok (.iload 4, 2) := by decide +kernel
theorem dX10_by_35 : decode cX10_by 35 = .ok (.ifCond .ge 6, 3) := by decide +kernel
theorem dX10_by_38 : decode cX10_by 38 = .ok (.iload 4, 2) := by decide +kernel
theorem dX10_by_40 : decode cX10_by 40 = .ok (.ireturn, 1) := by decide +kernel
theorem dX10_by_41 : decode cX10_by 41 = .ok (.aload_n 0, 1) := by decide +kernel
theorem dX10_by_42 : decode cX10_by 42 = .ok (.iload_n 1, 1) := by decide +kernel
theorem dX10_by_43 : decode cX10_by 43 = .ok (.invokevirtual 268, 3) := by decide +kernel
theorem dX10_by_46 : decode cX10_by 46 = .ok (.aload_n 0, 1) := by decide +kernel
theorem dX10_by_47 : decode cX10_by 47 = .ok (.sipush 4000, 3) := by decide +kernel
theorem dX10_by_50 : decode cX10_by 50 = .ok (.invokevirtual 261, 3) := by decide +kernel
theorem dX10_by_53 : decode cX10_by 53 = .ok (.iconst 0, 1) := by decide +kernel
theorem dX10_by_54 : decode cX10_by 54 = .ok (.istore 5, 2) := by decide +kernel
theorem dX10_by_56 : decode cX10_by 56 = .ok (.iload 5, 2) := by decide +kernel
theorem dX10_by_58 : decode cX10_by 58 = .ok (.aload_n 0, 1) := by decide +kernel
theorem dX10_by_59 : decode cX10_by 59 = .ok (.getfield 255, 3) := by decide +kernel
theorem dX10_by_62 : decode cX10_by 62 = .ok (.if_icmp .ge 20, 3) := by decide +kernel
theorem dX10_by_65 : decode cX10_by 65 = .ok (.aload_n 0, 1) := by decide +kernel
theorem dX10_by_66 : decode cX10_by 66 = .ok (.getfield 94, 3) := by decide +kernel
theorem dX10_by_69 : decode cX10_by 69 = .ok (.iload 5, 2) := by decide +kernel
theorem dX10_by_71 : decode cX10_by 71 = .ok (.iaload, 1) := by decide +kernel
theorem dX10_by_72 : decode cX10_by 72 = .ok (.iload_n 2, 1) := by decide +kernel
theorem dX10_by_73 : decode cX10_by 73 = .ok (.if_icmp .gt 9, 3) := by decide +kernel
theorem dX10_by_76 : decode cX10_by 76 = .ok (.iinc 5 1, 3) := by decide +kernel
theorem dX10_by_79 : decode cX10_by 79 = .ok (.goto (-23), 3) := by decide +kernel
theorem dX10_by_82 : decode cX10_by 82 = .ok (.iload_n 3, 1) := by decide +kernel
theorem dX10_by_83 : decode cX10_by 83 = .ok (.iconst 1, 1) := by decide +kernel
theorem dX10_by_84 : decode cX10_by 84 = .ok (.if_icmp .ne 8, 3) := by decide +kernel
theorem dX10_by_87 : decode cX10_by 87 = .ok (.iload 5, 2) := by decide +kernel
theorem dX10_by_89 : decode cX10_by 89 = .ok (.goto 22, 3) := by decide +kernel
theorem dX10_by_92 : decode cX10_by 92 = .ok (.iload 5, 2) := by decide +kernel
theorem dX10_by_94 : decode cX10_by 94 = .ok (.ifCond .ne 8, 3) := by decide +kernel
theorem dX10_by_97 : decode cX10_by 97 = .ok (.bipush (-2), 2) := by decide +kernel
theorem dX10_by_99 : decode cX10_by 99 = .ok (.goto 12, 3) := by decide +kernel
theorem dX10_by_102 : decode cX10_by 102 = .ok (.aload_n 0, 1) := by decide +kernel
theorem dX10_by_103 : decode cX10_by 103 = .ok (.getfield 97, 3) := by decide +kernel
theorem dX10_by_106 : decode cX10_by 106 = .ok (.iload 5, 2) := by decide +kernel
theorem dX10_by_108 : decode cX10_by 108 = .ok (.iconst 1, 1) := by decide +kernel
theorem dX10_by_109 : decode cX10_by 109 = .ok (.isub, 1) := by decide +kernel
theorem dX10_by_110 : decode cX10_by 110 = .ok (.iaload, 1) := by decide +kernel
theorem dX10_by_111 : decode cX10_by 111 = .ok (.ireturn, 1) := by decide +kernel
set_option maxRecDepth 20000 in
theorem dX10_unseen_0 : decode cX10_unseen 0 = .ok (.iload_n 1, 1) := by decide +kernel
theorem dX10_unseen_1 : decode cX10_unseen 1 = .ok (.invokestatic 131, 3) := by decide +kernel
theorem dX10_unseen_4 : decode cX10_unseen 4 = .ok (.ifCond .eq 29, 3) := by decide +kernel
theorem dX10_unseen_7 : decode cX10_unseen 7 = .ok (.aload_n 0, 1) := by decide +kernel
theorem dX10_unseen_8 : decode cX10_unseen 8 = .ok (.iload_n 2, 1) := by decide +kernel
theorem dX10_unseen_9 : decode cX10_unseen 9 = .ok (.i2l, 1) := by decide +kernel
theorem dX10_unseen_10 : decode cX10_unseen 10 = .ok (.invokevirtual 137, 3) := by decide +kernel
theorem dX10_unseen_13 : decode cX10_unseen 13 = .ok (.ifCond .eq 20, 3) := by decide +kernel
theorem dX10_unseen_16 : decode cX10_unseen 16 = .ok (.iload_n 3, 1) := by decide +kernel
theorem dX10_unseen_17 : decode cX10_unseen 17 = .ok (.invokestatic 274, 3) := by decide +kernel
theorem dX10_unseen_20 : decode cX10_unseen 20 = .ok (.ifCond .eq 13, 3) := by decide +kernel
theorem dX10_unseen_23 : decode cX10_unseen 23 = .ok (.iload 4, 2) := by decide +kernel
theorem dX10_unseen_25 : decode cX10_unseen 25 = .ok (.iconst 0, 1) := by decide +kernel
theorem dX10_unseen_26 : decode cX10_unseen 26 = .ok (.iconst 1, 1) := by decide +kernel
theorem dX10_unseen_27 : decode cX10_unseen 27 = .ok (.invokestatic 123, 3) := by decide +kernel
theorem dX10_unseen_30 : decode cX10_unseen 30 = .ok (.ifCond .ne 5, 3) := by decide +kernel
theorem dX10_unseen_33 : decode cX10_unseen 33 = .ok (.iconst (-1), 1) := by decide +kernel
theorem dX10_unseen_34 : decode cX10_unseen 34 = .ok (.ireturn, 1) := by decide +kernel
theorem dX10_unseen_35 : decode cX10_unseen 35 = .ok (.aload_n 0, 1) := by decide +kernel
theorem dX10_unseen_36 : decode cX10_unseen 36 = .ok (.iload_n 1, 1) := by decide +kernel
theorem dX10_unseen_37 : decode cX10_unseen 37 = .ok (.iconst 0, 1) := by decide +kernel
theorem dX10_unseen_38 : decode cX10_unseen 38 = .ok (.invokevirtual 265, 3) := by decide +kernel
theorem dX10_unseen_41 : decode cX10_unseen 41 = .ok (.istore 5, 2) := by decide +kernel
theorem dX10_unseen_43 : decode cX10_unseen 43 = .ok (.iload 5, 2) := by decide +kernel
theorem dX10_unseen_45 : decode cX10_unseen 45 = .ok (.ifCond .ge 6, 3) := by decide +kernel
theorem dX10_unseen_48 : decode cX10_unseen 48 = .ok (.iload 5, 2) := by decide +kernel
theorem dX10_unseen_50 : decode cX10_unseen 50 = .ok (.ireturn, 1) := by decide +kernel
theorem dX10_unseen_51 : decode cX10_unseen 51 = .ok (.aload_n 0, 1) := by decide +kernel
theorem dX10_unseen_52 : decode cX10_unseen 52 = .ok (.iload_n 1, 1) := by decide +kernel
theorem dX10_unseen_53 : decode cX10_unseen 53 = .ok (.invokevirtual 268, 3) := by decide +kernel
theorem dX10_unseen_56 : decode cX10_unseen 56 = .ok (.aload_n 0, 1) := by decide +kernel
theorem dX10_unseen_57 : decode cX10_unseen 57 = .ok (.invokevirtual 277, 3) := by decide +kernel
theorem dX10_unseen_60 : decode cX10_unseen 60 = .ok (.iload 4, 2) := by decide +kernel
theorem dX10_unseen_62 : decode cX10_unseen 62 = .ok (.ifCond .ne 12, 3) := by decide +kernel
theorem dX10_unseen_65 : decode cX10_unseen 65 = .ok (.aload_n 0, 1) := by decide +kernel
theorem dX10_unseen_66 : decode cX10_unseen 66 = .ok (.iload_n 2, 1) := by decide +kernel
theorem dX10_unseen_67 : decode cX10_unseen 67 = .ok (.iload_n 3, 1) := by decide +kernel
theorem dX10_unseen_68 : decode cX10_unseen 68 = .ok (.invokevirtual 280, 3) := by decide +kernel
theorem dX10_unseen_71 : decode cX10_unseen 71 = .ok (.goto 17, 3) := by decide +kernel
theorem dX10_unseen_74 : decode cX10_unseen 74 = .ok (.aload_n 0, 1) := by decide +kernel
theorem dX10_unseen_75 : decode cX10_unseen 75 = .ok (.iload_n 2, 1) := by decide +kernel
theorem dX10_unseen_76 : decode cX10_unseen 76 = .ok (.iload_n 3, 1) := by decide +kernel
theorem dX10_unseen_77 : decode cX10_unseen 77 = .ok (.invokevirtual 283, 3) := by decide +kernel
theorem dX10_unseen_80 : decode cX10_unseen 80 = .ok (.ifCond .eq 7, 3) := by decide +kernel
theorem dX10_unseen_83 : decode cX10_unseen 83 = .ok (.iconst 1, 1) := by decide +kernel
theorem dX10_unseen_84 : decode cX10_unseen 84 = .ok (.goto 4, 3) := by decide +kernel
theorem dX10_unseen_87 : decode cX10_unseen 87 = .ok (.iconst 0, 1) := by decide +kernel
theorem dX10_unseen_88 : decode cX10_unseen 88 = .ok (.ireturn, 1) := by decide +kernel
set_option maxRecDepth 20000 in
theorem dX10_lost_0 : decode cX10_lost 0 = .ok (.iload_n 1, 1) := by decide +kernel
theorem dX10_lost_1 : decode cX10_lost 1 = .ok (.invokestatic 131, 3) := by decide +kernel
theorem dX10_lost_4 : decode cX10_lost 4 = .ok (.ifCond .eq 38, 3) := by decide +kernel
theorem dX10_lost_7 : decode cX10_lost 7 = .ok (.iload_n 2, 1) := by decide +kernel
theorem dX10_lost_8 : decode cX10_lost 8 = .ok (.iconst (-1), 1) := by decide +kernel
theorem dX10_lost_9 : decode cX10_lost 9 = .ok (.if_icmp .eq 12, 3) := by decide +kernel
theorem dX10_lost_12 : decode cX10_lost 12 = .ok (.aload_n 0, 1) := by decide +kernel
theorem dX10_lost_13 : decode cX10_lost 13 = .ok (.iload_n 2, 1) := by decide +kernel
theorem dX10_lost_14 : decode cX10_lost 14 = .ok (.i2l, 1) := by decide +kernel
theorem dX10_lost_15 : decode cX10_lost 15 = .ok (.invokevirtual 137, 3) := by decide +kernel
theorem dX10_lost_18 : decode cX10_lost 18 = .ok (.ifCond .eq 24, 3) := by decide +kernel
theorem dX10_lost_21 : decode cX10_lost 21 = .ok (.iload_n 3, 1) := by decide +kernel
theorem dX10_lost_22 : decode cX10_lost 22 = .ok (.invokestatic 274, 3) := by decide +kernel
theorem dX10_lost_25 : decode cX10_lost 25 = .ok (.ifCond .eq 17, 3) := by decide +kernel
theorem dX10_lost_28 : decode cX10_lost 28 = .ok (.iload 4, 2) := by decide +kernel
theorem dX10_lost_30 : decode cX10_lost 30 = .ok (.invokestatic 274, 3) := by decide +kernel
theorem dX10_lost_33 : decode cX10_lost 33 = .ok (.ifCond .eq 9, 3) := by decide +kernel
theorem dX10_lost_36 : decode cX10_lost 36 = .ok (.iload_n 3, 1) := by decide +kernel
theorem dX10_lost_37 : decode cX10_lost 37 = .ok (.iload 4, 2) := by decide +kernel
theorem dX10_lost_39 : decode cX10_lost 39 = .ok (.if_icmp .le 5, 3) := by decide +kernel
theorem dX10_lost_42 : decode cX10_lost 42 = .ok (.iconst (-1), 1) := by decide +kernel
theorem dX10_lost_43 : decode cX10_lost 43 = .ok (.ireturn, 1) := by decide +kernel
theorem dX10_lost_44 : decode cX10_lost 44 = .ok (.aload_n 0, 1) := by decide +kernel
theorem dX10_lost_45 : decode cX10_lost 45 = .ok (.iload_n 1, 1) := by decide +kernel
theorem dX10_lost_46 : decode cX10_lost 46 = .ok (.iconst 0, 1) := by decide +kernel
theorem dX10_lost_47 : decode cX10_lost 47 = .ok (.invokevirtual 265, 3) := by decide +kernel
theorem dX10_lost_50 : decode cX10_lost 50 = .ok (.istore 5, 2) := by decide +kernel
theorem dX10_lost_52 : decode cX10_lost 52 = .ok (.iload 5, 2) := by decide +kernel
theorem dX10_lost_54 : decode cX10_lost 54 = .ok (.ifCond .ge 6, 3) := by decide +kernel
theorem dX10_lost_57 : decode cX10_lost 57 = .ok (.iload 5, 2) := by decide +kernel
theorem dX10_lost_59 : decode cX10_lost 59 = .ok (.ireturn, 1) := by decide +kernel
theorem dX10_lost_60 : decode cX10_lost 60 = .ok (.aload_n 0, 1) := by decide +kernel
theorem dX10_lost_61 : decode cX10_lost 61 = .ok (.iload_n 1, 1) := by decide +kernel
theorem dX10_lost_62 : decode cX10_lost 62 = .ok (.invokevirtual 268, 3) := by decide +kernel
theorem dX10_lost_65 : decode cX10_lost 65 = .ok (.aload_n 0, 1) := by decide +kernel
theorem dX10_lost_66 : decode cX10_lost 66 = .ok (.invokevirtual 277, 3) := by decide +kernel
