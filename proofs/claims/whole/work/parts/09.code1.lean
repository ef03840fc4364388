/-! the instructions -/
theorem ad_Best_fill_0 : decode prog_2_method_2_code 0 = .ok (.aload_n 0, 1) := by decide +kernel
theorem ad_Best_fill_1 : decode prog_2_method_2_code 1 = .ok (.getfield 11, 3) := by decide +kernel
theorem ad_Best_fill_4 : decode prog_2_method_2_code 4 = .ok (.lconst 0, 1) := by decide +kernel
theorem ad_Best_fill_5 : decode prog_2_method_2_code 5 = .ok (.invokestatic 29, 3) := by decide +kernel
theorem ad_Best_fill_8 : decode prog_2_method_2_code 8 = .ok (.aload_n 0, 1) := by decide +kernel
theorem ad_Best_fill_9 : decode prog_2_method_2_code 9 = .ok (.getfield 15, 3) := by decide +kernel
theorem ad_Best_fill_12 : decode prog_2_method_2_code 12 = .ok (.iconst 0, 1) := by decide +kernel
theorem ad_Best_fill_13 : decode prog_2_method_2_code 13 = .ok (.invokestatic 35, 3) := by decide +kernel
theorem ad_Best_fill_16 : decode prog_2_method_2_code 16 = .ok (.aload_n 1, 1) := by decide +kernel
theorem ad_Best_fill_17 : decode prog_2_method_2_code 17 = .ok (.iload_n 2, 1) := by decide +kernel
theorem ad_Best_fill_18 : decode prog_2_method_2_code 18 = .ok (.iload_n 3, 1) := by decide +kernel
theorem ad_Best_fill_19 : decode prog_2_method_2_code 19 = .ok (.invokevirtual 38, 3) := by decide +kernel
theorem ad_Best_fill_22 : decode prog_2_method_2_code 22 = .ok (.ifCond .ne 4, 3) := by decide +kernel
theorem ad_Best_fill_25 : decode prog_2_method_2_code 25 = .ok (.return_, 1) := by decide +kernel
theorem ad_Best_fill_26 : decode prog_2_method_2_code 26 = .ok (.aload_n 1, 1) := by decide +kernel
theorem ad_Best_fill_27 : decode prog_2_method_2_code 27 = .ok (.getfield 44, 3) := by decide +kernel
theorem ad_Best_fill_30 : decode prog_2_method_2_code 30 = .ok (.iload_n 3, 1) := by decide +kernel
theorem ad_Best_fill_31 : decode prog_2_method_2_code 31 = .ok (.iaload, 1) := by decide +kernel
theorem ad_Best_fill_32 : decode prog_2_method_2_code 32 = .ok (.istore 6, 2) := by decide +kernel
theorem ad_Best_fill_34 : decode prog_2_method_2_code 34 = .ok (.ldc2_w 47, 3) := by decide +kernel
theorem ad_Best_fill_37 : decode prog_2_method_2_code 37 = .ok (.aload_n 1, 1) := by decide +kernel
theorem ad_Best_fill_38 : decode prog_2_method_2_code 38 = .ok (.iload_n 2, 1) := by decide +kernel
theorem ad_Best_fill_39 : decode prog_2_method_2_code 39 = .ok (.aload_n 1, 1) := by decide +kernel
theorem ad_Best_fill_40 : decode prog_2_method_2_code 40 = .ok (.getfield 49, 3) := by decide +kernel
theorem ad_Best_fill_43 : decode prog_2_method_2_code 43 = .ok (.iload_n 3, 1) := by decide +kernel
theorem ad_Best_fill_44 : decode prog_2_method_2_code 44 = .ok (.iaload, 1) := by decide +kernel
theorem ad_Best_fill_45 : decode prog_2_method_2_code 45 = .ok (.invokevirtual 52, 3) := by decide +kernel
theorem ad_Best_fill_48 : decode prog_2_method_2_code 48 = .ok (.i2l, 1) := by decide +kernel
theorem ad_Best_fill_49 : decode prog_2_method_2_code 49 = .ok (.lmul, 1) := by decide +kernel
theorem ad_Best_fill_50 : decode prog_2_method_2_code 50 = .ok (.aload_n 1, 1) := by decide +kernel
theorem ad_Best_fill_51 : decode prog_2_method_2_code 51 = .ok (.getfield 56, 3) := by decide +kernel
theorem ad_Best_fill_54 : decode prog_2_method_2_code 54 = .ok (.iload 6, 2) := by decide +kernel
theorem ad_Best_fill_56 : decode prog_2_method_2_code 56 = .ok (.iaload, 1) := by decide +kernel
theorem ad_Best_fill_57 : decode prog_2_method_2_code 57 = .ok (.i2l, 1) := by decide +kernel
theorem ad_Best_fill_58 : decode prog_2_method_2_code 58 = .ok (.lmul, 1) := by decide +kernel
theorem ad_Best_fill_59 : decode prog_2_method_2_code 59 = .ok (.lstore 7, 2) := by decide +kernel
theorem ad_Best_fill_61 : decode prog_2_method_2_code 61 = .ok (.aload_n 0, 1) := by decide +kernel
theorem ad_Best_fill_62 : decode prog_2_method_2_code 62 = .ok (.lload 7, 2) := by decide +kernel
theorem ad_Best_fill_64 : decode prog_2_method_2_code 64 = .ok (.ldc2_w 59, 3) := by decide +kernel
theorem ad_Best_fill_67 : decode prog_2_method_2_code 67 = .ok (.aload_n 1, 1) := by decide +kernel
theorem ad_Best_fill_68 : decode prog_2_method_2_code 68 = .ok (.iload_n 2, 1) := by decide +kernel
theorem ad_Best_fill_69 : decode prog_2_method_2_code 69 = .ok (.iload 6, 2) := by decide +kernel
theorem ad_Best_fill_71 : decode prog_2_method_2_code 71 = .ok (.invokevirtual 61, 3) := by decide +kernel
theorem ad_Best_fill_74 : decode prog_2_method_2_code 74 = .ok (.i2l, 1) := by decide +kernel
theorem ad_Best_fill_75 : decode prog_2_method_2_code 75 = .ok (.lmul, 1) := by decide +kernel
theorem ad_Best_fill_76 : decode prog_2_method_2_code 76 = .ok (.lsub, 1) := by decide +kernel
theorem ad_Best_fill_77 : decode prog_2_method_2_code 77 = .ok (.putfield 19, 3) := by decide +kernel
theorem ad_Best_fill_80 : decode prog_2_method_2_code 80 = .ok (.aload_n 0, 1) := by decide +kernel
theorem ad_Best_fill_81 : decode prog_2_method_2_code 81 = .ok (.aload_n 0, 1) := by decide +kernel
theorem ad_Best_fill_82 : decode prog_2_method_2_code 82 = .ok (.getfield 19, 3) := by decide +kernel
theorem ad_Best_fill_85 : decode prog_2_method_2_code 85 = .ok (.ldc2_w 59, 3) := by decide +kernel
theorem ad_Best_fill_88 : decode prog_2_method_2_code 88 = .ok (.aload_n 1, 1) := by decide +kernel
theorem ad_Best_fill_89 : decode prog_2_method_2_code 89 = .ok (.getfield 64, 3) := by decide +kernel
theorem ad_Best_fill_92 : decode prog_2_method_2_code 92 = .ok (.iload 6, 2) := by decide +kernel
theorem ad_Best_fill_94 : decode prog_2_method_2_code 94 = .ok (.iaload, 1) := by decide +kernel
theorem ad_Best_fill_95 : decode prog_2_method_2_code 95 = .ok (.i2l, 1) := by decide +kernel
theorem ad_Best_fill_96 : decode prog_2_method_2_code 96 = .ok (.lmul, 1) := by decide +kernel
theorem ad_Best_fill_97 : decode prog_2_method_2_code 97 = .ok (.lsub, 1) := by decide +kernel
theorem ad_Best_fill_98 : decode prog_2_method_2_code 98 = .ok (.putfield 23, 3) := by decide +kernel
theorem ad_Best_fill_101 : decode prog_2_method_2_code 101 = .ok (.aload_n 0, 1) := by decide +kernel
theorem ad_Best_fill_102 : decode prog_2_method_2_code 102 = .ok (.aload_n 1, 1) := by decide +kernel
theorem ad_Best_fill_103 : decode prog_2_method_2_code 103 = .ok (.iload_n 2, 1) := by decide +kernel
theorem ad_Best_fill_104 : decode prog_2_method_2_code 104 = .ok (.invokevirtual 67, 3) := by decide +kernel
theorem ad_Best_fill_107 : decode prog_2_method_2_code 107 = .ok (.i2l, 1) := by decide +kernel
theorem ad_Best_fill_108 : decode prog_2_method_2_code 108 = .ok (.putfield 26, 3) := by decide +kernel
theorem ad_Best_fill_111 : decode prog_2_method_2_code 111 = .ok (.iconst 1, 1) := by decide +kernel
theorem ad_Best_fill_112 : decode prog_2_method_2_code 112 = .ok (.istore 9, 2) := by decide +kernel
theorem ad_Best_fill_114 : decode prog_2_method_2_code 114 = .ok (.iload 9, 2) := by decide +kernel
theorem ad_Best_fill_116 : decode prog_2_method_2_code 116 = .ok (.iload 4, 2) := by decide +kernel
theorem ad_Best_fill_118 : decode prog_2_method_2_code 118 = .ok (.if_icmp .gt 59, 3) := by decide +kernel
theorem ad_Best_fill_121 : decode prog_2_method_2_code 121 = .ok (.iload 9, 2) := by decide +kernel
theorem ad_Best_fill_123 : decode prog_2_method_2_code 123 = .ok (.bipush 20, 2) := by decide +kernel
theorem ad_Best_fill_125 : decode prog_2_method_2_code 125 = .ok (.if_icmp .gt 52, 3) := by decide +kernel
theorem ad_Best_fill_128 : decode prog_2_method_2_code 128 = .ok (.aload_n 0, 1) := by decide +kernel
theorem ad_Best_fill_129 : decode prog_2_method_2_code 129 = .ok (.aload_n 1, 1) := by decide +kernel
theorem ad_Best_fill_130 : decode prog_2_method_2_code 130 = .ok (.iload 9, 2) := by decide +kernel
theorem ad_Best_fill_132 : decode prog_2_method_2_code 132 = .ok (.iload 5, 2) := by decide +kernel
theorem ad_Best_fill_134 : decode prog_2_method_2_code 134 = .ok (.invokevirtual 71, 3) := by decide +kernel
theorem ad_Best_fill_137 : decode prog_2_method_2_code 137 = .ok (.iconst 1, 1) := by decide +kernel
theorem ad_Best_fill_138 : decode prog_2_method_2_code 138 = .ok (.istore 10, 2) := by decide +kernel
theorem ad_Best_fill_140 : decode prog_2_method_2_code 140 = .ok (.iload 10, 2) := by decide +kernel
theorem ad_Best_fill_142 : decode prog_2_method_2_code 142 = .ok (.aload_n 1, 1) := by decide +kernel
theorem ad_Best_fill_143 : decode prog_2_method_2_code 143 = .ok (.getfield 75, 3) := by decide +kernel
theorem ad_Best_fill_146 : decode prog_2_method_2_code 146 = .ok (.if_icmp .gt 25, 3) := by decide +kernel
theorem ad_Best_fill_149 : decode prog_2_method_2_code 149 = .ok (.iload 10, 2) := by decide +kernel
theorem ad_Best_fill_151 : decode prog_2_method_2_code 151 = .ok (.bipush 10, 2) := by decide +kernel
theorem ad_Best_fill_153 : decode prog_2_method_2_code 153 = .ok (.if_icmp .ge 18, 3) := by decide +kernel
theorem ad_Best_fill_156 : decode prog_2_method_2_code 156 = .ok (.aload_n 0, 1) := by decide +kernel
theorem ad_Best_fill_157 : decode prog_2_method_2_code 157 = .ok (.aload_n 1, 1) := by decide +kernel
theorem ad_Best_fill_158 : decode prog_2_method_2_code 158 = .ok (.iload 9, 2) := by decide +kernel
theorem ad_Best_fill_160 : decode prog_2_method_2_code 160 = .ok (.iload 10, 2) := by decide +kernel
theorem ad_Best_fill_162 : decode prog_2_method_2_code 162 = .ok (.invokevirtual 79, 3) := by decide +kernel
theorem ad_Best_fill_165 : decode prog_2_method_2_code 165 = .ok (.iinc 10 1, 3) := by decide +kernel
theorem ad_Best_fill_168 : decode prog_2_method_2_code 168 = .ok (.goto (-28), 3) := by decide +kernel
theorem ad_Best_fill_171 : decode prog_2_method_2_code 171 = .ok (.iinc 9 1, 3) := by decide +kernel
theorem ad_Best_fill_174 : decode prog_2_method_2_code 174 = .ok (.goto (-60), 3) := by decide +kernel
theorem ad_Best_fill_177 : decode prog_2_method_2_code 177 = .ok (.return_, 1) := by decide +kernel
theorem ad_Best_fillFree_0 : decode prog_2_method_3_code 0 = .ok (.aload_n 0, 1) := by decide +kernel
theorem ad_Best_fillFree_1 : decode prog_2_method_3_code 1 = .ok (.iload_n 2, 1) := by decide +kernel
theorem ad_Best_fillFree_2 : decode prog_2_method_3_code 2 = .ok (.iconst 1, 1) := by decide +kernel
theorem ad_Best_fillFree_3 : decode prog_2_method_3_code 3 = .ok (.isub, 1) := by decide +kernel
theorem ad_Best_fillFree_4 : decode prog_2_method_3_code 4 = .ok (.iconst 0, 1) := by decide +kernel
theorem ad_Best_fillFree_5 : decode prog_2_method_3_code 5 = .ok (.invokevirtual 82, 3) := by decide +kernel
theorem ad_Best_fillFree_8 : decode prog_2_method_3_code 8 = .ok (.lstore 4, 2) := by decide +kernel
theorem ad_Best_fillFree_10 : decode prog_2_method_3_code 10 = .ok (.lload 4, 2) := by decide +kernel
theorem ad_Best_fillFree_12 : decode prog_2_method_3_code 12 = .ok (.lstore 6, 2) := by decide +kernel
theorem ad_Best_fillFree_14 : decode prog_2_method_3_code 14 = .ok (.iload_n 3, 1) := by decide +kernel
theorem ad_Best_fillFree_15 : decode prog_2_method_3_code 15 = .ok (.ifCond .ne 19, 3) := by decide +kernel
theorem ad_Best_fillFree_18 : decode prog_2_method_3_code 18 = .ok (.aload_n 0, 1) := by decide +kernel
theorem ad_Best_fillFree_19 : decode prog_2_method_3_code 19 = .ok (.iload_n 2, 1) := by decide +kernel
theorem ad_Best_fillFree_20 : decode prog_2_method_3_code 20 = .ok (.iconst 1, 1) := by decide +kernel
theorem ad_Best_fillFree_21 : decode prog_2_method_3_code 21 = .ok (.isub, 1) := by decide +kernel
theorem ad_Best_fillFree_22 : decode prog_2_method_3_code 22 = .ok (.aload_n 1, 1) := by decide +kernel
theorem ad_Best_fillFree_23 : decode prog_2_method_3_code 23 = .ok (.getfield 75, 3) := by decide +kernel
theorem ad_Best_fillFree_26 : decode prog_2_method_3_code 26 = .ok (.invokevirtual 82, 3) := by decide +kernel
theorem ad_Best_fillFree_29 : decode prog_2_method_3_code 29 = .ok (.lstore 6, 2) := by decide +kernel
theorem ad_Best_fillFree_31 : decode prog_2_method_3_code 31 = .ok (.goto 22, 3) := by decide +kernel
theorem ad_Best_fillFree_34 : decode prog_2_method_3_code 34 = .ok (.iload_n 3, 1) := by decide +kernel
theorem ad_Best_fillFree_35 : decode prog_2_method_3_code 35 = .ok (.iconst 2, 1) := by decide +kernel
theorem ad_Best_fillFree_36 : decode prog_2_method_3_code 36 = .ok (.if_icmp .ne 17, 3) := by decide +kernel
theorem ad_Best_fillFree_39 : decode prog_2_method_3_code 39 = .ok (.lload 4, 2) := by decide +kernel
theorem ad_Best_fillFree_41 : decode prog_2_method_3_code 41 = .ok (.ldc2_w 59, 3) := by decide +kernel
theorem ad_Best_fillFree_44 : decode prog_2_method_3_code 44 = .ok (.aload_n 1, 1) := by decide +kernel
theorem ad_Best_fillFree_45 : decode prog_2_method_3_code 45 = .ok (.getfield 86, 3) := by decide +kernel
theorem ad_Best_fillFree_48 : decode prog_2_method_3_code 48 = .ok (.i2l, 1) := by decide +kernel
theorem ad_Best_fillFree_49 : decode prog_2_method_3_code 49 = .ok (.lmul, 1) := by decide +kernel
theorem ad_Best_fillFree_50 : decode prog_2_method_3_code 50 = .ok (.ladd, 1) := by decide +kernel
theorem ad_Best_fillFree_51 : decode prog_2_method_3_code 51 = .ok (.lstore 6, 2) := by decide +kernel
theorem ad_Best_fillFree_53 : decode prog_2_method_3_code 53 = .ok (.aload_n 0, 1) := by decide +kernel
theorem ad_Best_fillFree_54 : decode prog_2_method_3_code 54 = .ok (.getfield 23, 3) := by decide +kernel
theorem ad_Best_fillFree_57 : decode prog_2_method_3_code 57 = .ok (.lload 6, 2) := by decide +kernel
theorem ad_Best_fillFree_59 : decode prog_2_method_3_code 59 = .ok (.aload_n 0, 1) := by decide +kernel
theorem ad_Best_fillFree_60 : decode prog_2_method_3_code 60 = .ok (.getfield 26, 3) := by decide +kernel
theorem ad_Best_fillFree_63 : decode prog_2_method_3_code 63 = .ok (.lmul, 1) := by decide +kernel
theorem ad_Best_fillFree_64 : decode prog_2_method_3_code 64 = .ok (.ldc2_w 89, 3) := by decide +kernel
theorem ad_Best_fillFree_67 : decode prog_2_method_3_code 67 = .ok (.ldiv, 1) := by decide +kernel
theorem ad_Best_fillFree_68 : decode prog_2_method_3_code 68 = .ok (.ladd, 1) := by decide +kernel
theorem ad_Best_fillFree_69 : decode prog_2_method_3_code 69 = .ok (.lload 4, 2) := by decide +kernel
theorem ad_Best_fillFree_71 : decode prog_2_method_3_code 71 = .ok (.ldc2_w 89, 3) := by decide +kernel
theorem ad_Best_fillFree_74 : decode prog_2_method_3_code 74 = .ok (.aload_n 0, 1) := by decide +kernel
theorem ad_Best_fillFree_75 : decode prog_2_method_3_code 75 = .ok (.getfield 26, 3) := by decide +kernel
theorem ad_Best_fillFree_78 : decode prog_2_method_3_code 78 = .ok (.lsub, 1) := by decide +kernel
theorem ad_Best_fillFree_79 : decode prog_2_method_3_code 79 = .ok (.lmul, 1) := by decide +kernel
theorem ad_Best_fillFree_80 : decode prog_2_method_3_code 80 = .ok (.ldc2_w 89, 3) := by decide +kernel
theorem ad_Best_fillFree_83 : decode prog_2_method_3_code 83 = .ok (.ldiv, 1) := by decide +kernel
theorem ad_Best_fillFree_84 : decode prog_2_method_3_code 84 = .ok (.ladd, 1) := by decide +kernel
theorem ad_Best_fillFree_85 : decode prog_2_method_3_code 85 = .ok (.lstore 8, 2) := by decide +kernel
theorem ad_Best_fillFree_87 : decode prog_2_method_3_code 87 = .ok (.aload_n 0, 1) := by decide +kernel
theorem ad_Best_fillFree_88 : decode prog_2_method_3_code 88 = .ok (.getfield 19, 3) := by decide +kernel
theorem ad_Best_fillFree_91 : decode prog_2_method_3_code 91 = .ok (.lload 6, 2) := by decide +kernel
theorem ad_Best_fillFree_93 : decode prog_2_method_3_code 93 = .ok (.ladd, 1) := by decide +kernel
theorem ad_Best_fillFree_94 : decode prog_2_method_3_code 94 = .ok (.lstore 10, 2) := by decide +kernel
theorem ad_Best_fillFree_96 : decode prog_2_method_3_code 96 = .ok (.aload_n 0, 1) := by decide +kernel
theorem ad_Best_fillFree_97 : decode prog_2_method_3_code 97 = .ok (.iload_n 2, 1) := by decide +kernel
theorem ad_Best_fillFree_98 : decode prog_2_method_3_code 98 = .ok (.iconst 0, 1) := by decide +kernel
theorem ad_Best_fillFree_99 : decode prog_2_method_3_code 99 = .ok (.lload 4, 2) := by decide +kernel
theorem ad_Best_fillFree_101 : decode prog_2_method_3_code 101 = .ok (.iconst 0, 1) := by decide +kernel
theorem ad_Best_fillFree_102 : decode prog_2_method_3_code 102 = .ok (.invokevirtual 91, 3) := by decide +kernel
theorem ad_Best_fillFree_105 : decode prog_2_method_3_code 105 = .ok (.lload 8, 2) := by decide +kernel
theorem ad_Best_fillFree_107 : decode prog_2_method_3_code 107 = .ok (.aload_n 0, 1) := by decide +kernel
theorem ad_Best_fillFree_108 : decode prog_2_method_3_code 108 = .ok (.iload_n 2, 1) := by decide +kernel
theorem ad_Best_fillFree_109 : decode prog_2_method_3_code 109 = .ok (.iconst 0, 1) := by decide +kernel
theorem ad_Best_fillFree_110 : decode prog_2_method_3_code 110 = .ok (.invokevirtual 82, 3) := by decide +kernel
theorem ad_Best_fillFree_113 : decode prog_2_method_3_code 113 = .ok (.lcmp, 1) := by decide +kernel
theorem ad_Best_fillFree_114 : decode prog_2_method_3_code 114 = .ok (.ifCond .le 12, 3) := by decide +kernel
theorem ad_Best_fillFree_117 : decode prog_2_method_3_code 117 = .ok (.aload_n 0, 1) := by decide +kernel
theorem ad_Best_fillFree_118 : decode prog_2_method_3_code 118 = .ok (.iload_n 2, 1) := by decide +kernel
theorem ad_Best_fillFree_119 : decode prog_2_method_3_code 119 = .ok (.iconst 0, 1) := by decide +kernel
theorem ad_Best_fillFree_120 : decode prog_2_method_3_code 120 = .ok (.lload 8, 2) := by decide +kernel
theorem ad_Best_fillFree_122 : decode prog_2_method_3_code 122 = .ok (.iconst 1, 1) := by decide +kernel
theorem ad_Best_fillFree_123 : decode prog_2_method_3_code 123 = .ok (.invokevirtual 91, 3) := by decide +kernel
theorem ad_Best_fillFree_126 : decode prog_2_method_3_code 126 = .ok (.lload 10, 2) := by decide +kernel
theorem ad_Best_fillFree_128 : decode prog_2_method_3_code 128 = .ok (.aload_n 0, 1) := by decide +kernel
theorem ad_Best_fillFree_129 : decode prog_2_method_3_code 129 = .ok (.iload_n 2, 1) := by decide +kernel
theorem ad_Best_fillFree_130 : decode prog_2_method_3_code 130 = .ok (.iconst 0, 1) := by decide +kernel
theorem ad_Best_fillFree_131 : decode prog_2_method_3_code 131 = .ok (.invokevirtual 82, 3) := by decide +kernel
theorem ad_Best_fillFree_134 : decode prog_2_method_3_code 134 = .ok (.lcmp, 1) := by decide +kernel
theorem ad_Best_fillFree_135 : decode prog_2_method_3_code 135 = .ok (.ifCond .le 12, 3) := by decide +kernel
theorem ad_Best_fillFree_138 : decode prog_2_method_3_code 138 = .ok (.aload_n 0, 1) := by decide +kernel
theorem ad_Best_fillFree_139 : decode prog_2_method_3_code 139 = .ok (.iload_n 2, 1) := by decide +kernel
theorem ad_Best_fillFree_140 : decode prog_2_method_3_code 140 = .ok (.iconst 0, 1) := by decide +kernel
theorem ad_Best_fillFree_141 : decode prog_2_method_3_code 141 = .ok (.lload 10, 2) := by decide +kernel
theorem ad_Best_fillFree_143 : decode prog_2_method_3_code 143 = .ok (.iconst 2, 1) := by decide +kernel
theorem ad_Best_fillFree_144 : decode prog_2_method_3_code 144 = .ok (.invokevirtual 91, 3) := by decide +kernel
theorem ad_Best_fillFree_147 : decode prog_2_method_3_code 147 = .ok (.return_, 1) := by decide +kernel
theorem ad_Best_fillBound_0 : decode prog_2_method_4_code 0 = .ok (.aload_n 0, 1) := by decide +kernel
theorem ad_Best_fillBound_1 : decode prog_2_method_4_code 1 = .ok (.getfield 19, 3) := by decide +kernel
theorem ad_Best_fillBound_4 : decode prog_2_method_4_code 4 = .ok (.aload_n 0, 1) := by decide +kernel
theorem ad_Best_fillBound_5 : decode prog_2_method_4_code 5 = .ok (.iload_n 2, 1) := by decide +kernel
theorem ad_Best_fillBound_6 : decode prog_2_method_4_code 6 = .ok (.iconst 1, 1) := by decide +kernel
theorem ad_Best_fillBound_7 : decode prog_2_method_4_code 7 = .ok (.isub, 1) := by decide +kernel
theorem ad_Best_fillBound_8 : decode prog_2_method_4_code 8 = .ok (.iload_n 3, 1) := by decide +kernel
theorem ad_Best_fillBound_9 : decode prog_2_method_4_code 9 = .ok (.iconst 1, 1) := by decide +kernel
theorem ad_Best_fillBound_10 : decode prog_2_method_4_code 10 = .ok (.isub, 1) := by decide +kernel
theorem ad_Best_fillBound_11 : decode prog_2_method_4_code 11 = .ok (.invokevirtual 82, 3) := by decide +kernel
theorem ad_Best_fillBound_14 : decode prog_2_method_4_code 14 = .ok (.ladd, 1) := by decide +kernel
theorem ad_Best_fillBound_15 : decode prog_2_method_4_code 15 = .ok (.lstore 4, 2) := by decide +kernel
theorem ad_Best_fillBound_17 : decode prog_2_method_4_code 17 = .ok (.aload_n 0, 1) := by decide +kernel
theorem ad_Best_fillBound_18 : decode prog_2_method_4_code 18 = .ok (.iload_n 2, 1) := by decide +kernel
theorem ad_Best_fillBound_19 : decode prog_2_method_4_code 19 = .ok (.iconst 1, 1) := by decide +kernel
theorem ad_Best_fillBound_20 : decode prog_2_method_4_code 20 = .ok (.isub, 1) := by decide +kernel
theorem ad_Best_fillBound_21 : decode prog_2_method_4_code 21 = .ok (.iconst 0, 1) := by decide +kernel
theorem ad_Best_fillBound_22 : decode prog_2_method_4_code 22 = .ok (.invokevirtual 82, 3) := by decide +kernel
theorem ad_Best_fillBound_25 : decode prog_2_method_4_code 25 = .ok (.ldc2_w 59, 3) := by decide +kernel
theorem ad_Best_fillBound_28 : decode prog_2_method_4_code 28 = .ok (.aload_n 1, 1) := by decide +kernel
theorem ad_Best_fillBound_29 : decode prog_2_method_4_code 29 = .ok (.getfield 95, 3) := by decide +kernel
theorem ad_Best_fillBound_32 : decode prog_2_method_4_code 32 = .ok (.i2l, 1) := by decide +kernel
theorem ad_Best_fillBound_33 : decode prog_2_method_4_code 33 = .ok (.lmul, 1) := by decide +kernel
theorem ad_Best_fillBound_34 : decode prog_2_method_4_code 34 = .ok (.lsub, 1) := by decide +kernel
theorem ad_Best_fillBound_35 : decode prog_2_method_4_code 35 = .ok (.lstore 6, 2) := by decide +kernel
theorem ad_Best_fillBound_37 : decode prog_2_method_4_code 37 = .ok (.aload_n 0, 1) := by decide +kernel
theorem ad_Best_fillBound_38 : decode prog_2_method_4_code 38 = .ok (.iload_n 2, 1) := by decide +kernel
theorem ad_Best_fillBound_39 : decode prog_2_method_4_code 39 = .ok (.iload_n 3, 1) := by decide +kernel
theorem ad_Best_fillBound_40 : decode prog_2_method_4_code 40 = .ok (.lload 4, 2) := by decide +kernel
theorem ad_Best_fillBound_42 : decode prog_2_method_4_code 42 = .ok (.lload 6, 2) := by decide +kernel
theorem ad_Best_fillBound_44 : decode prog_2_method_4_code 44 = .ok (.invokestatic 98, 3) := by decide +kernel
theorem ad_Best_fillBound_47 : decode prog_2_method_4_code 47 = .ok (.lload 4, 2) := by decide +kernel
theorem ad_Best_fillBound_49 : decode prog_2_method_4_code 49 = .ok (.lload 6, 2) := by decide +kernel
theorem ad_Best_fillBound_51 : decode prog_2_method_4_code 51 = .ok (.lcmp, 1) := by decide +kernel
theorem ad_Best_fillBound_52 : decode prog_2_method_4_code 52 = .ok (.ifCond .lt 7, 3) := by decide +kernel
theorem ad_Best_fillBound_55 : decode prog_2_method_4_code 55 = .ok (.iconst 2, 1) := by decide +kernel
theorem ad_Best_fillBound_56 : decode prog_2_method_4_code 56 = .ok (.goto 4, 3) := by decide +kernel
theorem ad_Best_fillBound_59 : decode prog_2_method_4_code 59 = .ok (.iconst 3, 1) := by decide +kernel
theorem ad_Best_fillBound_60 : decode prog_2_method_4_code 60 = .ok (.invokevirtual 91, 3) := by decide +kernel
theorem ad_Best_fillBound_63 : decode prog_2_method_4_code 63 = .ok (.return_, 1) := by decide +kernel
theorem ad_Best_put_0 : decode prog_2_method_5_code 0 = .ok (.iload_n 1, 1) := by decide +kernel
theorem ad_Best_put_1 : decode prog_2_method_5_code 1 = .ok (.iload_n 2, 1) := by decide +kernel
theorem ad_Best_put_2 : decode prog_2_method_5_code 2 = .ok (.invokestatic 104, 3) := by decide +kernel
theorem ad_Best_put_5 : decode prog_2_method_5_code 5 = .ok (.ifCond .eq 28, 3) := by decide +kernel
theorem ad_Best_put_8 : decode prog_2_method_5_code 8 = .ok (.aload_n 0, 1) := by decide +kernel
theorem ad_Best_put_9 : decode prog_2_method_5_code 9 = .ok (.getfield 11, 3) := by decide +kernel
theorem ad_Best_put_12 : decode prog_2_method_5_code 12 = .ok (.iload_n 1, 1) := by decide +kernel
theorem ad_Best_put_13 : decode prog_2_method_5_code 13 = .ok (.bipush 10, 2) := by decide +kernel
theorem ad_Best_put_15 : decode prog_2_method_5_code 15 = .ok (.imul, 1) := by decide +kernel
theorem ad_Best_put_16 : decode prog_2_method_5_code 16 = .ok (.iload_n 2, 1) := by decide +kernel
theorem ad_Best_put_17 : decode prog_2_method_5_code 17 = .ok (.iadd, 1) := by decide +kernel
theorem ad_Best_put_18 : decode prog_2_method_5_code 18 = .ok (.lload_n 3, 1) := by decide +kernel
theorem ad_Best_put_19 : decode prog_2_method_5_code 19 = .ok (.lastore, 1) := by decide +kernel
theorem ad_Best_put_20 : decode prog_2_method_5_code 20 = .ok (.aload_n 0, 1) := by decide +kernel
theorem ad_Best_put_21 : decode prog_2_method_5_code 21 = .ok (.getfield 15, 3) := by decide +kernel
theorem ad_Best_put_24 : decode prog_2_method_5_code 24 = .ok (.iload_n 1, 1) := by decide +kernel
theorem ad_Best_put_25 : decode prog_2_method_5_code 25 = .ok (.bipush 10, 2) := by decide +kernel
theorem ad_Best_put_27 : decode prog_2_method_5_code 27 = .ok (.imul, 1) := by decide +kernel
theorem ad_Best_put_28 : decode prog_2_method_5_code 28 = .ok (.iload_n 2, 1) := by decide +kernel
theorem ad_Best_put_29 : decode prog_2_method_5_code 29 = .ok (.iadd, 1) := by decide +kernel
theorem ad_Best_put_30 : decode prog_2_method_5_code 30 = .ok (.iload 5, 2) := by decide +kernel
theorem ad_Best_put_32 : decode prog_2_method_5_code 32 = .ok (.iastore, 1) := by decide +kernel
theorem ad_Best_put_33 : decode prog_2_method_5_code 33 = .ok (.return_, 1) := by decide +kernel
theorem ad_Best_isInside_0 : decode prog_2_method_6_code 0 = .ok (.iload_n 0, 1) := by decide +kernel
theorem ad_Best_isInside_1 : decode prog_2_method_6_code 1 = .ok (.ifCond .lt 23, 3) := by decide +kernel
theorem ad_Best_isInside_4 : decode prog_2_method_6_code 4 = .ok (.iload_n 0, 1) := by decide +kernel
theorem ad_Best_isInside_5 : decode prog_2_method_6_code 5 = .ok (.bipush 20, 2) := by decide +kernel
theorem ad_Best_isInside_7 : decode prog_2_method_6_code 7 = .ok (.if_icmp .gt 17, 3) := by decide +kernel
theorem ad_Best_isInside_10 : decode prog_2_method_6_code 10 = .ok (.iload_n 1, 1) := by decide +kernel
theorem ad_Best_isInside_11 : decode prog_2_method_6_code 11 = .ok (.ifCond .lt 13, 3) := by decide +kernel
theorem ad_Best_isInside_14 : decode prog_2_method_6_code 14 = .ok (.iload_n 1, 1) := by decide +kernel
theorem ad_Best_isInside_15 : decode prog_2_method_6_code 15 = .ok (.bipush 10, 2) := by decide +kernel
theorem ad_Best_isInside_17 : decode prog_2_method_6_code 17 = .ok (.if_icmp .ge 7, 3) := by decide +kernel
theorem ad_Best_isInside_20 : decode prog_2_method_6_code 20 = .ok (.iconst 1, 1) := by decide +kernel
theorem ad_Best_isInside_21 : decode prog_2_method_6_code 21 = .ok (.goto 4, 3) := by decide +kernel
theorem ad_Best_isInside_24 : decode prog_2_method_6_code 24 = .ok (.iconst 0, 1) := by decide +kernel
theorem ad_Best_isInside_25 : decode prog_2_method_6_code 25 = .ok (.ireturn, 1) := by decide +kernel
theorem ad_Best_valueAt_0 : decode prog_2_method_7_code 0 = .ok (.iload_n 1, 1) := by decide +kernel
theorem ad_Best_valueAt_1 : decode prog_2_method_7_code 1 = .ok (.iload_n 2, 1) := by decide +kernel
theorem ad_Best_valueAt_2 : decode prog_2_method_7_code 2 = .ok (.invokestatic 104, 3) := by decide +kernel
theorem ad_Best_valueAt_5 : decode prog_2_method_7_code 5 = .ok (.ifCond .eq 17, 3) := by decide +kernel
theorem ad_Best_valueAt_8 : decode prog_2_method_7_code 8 = .ok (.aload_n 0, 1) := by decide +kernel
theorem ad_Best_valueAt_9 : decode prog_2_method_7_code 9 = .ok (.getfield 11, 3) := by decide +kernel
theorem ad_Best_valueAt_12 : decode prog_2_method_7_code 12 = .ok (.iload_n 1, 1) := by decide +kernel
theorem ad_Best_valueAt_13 : decode prog_2_method_7_code 13 = .ok (.bipush 10, 2) := by decide +kernel
theorem ad_Best_valueAt_15 : decode prog_2_method_7_code 15 = .ok (.imul, 1) := by decide +kernel
theorem ad_Best_valueAt_16 : decode prog_2_method_7_code 16 = .ok (.iload_n 2, 1) := by decide +kernel
theorem ad_Best_valueAt_17 : decode prog_2_method_7_code 17 = .ok (.iadd, 1) := by decide +kernel
theorem ad_Best_valueAt_18 : decode prog_2_method_7_code 18 = .ok (.laload, 1) := by decide +kernel
theorem ad_Best_valueAt_19 : decode prog_2_method_7_code 19 = .ok (.goto 4, 3) := by decide +kernel
theorem ad_Best_valueAt_22 : decode prog_2_method_7_code 22 = .ok (.lconst 0, 1) := by decide +kernel
theorem ad_Best_valueAt_23 : decode prog_2_method_7_code 23 = .ok (.lreturn, 1) := by decide +kernel
theorem ad_Best_actAt_0 : decode prog_2_method_8_code 0 = .ok (.iload_n 1, 1) := by decide +kernel
theorem ad_Best_actAt_1 : decode prog_2_method_8_code 1 = .ok (.iload_n 2, 1) := by decide +kernel
theorem ad_Best_actAt_2 : decode prog_2_method_8_code 2 = .ok (.invokestatic 104, 3) := by decide +kernel
theorem ad_Best_actAt_5 : decode prog_2_method_8_code 5 = .ok (.ifCond .eq 17, 3) := by decide +kernel
theorem ad_Best_actAt_8 : decode prog_2_method_8_code 8 = .ok (.aload_n 0, 1) := by decide +kernel
theorem ad_Best_actAt_9 : decode prog_2_method_8_code 9 = .ok (.getfield 15, 3) := by decide +kernel
theorem ad_Best_actAt_12 : decode prog_2_method_8_code 12 = .ok (.iload_n 1, 1) := by decide +kernel
theorem ad_Best_actAt_13 : decode prog_2_method_8_code 13 = .ok (.bipush 10, 2) := by decide +kernel
theorem ad_Best_actAt_15 : decode prog_2_method_8_code 15 = .ok (.imul, 1) := by decide +kernel
theorem ad_Best_actAt_16 : decode prog_2_method_8_code 16 = .ok (.iload_n 2, 1) := by decide +kernel
theorem ad_Best_actAt_17 : decode prog_2_method_8_code 17 = .ok (.iadd, 1) := by decide +kernel
theorem ad_Best_actAt_18 : decode prog_2_method_8_code 18 = .ok (.iaload, 1) := by decide +kernel
theorem ad_Best_actAt_19 : decode prog_2_method_8_code 19 = .ok (.goto 4, 3) := by decide +kernel
theorem ad_Best_actAt_22 : decode prog_2_method_8_code 22 = .ok (.iconst 0, 1) := by decide +kernel
theorem ad_Best_actAt_23 : decode prog_2_method_8_code 23 = .ok (.ireturn, 1) := by decide +kernel
theorem ad_Best_freePlan_0 : decode prog_2_method_9_code 0 = .ok (.lconst 0, 1) := by decide +kernel
theorem ad_Best_freePlan_1 : decode prog_2_method_9_code 1 = .ok (.lstore_n 1, 1) := by decide +kernel
theorem ad_Best_freePlan_2 : decode prog_2_method_9_code 2 = .ok (.iconst 0, 1) := by decide +kernel
theorem ad_Best_freePlan_3 : decode prog_2_method_9_code 3 = .ok (.istore_n 3, 1) := by decide +kernel
theorem ad_Best_freePlan_4 : decode prog_2_method_9_code 4 = .ok (.iload_n 3, 1) := by decide +kernel
theorem ad_Best_freePlan_5 : decode prog_2_method_9_code 5 = .ok (.bipush 20, 2) := by decide +kernel
theorem ad_Best_freePlan_7 : decode prog_2_method_9_code 7 = .ok (.if_icmp .gt 23, 3) := by decide +kernel
theorem ad_Best_freePlan_10 : decode prog_2_method_9_code 10 = .ok (.lload_n 1, 1) := by decide +kernel
theorem ad_Best_freePlan_11 : decode prog_2_method_9_code 11 = .ok (.aload_n 0, 1) := by decide +kernel
theorem ad_Best_freePlan_12 : decode prog_2_method_9_code 12 = .ok (.iload_n 3, 1) := by decide +kernel
theorem ad_Best_freePlan_13 : decode prog_2_method_9_code 13 = .ok (.iconst 0, 1) := by decide +kernel
theorem ad_Best_freePlan_14 : decode prog_2_method_9_code 14 = .ok (.invokevirtual 107, 3) := by decide +kernel
theorem ad_Best_freePlan_17 : decode prog_2_method_9_code 17 = .ok (.i2l, 1) := by decide +kernel
theorem ad_Best_freePlan_18 : decode prog_2_method_9_code 18 = .ok (.iconst 2, 1) := by decide +kernel
theorem ad_Best_freePlan_19 : decode prog_2_method_9_code 19 = .ok (.iload_n 3, 1) := by decide +kernel
theorem ad_Best_freePlan_20 : decode prog_2_method_9_code 20 = .ok (.imul, 1) := by decide +kernel
theorem ad_Best_freePlan_21 : decode prog_2_method_9_code 21 = .ok (.lshl, 1) := by decide +kernel
theorem ad_Best_freePlan_22 : decode prog_2_method_9_code 22 = .ok (.lor, 1) := by decide +kernel
theorem ad_Best_freePlan_23 : decode prog_2_method_9_code 23 = .ok (.lstore_n 1, 1) := by decide +kernel
theorem ad_Best_freePlan_24 : decode prog_2_method_9_code 24 = .ok (.iinc 3 1, 3) := by decide +kernel
theorem ad_Best_freePlan_27 : decode prog_2_method_9_code 27 = .ok (.goto (-23), 3) := by decide +kernel
theorem ad_Best_freePlan_30 : decode prog_2_method_9_code 30 = .ok (.lload_n 1, 1) := by decide +kernel
theorem ad_Best_freePlan_31 : decode prog_2_method_9_code 31 = .ok (.lreturn, 1) := by decide +kernel
theorem ad_Bonds_begin_0 : decode prog_3_method_2_code 0 = .ok (.aload_n 0, 1) := by decide +kernel
theorem ad_Bonds_begin_1 : decode prog_3_method_2_code 1 = .ok (.getfield 9, 3) := by decide +kernel
theorem ad_Bonds_begin_4 : decode prog_3_method_2_code 4 = .ok (.iconst (-1), 1) := by decide +kernel
theorem ad_Bonds_begin_5 : decode prog_3_method_2_code 5 = .ok (.invokestatic 25, 3) := by decide +kernel
theorem ad_Bonds_begin_8 : decode prog_3_method_2_code 8 = .ok (.aload_n 0, 1) := by decide +kernel
theorem ad_Bonds_begin_9 : decode prog_3_method_2_code 9 = .ok (.getfield 15, 3) := by decide +kernel
theorem ad_Bonds_begin_12 : decode prog_3_method_2_code 12 = .ok (.iconst (-1), 1) := by decide +kernel
theorem ad_Bonds_begin_13 : decode prog_3_method_2_code 13 = .ok (.invokestatic 25, 3) := by decide +kernel
theorem ad_Bonds_begin_16 : decode prog_3_method_2_code 16 = .ok (.aload_n 0, 1) := by decide +kernel
theorem ad_Bonds_begin_17 : decode prog_3_method_2_code 17 = .ok (.iconst 0, 1) := by decide +kernel
theorem ad_Bonds_begin_18 : decode prog_3_method_2_code 18 = .ok (.putfield 18, 3) := by decide +kernel
theorem ad_Bonds_begin_21 : decode prog_3_method_2_code 21 = .ok (.return_, 1) := by decide +kernel
theorem ad_Bonds_copyFrom_0 : decode prog_3_method_3_code 0 = .ok (.aload_n 1, 1) := by decide +kernel
theorem ad_Bonds_copyFrom_1 : decode prog_3_method_3_code 1 = .ok (.getfield 9, 3) := by decide +kernel
theorem ad_Bonds_copyFrom_4 : decode prog_3_method_3_code 4 = .ok (.aload_n 0, 1) := by decide +kernel
theorem ad_Bonds_copyFrom_5 : decode prog_3_method_3_code 5 = .ok (.getfield 9, 3) := by decide +kernel
theorem ad_Bonds_copyFrom_8 : decode prog_3_method_3_code 8 = .ok (.invokestatic 31, 3) := by decide +kernel
theorem ad_Bonds_copyFrom_11 : decode prog_3_method_3_code 11 = .ok (.aload_n 1, 1) := by decide +kernel
theorem ad_Bonds_copyFrom_12 : decode prog_3_method_3_code 12 = .ok (.getfield 15, 3) := by decide +kernel
theorem ad_Bonds_copyFrom_15 : decode prog_3_method_3_code 15 = .ok (.aload_n 0, 1) := by decide +kernel
theorem ad_Bonds_copyFrom_16 : decode prog_3_method_3_code 16 = .ok (.getfield 15, 3) := by decide +kernel
theorem ad_Bonds_copyFrom_19 : decode prog_3_method_3_code 19 = .ok (.invokestatic 31, 3) := by decide +kernel
theorem ad_Bonds_copyFrom_22 : decode prog_3_method_3_code 22 = .ok (.aload_n 0, 1) := by decide +kernel
theorem ad_Bonds_copyFrom_23 : decode prog_3_method_3_code 23 = .ok (.aload_n 1, 1) := by decide +kernel
theorem ad_Bonds_copyFrom_24 : decode prog_3_method_3_code 24 = .ok (.getfield 18, 3) := by decide +kernel
theorem ad_Bonds_copyFrom_27 : decode prog_3_method_3_code 27 = .ok (.putfield 18, 3) := by decide +kernel
theorem ad_Bonds_copyFrom_30 : decode prog_3_method_3_code 30 = .ok (.return_, 1) := by decide +kernel
theorem ad_Bonds_isBond_0 : decode prog_3_method_4_code 0 = .ok (.iload_n 0, 1) := by decide +kernel
theorem ad_Bonds_isBond_1 : decode prog_3_method_4_code 1 = .ok (.ifCond .lt 23, 3) := by decide +kernel
theorem ad_Bonds_isBond_4 : decode prog_3_method_4_code 4 = .ok (.iload_n 0, 1) := by decide +kernel
theorem ad_Bonds_isBond_5 : decode prog_3_method_4_code 5 = .ok (.bipush 8, 2) := by decide +kernel
theorem ad_Bonds_isBond_7 : decode prog_3_method_4_code 7 = .ok (.if_icmp .ge 17, 3) := by decide +kernel
theorem ad_Bonds_isBond_10 : decode prog_3_method_4_code 10 = .ok (.iload_n 1, 1) := by decide +kernel
theorem ad_Bonds_isBond_11 : decode prog_3_method_4_code 11 = .ok (.ifCond .lt 13, 3) := by decide +kernel
theorem ad_Bonds_isBond_14 : decode prog_3_method_4_code 14 = .ok (.iload_n 1, 1) := by decide +kernel
theorem ad_Bonds_isBond_15 : decode prog_3_method_4_code 15 = .ok (.bipush 48, 2) := by decide +kernel
theorem ad_Bonds_isBond_17 : decode prog_3_method_4_code 17 = .ok (.if_icmp .ge 7, 3) := by decide +kernel
theorem ad_Bonds_isBond_20 : decode prog_3_method_4_code 20 = .ok (.iconst 1, 1) := by decide +kernel
theorem ad_Bonds_isBond_21 : decode prog_3_method_4_code 21 = .ok (.goto 4, 3) := by decide +kernel
theorem ad_Bonds_isBond_24 : decode prog_3_method_4_code 24 = .ok (.iconst 0, 1) := by decide +kernel
theorem ad_Bonds_isBond_25 : decode prog_3_method_4_code 25 = .ok (.ireturn, 1) := by decide +kernel
theorem ad_Bonds_lastYear_0 : decode prog_3_method_5_code 0 = .ok (.iload_n 1, 1) := by decide +kernel
theorem ad_Bonds_lastYear_1 : decode prog_3_method_5_code 1 = .ok (.iload_n 2, 1) := by decide +kernel
theorem ad_Bonds_lastYear_2 : decode prog_3_method_5_code 2 = .ok (.invokestatic 35, 3) := by decide +kernel
theorem ad_Bonds_lastYear_5 : decode prog_3_method_5_code 5 = .ok (.ifCond .eq 17, 3) := by decide +kernel
theorem ad_Bonds_lastYear_8 : decode prog_3_method_5_code 8 = .ok (.aload_n 0, 1) := by decide +kernel
theorem ad_Bonds_lastYear_9 : decode prog_3_method_5_code 9 = .ok (.getfield 15, 3) := by decide +kernel
theorem ad_Bonds_lastYear_12 : decode prog_3_method_5_code 12 = .ok (.iload_n 1, 1) := by decide +kernel
theorem ad_Bonds_lastYear_13 : decode prog_3_method_5_code 13 = .ok (.bipush 48, 2) := by decide +kernel
theorem ad_Bonds_lastYear_15 : decode prog_3_method_5_code 15 = .ok (.imul, 1) := by decide +kernel
theorem ad_Bonds_lastYear_16 : decode prog_3_method_5_code 16 = .ok (.iload_n 2, 1) := by decide +kernel
theorem ad_Bonds_lastYear_17 : decode prog_3_method_5_code 17 = .ok (.iadd, 1) := by decide +kernel
theorem ad_Bonds_lastYear_18 : decode prog_3_method_5_code 18 = .ok (.iaload, 1) := by decide +kernel
theorem ad_Bonds_lastYear_19 : decode prog_3_method_5_code 19 = .ok (.goto 4, 3) := by decide +kernel
theorem ad_Bonds_lastYear_22 : decode prog_3_method_5_code 22 = .ok (.iconst (-1), 1) := by decide +kernel
theorem ad_Bonds_lastYear_23 : decode prog_3_method_5_code 23 = .ok (.ireturn, 1) := by decide +kernel
theorem ad_Bonds_isDue_0 : decode prog_3_method_6_code 0 = .ok (.iload_n 1, 1) := by decide +kernel
theorem ad_Bonds_isDue_1 : decode prog_3_method_6_code 1 = .ok (.bipush 48, 2) := by decide +kernel
theorem ad_Bonds_isDue_3 : decode prog_3_method_6_code 3 = .ok (.imul, 1) := by decide +kernel
theorem ad_Bonds_isDue_4 : decode prog_3_method_6_code 4 = .ok (.iload_n 2, 1) := by decide +kernel
theorem ad_Bonds_isDue_5 : decode prog_3_method_6_code 5 = .ok (.iadd, 1) := by decide +kernel
theorem ad_Bonds_isDue_6 : decode prog_3_method_6_code 6 = .ok (.istore 4, 2) := by decide +kernel
theorem ad_Bonds_isDue_8 : decode prog_3_method_6_code 8 = .ok (.iload_n 1, 1) := by decide +kernel
theorem ad_Bonds_isDue_9 : decode prog_3_method_6_code 9 = .ok (.iload_n 2, 1) := by decide +kernel
theorem ad_Bonds_isDue_10 : decode prog_3_method_6_code 10 = .ok (.invokestatic 35, 3) := by decide +kernel
theorem ad_Bonds_isDue_13 : decode prog_3_method_6_code 13 = .ok (.ifCond .eq 29, 3) := by decide +kernel
theorem ad_Bonds_isDue_16 : decode prog_3_method_6_code 16 = .ok (.aload_n 0, 1) := by decide +kernel
theorem ad_Bonds_isDue_17 : decode prog_3_method_6_code 17 = .ok (.getfield 9, 3) := by decide +kernel
theorem ad_Bonds_isDue_20 : decode prog_3_method_6_code 20 = .ok (.iload 4, 2) := by decide +kernel
theorem ad_Bonds_isDue_22 : decode prog_3_method_6_code 22 = .ok (.iaload, 1) := by decide +kernel
theorem ad_Bonds_isDue_23 : decode prog_3_method_6_code 23 = .ok (.iload_n 3, 1) := by decide +kernel
theorem ad_Bonds_isDue_24 : decode prog_3_method_6_code 24 = .ok (.if_icmp .ge 18, 3) := by decide +kernel
theorem ad_Bonds_isDue_27 : decode prog_3_method_6_code 27 = .ok (.aload_n 0, 1) := by decide +kernel
theorem ad_Bonds_isDue_28 : decode prog_3_method_6_code 28 = .ok (.getfield 15, 3) := by decide +kernel
theorem ad_Bonds_isDue_31 : decode prog_3_method_6_code 31 = .ok (.iload 4, 2) := by decide +kernel
theorem ad_Bonds_isDue_33 : decode prog_3_method_6_code 33 = .ok (.iaload, 1) := by decide +kernel
theorem ad_Bonds_isDue_34 : decode prog_3_method_6_code 34 = .ok (.iload_n 3, 1) := by decide +kernel
theorem ad_Bonds_isDue_35 : decode prog_3_method_6_code 35 = .ok (.if_icmp .lt 7, 3) := by decide +kernel
theorem ad_Bonds_isDue_38 : decode prog_3_method_6_code 38 = .ok (.iconst 1, 1) := by decide +kernel
theorem ad_Bonds_isDue_39 : decode prog_3_method_6_code 39 = .ok (.goto 4, 3) := by decide +kernel
theorem ad_Bonds_isDue_42 : decode prog_3_method_6_code 42 = .ok (.iconst 0, 1) := by decide +kernel
theorem ad_Bonds_isDue_43 : decode prog_3_method_6_code 43 = .ok (.ireturn, 1) := by decide +kernel
theorem ad_Bonds_standing_0 : decode prog_3_method_7_code 0 = .ok (.iconst 0, 1) := by decide +kernel
theorem ad_Bonds_standing_1 : decode prog_3_method_7_code 1 = .ok (.istore_n 3, 1) := by decide +kernel
theorem ad_Bonds_standing_2 : decode prog_3_method_7_code 2 = .ok (.iload_n 1, 1) := by decide +kernel
theorem ad_Bonds_standing_3 : decode prog_3_method_7_code 3 = .ok (.bipush 48, 2) := by decide +kernel
theorem ad_Bonds_standing_5 : decode prog_3_method_7_code 5 = .ok (.imul, 1) := by decide +kernel
theorem ad_Bonds_standing_6 : decode prog_3_method_7_code 6 = .ok (.istore 4, 2) := by decide +kernel
theorem ad_Bonds_standing_8 : decode prog_3_method_7_code 8 = .ok (.iload 4, 2) := by decide +kernel
theorem ad_Bonds_standing_10 : decode prog_3_method_7_code 10 = .ok (.ifCond .lt 47, 3) := by decide +kernel
theorem ad_Bonds_standing_13 : decode prog_3_method_7_code 13 = .ok (.iload 4, 2) := by decide +kernel
theorem ad_Bonds_standing_15 : decode prog_3_method_7_code 15 = .ok (.iload_n 1, 1) := by decide +kernel
theorem ad_Bonds_standing_16 : decode prog_3_method_7_code 16 = .ok (.iconst 1, 1) := by decide +kernel
theorem ad_Bonds_standing_17 : decode prog_3_method_7_code 17 = .ok (.iadd, 1) := by decide +kernel
theorem ad_Bonds_standing_18 : decode prog_3_method_7_code 18 = .ok (.bipush 48, 2) := by decide +kernel
theorem ad_Bonds_standing_20 : decode prog_3_method_7_code 20 = .ok (.imul, 1) := by decide +kernel
theorem ad_Bonds_standing_21 : decode prog_3_method_7_code 21 = .ok (.if_icmp .ge 36, 3) := by decide +kernel
theorem ad_Bonds_standing_24 : decode prog_3_method_7_code 24 = .ok (.iload 4, 2) := by decide +kernel
theorem ad_Bonds_standing_26 : decode prog_3_method_7_code 26 = .ok (.sipush 384, 3) := by decide +kernel
theorem ad_Bonds_standing_29 : decode prog_3_method_7_code 29 = .ok (.if_icmp .ge 28, 3) := by decide +kernel
theorem ad_Bonds_standing_32 : decode prog_3_method_7_code 32 = .ok (.iload_n 3, 1) := by decide +kernel
theorem ad_Bonds_standing_33 : decode prog_3_method_7_code 33 = .ok (.aload_n 0, 1) := by decide +kernel
theorem ad_Bonds_standing_34 : decode prog_3_method_7_code 34 = .ok (.getfield 15, 3) := by decide +kernel
theorem ad_Bonds_standing_37 : decode prog_3_method_7_code 37 = .ok (.iload 4, 2) := by decide +kernel
theorem ad_Bonds_standing_39 : decode prog_3_method_7_code 39 = .ok (.iaload, 1) := by decide +kernel
theorem ad_Bonds_standing_40 : decode prog_3_method_7_code 40 = .ok (.iload_n 2, 1) := by decide +kernel
theorem ad_Bonds_standing_41 : decode prog_3_method_7_code 41 = .ok (.if_icmp .lt 7, 3) := by decide +kernel
theorem ad_Bonds_standing_44 : decode prog_3_method_7_code 44 = .ok (.iconst 1, 1) := by decide +kernel
theorem ad_Bonds_standing_45 : decode prog_3_method_7_code 45 = .ok (.goto 4, 3) := by decide +kernel
theorem ad_Bonds_standing_48 : decode prog_3_method_7_code 48 = .ok (.iconst 0, 1) := by decide +kernel
theorem ad_Bonds_standing_49 : decode prog_3_method_7_code 49 = .ok (.iadd, 1) := by decide +kernel
theorem ad_Bonds_standing_50 : decode prog_3_method_7_code 50 = .ok (.istore_n 3, 1) := by decide +kernel
theorem ad_Bonds_standing_51 : decode prog_3_method_7_code 51 = .ok (.iinc 4 1, 3) := by decide +kernel
theorem ad_Bonds_standing_54 : decode prog_3_method_7_code 54 = .ok (.goto (-46), 3) := by decide +kernel
theorem ad_Bonds_standing_57 : decode prog_3_method_7_code 57 = .ok (.iload_n 3, 1) := by decide +kernel
theorem ad_Bonds_standing_58 : decode prog_3_method_7_code 58 = .ok (.ireturn, 1) := by decide +kernel
theorem ad_Bonds_isAbove_0 : decode prog_3_method_8_code 0 = .ok (.iload_n 2, 1) := by decide +kernel
theorem ad_Bonds_isAbove_1 : decode prog_3_method_8_code 1 = .ok (.iload_n 3, 1) := by decide +kernel
theorem ad_Bonds_isAbove_2 : decode prog_3_method_8_code 2 = .ok (.invokestatic 35, 3) := by decide +kernel
theorem ad_Bonds_isAbove_5 : decode prog_3_method_8_code 5 = .ok (.ifCond .eq 23, 3) := by decide +kernel
theorem ad_Bonds_isAbove_8 : decode prog_3_method_8_code 8 = .ok (.aload_n 0, 1) := by decide +kernel
theorem ad_Bonds_isAbove_9 : decode prog_3_method_8_code 9 = .ok (.getfield 15, 3) := by decide +kernel
theorem ad_Bonds_isAbove_12 : decode prog_3_method_8_code 12 = .ok (.iload_n 2, 1) := by decide +kernel
theorem ad_Bonds_isAbove_13 : decode prog_3_method_8_code 13 = .ok (.bipush 48, 2) := by decide +kernel
theorem ad_Bonds_isAbove_15 : decode prog_3_method_8_code 15 = .ok (.imul, 1) := by decide +kernel
theorem ad_Bonds_isAbove_16 : decode prog_3_method_8_code 16 = .ok (.iload_n 3, 1) := by decide +kernel
theorem ad_Bonds_isAbove_17 : decode prog_3_method_8_code 17 = .ok (.iadd, 1) := by decide +kernel
theorem ad_Bonds_isAbove_18 : decode prog_3_method_8_code 18 = .ok (.iaload, 1) := by decide +kernel
theorem ad_Bonds_isAbove_19 : decode prog_3_method_8_code 19 = .ok (.iload 4, 2) := by decide +kernel
theorem ad_Bonds_isAbove_21 : decode prog_3_method_8_code 21 = .ok (.if_icmp .lt 7, 3) := by decide +kernel
theorem ad_Bonds_isAbove_24 : decode prog_3_method_8_code 24 = .ok (.iconst 1, 1) := by decide +kernel
theorem ad_Bonds_isAbove_25 : decode prog_3_method_8_code 25 = .ok (.goto 4, 3) := by decide +kernel
theorem ad_Bonds_isAbove_28 : decode prog_3_method_8_code 28 = .ok (.iconst 0, 1) := by decide +kernel
theorem ad_Bonds_isAbove_29 : decode prog_3_method_8_code 29 = .ok (.istore 5, 2) := by decide +kernel
theorem ad_Bonds_isAbove_31 : decode prog_3_method_8_code 31 = .ok (.aload_n 1, 1) := by decide +kernel
theorem ad_Bonds_isAbove_32 : decode prog_3_method_8_code 32 = .ok (.iload_n 2, 1) := by decide +kernel
theorem ad_Bonds_isAbove_33 : decode prog_3_method_8_code 33 = .ok (.invokevirtual 39, 3) := by decide +kernel
theorem ad_Bonds_isAbove_36 : decode prog_3_method_8_code 36 = .ok (.ifCond .eq 28, 3) := by decide +kernel
theorem ad_Bonds_isAbove_39 : decode prog_3_method_8_code 39 = .ok (.iload 5, 2) := by decide +kernel
theorem ad_Bonds_isAbove_41 : decode prog_3_method_8_code 41 = .ok (.ifCond .ne 23, 3) := by decide +kernel
theorem ad_Bonds_isAbove_44 : decode prog_3_method_8_code 44 = .ok (.aload_n 0, 1) := by decide +kernel
theorem ad_Bonds_isAbove_45 : decode prog_3_method_8_code 45 = .ok (.iload_n 2, 1) := by decide +kernel
theorem ad_Bonds_isAbove_46 : decode prog_3_method_8_code 46 = .ok (.iload 4, 2) := by decide +kernel
theorem ad_Bonds_isAbove_48 : decode prog_3_method_8_code 48 = .ok (.invokevirtual 45, 3) := by decide +kernel
theorem ad_Bonds_isAbove_51 : decode prog_3_method_8_code 51 = .ok (.aload_n 1, 1) := by decide +kernel
theorem ad_Bonds_isAbove_52 : decode prog_3_method_8_code 52 = .ok (.getfield 49, 3) := by decide +kernel
theorem ad_Bonds_isAbove_55 : decode prog_3_method_8_code 55 = .ok (.iload_n 2, 1) := by decide +kernel
theorem ad_Bonds_isAbove_56 : decode prog_3_method_8_code 56 = .ok (.iaload, 1) := by decide +kernel
theorem ad_Bonds_isAbove_57 : decode prog_3_method_8_code 57 = .ok (.if_icmp .lt 7, 3) := by decide +kernel
theorem ad_Bonds_isAbove_60 : decode prog_3_method_8_code 60 = .ok (.iconst 1, 1) := by decide +kernel
theorem ad_Bonds_isAbove_61 : decode prog_3_method_8_code 61 = .ok (.goto 4, 3) := by decide +kernel
theorem ad_Bonds_isAbove_64 : decode prog_3_method_8_code 64 = .ok (.iconst 0, 1) := by decide +kernel
theorem ad_Bonds_isAbove_65 : decode prog_3_method_8_code 65 = .ok (.ireturn, 1) := by decide +kernel
theorem ad_Bonds_bind_0 : decode prog_3_method_9_code 0 = .ok (.iload_n 1, 1) := by decide +kernel
theorem ad_Bonds_bind_1 : decode prog_3_method_9_code 1 = .ok (.iload_n 2, 1) := by decide +kernel
theorem ad_Bonds_bind_2 : decode prog_3_method_9_code 2 = .ok (.invokestatic 35, 3) := by decide +kernel
theorem ad_Bonds_bind_5 : decode prog_3_method_9_code 5 = .ok (.ifCond .eq 63, 3) := by decide +kernel
theorem ad_Bonds_bind_8 : decode prog_3_method_9_code 8 = .ok (.iload_n 1, 1) := by decide +kernel
theorem ad_Bonds_bind_9 : decode prog_3_method_9_code 9 = .ok (.bipush 48, 2) := by decide +kernel
theorem ad_Bonds_bind_11 : decode prog_3_method_9_code 11 = .ok (.imul, 1) := by decide +kernel
theorem ad_Bonds_bind_12 : decode prog_3_method_9_code 12 = .ok (.iload_n 2, 1) := by decide +kernel
theorem ad_Bonds_bind_13 : decode prog_3_method_9_code 13 = .ok (.iadd, 1) := by decide +kernel
theorem ad_Bonds_bind_14 : decode prog_3_method_9_code 14 = .ok (.istore 5, 2) := by decide +kernel
theorem ad_Bonds_bind_16 : decode prog_3_method_9_code 16 = .ok (.aload_n 0, 1) := by decide +kernel
theorem ad_Bonds_bind_17 : decode prog_3_method_9_code 17 = .ok (.getfield 9, 3) := by decide +kernel
theorem ad_Bonds_bind_20 : decode prog_3_method_9_code 20 = .ok (.iload 5, 2) := by decide +kernel
theorem ad_Bonds_bind_22 : decode prog_3_method_9_code 22 = .ok (.aload_n 0, 1) := by decide +kernel
theorem ad_Bonds_bind_23 : decode prog_3_method_9_code 23 = .ok (.getfield 15, 3) := by decide +kernel
theorem ad_Bonds_bind_26 : decode prog_3_method_9_code 26 = .ok (.iload 5, 2) := by decide +kernel
theorem ad_Bonds_bind_28 : decode prog_3_method_9_code 28 = .ok (.iaload, 1) := by decide +kernel
theorem ad_Bonds_bind_29 : decode prog_3_method_9_code 29 = .ok (.iload_n 3, 1) := by decide +kernel
theorem ad_Bonds_bind_30 : decode prog_3_method_9_code 30 = .ok (.if_icmp .ge 7, 3) := by decide +kernel
theorem ad_Bonds_bind_33 : decode prog_3_method_9_code 33 = .ok (.iload_n 3, 1) := by decide +kernel
theorem ad_Bonds_bind_34 : decode prog_3_method_9_code 34 = .ok (.goto 10, 3) := by decide +kernel
theorem ad_Bonds_bind_37 : decode prog_3_method_9_code 37 = .ok (.aload_n 0, 1) := by decide +kernel
theorem ad_Bonds_bind_38 : decode prog_3_method_9_code 38 = .ok (.getfield 9, 3) := by decide +kernel
theorem ad_Bonds_bind_41 : decode prog_3_method_9_code 41 = .ok (.iload 5, 2) := by decide +kernel
theorem ad_Bonds_bind_43 : decode prog_3_method_9_code 43 = .ok (.iaload, 1) := by decide +kernel
theorem ad_Bonds_bind_44 : decode prog_3_method_9_code 44 = .ok (.iastore, 1) := by decide +kernel
theorem ad_Bonds_bind_45 : decode prog_3_method_9_code 45 = .ok (.aload_n 0, 1) := by decide +kernel
theorem ad_Bonds_bind_46 : decode prog_3_method_9_code 46 = .ok (.getfield 15, 3) := by decide +kernel
theorem ad_Bonds_bind_49 : decode prog_3_method_9_code 49 = .ok (.iload 5, 2) := by decide +kernel
theorem ad_Bonds_bind_51 : decode prog_3_method_9_code 51 = .ok (.iload_n 3, 1) := by decide +kernel
theorem ad_Bonds_bind_52 : decode prog_3_method_9_code 52 = .ok (.iload 4, 2) := by decide +kernel
theorem ad_Bonds_bind_54 : decode prog_3_method_9_code 54 = .ok (.iadd, 1) := by decide +kernel
theorem ad_Bonds_bind_55 : decode prog_3_method_9_code 55 = .ok (.iastore, 1) := by decide +kernel
theorem ad_Bonds_bind_56 : decode prog_3_method_9_code 56 = .ok (.aload_n 0, 1) := by decide +kernel
theorem ad_Bonds_bind_57 : decode prog_3_method_9_code 57 = .ok (.dup, 1) := by decide +kernel
theorem ad_Bonds_bind_58 : decode prog_3_method_9_code 58 = .ok (.getfield 18, 3) := by decide +kernel
theorem ad_Bonds_bind_61 : decode prog_3_method_9_code 61 = .ok (.iconst 1, 1) := by decide +kernel
theorem ad_Bonds_bind_62 : decode prog_3_method_9_code 62 = .ok (.iload_n 1, 1) := by decide +kernel
theorem ad_Bonds_bind_63 : decode prog_3_method_9_code 63 = .ok (.ishl, 1) := by decide +kernel
theorem ad_Bonds_bind_64 : decode prog_3_method_9_code 64 = .ok (.ior, 1) := by decide +kernel
theorem ad_Bonds_bind_65 : decode prog_3_method_9_code 65 = .ok (.putfield 18, 3) := by decide +kernel
theorem ad_Bonds_bind_68 : decode prog_3_method_9_code 68 = .ok (.return_, 1) := by decide +kernel
theorem ad_Bonds_drop_0 : decode prog_3_method_10_code 0 = .ok (.iload_n 1, 1) := by decide +kernel
theorem ad_Bonds_drop_1 : decode prog_3_method_10_code 1 = .ok (.iload_n 2, 1) := by decide +kernel
theorem ad_Bonds_drop_2 : decode prog_3_method_10_code 2 = .ok (.invokestatic 35, 3) := by decide +kernel
theorem ad_Bonds_drop_5 : decode prog_3_method_10_code 5 = .ok (.ifCond .eq 15, 3) := by decide +kernel
theorem ad_Bonds_drop_8 : decode prog_3_method_10_code 8 = .ok (.aload_n 0, 1) := by decide +kernel
theorem ad_Bonds_drop_9 : decode prog_3_method_10_code 9 = .ok (.getfield 15, 3) := by decide +kernel
theorem ad_Bonds_drop_12 : decode prog_3_method_10_code 12 = .ok (.iload_n 1, 1) := by decide +kernel
theorem ad_Bonds_drop_13 : decode prog_3_method_10_code 13 = .ok (.bipush 48, 2) := by decide +kernel
theorem ad_Bonds_drop_15 : decode prog_3_method_10_code 15 = .ok (.imul, 1) := by decide +kernel
theorem ad_Bonds_drop_16 : decode prog_3_method_10_code 16 = .ok (.iload_n 2, 1) := by decide +kernel
theorem ad_Bonds_drop_17 : decode prog_3_method_10_code 17 = .ok (.iadd, 1) := by decide +kernel
theorem ad_Bonds_drop_18 : decode prog_3_method_10_code 18 = .ok (.iconst (-1), 1) := by decide +kernel
theorem ad_Bonds_drop_19 : decode prog_3_method_10_code 19 = .ok (.iastore, 1) := by decide +kernel
theorem ad_Bonds_drop_20 : decode prog_3_method_10_code 20 = .ok (.return_, 1) := by decide +kernel
theorem ad_Book_begin_0 : decode prog_4_method_2_code 0 = .ok (.aload_n 0, 1) := by decide +kernel
theorem ad_Book_begin_1 : decode prog_4_method_2_code 1 = .ok (.iconst 0, 1) := by decide +kernel
theorem ad_Book_begin_2 : decode prog_4_method_2_code 2 = .ok (.putfield 9, 3) := by decide +kernel
theorem ad_Book_begin_5 : decode prog_4_method_2_code 5 = .ok (.aload_n 0, 1) := by decide +kernel
theorem ad_Book_begin_6 : decode prog_4_method_2_code 6 = .ok (.iconst 0, 1) := by decide +kernel
theorem ad_Book_begin_7 : decode prog_4_method_2_code 7 = .ok (.putfield 15, 3) := by decide +kernel
theorem ad_Book_begin_10 : decode prog_4_method_2_code 10 = .ok (.aload_n 0, 1) := by decide +kernel
theorem ad_Book_begin_11 : decode prog_4_method_2_code 11 = .ok (.iconst 0, 1) := by decide +kernel
theorem ad_Book_begin_12 : decode prog_4_method_2_code 12 = .ok (.putfield 18, 3) := by decide +kernel
theorem ad_Book_begin_15 : decode prog_4_method_2_code 15 = .ok (.aload_n 0, 1) := by decide +kernel
theorem ad_Book_begin_16 : decode prog_4_method_2_code 16 = .ok (.iconst 0, 1) := by decide +kernel
theorem ad_Book_begin_17 : decode prog_4_method_2_code 17 = .ok (.putfield 21, 3) := by decide +kernel
theorem ad_Book_begin_20 : decode prog_4_method_2_code 20 = .ok (.aload_n 0, 1) := by decide +kernel
theorem ad_Book_begin_21 : decode prog_4_method_2_code 21 = .ok (.getfield 28, 3) := by decide +kernel
theorem ad_Book_begin_24 : decode prog_4_method_2_code 24 = .ok (.iconst 0, 1) := by decide +kernel
theorem ad_Book_begin_25 : decode prog_4_method_2_code 25 = .ok (.invokestatic 50, 3) := by decide +kernel
theorem ad_Book_begin_28 : decode prog_4_method_2_code 28 = .ok (.aload_n 0, 1) := by decide +kernel
theorem ad_Book_begin_29 : decode prog_4_method_2_code 29 = .ok (.getfield 31, 3) := by decide +kernel
theorem ad_Book_begin_32 : decode prog_4_method_2_code 32 = .ok (.iconst 0, 1) := by decide +kernel
theorem ad_Book_begin_33 : decode prog_4_method_2_code 33 = .ok (.invokestatic 50, 3) := by decide +kernel
theorem ad_Book_begin_36 : decode prog_4_method_2_code 36 = .ok (.aload_n 0, 1) := by decide +kernel
theorem ad_Book_begin_37 : decode prog_4_method_2_code 37 = .ok (.getfield 34, 3) := by decide +kernel
theorem ad_Book_begin_40 : decode prog_4_method_2_code 40 = .ok (.iconst 0, 1) := by decide +kernel
theorem ad_Book_begin_41 : decode prog_4_method_2_code 41 = .ok (.invokestatic 50, 3) := by decide +kernel
theorem ad_Book_begin_44 : decode prog_4_method_2_code 44 = .ok (.aload_n 0, 1) := by decide +kernel
theorem ad_Book_begin_45 : decode prog_4_method_2_code 45 = .ok (.getfield 44, 3) := by decide +kernel
theorem ad_Book_begin_48 : decode prog_4_method_2_code 48 = .ok (.iconst (-1), 1) := by decide +kernel
theorem ad_Book_begin_49 : decode prog_4_method_2_code 49 = .ok (.invokestatic 50, 3) := by decide +kernel
theorem ad_Book_begin_52 : decode prog_4_method_2_code 52 = .ok (.aload_n 0, 1) := by decide +kernel
theorem ad_Book_begin_53 : decode prog_4_method_2_code 53 = .ok (.getfield 40, 3) := by decide +kernel
theorem ad_Book_begin_56 : decode prog_4_method_2_code 56 = .ok (.invokevirtual 56, 3) := by decide +kernel
theorem ad_Book_begin_59 : decode prog_4_method_2_code 59 = .ok (.return_, 1) := by decide +kernel
theorem ad_Book_copyFrom_0 : decode prog_4_method_3_code 0 = .ok (.aload_n 0, 1) := by decide +kernel
theorem ad_Book_copyFrom_1 : decode prog_4_method_3_code 1 = .ok (.aload_n 1, 1) := by decide +kernel
theorem ad_Book_copyFrom_2 : decode prog_4_method_3_code 2 = .ok (.getfield 9, 3) := by decide +kernel
theorem ad_Book_copyFrom_5 : decode prog_4_method_3_code 5 = .ok (.putfield 9, 3) := by decide +kernel
theorem ad_Book_copyFrom_8 : decode prog_4_method_3_code 8 = .ok (.aload_n 0, 1) := by decide +kernel
theorem ad_Book_copyFrom_9 : decode prog_4_method_3_code 9 = .ok (.aload_n 1, 1) := by decide +kernel
theorem ad_Book_copyFrom_10 : decode prog_4_method_3_code 10 = .ok (.getfield 15, 3) := by decide +kernel
theorem ad_Book_copyFrom_13 : decode prog_4_method_3_code 13 = .ok (.putfield 15, 3) := by decide +kernel
theorem ad_Book_copyFrom_16 : decode prog_4_method_3_code 16 = .ok (.aload_n 0, 1) := by decide +kernel
theorem ad_Book_copyFrom_17 : decode prog_4_method_3_code 17 = .ok (.aload_n 1, 1) := by decide +kernel
theorem ad_Book_copyFrom_18 : decode prog_4_method_3_code 18 = .ok (.getfield 18, 3) := by decide +kernel
theorem ad_Book_copyFrom_21 : decode prog_4_method_3_code 21 = .ok (.putfield 18, 3) := by decide +kernel
theorem ad_Book_copyFrom_24 : decode prog_4_method_3_code 24 = .ok (.aload_n 0, 1) := by decide +kernel
theorem ad_Book_copyFrom_25 : decode prog_4_method_3_code 25 = .ok (.aload_n 1, 1) := by decide +kernel
theorem ad_Book_copyFrom_26 : decode prog_4_method_3_code 26 = .ok (.getfield 21, 3) := by decide +kernel
theorem ad_Book_copyFrom_29 : decode prog_4_method_3_code 29 = .ok (.putfield 21, 3) := by decide +kernel
theorem ad_Book_copyFrom_32 : decode prog_4_method_3_code 32 = .ok (.aload_n 1, 1) := by decide +kernel
theorem ad_Book_copyFrom_33 : decode prog_4_method_3_code 33 = .ok (.getfield 24, 3) := by decide +kernel
theorem ad_Book_copyFrom_36 : decode prog_4_method_3_code 36 = .ok (.aload_n 0, 1) := by decide +kernel
theorem ad_Book_copyFrom_37 : decode prog_4_method_3_code 37 = .ok (.getfield 24, 3) := by decide +kernel
theorem ad_Book_copyFrom_40 : decode prog_4_method_3_code 40 = .ok (.invokestatic 57, 3) := by decide +kernel
theorem ad_Book_copyFrom_43 : decode prog_4_method_3_code 43 = .ok (.aload_n 1, 1) := by decide +kernel
theorem ad_Book_copyFrom_44 : decode prog_4_method_3_code 44 = .ok (.getfield 28, 3) := by decide +kernel
theorem ad_Book_copyFrom_47 : decode prog_4_method_3_code 47 = .ok (.aload_n 0, 1) := by decide +kernel
theorem ad_Book_copyFrom_48 : decode prog_4_method_3_code 48 = .ok (.getfield 28, 3) := by decide +kernel
theorem ad_Book_copyFrom_51 : decode prog_4_method_3_code 51 = .ok (.invokestatic 57, 3) := by decide +kernel
theorem ad_Book_copyFrom_54 : decode prog_4_method_3_code 54 = .ok (.aload_n 1, 1) := by decide +kernel
theorem ad_Book_copyFrom_55 : decode prog_4_method_3_code 55 = .ok (.getfield 31, 3) := by decide +kernel
theorem ad_Book_copyFrom_58 : decode prog_4_method_3_code 58 = .ok (.aload_n 0, 1) := by decide +kernel
theorem ad_Book_copyFrom_59 : decode prog_4_method_3_code 59 = .ok (.getfield 31, 3) := by decide +kernel
theorem ad_Book_copyFrom_62 : decode prog_4_method_3_code 62 = .ok (.invokestatic 57, 3) := by decide +kernel
theorem ad_Book_copyFrom_65 : decode prog_4_method_3_code 65 = .ok (.aload_n 1, 1) := by decide +kernel
theorem ad_Book_copyFrom_66 : decode prog_4_method_3_code 66 = .ok (.getfield 34, 3) := by decide +kernel
theorem ad_Book_copyFrom_69 : decode prog_4_method_3_code 69 = .ok (.aload_n 0, 1) := by decide +kernel
theorem ad_Book_copyFrom_70 : decode prog_4_method_3_code 70 = .ok (.getfield 34, 3) := by decide +kernel
theorem ad_Book_copyFrom_73 : decode prog_4_method_3_code 73 = .ok (.invokestatic 57, 3) := by decide +kernel
theorem ad_Book_copyFrom_76 : decode prog_4_method_3_code 76 = .ok (.aload_n 0, 1) := by decide +kernel
theorem ad_Book_copyFrom_77 : decode prog_4_method_3_code 77 = .ok (.getfield 40, 3) := by decide +kernel
theorem ad_Book_copyFrom_80 : decode prog_4_method_3_code 80 = .ok (.aload_n 1, 1) := by decide +kernel
theorem ad_Book_copyFrom_81 : decode prog_4_method_3_code 81 = .ok (.getfield 40, 3) := by decide +kernel
theorem ad_Book_copyFrom_84 : decode prog_4_method_3_code 84 = .ok (.invokevirtual 61, 3) := by decide +kernel
theorem ad_Book_copyFrom_87 : decode prog_4_method_3_code 87 = .ok (.return_, 1) := by decide +kernel
theorem ad_Book_addLine_0 : decode prog_4_method_4_code 0 = .ok (.aload_n 0, 1) := by decide +kernel
theorem ad_Book_addLine_1 : decode prog_4_method_4_code 1 = .ok (.getfield 9, 3) := by decide +kernel
theorem ad_Book_addLine_4 : decode prog_4_method_4_code 4 = .ok (.bipush 60, 2) := by decide +kernel
theorem ad_Book_addLine_6 : decode prog_4_method_4_code 6 = .ok (.if_icmp .ge 41, 3) := by decide +kernel
theorem ad_Book_addLine_9 : decode prog_4_method_4_code 9 = .ok (.aload_n 0, 1) := by decide +kernel
theorem ad_Book_addLine_10 : decode prog_4_method_4_code 10 = .ok (.getfield 24, 3) := by decide +kernel
theorem ad_Book_addLine_13 : decode prog_4_method_4_code 13 = .ok (.aload_n 0, 1) := by decide +kernel
theorem ad_Book_addLine_14 : decode prog_4_method_4_code 14 = .ok (.getfield 9, 3) := by decide +kernel
theorem ad_Book_addLine_17 : decode prog_4_method_4_code 17 = .ok (.iload_n 1, 1) := by decide +kernel
theorem ad_Book_addLine_18 : decode prog_4_method_4_code 18 = .ok (.iastore, 1) := by decide +kernel
theorem ad_Book_addLine_19 : decode prog_4_method_4_code 19 = .ok (.aload_n 0, 1) := by decide +kernel
theorem ad_Book_addLine_20 : decode prog_4_method_4_code 20 = .ok (.dup, 1) := by decide +kernel
theorem ad_Book_addLine_21 : decode prog_4_method_4_code 21 = .ok (.getfield 18, 3) := by decide +kernel
theorem ad_Book_addLine_24 : decode prog_4_method_4_code 24 = .ok (.iload_n 1, 1) := by decide +kernel
theorem ad_Book_addLine_25 : decode prog_4_method_4_code 25 = .ok (.ifCond .eq 7, 3) := by decide +kernel
theorem ad_Book_addLine_28 : decode prog_4_method_4_code 28 = .ok (.iconst 1, 1) := by decide +kernel
theorem ad_Book_addLine_29 : decode prog_4_method_4_code 29 = .ok (.goto 4, 3) := by decide +kernel
theorem ad_Book_addLine_32 : decode prog_4_method_4_code 32 = .ok (.iconst 0, 1) := by decide +kernel
theorem ad_Book_addLine_33 : decode prog_4_method_4_code 33 = .ok (.iadd, 1) := by decide +kernel
theorem ad_Book_addLine_34 : decode prog_4_method_4_code 34 = .ok (.putfield 18, 3) := by decide +kernel
theorem ad_Book_addLine_37 : decode prog_4_method_4_code 37 = .ok (.aload_n 0, 1) := by decide +kernel
theorem ad_Book_addLine_38 : decode prog_4_method_4_code 38 = .ok (.dup, 1) := by decide +kernel
theorem ad_Book_addLine_39 : decode prog_4_method_4_code 39 = .ok (.getfield 9, 3) := by decide +kernel
theorem ad_Book_addLine_42 : decode prog_4_method_4_code 42 = .ok (.iconst 1, 1) := by decide +kernel
theorem ad_Book_addLine_43 : decode prog_4_method_4_code 43 = .ok (.iadd, 1) := by decide +kernel
theorem ad_Book_addLine_44 : decode prog_4_method_4_code 44 = .ok (.putfield 9, 3) := by decide +kernel
theorem ad_Book_addLine_47 : decode prog_4_method_4_code 47 = .ok (.return_, 1) := by decide +kernel
theorem ad_Book_beginYear_0 : decode prog_4_method_5_code 0 = .ok (.aload_n 0, 1) := by decide +kernel
theorem ad_Book_beginYear_1 : decode prog_4_method_5_code 1 = .ok (.getfield 15, 3) := by decide +kernel
theorem ad_Book_beginYear_4 : decode prog_4_method_5_code 4 = .ok (.istore_n 3, 1) := by decide +kernel
theorem ad_Book_beginYear_5 : decode prog_4_method_5_code 5 = .ok (.iload_n 3, 1) := by decide +kernel
theorem ad_Book_beginYear_6 : decode prog_4_method_5_code 6 = .ok (.iload_n 2, 1) := by decide +kernel
theorem ad_Book_beginYear_7 : decode prog_4_method_5_code 7 = .ok (.if_icmp .ge 23, 3) := by decide +kernel
theorem ad_Book_beginYear_10 : decode prog_4_method_5_code 10 = .ok (.aload_n 0, 1) := by decide +kernel
theorem ad_Book_beginYear_11 : decode prog_4_method_5_code 11 = .ok (.aload_n 1, 1) := by decide +kernel
theorem ad_Book_beginYear_12 : decode prog_4_method_5_code 12 = .ok (.iload_n 3, 1) := by decide +kernel
theorem ad_Book_beginYear_13 : decode prog_4_method_5_code 13 = .ok (.invokevirtual 65, 3) := by decide +kernel
theorem ad_Book_beginYear_16 : decode prog_4_method_5_code 16 = .ok (.aload_n 0, 1) := by decide +kernel
theorem ad_Book_beginYear_17 : decode prog_4_method_5_code 17 = .ok (.getfield 44, 3) := by decide +kernel
theorem ad_Book_beginYear_20 : decode prog_4_method_5_code 20 = .ok (.iconst (-1), 1) := by decide +kernel
theorem ad_Book_beginYear_21 : decode prog_4_method_5_code 21 = .ok (.invokestatic 50, 3) := by decide +kernel
theorem ad_Book_beginYear_24 : decode prog_4_method_5_code 24 = .ok (.iinc 3 1, 3) := by decide +kernel
theorem ad_Book_beginYear_27 : decode prog_4_method_5_code 27 = .ok (.goto (-22), 3) := by decide +kernel
theorem ad_Book_beginYear_30 : decode prog_4_method_5_code 30 = .ok (.aload_n 0, 1) := by decide +kernel
theorem ad_Book_beginYear_31 : decode prog_4_method_5_code 31 = .ok (.iload_n 2, 1) := by decide +kernel
theorem ad_Book_beginYear_32 : decode prog_4_method_5_code 32 = .ok (.putfield 15, 3) := by decide +kernel
theorem ad_Book_beginYear_35 : decode prog_4_method_5_code 35 = .ok (.return_, 1) := by decide +kernel
theorem ad_Book_endYear_0 : decode prog_4_method_6_code 0 = .ok (.iconst 0, 1) := by decide +kernel
theorem ad_Book_endYear_1 : decode prog_4_method_6_code 1 = .ok (.istore_n 3, 1) := by decide +kernel
theorem ad_Book_endYear_2 : decode prog_4_method_6_code 2 = .ok (.iload_n 3, 1) := by decide +kernel
theorem ad_Book_endYear_3 : decode prog_4_method_6_code 3 = .ok (.aload_n 1, 1) := by decide +kernel
theorem ad_Book_endYear_4 : decode prog_4_method_6_code 4 = .ok (.getfield 69, 3) := by decide +kernel
theorem ad_Book_endYear_7 : decode prog_4_method_6_code 7 = .ok (.if_icmp .ge 89, 3) := by decide +kernel
theorem ad_Book_endYear_10 : decode prog_4_method_6_code 10 = .ok (.aload_n 0, 1) := by decide +kernel
theorem ad_Book_endYear_11 : decode prog_4_method_6_code 11 = .ok (.getfield 40, 3) := by decide +kernel
theorem ad_Book_endYear_14 : decode prog_4_method_6_code 14 = .ok (.getfield 74, 3) := by decide +kernel
theorem ad_Book_endYear_17 : decode prog_4_method_6_code 17 = .ok (.iload_n 3, 1) := by decide +kernel
theorem ad_Book_endYear_18 : decode prog_4_method_6_code 18 = .ok (.ishr, 1) := by decide +kernel
theorem ad_Book_endYear_19 : decode prog_4_method_6_code 19 = .ok (.iconst 1, 1) := by decide +kernel
theorem ad_Book_endYear_20 : decode prog_4_method_6_code 20 = .ok (.iand, 1) := by decide +kernel
theorem ad_Book_endYear_21 : decode prog_4_method_6_code 21 = .ok (.iconst 1, 1) := by decide +kernel
theorem ad_Book_endYear_22 : decode prog_4_method_6_code 22 = .ok (.if_icmp .ne 7, 3) := by decide +kernel
theorem ad_Book_endYear_25 : decode prog_4_method_6_code 25 = .ok (.iconst 1, 1) := by decide +kernel
theorem ad_Book_endYear_26 : decode prog_4_method_6_code 26 = .ok (.goto 4, 3) := by decide +kernel
theorem ad_Book_endYear_29 : decode prog_4_method_6_code 29 = .ok (.iconst 0, 1) := by decide +kernel
theorem ad_Book_endYear_30 : decode prog_4_method_6_code 30 = .ok (.istore 4, 2) := by decide +kernel
theorem ad_Book_endYear_32 : decode prog_4_method_6_code 32 = .ok (.iconst 0, 1) := by decide +kernel
theorem ad_Book_endYear_33 : decode prog_4_method_6_code 33 = .ok (.istore 5, 2) := by decide +kernel
theorem ad_Book_endYear_35 : decode prog_4_method_6_code 35 = .ok (.iload 4, 2) := by decide +kernel
theorem ad_Book_endYear_37 : decode prog_4_method_6_code 37 = .ok (.ifCond .eq 53, 3) := by decide +kernel
theorem ad_Book_endYear_40 : decode prog_4_method_6_code 40 = .ok (.iload 5, 2) := by decide +kernel
theorem ad_Book_endYear_42 : decode prog_4_method_6_code 42 = .ok (.aload_n 1, 1) := by decide +kernel
theorem ad_Book_endYear_43 : decode prog_4_method_6_code 43 = .ok (.getfield 77, 3) := by decide +kernel
theorem ad_Book_endYear_46 : decode prog_4_method_6_code 46 = .ok (.if_icmp .ge 44, 3) := by decide +kernel
theorem ad_Book_endYear_49 : decode prog_4_method_6_code 49 = .ok (.aload_n 0, 1) := by decide +kernel
theorem ad_Book_endYear_50 : decode prog_4_method_6_code 50 = .ok (.getfield 40, 3) := by decide +kernel
theorem ad_Book_endYear_53 : decode prog_4_method_6_code 53 = .ok (.iload_n 3, 1) := by decide +kernel
theorem ad_Book_endYear_54 : decode prog_4_method_6_code 54 = .ok (.iload 5, 2) := by decide +kernel
theorem ad_Book_endYear_56 : decode prog_4_method_6_code 56 = .ok (.iload_n 2, 1) := by decide +kernel
theorem ad_Book_endYear_57 : decode prog_4_method_6_code 57 = .ok (.invokevirtual 80, 3) := by decide +kernel
theorem ad_Book_endYear_60 : decode prog_4_method_6_code 60 = .ok (.ifCond .eq 24, 3) := by decide +kernel
theorem ad_Book_endYear_63 : decode prog_4_method_6_code 63 = .ok (.aload_n 0, 1) := by decide +kernel
theorem ad_Book_endYear_64 : decode prog_4_method_6_code 64 = .ok (.getfield 44, 3) := by decide +kernel
theorem ad_Book_endYear_67 : decode prog_4_method_6_code 67 = .ok (.iload 5, 2) := by decide +kernel
theorem ad_Book_endYear_69 : decode prog_4_method_6_code 69 = .ok (.iaload, 1) := by decide +kernel
theorem ad_Book_endYear_70 : decode prog_4_method_6_code 70 = .ok (.iload_n 3, 1) := by decide +kernel
theorem ad_Book_endYear_71 : decode prog_4_method_6_code 71 = .ok (.if_icmp .eq 13, 3) := by decide +kernel
theorem ad_Book_endYear_74 : decode prog_4_method_6_code 74 = .ok (.aload_n 0, 1) := by decide +kernel
theorem ad_Book_endYear_75 : decode prog_4_method_6_code 75 = .ok (.getfield 34, 3) := by decide +kernel
theorem ad_Book_endYear_78 : decode prog_4_method_6_code 78 = .ok (.iload_n 3, 1) := by decide +kernel
theorem ad_Book_endYear_79 : decode prog_4_method_6_code 79 = .ok (.dup2, 1) := by decide +kernel
theorem ad_Book_endYear_80 : decode prog_4_method_6_code 80 = .ok (.iaload, 1) := by decide +kernel
theorem ad_Book_endYear_81 : decode prog_4_method_6_code 81 = .ok (.iconst 1, 1) := by decide +kernel
theorem ad_Book_endYear_82 : decode prog_4_method_6_code 82 = .ok (.iadd, 1) := by decide +kernel
theorem ad_Book_endYear_83 : decode prog_4_method_6_code 83 = .ok (.iastore, 1) := by decide +kernel
theorem ad_Book_endYear_84 : decode prog_4_method_6_code 84 = .ok (.iinc 5 1, 3) := by decide +kernel
theorem ad_Book_endYear_87 : decode prog_4_method_6_code 87 = .ok (.goto (-52), 3) := by decide +kernel
theorem ad_Book_endYear_90 : decode prog_4_method_6_code 90 = .ok (.iinc 3 1, 3) := by decide +kernel
theorem ad_Book_endYear_93 : decode prog_4_method_6_code 93 = .ok (.goto (-91), 3) := by decide +kernel
theorem ad_Book_endYear_96 : decode prog_4_method_6_code 96 = .ok (.return_, 1) := by decide +kernel
theorem ad_Book_tellHelp_0 : decode prog_4_method_7_code 0 = .ok (.aload_n 1, 1) := by decide +kernel
theorem ad_Book_tellHelp_1 : decode prog_4_method_7_code 1 = .ok (.iload_n 3, 1) := by decide +kernel
theorem ad_Book_tellHelp_2 : decode prog_4_method_7_code 2 = .ok (.iload 4, 2) := by decide +kernel
theorem ad_Book_tellHelp_4 : decode prog_4_method_7_code 4 = .ok (.invokevirtual 84, 3) := by decide +kernel
theorem ad_Book_tellHelp_7 : decode prog_4_method_7_code 7 = .ok (.istore 6, 2) := by decide +kernel
theorem ad_Book_tellHelp_9 : decode prog_4_method_7_code 9 = .ok (.aload_n 1, 1) := by decide +kernel
theorem ad_Book_tellHelp_10 : decode prog_4_method_7_code 10 = .ok (.iload_n 2, 1) := by decide +kernel
theorem ad_Book_tellHelp_11 : decode prog_4_method_7_code 11 = .ok (.iload 4, 2) := by decide +kernel
theorem ad_Book_tellHelp_13 : decode prog_4_method_7_code 13 = .ok (.invokevirtual 88, 3) := by decide +kernel
theorem ad_Book_tellHelp_16 : decode prog_4_method_7_code 16 = .ok (.ifCond .ne 5, 3) := by decide +kernel
theorem ad_Book_tellHelp_19 : decode prog_4_method_7_code 19 = .ok (.iconst 1, 1) := by decide +kernel
theorem ad_Book_tellHelp_20 : decode prog_4_method_7_code 20 = .ok (.ireturn, 1) := by decide +kernel
theorem ad_Book_tellHelp_21 : decode prog_4_method_7_code 21 = .ok (.iload 6, 2) := by decide +kernel
theorem ad_Book_tellHelp_23 : decode prog_4_method_7_code 23 = .ok (.ifCond .ge 5, 3) := by decide +kernel
theorem ad_Book_tellHelp_26 : decode prog_4_method_7_code 26 = .ok (.iconst 2, 1) := by decide +kernel
theorem ad_Book_tellHelp_27 : decode prog_4_method_7_code 27 = .ok (.ireturn, 1) := by decide +kernel
theorem ad_Book_tellHelp_28 : decode prog_4_method_7_code 28 = .ok (.aload_n 0, 1) := by decide +kernel
theorem ad_Book_tellHelp_29 : decode prog_4_method_7_code 29 = .ok (.getfield 44, 3) := by decide +kernel
theorem ad_Book_tellHelp_32 : decode prog_4_method_7_code 32 = .ok (.iload 6, 2) := by decide +kernel
theorem ad_Book_tellHelp_34 : decode prog_4_method_7_code 34 = .ok (.iaload, 1) := by decide +kernel
theorem ad_Book_tellHelp_35 : decode prog_4_method_7_code 35 = .ok (.iconst (-1), 1) := by decide +kernel
theorem ad_Book_tellHelp_36 : decode prog_4_method_7_code 36 = .ok (.if_icmp .eq 5, 3) := by decide +kernel
theorem ad_Book_tellHelp_39 : decode prog_4_method_7_code 39 = .ok (.iconst 3, 1) := by decide +kernel
theorem ad_Book_tellHelp_40 : decode prog_4_method_7_code 40 = .ok (.ireturn, 1) := by decide +kernel
theorem ad_Book_tellHelp_41 : decode prog_4_method_7_code 41 = .ok (.aload_n 0, 1) := by decide +kernel
theorem ad_Book_tellHelp_42 : decode prog_4_method_7_code 42 = .ok (.getfield 44, 3) := by decide +kernel
theorem ad_Book_tellHelp_45 : decode prog_4_method_7_code 45 = .ok (.iload 6, 2) := by decide +kernel
theorem ad_Book_tellHelp_47 : decode prog_4_method_7_code 47 = .ok (.iload_n 2, 1) := by decide +kernel
theorem ad_Book_tellHelp_48 : decode prog_4_method_7_code 48 = .ok (.iastore, 1) := by decide +kernel
theorem ad_Book_tellHelp_49 : decode prog_4_method_7_code 49 = .ok (.aload_n 0, 1) := by decide +kernel
theorem ad_Book_tellHelp_50 : decode prog_4_method_7_code 50 = .ok (.getfield 31, 3) := by decide +kernel
theorem ad_Book_tellHelp_53 : decode prog_4_method_7_code 53 = .ok (.iload_n 2, 1) := by decide +kernel
theorem ad_Book_tellHelp_54 : decode prog_4_method_7_code 54 = .ok (.dup2, 1) := by decide +kernel
theorem ad_Book_tellHelp_55 : decode prog_4_method_7_code 55 = .ok (.iaload, 1) := by decide +kernel
theorem ad_Book_tellHelp_56 : decode prog_4_method_7_code 56 = .ok (.iconst 1, 1) := by decide +kernel
theorem ad_Book_tellHelp_57 : decode prog_4_method_7_code 57 = .ok (.iadd, 1) := by decide +kernel
theorem ad_Book_tellHelp_58 : decode prog_4_method_7_code 58 = .ok (.iastore, 1) := by decide +kernel
theorem ad_Book_tellHelp_59 : decode prog_4_method_7_code 59 = .ok (.aload_n 0, 1) := by decide +kernel
theorem ad_Book_tellHelp_60 : decode prog_4_method_7_code 60 = .ok (.getfield 28, 3) := by decide +kernel
theorem ad_Book_tellHelp_63 : decode prog_4_method_7_code 63 = .ok (.iload_n 2, 1) := by decide +kernel
theorem ad_Book_tellHelp_64 : decode prog_4_method_7_code 64 = .ok (.dup2, 1) := by decide +kernel
theorem ad_Book_tellHelp_65 : decode prog_4_method_7_code 65 = .ok (.iaload, 1) := by decide +kernel
theorem ad_Book_tellHelp_66 : decode prog_4_method_7_code 66 = .ok (.aload_n 1, 1) := by decide +kernel
theorem ad_Book_tellHelp_67 : decode prog_4_method_7_code 67 = .ok (.iload_n 2, 1) := by decide +kernel
theorem ad_Book_tellHelp_68 : decode prog_4_method_7_code 68 = .ok (.iload 4, 2) := by decide +kernel
theorem ad_Book_tellHelp_70 : decode prog_4_method_7_code 70 = .ok (.invokevirtual 92, 3) := by decide +kernel
theorem ad_Book_tellHelp_73 : decode prog_4_method_7_code 73 = .ok (.iload 5, 2) := by decide +kernel
theorem ad_Book_tellHelp_75 : decode prog_4_method_7_code 75 = .ok (.ifCond .eq 13, 3) := by decide +kernel
theorem ad_Book_tellHelp_78 : decode prog_4_method_7_code 78 = .ok (.aload_n 1, 1) := by decide +kernel
theorem ad_Book_tellHelp_79 : decode prog_4_method_7_code 79 = .ok (.getfield 95, 3) := by decide +kernel
theorem ad_Book_tellHelp_82 : decode prog_4_method_7_code 82 = .ok (.iload 4, 2) := by decide +kernel
theorem ad_Book_tellHelp_84 : decode prog_4_method_7_code 84 = .ok (.iaload, 1) := by decide +kernel
theorem ad_Book_tellHelp_85 : decode prog_4_method_7_code 85 = .ok (.goto 4, 3) := by decide +kernel
theorem ad_Book_tellHelp_88 : decode prog_4_method_7_code 88 = .ok (.iconst 0, 1) := by decide +kernel
theorem ad_Book_tellHelp_89 : decode prog_4_method_7_code 89 = .ok (.iadd, 1) := by decide +kernel
theorem ad_Book_tellHelp_90 : decode prog_4_method_7_code 90 = .ok (.isub, 1) := by decide +kernel
theorem ad_Book_tellHelp_91 : decode prog_4_method_7_code 91 = .ok (.iastore, 1) := by decide +kernel
theorem ad_Book_tellHelp_92 : decode prog_4_method_7_code 92 = .ok (.aload_n 0, 1) := by decide +kernel
theorem ad_Book_tellHelp_93 : decode prog_4_method_7_code 93 = .ok (.getfield 28, 3) := by decide +kernel
theorem ad_Book_tellHelp_96 : decode prog_4_method_7_code 96 = .ok (.iload_n 3, 1) := by decide +kernel
theorem ad_Book_tellHelp_97 : decode prog_4_method_7_code 97 = .ok (.dup2, 1) := by decide +kernel
theorem ad_Book_tellHelp_98 : decode prog_4_method_7_code 98 = .ok (.iaload, 1) := by decide +kernel
theorem ad_Book_tellHelp_99 : decode prog_4_method_7_code 99 = .ok (.aload_n 1, 1) := by decide +kernel
theorem ad_Book_tellHelp_100 : decode prog_4_method_7_code 100 = .ok (.getfield 98, 3) := by decide +kernel
theorem ad_Book_tellHelp_103 : decode prog_4_method_7_code 103 = .ok (.iload 4, 2) := by decide +kernel
theorem ad_Book_tellHelp_105 : decode prog_4_method_7_code 105 = .ok (.iaload, 1) := by decide +kernel
theorem ad_Book_tellHelp_106 : decode prog_4_method_7_code 106 = .ok (.iadd, 1) := by decide +kernel
theorem ad_Book_tellHelp_107 : decode prog_4_method_7_code 107 = .ok (.iastore, 1) := by decide +kernel
theorem ad_Book_tellHelp_108 : decode prog_4_method_7_code 108 = .ok (.iconst 0, 1) := by decide +kernel
theorem ad_Book_tellHelp_109 : decode prog_4_method_7_code 109 = .ok (.ireturn, 1) := by decide +kernel
theorem ad_Book_tellThanks_0 : decode prog_4_method_8_code 0 = .ok (.aload_n 1, 1) := by decide +kernel
theorem ad_Book_tellThanks_1 : decode prog_4_method_8_code 1 = .ok (.iload_n 2, 1) := by decide +kernel
theorem ad_Book_tellThanks_2 : decode prog_4_method_8_code 2 = .ok (.iload 4, 2) := by decide +kernel
theorem ad_Book_tellThanks_4 : decode prog_4_method_8_code 4 = .ok (.invokevirtual 84, 3) := by decide +kernel
theorem ad_Book_tellThanks_7 : decode prog_4_method_8_code 7 = .ok (.istore 5, 2) := by decide +kernel
theorem ad_Book_tellThanks_9 : decode prog_4_method_8_code 9 = .ok (.iload 5, 2) := by decide +kernel
theorem ad_Book_tellThanks_11 : decode prog_4_method_8_code 11 = .ok (.ifCond .lt 14, 3) := by decide +kernel
theorem ad_Book_tellThanks_14 : decode prog_4_method_8_code 14 = .ok (.aload_n 0, 1) := by decide +kernel
theorem ad_Book_tellThanks_15 : decode prog_4_method_8_code 15 = .ok (.getfield 44, 3) := by decide +kernel
theorem ad_Book_tellThanks_18 : decode prog_4_method_8_code 18 = .ok (.iload 5, 2) := by decide +kernel
theorem ad_Book_tellThanks_20 : decode prog_4_method_8_code 20 = .ok (.iaload, 1) := by decide +kernel
theorem ad_Book_tellThanks_21 : decode prog_4_method_8_code 21 = .ok (.iconst (-1), 1) := by decide +kernel
theorem ad_Book_tellThanks_22 : decode prog_4_method_8_code 22 = .ok (.if_icmp .ne 5, 3) := by decide +kernel
theorem ad_Book_tellThanks_25 : decode prog_4_method_8_code 25 = .ok (.iconst 4, 1) := by decide +kernel
theorem ad_Book_tellThanks_26 : decode prog_4_method_8_code 26 = .ok (.ireturn, 1) := by decide +kernel
theorem ad_Book_tellThanks_27 : decode prog_4_method_8_code 27 = .ok (.aload_n 1, 1) := by decide +kernel
theorem ad_Book_tellThanks_28 : decode prog_4_method_8_code 28 = .ok (.iload_n 3, 1) := by decide +kernel
theorem ad_Book_tellThanks_29 : decode prog_4_method_8_code 29 = .ok (.iload 4, 2) := by decide +kernel
theorem ad_Book_tellThanks_31 : decode prog_4_method_8_code 31 = .ok (.invokevirtual 88, 3) := by decide +kernel
theorem ad_Book_tellThanks_34 : decode prog_4_method_8_code 34 = .ok (.ifCond .ne 5, 3) := by decide +kernel
theorem ad_Book_tellThanks_37 : decode prog_4_method_8_code 37 = .ok (.iconst 5, 1) := by decide +kernel
theorem ad_Book_tellThanks_38 : decode prog_4_method_8_code 38 = .ok (.ireturn, 1) := by decide +kernel
theorem ad_Book_tellThanks_39 : decode prog_4_method_8_code 39 = .ok (.aload_n 0, 1) := by decide +kernel
theorem ad_Book_tellThanks_40 : decode prog_4_method_8_code 40 = .ok (.getfield 40, 3) := by decide +kernel
theorem ad_Book_tellThanks_43 : decode prog_4_method_8_code 43 = .ok (.aload_n 1, 1) := by decide +kernel
theorem ad_Book_tellThanks_44 : decode prog_4_method_8_code 44 = .ok (.iload_n 3, 1) := by decide +kernel
theorem ad_Book_tellThanks_45 : decode prog_4_method_8_code 45 = .ok (.iload 5, 2) := by decide +kernel
theorem ad_Book_tellThanks_47 : decode prog_4_method_8_code 47 = .ok (.aload_n 0, 1) := by decide +kernel
theorem ad_Book_tellThanks_48 : decode prog_4_method_8_code 48 = .ok (.getfield 15, 3) := by decide +kernel
theorem ad_Book_tellThanks_51 : decode prog_4_method_8_code 51 = .ok (.invokevirtual 101, 3) := by decide +kernel
theorem ad_Book_tellThanks_54 : decode prog_4_method_8_code 54 = .ok (.ifCond .eq 6, 3) := by decide +kernel
theorem ad_Book_tellThanks_57 : decode prog_4_method_8_code 57 = .ok (.bipush 7, 2) := by decide +kernel
theorem ad_Book_tellThanks_59 : decode prog_4_method_8_code 59 = .ok (.ireturn, 1) := by decide +kernel
theorem ad_Book_tellThanks_60 : decode prog_4_method_8_code 60 = .ok (.aload_n 0, 1) := by decide +kernel
theorem ad_Book_tellThanks_61 : decode prog_4_method_8_code 61 = .ok (.getfield 40, 3) := by decide +kernel
theorem ad_Book_tellThanks_64 : decode prog_4_method_8_code 64 = .ok (.iload_n 3, 1) := by decide +kernel
theorem ad_Book_tellThanks_65 : decode prog_4_method_8_code 65 = .ok (.iload 5, 2) := by decide +kernel
theorem ad_Book_tellThanks_67 : decode prog_4_method_8_code 67 = .ok (.aload_n 0, 1) := by decide +kernel
theorem ad_Book_tellThanks_68 : decode prog_4_method_8_code 68 = .ok (.getfield 15, 3) := by decide +kernel
theorem ad_Book_tellThanks_71 : decode prog_4_method_8_code 71 = .ok (.aload_n 1, 1) := by decide +kernel
theorem ad_Book_tellThanks_72 : decode prog_4_method_8_code 72 = .ok (.getfield 105, 3) := by decide +kernel
theorem ad_Book_tellThanks_75 : decode prog_4_method_8_code 75 = .ok (.invokevirtual 108, 3) := by decide +kernel
theorem ad_Book_tellThanks_78 : decode prog_4_method_8_code 78 = .ok (.aload_n 0, 1) := by decide +kernel
theorem ad_Book_tellThanks_79 : decode prog_4_method_8_code 79 = .ok (.dup, 1) := by decide +kernel
theorem ad_Book_tellThanks_80 : decode prog_4_method_8_code 80 = .ok (.getfield 21, 3) := by decide +kernel
theorem ad_Book_tellThanks_83 : decode prog_4_method_8_code 83 = .ok (.aload_n 0, 1) := by decide +kernel
theorem ad_Book_tellThanks_84 : decode prog_4_method_8_code 84 = .ok (.getfield 44, 3) := by decide +kernel
theorem ad_Book_tellThanks_87 : decode prog_4_method_8_code 87 = .ok (.iload 5, 2) := by decide +kernel
theorem ad_Book_tellThanks_89 : decode prog_4_method_8_code 89 = .ok (.iaload, 1) := by decide +kernel
theorem ad_Book_tellThanks_90 : decode prog_4_method_8_code 90 = .ok (.iload_n 3, 1) := by decide +kernel
theorem ad_Book_tellThanks_91 : decode prog_4_method_8_code 91 = .ok (.if_icmp .eq 7, 3) := by decide +kernel
theorem ad_Book_tellThanks_94 : decode prog_4_method_8_code 94 = .ok (.iconst 1, 1) := by decide +kernel
theorem ad_Book_tellThanks_95 : decode prog_4_method_8_code 95 = .ok (.goto 4, 3) := by decide +kernel
theorem ad_Book_tellThanks_98 : decode prog_4_method_8_code 98 = .ok (.iconst 0, 1) := by decide +kernel
theorem ad_Book_tellThanks_99 : decode prog_4_method_8_code 99 = .ok (.iadd, 1) := by decide +kernel
theorem ad_Book_tellThanks_100 : decode prog_4_method_8_code 100 = .ok (.putfield 21, 3) := by decide +kernel
theorem ad_Book_tellThanks_103 : decode prog_4_method_8_code 103 = .ok (.iconst 0, 1) := by decide +kernel
theorem ad_Book_tellThanks_104 : decode prog_4_method_8_code 104 = .ok (.ireturn, 1) := by decide +kernel
theorem ad_Book_tellLeaving_0 : decode prog_4_method_9_code 0 = .ok (.aload_n 1, 1) := by decide +kernel
theorem ad_Book_tellLeaving_1 : decode prog_4_method_9_code 1 = .ok (.iload_n 3, 1) := by decide +kernel
theorem ad_Book_tellLeaving_2 : decode prog_4_method_9_code 2 = .ok (.iload 4, 2) := by decide +kernel
theorem ad_Book_tellLeaving_4 : decode prog_4_method_9_code 4 = .ok (.invokevirtual 84, 3) := by decide +kernel
theorem ad_Book_tellLeaving_7 : decode prog_4_method_9_code 7 = .ok (.istore 5, 2) := by decide +kernel
theorem ad_Book_tellLeaving_9 : decode prog_4_method_9_code 9 = .ok (.iload 5, 2) := by decide +kernel
theorem ad_Book_tellLeaving_11 : decode prog_4_method_9_code 11 = .ok (.ifCond .lt 20, 3) := by decide +kernel
theorem ad_Book_tellLeaving_14 : decode prog_4_method_9_code 14 = .ok (.aload_n 0, 1) := by decide +kernel
theorem ad_Book_tellLeaving_15 : decode prog_4_method_9_code 15 = .ok (.getfield 40, 3) := by decide +kernel
theorem ad_Book_tellLeaving_18 : decode prog_4_method_9_code 18 = .ok (.iload_n 2, 1) := by decide +kernel
theorem ad_Book_tellLeaving_19 : decode prog_4_method_9_code 19 = .ok (.iload 5, 2) := by decide +kernel
theorem ad_Book_tellLeaving_21 : decode prog_4_method_9_code 21 = .ok (.invokevirtual 112, 3) := by decide +kernel
theorem ad_Book_tellLeaving_24 : decode prog_4_method_9_code 24 = .ok (.aload_n 0, 1) := by decide +kernel
theorem ad_Book_tellLeaving_25 : decode prog_4_method_9_code 25 = .ok (.getfield 15, 3) := by decide +kernel
theorem ad_Book_tellLeaving_28 : decode prog_4_method_9_code 28 = .ok (.if_icmp .ge 6, 3) := by decide +kernel
theorem ad_Book_tellLeaving_31 : decode prog_4_method_9_code 31 = .ok (.bipush 6, 2) := by decide +kernel
theorem ad_Book_tellLeaving_33 : decode prog_4_method_9_code 33 = .ok (.ireturn, 1) := by decide +kernel
theorem ad_Book_tellLeaving_34 : decode prog_4_method_9_code 34 = .ok (.aload_n 0, 1) := by decide +kernel
theorem ad_Book_tellLeaving_35 : decode prog_4_method_9_code 35 = .ok (.getfield 40, 3) := by decide +kernel
theorem ad_Book_tellLeaving_38 : decode prog_4_method_9_code 38 = .ok (.iload_n 2, 1) := by decide +kernel
theorem ad_Book_tellLeaving_39 : decode prog_4_method_9_code 39 = .ok (.iload 5, 2) := by decide +kernel
theorem ad_Book_tellLeaving_41 : decode prog_4_method_9_code 41 = .ok (.invokevirtual 115, 3) := by decide +kernel
theorem ad_Book_tellLeaving_44 : decode prog_4_method_9_code 44 = .ok (.aload_n 0, 1) := by decide +kernel
theorem ad_Book_tellLeaving_45 : decode prog_4_method_9_code 45 = .ok (.getfield 28, 3) := by decide +kernel
theorem ad_Book_tellLeaving_48 : decode prog_4_method_9_code 48 = .ok (.iload_n 2, 1) := by decide +kernel
theorem ad_Book_tellLeaving_49 : decode prog_4_method_9_code 49 = .ok (.dup2, 1) := by decide +kernel
theorem ad_Book_tellLeaving_50 : decode prog_4_method_9_code 50 = .ok (.iaload, 1) := by decide +kernel
theorem ad_Book_tellLeaving_51 : decode prog_4_method_9_code 51 = .ok (.aload_n 1, 1) := by decide +kernel
theorem ad_Book_tellLeaving_52 : decode prog_4_method_9_code 52 = .ok (.getfield 119, 3) := by decide +kernel
theorem ad_Book_tellLeaving_55 : decode prog_4_method_9_code 55 = .ok (.isub, 1) := by decide +kernel
theorem ad_Book_tellLeaving_56 : decode prog_4_method_9_code 56 = .ok (.iastore, 1) := by decide +kernel
theorem ad_Book_tellLeaving_57 : decode prog_4_method_9_code 57 = .ok (.iconst 0, 1) := by decide +kernel
theorem ad_Book_tellLeaving_58 : decode prog_4_method_9_code 58 = .ok (.ireturn, 1) := by decide +kernel
theorem ad_Book_yearsBehind_0 : decode prog_4_method_10_code 0 = .ok (.iconst 0, 1) := by decide +kernel
theorem ad_Book_yearsBehind_1 : decode prog_4_method_10_code 1 = .ok (.aload_n 0, 1) := by decide +kernel
theorem ad_Book_yearsBehind_2 : decode prog_4_method_10_code 2 = .ok (.getfield 40, 3) := by decide +kernel
theorem ad_Book_yearsBehind_5 : decode prog_4_method_10_code 5 = .ok (.iload_n 1, 1) := by decide +kernel
theorem ad_Book_yearsBehind_6 : decode prog_4_method_10_code 6 = .ok (.iload_n 2, 1) := by decide +kernel
theorem ad_Book_yearsBehind_7 : decode prog_4_method_10_code 7 = .ok (.invokevirtual 112, 3) := by decide +kernel
theorem ad_Book_yearsBehind_10 : decode prog_4_method_10_code 10 = .ok (.aload_n 0, 1) := by decide +kernel
theorem ad_Book_yearsBehind_11 : decode prog_4_method_10_code 11 = .ok (.getfield 15, 3) := by decide +kernel
theorem ad_Book_yearsBehind_14 : decode prog_4_method_10_code 14 = .ok (.isub, 1) := by decide +kernel
theorem ad_Book_yearsBehind_15 : decode prog_4_method_10_code 15 = .ok (.invokestatic 122, 3) := by decide +kernel
theorem ad_Book_yearsBehind_18 : decode prog_4_method_10_code 18 = .ok (.ireturn, 1) := by decide +kernel
theorem ad_Book_felt_0 : decode prog_4_method_11_code 0 = .ok (.aload_n 0, 1) := by decide +kernel
theorem ad_Book_felt_1 : decode prog_4_method_11_code 1 = .ok (.getfield 28, 3) := by decide +kernel
theorem ad_Book_felt_4 : decode prog_4_method_11_code 4 = .ok (.iload_n 2, 1) := by decide +kernel
theorem ad_Book_felt_5 : decode prog_4_method_11_code 5 = .ok (.iaload, 1) := by decide +kernel
theorem ad_Book_felt_6 : decode prog_4_method_11_code 6 = .ok (.istore_n 3, 1) := by decide +kernel
theorem ad_Book_felt_7 : decode prog_4_method_11_code 7 = .ok (.iconst 0, 1) := by decide +kernel
theorem ad_Book_felt_8 : decode prog_4_method_11_code 8 = .ok (.istore 4, 2) := by decide +kernel
theorem ad_Book_felt_10 : decode prog_4_method_11_code 10 = .ok (.iload 4, 2) := by decide +kernel
theorem ad_Book_felt_12 : decode prog_4_method_11_code 12 = .ok (.aload_n 1, 1) := by decide +kernel
theorem ad_Book_felt_13 : decode prog_4_method_11_code 13 = .ok (.getfield 69, 3) := by decide +kernel
theorem ad_Book_felt_16 : decode prog_4_method_11_code 16 = .ok (.if_icmp .ge 30, 3) := by decide +kernel
theorem ad_Book_felt_19 : decode prog_4_method_11_code 19 = .ok (.iload_n 3, 1) := by decide +kernel
theorem ad_Book_felt_20 : decode prog_4_method_11_code 20 = .ok (.aload_n 1, 1) := by decide +kernel
theorem ad_Book_felt_21 : decode prog_4_method_11_code 21 = .ok (.iload_n 2, 1) := by decide +kernel
theorem ad_Book_felt_22 : decode prog_4_method_11_code 22 = .ok (.iload 4, 2) := by decide +kernel
theorem ad_Book_felt_24 : decode prog_4_method_11_code 24 = .ok (.invokevirtual 127, 3) := by decide +kernel
theorem ad_Book_felt_27 : decode prog_4_method_11_code 27 = .ok (.aload_n 0, 1) := by decide +kernel
theorem ad_Book_felt_28 : decode prog_4_method_11_code 28 = .ok (.getfield 28, 3) := by decide +kernel
theorem ad_Book_felt_31 : decode prog_4_method_11_code 31 = .ok (.iload 4, 2) := by decide +kernel
theorem ad_Book_felt_33 : decode prog_4_method_11_code 33 = .ok (.iaload, 1) := by decide +kernel
theorem ad_Book_felt_34 : decode prog_4_method_11_code 34 = .ok (.imul, 1) := by decide +kernel
theorem ad_Book_felt_35 : decode prog_4_method_11_code 35 = .ok (.bipush 10, 2) := by decide +kernel
theorem ad_Book_felt_37 : decode prog_4_method_11_code 37 = .ok (.idiv, 1) := by decide +kernel
theorem ad_Book_felt_38 : decode prog_4_method_11_code 38 = .ok (.iadd, 1) := by decide +kernel
theorem ad_Book_felt_39 : decode prog_4_method_11_code 39 = .ok (.istore_n 3, 1) := by decide +kernel
theorem ad_Book_felt_40 : decode prog_4_method_11_code 40 = .ok (.iinc 4 1, 3) := by decide +kernel
theorem ad_Book_felt_43 : decode prog_4_method_11_code 43 = .ok (.goto (-33), 3) := by decide +kernel
theorem ad_Book_felt_46 : decode prog_4_method_11_code 46 = .ok (.iload_n 3, 1) := by decide +kernel
theorem ad_Book_felt_47 : decode prog_4_method_11_code 47 = .ok (.ireturn, 1) := by decide +kernel
theorem ad_Book_figure_0 : decode prog_4_method_12_code 0 = .ok (.aload_n 1, 1) := by decide +kernel
theorem ad_Book_figure_1 : decode prog_4_method_12_code 1 = .ok (.iload_n 2, 1) := by decide +kernel
theorem ad_Book_figure_2 : decode prog_4_method_12_code 2 = .ok (.invokevirtual 130, 3) := by decide +kernel
theorem ad_Book_figure_5 : decode prog_4_method_12_code 5 = .ok (.ifCond .ne 5, 3) := by decide +kernel
theorem ad_Book_figure_8 : decode prog_4_method_12_code 8 = .ok (.iconst 0, 1) := by decide +kernel
theorem ad_Book_figure_9 : decode prog_4_method_12_code 9 = .ok (.ireturn, 1) := by decide +kernel
theorem ad_Book_figure_10 : decode prog_4_method_12_code 10 = .ok (.iload_n 3, 1) := by decide +kernel
theorem ad_Book_figure_11 : decode prog_4_method_12_code 11 = .ok (.tableswitch 65 0 3 #[29, 36, 43, 50], 29) := by decide +kernel
theorem ad_Book_figure_40 : decode prog_4_method_12_code 40 = .ok (.aload_n 0, 1) := by decide +kernel
theorem ad_Book_figure_41 : decode prog_4_method_12_code 41 = .ok (.getfield 28, 3) := by decide +kernel
theorem ad_Book_figure_44 : decode prog_4_method_12_code 44 = .ok (.iload_n 2, 1) := by decide +kernel
theorem ad_Book_figure_45 : decode prog_4_method_12_code 45 = .ok (.iaload, 1) := by decide +kernel
theorem ad_Book_figure_46 : decode prog_4_method_12_code 46 = .ok (.ireturn, 1) := by decide +kernel
theorem ad_Book_figure_47 : decode prog_4_method_12_code 47 = .ok (.aload_n 0, 1) := by decide +kernel
theorem ad_Book_figure_48 : decode prog_4_method_12_code 48 = .ok (.aload_n 1, 1) := by decide +kernel
theorem ad_Book_figure_49 : decode prog_4_method_12_code 49 = .ok (.iload_n 2, 1) := by decide +kernel
theorem ad_Book_figure_50 : decode prog_4_method_12_code 50 = .ok (.invokevirtual 134, 3) := by decide +kernel
theorem ad_Book_figure_53 : decode prog_4_method_12_code 53 = .ok (.ireturn, 1) := by decide +kernel
theorem ad_Book_figure_54 : decode prog_4_method_12_code 54 = .ok (.aload_n 0, 1) := by decide +kernel
theorem ad_Book_figure_55 : decode prog_4_method_12_code 55 = .ok (.getfield 31, 3) := by decide +kernel
theorem ad_Book_figure_58 : decode prog_4_method_12_code 58 = .ok (.iload_n 2, 1) := by decide +kernel
theorem ad_Book_figure_59 : decode prog_4_method_12_code 59 = .ok (.iaload, 1) := by decide +kernel
theorem ad_Book_figure_60 : decode prog_4_method_12_code 60 = .ok (.ireturn, 1) := by decide +kernel
theorem ad_Book_figure_61 : decode prog_4_method_12_code 61 = .ok (.aload_n 0, 1) := by decide +kernel
theorem ad_Book_figure_62 : decode prog_4_method_12_code 62 = .ok (.getfield 40, 3) := by decide +kernel
theorem ad_Book_figure_65 : decode prog_4_method_12_code 65 = .ok (.iload_n 2, 1) := by decide +kernel
theorem ad_Book_figure_66 : decode prog_4_method_12_code 66 = .ok (.aload_n 0, 1) := by decide +kernel
theorem ad_Book_figure_67 : decode prog_4_method_12_code 67 = .ok (.getfield 15, 3) := by decide +kernel
theorem ad_Book_figure_70 : decode prog_4_method_12_code 70 = .ok (.iconst 1, 1) := by decide +kernel
theorem ad_Book_figure_71 : decode prog_4_method_12_code 71 = .ok (.iadd, 1) := by decide +kernel
theorem ad_Book_figure_72 : decode prog_4_method_12_code 72 = .ok (.invokevirtual 138, 3) := by decide +kernel
theorem ad_Book_figure_75 : decode prog_4_method_12_code 75 = .ok (.ireturn, 1) := by decide +kernel
theorem ad_Book_figure_76 : decode prog_4_method_12_code 76 = .ok (.aload_n 0, 1) := by decide +kernel
theorem ad_Book_figure_77 : decode prog_4_method_12_code 77 = .ok (.getfield 34, 3) := by decide +kernel
theorem ad_Book_figure_80 : decode prog_4_method_12_code 80 = .ok (.iload_n 2, 1) := by decide +kernel
theorem ad_Book_figure_81 : decode prog_4_method_12_code 81 = .ok (.iaload, 1) := by decide +kernel
theorem ad_Book_figure_82 : decode prog_4_method_12_code 82 = .ok (.ireturn, 1) := by decide +kernel
theorem ad_BookText_readAll_0 : decode prog_5_method_2_code 0 = .ok (.aload_n 0, 1) := by decide +kernel
theorem ad_BookText_readAll_1 : decode prog_5_method_2_code 1 = .ok (.getfield 12, 3) := by decide +kernel
theorem ad_BookText_readAll_4 : decode prog_5_method_2_code 4 = .ok (.aload_n 1, 1) := by decide +kernel
theorem ad_BookText_readAll_5 : decode prog_5_method_2_code 5 = .ok (.iload_n 2, 1) := by decide +kernel
theorem ad_BookText_readAll_6 : decode prog_5_method_2_code 6 = .ok (.sipush 700, 3) := by decide +kernel
theorem ad_BookText_readAll_9 : decode prog_5_method_2_code 9 = .ok (.invokevirtual 45, 3) := by decide +kernel
theorem ad_BookText_readAll_12 : decode prog_5_method_2_code 12 = .ok (.aload_n 0, 1) := by decide +kernel
theorem ad_BookText_readAll_13 : decode prog_5_method_2_code 13 = .ok (.getfield 21, 3) := by decide +kernel
theorem ad_BookText_readAll_16 : decode prog_5_method_2_code 16 = .ok (.invokevirtual 49, 3) := by decide +kernel
theorem ad_BookText_readAll_19 : decode prog_5_method_2_code 19 = .ok (.iconst 0, 1) := by decide +kernel
theorem ad_BookText_readAll_20 : decode prog_5_method_2_code 20 = .ok (.istore 4, 2) := by decide +kernel
theorem ad_BookText_readAll_22 : decode prog_5_method_2_code 22 = .ok (.iload 4, 2) := by decide +kernel
theorem ad_BookText_readAll_24 : decode prog_5_method_2_code 24 = .ok (.sipush 1000, 3) := by decide +kernel
theorem ad_BookText_readAll_27 : decode prog_5_method_2_code 27 = .ok (.if_icmp .ge 55, 3) := by decide +kernel
theorem ad_BookText_readAll_30 : decode prog_5_method_2_code 30 = .ok (.aload_n 0, 1) := by decide +kernel
theorem ad_BookText_readAll_31 : decode prog_5_method_2_code 31 = .ok (.getfield 12, 3) := by decide +kernel
theorem ad_BookText_readAll_34 : decode prog_5_method_2_code 34 = .ok (.getfield 52, 3) := by decide +kernel
theorem ad_BookText_readAll_37 : decode prog_5_method_2_code 37 = .ok (.bipush 32, 2) := by decide +kernel
theorem ad_BookText_readAll_39 : decode prog_5_method_2_code 39 = .ok (.if_icmp .eq 43, 3) := by decide +kernel
theorem ad_BookText_readAll_42 : decode prog_5_method_2_code 42 = .ok (.aload_n 0, 1) := by decide +kernel
theorem ad_BookText_readAll_43 : decode prog_5_method_2_code 43 = .ok (.aload_n 3, 1) := by decide +kernel
theorem ad_BookText_readAll_44 : decode prog_5_method_2_code 44 = .ok (.invokevirtual 55, 3) := by decide +kernel
theorem ad_BookText_readAll_47 : decode prog_5_method_2_code 47 = .ok (.ifCond .eq 15, 3) := by decide +kernel
theorem ad_BookText_readAll_50 : decode prog_5_method_2_code 50 = .ok (.aload_n 0, 1) := by decide +kernel
theorem ad_BookText_readAll_51 : decode prog_5_method_2_code 51 = .ok (.getfield 12, 3) := by decide +kernel
theorem ad_BookText_readAll_54 : decode prog_5_method_2_code 54 = .ok (.bipush 26, 2) := by decide +kernel
theorem ad_BookText_readAll_56 : decode prog_5_method_2_code 56 = .ok (.invokevirtual 59, 3) := by decide +kernel
theorem ad_BookText_readAll_59 : decode prog_5_method_2_code 59 = .ok (.ifCond .ne 5, 3) := by decide +kernel
theorem ad_BookText_readAll_62 : decode prog_5_method_2_code 62 = .ok (.iconst 0, 1) := by decide +kernel
theorem ad_BookText_readAll_63 : decode prog_5_method_2_code 63 = .ok (.ireturn, 1) := by decide +kernel
theorem ad_BookText_readAll_64 : decode prog_5_method_2_code 64 = .ok (.aload_n 0, 1) := by decide +kernel
theorem ad_BookText_readAll_65 : decode prog_5_method_2_code 65 = .ok (.getfield 21, 3) := by decide +kernel
theorem ad_BookText_readAll_68 : decode prog_5_method_2_code 68 = .ok (.aload_n 0, 1) := by decide +kernel
theorem ad_BookText_readAll_69 : decode prog_5_method_2_code 69 = .ok (.aload_n 3, 1) := by decide +kernel
theorem ad_BookText_readAll_70 : decode prog_5_method_2_code 70 = .ok (.invokevirtual 63, 3) := by decide +kernel
theorem ad_BookText_readAll_73 : decode prog_5_method_2_code 73 = .ok (.invokevirtual 67, 3) := by decide +kernel
theorem ad_BookText_readAll_76 : decode prog_5_method_2_code 76 = .ok (.iinc 4 1, 3) := by decide +kernel
theorem ad_BookText_readAll_79 : decode prog_5_method_2_code 79 = .ok (.goto (-57), 3) := by decide +kernel
theorem ad_BookText_readAll_82 : decode prog_5_method_2_code 82 = .ok (.aload_n 0, 1) := by decide +kernel
theorem ad_BookText_readAll_83 : decode prog_5_method_2_code 83 = .ok (.getfield 21, 3) := by decide +kernel
theorem ad_BookText_readAll_86 : decode prog_5_method_2_code 86 = .ok (.aload_n 3, 1) := by decide +kernel
theorem ad_BookText_readAll_87 : decode prog_5_method_2_code 87 = .ok (.aload_n 0, 1) := by decide +kernel
theorem ad_BookText_readAll_88 : decode prog_5_method_2_code 88 = .ok (.getfield 21, 3) := by decide +kernel
theorem ad_BookText_readAll_91 : decode prog_5_method_2_code 91 = .ok (.getfield 71, 3) := by decide +kernel
theorem ad_BookText_readAll_94 : decode prog_5_method_2_code 94 = .ok (.invokevirtual 74, 3) := by decide +kernel
theorem ad_BookText_readAll_97 : decode prog_5_method_2_code 97 = .ok (.iconst 1, 1) := by decide +kernel
theorem ad_BookText_readAll_98 : decode prog_5_method_2_code 98 = .ok (.ireturn, 1) := by decide +kernel
theorem ad_BookText_readLine_0 : decode prog_5_method_3_code 0 = .ok (.aload_n 0, 1) := by decide +kernel
theorem ad_BookText_readLine_1 : decode prog_5_method_3_code 1 = .ok (.getfield 12, 3) := by decide +kernel
theorem ad_BookText_readLine_4 : decode prog_5_method_3_code 4 = .ok (.getfield 52, 3) := by decide +kernel
theorem ad_BookText_readLine_7 : decode prog_5_method_3_code 7 = .ok (.bipush 9, 2) := by decide +kernel
theorem ad_BookText_readLine_9 : decode prog_5_method_3_code 9 = .ok (.if_icmp .ne 7, 3) := by decide +kernel
theorem ad_BookText_readLine_12 : decode prog_5_method_3_code 12 = .ok (.iconst 1, 1) := by decide +kernel
theorem ad_BookText_readLine_13 : decode prog_5_method_3_code 13 = .ok (.goto 4, 3) := by decide +kernel
theorem ad_BookText_readLine_16 : decode prog_5_method_3_code 16 = .ok (.iconst 0, 1) := by decide +kernel
theorem ad_BookText_readLine_17 : decode prog_5_method_3_code 17 = .ok (.istore_n 2, 1) := by decide +kernel
theorem ad_BookText_readLine_18 : decode prog_5_method_3_code 18 = .ok (.aload_n 0, 1) := by decide +kernel
theorem ad_BookText_readLine_19 : decode prog_5_method_3_code 19 = .ok (.iload_n 2, 1) := by decide +kernel
theorem ad_BookText_readLine_20 : decode prog_5_method_3_code 20 = .ok (.ifCond .eq 7, 3) := by decide +kernel
theorem ad_BookText_readLine_23 : decode prog_5_method_3_code 23 = .ok (.iconst (-1), 1) := by decide +kernel
theorem ad_BookText_readLine_24 : decode prog_5_method_3_code 24 = .ok (.goto 11, 3) := by decide +kernel
theorem ad_BookText_readLine_27 : decode prog_5_method_3_code 27 = .ok (.aload_n 1, 1) := by decide +kernel
theorem ad_BookText_readLine_28 : decode prog_5_method_3_code 28 = .ok (.aload_n 0, 1) := by decide +kernel
theorem ad_BookText_readLine_29 : decode prog_5_method_3_code 29 = .ok (.getfield 12, 3) := by decide +kernel
theorem ad_BookText_readLine_32 : decode prog_5_method_3_code 32 = .ok (.invokevirtual 78, 3) := by decide +kernel
theorem ad_BookText_readLine_35 : decode prog_5_method_3_code 35 = .ok (.putfield 32, 3) := by decide +kernel
theorem ad_BookText_readLine_38 : decode prog_5_method_3_code 38 = .ok (.iload_n 2, 1) := by decide +kernel
theorem ad_BookText_readLine_39 : decode prog_5_method_3_code 39 = .ok (.ifCond .ne 12, 3) := by decide +kernel
theorem ad_BookText_readLine_42 : decode prog_5_method_3_code 42 = .ok (.aload_n 0, 1) := by decide +kernel
theorem ad_BookText_readLine_43 : decode prog_5_method_3_code 43 = .ok (.getfield 32, 3) := by decide +kernel
theorem ad_BookText_readLine_46 : decode prog_5_method_3_code 46 = .ok (.ifCond .ge 5, 3) := by decide +kernel
theorem ad_BookText_readLine_49 : decode prog_5_method_3_code 49 = .ok (.iconst 0, 1) := by decide +kernel
theorem ad_BookText_readLine_50 : decode prog_5_method_3_code 50 = .ok (.ireturn, 1) := by decide +kernel
theorem ad_BookText_readLine_51 : decode prog_5_method_3_code 51 = .ok (.aload_n 0, 1) := by decide +kernel
theorem ad_BookText_readLine_52 : decode prog_5_method_3_code 52 = .ok (.getfield 21, 3) := by decide +kernel
theorem ad_BookText_readLine_55 : decode prog_5_method_3_code 55 = .ok (.getfield 84, 3) := by decide +kernel
theorem ad_BookText_readLine_58 : decode prog_5_method_3_code 58 = .ok (.bipush 60, 2) := by decide +kernel
theorem ad_BookText_readLine_60 : decode prog_5_method_3_code 60 = .ok (.if_icmp .lt 12, 3) := by decide +kernel
theorem ad_BookText_readLine_63 : decode prog_5_method_3_code 63 = .ok (.aload_n 0, 1) := by decide +kernel
theorem ad_BookText_readLine_64 : decode prog_5_method_3_code 64 = .ok (.getfield 12, 3) := by decide +kernel
theorem ad_BookText_readLine_67 : decode prog_5_method_3_code 67 = .ok (.iconst 4, 1) := by decide +kernel
theorem ad_BookText_readLine_68 : decode prog_5_method_3_code 68 = .ok (.invokevirtual 87, 3) := by decide +kernel
theorem ad_BookText_readLine_71 : decode prog_5_method_3_code 71 = .ok (.ireturn, 1) := by decide +kernel
theorem ad_BookText_readLine_72 : decode prog_5_method_3_code 72 = .ok (.aload_n 0, 1) := by decide +kernel
theorem ad_BookText_readLine_73 : decode prog_5_method_3_code 73 = .ok (.getfield 12, 3) := by decide +kernel
theorem ad_BookText_readLine_76 : decode prog_5_method_3_code 76 = .ok (.invokevirtual 90, 3) := by decide +kernel
theorem ad_BookText_readLine_79 : decode prog_5_method_3_code 79 = .ok (.iload_n 2, 1) := by decide +kernel
theorem ad_BookText_readLine_80 : decode prog_5_method_3_code 80 = .ok (.ifCond .eq 10, 3) := by decide +kernel
theorem ad_BookText_readLine_83 : decode prog_5_method_3_code 83 = .ok (.aload_n 0, 1) := by decide +kernel
theorem ad_BookText_readLine_84 : decode prog_5_method_3_code 84 = .ok (.invokevirtual 93, 3) := by decide +kernel
theorem ad_BookText_readLine_87 : decode prog_5_method_3_code 87 = .ok (.goto 8, 3) := by decide +kernel
theorem ad_BookText_readLine_90 : decode prog_5_method_3_code 90 = .ok (.aload_n 0, 1) := by decide +kernel
theorem ad_BookText_readLine_91 : decode prog_5_method_3_code 91 = .ok (.aload_n 1, 1) := by decide +kernel
theorem ad_BookText_readLine_92 : decode prog_5_method_3_code 92 = .ok (.invokevirtual 97, 3) := by decide +kernel
theorem ad_BookText_readLine_95 : decode prog_5_method_3_code 95 = .ok (.ireturn, 1) := by decide +kernel
theorem ad_BookText_readYear_0 : decode prog_5_method_4_code 0 = .ok (.aload_n 0, 1) := by decide +kernel
theorem ad_BookText_readYear_1 : decode prog_5_method_4_code 1 = .ok (.getfield 21, 3) := by decide +kernel
theorem ad_BookText_readYear_4 : decode prog_5_method_4_code 4 = .ok (.getfield 84, 3) := by decide +kernel
theorem ad_BookText_readYear_7 : decode prog_5_method_4_code 7 = .ok (.ifCond .ne 7, 3) := by decide +kernel
theorem ad_BookText_readYear_10 : decode prog_5_method_4_code 10 = .ok (.iconst 0, 1) := by decide +kernel
theorem ad_BookText_readYear_11 : decode prog_5_method_4_code 11 = .ok (.goto 12, 3) := by decide +kernel
theorem ad_BookText_readYear_14 : decode prog_5_method_4_code 14 = .ok (.aload_n 0, 1) := by decide +kernel
theorem ad_BookText_readYear_15 : decode prog_5_method_4_code 15 = .ok (.getfield 21, 3) := by decide +kernel
theorem ad_BookText_readYear_18 : decode prog_5_method_4_code 18 = .ok (.getfield 71, 3) := by decide +kernel
theorem ad_BookText_readYear_21 : decode prog_5_method_4_code 21 = .ok (.iconst 1, 1) := by decide +kernel
theorem ad_BookText_readYear_22 : decode prog_5_method_4_code 22 = .ok (.iadd, 1) := by decide +kernel
theorem ad_BookText_readYear_23 : decode prog_5_method_4_code 23 = .ok (.istore_n 1, 1) := by decide +kernel
theorem ad_BookText_readYear_24 : decode prog_5_method_4_code 24 = .ok (.aload_n 0, 1) := by decide +kernel
theorem ad_BookText_readYear_25 : decode prog_5_method_4_code 25 = .ok (.getfield 12, 3) := by decide +kernel
theorem ad_BookText_readYear_28 : decode prog_5_method_4_code 28 = .ok (.iload_n 1, 1) := by decide +kernel
theorem ad_BookText_readYear_29 : decode prog_5_method_4_code 29 = .ok (.bipush 99, 2) := by decide +kernel
theorem ad_BookText_readYear_31 : decode prog_5_method_4_code 31 = .ok (.invokevirtual 100, 3) := by decide +kernel
theorem ad_BookText_readYear_34 : decode prog_5_method_4_code 34 = .ok (.ifCond .ne 5, 3) := by decide +kernel
theorem ad_BookText_readYear_37 : decode prog_5_method_4_code 37 = .ok (.iconst 0, 1) := by decide +kernel
theorem ad_BookText_readYear_38 : decode prog_5_method_4_code 38 = .ok (.ireturn, 1) := by decide +kernel
theorem ad_BookText_readYear_39 : decode prog_5_method_4_code 39 = .ok (.aload_n 0, 1) := by decide +kernel
theorem ad_BookText_readYear_40 : decode prog_5_method_4_code 40 = .ok (.bipush 9, 2) := by decide +kernel
theorem ad_BookText_readYear_42 : decode prog_5_method_4_code 42 = .ok (.putfield 25, 3) := by decide +kernel
theorem ad_BookText_readYear_45 : decode prog_5_method_4_code 45 = .ok (.aload_n 0, 1) := by decide +kernel
theorem ad_BookText_readYear_46 : decode prog_5_method_4_code 46 = .ok (.aload_n 0, 1) := by decide +kernel
theorem ad_BookText_readYear_47 : decode prog_5_method_4_code 47 = .ok (.getfield 12, 3) := by decide +kernel
theorem ad_BookText_readYear_50 : decode prog_5_method_4_code 50 = .ok (.getfield 104, 3) := by decide +kernel
theorem ad_BookText_readYear_53 : decode prog_5_method_4_code 53 = .ok (.putfield 29, 3) := by decide +kernel
theorem ad_BookText_readYear_56 : decode prog_5_method_4_code 56 = .ok (.iconst 1, 1) := by decide +kernel
theorem ad_BookText_readYear_57 : decode prog_5_method_4_code 57 = .ok (.ireturn, 1) := by decide +kernel
theorem ad_BookText_readDeed_0 : decode prog_5_method_5_code 0 = .ok (.aload_n 0, 1) := by decide +kernel
theorem ad_BookText_readDeed_1 : decode prog_5_method_5_code 1 = .ok (.aload_n 0, 1) := by decide +kernel
theorem ad_BookText_readDeed_2 : decode prog_5_method_5_code 2 = .ok (.getfield 12, 3) := by decide +kernel
theorem ad_BookText_readDeed_5 : decode prog_5_method_5_code 5 = .ok (.getfield 52, 3) := by decide +kernel
theorem ad_BookText_readDeed_8 : decode prog_5_method_5_code 8 = .ok (.putfield 25, 3) := by decide +kernel
theorem ad_BookText_readDeed_11 : decode prog_5_method_5_code 11 = .ok (.aload_n 0, 1) := by decide +kernel
theorem ad_BookText_readDeed_12 : decode prog_5_method_5_code 12 = .ok (.getfield 25, 3) := by decide +kernel
theorem ad_BookText_readDeed_15 : decode prog_5_method_5_code 15 = .ok (.bipush 10, 2) := by decide +kernel
theorem ad_BookText_readDeed_17 : decode prog_5_method_5_code 17 = .ok (.if_icmp .eq 30, 3) := by decide +kernel
theorem ad_BookText_readDeed_20 : decode prog_5_method_5_code 20 = .ok (.aload_n 0, 1) := by decide +kernel
theorem ad_BookText_readDeed_21 : decode prog_5_method_5_code 21 = .ok (.getfield 25, 3) := by decide +kernel
theorem ad_BookText_readDeed_24 : decode prog_5_method_5_code 24 = .ok (.bipush 12, 2) := by decide +kernel
theorem ad_BookText_readDeed_26 : decode prog_5_method_5_code 26 = .ok (.if_icmp .eq 21, 3) := by decide +kernel
theorem ad_BookText_readDeed_29 : decode prog_5_method_5_code 29 = .ok (.aload_n 0, 1) := by decide +kernel
theorem ad_BookText_readDeed_30 : decode prog_5_method_5_code 30 = .ok (.getfield 25, 3) := by decide +kernel
theorem ad_BookText_readDeed_33 : decode prog_5_method_5_code 33 = .ok (.bipush 13, 2) := by decide +kernel
theorem ad_BookText_readDeed_35 : decode prog_5_method_5_code 35 = .ok (.if_icmp .eq 12, 3) := by decide +kernel
theorem ad_BookText_readDeed_38 : decode prog_5_method_5_code 38 = .ok (.aload_n 0, 1) := by decide +kernel
theorem ad_BookText_readDeed_39 : decode prog_5_method_5_code 39 = .ok (.getfield 12, 3) := by decide +kernel
theorem ad_BookText_readDeed_42 : decode prog_5_method_5_code 42 = .ok (.iconst 1, 1) := by decide +kernel
theorem ad_BookText_readDeed_43 : decode prog_5_method_5_code 43 = .ok (.invokevirtual 87, 3) := by decide +kernel
theorem ad_BookText_readDeed_46 : decode prog_5_method_5_code 46 = .ok (.ireturn, 1) := by decide +kernel
theorem ad_BookText_readDeed_47 : decode prog_5_method_5_code 47 = .ok (.aload_n 0, 1) := by decide +kernel
theorem ad_BookText_readDeed_48 : decode prog_5_method_5_code 48 = .ok (.getfield 12, 3) := by decide +kernel
theorem ad_BookText_readDeed_51 : decode prog_5_method_5_code 51 = .ok (.invokevirtual 90, 3) := by decide +kernel
theorem ad_BookText_readDeed_54 : decode prog_5_method_5_code 54 = .ok (.aload_n 0, 1) := by decide +kernel
theorem ad_BookText_readDeed_55 : decode prog_5_method_5_code 55 = .ok (.aload_n 1, 1) := by decide +kernel
theorem ad_BookText_readDeed_56 : decode prog_5_method_5_code 56 = .ok (.aload_n 0, 1) := by decide +kernel
theorem ad_BookText_readDeed_57 : decode prog_5_method_5_code 57 = .ok (.getfield 12, 3) := by decide +kernel
theorem ad_BookText_readDeed_60 : decode prog_5_method_5_code 60 = .ok (.invokevirtual 78, 3) := by decide +kernel
theorem ad_BookText_readDeed_63 : decode prog_5_method_5_code 63 = .ok (.putfield 35, 3) := by decide +kernel
theorem ad_BookText_readDeed_66 : decode prog_5_method_5_code 66 = .ok (.aload_n 0, 1) := by decide +kernel
theorem ad_BookText_readDeed_67 : decode prog_5_method_5_code 67 = .ok (.getfield 35, 3) := by decide +kernel
theorem ad_BookText_readDeed_70 : decode prog_5_method_5_code 70 = .ok (.ifCond .ge 5, 3) := by decide +kernel
theorem ad_BookText_readDeed_73 : decode prog_5_method_5_code 73 = .ok (.iconst 0, 1) := by decide +kernel
theorem ad_BookText_readDeed_74 : decode prog_5_method_5_code 74 = .ok (.ireturn, 1) := by decide +kernel
theorem ad_BookText_readDeed_75 : decode prog_5_method_5_code 75 = .ok (.aload_n 0, 1) := by decide +kernel
theorem ad_BookText_readDeed_76 : decode prog_5_method_5_code 76 = .ok (.getfield 35, 3) := by decide +kernel
theorem ad_BookText_readDeed_79 : decode prog_5_method_5_code 79 = .ok (.aload_n 0, 1) := by decide +kernel
theorem ad_BookText_readDeed_80 : decode prog_5_method_5_code 80 = .ok (.getfield 32, 3) := by decide +kernel
theorem ad_BookText_readDeed_83 : decode prog_5_method_5_code 83 = .ok (.if_icmp .ne 12, 3) := by decide +kernel
theorem ad_BookText_readDeed_86 : decode prog_5_method_5_code 86 = .ok (.aload_n 0, 1) := by decide +kernel
theorem ad_BookText_readDeed_87 : decode prog_5_method_5_code 87 = .ok (.getfield 12, 3) := by decide +kernel
theorem ad_BookText_readDeed_90 : decode prog_5_method_5_code 90 = .ok (.iconst 3, 1) := by decide +kernel
theorem ad_BookText_readDeed_91 : decode prog_5_method_5_code 91 = .ok (.invokevirtual 87, 3) := by decide +kernel
theorem ad_BookText_readDeed_94 : decode prog_5_method_5_code 94 = .ok (.ireturn, 1) := by decide +kernel
theorem ad_BookText_readDeed_95 : decode prog_5_method_5_code 95 = .ok (.aload_n 0, 1) := by decide +kernel
theorem ad_BookText_readDeed_96 : decode prog_5_method_5_code 96 = .ok (.getfield 12, 3) := by decide +kernel
theorem ad_BookText_readDeed_99 : decode prog_5_method_5_code 99 = .ok (.invokevirtual 90, 3) := by decide +kernel
theorem ad_BookText_readDeed_102 : decode prog_5_method_5_code 102 = .ok (.aload_n 0, 1) := by decide +kernel
theorem ad_BookText_readDeed_103 : decode prog_5_method_5_code 103 = .ok (.aload_n 1, 1) := by decide +kernel
theorem ad_BookText_readDeed_104 : decode prog_5_method_5_code 104 = .ok (.aload_n 0, 1) := by decide +kernel
theorem ad_BookText_readDeed_105 : decode prog_5_method_5_code 105 = .ok (.getfield 12, 3) := by decide +kernel
theorem ad_BookText_readDeed_108 : decode prog_5_method_5_code 108 = .ok (.invokevirtual 107, 3) := by decide +kernel
theorem ad_BookText_readDeed_111 : decode prog_5_method_5_code 111 = .ok (.putfield 38, 3) := by decide +kernel
theorem ad_BookText_readDeed_114 : decode prog_5_method_5_code 114 = .ok (.aload_n 0, 1) := by decide +kernel
theorem ad_BookText_readDeed_115 : decode prog_5_method_5_code 115 = .ok (.getfield 38, 3) := by decide +kernel
theorem ad_BookText_readDeed_118 : decode prog_5_method_5_code 118 = .ok (.ifCond .ge 5, 3) := by decide +kernel
theorem ad_BookText_readDeed_121 : decode prog_5_method_5_code 121 = .ok (.iconst 0, 1) := by decide +kernel
theorem ad_BookText_readDeed_122 : decode prog_5_method_5_code 122 = .ok (.ireturn, 1) := by decide +kernel
theorem ad_BookText_readDeed_123 : decode prog_5_method_5_code 123 = .ok (.aload_n 0, 1) := by decide +kernel
theorem ad_BookText_readDeed_124 : decode prog_5_method_5_code 124 = .ok (.getfield 12, 3) := by decide +kernel
theorem ad_BookText_readDeed_127 : decode prog_5_method_5_code 127 = .ok (.invokevirtual 90, 3) := by decide +kernel
theorem ad_BookText_readDeed_130 : decode prog_5_method_5_code 130 = .ok (.aload_n 0, 1) := by decide +kernel
theorem ad_BookText_readDeed_131 : decode prog_5_method_5_code 131 = .ok (.aload_n 0, 1) := by decide +kernel
theorem ad_BookText_readDeed_132 : decode prog_5_method_5_code 132 = .ok (.getfield 25, 3) := by decide +kernel
theorem ad_BookText_readDeed_135 : decode prog_5_method_5_code 135 = .ok (.bipush 10, 2) := by decide +kernel
theorem ad_BookText_readDeed_137 : decode prog_5_method_5_code 137 = .ok (.if_icmp .ne 19, 3) := by decide +kernel
theorem ad_BookText_readDeed_140 : decode prog_5_method_5_code 140 = .ok (.aload_n 0, 1) := by decide +kernel
theorem ad_BookText_readDeed_141 : decode prog_5_method_5_code 141 = .ok (.getfield 12, 3) := by decide +kernel
theorem ad_BookText_readDeed_144 : decode prog_5_method_5_code 144 = .ok (.getfield 52, 3) := by decide +kernel
theorem ad_BookText_readDeed_147 : decode prog_5_method_5_code 147 = .ok (.bipush 11, 2) := by decide +kernel
theorem ad_BookText_readDeed_149 : decode prog_5_method_5_code 149 = .ok (.if_icmp .ne 7, 3) := by decide +kernel
theorem ad_BookText_readDeed_152 : decode prog_5_method_5_code 152 = .ok (.iconst 1, 1) := by decide +kernel
theorem ad_BookText_readDeed_153 : decode prog_5_method_5_code 153 = .ok (.goto 4, 3) := by decide +kernel
theorem ad_BookText_readDeed_156 : decode prog_5_method_5_code 156 = .ok (.iconst 0, 1) := by decide +kernel
theorem ad_BookText_readDeed_157 : decode prog_5_method_5_code 157 = .ok (.putfield 41, 3) := by decide +kernel
theorem ad_BookText_readDeed_160 : decode prog_5_method_5_code 160 = .ok (.aload_n 0, 1) := by decide +kernel
theorem ad_BookText_readDeed_161 : decode prog_5_method_5_code 161 = .ok (.getfield 41, 3) := by decide +kernel
theorem ad_BookText_readDeed_164 : decode prog_5_method_5_code 164 = .ok (.ifCond .eq 10, 3) := by decide +kernel
theorem ad_BookText_readDeed_167 : decode prog_5_method_5_code 167 = .ok (.aload_n 0, 1) := by decide +kernel
theorem ad_BookText_readDeed_168 : decode prog_5_method_5_code 168 = .ok (.getfield 12, 3) := by decide +kernel
theorem ad_BookText_readDeed_171 : decode prog_5_method_5_code 171 = .ok (.invokevirtual 90, 3) := by decide +kernel
theorem ad_BookText_readDeed_174 : decode prog_5_method_5_code 174 = .ok (.iconst 1, 1) := by decide +kernel
theorem ad_BookText_readDeed_175 : decode prog_5_method_5_code 175 = .ok (.ireturn, 1) := by decide +kernel
theorem ad_BookText_judgeLine_0 : decode prog_5_method_6_code 0 = .ok (.aload_n 0, 1) := by decide +kernel
theorem ad_BookText_judgeLine_1 : decode prog_5_method_6_code 1 = .ok (.getfield 25, 3) := by decide +kernel
theorem ad_BookText_judgeLine_4 : decode prog_5_method_6_code 4 = .ok (.tableswitch 99 10 13 #[32, 99, 57, 78], 32) := by decide +kernel
theorem ad_BookText_judgeLine_36 : decode prog_5_method_6_code 36 = .ok (.aload_n 0, 1) := by decide +kernel
theorem ad_BookText_judgeLine_37 : decode prog_5_method_6_code 37 = .ok (.getfield 21, 3) := by decide +kernel
theorem ad_BookText_judgeLine_40 : decode prog_5_method_6_code 40 = .ok (.aload_n 1, 1) := by decide +kernel
theorem ad_BookText_judgeLine_41 : decode prog_5_method_6_code 41 = .ok (.aload_n 0, 1) := by decide +kernel
theorem ad_BookText_judgeLine_42 : decode prog_5_method_6_code 42 = .ok (.getfield 32, 3) := by decide +kernel
theorem ad_BookText_judgeLine_45 : decode prog_5_method_6_code 45 = .ok (.aload_n 0, 1) := by decide +kernel
theorem ad_BookText_judgeLine_46 : decode prog_5_method_6_code 46 = .ok (.getfield 35, 3) := by decide +kernel
theorem ad_BookText_judgeLine_49 : decode prog_5_method_6_code 49 = .ok (.aload_n 0, 1) := by decide +kernel
theorem ad_BookText_judgeLine_50 : decode prog_5_method_6_code 50 = .ok (.getfield 38, 3) := by decide +kernel
theorem ad_BookText_judgeLine_53 : decode prog_5_method_6_code 53 = .ok (.aload_n 0, 1) := by decide +kernel
theorem ad_BookText_judgeLine_54 : decode prog_5_method_6_code 54 = .ok (.getfield 41, 3) := by decide +kernel
theorem ad_BookText_judgeLine_57 : decode prog_5_method_6_code 57 = .ok (.invokevirtual 110, 3) := by decide +kernel
theorem ad_BookText_judgeLine_60 : decode prog_5_method_6_code 60 = .ok (.ireturn, 1) := by decide +kernel
theorem ad_BookText_judgeLine_61 : decode prog_5_method_6_code 61 = .ok (.aload_n 0, 1) := by decide +kernel
theorem ad_BookText_judgeLine_62 : decode prog_5_method_6_code 62 = .ok (.getfield 21, 3) := by decide +kernel
theorem ad_BookText_judgeLine_65 : decode prog_5_method_6_code 65 = .ok (.aload_n 1, 1) := by decide +kernel
theorem ad_BookText_judgeLine_66 : decode prog_5_method_6_code 66 = .ok (.aload_n 0, 1) := by decide +kernel
theorem ad_BookText_judgeLine_67 : decode prog_5_method_6_code 67 = .ok (.getfield 32, 3) := by decide +kernel
theorem ad_BookText_judgeLine_70 : decode prog_5_method_6_code 70 = .ok (.aload_n 0, 1) := by decide +kernel
theorem ad_BookText_judgeLine_71 : decode prog_5_method_6_code 71 = .ok (.getfield 35, 3) := by decide +kernel
theorem ad_BookText_judgeLine_74 : decode prog_5_method_6_code 74 = .ok (.aload_n 0, 1) := by decide +kernel
theorem ad_BookText_judgeLine_75 : decode prog_5_method_6_code 75 = .ok (.getfield 38, 3) := by decide +kernel
theorem ad_BookText_judgeLine_78 : decode prog_5_method_6_code 78 = .ok (.invokevirtual 114, 3) := by decide +kernel
theorem ad_BookText_judgeLine_81 : decode prog_5_method_6_code 81 = .ok (.ireturn, 1) := by decide +kernel
theorem ad_BookText_judgeLine_82 : decode prog_5_method_6_code 82 = .ok (.aload_n 0, 1) := by decide +kernel
theorem ad_BookText_judgeLine_83 : decode prog_5_method_6_code 83 = .ok (.getfield 21, 3) := by decide +kernel
theorem ad_BookText_judgeLine_86 : decode prog_5_method_6_code 86 = .ok (.aload_n 1, 1) := by decide +kernel
theorem ad_BookText_judgeLine_87 : decode prog_5_method_6_code 87 = .ok (.aload_n 0, 1) := by decide +kernel
theorem ad_BookText_judgeLine_88 : decode prog_5_method_6_code 88 = .ok (.getfield 32, 3) := by decide +kernel
theorem ad_BookText_judgeLine_91 : decode prog_5_method_6_code 91 = .ok (.aload_n 0, 1) := by decide +kernel
theorem ad_BookText_judgeLine_92 : decode prog_5_method_6_code 92 = .ok (.getfield 35, 3) := by decide +kernel
theorem ad_BookText_judgeLine_95 : decode prog_5_method_6_code 95 = .ok (.aload_n 0, 1) := by decide +kernel
theorem ad_BookText_judgeLine_96 : decode prog_5_method_6_code 96 = .ok (.getfield 38, 3) := by decide +kernel
theorem ad_BookText_judgeLine_99 : decode prog_5_method_6_code 99 = .ok (.invokevirtual 118, 3) := by decide +kernel
theorem ad_BookText_judgeLine_102 : decode prog_5_method_6_code 102 = .ok (.ireturn, 1) := by decide +kernel
theorem ad_BookText_judgeLine_103 : decode prog_5_method_6_code 103 = .ok (.aload_n 0, 1) := by decide +kernel
theorem ad_BookText_judgeLine_104 : decode prog_5_method_6_code 104 = .ok (.getfield 21, 3) := by decide +kernel
theorem ad_BookText_judgeLine_107 : decode prog_5_method_6_code 107 = .ok (.aload_n 1, 1) := by decide +kernel
theorem ad_BookText_judgeLine_108 : decode prog_5_method_6_code 108 = .ok (.aload_n 0, 1) := by decide +kernel
theorem ad_BookText_judgeLine_109 : decode prog_5_method_6_code 109 = .ok (.getfield 29, 3) := by decide +kernel
theorem ad_BookText_judgeLine_112 : decode prog_5_method_6_code 112 = .ok (.invokevirtual 121, 3) := by decide +kernel
theorem ad_BookText_judgeLine_115 : decode prog_5_method_6_code 115 = .ok (.iconst 0, 1) := by decide +kernel
theorem ad_BookText_judgeLine_116 : decode prog_5_method_6_code 116 = .ok (.ireturn, 1) := by decide +kernel
theorem ad_Left_solve_0 : decode prog_6_method_2_code 0 = .ok (.aload_n 0, 1) := by decide +kernel
theorem ad_Left_solve_1 : decode prog_6_method_2_code 1 = .ok (.aload_n 1, 1) := by decide +kernel
theorem ad_Left_solve_2 : decode prog_6_method_2_code 2 = .ok (.getfield 46, 3) := by decide +kernel
theorem ad_Left_solve_5 : decode prog_6_method_2_code 5 = .ok (.putfield 9, 3) := by decide +kernel
theorem ad_Left_solve_8 : decode prog_6_method_2_code 8 = .ok (.aload_n 0, 1) := by decide +kernel
theorem ad_Left_solve_9 : decode prog_6_method_2_code 9 = .ok (.iload_n 2, 1) := by decide +kernel
theorem ad_Left_solve_10 : decode prog_6_method_2_code 10 = .ok (.putfield 19, 3) := by decide +kernel
theorem ad_Left_solve_13 : decode prog_6_method_2_code 13 = .ok (.aload_n 0, 1) := by decide +kernel
theorem ad_Left_solve_14 : decode prog_6_method_2_code 14 = .ok (.getfield 15, 3) := by decide +kernel
theorem ad_Left_solve_17 : decode prog_6_method_2_code 17 = .ok (.iconst (-1), 1) := by decide +kernel
theorem ad_Left_solve_18 : decode prog_6_method_2_code 18 = .ok (.invokestatic 49, 3) := by decide +kernel
theorem ad_Left_solve_21 : decode prog_6_method_2_code 21 = .ok (.aload_n 0, 1) := by decide +kernel
theorem ad_Left_solve_22 : decode prog_6_method_2_code 22 = .ok (.getfield 25, 3) := by decide +kernel
theorem ad_Left_solve_25 : decode prog_6_method_2_code 25 = .ok (.iconst 0, 1) := by decide +kernel
theorem ad_Left_solve_26 : decode prog_6_method_2_code 26 = .ok (.invokestatic 49, 3) := by decide +kernel
theorem ad_Left_solve_29 : decode prog_6_method_2_code 29 = .ok (.iconst 0, 1) := by decide +kernel
theorem ad_Left_solve_30 : decode prog_6_method_2_code 30 = .ok (.istore_n 3, 1) := by decide +kernel
theorem ad_Left_solve_31 : decode prog_6_method_2_code 31 = .ok (.iload_n 3, 1) := by decide +kernel
theorem ad_Left_solve_32 : decode prog_6_method_2_code 32 = .ok (.aload_n 0, 1) := by decide +kernel
theorem ad_Left_solve_33 : decode prog_6_method_2_code 33 = .ok (.getfield 9, 3) := by decide +kernel
theorem ad_Left_solve_36 : decode prog_6_method_2_code 36 = .ok (.if_icmp .ge 67, 3) := by decide +kernel
theorem ad_Left_solve_39 : decode prog_6_method_2_code 39 = .ok (.iload_n 3, 1) := by decide +kernel
theorem ad_Left_solve_40 : decode prog_6_method_2_code 40 = .ok (.bipush 48, 2) := by decide +kernel
theorem ad_Left_solve_42 : decode prog_6_method_2_code 42 = .ok (.if_icmp .ge 61, 3) := by decide +kernel
theorem ad_Left_solve_45 : decode prog_6_method_2_code 45 = .ok (.aload_n 0, 1) := by decide +kernel
theorem ad_Left_solve_46 : decode prog_6_method_2_code 46 = .ok (.getfield 22, 3) := by decide +kernel
theorem ad_Left_solve_49 : decode prog_6_method_2_code 49 = .ok (.iload_n 3, 1) := by decide +kernel
theorem ad_Left_solve_50 : decode prog_6_method_2_code 50 = .ok (.iconst 0, 1) := by decide +kernel
theorem ad_Left_solve_51 : decode prog_6_method_2_code 51 = .ok (.iastore, 1) := by decide +kernel
theorem ad_Left_solve_52 : decode prog_6_method_2_code 52 = .ok (.iconst 0, 1) := by decide +kernel
theorem ad_Left_solve_53 : decode prog_6_method_2_code 53 = .ok (.istore 4, 2) := by decide +kernel
theorem ad_Left_solve_55 : decode prog_6_method_2_code 55 = .ok (.iload 4, 2) := by decide +kernel
theorem ad_Left_solve_57 : decode prog_6_method_2_code 57 = .ok (.aload_n 1, 1) := by decide +kernel
theorem ad_Left_solve_58 : decode prog_6_method_2_code 58 = .ok (.getfield 55, 3) := by decide +kernel
theorem ad_Left_solve_61 : decode prog_6_method_2_code 61 = .ok (.if_icmp .ge 36, 3) := by decide +kernel
theorem ad_Left_solve_64 : decode prog_6_method_2_code 64 = .ok (.aload_n 0, 1) := by decide +kernel
theorem ad_Left_solve_65 : decode prog_6_method_2_code 65 = .ok (.getfield 22, 3) := by decide +kernel
theorem ad_Left_solve_68 : decode prog_6_method_2_code 68 = .ok (.iload_n 3, 1) := by decide +kernel
theorem ad_Left_solve_69 : decode prog_6_method_2_code 69 = .ok (.dup2, 1) := by decide +kernel
theorem ad_Left_solve_70 : decode prog_6_method_2_code 70 = .ok (.iaload, 1) := by decide +kernel
theorem ad_Left_solve_71 : decode prog_6_method_2_code 71 = .ok (.aload_n 1, 1) := by decide +kernel
theorem ad_Left_solve_72 : decode prog_6_method_2_code 72 = .ok (.iload 4, 2) := by decide +kernel
theorem ad_Left_solve_74 : decode prog_6_method_2_code 74 = .ok (.iload_n 3, 1) := by decide +kernel
theorem ad_Left_solve_75 : decode prog_6_method_2_code 75 = .ok (.invokevirtual 58, 3) := by decide +kernel
theorem ad_Left_solve_78 : decode prog_6_method_2_code 78 = .ok (.ifCond .eq 10, 3) := by decide +kernel
theorem ad_Left_solve_81 : decode prog_6_method_2_code 81 = .ok (.iconst 1, 1) := by decide +kernel
theorem ad_Left_solve_82 : decode prog_6_method_2_code 82 = .ok (.iload 4, 2) := by decide +kernel
theorem ad_Left_solve_84 : decode prog_6_method_2_code 84 = .ok (.ishl, 1) := by decide +kernel
theorem ad_Left_solve_85 : decode prog_6_method_2_code 85 = .ok (.goto 4, 3) := by decide +kernel
theorem ad_Left_solve_88 : decode prog_6_method_2_code 88 = .ok (.iconst 0, 1) := by decide +kernel
theorem ad_Left_solve_89 : decode prog_6_method_2_code 89 = .ok (.ior, 1) := by decide +kernel
theorem ad_Left_solve_90 : decode prog_6_method_2_code 90 = .ok (.iastore, 1) := by decide +kernel
theorem ad_Left_solve_91 : decode prog_6_method_2_code 91 = .ok (.iinc 4 1, 3) := by decide +kernel
theorem ad_Left_solve_94 : decode prog_6_method_2_code 94 = .ok (.goto (-39), 3) := by decide +kernel
theorem ad_Left_solve_97 : decode prog_6_method_2_code 97 = .ok (.iinc 3 1, 3) := by decide +kernel
theorem ad_Left_solve_100 : decode prog_6_method_2_code 100 = .ok (.goto (-69), 3) := by decide +kernel
theorem ad_Left_solve_103 : decode prog_6_method_2_code 103 = .ok (.iconst 0, 1) := by decide +kernel
theorem ad_Left_solve_104 : decode prog_6_method_2_code 104 = .ok (.istore_n 3, 1) := by decide +kernel
theorem ad_Left_solve_105 : decode prog_6_method_2_code 105 = .ok (.iconst 0, 1) := by decide +kernel
theorem ad_Left_solve_106 : decode prog_6_method_2_code 106 = .ok (.istore 4, 2) := by decide +kernel
theorem ad_Left_solve_108 : decode prog_6_method_2_code 108 = .ok (.iload 4, 2) := by decide +kernel
theorem ad_Left_solve_110 : decode prog_6_method_2_code 110 = .ok (.aload_n 0, 1) := by decide +kernel
theorem ad_Left_solve_111 : decode prog_6_method_2_code 111 = .ok (.getfield 9, 3) := by decide +kernel
theorem ad_Left_solve_114 : decode prog_6_method_2_code 114 = .ok (.if_icmp .ge 27, 3) := by decide +kernel
theorem ad_Left_solve_117 : decode prog_6_method_2_code 117 = .ok (.iload_n 3, 1) := by decide +kernel
theorem ad_Left_solve_118 : decode prog_6_method_2_code 118 = .ok (.aload_n 0, 1) := by decide +kernel
theorem ad_Left_solve_119 : decode prog_6_method_2_code 119 = .ok (.iload 4, 2) := by decide +kernel
theorem ad_Left_solve_121 : decode prog_6_method_2_code 121 = .ok (.iconst 0, 1) := by decide +kernel
theorem ad_Left_solve_122 : decode prog_6_method_2_code 122 = .ok (.invokevirtual 62, 3) := by decide +kernel
theorem ad_Left_solve_125 : decode prog_6_method_2_code 125 = .ok (.ifCond .eq 7, 3) := by decide +kernel
theorem ad_Left_solve_128 : decode prog_6_method_2_code 128 = .ok (.iconst 1, 1) := by decide +kernel
theorem ad_Left_solve_129 : decode prog_6_method_2_code 129 = .ok (.goto 4, 3) := by decide +kernel
theorem ad_Left_solve_132 : decode prog_6_method_2_code 132 = .ok (.iconst 0, 1) := by decide +kernel
theorem ad_Left_solve_133 : decode prog_6_method_2_code 133 = .ok (.iadd, 1) := by decide +kernel
theorem ad_Left_solve_134 : decode prog_6_method_2_code 134 = .ok (.istore_n 3, 1) := by decide +kernel
theorem ad_Left_solve_135 : decode prog_6_method_2_code 135 = .ok (.iinc 4 1, 3) := by decide +kernel
theorem ad_Left_solve_138 : decode prog_6_method_2_code 138 = .ok (.goto (-30), 3) := by decide +kernel
theorem ad_Left_solve_141 : decode prog_6_method_2_code 141 = .ok (.iconst 0, 1) := by decide +kernel
theorem ad_Left_solve_142 : decode prog_6_method_2_code 142 = .ok (.istore 4, 2) := by decide +kernel
theorem ad_Left_solve_144 : decode prog_6_method_2_code 144 = .ok (.iload 4, 2) := by decide +kernel
theorem ad_Left_solve_146 : decode prog_6_method_2_code 146 = .ok (.aload_n 0, 1) := by decide +kernel
theorem ad_Left_solve_147 : decode prog_6_method_2_code 147 = .ok (.getfield 9, 3) := by decide +kernel
theorem ad_Left_solve_150 : decode prog_6_method_2_code 150 = .ok (.if_icmp .ge 15, 3) := by decide +kernel
theorem ad_Left_solve_153 : decode prog_6_method_2_code 153 = .ok (.aload_n 0, 1) := by decide +kernel
theorem ad_Left_solve_154 : decode prog_6_method_2_code 154 = .ok (.iload 4, 2) := by decide +kernel
theorem ad_Left_solve_156 : decode prog_6_method_2_code 156 = .ok (.invokevirtual 65, 3) := by decide +kernel
theorem ad_Left_solve_159 : decode prog_6_method_2_code 159 = .ok (.iinc 4 1, 3) := by decide +kernel
theorem ad_Left_solve_162 : decode prog_6_method_2_code 162 = .ok (.goto (-18), 3) := by decide +kernel
theorem ad_Left_solve_165 : decode prog_6_method_2_code 165 = .ok (.iload_n 3, 1) := by decide +kernel
theorem ad_Left_solve_166 : decode prog_6_method_2_code 166 = .ok (.ireturn, 1) := by decide +kernel
theorem ad_Left_settle_0 : decode prog_6_method_3_code 0 = .ok (.iconst 0, 1) := by decide +kernel
theorem ad_Left_settle_1 : decode prog_6_method_3_code 1 = .ok (.istore_n 2, 1) := by decide +kernel
theorem ad_Left_settle_2 : decode prog_6_method_3_code 2 = .ok (.iload_n 2, 1) := by decide +kernel
theorem ad_Left_settle_3 : decode prog_6_method_3_code 3 = .ok (.bipush 8, 2) := by decide +kernel
theorem ad_Left_settle_5 : decode prog_6_method_3_code 5 = .ok (.if_icmp .ge 43, 3) := by decide +kernel
theorem ad_Left_settle_8 : decode prog_6_method_3_code 8 = .ok (.aload_n 0, 1) := by decide +kernel
theorem ad_Left_settle_9 : decode prog_6_method_3_code 9 = .ok (.getfield 15, 3) := by decide +kernel
theorem ad_Left_settle_12 : decode prog_6_method_3_code 12 = .ok (.iload_n 1, 1) := by decide +kernel
theorem ad_Left_settle_13 : decode prog_6_method_3_code 13 = .ok (.iaload, 1) := by decide +kernel
theorem ad_Left_settle_14 : decode prog_6_method_3_code 14 = .ok (.iload_n 2, 1) := by decide +kernel
theorem ad_Left_settle_15 : decode prog_6_method_3_code 15 = .ok (.if_icmp .eq 33, 3) := by decide +kernel
theorem ad_Left_settle_18 : decode prog_6_method_3_code 18 = .ok (.aload_n 0, 1) := by decide +kernel
theorem ad_Left_settle_19 : decode prog_6_method_3_code 19 = .ok (.getfield 22, 3) := by decide +kernel
theorem ad_Left_settle_22 : decode prog_6_method_3_code 22 = .ok (.iload_n 1, 1) := by decide +kernel
theorem ad_Left_settle_23 : decode prog_6_method_3_code 23 = .ok (.iaload, 1) := by decide +kernel
theorem ad_Left_settle_24 : decode prog_6_method_3_code 24 = .ok (.iload_n 2, 1) := by decide +kernel
theorem ad_Left_settle_25 : decode prog_6_method_3_code 25 = .ok (.ishr, 1) := by decide +kernel
theorem ad_Left_settle_26 : decode prog_6_method_3_code 26 = .ok (.iconst 1, 1) := by decide +kernel
theorem ad_Left_settle_27 : decode prog_6_method_3_code 27 = .ok (.iand, 1) := by decide +kernel
theorem ad_Left_settle_28 : decode prog_6_method_3_code 28 = .ok (.iconst 1, 1) := by decide +kernel
theorem ad_Left_settle_29 : decode prog_6_method_3_code 29 = .ok (.if_icmp .ne 13, 3) := by decide +kernel
theorem ad_Left_settle_32 : decode prog_6_method_3_code 32 = .ok (.aload_n 0, 1) := by decide +kernel
theorem ad_Left_settle_33 : decode prog_6_method_3_code 33 = .ok (.iload_n 1, 1) := by decide +kernel
theorem ad_Left_settle_34 : decode prog_6_method_3_code 34 = .ok (.iload_n 2, 1) := by decide +kernel
theorem ad_Left_settle_35 : decode prog_6_method_3_code 35 = .ok (.invokevirtual 69, 3) := by decide +kernel
theorem ad_Left_settle_38 : decode prog_6_method_3_code 38 = .ok (.ifCond .eq 4, 3) := by decide +kernel
theorem ad_Left_settle_41 : decode prog_6_method_3_code 41 = .ok (.return_, 1) := by decide +kernel
theorem ad_Left_settle_42 : decode prog_6_method_3_code 42 = .ok (.iinc 2 1, 3) := by decide +kernel
theorem ad_Left_settle_45 : decode prog_6_method_3_code 45 = .ok (.goto (-43), 3) := by decide +kernel
theorem ad_Left_settle_48 : decode prog_6_method_3_code 48 = .ok (.return_, 1) := by decide +kernel
theorem ad_Left_force_0 : decode prog_6_method_4_code 0 = .ok (.aload_n 0, 1) := by decide +kernel
theorem ad_Left_force_1 : decode prog_6_method_4_code 1 = .ok (.getfield 15, 3) := by decide +kernel
theorem ad_Left_force_4 : decode prog_6_method_4_code 4 = .ok (.aload_n 0, 1) := by decide +kernel
theorem ad_Left_force_5 : decode prog_6_method_4_code 5 = .ok (.getfield 28, 3) := by decide +kernel
theorem ad_Left_force_8 : decode prog_6_method_4_code 8 = .ok (.invokestatic 72, 3) := by decide +kernel
theorem ad_Left_force_11 : decode prog_6_method_4_code 11 = .ok (.aload_n 0, 1) := by decide +kernel
theorem ad_Left_force_12 : decode prog_6_method_4_code 12 = .ok (.getfield 25, 3) := by decide +kernel
theorem ad_Left_force_15 : decode prog_6_method_4_code 15 = .ok (.aload_n 0, 1) := by decide +kernel
theorem ad_Left_force_16 : decode prog_6_method_4_code 16 = .ok (.getfield 31, 3) := by decide +kernel
theorem ad_Left_force_19 : decode prog_6_method_4_code 19 = .ok (.invokestatic 72, 3) := by decide +kernel
theorem ad_Left_force_22 : decode prog_6_method_4_code 22 = .ok (.aload_n 0, 1) := by decide +kernel
theorem ad_Left_force_23 : decode prog_6_method_4_code 23 = .ok (.getfield 15, 3) := by decide +kernel
theorem ad_Left_force_26 : decode prog_6_method_4_code 26 = .ok (.iload_n 1, 1) := by decide +kernel
theorem ad_Left_force_27 : decode prog_6_method_4_code 27 = .ok (.iaload, 1) := by decide +kernel
theorem ad_Left_force_28 : decode prog_6_method_4_code 28 = .ok (.ifCond .lt 7, 3) := by decide +kernel
theorem ad_Left_force_31 : decode prog_6_method_4_code 31 = .ok (.iconst 1, 1) := by decide +kernel
theorem ad_Left_force_32 : decode prog_6_method_4_code 32 = .ok (.goto 4, 3) := by decide +kernel
theorem ad_Left_force_35 : decode prog_6_method_4_code 35 = .ok (.iconst 0, 1) := by decide +kernel
theorem ad_Left_force_36 : decode prog_6_method_4_code 36 = .ok (.istore_n 3, 1) := by decide +kernel
theorem ad_Left_force_37 : decode prog_6_method_4_code 37 = .ok (.aload_n 0, 1) := by decide +kernel
theorem ad_Left_force_38 : decode prog_6_method_4_code 38 = .ok (.iload_n 1, 1) := by decide +kernel
theorem ad_Left_force_39 : decode prog_6_method_4_code 39 = .ok (.invokevirtual 76, 3) := by decide +kernel
theorem ad_Left_force_42 : decode prog_6_method_4_code 42 = .ok (.aload_n 0, 1) := by decide +kernel
theorem ad_Left_force_43 : decode prog_6_method_4_code 43 = .ok (.getfield 25, 3) := by decide +kernel
theorem ad_Left_force_46 : decode prog_6_method_4_code 46 = .ok (.iload_n 2, 1) := by decide +kernel
theorem ad_Left_force_47 : decode prog_6_method_4_code 47 = .ok (.iaload, 1) := by decide +kernel
theorem ad_Left_force_48 : decode prog_6_method_4_code 48 = .ok (.aload_n 0, 1) := by decide +kernel
theorem ad_Left_force_49 : decode prog_6_method_4_code 49 = .ok (.getfield 19, 3) := by decide +kernel
theorem ad_Left_force_52 : decode prog_6_method_4_code 52 = .ok (.if_icmp .lt 7, 3) := by decide +kernel
theorem ad_Left_force_55 : decode prog_6_method_4_code 55 = .ok (.iconst 1, 1) := by decide +kernel
theorem ad_Left_force_56 : decode prog_6_method_4_code 56 = .ok (.goto 4, 3) := by decide +kernel
theorem ad_Left_force_59 : decode prog_6_method_4_code 59 = .ok (.iconst 0, 1) := by decide +kernel
theorem ad_Left_force_60 : decode prog_6_method_4_code 60 = .ok (.istore 4, 2) := by decide +kernel
theorem ad_Left_force_62 : decode prog_6_method_4_code 62 = .ok (.iload 4, 2) := by decide +kernel
theorem ad_Left_force_64 : decode prog_6_method_4_code 64 = .ok (.ifCond .eq 14, 3) := by decide +kernel
theorem ad_Left_force_67 : decode prog_6_method_4_code 67 = .ok (.aload_n 0, 1) := by decide +kernel
theorem ad_Left_force_68 : decode prog_6_method_4_code 68 = .ok (.iload_n 2, 1) := by decide +kernel
theorem ad_Left_force_69 : decode prog_6_method_4_code 69 = .ok (.iload_n 1, 1) := by decide +kernel
theorem ad_Left_force_70 : decode prog_6_method_4_code 70 = .ok (.iconst 1, 1) := by decide +kernel
theorem ad_Left_force_71 : decode prog_6_method_4_code 71 = .ok (.iadd, 1) := by decide +kernel
theorem ad_Left_force_72 : decode prog_6_method_4_code 72 = .ok (.invokevirtual 79, 3) := by decide +kernel
theorem ad_Left_force_75 : decode prog_6_method_4_code 75 = .ok (.ifCond .eq 7, 3) := by decide +kernel
theorem ad_Left_force_78 : decode prog_6_method_4_code 78 = .ok (.iconst 1, 1) := by decide +kernel
theorem ad_Left_force_79 : decode prog_6_method_4_code 79 = .ok (.goto 4, 3) := by decide +kernel
theorem ad_Left_force_82 : decode prog_6_method_4_code 82 = .ok (.iconst 0, 1) := by decide +kernel
theorem ad_Left_force_83 : decode prog_6_method_4_code 83 = .ok (.istore 5, 2) := by decide +kernel
theorem ad_Left_force_85 : decode prog_6_method_4_code 85 = .ok (.iload 5, 2) := by decide +kernel
theorem ad_Left_force_87 : decode prog_6_method_4_code 87 = .ok (.ifCond .eq 9, 3) := by decide +kernel
theorem ad_Left_force_90 : decode prog_6_method_4_code 90 = .ok (.aload_n 0, 1) := by decide +kernel
theorem ad_Left_force_91 : decode prog_6_method_4_code 91 = .ok (.iload_n 1, 1) := by decide +kernel
theorem ad_Left_force_92 : decode prog_6_method_4_code 92 = .ok (.iload_n 2, 1) := by decide +kernel
theorem ad_Left_force_93 : decode prog_6_method_4_code 93 = .ok (.invokevirtual 82, 3) := by decide +kernel
theorem ad_Left_force_96 : decode prog_6_method_4_code 96 = .ok (.iload 5, 2) := by decide +kernel
theorem ad_Left_force_98 : decode prog_6_method_4_code 98 = .ok (.ifCond .eq 24, 3) := by decide +kernel
theorem ad_Left_force_101 : decode prog_6_method_4_code 101 = .ok (.iload 4, 2) := by decide +kernel
theorem ad_Left_force_103 : decode prog_6_method_4_code 103 = .ok (.ifCond .eq 17, 3) := by decide +kernel
theorem ad_Left_force_106 : decode prog_6_method_4_code 106 = .ok (.iload_n 3, 1) := by decide +kernel
theorem ad_Left_force_107 : decode prog_6_method_4_code 107 = .ok (.ifCond .eq 13, 3) := by decide +kernel
theorem ad_Left_force_110 : decode prog_6_method_4_code 110 = .ok (.aload_n 0, 1) := by decide +kernel
theorem ad_Left_force_111 : decode prog_6_method_4_code 111 = .ok (.iload_n 1, 1) := by decide +kernel
theorem ad_Left_force_112 : decode prog_6_method_4_code 112 = .ok (.iconst 1, 1) := by decide +kernel
theorem ad_Left_force_113 : decode prog_6_method_4_code 113 = .ok (.iadd, 1) := by decide +kernel
theorem ad_Left_force_114 : decode prog_6_method_4_code 114 = .ok (.invokevirtual 86, 3) := by decide +kernel
theorem ad_Left_force_117 : decode prog_6_method_4_code 117 = .ok (.ifCond .eq 5, 3) := by decide +kernel
theorem ad_Left_force_120 : decode prog_6_method_4_code 120 = .ok (.iconst 1, 1) := by decide +kernel
theorem ad_Left_force_121 : decode prog_6_method_4_code 121 = .ok (.ireturn, 1) := by decide +kernel
theorem ad_Left_force_122 : decode prog_6_method_4_code 122 = .ok (.aload_n 0, 1) := by decide +kernel
theorem ad_Left_force_123 : decode prog_6_method_4_code 123 = .ok (.getfield 28, 3) := by decide +kernel
theorem ad_Left_force_126 : decode prog_6_method_4_code 126 = .ok (.aload_n 0, 1) := by decide +kernel
theorem ad_Left_force_127 : decode prog_6_method_4_code 127 = .ok (.getfield 15, 3) := by decide +kernel
theorem ad_Left_force_130 : decode prog_6_method_4_code 130 = .ok (.invokestatic 72, 3) := by decide +kernel
theorem ad_Left_force_133 : decode prog_6_method_4_code 133 = .ok (.aload_n 0, 1) := by decide +kernel
theorem ad_Left_force_134 : decode prog_6_method_4_code 134 = .ok (.getfield 31, 3) := by decide +kernel
theorem ad_Left_force_137 : decode prog_6_method_4_code 137 = .ok (.aload_n 0, 1) := by decide +kernel
theorem ad_Left_force_138 : decode prog_6_method_4_code 138 = .ok (.getfield 25, 3) := by decide +kernel
theorem ad_Left_force_141 : decode prog_6_method_4_code 141 = .ok (.invokestatic 72, 3) := by decide +kernel
theorem ad_Left_force_144 : decode prog_6_method_4_code 144 = .ok (.iconst 0, 1) := by decide +kernel
theorem ad_Left_force_145 : decode prog_6_method_4_code 145 = .ok (.ireturn, 1) := by decide +kernel
theorem ad_Left_take_0 : decode prog_6_method_5_code 0 = .ok (.aload_n 0, 1) := by decide +kernel
theorem ad_Left_take_1 : decode prog_6_method_5_code 1 = .ok (.getfield 15, 3) := by decide +kernel
theorem ad_Left_take_4 : decode prog_6_method_5_code 4 = .ok (.iload_n 1, 1) := by decide +kernel
theorem ad_Left_take_5 : decode prog_6_method_5_code 5 = .ok (.iaload, 1) := by decide +kernel
theorem ad_Left_take_6 : decode prog_6_method_5_code 6 = .ok (.istore_n 2, 1) := by decide +kernel
theorem ad_Left_take_7 : decode prog_6_method_5_code 7 = .ok (.iload_n 2, 1) := by decide +kernel
theorem ad_Left_take_8 : decode prog_6_method_5_code 8 = .ok (.ifCond .lt 19, 3) := by decide +kernel
theorem ad_Left_take_11 : decode prog_6_method_5_code 11 = .ok (.iload_n 2, 1) := by decide +kernel
theorem ad_Left_take_12 : decode prog_6_method_5_code 12 = .ok (.bipush 8, 2) := by decide +kernel
theorem ad_Left_take_14 : decode prog_6_method_5_code 14 = .ok (.if_icmp .ge 13, 3) := by decide +kernel
theorem ad_Left_take_17 : decode prog_6_method_5_code 17 = .ok (.aload_n 0, 1) := by decide +kernel
theorem ad_Left_take_18 : decode prog_6_method_5_code 18 = .ok (.getfield 25, 3) := by decide +kernel
theorem ad_Left_take_21 : decode prog_6_method_5_code 21 = .ok (.iload_n 2, 1) := by decide +kernel
theorem ad_Left_take_22 : decode prog_6_method_5_code 22 = .ok (.dup2, 1) := by decide +kernel
theorem ad_Left_take_23 : decode prog_6_method_5_code 23 = .ok (.iaload, 1) := by decide +kernel
theorem ad_Left_take_24 : decode prog_6_method_5_code 24 = .ok (.iconst 1, 1) := by decide +kernel
theorem ad_Left_take_25 : decode prog_6_method_5_code 25 = .ok (.isub, 1) := by decide +kernel
theorem ad_Left_take_26 : decode prog_6_method_5_code 26 = .ok (.iastore, 1) := by decide +kernel
theorem ad_Left_take_27 : decode prog_6_method_5_code 27 = .ok (.aload_n 0, 1) := by decide +kernel
theorem ad_Left_take_28 : decode prog_6_method_5_code 28 = .ok (.getfield 15, 3) := by decide +kernel
theorem ad_Left_take_31 : decode prog_6_method_5_code 31 = .ok (.iload_n 1, 1) := by decide +kernel
theorem ad_Left_take_32 : decode prog_6_method_5_code 32 = .ok (.iconst (-1), 1) := by decide +kernel
theorem ad_Left_take_33 : decode prog_6_method_5_code 33 = .ok (.iastore, 1) := by decide +kernel
theorem ad_Left_take_34 : decode prog_6_method_5_code 34 = .ok (.return_, 1) := by decide +kernel
theorem ad_Left_give_0 : decode prog_6_method_6_code 0 = .ok (.aload_n 0, 1) := by decide +kernel
theorem ad_Left_give_1 : decode prog_6_method_6_code 1 = .ok (.getfield 15, 3) := by decide +kernel
theorem ad_Left_give_4 : decode prog_6_method_6_code 4 = .ok (.iload_n 1, 1) := by decide +kernel
theorem ad_Left_give_5 : decode prog_6_method_6_code 5 = .ok (.iload_n 2, 1) := by decide +kernel
theorem ad_Left_give_6 : decode prog_6_method_6_code 6 = .ok (.iastore, 1) := by decide +kernel
theorem ad_Left_give_7 : decode prog_6_method_6_code 7 = .ok (.aload_n 0, 1) := by decide +kernel
theorem ad_Left_give_8 : decode prog_6_method_6_code 8 = .ok (.getfield 25, 3) := by decide +kernel
theorem ad_Left_give_11 : decode prog_6_method_6_code 11 = .ok (.iload_n 2, 1) := by decide +kernel
theorem ad_Left_give_12 : decode prog_6_method_6_code 12 = .ok (.dup2, 1) := by decide +kernel
theorem ad_Left_give_13 : decode prog_6_method_6_code 13 = .ok (.iaload, 1) := by decide +kernel
theorem ad_Left_give_14 : decode prog_6_method_6_code 14 = .ok (.iconst 1, 1) := by decide +kernel
theorem ad_Left_give_15 : decode prog_6_method_6_code 15 = .ok (.iadd, 1) := by decide +kernel
theorem ad_Left_give_16 : decode prog_6_method_6_code 16 = .ok (.iastore, 1) := by decide +kernel
theorem ad_Left_give_17 : decode prog_6_method_6_code 17 = .ok (.return_, 1) := by decide +kernel
theorem ad_Left_displaceOne_0 : decode prog_6_method_7_code 0 = .ok (.iload_n 2, 1) := by decide +kernel
theorem ad_Left_displaceOne_1 : decode prog_6_method_7_code 1 = .ok (.istore_n 3, 1) := by decide +kernel
theorem ad_Left_displaceOne_2 : decode prog_6_method_7_code 2 = .ok (.iload_n 3, 1) := by decide +kernel
theorem ad_Left_displaceOne_3 : decode prog_6_method_7_code 3 = .ok (.aload_n 0, 1) := by decide +kernel
theorem ad_Left_displaceOne_4 : decode prog_6_method_7_code 4 = .ok (.getfield 9, 3) := by decide +kernel
theorem ad_Left_displaceOne_7 : decode prog_6_method_7_code 7 = .ok (.if_icmp .ge 26, 3) := by decide +kernel
theorem ad_Left_displaceOne_10 : decode prog_6_method_7_code 10 = .ok (.aload_n 0, 1) := by decide +kernel
theorem ad_Left_displaceOne_11 : decode prog_6_method_7_code 11 = .ok (.getfield 15, 3) := by decide +kernel
theorem ad_Left_displaceOne_14 : decode prog_6_method_7_code 14 = .ok (.iload_n 3, 1) := by decide +kernel
theorem ad_Left_displaceOne_15 : decode prog_6_method_7_code 15 = .ok (.iaload, 1) := by decide +kernel
theorem ad_Left_displaceOne_16 : decode prog_6_method_7_code 16 = .ok (.iload_n 1, 1) := by decide +kernel
theorem ad_Left_displaceOne_17 : decode prog_6_method_7_code 17 = .ok (.if_icmp .ne 10, 3) := by decide +kernel
theorem ad_Left_displaceOne_20 : decode prog_6_method_7_code 20 = .ok (.aload_n 0, 1) := by decide +kernel
theorem ad_Left_displaceOne_21 : decode prog_6_method_7_code 21 = .ok (.iload_n 3, 1) := by decide +kernel
theorem ad_Left_displaceOne_22 : decode prog_6_method_7_code 22 = .ok (.invokevirtual 76, 3) := by decide +kernel
theorem ad_Left_displaceOne_25 : decode prog_6_method_7_code 25 = .ok (.iconst 1, 1) := by decide +kernel
theorem ad_Left_displaceOne_26 : decode prog_6_method_7_code 26 = .ok (.ireturn, 1) := by decide +kernel
theorem ad_Left_displaceOne_27 : decode prog_6_method_7_code 27 = .ok (.iinc 3 1, 3) := by decide +kernel
theorem ad_Left_displaceOne_30 : decode prog_6_method_7_code 30 = .ok (.goto (-28), 3) := by decide +kernel
theorem ad_Left_displaceOne_33 : decode prog_6_method_7_code 33 = .ok (.iconst 0, 1) := by decide +kernel
theorem ad_Left_displaceOne_34 : decode prog_6_method_7_code 34 = .ok (.ireturn, 1) := by decide +kernel
theorem ad_Left_improveAny_0 : decode prog_6_method_8_code 0 = .ok (.iload_n 1, 1) := by decide +kernel
theorem ad_Left_improveAny_1 : decode prog_6_method_8_code 1 = .ok (.istore_n 2, 1) := by decide +kernel
theorem ad_Left_improveAny_2 : decode prog_6_method_8_code 2 = .ok (.iload_n 2, 1) := by decide +kernel
theorem ad_Left_improveAny_3 : decode prog_6_method_8_code 3 = .ok (.aload_n 0, 1) := by decide +kernel
theorem ad_Left_improveAny_4 : decode prog_6_method_8_code 4 = .ok (.getfield 9, 3) := by decide +kernel
theorem ad_Left_improveAny_7 : decode prog_6_method_8_code 7 = .ok (.if_icmp .ge 29, 3) := by decide +kernel
theorem ad_Left_improveAny_10 : decode prog_6_method_8_code 10 = .ok (.aload_n 0, 1) := by decide +kernel
theorem ad_Left_improveAny_11 : decode prog_6_method_8_code 11 = .ok (.getfield 15, 3) := by decide +kernel
theorem ad_Left_improveAny_14 : decode prog_6_method_8_code 14 = .ok (.iload_n 2, 1) := by decide +kernel
theorem ad_Left_improveAny_15 : decode prog_6_method_8_code 15 = .ok (.iaload, 1) := by decide +kernel
theorem ad_Left_improveAny_16 : decode prog_6_method_8_code 16 = .ok (.ifCond .ge 14, 3) := by decide +kernel
theorem ad_Left_improveAny_19 : decode prog_6_method_8_code 19 = .ok (.aload_n 0, 1) := by decide +kernel
theorem ad_Left_improveAny_20 : decode prog_6_method_8_code 20 = .ok (.iload_n 2, 1) := by decide +kernel
theorem ad_Left_improveAny_21 : decode prog_6_method_8_code 21 = .ok (.iload_n 1, 1) := by decide +kernel
theorem ad_Left_improveAny_22 : decode prog_6_method_8_code 22 = .ok (.invokevirtual 62, 3) := by decide +kernel
theorem ad_Left_improveAny_25 : decode prog_6_method_8_code 25 = .ok (.ifCond .eq 5, 3) := by decide +kernel
theorem ad_Left_improveAny_28 : decode prog_6_method_8_code 28 = .ok (.iconst 1, 1) := by decide +kernel
theorem ad_Left_improveAny_29 : decode prog_6_method_8_code 29 = .ok (.ireturn, 1) := by decide +kernel
theorem ad_Left_improveAny_30 : decode prog_6_method_8_code 30 = .ok (.iinc 2 1, 3) := by decide +kernel
theorem ad_Left_improveAny_33 : decode prog_6_method_8_code 33 = .ok (.goto (-31), 3) := by decide +kernel
theorem ad_Left_improveAny_36 : decode prog_6_method_8_code 36 = .ok (.iconst 0, 1) := by decide +kernel
theorem ad_Left_improveAny_37 : decode prog_6_method_8_code 37 = .ok (.ireturn, 1) := by decide +kernel
theorem ad_Left_improve_0 : decode prog_6_method_9_code 0 = .ok (.aload_n 0, 1) := by decide +kernel
theorem ad_Left_improve_1 : decode prog_6_method_9_code 1 = .ok (.iconst 0, 1) := by decide +kernel
theorem ad_Left_improve_2 : decode prog_6_method_9_code 2 = .ok (.putfield 37, 3) := by decide +kernel
theorem ad_Left_improve_5 : decode prog_6_method_9_code 5 = .ok (.aload_n 0, 1) := by decide +kernel
theorem ad_Left_improve_6 : decode prog_6_method_9_code 6 = .ok (.iconst 0, 1) := by decide +kernel
theorem ad_Left_improve_7 : decode prog_6_method_9_code 7 = .ok (.putfield 40, 3) := by decide +kernel
theorem ad_Left_improve_10 : decode prog_6_method_9_code 10 = .ok (.aload_n 0, 1) := by decide +kernel
theorem ad_Left_improve_11 : decode prog_6_method_9_code 11 = .ok (.iload_n 1, 1) := by decide +kernel
theorem ad_Left_improve_12 : decode prog_6_method_9_code 12 = .ok (.invokevirtual 90, 3) := by decide +kernel
theorem ad_Left_improve_15 : decode prog_6_method_9_code 15 = .ok (.iconst 0, 1) := by decide +kernel
theorem ad_Left_improve_16 : decode prog_6_method_9_code 16 = .ok (.istore_n 3, 1) := by decide +kernel
theorem ad_Left_improve_17 : decode prog_6_method_9_code 17 = .ok (.iload_n 3, 1) := by decide +kernel
theorem ad_Left_improve_18 : decode prog_6_method_9_code 18 = .ok (.aload_n 0, 1) := by decide +kernel
theorem ad_Left_improve_19 : decode prog_6_method_9_code 19 = .ok (.getfield 37, 3) := by decide +kernel
theorem ad_Left_improve_22 : decode prog_6_method_9_code 22 = .ok (.if_icmp .ge 81, 3) := by decide +kernel
theorem ad_Left_improve_25 : decode prog_6_method_9_code 25 = .ok (.iload_n 3, 1) := by decide +kernel
theorem ad_Left_improve_26 : decode prog_6_method_9_code 26 = .ok (.bipush 8, 2) := by decide +kernel
theorem ad_Left_improve_28 : decode prog_6_method_9_code 28 = .ok (.if_icmp .ge 75, 3) := by decide +kernel
theorem ad_Left_improve_31 : decode prog_6_method_9_code 31 = .ok (.aload_n 0, 1) := by decide +kernel
theorem ad_Left_improve_32 : decode prog_6_method_9_code 32 = .ok (.getfield 34, 3) := by decide +kernel
theorem ad_Left_improve_35 : decode prog_6_method_9_code 35 = .ok (.iload_n 3, 1) := by decide +kernel
theorem ad_Left_improve_36 : decode prog_6_method_9_code 36 = .ok (.iaload, 1) := by decide +kernel
theorem ad_Left_improve_37 : decode prog_6_method_9_code 37 = .ok (.istore 4, 2) := by decide +kernel
theorem ad_Left_improve_39 : decode prog_6_method_9_code 39 = .ok (.aload_n 0, 1) := by decide +kernel
theorem ad_Left_improve_40 : decode prog_6_method_9_code 40 = .ok (.getfield 25, 3) := by decide +kernel
theorem ad_Left_improve_43 : decode prog_6_method_9_code 43 = .ok (.iload 4, 2) := by decide +kernel
theorem ad_Left_improve_45 : decode prog_6_method_9_code 45 = .ok (.iaload, 1) := by decide +kernel
theorem ad_Left_improve_46 : decode prog_6_method_9_code 46 = .ok (.aload_n 0, 1) := by decide +kernel
theorem ad_Left_improve_47 : decode prog_6_method_9_code 47 = .ok (.getfield 19, 3) := by decide +kernel
theorem ad_Left_improve_50 : decode prog_6_method_9_code 50 = .ok (.if_icmp .ge 11, 3) := by decide +kernel
theorem ad_Left_improve_53 : decode prog_6_method_9_code 53 = .ok (.aload_n 0, 1) := by decide +kernel
theorem ad_Left_improve_54 : decode prog_6_method_9_code 54 = .ok (.iload 4, 2) := by decide +kernel
theorem ad_Left_improve_56 : decode prog_6_method_9_code 56 = .ok (.invokevirtual 93, 3) := by decide +kernel
theorem ad_Left_improve_59 : decode prog_6_method_9_code 59 = .ok (.iconst 1, 1) := by decide +kernel
theorem ad_Left_improve_60 : decode prog_6_method_9_code 60 = .ok (.ireturn, 1) := by decide +kernel
theorem ad_Left_improve_61 : decode prog_6_method_9_code 61 = .ok (.iload_n 2, 1) := by decide +kernel
theorem ad_Left_improve_62 : decode prog_6_method_9_code 62 = .ok (.istore 5, 2) := by decide +kernel
theorem ad_Left_improve_64 : decode prog_6_method_9_code 64 = .ok (.iload 5, 2) := by decide +kernel
theorem ad_Left_improve_66 : decode prog_6_method_9_code 66 = .ok (.aload_n 0, 1) := by decide +kernel
theorem ad_Left_improve_67 : decode prog_6_method_9_code 67 = .ok (.getfield 9, 3) := by decide +kernel
theorem ad_Left_improve_70 : decode prog_6_method_9_code 70 = .ok (.if_icmp .ge 27, 3) := by decide +kernel
theorem ad_Left_improve_73 : decode prog_6_method_9_code 73 = .ok (.aload_n 0, 1) := by decide +kernel
theorem ad_Left_improve_74 : decode prog_6_method_9_code 74 = .ok (.getfield 15, 3) := by decide +kernel
theorem ad_Left_improve_77 : decode prog_6_method_9_code 77 = .ok (.iload 5, 2) := by decide +kernel
theorem ad_Left_improve_79 : decode prog_6_method_9_code 79 = .ok (.iaload, 1) := by decide +kernel
theorem ad_Left_improve_80 : decode prog_6_method_9_code 80 = .ok (.iload 4, 2) := by decide +kernel
theorem ad_Left_improve_82 : decode prog_6_method_9_code 82 = .ok (.if_icmp .ne 9, 3) := by decide +kernel
theorem ad_Left_improve_85 : decode prog_6_method_9_code 85 = .ok (.aload_n 0, 1) := by decide +kernel
theorem ad_Left_improve_86 : decode prog_6_method_9_code 86 = .ok (.iload 5, 2) := by decide +kernel
theorem ad_Left_improve_88 : decode prog_6_method_9_code 88 = .ok (.invokevirtual 90, 3) := by decide +kernel
theorem ad_Left_improve_91 : decode prog_6_method_9_code 91 = .ok (.iinc 5 1, 3) := by decide +kernel
theorem ad_Left_improve_94 : decode prog_6_method_9_code 94 = .ok (.goto (-30), 3) := by decide +kernel
theorem ad_Left_improve_97 : decode prog_6_method_9_code 97 = .ok (.iinc 3 1, 3) := by decide +kernel
theorem ad_Left_improve_100 : decode prog_6_method_9_code 100 = .ok (.goto (-83), 3) := by decide +kernel
theorem ad_Left_improve_103 : decode prog_6_method_9_code 103 = .ok (.iconst 0, 1) := by decide +kernel
theorem ad_Left_improve_104 : decode prog_6_method_9_code 104 = .ok (.ireturn, 1) := by decide +kernel
theorem ad_Left_reach_0 : decode prog_6_method_10_code 0 = .ok (.iconst 0, 1) := by decide +kernel
theorem ad_Left_reach_1 : decode prog_6_method_10_code 1 = .ok (.istore_n 2, 1) := by decide +kernel
theorem ad_Left_reach_2 : decode prog_6_method_10_code 2 = .ok (.iload_n 2, 1) := by decide +kernel
theorem ad_Left_reach_3 : decode prog_6_method_10_code 3 = .ok (.bipush 8, 2) := by decide +kernel
theorem ad_Left_reach_5 : decode prog_6_method_10_code 5 = .ok (.if_icmp .ge 78, 3) := by decide +kernel
theorem ad_Left_reach_8 : decode prog_6_method_10_code 8 = .ok (.aload_n 0, 1) := by decide +kernel
theorem ad_Left_reach_9 : decode prog_6_method_10_code 9 = .ok (.getfield 22, 3) := by decide +kernel
theorem ad_Left_reach_12 : decode prog_6_method_10_code 12 = .ok (.iload_n 1, 1) := by decide +kernel
theorem ad_Left_reach_13 : decode prog_6_method_10_code 13 = .ok (.iaload, 1) := by decide +kernel
theorem ad_Left_reach_14 : decode prog_6_method_10_code 14 = .ok (.aload_n 0, 1) := by decide +kernel
theorem ad_Left_reach_15 : decode prog_6_method_10_code 15 = .ok (.getfield 40, 3) := by decide +kernel
theorem ad_Left_reach_18 : decode prog_6_method_10_code 18 = .ok (.iconst (-1), 1) := by decide +kernel
theorem ad_Left_reach_19 : decode prog_6_method_10_code 19 = .ok (.ixor, 1) := by decide +kernel
theorem ad_Left_reach_20 : decode prog_6_method_10_code 20 = .ok (.iand, 1) := by decide +kernel
theorem ad_Left_reach_21 : decode prog_6_method_10_code 21 = .ok (.iload_n 2, 1) := by decide +kernel
theorem ad_Left_reach_22 : decode prog_6_method_10_code 22 = .ok (.ishr, 1) := by decide +kernel
theorem ad_Left_reach_23 : decode prog_6_method_10_code 23 = .ok (.iconst 1, 1) := by decide +kernel
theorem ad_Left_reach_24 : decode prog_6_method_10_code 24 = .ok (.iand, 1) := by decide +kernel
theorem ad_Left_reach_25 : decode prog_6_method_10_code 25 = .ok (.iconst 1, 1) := by decide +kernel
theorem ad_Left_reach_26 : decode prog_6_method_10_code 26 = .ok (.if_icmp .ne 51, 3) := by decide +kernel
theorem ad_Left_reach_29 : decode prog_6_method_10_code 29 = .ok (.aload_n 0, 1) := by decide +kernel
theorem ad_Left_reach_30 : decode prog_6_method_10_code 30 = .ok (.getfield 37, 3) := by decide +kernel
theorem ad_Left_reach_33 : decode prog_6_method_10_code 33 = .ok (.bipush 8, 2) := by decide +kernel
theorem ad_Left_reach_35 : decode prog_6_method_10_code 35 = .ok (.if_icmp .ge 42, 3) := by decide +kernel
theorem ad_Left_reach_38 : decode prog_6_method_10_code 38 = .ok (.aload_n 0, 1) := by decide +kernel
theorem ad_Left_reach_39 : decode prog_6_method_10_code 39 = .ok (.dup, 1) := by decide +kernel
theorem ad_Left_reach_40 : decode prog_6_method_10_code 40 = .ok (.getfield 40, 3) := by decide +kernel
theorem ad_Left_reach_43 : decode prog_6_method_10_code 43 = .ok (.iconst 1, 1) := by decide +kernel
theorem ad_Left_reach_44 : decode prog_6_method_10_code 44 = .ok (.iload_n 2, 1) := by decide +kernel
theorem ad_Left_reach_45 : decode prog_6_method_10_code 45 = .ok (.ishl, 1) := by decide +kernel
theorem ad_Left_reach_46 : decode prog_6_method_10_code 46 = .ok (.ior, 1) := by decide +kernel
theorem ad_Left_reach_47 : decode prog_6_method_10_code 47 = .ok (.putfield 40, 3) := by decide +kernel
theorem ad_Left_reach_50 : decode prog_6_method_10_code 50 = .ok (.aload_n 0, 1) := by decide +kernel
theorem ad_Left_reach_51 : decode prog_6_method_10_code 51 = .ok (.getfield 43, 3) := by decide +kernel
theorem ad_Left_reach_54 : decode prog_6_method_10_code 54 = .ok (.iload_n 2, 1) := by decide +kernel
theorem ad_Left_reach_55 : decode prog_6_method_10_code 55 = .ok (.iload_n 1, 1) := by decide +kernel
theorem ad_Left_reach_56 : decode prog_6_method_10_code 56 = .ok (.iastore, 1) := by decide +kernel
theorem ad_Left_reach_57 : decode prog_6_method_10_code 57 = .ok (.aload_n 0, 1) := by decide +kernel
theorem ad_Left_reach_58 : decode prog_6_method_10_code 58 = .ok (.getfield 34, 3) := by decide +kernel
theorem ad_Left_reach_61 : decode prog_6_method_10_code 61 = .ok (.aload_n 0, 1) := by decide +kernel
theorem ad_Left_reach_62 : decode prog_6_method_10_code 62 = .ok (.getfield 37, 3) := by decide +kernel
theorem ad_Left_reach_65 : decode prog_6_method_10_code 65 = .ok (.iload_n 2, 1) := by decide +kernel
theorem ad_Left_reach_66 : decode prog_6_method_10_code 66 = .ok (.iastore, 1) := by decide +kernel
theorem ad_Left_reach_67 : decode prog_6_method_10_code 67 = .ok (.aload_n 0, 1) := by decide +kernel
theorem ad_Left_reach_68 : decode prog_6_method_10_code 68 = .ok (.dup, 1) := by decide +kernel
theorem ad_Left_reach_69 : decode prog_6_method_10_code 69 = .ok (.getfield 37, 3) := by decide +kernel
theorem ad_Left_reach_72 : decode prog_6_method_10_code 72 = .ok (.iconst 1, 1) := by decide +kernel
theorem ad_Left_reach_73 : decode prog_6_method_10_code 73 = .ok (.iadd, 1) := by decide +kernel
theorem ad_Left_reach_74 : decode prog_6_method_10_code 74 = .ok (.putfield 37, 3) := by decide +kernel
theorem ad_Left_reach_77 : decode prog_6_method_10_code 77 = .ok (.iinc 2 1, 3) := by decide +kernel
theorem ad_Left_reach_80 : decode prog_6_method_10_code 80 = .ok (.goto (-78), 3) := by decide +kernel
theorem ad_Left_reach_83 : decode prog_6_method_10_code 83 = .ok (.return_, 1) := by decide +kernel
theorem ad_Left_shift_0 : decode prog_6_method_11_code 0 = .ok (.aload_n 0, 1) := by decide +kernel
theorem ad_Left_shift_1 : decode prog_6_method_11_code 1 = .ok (.getfield 25, 3) := by decide +kernel
theorem ad_Left_shift_4 : decode prog_6_method_11_code 4 = .ok (.iload_n 1, 1) := by decide +kernel
theorem ad_Left_shift_5 : decode prog_6_method_11_code 5 = .ok (.dup2, 1) := by decide +kernel
theorem ad_Left_shift_6 : decode prog_6_method_11_code 6 = .ok (.iaload, 1) := by decide +kernel
theorem ad_Left_shift_7 : decode prog_6_method_11_code 7 = .ok (.iconst 1, 1) := by decide +kernel
theorem ad_Left_shift_8 : decode prog_6_method_11_code 8 = .ok (.iadd, 1) := by decide +kernel
theorem ad_Left_shift_9 : decode prog_6_method_11_code 9 = .ok (.iastore, 1) := by decide +kernel
theorem ad_Left_shift_10 : decode prog_6_method_11_code 10 = .ok (.iload_n 1, 1) := by decide +kernel
theorem ad_Left_shift_11 : decode prog_6_method_11_code 11 = .ok (.istore_n 2, 1) := by decide +kernel
theorem ad_Left_shift_12 : decode prog_6_method_11_code 12 = .ok (.iconst 0, 1) := by decide +kernel
theorem ad_Left_shift_13 : decode prog_6_method_11_code 13 = .ok (.istore_n 3, 1) := by decide +kernel
theorem ad_Left_shift_14 : decode prog_6_method_11_code 14 = .ok (.iload_n 3, 1) := by decide +kernel
theorem ad_Left_shift_15 : decode prog_6_method_11_code 15 = .ok (.bipush 8, 2) := by decide +kernel
theorem ad_Left_shift_17 : decode prog_6_method_11_code 17 = .ok (.if_icmp .ge 47, 3) := by decide +kernel
theorem ad_Left_shift_20 : decode prog_6_method_11_code 20 = .ok (.iload_n 2, 1) := by decide +kernel
theorem ad_Left_shift_21 : decode prog_6_method_11_code 21 = .ok (.ifCond .lt 43, 3) := by decide +kernel
theorem ad_Left_shift_24 : decode prog_6_method_11_code 24 = .ok (.iload_n 2, 1) := by decide +kernel
theorem ad_Left_shift_25 : decode prog_6_method_11_code 25 = .ok (.bipush 8, 2) := by decide +kernel
theorem ad_Left_shift_27 : decode prog_6_method_11_code 27 = .ok (.if_icmp .ge 37, 3) := by decide +kernel
theorem ad_Left_shift_30 : decode prog_6_method_11_code 30 = .ok (.aload_n 0, 1) := by decide +kernel
theorem ad_Left_shift_31 : decode prog_6_method_11_code 31 = .ok (.getfield 43, 3) := by decide +kernel
theorem ad_Left_shift_34 : decode prog_6_method_11_code 34 = .ok (.iload_n 2, 1) := by decide +kernel
theorem ad_Left_shift_35 : decode prog_6_method_11_code 35 = .ok (.iaload, 1) := by decide +kernel
theorem ad_Left_shift_36 : decode prog_6_method_11_code 36 = .ok (.istore 4, 2) := by decide +kernel
theorem ad_Left_shift_38 : decode prog_6_method_11_code 38 = .ok (.aload_n 0, 1) := by decide +kernel
theorem ad_Left_shift_39 : decode prog_6_method_11_code 39 = .ok (.getfield 15, 3) := by decide +kernel
theorem ad_Left_shift_42 : decode prog_6_method_11_code 42 = .ok (.iload 4, 2) := by decide +kernel
theorem ad_Left_shift_44 : decode prog_6_method_11_code 44 = .ok (.iaload, 1) := by decide +kernel
theorem ad_Left_shift_45 : decode prog_6_method_11_code 45 = .ok (.istore 5, 2) := by decide +kernel
theorem ad_Left_shift_47 : decode prog_6_method_11_code 47 = .ok (.aload_n 0, 1) := by decide +kernel
theorem ad_Left_shift_48 : decode prog_6_method_11_code 48 = .ok (.getfield 15, 3) := by decide +kernel
theorem ad_Left_shift_51 : decode prog_6_method_11_code 51 = .ok (.iload 4, 2) := by decide +kernel
theorem ad_Left_shift_53 : decode prog_6_method_11_code 53 = .ok (.iload_n 2, 1) := by decide +kernel
theorem ad_Left_shift_54 : decode prog_6_method_11_code 54 = .ok (.iastore, 1) := by decide +kernel
theorem ad_Left_shift_55 : decode prog_6_method_11_code 55 = .ok (.iload 5, 2) := by decide +kernel
theorem ad_Left_shift_57 : decode prog_6_method_11_code 57 = .ok (.istore_n 2, 1) := by decide +kernel
theorem ad_Left_shift_58 : decode prog_6_method_11_code 58 = .ok (.iinc 3 1, 3) := by decide +kernel
theorem ad_Left_shift_61 : decode prog_6_method_11_code 61 = .ok (.goto (-47), 3) := by decide +kernel
theorem ad_Left_shift_64 : decode prog_6_method_11_code 64 = .ok (.return_, 1) := by decide +kernel
theorem ad_Run_figure_0 : decode prog_7_method_2_code 0 = .ok (.iload_n 1, 1) := by decide +kernel
theorem ad_Run_figure_1 : decode prog_7_method_2_code 1 = .ok (.ifCond .lt 18, 3) := by decide +kernel
theorem ad_Run_figure_4 : decode prog_7_method_2_code 4 = .ok (.iload_n 1, 1) := by decide +kernel
theorem ad_Run_figure_5 : decode prog_7_method_2_code 5 = .ok (.bipush 8, 2) := by decide +kernel
theorem ad_Run_figure_7 : decode prog_7_method_2_code 7 = .ok (.if_icmp .ge 12, 3) := by decide +kernel
theorem ad_Run_figure_10 : decode prog_7_method_2_code 10 = .ok (.aload_n 0, 1) := by decide +kernel
theorem ad_Run_figure_11 : decode prog_7_method_2_code 11 = .ok (.getfield 23, 3) := by decide +kernel
theorem ad_Run_figure_14 : decode prog_7_method_2_code 14 = .ok (.iload_n 1, 1) := by decide +kernel
theorem ad_Run_figure_15 : decode prog_7_method_2_code 15 = .ok (.iaload, 1) := by decide +kernel
theorem ad_Run_figure_16 : decode prog_7_method_2_code 16 = .ok (.goto 4, 3) := by decide +kernel
theorem ad_Run_figure_19 : decode prog_7_method_2_code 19 = .ok (.iconst 0, 1) := by decide +kernel
theorem ad_Run_figure_20 : decode prog_7_method_2_code 20 = .ok (.ireturn, 1) := by decide +kernel
theorem ad_Run_go_0 : decode prog_7_method_3_code 0 = .ok (.aload_n 0, 1) := by decide +kernel
theorem ad_Run_go_1 : decode prog_7_method_3_code 1 = .ok (.getfield 29, 3) := by decide +kernel
theorem ad_Run_go_4 : decode prog_7_method_3_code 4 = .ok (.aload_n 1, 1) := by decide +kernel
theorem ad_Run_go_5 : decode prog_7_method_3_code 5 = .ok (.getfield 63, 3) := by decide +kernel
theorem ad_Run_go_8 : decode prog_7_method_3_code 8 = .ok (.invokevirtual 66, 3) := by decide +kernel
theorem ad_Run_go_11 : decode prog_7_method_3_code 11 = .ok (.aload_n 1, 1) := by decide +kernel
theorem ad_Run_go_12 : decode prog_7_method_3_code 12 = .ok (.getfield 70, 3) := by decide +kernel
theorem ad_Run_go_15 : decode prog_7_method_3_code 15 = .ok (.aload_n 0, 1) := by decide +kernel
theorem ad_Run_go_16 : decode prog_7_method_3_code 16 = .ok (.getfield 33, 3) := by decide +kernel
theorem ad_Run_go_19 : decode prog_7_method_3_code 19 = .ok (.invokestatic 71, 3) := by decide +kernel
theorem ad_Run_go_22 : decode prog_7_method_3_code 22 = .ok (.aload_n 1, 1) := by decide +kernel
theorem ad_Run_go_23 : decode prog_7_method_3_code 23 = .ok (.getfield 75, 3) := by decide +kernel
theorem ad_Run_go_26 : decode prog_7_method_3_code 26 = .ok (.aload_n 0, 1) := by decide +kernel
theorem ad_Run_go_27 : decode prog_7_method_3_code 27 = .ok (.getfield 36, 3) := by decide +kernel
theorem ad_Run_go_30 : decode prog_7_method_3_code 30 = .ok (.invokestatic 71, 3) := by decide +kernel
theorem ad_Run_go_33 : decode prog_7_method_3_code 33 = .ok (.aload_n 0, 1) := by decide +kernel
theorem ad_Run_go_34 : decode prog_7_method_3_code 34 = .ok (.iconst 1, 1) := by decide +kernel
theorem ad_Run_go_35 : decode prog_7_method_3_code 35 = .ok (.putfield 9, 3) := by decide +kernel
theorem ad_Run_go_38 : decode prog_7_method_3_code 38 = .ok (.aload_n 0, 1) := by decide +kernel
theorem ad_Run_go_39 : decode prog_7_method_3_code 39 = .ok (.aload_n 0, 1) := by decide +kernel
theorem ad_Run_go_40 : decode prog_7_method_3_code 40 = .ok (.getfield 29, 3) := by decide +kernel
theorem ad_Run_go_43 : decode prog_7_method_3_code 43 = .ok (.getfield 76, 3) := by decide +kernel
theorem ad_Run_go_46 : decode prog_7_method_3_code 46 = .ok (.putfield 15, 3) := by decide +kernel
theorem ad_Run_go_49 : decode prog_7_method_3_code 49 = .ok (.aload_n 0, 1) := by decide +kernel
theorem ad_Run_go_50 : decode prog_7_method_3_code 50 = .ok (.iload_n 3, 1) := by decide +kernel
theorem ad_Run_go_51 : decode prog_7_method_3_code 51 = .ok (.putfield 60, 3) := by decide +kernel
theorem ad_Run_go_54 : decode prog_7_method_3_code 54 = .ok (.aload_n 0, 1) := by decide +kernel
theorem ad_Run_go_55 : decode prog_7_method_3_code 55 = .ok (.getfield 19, 3) := by decide +kernel
theorem ad_Run_go_58 : decode prog_7_method_3_code 58 = .ok (.iconst 0, 1) := by decide +kernel
theorem ad_Run_go_59 : decode prog_7_method_3_code 59 = .ok (.invokestatic 77, 3) := by decide +kernel
theorem ad_Run_go_62 : decode prog_7_method_3_code 62 = .ok (.aload_n 0, 1) := by decide +kernel
theorem ad_Run_go_63 : decode prog_7_method_3_code 63 = .ok (.getfield 23, 3) := by decide +kernel
theorem ad_Run_go_66 : decode prog_7_method_3_code 66 = .ok (.iconst 0, 1) := by decide +kernel
theorem ad_Run_go_67 : decode prog_7_method_3_code 67 = .ok (.invokestatic 77, 3) := by decide +kernel
theorem ad_Run_go_70 : decode prog_7_method_3_code 70 = .ok (.aload_n 0, 1) := by decide +kernel
theorem ad_Run_go_71 : decode prog_7_method_3_code 71 = .ok (.getfield 23, 3) := by decide +kernel
theorem ad_Run_go_74 : decode prog_7_method_3_code 74 = .ok (.iconst 5, 1) := by decide +kernel
theorem ad_Run_go_75 : decode prog_7_method_3_code 75 = .ok (.iconst (-1), 1) := by decide +kernel
theorem ad_Run_go_76 : decode prog_7_method_3_code 76 = .ok (.iastore, 1) := by decide +kernel
theorem ad_Run_go_77 : decode prog_7_method_3_code 77 = .ok (.aload_n 0, 1) := by decide +kernel
theorem ad_Run_go_78 : decode prog_7_method_3_code 78 = .ok (.getfield 42, 3) := by decide +kernel
theorem ad_Run_go_81 : decode prog_7_method_3_code 81 = .ok (.invokevirtual 83, 3) := by decide +kernel
theorem ad_Run_go_84 : decode prog_7_method_3_code 84 = .ok (.aload_n 0, 1) := by decide +kernel
theorem ad_Run_go_85 : decode prog_7_method_3_code 85 = .ok (.iload_n 2, 1) := by decide +kernel
theorem ad_Run_go_86 : decode prog_7_method_3_code 86 = .ok (.bipush 20, 2) := by decide +kernel
theorem ad_Run_go_88 : decode prog_7_method_3_code 88 = .ok (.invokestatic 86, 3) := by decide +kernel
theorem ad_Run_go_91 : decode prog_7_method_3_code 91 = .ok (.invokevirtual 92, 3) := by decide +kernel
theorem ad_Run_go_94 : decode prog_7_method_3_code 94 = .ok (.iconst 0, 1) := by decide +kernel
theorem ad_Run_go_95 : decode prog_7_method_3_code 95 = .ok (.istore 4, 2) := by decide +kernel
theorem ad_Run_go_97 : decode prog_7_method_3_code 97 = .ok (.iload 4, 2) := by decide +kernel
theorem ad_Run_go_99 : decode prog_7_method_3_code 99 = .ok (.iload_n 2, 1) := by decide +kernel
theorem ad_Run_go_100 : decode prog_7_method_3_code 100 = .ok (.if_icmp .ge 58, 3) := by decide +kernel
theorem ad_Run_go_103 : decode prog_7_method_3_code 103 = .ok (.iload 4, 2) := by decide +kernel
theorem ad_Run_go_105 : decode prog_7_method_3_code 105 = .ok (.bipush 60, 2) := by decide +kernel
theorem ad_Run_go_107 : decode prog_7_method_3_code 107 = .ok (.if_icmp .ge 51, 3) := by decide +kernel
theorem ad_Run_go_110 : decode prog_7_method_3_code 110 = .ok (.iload_n 2, 1) := by decide +kernel
theorem ad_Run_go_111 : decode prog_7_method_3_code 111 = .ok (.iload 4, 2) := by decide +kernel
theorem ad_Run_go_113 : decode prog_7_method_3_code 113 = .ok (.isub, 1) := by decide +kernel
theorem ad_Run_go_114 : decode prog_7_method_3_code 114 = .ok (.bipush 20, 2) := by decide +kernel
theorem ad_Run_go_116 : decode prog_7_method_3_code 116 = .ok (.invokestatic 86, 3) := by decide +kernel
theorem ad_Run_go_119 : decode prog_7_method_3_code 119 = .ok (.istore 5, 2) := by decide +kernel
theorem ad_Run_go_121 : decode prog_7_method_3_code 121 = .ok (.iconst 0, 1) := by decide +kernel
theorem ad_Run_go_122 : decode prog_7_method_3_code 122 = .ok (.istore 6, 2) := by decide +kernel
theorem ad_Run_go_124 : decode prog_7_method_3_code 124 = .ok (.iload 6, 2) := by decide +kernel
theorem ad_Run_go_126 : decode prog_7_method_3_code 126 = .ok (.aload_n 0, 1) := by decide +kernel
theorem ad_Run_go_127 : decode prog_7_method_3_code 127 = .ok (.getfield 29, 3) := by decide +kernel
theorem ad_Run_go_130 : decode prog_7_method_3_code 130 = .ok (.getfield 96, 3) := by decide +kernel
theorem ad_Run_go_133 : decode prog_7_method_3_code 133 = .ok (.if_icmp .ge 19, 3) := by decide +kernel
theorem ad_Run_go_136 : decode prog_7_method_3_code 136 = .ok (.aload_n 0, 1) := by decide +kernel
theorem ad_Run_go_137 : decode prog_7_method_3_code 137 = .ok (.iload 4, 2) := by decide +kernel
theorem ad_Run_go_139 : decode prog_7_method_3_code 139 = .ok (.iload 6, 2) := by decide +kernel
theorem ad_Run_go_141 : decode prog_7_method_3_code 141 = .ok (.iload 5, 2) := by decide +kernel
theorem ad_Run_go_143 : decode prog_7_method_3_code 143 = .ok (.invokevirtual 99, 3) := by decide +kernel
theorem ad_Run_go_146 : decode prog_7_method_3_code 146 = .ok (.iinc 6 1, 3) := by decide +kernel
theorem ad_Run_go_149 : decode prog_7_method_3_code 149 = .ok (.goto (-25), 3) := by decide +kernel
theorem ad_Run_go_152 : decode prog_7_method_3_code 152 = .ok (.iinc 4 1, 3) := by decide +kernel
theorem ad_Run_go_155 : decode prog_7_method_3_code 155 = .ok (.goto (-58), 3) := by decide +kernel
theorem ad_Run_go_158 : decode prog_7_method_3_code 158 = .ok (.return_, 1) := by decide +kernel
theorem ad_Run_makePlans_0 : decode prog_7_method_4_code 0 = .ok (.iconst 0, 1) := by decide +kernel
theorem ad_Run_makePlans_1 : decode prog_7_method_4_code 1 = .ok (.istore_n 2, 1) := by decide +kernel
theorem ad_Run_makePlans_2 : decode prog_7_method_4_code 2 = .ok (.iload_n 2, 1) := by decide +kernel
theorem ad_Run_makePlans_3 : decode prog_7_method_4_code 3 = .ok (.aload_n 0, 1) := by decide +kernel
theorem ad_Run_makePlans_4 : decode prog_7_method_4_code 4 = .ok (.getfield 15, 3) := by decide +kernel
theorem ad_Run_makePlans_7 : decode prog_7_method_4_code 7 = .ok (.if_icmp .ge 47, 3) := by decide +kernel
theorem ad_Run_makePlans_10 : decode prog_7_method_4_code 10 = .ok (.iconst 0, 1) := by decide +kernel
theorem ad_Run_makePlans_11 : decode prog_7_method_4_code 11 = .ok (.istore_n 3, 1) := by decide +kernel
theorem ad_Run_makePlans_12 : decode prog_7_method_4_code 12 = .ok (.iload_n 3, 1) := by decide +kernel
theorem ad_Run_makePlans_13 : decode prog_7_method_4_code 13 = .ok (.aload_n 0, 1) := by decide +kernel
theorem ad_Run_makePlans_14 : decode prog_7_method_4_code 14 = .ok (.getfield 29, 3) := by decide +kernel
theorem ad_Run_makePlans_17 : decode prog_7_method_4_code 17 = .ok (.getfield 96, 3) := by decide +kernel
theorem ad_Run_makePlans_20 : decode prog_7_method_4_code 20 = .ok (.if_icmp .ge 28, 3) := by decide +kernel
theorem ad_Run_makePlans_23 : decode prog_7_method_4_code 23 = .ok (.aload_n 0, 1) := by decide +kernel
theorem ad_Run_makePlans_24 : decode prog_7_method_4_code 24 = .ok (.getfield 29, 3) := by decide +kernel
theorem ad_Run_makePlans_27 : decode prog_7_method_4_code 27 = .ok (.iload_n 2, 1) := by decide +kernel
theorem ad_Run_makePlans_28 : decode prog_7_method_4_code 28 = .ok (.iload_n 3, 1) := by decide +kernel
theorem ad_Run_makePlans_29 : decode prog_7_method_4_code 29 = .ok (.invokevirtual 103, 3) := by decide +kernel
theorem ad_Run_makePlans_32 : decode prog_7_method_4_code 32 = .ok (.ifCond .eq 10, 3) := by decide +kernel
theorem ad_Run_makePlans_35 : decode prog_7_method_4_code 35 = .ok (.aload_n 0, 1) := by decide +kernel
theorem ad_Run_makePlans_36 : decode prog_7_method_4_code 36 = .ok (.iload_n 2, 1) := by decide +kernel
theorem ad_Run_makePlans_37 : decode prog_7_method_4_code 37 = .ok (.iload_n 3, 1) := by decide +kernel
theorem ad_Run_makePlans_38 : decode prog_7_method_4_code 38 = .ok (.iload_n 1, 1) := by decide +kernel
theorem ad_Run_makePlans_39 : decode prog_7_method_4_code 39 = .ok (.invokevirtual 107, 3) := by decide +kernel
theorem ad_Run_makePlans_42 : decode prog_7_method_4_code 42 = .ok (.iinc 3 1, 3) := by decide +kernel
theorem ad_Run_makePlans_45 : decode prog_7_method_4_code 45 = .ok (.goto (-33), 3) := by decide +kernel
theorem ad_Run_makePlans_48 : decode prog_7_method_4_code 48 = .ok (.iinc 2 1, 3) := by decide +kernel
theorem ad_Run_makePlans_51 : decode prog_7_method_4_code 51 = .ok (.goto (-49), 3) := by decide +kernel
theorem ad_Run_makePlans_54 : decode prog_7_method_4_code 54 = .ok (.return_, 1) := by decide +kernel
theorem ad_Run_makePlan_0 : decode prog_7_method_5_code 0 = .ok (.iload_n 1, 1) := by decide +kernel
theorem ad_Run_makePlan_1 : decode prog_7_method_5_code 1 = .ok (.bipush 48, 2) := by decide +kernel
theorem ad_Run_makePlan_3 : decode prog_7_method_5_code 3 = .ok (.imul, 1) := by decide +kernel
theorem ad_Run_makePlan_4 : decode prog_7_method_5_code 4 = .ok (.iload_n 2, 1) := by decide +kernel
theorem ad_Run_makePlan_5 : decode prog_7_method_5_code 5 = .ok (.iadd, 1) := by decide +kernel
theorem ad_Run_makePlan_6 : decode prog_7_method_5_code 6 = .ok (.istore 4, 2) := by decide +kernel
theorem ad_Run_makePlan_8 : decode prog_7_method_5_code 8 = .ok (.aload_n 0, 1) := by decide +kernel
theorem ad_Run_makePlan_9 : decode prog_7_method_5_code 9 = .ok (.getfield 33, 3) := by decide +kernel
theorem ad_Run_makePlan_12 : decode prog_7_method_5_code 12 = .ok (.iload_n 1, 1) := by decide +kernel
theorem ad_Run_makePlan_13 : decode prog_7_method_5_code 13 = .ok (.iaload, 1) := by decide +kernel
theorem ad_Run_makePlan_14 : decode prog_7_method_5_code 14 = .ok (.iconst 3, 1) := by decide +kernel
theorem ad_Run_makePlan_15 : decode prog_7_method_5_code 15 = .ok (.if_icmp .ne 32, 3) := by decide +kernel
theorem ad_Run_makePlan_18 : decode prog_7_method_5_code 18 = .ok (.aload_n 0, 1) := by decide +kernel
theorem ad_Run_makePlan_19 : decode prog_7_method_5_code 19 = .ok (.getfield 49, 3) := by decide +kernel
theorem ad_Run_makePlan_22 : decode prog_7_method_5_code 22 = .ok (.aload_n 0, 1) := by decide +kernel
theorem ad_Run_makePlan_23 : decode prog_7_method_5_code 23 = .ok (.getfield 29, 3) := by decide +kernel
theorem ad_Run_makePlan_26 : decode prog_7_method_5_code 26 = .ok (.iload_n 1, 1) := by decide +kernel
theorem ad_Run_makePlan_27 : decode prog_7_method_5_code 27 = .ok (.iload_n 2, 1) := by decide +kernel
theorem ad_Run_makePlan_28 : decode prog_7_method_5_code 28 = .ok (.iload_n 3, 1) := by decide +kernel
theorem ad_Run_makePlan_29 : decode prog_7_method_5_code 29 = .ok (.iconst 0, 1) := by decide +kernel
theorem ad_Run_makePlan_30 : decode prog_7_method_5_code 30 = .ok (.invokevirtual 110, 3) := by decide +kernel
theorem ad_Run_makePlan_33 : decode prog_7_method_5_code 33 = .ok (.aload_n 0, 1) := by decide +kernel
theorem ad_Run_makePlan_34 : decode prog_7_method_5_code 34 = .ok (.getfield 53, 3) := by decide +kernel
theorem ad_Run_makePlan_37 : decode prog_7_method_5_code 37 = .ok (.iload 4, 2) := by decide +kernel
theorem ad_Run_makePlan_39 : decode prog_7_method_5_code 39 = .ok (.aload_n 0, 1) := by decide +kernel
theorem ad_Run_makePlan_40 : decode prog_7_method_5_code 40 = .ok (.getfield 49, 3) := by decide +kernel
theorem ad_Run_makePlan_43 : decode prog_7_method_5_code 43 = .ok (.invokevirtual 113, 3) := by decide +kernel
theorem ad_Run_makePlan_46 : decode prog_7_method_5_code 46 = .ok (.lastore, 1) := by decide +kernel
theorem ad_Run_makePlan_47 : decode prog_7_method_5_code 47 = .ok (.aload_n 0, 1) := by decide +kernel
theorem ad_Run_makePlan_48 : decode prog_7_method_5_code 48 = .ok (.getfield 36, 3) := by decide +kernel
theorem ad_Run_makePlan_51 : decode prog_7_method_5_code 51 = .ok (.aload_n 0, 1) := by decide +kernel
theorem ad_Run_makePlan_52 : decode prog_7_method_5_code 52 = .ok (.getfield 29, 3) := by decide +kernel
theorem ad_Run_makePlan_55 : decode prog_7_method_5_code 55 = .ok (.getfield 117, 3) := by decide +kernel
theorem ad_Run_makePlan_58 : decode prog_7_method_5_code 58 = .ok (.iload_n 2, 1) := by decide +kernel
theorem ad_Run_makePlan_59 : decode prog_7_method_5_code 59 = .ok (.iaload, 1) := by decide +kernel
theorem ad_Run_makePlan_60 : decode prog_7_method_5_code 60 = .ok (.iaload, 1) := by decide +kernel
theorem ad_Run_makePlan_61 : decode prog_7_method_5_code 61 = .ok (.iconst 2, 1) := by decide +kernel
theorem ad_Run_makePlan_62 : decode prog_7_method_5_code 62 = .ok (.if_icmp .ne 32, 3) := by decide +kernel
theorem ad_Run_makePlan_65 : decode prog_7_method_5_code 65 = .ok (.aload_n 0, 1) := by decide +kernel
theorem ad_Run_makePlan_66 : decode prog_7_method_5_code 66 = .ok (.getfield 49, 3) := by decide +kernel
theorem ad_Run_makePlan_69 : decode prog_7_method_5_code 69 = .ok (.aload_n 0, 1) := by decide +kernel
theorem ad_Run_makePlan_70 : decode prog_7_method_5_code 70 = .ok (.getfield 29, 3) := by decide +kernel
theorem ad_Run_makePlan_73 : decode prog_7_method_5_code 73 = .ok (.iload_n 1, 1) := by decide +kernel
theorem ad_Run_makePlan_74 : decode prog_7_method_5_code 74 = .ok (.iload_n 2, 1) := by decide +kernel
theorem ad_Run_makePlan_75 : decode prog_7_method_5_code 75 = .ok (.iload_n 3, 1) := by decide +kernel
theorem ad_Run_makePlan_76 : decode prog_7_method_5_code 76 = .ok (.iconst 1, 1) := by decide +kernel
theorem ad_Run_makePlan_77 : decode prog_7_method_5_code 77 = .ok (.invokevirtual 110, 3) := by decide +kernel
theorem ad_Run_makePlan_80 : decode prog_7_method_5_code 80 = .ok (.aload_n 0, 1) := by decide +kernel
theorem ad_Run_makePlan_81 : decode prog_7_method_5_code 81 = .ok (.getfield 57, 3) := by decide +kernel
theorem ad_Run_makePlan_84 : decode prog_7_method_5_code 84 = .ok (.iload 4, 2) := by decide +kernel
theorem ad_Run_makePlan_86 : decode prog_7_method_5_code 86 = .ok (.aload_n 0, 1) := by decide +kernel
theorem ad_Run_makePlan_87 : decode prog_7_method_5_code 87 = .ok (.getfield 49, 3) := by decide +kernel
theorem ad_Run_makePlan_90 : decode prog_7_method_5_code 90 = .ok (.invokevirtual 113, 3) := by decide +kernel
theorem ad_Run_makePlan_93 : decode prog_7_method_5_code 93 = .ok (.lastore, 1) := by decide +kernel
theorem ad_Run_makePlan_94 : decode prog_7_method_5_code 94 = .ok (.return_, 1) := by decide +kernel
theorem ad_Run_planned_0 : decode prog_7_method_6_code 0 = .ok (.lload_n 0, 1) := by decide +kernel
theorem ad_Run_planned_1 : decode prog_7_method_6_code 1 = .ok (.iconst 2, 1) := by decide +kernel
theorem ad_Run_planned_2 : decode prog_7_method_6_code 2 = .ok (.iload_n 2, 1) := by decide +kernel
theorem ad_Run_planned_3 : decode prog_7_method_6_code 3 = .ok (.imul, 1) := by decide +kernel
theorem ad_Run_planned_4 : decode prog_7_method_6_code 4 = .ok (.lushr, 1) := by decide +kernel
theorem ad_Run_planned_5 : decode prog_7_method_6_code 5 = .ok (.l2i, 1) := by decide +kernel
theorem ad_Run_planned_6 : decode prog_7_method_6_code 6 = .ok (.iconst 3, 1) := by decide +kernel
theorem ad_Run_planned_7 : decode prog_7_method_6_code 7 = .ok (.iand, 1) := by decide +kernel
theorem ad_Run_planned_8 : decode prog_7_method_6_code 8 = .ok (.ireturn, 1) := by decide +kernel
theorem ad_Run_meet_0 : decode prog_7_method_7_code 0 = .ok (.iconst 0, 1) := by decide +kernel
theorem ad_Run_meet_1 : decode prog_7_method_7_code 1 = .ok (.istore 4, 2) := by decide +kernel
theorem ad_Run_meet_3 : decode prog_7_method_7_code 3 = .ok (.iload 4, 2) := by decide +kernel
theorem ad_Run_meet_5 : decode prog_7_method_7_code 5 = .ok (.aload_n 0, 1) := by decide +kernel
theorem ad_Run_meet_6 : decode prog_7_method_7_code 6 = .ok (.getfield 15, 3) := by decide +kernel
theorem ad_Run_meet_9 : decode prog_7_method_7_code 9 = .ok (.if_icmp .ge 31, 3) := by decide +kernel
theorem ad_Run_meet_12 : decode prog_7_method_7_code 12 = .ok (.aload_n 0, 1) := by decide +kernel
theorem ad_Run_meet_13 : decode prog_7_method_7_code 13 = .ok (.getfield 42, 3) := by decide +kernel
theorem ad_Run_meet_16 : decode prog_7_method_7_code 16 = .ok (.iload 4, 2) := by decide +kernel
theorem ad_Run_meet_18 : decode prog_7_method_7_code 18 = .ok (.iload_n 2, 1) := by decide +kernel
theorem ad_Run_meet_19 : decode prog_7_method_7_code 19 = .ok (.iload_n 1, 1) := by decide +kernel
theorem ad_Run_meet_20 : decode prog_7_method_7_code 20 = .ok (.invokevirtual 120, 3) := by decide +kernel
theorem ad_Run_meet_23 : decode prog_7_method_7_code 23 = .ok (.ifCond .eq 11, 3) := by decide +kernel
theorem ad_Run_meet_26 : decode prog_7_method_7_code 26 = .ok (.aload_n 0, 1) := by decide +kernel
theorem ad_Run_meet_27 : decode prog_7_method_7_code 27 = .ok (.iload 4, 2) := by decide +kernel
theorem ad_Run_meet_29 : decode prog_7_method_7_code 29 = .ok (.iload_n 2, 1) := by decide +kernel
theorem ad_Run_meet_30 : decode prog_7_method_7_code 30 = .ok (.invokevirtual 124, 3) := by decide +kernel
theorem ad_Run_meet_33 : decode prog_7_method_7_code 33 = .ok (.return_, 1) := by decide +kernel
theorem ad_Run_meet_34 : decode prog_7_method_7_code 34 = .ok (.iinc 4 1, 3) := by decide +kernel
theorem ad_Run_meet_37 : decode prog_7_method_7_code 37 = .ok (.goto (-34), 3) := by decide +kernel
theorem ad_Run_meet_40 : decode prog_7_method_7_code 40 = .ok (.iconst 0, 1) := by decide +kernel
theorem ad_Run_meet_41 : decode prog_7_method_7_code 41 = .ok (.istore 4, 2) := by decide +kernel
theorem ad_Run_meet_43 : decode prog_7_method_7_code 43 = .ok (.iload 4, 2) := by decide +kernel
theorem ad_Run_meet_45 : decode prog_7_method_7_code 45 = .ok (.aload_n 0, 1) := by decide +kernel
theorem ad_Run_meet_46 : decode prog_7_method_7_code 46 = .ok (.getfield 15, 3) := by decide +kernel
theorem ad_Run_meet_49 : decode prog_7_method_7_code 49 = .ok (.if_icmp .ge 76, 3) := by decide +kernel
theorem ad_Run_meet_52 : decode prog_7_method_7_code 52 = .ok (.aload_n 0, 1) := by decide +kernel
theorem ad_Run_meet_53 : decode prog_7_method_7_code 53 = .ok (.getfield 29, 3) := by decide +kernel
theorem ad_Run_meet_56 : decode prog_7_method_7_code 56 = .ok (.iload 4, 2) := by decide +kernel
theorem ad_Run_meet_58 : decode prog_7_method_7_code 58 = .ok (.iload_n 2, 1) := by decide +kernel
theorem ad_Run_meet_59 : decode prog_7_method_7_code 59 = .ok (.invokevirtual 103, 3) := by decide +kernel
theorem ad_Run_meet_62 : decode prog_7_method_7_code 62 = .ok (.ifCond .eq 14, 3) := by decide +kernel
theorem ad_Run_meet_65 : decode prog_7_method_7_code 65 = .ok (.aload_n 0, 1) := by decide +kernel
theorem ad_Run_meet_66 : decode prog_7_method_7_code 66 = .ok (.iload 4, 2) := by decide +kernel
theorem ad_Run_meet_68 : decode prog_7_method_7_code 68 = .ok (.iload_n 2, 1) := by decide +kernel
theorem ad_Run_meet_69 : decode prog_7_method_7_code 69 = .ok (.iload_n 3, 1) := by decide +kernel
theorem ad_Run_meet_70 : decode prog_7_method_7_code 70 = .ok (.invokevirtual 128, 3) := by decide +kernel
theorem ad_Run_meet_73 : decode prog_7_method_7_code 73 = .ok (.goto 4, 3) := by decide +kernel
theorem ad_Run_meet_76 : decode prog_7_method_7_code 76 = .ok (.iconst 0, 1) := by decide +kernel
theorem ad_Run_meet_77 : decode prog_7_method_7_code 77 = .ok (.istore 5, 2) := by decide +kernel
theorem ad_Run_meet_79 : decode prog_7_method_7_code 79 = .ok (.iload 5, 2) := by decide +kernel
theorem ad_Run_meet_81 : decode prog_7_method_7_code 81 = .ok (.iconst 2, 1) := by decide +kernel
theorem ad_Run_meet_82 : decode prog_7_method_7_code 82 = .ok (.if_icmp .ne 21, 3) := by decide +kernel
theorem ad_Run_meet_85 : decode prog_7_method_7_code 85 = .ok (.aload_n 0, 1) := by decide +kernel
theorem ad_Run_meet_86 : decode prog_7_method_7_code 86 = .ok (.iload 4, 2) := by decide +kernel
theorem ad_Run_meet_88 : decode prog_7_method_7_code 88 = .ok (.iload_n 2, 1) := by decide +kernel
theorem ad_Run_meet_89 : decode prog_7_method_7_code 89 = .ok (.invokevirtual 124, 3) := by decide +kernel
theorem ad_Run_meet_92 : decode prog_7_method_7_code 92 = .ok (.aload_n 0, 1) := by decide +kernel
theorem ad_Run_meet_93 : decode prog_7_method_7_code 93 = .ok (.iload_n 1, 1) := by decide +kernel
theorem ad_Run_meet_94 : decode prog_7_method_7_code 94 = .ok (.iload_n 2, 1) := by decide +kernel
theorem ad_Run_meet_95 : decode prog_7_method_7_code 95 = .ok (.iload_n 3, 1) := by decide +kernel
theorem ad_Run_meet_96 : decode prog_7_method_7_code 96 = .ok (.iload 4, 2) := by decide +kernel
theorem ad_Run_meet_98 : decode prog_7_method_7_code 98 = .ok (.iconst (-1), 1) := by decide +kernel
theorem ad_Run_meet_99 : decode prog_7_method_7_code 99 = .ok (.invokevirtual 132, 3) := by decide +kernel
theorem ad_Run_meet_102 : decode prog_7_method_7_code 102 = .ok (.return_, 1) := by decide +kernel
theorem ad_Run_meet_103 : decode prog_7_method_7_code 103 = .ok (.iload 5, 2) := by decide +kernel
theorem ad_Run_meet_105 : decode prog_7_method_7_code 105 = .ok (.iconst 1, 1) := by decide +kernel
theorem ad_Run_meet_106 : decode prog_7_method_7_code 106 = .ok (.if_icmp .ne 13, 3) := by decide +kernel
theorem ad_Run_meet_109 : decode prog_7_method_7_code 109 = .ok (.aload_n 0, 1) := by decide +kernel
theorem ad_Run_meet_110 : decode prog_7_method_7_code 110 = .ok (.iload_n 1, 1) := by decide +kernel
theorem ad_Run_meet_111 : decode prog_7_method_7_code 111 = .ok (.iload_n 2, 1) := by decide +kernel
theorem ad_Run_meet_112 : decode prog_7_method_7_code 112 = .ok (.iload_n 3, 1) := by decide +kernel
theorem ad_Run_meet_113 : decode prog_7_method_7_code 113 = .ok (.iload 4, 2) := by decide +kernel
theorem ad_Run_meet_115 : decode prog_7_method_7_code 115 = .ok (.invokevirtual 136, 3) := by decide +kernel
theorem ad_Run_meet_118 : decode prog_7_method_7_code 118 = .ok (.return_, 1) := by decide +kernel
theorem ad_Run_meet_119 : decode prog_7_method_7_code 119 = .ok (.iinc 4 1, 3) := by decide +kernel
theorem ad_Run_meet_122 : decode prog_7_method_7_code 122 = .ok (.goto (-79), 3) := by decide +kernel
theorem ad_Run_meet_125 : decode prog_7_method_7_code 125 = .ok (.aload_n 0, 1) := by decide +kernel
theorem ad_Run_meet_126 : decode prog_7_method_7_code 126 = .ok (.getfield 23, 3) := by decide +kernel
theorem ad_Run_meet_129 : decode prog_7_method_7_code 129 = .ok (.bipush 6, 2) := by decide +kernel
theorem ad_Run_meet_131 : decode prog_7_method_7_code 131 = .ok (.dup2, 1) := by decide +kernel
theorem ad_Run_meet_132 : decode prog_7_method_7_code 132 = .ok (.iaload, 1) := by decide +kernel
theorem ad_Run_meet_133 : decode prog_7_method_7_code 133 = .ok (.iconst 1, 1) := by decide +kernel
theorem ad_Run_meet_134 : decode prog_7_method_7_code 134 = .ok (.iadd, 1) := by decide +kernel
theorem ad_Run_meet_135 : decode prog_7_method_7_code 135 = .ok (.iastore, 1) := by decide +kernel
theorem ad_Run_meet_136 : decode prog_7_method_7_code 136 = .ok (.return_, 1) := by decide +kernel
theorem ad_Run_freeAct_0 : decode prog_7_method_8_code 0 = .ok (.aload_n 0, 1) := by decide +kernel
theorem ad_Run_freeAct_1 : decode prog_7_method_8_code 1 = .ok (.getfield 33, 3) := by decide +kernel
theorem ad_Run_freeAct_4 : decode prog_7_method_8_code 4 = .ok (.iload_n 1, 1) := by decide +kernel
theorem ad_Run_freeAct_5 : decode prog_7_method_8_code 5 = .ok (.iaload, 1) := by decide +kernel
theorem ad_Run_freeAct_6 : decode prog_7_method_8_code 6 = .ok (.tableswitch 65 1 4 #[30, 32, 34, 50], 30) := by decide +kernel
theorem ad_Run_freeAct_36 : decode prog_7_method_8_code 36 = .ok (.iconst 2, 1) := by decide +kernel
theorem ad_Run_freeAct_37 : decode prog_7_method_8_code 37 = .ok (.ireturn, 1) := by decide +kernel
theorem ad_Run_freeAct_38 : decode prog_7_method_8_code 38 = .ok (.iconst 1, 1) := by decide +kernel
theorem ad_Run_freeAct_39 : decode prog_7_method_8_code 39 = .ok (.ireturn, 1) := by decide +kernel
theorem ad_Run_freeAct_40 : decode prog_7_method_8_code 40 = .ok (.aload_n 0, 1) := by decide +kernel
theorem ad_Run_freeAct_41 : decode prog_7_method_8_code 41 = .ok (.getfield 53, 3) := by decide +kernel
theorem ad_Run_freeAct_44 : decode prog_7_method_8_code 44 = .ok (.iload_n 1, 1) := by decide +kernel
theorem ad_Run_freeAct_45 : decode prog_7_method_8_code 45 = .ok (.bipush 48, 2) := by decide +kernel
theorem ad_Run_freeAct_47 : decode prog_7_method_8_code 47 = .ok (.imul, 1) := by decide +kernel
theorem ad_Run_freeAct_48 : decode prog_7_method_8_code 48 = .ok (.iload_n 2, 1) := by decide +kernel
theorem ad_Run_freeAct_49 : decode prog_7_method_8_code 49 = .ok (.iadd, 1) := by decide +kernel
theorem ad_Run_freeAct_50 : decode prog_7_method_8_code 50 = .ok (.laload, 1) := by decide +kernel
theorem ad_Run_freeAct_51 : decode prog_7_method_8_code 51 = .ok (.iload_n 3, 1) := by decide +kernel
theorem ad_Run_freeAct_52 : decode prog_7_method_8_code 52 = .ok (.invokestatic 140, 3) := by decide +kernel
theorem ad_Run_freeAct_55 : decode prog_7_method_8_code 55 = .ok (.ireturn, 1) := by decide +kernel
theorem ad_Run_freeAct_56 : decode prog_7_method_8_code 56 = .ok (.aload_n 0, 1) := by decide +kernel
theorem ad_Run_freeAct_57 : decode prog_7_method_8_code 57 = .ok (.iload_n 1, 1) := by decide +kernel
theorem ad_Run_freeAct_58 : decode prog_7_method_8_code 58 = .ok (.iload_n 2, 1) := by decide +kernel
theorem ad_Run_freeAct_59 : decode prog_7_method_8_code 59 = .ok (.invokevirtual 144, 3) := by decide +kernel
theorem ad_Run_freeAct_62 : decode prog_7_method_8_code 62 = .ok (.ifCond .lt 7, 3) := by decide +kernel
theorem ad_Run_freeAct_65 : decode prog_7_method_8_code 65 = .ok (.iconst 1, 1) := by decide +kernel
theorem ad_Run_freeAct_66 : decode prog_7_method_8_code 66 = .ok (.goto 4, 3) := by decide +kernel
theorem ad_Run_freeAct_69 : decode prog_7_method_8_code 69 = .ok (.iconst 0, 1) := by decide +kernel
theorem ad_Run_freeAct_70 : decode prog_7_method_8_code 70 = .ok (.ireturn, 1) := by decide +kernel
theorem ad_Run_freeAct_71 : decode prog_7_method_8_code 71 = .ok (.iconst 0, 1) := by decide +kernel
theorem ad_Run_freeAct_72 : decode prog_7_method_8_code 72 = .ok (.ireturn, 1) := by decide +kernel
theorem ad_Run_partnerOf_0 : decode prog_7_method_9_code 0 = .ok (.iload_n 1, 1) := by decide +kernel
theorem ad_Run_partnerOf_1 : decode prog_7_method_9_code 1 = .ok (.iconst 1, 1) := by decide +kernel
theorem ad_Run_partnerOf_2 : decode prog_7_method_9_code 2 = .ok (.iadd, 1) := by decide +kernel
theorem ad_Run_partnerOf_3 : decode prog_7_method_9_code 3 = .ok (.istore_n 3, 1) := by decide +kernel
theorem ad_Run_partnerOf_4 : decode prog_7_method_9_code 4 = .ok (.iload_n 3, 1) := by decide +kernel
theorem ad_Run_partnerOf_5 : decode prog_7_method_9_code 5 = .ok (.aload_n 0, 1) := by decide +kernel
theorem ad_Run_partnerOf_6 : decode prog_7_method_9_code 6 = .ok (.getfield 15, 3) := by decide +kernel
theorem ad_Run_partnerOf_9 : decode prog_7_method_9_code 9 = .ok (.if_icmp .ge 33, 3) := by decide +kernel
theorem ad_Run_partnerOf_12 : decode prog_7_method_9_code 12 = .ok (.aload_n 0, 1) := by decide +kernel
theorem ad_Run_partnerOf_13 : decode prog_7_method_9_code 13 = .ok (.getfield 33, 3) := by decide +kernel
theorem ad_Run_partnerOf_16 : decode prog_7_method_9_code 16 = .ok (.iload_n 3, 1) := by decide +kernel
theorem ad_Run_partnerOf_17 : decode prog_7_method_9_code 17 = .ok (.iaload, 1) := by decide +kernel
theorem ad_Run_partnerOf_18 : decode prog_7_method_9_code 18 = .ok (.iconst 4, 1) := by decide +kernel
theorem ad_Run_partnerOf_19 : decode prog_7_method_9_code 19 = .ok (.if_icmp .ne 17, 3) := by decide +kernel
theorem ad_Run_partnerOf_22 : decode prog_7_method_9_code 22 = .ok (.aload_n 0, 1) := by decide +kernel
theorem ad_Run_partnerOf_23 : decode prog_7_method_9_code 23 = .ok (.getfield 29, 3) := by decide +kernel
theorem ad_Run_partnerOf_26 : decode prog_7_method_9_code 26 = .ok (.iload_n 3, 1) := by decide +kernel
theorem ad_Run_partnerOf_27 : decode prog_7_method_9_code 27 = .ok (.iload_n 2, 1) := by decide +kernel
theorem ad_Run_partnerOf_28 : decode prog_7_method_9_code 28 = .ok (.invokevirtual 103, 3) := by decide +kernel
theorem ad_Run_partnerOf_31 : decode prog_7_method_9_code 31 = .ok (.ifCond .eq 5, 3) := by decide +kernel
theorem ad_Run_partnerOf_34 : decode prog_7_method_9_code 34 = .ok (.iload_n 3, 1) := by decide +kernel
theorem ad_Run_partnerOf_35 : decode prog_7_method_9_code 35 = .ok (.ireturn, 1) := by decide +kernel
theorem ad_Run_partnerOf_36 : decode prog_7_method_9_code 36 = .ok (.iinc 3 1, 3) := by decide +kernel
theorem ad_Run_partnerOf_39 : decode prog_7_method_9_code 39 = .ok (.goto (-35), 3) := by decide +kernel
theorem ad_Run_partnerOf_42 : decode prog_7_method_9_code 42 = .ok (.iconst (-1), 1) := by decide +kernel
theorem ad_Run_partnerOf_43 : decode prog_7_method_9_code 43 = .ok (.ireturn, 1) := by decide +kernel
theorem ad_Run_helpByDay_0 : decode prog_7_method_10_code 0 = .ok (.aload_n 0, 1) := by decide +kernel
theorem ad_Run_helpByDay_1 : decode prog_7_method_10_code 1 = .ok (.getfield 29, 3) := by decide +kernel
theorem ad_Run_helpByDay_4 : decode prog_7_method_10_code 4 = .ok (.getfield 147, 3) := by decide +kernel
theorem ad_Run_helpByDay_7 : decode prog_7_method_10_code 7 = .ok (.iload_n 2, 1) := by decide +kernel
theorem ad_Run_helpByDay_8 : decode prog_7_method_10_code 8 = .ok (.iaload, 1) := by decide +kernel
theorem ad_Run_helpByDay_9 : decode prog_7_method_10_code 9 = .ok (.istore_n 3, 1) := by decide +kernel
theorem ad_Run_helpByDay_10 : decode prog_7_method_10_code 10 = .ok (.aload_n 0, 1) := by decide +kernel
theorem ad_Run_helpByDay_11 : decode prog_7_method_10_code 11 = .ok (.getfield 23, 3) := by decide +kernel
theorem ad_Run_helpByDay_14 : decode prog_7_method_10_code 14 = .ok (.iconst 0, 1) := by decide +kernel
theorem ad_Run_helpByDay_15 : decode prog_7_method_10_code 15 = .ok (.dup2, 1) := by decide +kernel
theorem ad_Run_helpByDay_16 : decode prog_7_method_10_code 16 = .ok (.iaload, 1) := by decide +kernel
theorem ad_Run_helpByDay_17 : decode prog_7_method_10_code 17 = .ok (.iconst 1, 1) := by decide +kernel
theorem ad_Run_helpByDay_18 : decode prog_7_method_10_code 18 = .ok (.iadd, 1) := by decide +kernel
theorem ad_Run_helpByDay_19 : decode prog_7_method_10_code 19 = .ok (.iastore, 1) := by decide +kernel
theorem ad_Run_helpByDay_20 : decode prog_7_method_10_code 20 = .ok (.aload_n 0, 1) := by decide +kernel
theorem ad_Run_helpByDay_21 : decode prog_7_method_10_code 21 = .ok (.getfield 23, 3) := by decide +kernel
theorem ad_Run_helpByDay_24 : decode prog_7_method_10_code 24 = .ok (.bipush 7, 2) := by decide +kernel
theorem ad_Run_helpByDay_26 : decode prog_7_method_10_code 26 = .ok (.dup2, 1) := by decide +kernel
theorem ad_Run_helpByDay_27 : decode prog_7_method_10_code 27 = .ok (.iaload, 1) := by decide +kernel
theorem ad_Run_helpByDay_28 : decode prog_7_method_10_code 28 = .ok (.aload_n 0, 1) := by decide +kernel
theorem ad_Run_helpByDay_29 : decode prog_7_method_10_code 29 = .ok (.getfield 29, 3) := by decide +kernel
theorem ad_Run_helpByDay_32 : decode prog_7_method_10_code 32 = .ok (.getfield 150, 3) := by decide +kernel
theorem ad_Run_helpByDay_35 : decode prog_7_method_10_code 35 = .ok (.iload_n 3, 1) := by decide +kernel
theorem ad_Run_helpByDay_36 : decode prog_7_method_10_code 36 = .ok (.iaload, 1) := by decide +kernel
theorem ad_Run_helpByDay_37 : decode prog_7_method_10_code 37 = .ok (.aload_n 0, 1) := by decide +kernel
theorem ad_Run_helpByDay_38 : decode prog_7_method_10_code 38 = .ok (.getfield 29, 3) := by decide +kernel
theorem ad_Run_helpByDay_41 : decode prog_7_method_10_code 41 = .ok (.iload_n 1, 1) := by decide +kernel
theorem ad_Run_helpByDay_42 : decode prog_7_method_10_code 42 = .ok (.iload_n 3, 1) := by decide +kernel
theorem ad_Run_helpByDay_43 : decode prog_7_method_10_code 43 = .ok (.invokevirtual 153, 3) := by decide +kernel
theorem ad_Run_helpByDay_46 : decode prog_7_method_10_code 46 = .ok (.isub, 1) := by decide +kernel
theorem ad_Run_helpByDay_47 : decode prog_7_method_10_code 47 = .ok (.iadd, 1) := by decide +kernel
theorem ad_Run_helpByDay_48 : decode prog_7_method_10_code 48 = .ok (.iastore, 1) := by decide +kernel
theorem ad_Run_helpByDay_49 : decode prog_7_method_10_code 49 = .ok (.aload_n 0, 1) := by decide +kernel
theorem ad_Run_helpByDay_50 : decode prog_7_method_10_code 50 = .ok (.getfield 19, 3) := by decide +kernel
theorem ad_Run_helpByDay_53 : decode prog_7_method_10_code 53 = .ok (.iload_n 1, 1) := by decide +kernel
theorem ad_Run_helpByDay_54 : decode prog_7_method_10_code 54 = .ok (.dup2, 1) := by decide +kernel
theorem ad_Run_helpByDay_55 : decode prog_7_method_10_code 55 = .ok (.iaload, 1) := by decide +kernel
theorem ad_Run_helpByDay_56 : decode prog_7_method_10_code 56 = .ok (.iconst 1, 1) := by decide +kernel
theorem ad_Run_helpByDay_57 : decode prog_7_method_10_code 57 = .ok (.iadd, 1) := by decide +kernel
theorem ad_Run_helpByDay_58 : decode prog_7_method_10_code 58 = .ok (.iastore, 1) := by decide +kernel
theorem ad_Run_helpByDay_59 : decode prog_7_method_10_code 59 = .ok (.return_, 1) := by decide +kernel
theorem ad_Run_helpByNight_0 : decode prog_7_method_11_code 0 = .ok (.aload_n 0, 1) := by decide +kernel
theorem ad_Run_helpByNight_1 : decode prog_7_method_11_code 1 = .ok (.getfield 29, 3) := by decide +kernel
theorem ad_Run_helpByNight_4 : decode prog_7_method_11_code 4 = .ok (.getfield 147, 3) := by decide +kernel
theorem ad_Run_helpByNight_7 : decode prog_7_method_11_code 7 = .ok (.iload_n 2, 1) := by decide +kernel
theorem ad_Run_helpByNight_8 : decode prog_7_method_11_code 8 = .ok (.iaload, 1) := by decide +kernel
theorem ad_Run_helpByNight_9 : decode prog_7_method_11_code 9 = .ok (.istore 5, 2) := by decide +kernel
theorem ad_Run_helpByNight_11 : decode prog_7_method_11_code 11 = .ok (.aload_n 0, 1) := by decide +kernel
theorem ad_Run_helpByNight_12 : decode prog_7_method_11_code 12 = .ok (.getfield 33, 3) := by decide +kernel
theorem ad_Run_helpByNight_15 : decode prog_7_method_11_code 15 = .ok (.iload 4, 2) := by decide +kernel
theorem ad_Run_helpByNight_17 : decode prog_7_method_11_code 17 = .ok (.iaload, 1) := by decide +kernel
theorem ad_Run_helpByNight_18 : decode prog_7_method_11_code 18 = .ok (.iconst 4, 1) := by decide +kernel
theorem ad_Run_helpByNight_19 : decode prog_7_method_11_code 19 = .ok (.if_icmp .ne 13, 3) := by decide +kernel
theorem ad_Run_helpByNight_22 : decode prog_7_method_11_code 22 = .ok (.aload_n 0, 1) := by decide +kernel
theorem ad_Run_helpByNight_23 : decode prog_7_method_11_code 23 = .ok (.iload 4, 2) := by decide +kernel
theorem ad_Run_helpByNight_25 : decode prog_7_method_11_code 25 = .ok (.iload_n 2, 1) := by decide +kernel
theorem ad_Run_helpByNight_26 : decode prog_7_method_11_code 26 = .ok (.invokevirtual 144, 3) := by decide +kernel
theorem ad_Run_helpByNight_29 : decode prog_7_method_11_code 29 = .ok (.goto 4, 3) := by decide +kernel
theorem ad_Run_helpByNight_32 : decode prog_7_method_11_code 32 = .ok (.iconst (-1), 1) := by decide +kernel
theorem ad_Run_helpByNight_33 : decode prog_7_method_11_code 33 = .ok (.istore 6, 2) := by decide +kernel
theorem ad_Run_helpByNight_35 : decode prog_7_method_11_code 35 = .ok (.aload_n 0, 1) := by decide +kernel
theorem ad_Run_helpByNight_36 : decode prog_7_method_11_code 36 = .ok (.getfield 23, 3) := by decide +kernel
theorem ad_Run_helpByNight_39 : decode prog_7_method_11_code 39 = .ok (.iconst 1, 1) := by decide +kernel
theorem ad_Run_helpByNight_40 : decode prog_7_method_11_code 40 = .ok (.dup2, 1) := by decide +kernel
theorem ad_Run_helpByNight_41 : decode prog_7_method_11_code 41 = .ok (.iaload, 1) := by decide +kernel
theorem ad_Run_helpByNight_42 : decode prog_7_method_11_code 42 = .ok (.iconst 1, 1) := by decide +kernel
theorem ad_Run_helpByNight_43 : decode prog_7_method_11_code 43 = .ok (.iadd, 1) := by decide +kernel
theorem ad_Run_helpByNight_44 : decode prog_7_method_11_code 44 = .ok (.iastore, 1) := by decide +kernel
theorem ad_Run_helpByNight_45 : decode prog_7_method_11_code 45 = .ok (.aload_n 0, 1) := by decide +kernel
theorem ad_Run_helpByNight_46 : decode prog_7_method_11_code 46 = .ok (.getfield 23, 3) := by decide +kernel
theorem ad_Run_helpByNight_49 : decode prog_7_method_11_code 49 = .ok (.bipush 7, 2) := by decide +kernel
theorem ad_Run_helpByNight_51 : decode prog_7_method_11_code 51 = .ok (.dup2, 1) := by decide +kernel
theorem ad_Run_helpByNight_52 : decode prog_7_method_11_code 52 = .ok (.iaload, 1) := by decide +kernel
theorem ad_Run_helpByNight_53 : decode prog_7_method_11_code 53 = .ok (.aload_n 0, 1) := by decide +kernel
theorem ad_Run_helpByNight_54 : decode prog_7_method_11_code 54 = .ok (.getfield 29, 3) := by decide +kernel
theorem ad_Run_helpByNight_57 : decode prog_7_method_11_code 57 = .ok (.getfield 150, 3) := by decide +kernel
theorem ad_Run_helpByNight_60 : decode prog_7_method_11_code 60 = .ok (.iload 5, 2) := by decide +kernel
theorem ad_Run_helpByNight_62 : decode prog_7_method_11_code 62 = .ok (.iaload, 1) := by decide +kernel
theorem ad_Run_helpByNight_63 : decode prog_7_method_11_code 63 = .ok (.iadd, 1) := by decide +kernel
theorem ad_Run_helpByNight_64 : decode prog_7_method_11_code 64 = .ok (.iastore, 1) := by decide +kernel
theorem ad_Run_helpByNight_65 : decode prog_7_method_11_code 65 = .ok (.iload 6, 2) := by decide +kernel
theorem ad_Run_helpByNight_67 : decode prog_7_method_11_code 67 = .ok (.ifCond .ge 57, 3) := by decide +kernel
theorem ad_Run_helpByNight_70 : decode prog_7_method_11_code 70 = .ok (.aload_n 0, 1) := by decide +kernel
theorem ad_Run_helpByNight_71 : decode prog_7_method_11_code 71 = .ok (.getfield 23, 3) := by decide +kernel
theorem ad_Run_helpByNight_74 : decode prog_7_method_11_code 74 = .ok (.bipush 7, 2) := by decide +kernel
theorem ad_Run_helpByNight_76 : decode prog_7_method_11_code 76 = .ok (.dup2, 1) := by decide +kernel
theorem ad_Run_helpByNight_77 : decode prog_7_method_11_code 77 = .ok (.iaload, 1) := by decide +kernel
theorem ad_Run_helpByNight_78 : decode prog_7_method_11_code 78 = .ok (.aload_n 0, 1) := by decide +kernel
theorem ad_Run_helpByNight_79 : decode prog_7_method_11_code 79 = .ok (.getfield 29, 3) := by decide +kernel
theorem ad_Run_helpByNight_82 : decode prog_7_method_11_code 82 = .ok (.iload 4, 2) := by decide +kernel
theorem ad_Run_helpByNight_84 : decode prog_7_method_11_code 84 = .ok (.iload 5, 2) := by decide +kernel
theorem ad_Run_helpByNight_86 : decode prog_7_method_11_code 86 = .ok (.invokevirtual 153, 3) := by decide +kernel
theorem ad_Run_helpByNight_89 : decode prog_7_method_11_code 89 = .ok (.aload_n 0, 1) := by decide +kernel
theorem ad_Run_helpByNight_90 : decode prog_7_method_11_code 90 = .ok (.getfield 29, 3) := by decide +kernel
theorem ad_Run_helpByNight_93 : decode prog_7_method_11_code 93 = .ok (.getfield 156, 3) := by decide +kernel
theorem ad_Run_helpByNight_96 : decode prog_7_method_11_code 96 = .ok (.iload 5, 2) := by decide +kernel
theorem ad_Run_helpByNight_98 : decode prog_7_method_11_code 98 = .ok (.iaload, 1) := by decide +kernel
theorem ad_Run_helpByNight_99 : decode prog_7_method_11_code 99 = .ok (.iadd, 1) := by decide +kernel
theorem ad_Run_helpByNight_100 : decode prog_7_method_11_code 100 = .ok (.isub, 1) := by decide +kernel
theorem ad_Run_helpByNight_101 : decode prog_7_method_11_code 101 = .ok (.iastore, 1) := by decide +kernel
theorem ad_Run_helpByNight_102 : decode prog_7_method_11_code 102 = .ok (.aload_n 0, 1) := by decide +kernel
theorem ad_Run_helpByNight_103 : decode prog_7_method_11_code 103 = .ok (.getfield 19, 3) := by decide +kernel
theorem ad_Run_helpByNight_106 : decode prog_7_method_11_code 106 = .ok (.iload 4, 2) := by decide +kernel
theorem ad_Run_helpByNight_108 : decode prog_7_method_11_code 108 = .ok (.dup2, 1) := by decide +kernel
theorem ad_Run_helpByNight_109 : decode prog_7_method_11_code 109 = .ok (.iaload, 1) := by decide +kernel
theorem ad_Run_helpByNight_110 : decode prog_7_method_11_code 110 = .ok (.iconst 1, 1) := by decide +kernel
theorem ad_Run_helpByNight_111 : decode prog_7_method_11_code 111 = .ok (.iadd, 1) := by decide +kernel
theorem ad_Run_helpByNight_112 : decode prog_7_method_11_code 112 = .ok (.iastore, 1) := by decide +kernel
theorem ad_Run_helpByNight_113 : decode prog_7_method_11_code 113 = .ok (.aload_n 0, 1) := by decide +kernel
theorem ad_Run_helpByNight_114 : decode prog_7_method_11_code 114 = .ok (.iload 4, 2) := by decide +kernel
theorem ad_Run_helpByNight_116 : decode prog_7_method_11_code 116 = .ok (.invokevirtual 159, 3) := by decide +kernel
theorem ad_Run_helpByNight_119 : decode prog_7_method_11_code 119 = .ok (.istore 7, 2) := by decide +kernel
theorem ad_Run_helpByNight_121 : decode prog_7_method_11_code 121 = .ok (.goto 134, 3) := by decide +kernel
theorem ad_Run_helpByNight_124 : decode prog_7_method_11_code 124 = .ok (.aload_n 0, 1) := by decide +kernel
theorem ad_Run_helpByNight_125 : decode prog_7_method_11_code 125 = .ok (.getfield 23, 3) := by decide +kernel
theorem ad_Run_helpByNight_128 : decode prog_7_method_11_code 128 = .ok (.bipush 7, 2) := by decide +kernel
theorem ad_Run_helpByNight_130 : decode prog_7_method_11_code 130 = .ok (.dup2, 1) := by decide +kernel
theorem ad_Run_helpByNight_131 : decode prog_7_method_11_code 131 = .ok (.iaload, 1) := by decide +kernel
theorem ad_Run_helpByNight_132 : decode prog_7_method_11_code 132 = .ok (.aload_n 0, 1) := by decide +kernel
theorem ad_Run_helpByNight_133 : decode prog_7_method_11_code 133 = .ok (.getfield 29, 3) := by decide +kernel
theorem ad_Run_helpByNight_136 : decode prog_7_method_11_code 136 = .ok (.iload 4, 2) := by decide +kernel
theorem ad_Run_helpByNight_138 : decode prog_7_method_11_code 138 = .ok (.iload 5, 2) := by decide +kernel
theorem ad_Run_helpByNight_140 : decode prog_7_method_11_code 140 = .ok (.invokevirtual 153, 3) := by decide +kernel
theorem ad_Run_helpByNight_143 : decode prog_7_method_11_code 143 = .ok (.invokestatic 163, 3) := by decide +kernel
theorem ad_Run_helpByNight_146 : decode prog_7_method_11_code 146 = .ok (.aload_n 0, 1) := by decide +kernel
theorem ad_Run_helpByNight_147 : decode prog_7_method_11_code 147 = .ok (.getfield 29, 3) := by decide +kernel
theorem ad_Run_helpByNight_150 : decode prog_7_method_11_code 150 = .ok (.getfield 156, 3) := by decide +kernel
theorem ad_Run_helpByNight_153 : decode prog_7_method_11_code 153 = .ok (.iload 5, 2) := by decide +kernel
theorem ad_Run_helpByNight_155 : decode prog_7_method_11_code 155 = .ok (.iaload, 1) := by decide +kernel
theorem ad_Run_helpByNight_156 : decode prog_7_method_11_code 156 = .ok (.invokestatic 163, 3) := by decide +kernel
theorem ad_Run_helpByNight_159 : decode prog_7_method_11_code 159 = .ok (.iadd, 1) := by decide +kernel
theorem ad_Run_helpByNight_160 : decode prog_7_method_11_code 160 = .ok (.isub, 1) := by decide +kernel
theorem ad_Run_helpByNight_161 : decode prog_7_method_11_code 161 = .ok (.iastore, 1) := by decide +kernel
theorem ad_Run_helpByNight_162 : decode prog_7_method_11_code 162 = .ok (.aload_n 0, 1) := by decide +kernel
theorem ad_Run_helpByNight_163 : decode prog_7_method_11_code 163 = .ok (.getfield 23, 3) := by decide +kernel
theorem ad_Run_helpByNight_166 : decode prog_7_method_11_code 166 = .ok (.bipush 7, 2) := by decide +kernel
theorem ad_Run_helpByNight_168 : decode prog_7_method_11_code 168 = .ok (.dup2, 1) := by decide +kernel
theorem ad_Run_helpByNight_169 : decode prog_7_method_11_code 169 = .ok (.iaload, 1) := by decide +kernel
theorem ad_Run_helpByNight_170 : decode prog_7_method_11_code 170 = .ok (.aload_n 0, 1) := by decide +kernel
theorem ad_Run_helpByNight_171 : decode prog_7_method_11_code 171 = .ok (.getfield 29, 3) := by decide +kernel
theorem ad_Run_helpByNight_174 : decode prog_7_method_11_code 174 = .ok (.iload 6, 2) := by decide +kernel
theorem ad_Run_helpByNight_176 : decode prog_7_method_11_code 176 = .ok (.iload 5, 2) := by decide +kernel
theorem ad_Run_helpByNight_178 : decode prog_7_method_11_code 178 = .ok (.invokevirtual 153, 3) := by decide +kernel
theorem ad_Run_helpByNight_181 : decode prog_7_method_11_code 181 = .ok (.invokestatic 163, 3) := by decide +kernel
theorem ad_Run_helpByNight_184 : decode prog_7_method_11_code 184 = .ok (.aload_n 0, 1) := by decide +kernel
theorem ad_Run_helpByNight_185 : decode prog_7_method_11_code 185 = .ok (.getfield 29, 3) := by decide +kernel
theorem ad_Run_helpByNight_188 : decode prog_7_method_11_code 188 = .ok (.getfield 156, 3) := by decide +kernel
theorem ad_Run_helpByNight_191 : decode prog_7_method_11_code 191 = .ok (.iload 5, 2) := by decide +kernel
theorem ad_Run_helpByNight_193 : decode prog_7_method_11_code 193 = .ok (.iaload, 1) := by decide +kernel
theorem ad_Run_helpByNight_194 : decode prog_7_method_11_code 194 = .ok (.invokestatic 163, 3) := by decide +kernel
theorem ad_Run_helpByNight_197 : decode prog_7_method_11_code 197 = .ok (.iadd, 1) := by decide +kernel
theorem ad_Run_helpByNight_198 : decode prog_7_method_11_code 198 = .ok (.isub, 1) := by decide +kernel
theorem ad_Run_helpByNight_199 : decode prog_7_method_11_code 199 = .ok (.iastore, 1) := by decide +kernel
theorem ad_Run_helpByNight_200 : decode prog_7_method_11_code 200 = .ok (.aload_n 0, 1) := by decide +kernel
theorem ad_Run_helpByNight_201 : decode prog_7_method_11_code 201 = .ok (.getfield 19, 3) := by decide +kernel
theorem ad_Run_helpByNight_204 : decode prog_7_method_11_code 204 = .ok (.iload 4, 2) := by decide +kernel
theorem ad_Run_helpByNight_206 : decode prog_7_method_11_code 206 = .ok (.dup2, 1) := by decide +kernel
theorem ad_Run_helpByNight_207 : decode prog_7_method_11_code 207 = .ok (.iaload, 1) := by decide +kernel
theorem ad_Run_helpByNight_208 : decode prog_7_method_11_code 208 = .ok (.iconst 1, 1) := by decide +kernel
theorem ad_Run_helpByNight_209 : decode prog_7_method_11_code 209 = .ok (.iadd, 1) := by decide +kernel
theorem ad_Run_helpByNight_210 : decode prog_7_method_11_code 210 = .ok (.iastore, 1) := by decide +kernel
theorem ad_Run_helpByNight_211 : decode prog_7_method_11_code 211 = .ok (.aload_n 0, 1) := by decide +kernel
theorem ad_Run_helpByNight_212 : decode prog_7_method_11_code 212 = .ok (.getfield 19, 3) := by decide +kernel
theorem ad_Run_helpByNight_215 : decode prog_7_method_11_code 215 = .ok (.iload 6, 2) := by decide +kernel
theorem ad_Run_helpByNight_217 : decode prog_7_method_11_code 217 = .ok (.dup2, 1) := by decide +kernel
theorem ad_Run_helpByNight_218 : decode prog_7_method_11_code 218 = .ok (.iaload, 1) := by decide +kernel
theorem ad_Run_helpByNight_219 : decode prog_7_method_11_code 219 = .ok (.iconst 1, 1) := by decide +kernel
theorem ad_Run_helpByNight_220 : decode prog_7_method_11_code 220 = .ok (.iadd, 1) := by decide +kernel
theorem ad_Run_helpByNight_221 : decode prog_7_method_11_code 221 = .ok (.iastore, 1) := by decide +kernel
theorem ad_Run_helpByNight_222 : decode prog_7_method_11_code 222 = .ok (.aload_n 0, 1) := by decide +kernel
theorem ad_Run_helpByNight_223 : decode prog_7_method_11_code 223 = .ok (.iload 4, 2) := by decide +kernel
theorem ad_Run_helpByNight_225 : decode prog_7_method_11_code 225 = .ok (.invokevirtual 159, 3) := by decide +kernel
theorem ad_Run_helpByNight_228 : decode prog_7_method_11_code 228 = .ok (.istore 8, 2) := by decide +kernel
theorem ad_Run_helpByNight_230 : decode prog_7_method_11_code 230 = .ok (.aload_n 0, 1) := by decide +kernel
theorem ad_Run_helpByNight_231 : decode prog_7_method_11_code 231 = .ok (.iload 6, 2) := by decide +kernel
theorem ad_Run_helpByNight_233 : decode prog_7_method_11_code 233 = .ok (.invokevirtual 159, 3) := by decide +kernel
theorem ad_Run_helpByNight_236 : decode prog_7_method_11_code 236 = .ok (.istore 9, 2) := by decide +kernel
theorem ad_Run_helpByNight_238 : decode prog_7_method_11_code 238 = .ok (.iload 8, 2) := by decide +kernel
theorem ad_Run_helpByNight_240 : decode prog_7_method_11_code 240 = .ok (.ifCond .eq 12, 3) := by decide +kernel
theorem ad_Run_helpByNight_243 : decode prog_7_method_11_code 243 = .ok (.iload 9, 2) := by decide +kernel
theorem ad_Run_helpByNight_245 : decode prog_7_method_11_code 245 = .ok (.ifCond .eq 7, 3) := by decide +kernel
theorem ad_Run_helpByNight_248 : decode prog_7_method_11_code 248 = .ok (.iconst 1, 1) := by decide +kernel
theorem ad_Run_helpByNight_249 : decode prog_7_method_11_code 249 = .ok (.goto 4, 3) := by decide +kernel
theorem ad_Run_helpByNight_252 : decode prog_7_method_11_code 252 = .ok (.iconst 0, 1) := by decide +kernel
theorem ad_Run_helpByNight_253 : decode prog_7_method_11_code 253 = .ok (.istore 7, 2) := by decide +kernel
theorem ad_Run_helpByNight_255 : decode prog_7_method_11_code 255 = .ok (.iload 7, 2) := by decide +kernel
theorem ad_Run_helpByNight_257 : decode prog_7_method_11_code 257 = .ok (.ifCond .eq 24, 3) := by decide +kernel
theorem ad_Run_helpByNight_260 : decode prog_7_method_11_code 260 = .ok (.aload_n 0, 1) := by decide +kernel
theorem ad_Run_helpByNight_261 : decode prog_7_method_11_code 261 = .ok (.getfield 23, 3) := by decide +kernel
theorem ad_Run_helpByNight_264 : decode prog_7_method_11_code 264 = .ok (.iconst 2, 1) := by decide +kernel
theorem ad_Run_helpByNight_265 : decode prog_7_method_11_code 265 = .ok (.dup2, 1) := by decide +kernel
theorem ad_Run_helpByNight_266 : decode prog_7_method_11_code 266 = .ok (.iaload, 1) := by decide +kernel
theorem ad_Run_helpByNight_267 : decode prog_7_method_11_code 267 = .ok (.iconst 1, 1) := by decide +kernel
theorem ad_Run_helpByNight_268 : decode prog_7_method_11_code 268 = .ok (.iadd, 1) := by decide +kernel
theorem ad_Run_helpByNight_269 : decode prog_7_method_11_code 269 = .ok (.iastore, 1) := by decide +kernel
theorem ad_Run_helpByNight_270 : decode prog_7_method_11_code 270 = .ok (.aload_n 0, 1) := by decide +kernel
theorem ad_Run_helpByNight_271 : decode prog_7_method_11_code 271 = .ok (.iload_n 1, 1) := by decide +kernel
theorem ad_Run_helpByNight_272 : decode prog_7_method_11_code 272 = .ok (.iload_n 2, 1) := by decide +kernel
theorem ad_Run_helpByNight_273 : decode prog_7_method_11_code 273 = .ok (.iload_n 3, 1) := by decide +kernel
theorem ad_Run_helpByNight_274 : decode prog_7_method_11_code 274 = .ok (.iload 4, 2) := by decide +kernel
theorem ad_Run_helpByNight_276 : decode prog_7_method_11_code 276 = .ok (.iload 6, 2) := by decide +kernel
theorem ad_Run_helpByNight_278 : decode prog_7_method_11_code 278 = .ok (.invokevirtual 132, 3) := by decide +kernel
theorem ad_Run_helpByNight_281 : decode prog_7_method_11_code 281 = .ok (.return_, 1) := by decide +kernel
theorem ad_Run_halfUp_0 : decode prog_7_method_12_code 0 = .ok (.iload_n 0, 1) := by decide +kernel
theorem ad_Run_halfUp_1 : decode prog_7_method_12_code 1 = .ok (.iconst 1, 1) := by decide +kernel
theorem ad_Run_halfUp_2 : decode prog_7_method_12_code 2 = .ok (.iadd, 1) := by decide +kernel
theorem ad_Run_halfUp_3 : decode prog_7_method_12_code 3 = .ok (.iconst 2, 1) := by decide +kernel
theorem ad_Run_halfUp_4 : decode prog_7_method_12_code 4 = .ok (.idiv, 1) := by decide +kernel
theorem ad_Run_halfUp_5 : decode prog_7_method_12_code 5 = .ok (.ireturn, 1) := by decide +kernel
theorem ad_Run_isFound_0 : decode prog_7_method_13_code 0 = .ok (.iconst 0, 1) := by decide +kernel
theorem ad_Run_isFound_1 : decode prog_7_method_13_code 1 = .ok (.istore_n 2, 1) := by decide +kernel
theorem ad_Run_isFound_2 : decode prog_7_method_13_code 2 = .ok (.iconst 0, 1) := by decide +kernel
theorem ad_Run_isFound_3 : decode prog_7_method_13_code 3 = .ok (.istore_n 3, 1) := by decide +kernel
theorem ad_Run_isFound_4 : decode prog_7_method_13_code 4 = .ok (.iload_n 3, 1) := by decide +kernel
theorem ad_Run_isFound_5 : decode prog_7_method_13_code 5 = .ok (.aload_n 0, 1) := by decide +kernel
theorem ad_Run_isFound_6 : decode prog_7_method_13_code 6 = .ok (.getfield 15, 3) := by decide +kernel
theorem ad_Run_isFound_9 : decode prog_7_method_13_code 9 = .ok (.if_icmp .ge 38, 3) := by decide +kernel
theorem ad_Run_isFound_12 : decode prog_7_method_13_code 12 = .ok (.aload_n 0, 1) := by decide +kernel
theorem ad_Run_isFound_13 : decode prog_7_method_13_code 13 = .ok (.getfield 29, 3) := by decide +kernel
theorem ad_Run_isFound_16 : decode prog_7_method_13_code 16 = .ok (.iload_n 3, 1) := by decide +kernel
theorem ad_Run_isFound_17 : decode prog_7_method_13_code 17 = .ok (.iload_n 1, 1) := by decide +kernel
theorem ad_Run_isFound_18 : decode prog_7_method_13_code 18 = .ok (.invokevirtual 167, 3) := by decide +kernel
theorem ad_Run_isFound_21 : decode prog_7_method_13_code 21 = .ok (.istore 4, 2) := by decide +kernel
theorem ad_Run_isFound_23 : decode prog_7_method_13_code 23 = .ok (.iload 4, 2) := by decide +kernel
theorem ad_Run_isFound_25 : decode prog_7_method_13_code 25 = .ok (.ifCond .le 16, 3) := by decide +kernel
theorem ad_Run_isFound_28 : decode prog_7_method_13_code 28 = .ok (.aload_n 0, 1) := by decide +kernel
theorem ad_Run_isFound_29 : decode prog_7_method_13_code 29 = .ok (.bipush 10, 2) := by decide +kernel
theorem ad_Run_isFound_31 : decode prog_7_method_13_code 31 = .ok (.invokevirtual 170, 3) := by decide +kernel
theorem ad_Run_isFound_34 : decode prog_7_method_13_code 34 = .ok (.iload 4, 2) := by decide +kernel
theorem ad_Run_isFound_36 : decode prog_7_method_13_code 36 = .ok (.if_icmp .ge 5, 3) := by decide +kernel
theorem ad_Run_isFound_39 : decode prog_7_method_13_code 39 = .ok (.iconst 1, 1) := by decide +kernel
theorem ad_Run_isFound_40 : decode prog_7_method_13_code 40 = .ok (.istore_n 2, 1) := by decide +kernel
theorem ad_Run_isFound_41 : decode prog_7_method_13_code 41 = .ok (.iinc 3 1, 3) := by decide +kernel
theorem ad_Run_isFound_44 : decode prog_7_method_13_code 44 = .ok (.goto (-40), 3) := by decide +kernel
theorem ad_Run_isFound_47 : decode prog_7_method_13_code 47 = .ok (.iload_n 2, 1) := by decide +kernel
theorem ad_Run_isFound_48 : decode prog_7_method_13_code 48 = .ok (.ireturn, 1) := by decide +kernel
theorem ad_Run_draw_0 : decode prog_7_method_14_code 0 = .ok (.aload_n 0, 1) := by decide +kernel
theorem ad_Run_draw_1 : decode prog_7_method_14_code 1 = .ok (.aload_n 0, 1) := by decide +kernel
theorem ad_Run_draw_2 : decode prog_7_method_14_code 2 = .ok (.getfield 60, 3) := by decide +kernel
theorem ad_Run_draw_5 : decode prog_7_method_14_code 5 = .ok (.ldc 173, 2) := by decide +kernel
theorem ad_Run_draw_7 : decode prog_7_method_14_code 7 = .ok (.imul, 1) := by decide +kernel
theorem ad_Run_draw_8 : decode prog_7_method_14_code 8 = .ok (.sipush 12345, 3) := by decide +kernel
theorem ad_Run_draw_11 : decode prog_7_method_14_code 11 = .ok (.iadd, 1) := by decide +kernel
theorem ad_Run_draw_12 : decode prog_7_method_14_code 12 = .ok (.putfield 60, 3) := by decide +kernel
theorem ad_Run_draw_15 : decode prog_7_method_14_code 15 = .ok (.iload_n 1, 1) := by decide +kernel
theorem ad_Run_draw_16 : decode prog_7_method_14_code 16 = .ok (.ifCond .le 15, 3) := by decide +kernel
theorem ad_Run_draw_19 : decode prog_7_method_14_code 19 = .ok (.aload_n 0, 1) := by decide +kernel
theorem ad_Run_draw_20 : decode prog_7_method_14_code 20 = .ok (.getfield 60, 3) := by decide +kernel
theorem ad_Run_draw_23 : decode prog_7_method_14_code 23 = .ok (.bipush 8, 2) := by decide +kernel
theorem ad_Run_draw_25 : decode prog_7_method_14_code 25 = .ok (.iushr, 1) := by decide +kernel
theorem ad_Run_draw_26 : decode prog_7_method_14_code 26 = .ok (.iload_n 1, 1) := by decide +kernel
theorem ad_Run_draw_27 : decode prog_7_method_14_code 27 = .ok (.irem, 1) := by decide +kernel
theorem ad_Run_draw_28 : decode prog_7_method_14_code 28 = .ok (.goto 4, 3) := by decide +kernel
theorem ad_Run_draw_31 : decode prog_7_method_14_code 31 = .ok (.iconst 0, 1) := by decide +kernel
theorem ad_Run_draw_32 : decode prog_7_method_14_code 32 = .ok (.ireturn, 1) := by decide +kernel
theorem ad_Run_thank_0 : decode prog_7_method_15_code 0 = .ok (.aload_n 0, 1) := by decide +kernel
theorem ad_Run_thank_1 : decode prog_7_method_15_code 1 = .ok (.getfield 36, 3) := by decide +kernel
theorem ad_Run_thank_4 : decode prog_7_method_15_code 4 = .ok (.aload_n 0, 1) := by decide +kernel
theorem ad_Run_thank_5 : decode prog_7_method_15_code 5 = .ok (.getfield 29, 3) := by decide +kernel
theorem ad_Run_thank_8 : decode prog_7_method_15_code 8 = .ok (.getfield 117, 3) := by decide +kernel
theorem ad_Run_thank_11 : decode prog_7_method_15_code 11 = .ok (.iload_n 2, 1) := by decide +kernel
theorem ad_Run_thank_12 : decode prog_7_method_15_code 12 = .ok (.iaload, 1) := by decide +kernel
theorem ad_Run_thank_13 : decode prog_7_method_15_code 13 = .ok (.iaload, 1) := by decide +kernel
theorem ad_Run_thank_14 : decode prog_7_method_15_code 14 = .ok (.istore 6, 2) := by decide +kernel
theorem ad_Run_thank_16 : decode prog_7_method_15_code 16 = .ok (.iload 6, 2) := by decide +kernel
theorem ad_Run_thank_18 : decode prog_7_method_15_code 18 = .ok (.ifCond .ne 4, 3) := by decide +kernel
theorem ad_Run_thank_21 : decode prog_7_method_15_code 21 = .ok (.return_, 1) := by decide +kernel
theorem ad_Run_thank_22 : decode prog_7_method_15_code 22 = .ok (.iload 6, 2) := by decide +kernel
theorem ad_Run_thank_24 : decode prog_7_method_15_code 24 = .ok (.iconst 2, 1) := by decide +kernel
theorem ad_Run_thank_25 : decode prog_7_method_15_code 25 = .ok (.if_icmp .ne 23, 3) := by decide +kernel
theorem ad_Run_thank_28 : decode prog_7_method_15_code 28 = .ok (.aload_n 0, 1) := by decide +kernel
theorem ad_Run_thank_29 : decode prog_7_method_15_code 29 = .ok (.getfield 57, 3) := by decide +kernel
theorem ad_Run_thank_32 : decode prog_7_method_15_code 32 = .ok (.iload 4, 2) := by decide +kernel
theorem ad_Run_thank_34 : decode prog_7_method_15_code 34 = .ok (.bipush 48, 2) := by decide +kernel
theorem ad_Run_thank_36 : decode prog_7_method_15_code 36 = .ok (.imul, 1) := by decide +kernel
theorem ad_Run_thank_37 : decode prog_7_method_15_code 37 = .ok (.iload_n 2, 1) := by decide +kernel
theorem ad_Run_thank_38 : decode prog_7_method_15_code 38 = .ok (.iadd, 1) := by decide +kernel
theorem ad_Run_thank_39 : decode prog_7_method_15_code 39 = .ok (.laload, 1) := by decide +kernel
theorem ad_Run_thank_40 : decode prog_7_method_15_code 40 = .ok (.iload_n 3, 1) := by decide +kernel
theorem ad_Run_thank_41 : decode prog_7_method_15_code 41 = .ok (.invokestatic 140, 3) := by decide +kernel
theorem ad_Run_thank_44 : decode prog_7_method_15_code 44 = .ok (.ifCond .eq 4, 3) := by decide +kernel
theorem ad_Run_thank_47 : decode prog_7_method_15_code 47 = .ok (.return_, 1) := by decide +kernel
theorem ad_Run_thank_48 : decode prog_7_method_15_code 48 = .ok (.iload 6, 2) := by decide +kernel
theorem ad_Run_thank_50 : decode prog_7_method_15_code 50 = .ok (.iconst 3, 1) := by decide +kernel
theorem ad_Run_thank_51 : decode prog_7_method_15_code 51 = .ok (.if_icmp .ne 13, 3) := by decide +kernel
theorem ad_Run_thank_54 : decode prog_7_method_15_code 54 = .ok (.aload_n 0, 1) := by decide +kernel
theorem ad_Run_thank_55 : decode prog_7_method_15_code 55 = .ok (.iload 4, 2) := by decide +kernel
theorem ad_Run_thank_57 : decode prog_7_method_15_code 57 = .ok (.iload_n 2, 1) := by decide +kernel
theorem ad_Run_thank_58 : decode prog_7_method_15_code 58 = .ok (.invokevirtual 174, 3) := by decide +kernel
theorem ad_Run_thank_61 : decode prog_7_method_15_code 61 = .ok (.goto 5, 3) := by decide +kernel
theorem ad_Run_thank_64 : decode prog_7_method_15_code 64 = .ok (.iload 4, 2) := by decide +kernel
theorem ad_Run_thank_66 : decode prog_7_method_15_code 66 = .ok (.istore 7, 2) := by decide +kernel
theorem ad_Run_thank_68 : decode prog_7_method_15_code 68 = .ok (.aload_n 0, 1) := by decide +kernel
theorem ad_Run_thank_69 : decode prog_7_method_15_code 69 = .ok (.getfield 23, 3) := by decide +kernel
theorem ad_Run_thank_72 : decode prog_7_method_15_code 72 = .ok (.iconst 3, 1) := by decide +kernel
theorem ad_Run_thank_73 : decode prog_7_method_15_code 73 = .ok (.dup2, 1) := by decide +kernel
theorem ad_Run_thank_74 : decode prog_7_method_15_code 74 = .ok (.iaload, 1) := by decide +kernel
theorem ad_Run_thank_75 : decode prog_7_method_15_code 75 = .ok (.iconst 1, 1) := by decide +kernel
theorem ad_Run_thank_76 : decode prog_7_method_15_code 76 = .ok (.iadd, 1) := by decide +kernel
theorem ad_Run_thank_77 : decode prog_7_method_15_code 77 = .ok (.iastore, 1) := by decide +kernel
theorem ad_Run_thank_78 : decode prog_7_method_15_code 78 = .ok (.aload_n 0, 1) := by decide +kernel
theorem ad_Run_thank_79 : decode prog_7_method_15_code 79 = .ok (.getfield 23, 3) := by decide +kernel
theorem ad_Run_thank_82 : decode prog_7_method_15_code 82 = .ok (.iconst 4, 1) := by decide +kernel
theorem ad_Run_thank_83 : decode prog_7_method_15_code 83 = .ok (.dup2, 1) := by decide +kernel
theorem ad_Run_thank_84 : decode prog_7_method_15_code 84 = .ok (.iaload, 1) := by decide +kernel
theorem ad_Run_thank_85 : decode prog_7_method_15_code 85 = .ok (.iload 7, 2) := by decide +kernel
theorem ad_Run_thank_87 : decode prog_7_method_15_code 87 = .ok (.iload 4, 2) := by decide +kernel
theorem ad_Run_thank_89 : decode prog_7_method_15_code 89 = .ok (.if_icmp .eq 14, 3) := by decide +kernel
theorem ad_Run_thank_92 : decode prog_7_method_15_code 92 = .ok (.iload 7, 2) := by decide +kernel
theorem ad_Run_thank_94 : decode prog_7_method_15_code 94 = .ok (.iload 5, 2) := by decide +kernel
theorem ad_Run_thank_96 : decode prog_7_method_15_code 96 = .ok (.if_icmp .eq 7, 3) := by decide +kernel
theorem ad_Run_thank_99 : decode prog_7_method_15_code 99 = .ok (.iconst 1, 1) := by decide +kernel
theorem ad_Run_thank_100 : decode prog_7_method_15_code 100 = .ok (.goto 4, 3) := by decide +kernel
theorem ad_Run_thank_103 : decode prog_7_method_15_code 103 = .ok (.iconst 0, 1) := by decide +kernel
theorem ad_Run_thank_104 : decode prog_7_method_15_code 104 = .ok (.iadd, 1) := by decide +kernel
theorem ad_Run_thank_105 : decode prog_7_method_15_code 105 = .ok (.iastore, 1) := by decide +kernel
theorem ad_Run_thank_106 : decode prog_7_method_15_code 106 = .ok (.aload_n 0, 1) := by decide +kernel
theorem ad_Run_thank_107 : decode prog_7_method_15_code 107 = .ok (.getfield 42, 3) := by decide +kernel
theorem ad_Run_thank_110 : decode prog_7_method_15_code 110 = .ok (.aload_n 0, 1) := by decide +kernel
theorem ad_Run_thank_111 : decode prog_7_method_15_code 111 = .ok (.getfield 29, 3) := by decide +kernel
theorem ad_Run_thank_114 : decode prog_7_method_15_code 114 = .ok (.iload 7, 2) := by decide +kernel
theorem ad_Run_thank_116 : decode prog_7_method_15_code 116 = .ok (.iload_n 2, 1) := by decide +kernel
theorem ad_Run_thank_117 : decode prog_7_method_15_code 117 = .ok (.iload_n 1, 1) := by decide +kernel
theorem ad_Run_thank_118 : decode prog_7_method_15_code 118 = .ok (.invokevirtual 177, 3) := by decide +kernel
theorem ad_Run_thank_121 : decode prog_7_method_15_code 121 = .ok (.ifCond .ne 24, 3) := by decide +kernel
theorem ad_Run_thank_124 : decode prog_7_method_15_code 124 = .ok (.aload_n 0, 1) := by decide +kernel
theorem ad_Run_thank_125 : decode prog_7_method_15_code 125 = .ok (.getfield 42, 3) := by decide +kernel
theorem ad_Run_thank_128 : decode prog_7_method_15_code 128 = .ok (.iload 7, 2) := by decide +kernel
theorem ad_Run_thank_130 : decode prog_7_method_15_code 130 = .ok (.iload_n 2, 1) := by decide +kernel
theorem ad_Run_thank_131 : decode prog_7_method_15_code 131 = .ok (.iload_n 1, 1) := by decide +kernel
theorem ad_Run_thank_132 : decode prog_7_method_15_code 132 = .ok (.aload_n 0, 1) := by decide +kernel
theorem ad_Run_thank_133 : decode prog_7_method_15_code 133 = .ok (.getfield 29, 3) := by decide +kernel
theorem ad_Run_thank_136 : decode prog_7_method_15_code 136 = .ok (.getfield 181, 3) := by decide +kernel
theorem ad_Run_thank_139 : decode prog_7_method_15_code 139 = .ok (.invokevirtual 184, 3) := by decide +kernel
theorem ad_Run_thank_142 : decode prog_7_method_15_code 142 = .ok (.goto 20, 3) := by decide +kernel
theorem ad_Run_thank_145 : decode prog_7_method_15_code 145 = .ok (.aload_n 0, 1) := by decide +kernel
theorem ad_Run_thank_146 : decode prog_7_method_15_code 146 = .ok (.getfield 23, 3) := by decide +kernel
theorem ad_Run_thank_149 : decode prog_7_method_15_code 149 = .ok (.iconst 5, 1) := by decide +kernel
theorem ad_Run_thank_150 : decode prog_7_method_15_code 150 = .ok (.iaload, 1) := by decide +kernel
theorem ad_Run_thank_151 : decode prog_7_method_15_code 151 = .ok (.iconst (-1), 1) := by decide +kernel
theorem ad_Run_thank_152 : decode prog_7_method_15_code 152 = .ok (.if_icmp .ne 10, 3) := by decide +kernel
theorem ad_Run_thank_155 : decode prog_7_method_15_code 155 = .ok (.aload_n 0, 1) := by decide +kernel
theorem ad_Run_thank_156 : decode prog_7_method_15_code 156 = .ok (.getfield 23, 3) := by decide +kernel
theorem ad_Run_thank_159 : decode prog_7_method_15_code 159 = .ok (.iconst 5, 1) := by decide +kernel
theorem ad_Run_thank_160 : decode prog_7_method_15_code 160 = .ok (.iload_n 1, 1) := by decide +kernel
theorem ad_Run_thank_161 : decode prog_7_method_15_code 161 = .ok (.iastore, 1) := by decide +kernel
theorem ad_Run_thank_162 : decode prog_7_method_15_code 162 = .ok (.return_, 1) := by decide +kernel
theorem ad_Run_firstOther_0 : decode prog_7_method_16_code 0 = .ok (.iconst 0, 1) := by decide +kernel
theorem ad_Run_firstOther_1 : decode prog_7_method_16_code 1 = .ok (.istore_n 3, 1) := by decide +kernel
theorem ad_Run_firstOther_2 : decode prog_7_method_16_code 2 = .ok (.iload_n 3, 1) := by decide +kernel
theorem ad_Run_firstOther_3 : decode prog_7_method_16_code 3 = .ok (.aload_n 0, 1) := by decide +kernel
theorem ad_Run_firstOther_4 : decode prog_7_method_16_code 4 = .ok (.getfield 15, 3) := by decide +kernel
theorem ad_Run_firstOther_7 : decode prog_7_method_16_code 7 = .ok (.if_icmp .ge 28, 3) := by decide +kernel
theorem ad_Run_firstOther_10 : decode prog_7_method_16_code 10 = .ok (.iload_n 3, 1) := by decide +kernel
theorem ad_Run_firstOther_11 : decode prog_7_method_16_code 11 = .ok (.iload_n 1, 1) := by decide +kernel
theorem ad_Run_firstOther_12 : decode prog_7_method_16_code 12 = .ok (.if_icmp .eq 17, 3) := by decide +kernel
theorem ad_Run_firstOther_15 : decode prog_7_method_16_code 15 = .ok (.aload_n 0, 1) := by decide +kernel
theorem ad_Run_firstOther_16 : decode prog_7_method_16_code 16 = .ok (.getfield 29, 3) := by decide +kernel
theorem ad_Run_firstOther_19 : decode prog_7_method_16_code 19 = .ok (.iload_n 3, 1) := by decide +kernel
theorem ad_Run_firstOther_20 : decode prog_7_method_16_code 20 = .ok (.iload_n 2, 1) := by decide +kernel
theorem ad_Run_firstOther_21 : decode prog_7_method_16_code 21 = .ok (.invokevirtual 103, 3) := by decide +kernel
theorem ad_Run_firstOther_24 : decode prog_7_method_16_code 24 = .ok (.ifCond .eq 5, 3) := by decide +kernel
theorem ad_Run_firstOther_27 : decode prog_7_method_16_code 27 = .ok (.iload_n 3, 1) := by decide +kernel
theorem ad_Run_firstOther_28 : decode prog_7_method_16_code 28 = .ok (.ireturn, 1) := by decide +kernel
theorem ad_Run_firstOther_29 : decode prog_7_method_16_code 29 = .ok (.iinc 3 1, 3) := by decide +kernel
theorem ad_Run_firstOther_32 : decode prog_7_method_16_code 32 = .ok (.goto (-30), 3) := by decide +kernel
theorem ad_Run_firstOther_35 : decode prog_7_method_16_code 35 = .ok (.iload_n 1, 1) := by decide +kernel
theorem ad_Run_firstOther_36 : decode prog_7_method_16_code 36 = .ok (.ireturn, 1) := by decide +kernel
theorem ad_SentenceText_readAll_0 : decode prog_8_method_2_code 0 = .ok (.aload_n 0, 1) := by decide +kernel
theorem ad_SentenceText_readAll_1 : decode prog_8_method_2_code 1 = .ok (.getfield 12, 3) := by decide +kernel
theorem ad_SentenceText_readAll_4 : decode prog_8_method_2_code 4 = .ok (.aload_n 1, 1) := by decide +kernel
theorem ad_SentenceText_readAll_5 : decode prog_8_method_2_code 5 = .ok (.iload_n 2, 1) := by decide +kernel
theorem ad_SentenceText_readAll_6 : decode prog_8_method_2_code 6 = .ok (.sipush 200, 3) := by decide +kernel
theorem ad_SentenceText_readAll_9 : decode prog_8_method_2_code 9 = .ok (.invokevirtual 38, 3) := by decide +kernel
theorem ad_SentenceText_readAll_12 : decode prog_8_method_2_code 12 = .ok (.aload_n 0, 1) := by decide +kernel
theorem ad_SentenceText_readAll_13 : decode prog_8_method_2_code 13 = .ok (.iconst 0, 1) := by decide +kernel
theorem ad_SentenceText_readAll_14 : decode prog_8_method_2_code 14 = .ok (.putfield 18, 3) := by decide +kernel
theorem ad_SentenceText_readAll_17 : decode prog_8_method_2_code 17 = .ok (.aload_n 0, 1) := by decide +kernel
theorem ad_SentenceText_readAll_18 : decode prog_8_method_2_code 18 = .ok (.aload_n 3, 1) := by decide +kernel
theorem ad_SentenceText_readAll_19 : decode prog_8_method_2_code 19 = .ok (.aload 4, 2) := by decide +kernel
theorem ad_SentenceText_readAll_21 : decode prog_8_method_2_code 21 = .ok (.invokevirtual 42, 3) := by decide +kernel
theorem ad_SentenceText_readAll_24 : decode prog_8_method_2_code 24 = .ok (.aload_n 0, 1) := by decide +kernel
theorem ad_SentenceText_readAll_25 : decode prog_8_method_2_code 25 = .ok (.aload_n 0, 1) := by decide +kernel
theorem ad_SentenceText_readAll_26 : decode prog_8_method_2_code 26 = .ok (.iconst 1, 1) := by decide +kernel
theorem ad_SentenceText_readAll_27 : decode prog_8_method_2_code 27 = .ok (.invokevirtual 46, 3) := by decide +kernel
theorem ad_SentenceText_readAll_30 : decode prog_8_method_2_code 30 = .ok (.putfield 22, 3) := by decide +kernel
theorem ad_SentenceText_readAll_33 : decode prog_8_method_2_code 33 = .ok (.aload_n 0, 1) := by decide +kernel
theorem ad_SentenceText_readAll_34 : decode prog_8_method_2_code 34 = .ok (.getfield 12, 3) := by decide +kernel
theorem ad_SentenceText_readAll_37 : decode prog_8_method_2_code 37 = .ok (.getfield 50, 3) := by decide +kernel
theorem ad_SentenceText_readAll_40 : decode prog_8_method_2_code 40 = .ok (.ifCond .ne 24, 3) := by decide +kernel
theorem ad_SentenceText_readAll_43 : decode prog_8_method_2_code 43 = .ok (.aload_n 0, 1) := by decide +kernel
theorem ad_SentenceText_readAll_44 : decode prog_8_method_2_code 44 = .ok (.getfield 12, 3) := by decide +kernel
theorem ad_SentenceText_readAll_47 : decode prog_8_method_2_code 47 = .ok (.getfield 53, 3) := by decide +kernel
theorem ad_SentenceText_readAll_50 : decode prog_8_method_2_code 50 = .ok (.bipush 32, 2) := by decide +kernel
theorem ad_SentenceText_readAll_52 : decode prog_8_method_2_code 52 = .ok (.if_icmp .eq 12, 3) := by decide +kernel
theorem ad_SentenceText_readAll_55 : decode prog_8_method_2_code 55 = .ok (.aload_n 0, 1) := by decide +kernel
theorem ad_SentenceText_readAll_56 : decode prog_8_method_2_code 56 = .ok (.getfield 12, 3) := by decide +kernel
theorem ad_SentenceText_readAll_59 : decode prog_8_method_2_code 59 = .ok (.iconst 1, 1) := by decide +kernel
theorem ad_SentenceText_readAll_60 : decode prog_8_method_2_code 60 = .ok (.invokevirtual 56, 3) := by decide +kernel
theorem ad_SentenceText_readAll_63 : decode prog_8_method_2_code 63 = .ok (.pop, 1) := by decide +kernel
theorem ad_SentenceText_readAll_64 : decode prog_8_method_2_code 64 = .ok (.aload_n 0, 1) := by decide +kernel
theorem ad_SentenceText_readAll_65 : decode prog_8_method_2_code 65 = .ok (.getfield 12, 3) := by decide +kernel
theorem ad_SentenceText_readAll_68 : decode prog_8_method_2_code 68 = .ok (.getfield 50, 3) := by decide +kernel
theorem ad_SentenceText_readAll_71 : decode prog_8_method_2_code 71 = .ok (.ifCond .ne 7, 3) := by decide +kernel
theorem ad_SentenceText_readAll_74 : decode prog_8_method_2_code 74 = .ok (.iconst 1, 1) := by decide +kernel
theorem ad_SentenceText_readAll_75 : decode prog_8_method_2_code 75 = .ok (.goto 4, 3) := by decide +kernel
theorem ad_SentenceText_readAll_78 : decode prog_8_method_2_code 78 = .ok (.iconst 0, 1) := by decide +kernel
theorem ad_SentenceText_readAll_79 : decode prog_8_method_2_code 79 = .ok (.ireturn, 1) := by decide +kernel
theorem ad_SentenceText_look_0 : decode prog_8_method_3_code 0 = .ok (.aload_n 0, 1) := by decide +kernel
theorem ad_SentenceText_look_1 : decode prog_8_method_3_code 1 = .ok (.iconst 1, 1) := by decide +kernel
theorem ad_SentenceText_look_2 : decode prog_8_method_3_code 2 = .ok (.aload_n 1, 1) := by decide +kernel
theorem ad_SentenceText_look_3 : decode prog_8_method_3_code 3 = .ok (.getfield 60, 3) := by decide +kernel
theorem ad_SentenceText_look_6 : decode prog_8_method_3_code 6 = .ok (.ishl, 1) := by decide +kernel
theorem ad_SentenceText_look_7 : decode prog_8_method_3_code 7 = .ok (.iconst 1, 1) := by decide +kernel
theorem ad_SentenceText_look_8 : decode prog_8_method_3_code 8 = .ok (.isub, 1) := by decide +kernel
theorem ad_SentenceText_look_9 : decode prog_8_method_3_code 9 = .ok (.putfield 25, 3) := by decide +kernel
theorem ad_SentenceText_look_12 : decode prog_8_method_3_code 12 = .ok (.aload_n 0, 1) := by decide +kernel
theorem ad_SentenceText_look_13 : decode prog_8_method_3_code 13 = .ok (.iconst 0, 1) := by decide +kernel
theorem ad_SentenceText_look_14 : decode prog_8_method_3_code 14 = .ok (.putfield 32, 3) := by decide +kernel
theorem ad_SentenceText_look_17 : decode prog_8_method_3_code 17 = .ok (.aload_n 0, 1) := by decide +kernel
theorem ad_SentenceText_look_18 : decode prog_8_method_3_code 18 = .ok (.aload_n 0, 1) := by decide +kernel
theorem ad_SentenceText_look_19 : decode prog_8_method_3_code 19 = .ok (.getfield 25, 3) := by decide +kernel
theorem ad_SentenceText_look_22 : decode prog_8_method_3_code 22 = .ok (.aload_n 2, 1) := by decide +kernel
theorem ad_SentenceText_look_23 : decode prog_8_method_3_code 23 = .ok (.getfield 65, 3) := by decide +kernel
theorem ad_SentenceText_look_26 : decode prog_8_method_3_code 26 = .ok (.getfield 71, 3) := by decide +kernel
theorem ad_SentenceText_look_29 : decode prog_8_method_3_code 29 = .ok (.iconst (-1), 1) := by decide +kernel
theorem ad_SentenceText_look_30 : decode prog_8_method_3_code 30 = .ok (.ixor, 1) := by decide +kernel
theorem ad_SentenceText_look_31 : decode prog_8_method_3_code 31 = .ok (.iand, 1) := by decide +kernel
theorem ad_SentenceText_look_32 : decode prog_8_method_3_code 32 = .ok (.putfield 35, 3) := by decide +kernel
theorem ad_SentenceText_look_35 : decode prog_8_method_3_code 35 = .ok (.iconst 0, 1) := by decide +kernel
theorem ad_SentenceText_look_36 : decode prog_8_method_3_code 36 = .ok (.istore_n 3, 1) := by decide +kernel
theorem ad_SentenceText_look_37 : decode prog_8_method_3_code 37 = .ok (.iload_n 3, 1) := by decide +kernel
theorem ad_SentenceText_look_38 : decode prog_8_method_3_code 38 = .ok (.aload_n 1, 1) := by decide +kernel
theorem ad_SentenceText_look_39 : decode prog_8_method_3_code 39 = .ok (.getfield 60, 3) := by decide +kernel
theorem ad_SentenceText_look_42 : decode prog_8_method_3_code 42 = .ok (.if_icmp .ge 78, 3) := by decide +kernel
theorem ad_SentenceText_look_45 : decode prog_8_method_3_code 45 = .ok (.iload_n 3, 1) := by decide +kernel
theorem ad_SentenceText_look_46 : decode prog_8_method_3_code 46 = .ok (.bipush 8, 2) := by decide +kernel
theorem ad_SentenceText_look_48 : decode prog_8_method_3_code 48 = .ok (.if_icmp .ge 72, 3) := by decide +kernel
theorem ad_SentenceText_look_51 : decode prog_8_method_3_code 51 = .ok (.iconst 0, 1) := by decide +kernel
theorem ad_SentenceText_look_52 : decode prog_8_method_3_code 52 = .ok (.istore 4, 2) := by decide +kernel
theorem ad_SentenceText_look_54 : decode prog_8_method_3_code 54 = .ok (.iload 4, 2) := by decide +kernel
theorem ad_SentenceText_look_56 : decode prog_8_method_3_code 56 = .ok (.iconst 5, 1) := by decide +kernel
theorem ad_SentenceText_look_57 : decode prog_8_method_3_code 57 = .ok (.if_icmp .ge 28, 3) := by decide +kernel
theorem ad_SentenceText_look_60 : decode prog_8_method_3_code 60 = .ok (.aload_n 0, 1) := by decide +kernel
theorem ad_SentenceText_look_61 : decode prog_8_method_3_code 61 = .ok (.getfield 28, 3) := by decide +kernel
theorem ad_SentenceText_look_64 : decode prog_8_method_3_code 64 = .ok (.iload_n 3, 1) := by decide +kernel
theorem ad_SentenceText_look_65 : decode prog_8_method_3_code 65 = .ok (.iconst 5, 1) := by decide +kernel
theorem ad_SentenceText_look_66 : decode prog_8_method_3_code 66 = .ok (.imul, 1) := by decide +kernel
theorem ad_SentenceText_look_67 : decode prog_8_method_3_code 67 = .ok (.iload 4, 2) := by decide +kernel
theorem ad_SentenceText_look_69 : decode prog_8_method_3_code 69 = .ok (.iadd, 1) := by decide +kernel
theorem ad_SentenceText_look_70 : decode prog_8_method_3_code 70 = .ok (.aload_n 2, 1) := by decide +kernel
theorem ad_SentenceText_look_71 : decode prog_8_method_3_code 71 = .ok (.aload_n 1, 1) := by decide +kernel
theorem ad_SentenceText_look_72 : decode prog_8_method_3_code 72 = .ok (.iload_n 3, 1) := by decide +kernel
theorem ad_SentenceText_look_73 : decode prog_8_method_3_code 73 = .ok (.iload 4, 2) := by decide +kernel
theorem ad_SentenceText_look_75 : decode prog_8_method_3_code 75 = .ok (.invokevirtual 76, 3) := by decide +kernel
theorem ad_SentenceText_look_78 : decode prog_8_method_3_code 78 = .ok (.iastore, 1) := by decide +kernel
theorem ad_SentenceText_look_79 : decode prog_8_method_3_code 79 = .ok (.iinc 4 1, 3) := by decide +kernel
theorem ad_SentenceText_look_82 : decode prog_8_method_3_code 82 = .ok (.goto (-28), 3) := by decide +kernel
theorem ad_SentenceText_look_85 : decode prog_8_method_3_code 85 = .ok (.aload_n 0, 1) := by decide +kernel
theorem ad_SentenceText_look_86 : decode prog_8_method_3_code 86 = .ok (.dup, 1) := by decide +kernel
theorem ad_SentenceText_look_87 : decode prog_8_method_3_code 87 = .ok (.getfield 32, 3) := by decide +kernel
theorem ad_SentenceText_look_90 : decode prog_8_method_3_code 90 = .ok (.aload_n 0, 1) := by decide +kernel
theorem ad_SentenceText_look_91 : decode prog_8_method_3_code 91 = .ok (.getfield 28, 3) := by decide +kernel
theorem ad_SentenceText_look_94 : decode prog_8_method_3_code 94 = .ok (.iload_n 3, 1) := by decide +kernel
theorem ad_SentenceText_look_95 : decode prog_8_method_3_code 95 = .ok (.iconst 5, 1) := by decide +kernel
theorem ad_SentenceText_look_96 : decode prog_8_method_3_code 96 = .ok (.imul, 1) := by decide +kernel
theorem ad_SentenceText_look_97 : decode prog_8_method_3_code 97 = .ok (.iconst 3, 1) := by decide +kernel
theorem ad_SentenceText_look_98 : decode prog_8_method_3_code 98 = .ok (.iadd, 1) := by decide +kernel
theorem ad_SentenceText_look_99 : decode prog_8_method_3_code 99 = .ok (.iaload, 1) := by decide +kernel
theorem ad_SentenceText_look_100 : decode prog_8_method_3_code 100 = .ok (.ifCond .le 9, 3) := by decide +kernel
theorem ad_SentenceText_look_103 : decode prog_8_method_3_code 103 = .ok (.iconst 1, 1) := by decide +kernel
theorem ad_SentenceText_look_104 : decode prog_8_method_3_code 104 = .ok (.iload_n 3, 1) := by decide +kernel
theorem ad_SentenceText_look_105 : decode prog_8_method_3_code 105 = .ok (.ishl, 1) := by decide +kernel
theorem ad_SentenceText_look_106 : decode prog_8_method_3_code 106 = .ok (.goto 4, 3) := by decide +kernel
theorem ad_SentenceText_look_109 : decode prog_8_method_3_code 109 = .ok (.iconst 0, 1) := by decide +kernel
theorem ad_SentenceText_look_110 : decode prog_8_method_3_code 110 = .ok (.ior, 1) := by decide +kernel
theorem ad_SentenceText_look_111 : decode prog_8_method_3_code 111 = .ok (.putfield 32, 3) := by decide +kernel
theorem ad_SentenceText_look_114 : decode prog_8_method_3_code 114 = .ok (.iinc 3 1, 3) := by decide +kernel
theorem ad_SentenceText_look_117 : decode prog_8_method_3_code 117 = .ok (.goto (-80), 3) := by decide +kernel
theorem ad_SentenceText_look_120 : decode prog_8_method_3_code 120 = .ok (.return_, 1) := by decide +kernel
theorem ad_SentenceText_readCond_0 : decode prog_8_method_4_code 0 = .ok (.aload_n 0, 1) := by decide +kernel
theorem ad_SentenceText_readCond_1 : decode prog_8_method_4_code 1 = .ok (.iload_n 1, 1) := by decide +kernel
theorem ad_SentenceText_readCond_2 : decode prog_8_method_4_code 2 = .ok (.invokevirtual 80, 3) := by decide +kernel
theorem ad_SentenceText_readCond_5 : decode prog_8_method_4_code 5 = .ok (.istore_n 2, 1) := by decide +kernel
theorem ad_SentenceText_readCond_6 : decode prog_8_method_4_code 6 = .ok (.iconst 0, 1) := by decide +kernel
theorem ad_SentenceText_readCond_7 : decode prog_8_method_4_code 7 = .ok (.istore_n 3, 1) := by decide +kernel
theorem ad_SentenceText_readCond_8 : decode prog_8_method_4_code 8 = .ok (.iload_n 3, 1) := by decide +kernel
theorem ad_SentenceText_readCond_9 : decode prog_8_method_4_code 9 = .ok (.bipush 20, 2) := by decide +kernel
theorem ad_SentenceText_readCond_11 : decode prog_8_method_4_code 11 = .ok (.if_icmp .ge 33, 3) := by decide +kernel
theorem ad_SentenceText_readCond_14 : decode prog_8_method_4_code 14 = .ok (.aload_n 0, 1) := by decide +kernel
theorem ad_SentenceText_readCond_15 : decode prog_8_method_4_code 15 = .ok (.bipush 14, 2) := by decide +kernel
theorem ad_SentenceText_readCond_17 : decode prog_8_method_4_code 17 = .ok (.invokevirtual 83, 3) := by decide +kernel
theorem ad_SentenceText_readCond_20 : decode prog_8_method_4_code 20 = .ok (.ifCond .eq 24, 3) := by decide +kernel
theorem ad_SentenceText_readCond_23 : decode prog_8_method_4_code 23 = .ok (.aload_n 0, 1) := by decide +kernel
theorem ad_SentenceText_readCond_24 : decode prog_8_method_4_code 24 = .ok (.getfield 12, 3) := by decide +kernel
theorem ad_SentenceText_readCond_27 : decode prog_8_method_4_code 27 = .ok (.invokevirtual 86, 3) := by decide +kernel
theorem ad_SentenceText_readCond_30 : decode prog_8_method_4_code 30 = .ok (.iload_n 2, 1) := by decide +kernel
theorem ad_SentenceText_readCond_31 : decode prog_8_method_4_code 31 = .ok (.aload_n 0, 1) := by decide +kernel
theorem ad_SentenceText_readCond_32 : decode prog_8_method_4_code 32 = .ok (.iload_n 1, 1) := by decide +kernel
theorem ad_SentenceText_readCond_33 : decode prog_8_method_4_code 33 = .ok (.invokevirtual 80, 3) := by decide +kernel
theorem ad_SentenceText_readCond_36 : decode prog_8_method_4_code 36 = .ok (.ior, 1) := by decide +kernel
theorem ad_SentenceText_readCond_37 : decode prog_8_method_4_code 37 = .ok (.istore_n 2, 1) := by decide +kernel
theorem ad_SentenceText_readCond_38 : decode prog_8_method_4_code 38 = .ok (.iinc 3 1, 3) := by decide +kernel
theorem ad_SentenceText_readCond_41 : decode prog_8_method_4_code 41 = .ok (.goto (-33), 3) := by decide +kernel
theorem ad_SentenceText_readCond_44 : decode prog_8_method_4_code 44 = .ok (.iload_n 2, 1) := by decide +kernel
theorem ad_SentenceText_readCond_45 : decode prog_8_method_4_code 45 = .ok (.ireturn, 1) := by decide +kernel
theorem ad_SentenceText_readAnds_0 : decode prog_8_method_5_code 0 = .ok (.aload_n 0, 1) := by decide +kernel
theorem ad_SentenceText_readAnds_1 : decode prog_8_method_5_code 1 = .ok (.iload_n 1, 1) := by decide +kernel
theorem ad_SentenceText_readAnds_2 : decode prog_8_method_5_code 2 = .ok (.invokevirtual 89, 3) := by decide +kernel
theorem ad_SentenceText_readAnds_5 : decode prog_8_method_5_code 5 = .ok (.istore_n 2, 1) := by decide +kernel
theorem ad_SentenceText_readAnds_6 : decode prog_8_method_5_code 6 = .ok (.iconst 0, 1) := by decide +kernel
theorem ad_SentenceText_readAnds_7 : decode prog_8_method_5_code 7 = .ok (.istore_n 3, 1) := by decide +kernel
theorem ad_SentenceText_readAnds_8 : decode prog_8_method_5_code 8 = .ok (.iload_n 3, 1) := by decide +kernel
theorem ad_SentenceText_readAnds_9 : decode prog_8_method_5_code 9 = .ok (.bipush 20, 2) := by decide +kernel
theorem ad_SentenceText_readAnds_11 : decode prog_8_method_5_code 11 = .ok (.if_icmp .ge 33, 3) := by decide +kernel
theorem ad_SentenceText_readAnds_14 : decode prog_8_method_5_code 14 = .ok (.aload_n 0, 1) := by decide +kernel
theorem ad_SentenceText_readAnds_15 : decode prog_8_method_5_code 15 = .ok (.bipush 15, 2) := by decide +kernel
theorem ad_SentenceText_readAnds_17 : decode prog_8_method_5_code 17 = .ok (.invokevirtual 83, 3) := by decide +kernel
theorem ad_SentenceText_readAnds_20 : decode prog_8_method_5_code 20 = .ok (.ifCond .eq 24, 3) := by decide +kernel
theorem ad_SentenceText_readAnds_23 : decode prog_8_method_5_code 23 = .ok (.aload_n 0, 1) := by decide +kernel
theorem ad_SentenceText_readAnds_24 : decode prog_8_method_5_code 24 = .ok (.getfield 12, 3) := by decide +kernel
theorem ad_SentenceText_readAnds_27 : decode prog_8_method_5_code 27 = .ok (.invokevirtual 86, 3) := by decide +kernel
theorem ad_SentenceText_readAnds_30 : decode prog_8_method_5_code 30 = .ok (.iload_n 2, 1) := by decide +kernel
theorem ad_SentenceText_readAnds_31 : decode prog_8_method_5_code 31 = .ok (.aload_n 0, 1) := by decide +kernel
theorem ad_SentenceText_readAnds_32 : decode prog_8_method_5_code 32 = .ok (.iload_n 1, 1) := by decide +kernel
theorem ad_SentenceText_readAnds_33 : decode prog_8_method_5_code 33 = .ok (.invokevirtual 89, 3) := by decide +kernel
theorem ad_SentenceText_readAnds_36 : decode prog_8_method_5_code 36 = .ok (.iand, 1) := by decide +kernel
theorem ad_SentenceText_readAnds_37 : decode prog_8_method_5_code 37 = .ok (.istore_n 2, 1) := by decide +kernel
theorem ad_SentenceText_readAnds_38 : decode prog_8_method_5_code 38 = .ok (.iinc 3 1, 3) := by decide +kernel
theorem ad_SentenceText_readAnds_41 : decode prog_8_method_5_code 41 = .ok (.goto (-33), 3) := by decide +kernel
theorem ad_SentenceText_readAnds_44 : decode prog_8_method_5_code 44 = .ok (.iload_n 2, 1) := by decide +kernel
theorem ad_SentenceText_readAnds_45 : decode prog_8_method_5_code 45 = .ok (.ireturn, 1) := by decide +kernel
theorem ad_SentenceText_goesOn_0 : decode prog_8_method_6_code 0 = .ok (.aload_n 0, 1) := by decide +kernel
theorem ad_SentenceText_goesOn_1 : decode prog_8_method_6_code 1 = .ok (.getfield 12, 3) := by decide +kernel
theorem ad_SentenceText_goesOn_4 : decode prog_8_method_6_code 4 = .ok (.getfield 50, 3) := by decide +kernel
theorem ad_SentenceText_goesOn_7 : decode prog_8_method_6_code 7 = .ok (.ifCond .ne 18, 3) := by decide +kernel
theorem ad_SentenceText_goesOn_10 : decode prog_8_method_6_code 10 = .ok (.aload_n 0, 1) := by decide +kernel
theorem ad_SentenceText_goesOn_11 : decode prog_8_method_6_code 11 = .ok (.getfield 12, 3) := by decide +kernel
theorem ad_SentenceText_goesOn_14 : decode prog_8_method_6_code 14 = .ok (.getfield 53, 3) := by decide +kernel
theorem ad_SentenceText_goesOn_17 : decode prog_8_method_6_code 17 = .ok (.iload_n 1, 1) := by decide +kernel
theorem ad_SentenceText_goesOn_18 : decode prog_8_method_6_code 18 = .ok (.if_icmp .ne 7, 3) := by decide +kernel
theorem ad_SentenceText_goesOn_21 : decode prog_8_method_6_code 21 = .ok (.iconst 1, 1) := by decide +kernel
theorem ad_SentenceText_goesOn_22 : decode prog_8_method_6_code 22 = .ok (.goto 4, 3) := by decide +kernel
theorem ad_SentenceText_goesOn_25 : decode prog_8_method_6_code 25 = .ok (.iconst 0, 1) := by decide +kernel
theorem ad_SentenceText_goesOn_26 : decode prog_8_method_6_code 26 = .ok (.ireturn, 1) := by decide +kernel
theorem ad_SentenceText_readOne_0 : decode prog_8_method_7_code 0 = .ok (.aload_n 0, 1) := by decide +kernel
theorem ad_SentenceText_readOne_1 : decode prog_8_method_7_code 1 = .ok (.getfield 12, 3) := by decide +kernel
theorem ad_SentenceText_readOne_4 : decode prog_8_method_7_code 4 = .ok (.getfield 53, 3) := by decide +kernel
theorem ad_SentenceText_readOne_7 : decode prog_8_method_7_code 7 = .ok (.istore_n 2, 1) := by decide +kernel
theorem ad_SentenceText_readOne_8 : decode prog_8_method_7_code 8 = .ok (.iload_n 2, 1) := by decide +kernel
theorem ad_SentenceText_readOne_9 : decode prog_8_method_7_code 9 = .ok (.bipush 19, 2) := by decide +kernel
theorem ad_SentenceText_readOne_11 : decode prog_8_method_7_code 11 = .ok (.if_icmp .lt 13, 3) := by decide +kernel
theorem ad_SentenceText_readOne_14 : decode prog_8_method_7_code 14 = .ok (.iload_n 2, 1) := by decide +kernel
theorem ad_SentenceText_readOne_15 : decode prog_8_method_7_code 15 = .ok (.bipush 23, 2) := by decide +kernel
theorem ad_SentenceText_readOne_17 : decode prog_8_method_7_code 17 = .ok (.if_icmp .gt 7, 3) := by decide +kernel
theorem ad_SentenceText_readOne_20 : decode prog_8_method_7_code 20 = .ok (.iconst 1, 1) := by decide +kernel
theorem ad_SentenceText_readOne_21 : decode prog_8_method_7_code 21 = .ok (.goto 4, 3) := by decide +kernel
theorem ad_SentenceText_readOne_24 : decode prog_8_method_7_code 24 = .ok (.iconst 0, 1) := by decide +kernel
theorem ad_SentenceText_readOne_25 : decode prog_8_method_7_code 25 = .ok (.istore_n 3, 1) := by decide +kernel
theorem ad_SentenceText_readOne_26 : decode prog_8_method_7_code 26 = .ok (.iload_n 2, 1) := by decide +kernel
theorem ad_SentenceText_readOne_27 : decode prog_8_method_7_code 27 = .ok (.bipush 16, 2) := by decide +kernel
theorem ad_SentenceText_readOne_29 : decode prog_8_method_7_code 29 = .ok (.if_icmp .eq 36, 3) := by decide +kernel
theorem ad_SentenceText_readOne_32 : decode prog_8_method_7_code 32 = .ok (.iload_n 2, 1) := by decide +kernel
theorem ad_SentenceText_readOne_33 : decode prog_8_method_7_code 33 = .ok (.bipush 30, 2) := by decide +kernel
theorem ad_SentenceText_readOne_35 : decode prog_8_method_7_code 35 = .ok (.if_icmp .eq 30, 3) := by decide +kernel
theorem ad_SentenceText_readOne_38 : decode prog_8_method_7_code 38 = .ok (.iload_n 2, 1) := by decide +kernel
theorem ad_SentenceText_readOne_39 : decode prog_8_method_7_code 39 = .ok (.bipush 17, 2) := by decide +kernel
theorem ad_SentenceText_readOne_41 : decode prog_8_method_7_code 41 = .ok (.if_icmp .eq 24, 3) := by decide +kernel
theorem ad_SentenceText_readOne_44 : decode prog_8_method_7_code 44 = .ok (.iload_n 2, 1) := by decide +kernel
theorem ad_SentenceText_readOne_45 : decode prog_8_method_7_code 45 = .ok (.bipush 18, 2) := by decide +kernel
theorem ad_SentenceText_readOne_47 : decode prog_8_method_7_code 47 = .ok (.if_icmp .eq 18, 3) := by decide +kernel
theorem ad_SentenceText_readOne_50 : decode prog_8_method_7_code 50 = .ok (.iload_n 3, 1) := by decide +kernel
theorem ad_SentenceText_readOne_51 : decode prog_8_method_7_code 51 = .ok (.ifCond .ne 14, 3) := by decide +kernel
theorem ad_SentenceText_readOne_54 : decode prog_8_method_7_code 54 = .ok (.aload_n 0, 1) := by decide +kernel
theorem ad_SentenceText_readOne_55 : decode prog_8_method_7_code 55 = .ok (.getfield 12, 3) := by decide +kernel
theorem ad_SentenceText_readOne_58 : decode prog_8_method_7_code 58 = .ok (.iconst 1, 1) := by decide +kernel
theorem ad_SentenceText_readOne_59 : decode prog_8_method_7_code 59 = .ok (.invokevirtual 56, 3) := by decide +kernel
theorem ad_SentenceText_readOne_62 : decode prog_8_method_7_code 62 = .ok (.pop, 1) := by decide +kernel
theorem ad_SentenceText_readOne_63 : decode prog_8_method_7_code 63 = .ok (.iconst 0, 1) := by decide +kernel
theorem ad_SentenceText_readOne_64 : decode prog_8_method_7_code 64 = .ok (.ireturn, 1) := by decide +kernel
theorem ad_SentenceText_readOne_65 : decode prog_8_method_7_code 65 = .ok (.aload_n 0, 1) := by decide +kernel
theorem ad_SentenceText_readOne_66 : decode prog_8_method_7_code 66 = .ok (.getfield 18, 3) := by decide +kernel
theorem ad_SentenceText_readOne_69 : decode prog_8_method_7_code 69 = .ok (.bipush 20, 2) := by decide +kernel
theorem ad_SentenceText_readOne_71 : decode prog_8_method_7_code 71 = .ok (.if_icmp .ge 9, 3) := by decide +kernel
theorem ad_SentenceText_readOne_74 : decode prog_8_method_7_code 74 = .ok (.iload_n 1, 1) := by decide +kernel
theorem ad_SentenceText_readOne_75 : decode prog_8_method_7_code 75 = .ok (.bipush 8, 2) := by decide +kernel
theorem ad_SentenceText_readOne_77 : decode prog_8_method_7_code 77 = .ok (.if_icmp .le 14, 3) := by decide +kernel
theorem ad_SentenceText_readOne_80 : decode prog_8_method_7_code 80 = .ok (.aload_n 0, 1) := by decide +kernel
theorem ad_SentenceText_readOne_81 : decode prog_8_method_7_code 81 = .ok (.getfield 12, 3) := by decide +kernel
theorem ad_SentenceText_readOne_84 : decode prog_8_method_7_code 84 = .ok (.iconst 4, 1) := by decide +kernel
theorem ad_SentenceText_readOne_85 : decode prog_8_method_7_code 85 = .ok (.invokevirtual 56, 3) := by decide +kernel
theorem ad_SentenceText_readOne_88 : decode prog_8_method_7_code 88 = .ok (.pop, 1) := by decide +kernel
theorem ad_SentenceText_readOne_89 : decode prog_8_method_7_code 89 = .ok (.iconst 0, 1) := by decide +kernel
theorem ad_SentenceText_readOne_90 : decode prog_8_method_7_code 90 = .ok (.ireturn, 1) := by decide +kernel
theorem ad_SentenceText_readOne_91 : decode prog_8_method_7_code 91 = .ok (.aload_n 0, 1) := by decide +kernel
theorem ad_SentenceText_readOne_92 : decode prog_8_method_7_code 92 = .ok (.dup, 1) := by decide +kernel
theorem ad_SentenceText_readOne_93 : decode prog_8_method_7_code 93 = .ok (.getfield 18, 3) := by decide +kernel
theorem ad_SentenceText_readOne_96 : decode prog_8_method_7_code 96 = .ok (.iconst 1, 1) := by decide +kernel
theorem ad_SentenceText_readOne_97 : decode prog_8_method_7_code 97 = .ok (.iadd, 1) := by decide +kernel
theorem ad_SentenceText_readOne_98 : decode prog_8_method_7_code 98 = .ok (.putfield 18, 3) := by decide +kernel
theorem ad_SentenceText_readOne_101 : decode prog_8_method_7_code 101 = .ok (.aload_n 0, 1) := by decide +kernel
theorem ad_SentenceText_readOne_102 : decode prog_8_method_7_code 102 = .ok (.getfield 12, 3) := by decide +kernel
theorem ad_SentenceText_readOne_105 : decode prog_8_method_7_code 105 = .ok (.invokevirtual 86, 3) := by decide +kernel
theorem ad_SentenceText_readOne_108 : decode prog_8_method_7_code 108 = .ok (.iload_n 2, 1) := by decide +kernel
theorem ad_SentenceText_readOne_109 : decode prog_8_method_7_code 109 = .ok (.bipush 16, 2) := by decide +kernel
theorem ad_SentenceText_readOne_111 : decode prog_8_method_7_code 111 = .ok (.if_icmp .ne 11, 3) := by decide +kernel
theorem ad_SentenceText_readOne_114 : decode prog_8_method_7_code 114 = .ok (.aload_n 0, 1) := by decide +kernel
theorem ad_SentenceText_readOne_115 : decode prog_8_method_7_code 115 = .ok (.iload_n 1, 1) := by decide +kernel
theorem ad_SentenceText_readOne_116 : decode prog_8_method_7_code 116 = .ok (.iconst 1, 1) := by decide +kernel
theorem ad_SentenceText_readOne_117 : decode prog_8_method_7_code 117 = .ok (.iadd, 1) := by decide +kernel
theorem ad_SentenceText_readOne_118 : decode prog_8_method_7_code 118 = .ok (.invokevirtual 92, 3) := by decide +kernel
theorem ad_SentenceText_readOne_121 : decode prog_8_method_7_code 121 = .ok (.ireturn, 1) := by decide +kernel
theorem ad_SentenceText_readOne_122 : decode prog_8_method_7_code 122 = .ok (.iload_n 2, 1) := by decide +kernel
theorem ad_SentenceText_readOne_123 : decode prog_8_method_7_code 123 = .ok (.bipush 30, 2) := by decide +kernel
theorem ad_SentenceText_readOne_125 : decode prog_8_method_7_code 125 = .ok (.if_icmp .ne 11, 3) := by decide +kernel
theorem ad_SentenceText_readOne_128 : decode prog_8_method_7_code 128 = .ok (.aload_n 0, 1) := by decide +kernel
theorem ad_SentenceText_readOne_129 : decode prog_8_method_7_code 129 = .ok (.iload_n 1, 1) := by decide +kernel
theorem ad_SentenceText_readOne_130 : decode prog_8_method_7_code 130 = .ok (.iconst 1, 1) := by decide +kernel
theorem ad_SentenceText_readOne_131 : decode prog_8_method_7_code 131 = .ok (.iadd, 1) := by decide +kernel
theorem ad_SentenceText_readOne_132 : decode prog_8_method_7_code 132 = .ok (.invokevirtual 95, 3) := by decide +kernel
