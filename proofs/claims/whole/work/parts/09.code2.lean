/-! the instructions -/
theorem ad_SentenceText_readOne_135 : decode prog_8_method_7_code 135 = .ok (.ireturn, 1) := by decide +kernel
theorem ad_SentenceText_readOne_136 : decode prog_8_method_7_code 136 = .ok (.iload_n 3, 1) := by decide +kernel
theorem ad_SentenceText_readOne_137 : decode prog_8_method_7_code 137 = .ok (.ifCond .eq 12, 3) := by decide +kernel
theorem ad_SentenceText_readOne_140 : decode prog_8_method_7_code 140 = .ok (.aload_n 0, 1) := by decide +kernel
theorem ad_SentenceText_readOne_141 : decode prog_8_method_7_code 141 = .ok (.iload_n 2, 1) := by decide +kernel
theorem ad_SentenceText_readOne_142 : decode prog_8_method_7_code 142 = .ok (.bipush 19, 2) := by decide +kernel
theorem ad_SentenceText_readOne_144 : decode prog_8_method_7_code 144 = .ok (.isub, 1) := by decide +kernel
theorem ad_SentenceText_readOne_145 : decode prog_8_method_7_code 145 = .ok (.invokevirtual 98, 3) := by decide +kernel
theorem ad_SentenceText_readOne_148 : decode prog_8_method_7_code 148 = .ok (.ireturn, 1) := by decide +kernel
theorem ad_SentenceText_readOne_149 : decode prog_8_method_7_code 149 = .ok (.iload_n 2, 1) := by decide +kernel
theorem ad_SentenceText_readOne_150 : decode prog_8_method_7_code 150 = .ok (.bipush 17, 2) := by decide +kernel
theorem ad_SentenceText_readOne_152 : decode prog_8_method_7_code 152 = .ok (.if_icmp .ne 10, 3) := by decide +kernel
theorem ad_SentenceText_readOne_155 : decode prog_8_method_7_code 155 = .ok (.aload_n 0, 1) := by decide +kernel
theorem ad_SentenceText_readOne_156 : decode prog_8_method_7_code 156 = .ok (.getfield 32, 3) := by decide +kernel
theorem ad_SentenceText_readOne_159 : decode prog_8_method_7_code 159 = .ok (.goto 7, 3) := by decide +kernel
theorem ad_SentenceText_readOne_162 : decode prog_8_method_7_code 162 = .ok (.aload_n 0, 1) := by decide +kernel
theorem ad_SentenceText_readOne_163 : decode prog_8_method_7_code 163 = .ok (.getfield 35, 3) := by decide +kernel
theorem ad_SentenceText_readOne_166 : decode prog_8_method_7_code 166 = .ok (.ireturn, 1) := by decide +kernel
theorem ad_SentenceText_readNot_0 : decode prog_8_method_8_code 0 = .ok (.aload_n 0, 1) := by decide +kernel
theorem ad_SentenceText_readNot_1 : decode prog_8_method_8_code 1 = .ok (.getfield 25, 3) := by decide +kernel
theorem ad_SentenceText_readNot_4 : decode prog_8_method_8_code 4 = .ok (.aload_n 0, 1) := by decide +kernel
theorem ad_SentenceText_readNot_5 : decode prog_8_method_8_code 5 = .ok (.iload_n 1, 1) := by decide +kernel
theorem ad_SentenceText_readNot_6 : decode prog_8_method_8_code 6 = .ok (.invokevirtual 89, 3) := by decide +kernel
theorem ad_SentenceText_readNot_9 : decode prog_8_method_8_code 9 = .ok (.iconst (-1), 1) := by decide +kernel
theorem ad_SentenceText_readNot_10 : decode prog_8_method_8_code 10 = .ok (.ixor, 1) := by decide +kernel
theorem ad_SentenceText_readNot_11 : decode prog_8_method_8_code 11 = .ok (.iand, 1) := by decide +kernel
theorem ad_SentenceText_readNot_12 : decode prog_8_method_8_code 12 = .ok (.ireturn, 1) := by decide +kernel
theorem ad_SentenceText_readBracket_0 : decode prog_8_method_9_code 0 = .ok (.aload_n 0, 1) := by decide +kernel
theorem ad_SentenceText_readBracket_1 : decode prog_8_method_9_code 1 = .ok (.iload_n 1, 1) := by decide +kernel
theorem ad_SentenceText_readBracket_2 : decode prog_8_method_9_code 2 = .ok (.invokevirtual 46, 3) := by decide +kernel
theorem ad_SentenceText_readBracket_5 : decode prog_8_method_9_code 5 = .ok (.istore_n 2, 1) := by decide +kernel
theorem ad_SentenceText_readBracket_6 : decode prog_8_method_9_code 6 = .ok (.aload_n 0, 1) := by decide +kernel
theorem ad_SentenceText_readBracket_7 : decode prog_8_method_9_code 7 = .ok (.getfield 12, 3) := by decide +kernel
theorem ad_SentenceText_readBracket_10 : decode prog_8_method_9_code 10 = .ok (.getfield 50, 3) := by decide +kernel
theorem ad_SentenceText_readBracket_13 : decode prog_8_method_9_code 13 = .ok (.ifCond .ne 13, 3) := by decide +kernel
theorem ad_SentenceText_readBracket_16 : decode prog_8_method_9_code 16 = .ok (.aload_n 0, 1) := by decide +kernel
theorem ad_SentenceText_readBracket_17 : decode prog_8_method_9_code 17 = .ok (.getfield 12, 3) := by decide +kernel
theorem ad_SentenceText_readBracket_20 : decode prog_8_method_9_code 20 = .ok (.bipush 31, 2) := by decide +kernel
theorem ad_SentenceText_readBracket_22 : decode prog_8_method_9_code 22 = .ok (.invokevirtual 101, 3) := by decide +kernel
theorem ad_SentenceText_readBracket_25 : decode prog_8_method_9_code 25 = .ok (.pop, 1) := by decide +kernel
theorem ad_SentenceText_readBracket_26 : decode prog_8_method_9_code 26 = .ok (.iload_n 2, 1) := by decide +kernel
theorem ad_SentenceText_readBracket_27 : decode prog_8_method_9_code 27 = .ok (.ireturn, 1) := by decide +kernel
theorem ad_SentenceText_readFigure_0 : decode prog_8_method_10_code 0 = .ok (.aload_n 0, 1) := by decide +kernel
theorem ad_SentenceText_readFigure_1 : decode prog_8_method_10_code 1 = .ok (.getfield 12, 3) := by decide +kernel
theorem ad_SentenceText_readFigure_4 : decode prog_8_method_10_code 4 = .ok (.getfield 53, 3) := by decide +kernel
theorem ad_SentenceText_readFigure_7 : decode prog_8_method_10_code 7 = .ok (.istore_n 2, 1) := by decide +kernel
theorem ad_SentenceText_readFigure_8 : decode prog_8_method_10_code 8 = .ok (.iload_n 2, 1) := by decide +kernel
theorem ad_SentenceText_readFigure_9 : decode prog_8_method_10_code 9 = .ok (.bipush 27, 2) := by decide +kernel
theorem ad_SentenceText_readFigure_11 : decode prog_8_method_10_code 11 = .ok (.if_icmp .eq 26, 3) := by decide +kernel
theorem ad_SentenceText_readFigure_14 : decode prog_8_method_10_code 14 = .ok (.iload_n 2, 1) := by decide +kernel
theorem ad_SentenceText_readFigure_15 : decode prog_8_method_10_code 15 = .ok (.bipush 28, 2) := by decide +kernel
theorem ad_SentenceText_readFigure_17 : decode prog_8_method_10_code 17 = .ok (.if_icmp .eq 20, 3) := by decide +kernel
theorem ad_SentenceText_readFigure_20 : decode prog_8_method_10_code 20 = .ok (.iload_n 2, 1) := by decide +kernel
theorem ad_SentenceText_readFigure_21 : decode prog_8_method_10_code 21 = .ok (.bipush 29, 2) := by decide +kernel
theorem ad_SentenceText_readFigure_23 : decode prog_8_method_10_code 23 = .ok (.if_icmp .eq 14, 3) := by decide +kernel
theorem ad_SentenceText_readFigure_26 : decode prog_8_method_10_code 26 = .ok (.aload_n 0, 1) := by decide +kernel
theorem ad_SentenceText_readFigure_27 : decode prog_8_method_10_code 27 = .ok (.getfield 12, 3) := by decide +kernel
theorem ad_SentenceText_readFigure_30 : decode prog_8_method_10_code 30 = .ok (.iconst 1, 1) := by decide +kernel
theorem ad_SentenceText_readFigure_31 : decode prog_8_method_10_code 31 = .ok (.invokevirtual 56, 3) := by decide +kernel
theorem ad_SentenceText_readFigure_34 : decode prog_8_method_10_code 34 = .ok (.pop, 1) := by decide +kernel
theorem ad_SentenceText_readFigure_35 : decode prog_8_method_10_code 35 = .ok (.iconst 0, 1) := by decide +kernel
theorem ad_SentenceText_readFigure_36 : decode prog_8_method_10_code 36 = .ok (.ireturn, 1) := by decide +kernel
theorem ad_SentenceText_readFigure_37 : decode prog_8_method_10_code 37 = .ok (.aload_n 0, 1) := by decide +kernel
theorem ad_SentenceText_readFigure_38 : decode prog_8_method_10_code 38 = .ok (.getfield 12, 3) := by decide +kernel
theorem ad_SentenceText_readFigure_41 : decode prog_8_method_10_code 41 = .ok (.invokevirtual 86, 3) := by decide +kernel
theorem ad_SentenceText_readFigure_44 : decode prog_8_method_10_code 44 = .ok (.aload_n 0, 1) := by decide +kernel
theorem ad_SentenceText_readFigure_45 : decode prog_8_method_10_code 45 = .ok (.getfield 12, 3) := by decide +kernel
theorem ad_SentenceText_readFigure_48 : decode prog_8_method_10_code 48 = .ok (.iconst 0, 1) := by decide +kernel
theorem ad_SentenceText_readFigure_49 : decode prog_8_method_10_code 49 = .ok (.sipush 999, 3) := by decide +kernel
theorem ad_SentenceText_readFigure_52 : decode prog_8_method_10_code 52 = .ok (.invokevirtual 104, 3) := by decide +kernel
theorem ad_SentenceText_readFigure_55 : decode prog_8_method_10_code 55 = .ok (.ifCond .ne 5, 3) := by decide +kernel
theorem ad_SentenceText_readFigure_58 : decode prog_8_method_10_code 58 = .ok (.iconst 0, 1) := by decide +kernel
theorem ad_SentenceText_readFigure_59 : decode prog_8_method_10_code 59 = .ok (.ireturn, 1) := by decide +kernel
theorem ad_SentenceText_readFigure_60 : decode prog_8_method_10_code 60 = .ok (.iconst 0, 1) := by decide +kernel
theorem ad_SentenceText_readFigure_61 : decode prog_8_method_10_code 61 = .ok (.istore_n 3, 1) := by decide +kernel
theorem ad_SentenceText_readFigure_62 : decode prog_8_method_10_code 62 = .ok (.iconst 0, 1) := by decide +kernel
theorem ad_SentenceText_readFigure_63 : decode prog_8_method_10_code 63 = .ok (.istore 4, 2) := by decide +kernel
theorem ad_SentenceText_readFigure_65 : decode prog_8_method_10_code 65 = .ok (.iload 4, 2) := by decide +kernel
theorem ad_SentenceText_readFigure_67 : decode prog_8_method_10_code 67 = .ok (.bipush 8, 2) := by decide +kernel
theorem ad_SentenceText_readFigure_69 : decode prog_8_method_10_code 69 = .ok (.if_icmp .ge 49, 3) := by decide +kernel
theorem ad_SentenceText_readFigure_72 : decode prog_8_method_10_code 72 = .ok (.aload_n 0, 1) := by decide +kernel
theorem ad_SentenceText_readFigure_73 : decode prog_8_method_10_code 73 = .ok (.getfield 28, 3) := by decide +kernel
theorem ad_SentenceText_readFigure_76 : decode prog_8_method_10_code 76 = .ok (.iload 4, 2) := by decide +kernel
theorem ad_SentenceText_readFigure_78 : decode prog_8_method_10_code 78 = .ok (.iconst 5, 1) := by decide +kernel
theorem ad_SentenceText_readFigure_79 : decode prog_8_method_10_code 79 = .ok (.imul, 1) := by decide +kernel
theorem ad_SentenceText_readFigure_80 : decode prog_8_method_10_code 80 = .ok (.iload_n 1, 1) := by decide +kernel
theorem ad_SentenceText_readFigure_81 : decode prog_8_method_10_code 81 = .ok (.iadd, 1) := by decide +kernel
theorem ad_SentenceText_readFigure_82 : decode prog_8_method_10_code 82 = .ok (.iaload, 1) := by decide +kernel
theorem ad_SentenceText_readFigure_83 : decode prog_8_method_10_code 83 = .ok (.aload_n 0, 1) := by decide +kernel
theorem ad_SentenceText_readFigure_84 : decode prog_8_method_10_code 84 = .ok (.getfield 12, 3) := by decide +kernel
theorem ad_SentenceText_readFigure_87 : decode prog_8_method_10_code 87 = .ok (.getfield 108, 3) := by decide +kernel
theorem ad_SentenceText_readFigure_90 : decode prog_8_method_10_code 90 = .ok (.iload_n 2, 1) := by decide +kernel
theorem ad_SentenceText_readFigure_91 : decode prog_8_method_10_code 91 = .ok (.invokestatic 111, 3) := by decide +kernel
theorem ad_SentenceText_readFigure_94 : decode prog_8_method_10_code 94 = .ok (.istore 5, 2) := by decide +kernel
theorem ad_SentenceText_readFigure_96 : decode prog_8_method_10_code 96 = .ok (.iload_n 3, 1) := by decide +kernel
theorem ad_SentenceText_readFigure_97 : decode prog_8_method_10_code 97 = .ok (.iload 5, 2) := by decide +kernel
theorem ad_SentenceText_readFigure_99 : decode prog_8_method_10_code 99 = .ok (.ifCond .eq 10, 3) := by decide +kernel
theorem ad_SentenceText_readFigure_102 : decode prog_8_method_10_code 102 = .ok (.iconst 1, 1) := by decide +kernel
theorem ad_SentenceText_readFigure_103 : decode prog_8_method_10_code 103 = .ok (.iload 4, 2) := by decide +kernel
theorem ad_SentenceText_readFigure_105 : decode prog_8_method_10_code 105 = .ok (.ishl, 1) := by decide +kernel
theorem ad_SentenceText_readFigure_106 : decode prog_8_method_10_code 106 = .ok (.goto 4, 3) := by decide +kernel
theorem ad_SentenceText_readFigure_109 : decode prog_8_method_10_code 109 = .ok (.iconst 0, 1) := by decide +kernel
theorem ad_SentenceText_readFigure_110 : decode prog_8_method_10_code 110 = .ok (.ior, 1) := by decide +kernel
theorem ad_SentenceText_readFigure_111 : decode prog_8_method_10_code 111 = .ok (.istore_n 3, 1) := by decide +kernel
theorem ad_SentenceText_readFigure_112 : decode prog_8_method_10_code 112 = .ok (.iinc 4 1, 3) := by decide +kernel
theorem ad_SentenceText_readFigure_115 : decode prog_8_method_10_code 115 = .ok (.goto (-50), 3) := by decide +kernel
theorem ad_SentenceText_readFigure_118 : decode prog_8_method_10_code 118 = .ok (.iload_n 3, 1) := by decide +kernel
theorem ad_SentenceText_readFigure_119 : decode prog_8_method_10_code 119 = .ok (.aload_n 0, 1) := by decide +kernel
theorem ad_SentenceText_readFigure_120 : decode prog_8_method_10_code 120 = .ok (.getfield 25, 3) := by decide +kernel
theorem ad_SentenceText_readFigure_123 : decode prog_8_method_10_code 123 = .ok (.iand, 1) := by decide +kernel
theorem ad_SentenceText_readFigure_124 : decode prog_8_method_10_code 124 = .ok (.ireturn, 1) := by decide +kernel
theorem ad_SentenceText_compare_0 : decode prog_8_method_11_code 0 = .ok (.iload_n 2, 1) := by decide +kernel
theorem ad_SentenceText_compare_1 : decode prog_8_method_11_code 1 = .ok (.bipush 27, 2) := by decide +kernel
theorem ad_SentenceText_compare_3 : decode prog_8_method_11_code 3 = .ok (.if_icmp .ne 14, 3) := by decide +kernel
theorem ad_SentenceText_compare_6 : decode prog_8_method_11_code 6 = .ok (.iload_n 0, 1) := by decide +kernel
theorem ad_SentenceText_compare_7 : decode prog_8_method_11_code 7 = .ok (.iload_n 1, 1) := by decide +kernel
theorem ad_SentenceText_compare_8 : decode prog_8_method_11_code 8 = .ok (.if_icmp .ge 7, 3) := by decide +kernel
theorem ad_SentenceText_compare_11 : decode prog_8_method_11_code 11 = .ok (.iconst 1, 1) := by decide +kernel
theorem ad_SentenceText_compare_12 : decode prog_8_method_11_code 12 = .ok (.goto 4, 3) := by decide +kernel
theorem ad_SentenceText_compare_15 : decode prog_8_method_11_code 15 = .ok (.iconst 0, 1) := by decide +kernel
theorem ad_SentenceText_compare_16 : decode prog_8_method_11_code 16 = .ok (.ireturn, 1) := by decide +kernel
theorem ad_SentenceText_compare_17 : decode prog_8_method_11_code 17 = .ok (.iload_n 2, 1) := by decide +kernel
theorem ad_SentenceText_compare_18 : decode prog_8_method_11_code 18 = .ok (.bipush 28, 2) := by decide +kernel
theorem ad_SentenceText_compare_20 : decode prog_8_method_11_code 20 = .ok (.if_icmp .ne 16, 3) := by decide +kernel
theorem ad_SentenceText_compare_23 : decode prog_8_method_11_code 23 = .ok (.iload_n 0, 1) := by decide +kernel
theorem ad_SentenceText_compare_24 : decode prog_8_method_11_code 24 = .ok (.iload_n 1, 1) := by decide +kernel
theorem ad_SentenceText_compare_25 : decode prog_8_method_11_code 25 = .ok (.if_icmp .ne 7, 3) := by decide +kernel
theorem ad_SentenceText_compare_28 : decode prog_8_method_11_code 28 = .ok (.iconst 1, 1) := by decide +kernel
theorem ad_SentenceText_compare_29 : decode prog_8_method_11_code 29 = .ok (.goto 17, 3) := by decide +kernel
theorem ad_SentenceText_compare_32 : decode prog_8_method_11_code 32 = .ok (.iconst 0, 1) := by decide +kernel
theorem ad_SentenceText_compare_33 : decode prog_8_method_11_code 33 = .ok (.goto 13, 3) := by decide +kernel
theorem ad_SentenceText_compare_36 : decode prog_8_method_11_code 36 = .ok (.iload_n 0, 1) := by decide +kernel
theorem ad_SentenceText_compare_37 : decode prog_8_method_11_code 37 = .ok (.iload_n 1, 1) := by decide +kernel
theorem ad_SentenceText_compare_38 : decode prog_8_method_11_code 38 = .ok (.if_icmp .le 7, 3) := by decide +kernel
theorem ad_SentenceText_compare_41 : decode prog_8_method_11_code 41 = .ok (.iconst 1, 1) := by decide +kernel
theorem ad_SentenceText_compare_42 : decode prog_8_method_11_code 42 = .ok (.goto 4, 3) := by decide +kernel
theorem ad_SentenceText_compare_45 : decode prog_8_method_11_code 45 = .ok (.iconst 0, 1) := by decide +kernel
theorem ad_SentenceText_compare_46 : decode prog_8_method_11_code 46 = .ok (.ireturn, 1) := by decide +kernel
theorem ad_State_beginVillage_0 : decode prog_9_method_2_code 0 = .ok (.aload_n 0, 1) := by decide +kernel
theorem ad_State_beginVillage_1 : decode prog_9_method_2_code 1 = .ok (.getfield 12, 3) := by decide +kernel
theorem ad_State_beginVillage_4 : decode prog_9_method_2_code 4 = .ok (.aload_n 1, 1) := by decide +kernel
theorem ad_State_beginVillage_5 : decode prog_9_method_2_code 5 = .ok (.invokevirtual 44, 3) := by decide +kernel
theorem ad_State_beginVillage_8 : decode prog_9_method_2_code 8 = .ok (.aload_n 0, 1) := by decide +kernel
theorem ad_State_beginVillage_9 : decode prog_9_method_2_code 9 = .ok (.getfield 21, 3) := by decide +kernel
theorem ad_State_beginVillage_12 : decode prog_9_method_2_code 12 = .ok (.invokevirtual 48, 3) := by decide +kernel
theorem ad_State_beginVillage_15 : decode prog_9_method_2_code 15 = .ok (.aload_n 0, 1) := by decide +kernel
theorem ad_State_beginVillage_16 : decode prog_9_method_2_code 16 = .ok (.getfield 25, 3) := by decide +kernel
theorem ad_State_beginVillage_19 : decode prog_9_method_2_code 19 = .ok (.iconst 0, 1) := by decide +kernel
theorem ad_State_beginVillage_20 : decode prog_9_method_2_code 20 = .ok (.invokestatic 51, 3) := by decide +kernel
theorem ad_State_beginVillage_23 : decode prog_9_method_2_code 23 = .ok (.aload_n 0, 1) := by decide +kernel
theorem ad_State_beginVillage_24 : decode prog_9_method_2_code 24 = .ok (.getfield 29, 3) := by decide +kernel
theorem ad_State_beginVillage_27 : decode prog_9_method_2_code 27 = .ok (.iconst 0, 1) := by decide +kernel
theorem ad_State_beginVillage_28 : decode prog_9_method_2_code 28 = .ok (.invokestatic 51, 3) := by decide +kernel
theorem ad_State_beginVillage_31 : decode prog_9_method_2_code 31 = .ok (.aload_n 0, 1) := by decide +kernel
theorem ad_State_beginVillage_32 : decode prog_9_method_2_code 32 = .ok (.iconst 0, 1) := by decide +kernel
theorem ad_State_beginVillage_33 : decode prog_9_method_2_code 33 = .ok (.putfield 36, 3) := by decide +kernel
theorem ad_State_beginVillage_36 : decode prog_9_method_2_code 36 = .ok (.return_, 1) := by decide +kernel
theorem ad_State_keepSentence_0 : decode prog_9_method_3_code 0 = .ok (.iload_n 2, 1) := by decide +kernel
theorem ad_State_keepSentence_1 : decode prog_9_method_3_code 1 = .ok (.ifCond .lt 16, 3) := by decide +kernel
theorem ad_State_keepSentence_4 : decode prog_9_method_3_code 4 = .ok (.iload_n 2, 1) := by decide +kernel
theorem ad_State_keepSentence_5 : decode prog_9_method_3_code 5 = .ok (.sipush 200, 3) := by decide +kernel
theorem ad_State_keepSentence_8 : decode prog_9_method_3_code 8 = .ok (.if_icmp .gt 9, 3) := by decide +kernel
theorem ad_State_keepSentence_11 : decode prog_9_method_3_code 11 = .ok (.iload_n 2, 1) := by decide +kernel
theorem ad_State_keepSentence_12 : decode prog_9_method_3_code 12 = .ok (.aload_n 1, 1) := by decide +kernel
theorem ad_State_keepSentence_13 : decode prog_9_method_3_code 13 = .ok (.arraylength, 1) := by decide +kernel
theorem ad_State_keepSentence_14 : decode prog_9_method_3_code 14 = .ok (.if_icmp .le 4, 3) := by decide +kernel
theorem ad_State_keepSentence_17 : decode prog_9_method_3_code 17 = .ok (.return_, 1) := by decide +kernel
theorem ad_State_keepSentence_18 : decode prog_9_method_3_code 18 = .ok (.aload_n 1, 1) := by decide +kernel
theorem ad_State_keepSentence_19 : decode prog_9_method_3_code 19 = .ok (.iconst 0, 1) := by decide +kernel
theorem ad_State_keepSentence_20 : decode prog_9_method_3_code 20 = .ok (.aload_n 0, 1) := by decide +kernel
theorem ad_State_keepSentence_21 : decode prog_9_method_3_code 21 = .ok (.getfield 32, 3) := by decide +kernel
theorem ad_State_keepSentence_24 : decode prog_9_method_3_code 24 = .ok (.iconst 0, 1) := by decide +kernel
theorem ad_State_keepSentence_25 : decode prog_9_method_3_code 25 = .ok (.iload_n 2, 1) := by decide +kernel
theorem ad_State_keepSentence_26 : decode prog_9_method_3_code 26 = .ok (.invokestatic 57, 3) := by decide +kernel
theorem ad_State_keepSentence_29 : decode prog_9_method_3_code 29 = .ok (.aload_n 0, 1) := by decide +kernel
theorem ad_State_keepSentence_30 : decode prog_9_method_3_code 30 = .ok (.iload_n 2, 1) := by decide +kernel
theorem ad_State_keepSentence_31 : decode prog_9_method_3_code 31 = .ok (.putfield 36, 3) := by decide +kernel
theorem ad_State_keepSentence_34 : decode prog_9_method_3_code 34 = .ok (.return_, 1) := by decide +kernel
theorem ad_State_copyFrom_0 : decode prog_9_method_4_code 0 = .ok (.aload_n 0, 1) := by decide +kernel
theorem ad_State_copyFrom_1 : decode prog_9_method_4_code 1 = .ok (.getfield 12, 3) := by decide +kernel
theorem ad_State_copyFrom_4 : decode prog_9_method_4_code 4 = .ok (.aload_n 1, 1) := by decide +kernel
theorem ad_State_copyFrom_5 : decode prog_9_method_4_code 5 = .ok (.getfield 12, 3) := by decide +kernel
theorem ad_State_copyFrom_8 : decode prog_9_method_4_code 8 = .ok (.invokevirtual 44, 3) := by decide +kernel
theorem ad_State_copyFrom_11 : decode prog_9_method_4_code 11 = .ok (.aload_n 0, 1) := by decide +kernel
theorem ad_State_copyFrom_12 : decode prog_9_method_4_code 12 = .ok (.getfield 21, 3) := by decide +kernel
theorem ad_State_copyFrom_15 : decode prog_9_method_4_code 15 = .ok (.aload_n 1, 1) := by decide +kernel
theorem ad_State_copyFrom_16 : decode prog_9_method_4_code 16 = .ok (.getfield 21, 3) := by decide +kernel
theorem ad_State_copyFrom_19 : decode prog_9_method_4_code 19 = .ok (.invokevirtual 63, 3) := by decide +kernel
theorem ad_State_copyFrom_22 : decode prog_9_method_4_code 22 = .ok (.aload_n 1, 1) := by decide +kernel
theorem ad_State_copyFrom_23 : decode prog_9_method_4_code 23 = .ok (.getfield 25, 3) := by decide +kernel
theorem ad_State_copyFrom_26 : decode prog_9_method_4_code 26 = .ok (.iconst 0, 1) := by decide +kernel
theorem ad_State_copyFrom_27 : decode prog_9_method_4_code 27 = .ok (.aload_n 0, 1) := by decide +kernel
theorem ad_State_copyFrom_28 : decode prog_9_method_4_code 28 = .ok (.getfield 25, 3) := by decide +kernel
theorem ad_State_copyFrom_31 : decode prog_9_method_4_code 31 = .ok (.iconst 0, 1) := by decide +kernel
theorem ad_State_copyFrom_32 : decode prog_9_method_4_code 32 = .ok (.bipush 8, 2) := by decide +kernel
theorem ad_State_copyFrom_34 : decode prog_9_method_4_code 34 = .ok (.invokestatic 57, 3) := by decide +kernel
theorem ad_State_copyFrom_37 : decode prog_9_method_4_code 37 = .ok (.aload_n 1, 1) := by decide +kernel
theorem ad_State_copyFrom_38 : decode prog_9_method_4_code 38 = .ok (.getfield 29, 3) := by decide +kernel
theorem ad_State_copyFrom_41 : decode prog_9_method_4_code 41 = .ok (.iconst 0, 1) := by decide +kernel
theorem ad_State_copyFrom_42 : decode prog_9_method_4_code 42 = .ok (.aload_n 0, 1) := by decide +kernel
theorem ad_State_copyFrom_43 : decode prog_9_method_4_code 43 = .ok (.getfield 29, 3) := by decide +kernel
theorem ad_State_copyFrom_46 : decode prog_9_method_4_code 46 = .ok (.iconst 0, 1) := by decide +kernel
theorem ad_State_copyFrom_47 : decode prog_9_method_4_code 47 = .ok (.bipush 8, 2) := by decide +kernel
theorem ad_State_copyFrom_49 : decode prog_9_method_4_code 49 = .ok (.invokestatic 57, 3) := by decide +kernel
theorem ad_State_copyFrom_52 : decode prog_9_method_4_code 52 = .ok (.aload_n 0, 1) := by decide +kernel
theorem ad_State_copyFrom_53 : decode prog_9_method_4_code 53 = .ok (.aload_n 1, 1) := by decide +kernel
theorem ad_State_copyFrom_54 : decode prog_9_method_4_code 54 = .ok (.getfield 32, 3) := by decide +kernel
theorem ad_State_copyFrom_57 : decode prog_9_method_4_code 57 = .ok (.aload_n 1, 1) := by decide +kernel
theorem ad_State_copyFrom_58 : decode prog_9_method_4_code 58 = .ok (.getfield 36, 3) := by decide +kernel
theorem ad_State_copyFrom_61 : decode prog_9_method_4_code 61 = .ok (.invokevirtual 66, 3) := by decide +kernel
theorem ad_State_copyFrom_64 : decode prog_9_method_4_code 64 = .ok (.return_, 1) := by decide +kernel
theorem ad_Tokens_open_0 : decode prog_10_method_2_code 0 = .ok (.iconst 0, 1) := by decide +kernel
theorem ad_Tokens_open_1 : decode prog_10_method_2_code 1 = .ok (.iload_n 2, 1) := by decide +kernel
theorem ad_Tokens_open_2 : decode prog_10_method_2_code 2 = .ok (.aload_n 1, 1) := by decide +kernel
theorem ad_Tokens_open_3 : decode prog_10_method_2_code 3 = .ok (.arraylength, 1) := by decide +kernel
theorem ad_Tokens_open_4 : decode prog_10_method_2_code 4 = .ok (.invokestatic 49, 3) := by decide +kernel
theorem ad_Tokens_open_7 : decode prog_10_method_2_code 7 = .ok (.invokestatic 55, 3) := by decide +kernel
theorem ad_Tokens_open_10 : decode prog_10_method_2_code 10 = .ok (.istore 4, 2) := by decide +kernel
theorem ad_Tokens_open_12 : decode prog_10_method_2_code 12 = .ok (.iload 4, 2) := by decide +kernel
theorem ad_Tokens_open_14 : decode prog_10_method_2_code 14 = .ok (.iload_n 3, 1) := by decide +kernel
theorem ad_Tokens_open_15 : decode prog_10_method_2_code 15 = .ok (.invokestatic 49, 3) := by decide +kernel
theorem ad_Tokens_open_18 : decode prog_10_method_2_code 18 = .ok (.istore 5, 2) := by decide +kernel
theorem ad_Tokens_open_20 : decode prog_10_method_2_code 20 = .ok (.aload_n 0, 1) := by decide +kernel
theorem ad_Tokens_open_21 : decode prog_10_method_2_code 21 = .ok (.iconst 0, 1) := by decide +kernel
theorem ad_Tokens_open_22 : decode prog_10_method_2_code 22 = .ok (.putfield 40, 3) := by decide +kernel
theorem ad_Tokens_open_25 : decode prog_10_method_2_code 25 = .ok (.aload_n 0, 1) := by decide +kernel
theorem ad_Tokens_open_26 : decode prog_10_method_2_code 26 = .ok (.iconst 0, 1) := by decide +kernel
theorem ad_Tokens_open_27 : decode prog_10_method_2_code 27 = .ok (.putfield 46, 3) := by decide +kernel
theorem ad_Tokens_open_30 : decode prog_10_method_2_code 30 = .ok (.iconst 0, 1) := by decide +kernel
theorem ad_Tokens_open_31 : decode prog_10_method_2_code 31 = .ok (.istore 6, 2) := by decide +kernel
theorem ad_Tokens_open_33 : decode prog_10_method_2_code 33 = .ok (.iload 6, 2) := by decide +kernel
theorem ad_Tokens_open_35 : decode prog_10_method_2_code 35 = .ok (.sipush 1000, 3) := by decide +kernel
theorem ad_Tokens_open_38 : decode prog_10_method_2_code 38 = .ok (.if_icmp .ge 84, 3) := by decide +kernel
theorem ad_Tokens_open_41 : decode prog_10_method_2_code 41 = .ok (.aload_n 0, 1) := by decide +kernel
theorem ad_Tokens_open_42 : decode prog_10_method_2_code 42 = .ok (.getfield 46, 3) := by decide +kernel
theorem ad_Tokens_open_45 : decode prog_10_method_2_code 45 = .ok (.iload 5, 2) := by decide +kernel
theorem ad_Tokens_open_47 : decode prog_10_method_2_code 47 = .ok (.if_icmp .ge 75, 3) := by decide +kernel
theorem ad_Tokens_open_50 : decode prog_10_method_2_code 50 = .ok (.aload_n 1, 1) := by decide +kernel
theorem ad_Tokens_open_51 : decode prog_10_method_2_code 51 = .ok (.aload_n 0, 1) := by decide +kernel
theorem ad_Tokens_open_52 : decode prog_10_method_2_code 52 = .ok (.getfield 46, 3) := by decide +kernel
theorem ad_Tokens_open_55 : decode prog_10_method_2_code 55 = .ok (.baload, 1) := by decide +kernel
theorem ad_Tokens_open_56 : decode prog_10_method_2_code 56 = .ok (.istore 7, 2) := by decide +kernel
theorem ad_Tokens_open_58 : decode prog_10_method_2_code 58 = .ok (.iload 7, 2) := by decide +kernel
theorem ad_Tokens_open_60 : decode prog_10_method_2_code 60 = .ok (.invokestatic 58, 3) := by decide +kernel
theorem ad_Tokens_open_63 : decode prog_10_method_2_code 63 = .ok (.ifCond .ne 11, 3) := by decide +kernel
theorem ad_Tokens_open_66 : decode prog_10_method_2_code 66 = .ok (.iload 7, 2) := by decide +kernel
theorem ad_Tokens_open_68 : decode prog_10_method_2_code 68 = .ok (.invokestatic 62, 3) := by decide +kernel
theorem ad_Tokens_open_71 : decode prog_10_method_2_code 71 = .ok (.ifCond .eq 13, 3) := by decide +kernel
theorem ad_Tokens_open_74 : decode prog_10_method_2_code 74 = .ok (.aload_n 0, 1) := by decide +kernel
theorem ad_Tokens_open_75 : decode prog_10_method_2_code 75 = .ok (.aload_n 1, 1) := by decide +kernel
theorem ad_Tokens_open_76 : decode prog_10_method_2_code 76 = .ok (.iload 4, 2) := by decide +kernel
theorem ad_Tokens_open_78 : decode prog_10_method_2_code 78 = .ok (.invokevirtual 65, 3) := by decide +kernel
theorem ad_Tokens_open_81 : decode prog_10_method_2_code 81 = .ok (.goto 35, 3) := by decide +kernel
theorem ad_Tokens_open_84 : decode prog_10_method_2_code 84 = .ok (.iload 7, 2) := by decide +kernel
theorem ad_Tokens_open_86 : decode prog_10_method_2_code 86 = .ok (.invokestatic 69, 3) := by decide +kernel
theorem ad_Tokens_open_89 : decode prog_10_method_2_code 89 = .ok (.ifCond .ne 17, 3) := by decide +kernel
theorem ad_Tokens_open_92 : decode prog_10_method_2_code 92 = .ok (.aload_n 0, 1) := by decide +kernel
theorem ad_Tokens_open_93 : decode prog_10_method_2_code 93 = .ok (.iload 7, 2) := by decide +kernel
theorem ad_Tokens_open_95 : decode prog_10_method_2_code 95 = .ok (.invokestatic 72, 3) := by decide +kernel
theorem ad_Tokens_open_98 : decode prog_10_method_2_code 98 = .ok (.aload_n 0, 1) := by decide +kernel
theorem ad_Tokens_open_99 : decode prog_10_method_2_code 99 = .ok (.getfield 46, 3) := by decide +kernel
theorem ad_Tokens_open_102 : decode prog_10_method_2_code 102 = .ok (.iconst 0, 1) := by decide +kernel
theorem ad_Tokens_open_103 : decode prog_10_method_2_code 103 = .ok (.invokevirtual 76, 3) := by decide +kernel
theorem ad_Tokens_open_106 : decode prog_10_method_2_code 106 = .ok (.aload_n 0, 1) := by decide +kernel
theorem ad_Tokens_open_107 : decode prog_10_method_2_code 107 = .ok (.dup, 1) := by decide +kernel
theorem ad_Tokens_open_108 : decode prog_10_method_2_code 108 = .ok (.getfield 46, 3) := by decide +kernel
theorem ad_Tokens_open_111 : decode prog_10_method_2_code 111 = .ok (.iconst 1, 1) := by decide +kernel
theorem ad_Tokens_open_112 : decode prog_10_method_2_code 112 = .ok (.iadd, 1) := by decide +kernel
theorem ad_Tokens_open_113 : decode prog_10_method_2_code 113 = .ok (.putfield 46, 3) := by decide +kernel
theorem ad_Tokens_open_116 : decode prog_10_method_2_code 116 = .ok (.iinc 6 1, 3) := by decide +kernel
theorem ad_Tokens_open_119 : decode prog_10_method_2_code 119 = .ok (.goto (-86), 3) := by decide +kernel
theorem ad_Tokens_open_122 : decode prog_10_method_2_code 122 = .ok (.aload_n 0, 1) := by decide +kernel
theorem ad_Tokens_open_123 : decode prog_10_method_2_code 123 = .ok (.iload 4, 2) := by decide +kernel
theorem ad_Tokens_open_125 : decode prog_10_method_2_code 125 = .ok (.iload_n 3, 1) := by decide +kernel
theorem ad_Tokens_open_126 : decode prog_10_method_2_code 126 = .ok (.if_icmp .le 8, 3) := by decide +kernel
theorem ad_Tokens_open_129 : decode prog_10_method_2_code 129 = .ok (.bipush 33, 2) := by decide +kernel
theorem ad_Tokens_open_131 : decode prog_10_method_2_code 131 = .ok (.goto 5, 3) := by decide +kernel
theorem ad_Tokens_open_134 : decode prog_10_method_2_code 134 = .ok (.bipush 32, 2) := by decide +kernel
theorem ad_Tokens_open_136 : decode prog_10_method_2_code 136 = .ok (.iload 5, 2) := by decide +kernel
theorem ad_Tokens_open_138 : decode prog_10_method_2_code 138 = .ok (.iconst 0, 1) := by decide +kernel
theorem ad_Tokens_open_139 : decode prog_10_method_2_code 139 = .ok (.invokevirtual 76, 3) := by decide +kernel
theorem ad_Tokens_open_142 : decode prog_10_method_2_code 142 = .ok (.aload_n 0, 1) := by decide +kernel
theorem ad_Tokens_open_143 : decode prog_10_method_2_code 143 = .ok (.iconst 0, 1) := by decide +kernel
theorem ad_Tokens_open_144 : decode prog_10_method_2_code 144 = .ok (.putfield 24, 3) := by decide +kernel
theorem ad_Tokens_open_147 : decode prog_10_method_2_code 147 = .ok (.aload_n 0, 1) := by decide +kernel
theorem ad_Tokens_open_148 : decode prog_10_method_2_code 148 = .ok (.iconst 0, 1) := by decide +kernel
theorem ad_Tokens_open_149 : decode prog_10_method_2_code 149 = .ok (.putfield 27, 3) := by decide +kernel
theorem ad_Tokens_open_152 : decode prog_10_method_2_code 152 = .ok (.aload_n 0, 1) := by decide +kernel
theorem ad_Tokens_open_153 : decode prog_10_method_2_code 153 = .ok (.iconst (-1), 1) := by decide +kernel
theorem ad_Tokens_open_154 : decode prog_10_method_2_code 154 = .ok (.putfield 43, 3) := by decide +kernel
theorem ad_Tokens_open_157 : decode prog_10_method_2_code 157 = .ok (.aload_n 0, 1) := by decide +kernel
theorem ad_Tokens_open_158 : decode prog_10_method_2_code 158 = .ok (.invokevirtual 80, 3) := by decide +kernel
theorem ad_Tokens_open_161 : decode prog_10_method_2_code 161 = .ok (.return_, 1) := by decide +kernel
theorem ad_Tokens_readWordOrNumber_0 : decode prog_10_method_3_code 0 = .ok (.aload_n 0, 1) := by decide +kernel
theorem ad_Tokens_readWordOrNumber_1 : decode prog_10_method_3_code 1 = .ok (.getfield 46, 3) := by decide +kernel
theorem ad_Tokens_readWordOrNumber_4 : decode prog_10_method_3_code 4 = .ok (.istore_n 3, 1) := by decide +kernel
theorem ad_Tokens_readWordOrNumber_5 : decode prog_10_method_3_code 5 = .ok (.iconst 0, 1) := by decide +kernel
theorem ad_Tokens_readWordOrNumber_6 : decode prog_10_method_3_code 6 = .ok (.istore 4, 2) := by decide +kernel
theorem ad_Tokens_readWordOrNumber_8 : decode prog_10_method_3_code 8 = .ok (.iconst 0, 1) := by decide +kernel
theorem ad_Tokens_readWordOrNumber_9 : decode prog_10_method_3_code 9 = .ok (.istore 5, 2) := by decide +kernel
theorem ad_Tokens_readWordOrNumber_11 : decode prog_10_method_3_code 11 = .ok (.iconst 0, 1) := by decide +kernel
theorem ad_Tokens_readWordOrNumber_12 : decode prog_10_method_3_code 12 = .ok (.istore 6, 2) := by decide +kernel
theorem ad_Tokens_readWordOrNumber_14 : decode prog_10_method_3_code 14 = .ok (.aload_n 0, 1) := by decide +kernel
theorem ad_Tokens_readWordOrNumber_15 : decode prog_10_method_3_code 15 = .ok (.getfield 46, 3) := by decide +kernel
theorem ad_Tokens_readWordOrNumber_18 : decode prog_10_method_3_code 18 = .ok (.iload_n 2, 1) := by decide +kernel
theorem ad_Tokens_readWordOrNumber_19 : decode prog_10_method_3_code 19 = .ok (.if_icmp .ge 98, 3) := by decide +kernel
theorem ad_Tokens_readWordOrNumber_22 : decode prog_10_method_3_code 22 = .ok (.aload_n 1, 1) := by decide +kernel
theorem ad_Tokens_readWordOrNumber_23 : decode prog_10_method_3_code 23 = .ok (.aload_n 0, 1) := by decide +kernel
theorem ad_Tokens_readWordOrNumber_24 : decode prog_10_method_3_code 24 = .ok (.getfield 46, 3) := by decide +kernel
theorem ad_Tokens_readWordOrNumber_27 : decode prog_10_method_3_code 27 = .ok (.baload, 1) := by decide +kernel
theorem ad_Tokens_readWordOrNumber_28 : decode prog_10_method_3_code 28 = .ok (.invokestatic 58, 3) := by decide +kernel
theorem ad_Tokens_readWordOrNumber_31 : decode prog_10_method_3_code 31 = .ok (.ifCond .ne 15, 3) := by decide +kernel
theorem ad_Tokens_readWordOrNumber_34 : decode prog_10_method_3_code 34 = .ok (.aload_n 1, 1) := by decide +kernel
theorem ad_Tokens_readWordOrNumber_35 : decode prog_10_method_3_code 35 = .ok (.aload_n 0, 1) := by decide +kernel
theorem ad_Tokens_readWordOrNumber_36 : decode prog_10_method_3_code 36 = .ok (.getfield 46, 3) := by decide +kernel
theorem ad_Tokens_readWordOrNumber_39 : decode prog_10_method_3_code 39 = .ok (.baload, 1) := by decide +kernel
theorem ad_Tokens_readWordOrNumber_40 : decode prog_10_method_3_code 40 = .ok (.invokestatic 62, 3) := by decide +kernel
theorem ad_Tokens_readWordOrNumber_43 : decode prog_10_method_3_code 43 = .ok (.ifCond .eq 74, 3) := by decide +kernel
theorem ad_Tokens_readWordOrNumber_46 : decode prog_10_method_3_code 46 = .ok (.iload 4, 2) := by decide +kernel
theorem ad_Tokens_readWordOrNumber_48 : decode prog_10_method_3_code 48 = .ok (.aload_n 1, 1) := by decide +kernel
theorem ad_Tokens_readWordOrNumber_49 : decode prog_10_method_3_code 49 = .ok (.aload_n 0, 1) := by decide +kernel
theorem ad_Tokens_readWordOrNumber_50 : decode prog_10_method_3_code 50 = .ok (.getfield 46, 3) := by decide +kernel
theorem ad_Tokens_readWordOrNumber_53 : decode prog_10_method_3_code 53 = .ok (.baload, 1) := by decide +kernel
theorem ad_Tokens_readWordOrNumber_54 : decode prog_10_method_3_code 54 = .ok (.invokestatic 58, 3) := by decide +kernel
theorem ad_Tokens_readWordOrNumber_57 : decode prog_10_method_3_code 57 = .ok (.ifCond .eq 7, 3) := by decide +kernel
theorem ad_Tokens_readWordOrNumber_60 : decode prog_10_method_3_code 60 = .ok (.iconst 1, 1) := by decide +kernel
theorem ad_Tokens_readWordOrNumber_61 : decode prog_10_method_3_code 61 = .ok (.goto 4, 3) := by decide +kernel
theorem ad_Tokens_readWordOrNumber_64 : decode prog_10_method_3_code 64 = .ok (.iconst 0, 1) := by decide +kernel
theorem ad_Tokens_readWordOrNumber_65 : decode prog_10_method_3_code 65 = .ok (.iadd, 1) := by decide +kernel
theorem ad_Tokens_readWordOrNumber_66 : decode prog_10_method_3_code 66 = .ok (.istore 4, 2) := by decide +kernel
theorem ad_Tokens_readWordOrNumber_68 : decode prog_10_method_3_code 68 = .ok (.iload 5, 2) := by decide +kernel
theorem ad_Tokens_readWordOrNumber_70 : decode prog_10_method_3_code 70 = .ok (.bipush 27, 2) := by decide +kernel
theorem ad_Tokens_readWordOrNumber_72 : decode prog_10_method_3_code 72 = .ok (.imul, 1) := by decide +kernel
theorem ad_Tokens_readWordOrNumber_73 : decode prog_10_method_3_code 73 = .ok (.aload_n 1, 1) := by decide +kernel
theorem ad_Tokens_readWordOrNumber_74 : decode prog_10_method_3_code 74 = .ok (.aload_n 0, 1) := by decide +kernel
theorem ad_Tokens_readWordOrNumber_75 : decode prog_10_method_3_code 75 = .ok (.getfield 46, 3) := by decide +kernel
theorem ad_Tokens_readWordOrNumber_78 : decode prog_10_method_3_code 78 = .ok (.baload, 1) := by decide +kernel
theorem ad_Tokens_readWordOrNumber_79 : decode prog_10_method_3_code 79 = .ok (.bipush 97, 2) := by decide +kernel
theorem ad_Tokens_readWordOrNumber_81 : decode prog_10_method_3_code 81 = .ok (.isub, 1) := by decide +kernel
theorem ad_Tokens_readWordOrNumber_82 : decode prog_10_method_3_code 82 = .ok (.iconst 1, 1) := by decide +kernel
theorem ad_Tokens_readWordOrNumber_83 : decode prog_10_method_3_code 83 = .ok (.iadd, 1) := by decide +kernel
theorem ad_Tokens_readWordOrNumber_84 : decode prog_10_method_3_code 84 = .ok (.iadd, 1) := by decide +kernel
theorem ad_Tokens_readWordOrNumber_85 : decode prog_10_method_3_code 85 = .ok (.istore 5, 2) := by decide +kernel
theorem ad_Tokens_readWordOrNumber_87 : decode prog_10_method_3_code 87 = .ok (.iload 6, 2) := by decide +kernel
theorem ad_Tokens_readWordOrNumber_89 : decode prog_10_method_3_code 89 = .ok (.bipush 10, 2) := by decide +kernel
theorem ad_Tokens_readWordOrNumber_91 : decode prog_10_method_3_code 91 = .ok (.imul, 1) := by decide +kernel
theorem ad_Tokens_readWordOrNumber_92 : decode prog_10_method_3_code 92 = .ok (.aload_n 1, 1) := by decide +kernel
theorem ad_Tokens_readWordOrNumber_93 : decode prog_10_method_3_code 93 = .ok (.aload_n 0, 1) := by decide +kernel
theorem ad_Tokens_readWordOrNumber_94 : decode prog_10_method_3_code 94 = .ok (.getfield 46, 3) := by decide +kernel
theorem ad_Tokens_readWordOrNumber_97 : decode prog_10_method_3_code 97 = .ok (.baload, 1) := by decide +kernel
theorem ad_Tokens_readWordOrNumber_98 : decode prog_10_method_3_code 98 = .ok (.bipush 48, 2) := by decide +kernel
theorem ad_Tokens_readWordOrNumber_100 : decode prog_10_method_3_code 100 = .ok (.isub, 1) := by decide +kernel
theorem ad_Tokens_readWordOrNumber_101 : decode prog_10_method_3_code 101 = .ok (.iadd, 1) := by decide +kernel
theorem ad_Tokens_readWordOrNumber_102 : decode prog_10_method_3_code 102 = .ok (.istore 6, 2) := by decide +kernel
theorem ad_Tokens_readWordOrNumber_104 : decode prog_10_method_3_code 104 = .ok (.aload_n 0, 1) := by decide +kernel
theorem ad_Tokens_readWordOrNumber_105 : decode prog_10_method_3_code 105 = .ok (.dup, 1) := by decide +kernel
theorem ad_Tokens_readWordOrNumber_106 : decode prog_10_method_3_code 106 = .ok (.getfield 46, 3) := by decide +kernel
theorem ad_Tokens_readWordOrNumber_109 : decode prog_10_method_3_code 109 = .ok (.iconst 1, 1) := by decide +kernel
theorem ad_Tokens_readWordOrNumber_110 : decode prog_10_method_3_code 110 = .ok (.iadd, 1) := by decide +kernel
theorem ad_Tokens_readWordOrNumber_111 : decode prog_10_method_3_code 111 = .ok (.putfield 46, 3) := by decide +kernel
theorem ad_Tokens_readWordOrNumber_114 : decode prog_10_method_3_code 114 = .ok (.goto (-100), 3) := by decide +kernel
theorem ad_Tokens_readWordOrNumber_117 : decode prog_10_method_3_code 117 = .ok (.aload_n 0, 1) := by decide +kernel
theorem ad_Tokens_readWordOrNumber_118 : decode prog_10_method_3_code 118 = .ok (.getfield 46, 3) := by decide +kernel
theorem ad_Tokens_readWordOrNumber_121 : decode prog_10_method_3_code 121 = .ok (.iload_n 3, 1) := by decide +kernel
theorem ad_Tokens_readWordOrNumber_122 : decode prog_10_method_3_code 122 = .ok (.isub, 1) := by decide +kernel
theorem ad_Tokens_readWordOrNumber_123 : decode prog_10_method_3_code 123 = .ok (.istore 7, 2) := by decide +kernel
theorem ad_Tokens_readWordOrNumber_125 : decode prog_10_method_3_code 125 = .ok (.iload 4, 2) := by decide +kernel
theorem ad_Tokens_readWordOrNumber_127 : decode prog_10_method_3_code 127 = .ok (.iload 7, 2) := by decide +kernel
theorem ad_Tokens_readWordOrNumber_129 : decode prog_10_method_3_code 129 = .ok (.if_icmp .ne 25, 3) := by decide +kernel
theorem ad_Tokens_readWordOrNumber_132 : decode prog_10_method_3_code 132 = .ok (.iload 7, 2) := by decide +kernel
theorem ad_Tokens_readWordOrNumber_134 : decode prog_10_method_3_code 134 = .ok (.bipush 6, 2) := by decide +kernel
theorem ad_Tokens_readWordOrNumber_136 : decode prog_10_method_3_code 136 = .ok (.if_icmp .gt 18, 3) := by decide +kernel
theorem ad_Tokens_readWordOrNumber_139 : decode prog_10_method_3_code 139 = .ok (.aload_n 0, 1) := by decide +kernel
theorem ad_Tokens_readWordOrNumber_140 : decode prog_10_method_3_code 140 = .ok (.iload 5, 2) := by decide +kernel
theorem ad_Tokens_readWordOrNumber_142 : decode prog_10_method_3_code 142 = .ok (.invokestatic 83, 3) := by decide +kernel
theorem ad_Tokens_readWordOrNumber_145 : decode prog_10_method_3_code 145 = .ok (.iload_n 3, 1) := by decide +kernel
theorem ad_Tokens_readWordOrNumber_146 : decode prog_10_method_3_code 146 = .ok (.iload 5, 2) := by decide +kernel
theorem ad_Tokens_readWordOrNumber_148 : decode prog_10_method_3_code 148 = .ok (.invokevirtual 76, 3) := by decide +kernel
theorem ad_Tokens_readWordOrNumber_151 : decode prog_10_method_3_code 151 = .ok (.goto 34, 3) := by decide +kernel
theorem ad_Tokens_readWordOrNumber_154 : decode prog_10_method_3_code 154 = .ok (.iload 4, 2) := by decide +kernel
theorem ad_Tokens_readWordOrNumber_156 : decode prog_10_method_3_code 156 = .ok (.ifCond .ne 21, 3) := by decide +kernel
theorem ad_Tokens_readWordOrNumber_159 : decode prog_10_method_3_code 159 = .ok (.iload 7, 2) := by decide +kernel
theorem ad_Tokens_readWordOrNumber_161 : decode prog_10_method_3_code 161 = .ok (.iconst 3, 1) := by decide +kernel
theorem ad_Tokens_readWordOrNumber_162 : decode prog_10_method_3_code 162 = .ok (.if_icmp .gt 15, 3) := by decide +kernel
theorem ad_Tokens_readWordOrNumber_165 : decode prog_10_method_3_code 165 = .ok (.aload_n 0, 1) := by decide +kernel
theorem ad_Tokens_readWordOrNumber_166 : decode prog_10_method_3_code 166 = .ok (.bipush 25, 2) := by decide +kernel
theorem ad_Tokens_readWordOrNumber_168 : decode prog_10_method_3_code 168 = .ok (.iload_n 3, 1) := by decide +kernel
theorem ad_Tokens_readWordOrNumber_169 : decode prog_10_method_3_code 169 = .ok (.iload 6, 2) := by decide +kernel
theorem ad_Tokens_readWordOrNumber_171 : decode prog_10_method_3_code 171 = .ok (.invokevirtual 76, 3) := by decide +kernel
theorem ad_Tokens_readWordOrNumber_174 : decode prog_10_method_3_code 174 = .ok (.goto 11, 3) := by decide +kernel
theorem ad_Tokens_readWordOrNumber_177 : decode prog_10_method_3_code 177 = .ok (.aload_n 0, 1) := by decide +kernel
theorem ad_Tokens_readWordOrNumber_178 : decode prog_10_method_3_code 178 = .ok (.bipush 33, 2) := by decide +kernel
theorem ad_Tokens_readWordOrNumber_180 : decode prog_10_method_3_code 180 = .ok (.iload_n 3, 1) := by decide +kernel
theorem ad_Tokens_readWordOrNumber_181 : decode prog_10_method_3_code 181 = .ok (.iconst 0, 1) := by decide +kernel
theorem ad_Tokens_readWordOrNumber_182 : decode prog_10_method_3_code 182 = .ok (.invokevirtual 76, 3) := by decide +kernel
theorem ad_Tokens_readWordOrNumber_185 : decode prog_10_method_3_code 185 = .ok (.return_, 1) := by decide +kernel
theorem ad_Tokens_add_0 : decode prog_10_method_4_code 0 = .ok (.aload_n 0, 1) := by decide +kernel
theorem ad_Tokens_add_1 : decode prog_10_method_4_code 1 = .ok (.getfield 40, 3) := by decide +kernel
theorem ad_Tokens_add_4 : decode prog_10_method_4_code 4 = .ok (.sipush 1000, 3) := by decide +kernel
theorem ad_Tokens_add_7 : decode prog_10_method_4_code 7 = .ok (.if_icmp .ge 43, 3) := by decide +kernel
theorem ad_Tokens_add_10 : decode prog_10_method_4_code 10 = .ok (.aload_n 0, 1) := by decide +kernel
theorem ad_Tokens_add_11 : decode prog_10_method_4_code 11 = .ok (.getfield 30, 3) := by decide +kernel
theorem ad_Tokens_add_14 : decode prog_10_method_4_code 14 = .ok (.aload_n 0, 1) := by decide +kernel
theorem ad_Tokens_add_15 : decode prog_10_method_4_code 15 = .ok (.getfield 40, 3) := by decide +kernel
theorem ad_Tokens_add_18 : decode prog_10_method_4_code 18 = .ok (.iload_n 1, 1) := by decide +kernel
theorem ad_Tokens_add_19 : decode prog_10_method_4_code 19 = .ok (.iastore, 1) := by decide +kernel
theorem ad_Tokens_add_20 : decode prog_10_method_4_code 20 = .ok (.aload_n 0, 1) := by decide +kernel
theorem ad_Tokens_add_21 : decode prog_10_method_4_code 21 = .ok (.getfield 34, 3) := by decide +kernel
theorem ad_Tokens_add_24 : decode prog_10_method_4_code 24 = .ok (.aload_n 0, 1) := by decide +kernel
theorem ad_Tokens_add_25 : decode prog_10_method_4_code 25 = .ok (.getfield 40, 3) := by decide +kernel
theorem ad_Tokens_add_28 : decode prog_10_method_4_code 28 = .ok (.iload_n 2, 1) := by decide +kernel
theorem ad_Tokens_add_29 : decode prog_10_method_4_code 29 = .ok (.iastore, 1) := by decide +kernel
theorem ad_Tokens_add_30 : decode prog_10_method_4_code 30 = .ok (.aload_n 0, 1) := by decide +kernel
theorem ad_Tokens_add_31 : decode prog_10_method_4_code 31 = .ok (.getfield 37, 3) := by decide +kernel
theorem ad_Tokens_add_34 : decode prog_10_method_4_code 34 = .ok (.aload_n 0, 1) := by decide +kernel
theorem ad_Tokens_add_35 : decode prog_10_method_4_code 35 = .ok (.getfield 40, 3) := by decide +kernel
theorem ad_Tokens_add_38 : decode prog_10_method_4_code 38 = .ok (.iload_n 3, 1) := by decide +kernel
theorem ad_Tokens_add_39 : decode prog_10_method_4_code 39 = .ok (.iastore, 1) := by decide +kernel
theorem ad_Tokens_add_40 : decode prog_10_method_4_code 40 = .ok (.aload_n 0, 1) := by decide +kernel
theorem ad_Tokens_add_41 : decode prog_10_method_4_code 41 = .ok (.dup, 1) := by decide +kernel
theorem ad_Tokens_add_42 : decode prog_10_method_4_code 42 = .ok (.getfield 40, 3) := by decide +kernel
theorem ad_Tokens_add_45 : decode prog_10_method_4_code 45 = .ok (.iconst 1, 1) := by decide +kernel
theorem ad_Tokens_add_46 : decode prog_10_method_4_code 46 = .ok (.iadd, 1) := by decide +kernel
theorem ad_Tokens_add_47 : decode prog_10_method_4_code 47 = .ok (.putfield 40, 3) := by decide +kernel
theorem ad_Tokens_add_50 : decode prog_10_method_4_code 50 = .ok (.return_, 1) := by decide +kernel
theorem ad_Tokens_advance_0 : decode prog_10_method_5_code 0 = .ok (.aload_n 0, 1) := by decide +kernel
theorem ad_Tokens_advance_1 : decode prog_10_method_5_code 1 = .ok (.dup, 1) := by decide +kernel
theorem ad_Tokens_advance_2 : decode prog_10_method_5_code 2 = .ok (.getfield 43, 3) := by decide +kernel
theorem ad_Tokens_advance_5 : decode prog_10_method_5_code 5 = .ok (.aload_n 0, 1) := by decide +kernel
theorem ad_Tokens_advance_6 : decode prog_10_method_5_code 6 = .ok (.getfield 43, 3) := by decide +kernel
theorem ad_Tokens_advance_9 : decode prog_10_method_5_code 9 = .ok (.aload_n 0, 1) := by decide +kernel
theorem ad_Tokens_advance_10 : decode prog_10_method_5_code 10 = .ok (.getfield 40, 3) := by decide +kernel
theorem ad_Tokens_advance_13 : decode prog_10_method_5_code 13 = .ok (.iconst 1, 1) := by decide +kernel
theorem ad_Tokens_advance_14 : decode prog_10_method_5_code 14 = .ok (.isub, 1) := by decide +kernel
theorem ad_Tokens_advance_15 : decode prog_10_method_5_code 15 = .ok (.if_icmp .ge 7, 3) := by decide +kernel
theorem ad_Tokens_advance_18 : decode prog_10_method_5_code 18 = .ok (.iconst 1, 1) := by decide +kernel
theorem ad_Tokens_advance_19 : decode prog_10_method_5_code 19 = .ok (.goto 4, 3) := by decide +kernel
theorem ad_Tokens_advance_22 : decode prog_10_method_5_code 22 = .ok (.iconst 0, 1) := by decide +kernel
theorem ad_Tokens_advance_23 : decode prog_10_method_5_code 23 = .ok (.iadd, 1) := by decide +kernel
theorem ad_Tokens_advance_24 : decode prog_10_method_5_code 24 = .ok (.putfield 43, 3) := by decide +kernel
theorem ad_Tokens_advance_27 : decode prog_10_method_5_code 27 = .ok (.aload_n 0, 1) := by decide +kernel
theorem ad_Tokens_advance_28 : decode prog_10_method_5_code 28 = .ok (.getfield 43, 3) := by decide +kernel
theorem ad_Tokens_advance_31 : decode prog_10_method_5_code 31 = .ok (.ifCond .lt 53, 3) := by decide +kernel
theorem ad_Tokens_advance_34 : decode prog_10_method_5_code 34 = .ok (.aload_n 0, 1) := by decide +kernel
theorem ad_Tokens_advance_35 : decode prog_10_method_5_code 35 = .ok (.getfield 43, 3) := by decide +kernel
theorem ad_Tokens_advance_38 : decode prog_10_method_5_code 38 = .ok (.aload_n 0, 1) := by decide +kernel
theorem ad_Tokens_advance_39 : decode prog_10_method_5_code 39 = .ok (.getfield 40, 3) := by decide +kernel
theorem ad_Tokens_advance_42 : decode prog_10_method_5_code 42 = .ok (.if_icmp .ge 42, 3) := by decide +kernel
theorem ad_Tokens_advance_45 : decode prog_10_method_5_code 45 = .ok (.aload_n 0, 1) := by decide +kernel
theorem ad_Tokens_advance_46 : decode prog_10_method_5_code 46 = .ok (.aload_n 0, 1) := by decide +kernel
theorem ad_Tokens_advance_47 : decode prog_10_method_5_code 47 = .ok (.getfield 30, 3) := by decide +kernel
theorem ad_Tokens_advance_50 : decode prog_10_method_5_code 50 = .ok (.aload_n 0, 1) := by decide +kernel
theorem ad_Tokens_advance_51 : decode prog_10_method_5_code 51 = .ok (.getfield 43, 3) := by decide +kernel
theorem ad_Tokens_advance_54 : decode prog_10_method_5_code 54 = .ok (.iaload, 1) := by decide +kernel
theorem ad_Tokens_advance_55 : decode prog_10_method_5_code 55 = .ok (.putfield 11, 3) := by decide +kernel
theorem ad_Tokens_advance_58 : decode prog_10_method_5_code 58 = .ok (.aload_n 0, 1) := by decide +kernel
theorem ad_Tokens_advance_59 : decode prog_10_method_5_code 59 = .ok (.aload_n 0, 1) := by decide +kernel
theorem ad_Tokens_advance_60 : decode prog_10_method_5_code 60 = .ok (.getfield 34, 3) := by decide +kernel
theorem ad_Tokens_advance_63 : decode prog_10_method_5_code 63 = .ok (.aload_n 0, 1) := by decide +kernel
theorem ad_Tokens_advance_64 : decode prog_10_method_5_code 64 = .ok (.getfield 43, 3) := by decide +kernel
theorem ad_Tokens_advance_67 : decode prog_10_method_5_code 67 = .ok (.iaload, 1) := by decide +kernel
theorem ad_Tokens_advance_68 : decode prog_10_method_5_code 68 = .ok (.putfield 15, 3) := by decide +kernel
theorem ad_Tokens_advance_71 : decode prog_10_method_5_code 71 = .ok (.aload_n 0, 1) := by decide +kernel
theorem ad_Tokens_advance_72 : decode prog_10_method_5_code 72 = .ok (.aload_n 0, 1) := by decide +kernel
theorem ad_Tokens_advance_73 : decode prog_10_method_5_code 73 = .ok (.getfield 37, 3) := by decide +kernel
theorem ad_Tokens_advance_76 : decode prog_10_method_5_code 76 = .ok (.aload_n 0, 1) := by decide +kernel
theorem ad_Tokens_advance_77 : decode prog_10_method_5_code 77 = .ok (.getfield 43, 3) := by decide +kernel
theorem ad_Tokens_advance_80 : decode prog_10_method_5_code 80 = .ok (.iaload, 1) := by decide +kernel
theorem ad_Tokens_advance_81 : decode prog_10_method_5_code 81 = .ok (.putfield 18, 3) := by decide +kernel
theorem ad_Tokens_advance_84 : decode prog_10_method_5_code 84 = .ok (.return_, 1) := by decide +kernel
theorem ad_Tokens_wordKind_0 : decode prog_10_method_6_code 0 = .ok (.iconst 0, 1) := by decide +kernel
theorem ad_Tokens_wordKind_1 : decode prog_10_method_6_code 1 = .ok (.istore_n 1, 1) := by decide +kernel
theorem ad_Tokens_wordKind_2 : decode prog_10_method_6_code 2 = .ok (.iconst 0, 1) := by decide +kernel
theorem ad_Tokens_wordKind_3 : decode prog_10_method_6_code 3 = .ok (.istore_n 2, 1) := by decide +kernel
theorem ad_Tokens_wordKind_4 : decode prog_10_method_6_code 4 = .ok (.iconst 0, 1) := by decide +kernel
theorem ad_Tokens_wordKind_5 : decode prog_10_method_6_code 5 = .ok (.istore_n 3, 1) := by decide +kernel
theorem ad_Tokens_wordKind_6 : decode prog_10_method_6_code 6 = .ok (.iload_n 3, 1) := by decide +kernel
theorem ad_Tokens_wordKind_7 : decode prog_10_method_6_code 7 = .ok (.ldc 86, 2) := by decide +kernel
theorem ad_Tokens_wordKind_9 : decode prog_10_method_6_code 9 = .ok (.invokevirtual 88, 3) := by decide +kernel
theorem ad_Tokens_wordKind_12 : decode prog_10_method_6_code 12 = .ok (.if_icmp .ge 52, 3) := by decide +kernel
theorem ad_Tokens_wordKind_15 : decode prog_10_method_6_code 15 = .ok (.ldc 86, 2) := by decide +kernel
theorem ad_Tokens_wordKind_17 : decode prog_10_method_6_code 17 = .ok (.iload_n 3, 1) := by decide +kernel
theorem ad_Tokens_wordKind_18 : decode prog_10_method_6_code 18 = .ok (.invokevirtual 94, 3) := by decide +kernel
theorem ad_Tokens_wordKind_21 : decode prog_10_method_6_code 21 = .ok (.bipush 32, 2) := by decide +kernel
theorem ad_Tokens_wordKind_23 : decode prog_10_method_6_code 23 = .ok (.if_icmp .eq 23, 3) := by decide +kernel
theorem ad_Tokens_wordKind_26 : decode prog_10_method_6_code 26 = .ok (.iload_n 2, 1) := by decide +kernel
theorem ad_Tokens_wordKind_27 : decode prog_10_method_6_code 27 = .ok (.bipush 27, 2) := by decide +kernel
theorem ad_Tokens_wordKind_29 : decode prog_10_method_6_code 29 = .ok (.imul, 1) := by decide +kernel
theorem ad_Tokens_wordKind_30 : decode prog_10_method_6_code 30 = .ok (.ldc 86, 2) := by decide +kernel
theorem ad_Tokens_wordKind_32 : decode prog_10_method_6_code 32 = .ok (.iload_n 3, 1) := by decide +kernel
theorem ad_Tokens_wordKind_33 : decode prog_10_method_6_code 33 = .ok (.invokevirtual 94, 3) := by decide +kernel
theorem ad_Tokens_wordKind_36 : decode prog_10_method_6_code 36 = .ok (.bipush 97, 2) := by decide +kernel
theorem ad_Tokens_wordKind_38 : decode prog_10_method_6_code 38 = .ok (.isub, 1) := by decide +kernel
theorem ad_Tokens_wordKind_39 : decode prog_10_method_6_code 39 = .ok (.iconst 1, 1) := by decide +kernel
theorem ad_Tokens_wordKind_40 : decode prog_10_method_6_code 40 = .ok (.iadd, 1) := by decide +kernel
theorem ad_Tokens_wordKind_41 : decode prog_10_method_6_code 41 = .ok (.iadd, 1) := by decide +kernel
theorem ad_Tokens_wordKind_42 : decode prog_10_method_6_code 42 = .ok (.istore_n 2, 1) := by decide +kernel
theorem ad_Tokens_wordKind_43 : decode prog_10_method_6_code 43 = .ok (.goto 15, 3) := by decide +kernel
theorem ad_Tokens_wordKind_46 : decode prog_10_method_6_code 46 = .ok (.iload_n 2, 1) := by decide +kernel
theorem ad_Tokens_wordKind_47 : decode prog_10_method_6_code 47 = .ok (.iload_n 0, 1) := by decide +kernel
theorem ad_Tokens_wordKind_48 : decode prog_10_method_6_code 48 = .ok (.if_icmp .ne 5, 3) := by decide +kernel
theorem ad_Tokens_wordKind_51 : decode prog_10_method_6_code 51 = .ok (.iload_n 1, 1) := by decide +kernel
theorem ad_Tokens_wordKind_52 : decode prog_10_method_6_code 52 = .ok (.ireturn, 1) := by decide +kernel
theorem ad_Tokens_wordKind_53 : decode prog_10_method_6_code 53 = .ok (.iinc 1 1, 3) := by decide +kernel
theorem ad_Tokens_wordKind_56 : decode prog_10_method_6_code 56 = .ok (.iconst 0, 1) := by decide +kernel
theorem ad_Tokens_wordKind_57 : decode prog_10_method_6_code 57 = .ok (.istore_n 2, 1) := by decide +kernel
theorem ad_Tokens_wordKind_58 : decode prog_10_method_6_code 58 = .ok (.iinc 3 1, 3) := by decide +kernel
theorem ad_Tokens_wordKind_61 : decode prog_10_method_6_code 61 = .ok (.goto (-55), 3) := by decide +kernel
theorem ad_Tokens_wordKind_64 : decode prog_10_method_6_code 64 = .ok (.bipush 24, 2) := by decide +kernel
theorem ad_Tokens_wordKind_66 : decode prog_10_method_6_code 66 = .ok (.ireturn, 1) := by decide +kernel
theorem ad_Tokens_signKind_0 : decode prog_10_method_7_code 0 = .ok (.iload_n 0, 1) := by decide +kernel
theorem ad_Tokens_signKind_1 : decode prog_10_method_7_code 1 = .ok (.lookupswitch 77 #[(40, 71), (41, 74), (59, 59), (60, 62), (61, 65), (62, 68)], 59) := by decide +kernel
theorem ad_Tokens_signKind_60 : decode prog_10_method_7_code 60 = .ok (.bipush 26, 2) := by decide +kernel
theorem ad_Tokens_signKind_62 : decode prog_10_method_7_code 62 = .ok (.ireturn, 1) := by decide +kernel
theorem ad_Tokens_signKind_63 : decode prog_10_method_7_code 63 = .ok (.bipush 27, 2) := by decide +kernel
theorem ad_Tokens_signKind_65 : decode prog_10_method_7_code 65 = .ok (.ireturn, 1) := by decide +kernel
theorem ad_Tokens_signKind_66 : decode prog_10_method_7_code 66 = .ok (.bipush 28, 2) := by decide +kernel
theorem ad_Tokens_signKind_68 : decode prog_10_method_7_code 68 = .ok (.ireturn, 1) := by decide +kernel
theorem ad_Tokens_signKind_69 : decode prog_10_method_7_code 69 = .ok (.bipush 29, 2) := by decide +kernel
theorem ad_Tokens_signKind_71 : decode prog_10_method_7_code 71 = .ok (.ireturn, 1) := by decide +kernel
theorem ad_Tokens_signKind_72 : decode prog_10_method_7_code 72 = .ok (.bipush 30, 2) := by decide +kernel
theorem ad_Tokens_signKind_74 : decode prog_10_method_7_code 74 = .ok (.ireturn, 1) := by decide +kernel
theorem ad_Tokens_signKind_75 : decode prog_10_method_7_code 75 = .ok (.bipush 31, 2) := by decide +kernel
theorem ad_Tokens_signKind_77 : decode prog_10_method_7_code 77 = .ok (.ireturn, 1) := by decide +kernel
theorem ad_Tokens_signKind_78 : decode prog_10_method_7_code 78 = .ok (.bipush 33, 2) := by decide +kernel
theorem ad_Tokens_signKind_80 : decode prog_10_method_7_code 80 = .ok (.ireturn, 1) := by decide +kernel
theorem ad_Tokens_isBlank_0 : decode prog_10_method_8_code 0 = .ok (.iload_n 0, 1) := by decide +kernel
theorem ad_Tokens_isBlank_1 : decode prog_10_method_8_code 1 = .ok (.bipush 32, 2) := by decide +kernel
theorem ad_Tokens_isBlank_3 : decode prog_10_method_8_code 3 = .ok (.if_icmp .eq 9, 3) := by decide +kernel
theorem ad_Tokens_isBlank_6 : decode prog_10_method_8_code 6 = .ok (.iload_n 0, 1) := by decide +kernel
theorem ad_Tokens_isBlank_7 : decode prog_10_method_8_code 7 = .ok (.bipush 10, 2) := by decide +kernel
theorem ad_Tokens_isBlank_9 : decode prog_10_method_8_code 9 = .ok (.if_icmp .ne 7, 3) := by decide +kernel
theorem ad_Tokens_isBlank_12 : decode prog_10_method_8_code 12 = .ok (.iconst 1, 1) := by decide +kernel
theorem ad_Tokens_isBlank_13 : decode prog_10_method_8_code 13 = .ok (.goto 4, 3) := by decide +kernel
theorem ad_Tokens_isBlank_16 : decode prog_10_method_8_code 16 = .ok (.iconst 0, 1) := by decide +kernel
theorem ad_Tokens_isBlank_17 : decode prog_10_method_8_code 17 = .ok (.ireturn, 1) := by decide +kernel
theorem ad_Tokens_isSmall_0 : decode prog_10_method_9_code 0 = .ok (.iload_n 0, 1) := by decide +kernel
theorem ad_Tokens_isSmall_1 : decode prog_10_method_9_code 1 = .ok (.bipush 97, 2) := by decide +kernel
theorem ad_Tokens_isSmall_3 : decode prog_10_method_9_code 3 = .ok (.if_icmp .lt 13, 3) := by decide +kernel
theorem ad_Tokens_isSmall_6 : decode prog_10_method_9_code 6 = .ok (.iload_n 0, 1) := by decide +kernel
theorem ad_Tokens_isSmall_7 : decode prog_10_method_9_code 7 = .ok (.bipush 122, 2) := by decide +kernel
theorem ad_Tokens_isSmall_9 : decode prog_10_method_9_code 9 = .ok (.if_icmp .gt 7, 3) := by decide +kernel
theorem ad_Tokens_isSmall_12 : decode prog_10_method_9_code 12 = .ok (.iconst 1, 1) := by decide +kernel
theorem ad_Tokens_isSmall_13 : decode prog_10_method_9_code 13 = .ok (.goto 4, 3) := by decide +kernel
theorem ad_Tokens_isSmall_16 : decode prog_10_method_9_code 16 = .ok (.iconst 0, 1) := by decide +kernel
theorem ad_Tokens_isSmall_17 : decode prog_10_method_9_code 17 = .ok (.ireturn, 1) := by decide +kernel
theorem ad_Tokens_isDigit_0 : decode prog_10_method_10_code 0 = .ok (.iload_n 0, 1) := by decide +kernel
theorem ad_Tokens_isDigit_1 : decode prog_10_method_10_code 1 = .ok (.bipush 48, 2) := by decide +kernel
theorem ad_Tokens_isDigit_3 : decode prog_10_method_10_code 3 = .ok (.if_icmp .lt 13, 3) := by decide +kernel
theorem ad_Tokens_isDigit_6 : decode prog_10_method_10_code 6 = .ok (.iload_n 0, 1) := by decide +kernel
theorem ad_Tokens_isDigit_7 : decode prog_10_method_10_code 7 = .ok (.bipush 57, 2) := by decide +kernel
theorem ad_Tokens_isDigit_9 : decode prog_10_method_10_code 9 = .ok (.if_icmp .gt 7, 3) := by decide +kernel
theorem ad_Tokens_isDigit_12 : decode prog_10_method_10_code 12 = .ok (.iconst 1, 1) := by decide +kernel
theorem ad_Tokens_isDigit_13 : decode prog_10_method_10_code 13 = .ok (.goto 4, 3) := by decide +kernel
theorem ad_Tokens_isDigit_16 : decode prog_10_method_10_code 16 = .ok (.iconst 0, 1) := by decide +kernel
theorem ad_Tokens_isDigit_17 : decode prog_10_method_10_code 17 = .ok (.ireturn, 1) := by decide +kernel
theorem ad_Tokens_fail_0 : decode prog_10_method_11_code 0 = .ok (.aload_n 0, 1) := by decide +kernel
theorem ad_Tokens_fail_1 : decode prog_10_method_11_code 1 = .ok (.getfield 24, 3) := by decide +kernel
theorem ad_Tokens_fail_4 : decode prog_10_method_11_code 4 = .ok (.ifCond .ne 16, 3) := by decide +kernel
theorem ad_Tokens_fail_7 : decode prog_10_method_11_code 7 = .ok (.aload_n 0, 1) := by decide +kernel
theorem ad_Tokens_fail_8 : decode prog_10_method_11_code 8 = .ok (.iload_n 1, 1) := by decide +kernel
theorem ad_Tokens_fail_9 : decode prog_10_method_11_code 9 = .ok (.putfield 24, 3) := by decide +kernel
theorem ad_Tokens_fail_12 : decode prog_10_method_11_code 12 = .ok (.aload_n 0, 1) := by decide +kernel
theorem ad_Tokens_fail_13 : decode prog_10_method_11_code 13 = .ok (.aload_n 0, 1) := by decide +kernel
theorem ad_Tokens_fail_14 : decode prog_10_method_11_code 14 = .ok (.getfield 15, 3) := by decide +kernel
theorem ad_Tokens_fail_17 : decode prog_10_method_11_code 17 = .ok (.putfield 27, 3) := by decide +kernel
theorem ad_Tokens_fail_20 : decode prog_10_method_11_code 20 = .ok (.iconst 0, 1) := by decide +kernel
theorem ad_Tokens_fail_21 : decode prog_10_method_11_code 21 = .ok (.ireturn, 1) := by decide +kernel
theorem ad_Tokens_take_0 : decode prog_10_method_12_code 0 = .ok (.aload_n 0, 1) := by decide +kernel
theorem ad_Tokens_take_1 : decode prog_10_method_12_code 1 = .ok (.getfield 11, 3) := by decide +kernel
theorem ad_Tokens_take_4 : decode prog_10_method_12_code 4 = .ok (.iload_n 1, 1) := by decide +kernel
theorem ad_Tokens_take_5 : decode prog_10_method_12_code 5 = .ok (.if_icmp .eq 9, 3) := by decide +kernel
theorem ad_Tokens_take_8 : decode prog_10_method_12_code 8 = .ok (.aload_n 0, 1) := by decide +kernel
theorem ad_Tokens_take_9 : decode prog_10_method_12_code 9 = .ok (.iconst 1, 1) := by decide +kernel
theorem ad_Tokens_take_10 : decode prog_10_method_12_code 10 = .ok (.invokevirtual 98, 3) := by decide +kernel
theorem ad_Tokens_take_13 : decode prog_10_method_12_code 13 = .ok (.ireturn, 1) := by decide +kernel
theorem ad_Tokens_take_14 : decode prog_10_method_12_code 14 = .ok (.aload_n 0, 1) := by decide +kernel
theorem ad_Tokens_take_15 : decode prog_10_method_12_code 15 = .ok (.invokevirtual 80, 3) := by decide +kernel
theorem ad_Tokens_take_18 : decode prog_10_method_12_code 18 = .ok (.iconst 1, 1) := by decide +kernel
theorem ad_Tokens_take_19 : decode prog_10_method_12_code 19 = .ok (.ireturn, 1) := by decide +kernel
theorem ad_Tokens_takeNumber_0 : decode prog_10_method_13_code 0 = .ok (.aload_n 0, 1) := by decide +kernel
theorem ad_Tokens_takeNumber_1 : decode prog_10_method_13_code 1 = .ok (.getfield 11, 3) := by decide +kernel
theorem ad_Tokens_takeNumber_4 : decode prog_10_method_13_code 4 = .ok (.bipush 25, 2) := by decide +kernel
theorem ad_Tokens_takeNumber_6 : decode prog_10_method_13_code 6 = .ok (.if_icmp .eq 9, 3) := by decide +kernel
theorem ad_Tokens_takeNumber_9 : decode prog_10_method_13_code 9 = .ok (.aload_n 0, 1) := by decide +kernel
theorem ad_Tokens_takeNumber_10 : decode prog_10_method_13_code 10 = .ok (.iconst 1, 1) := by decide +kernel
theorem ad_Tokens_takeNumber_11 : decode prog_10_method_13_code 11 = .ok (.invokevirtual 98, 3) := by decide +kernel
theorem ad_Tokens_takeNumber_14 : decode prog_10_method_13_code 14 = .ok (.ireturn, 1) := by decide +kernel
theorem ad_Tokens_takeNumber_15 : decode prog_10_method_13_code 15 = .ok (.aload_n 0, 1) := by decide +kernel
theorem ad_Tokens_takeNumber_16 : decode prog_10_method_13_code 16 = .ok (.getfield 18, 3) := by decide +kernel
theorem ad_Tokens_takeNumber_19 : decode prog_10_method_13_code 19 = .ok (.iload_n 1, 1) := by decide +kernel
theorem ad_Tokens_takeNumber_20 : decode prog_10_method_13_code 20 = .ok (.if_icmp .lt 11, 3) := by decide +kernel
theorem ad_Tokens_takeNumber_23 : decode prog_10_method_13_code 23 = .ok (.aload_n 0, 1) := by decide +kernel
theorem ad_Tokens_takeNumber_24 : decode prog_10_method_13_code 24 = .ok (.getfield 18, 3) := by decide +kernel
theorem ad_Tokens_takeNumber_27 : decode prog_10_method_13_code 27 = .ok (.iload_n 2, 1) := by decide +kernel
theorem ad_Tokens_takeNumber_28 : decode prog_10_method_13_code 28 = .ok (.if_icmp .le 9, 3) := by decide +kernel
theorem ad_Tokens_takeNumber_31 : decode prog_10_method_13_code 31 = .ok (.aload_n 0, 1) := by decide +kernel
theorem ad_Tokens_takeNumber_32 : decode prog_10_method_13_code 32 = .ok (.iconst 2, 1) := by decide +kernel
theorem ad_Tokens_takeNumber_33 : decode prog_10_method_13_code 33 = .ok (.invokevirtual 98, 3) := by decide +kernel
theorem ad_Tokens_takeNumber_36 : decode prog_10_method_13_code 36 = .ok (.ireturn, 1) := by decide +kernel
theorem ad_Tokens_takeNumber_37 : decode prog_10_method_13_code 37 = .ok (.aload_n 0, 1) := by decide +kernel
theorem ad_Tokens_takeNumber_38 : decode prog_10_method_13_code 38 = .ok (.aload_n 0, 1) := by decide +kernel
theorem ad_Tokens_takeNumber_39 : decode prog_10_method_13_code 39 = .ok (.getfield 18, 3) := by decide +kernel
theorem ad_Tokens_takeNumber_42 : decode prog_10_method_13_code 42 = .ok (.putfield 21, 3) := by decide +kernel
theorem ad_Tokens_takeNumber_45 : decode prog_10_method_13_code 45 = .ok (.aload_n 0, 1) := by decide +kernel
theorem ad_Tokens_takeNumber_46 : decode prog_10_method_13_code 46 = .ok (.invokevirtual 80, 3) := by decide +kernel
theorem ad_Tokens_takeNumber_49 : decode prog_10_method_13_code 49 = .ok (.iconst 1, 1) := by decide +kernel
theorem ad_Tokens_takeNumber_50 : decode prog_10_method_13_code 50 = .ok (.ireturn, 1) := by decide +kernel
theorem ad_Village_begin_0 : decode prog_11_method_2_code 0 = .ok (.aload_n 0, 1) := by decide +kernel
theorem ad_Village_begin_1 : decode prog_11_method_2_code 1 = .ok (.iconst 0, 1) := by decide +kernel
theorem ad_Village_begin_2 : decode prog_11_method_2_code 2 = .ok (.putfield 45, 3) := by decide +kernel
theorem ad_Village_begin_5 : decode prog_11_method_2_code 5 = .ok (.aload_n 0, 1) := by decide +kernel
theorem ad_Village_begin_6 : decode prog_11_method_2_code 6 = .ok (.iconst 0, 1) := by decide +kernel
theorem ad_Village_begin_7 : decode prog_11_method_2_code 7 = .ok (.putfield 49, 3) := by decide +kernel
theorem ad_Village_begin_10 : decode prog_11_method_2_code 10 = .ok (.aload_n 0, 1) := by decide +kernel
theorem ad_Village_begin_11 : decode prog_11_method_2_code 11 = .ok (.iconst 0, 1) := by decide +kernel
theorem ad_Village_begin_12 : decode prog_11_method_2_code 12 = .ok (.putfield 52, 3) := by decide +kernel
theorem ad_Village_begin_15 : decode prog_11_method_2_code 15 = .ok (.aload_n 0, 1) := by decide +kernel
theorem ad_Village_begin_16 : decode prog_11_method_2_code 16 = .ok (.iconst 0, 1) := by decide +kernel
theorem ad_Village_begin_17 : decode prog_11_method_2_code 17 = .ok (.putfield 55, 3) := by decide +kernel
theorem ad_Village_begin_20 : decode prog_11_method_2_code 20 = .ok (.aload_n 0, 1) := by decide +kernel
theorem ad_Village_begin_21 : decode prog_11_method_2_code 21 = .ok (.iconst 3, 1) := by decide +kernel
theorem ad_Village_begin_22 : decode prog_11_method_2_code 22 = .ok (.putfield 58, 3) := by decide +kernel
theorem ad_Village_begin_25 : decode prog_11_method_2_code 25 = .ok (.aload_n 0, 1) := by decide +kernel
theorem ad_Village_begin_26 : decode prog_11_method_2_code 26 = .ok (.bipush 50, 2) := by decide +kernel
theorem ad_Village_begin_28 : decode prog_11_method_2_code 28 = .ok (.putfield 61, 3) := by decide +kernel
theorem ad_Village_begin_31 : decode prog_11_method_2_code 31 = .ok (.aload_n 0, 1) := by decide +kernel
theorem ad_Village_begin_32 : decode prog_11_method_2_code 32 = .ok (.bipush 10, 2) := by decide +kernel
theorem ad_Village_begin_34 : decode prog_11_method_2_code 34 = .ok (.putfield 64, 3) := by decide +kernel
theorem ad_Village_begin_37 : decode prog_11_method_2_code 37 = .ok (.aload_n 0, 1) := by decide +kernel
theorem ad_Village_begin_38 : decode prog_11_method_2_code 38 = .ok (.getfield 27, 3) := by decide +kernel
theorem ad_Village_begin_41 : decode prog_11_method_2_code 41 = .ok (.iconst 0, 1) := by decide +kernel
theorem ad_Village_begin_42 : decode prog_11_method_2_code 42 = .ok (.invokestatic 67, 3) := by decide +kernel
theorem ad_Village_begin_45 : decode prog_11_method_2_code 45 = .ok (.aload_n 0, 1) := by decide +kernel
theorem ad_Village_begin_46 : decode prog_11_method_2_code 46 = .ok (.getfield 30, 3) := by decide +kernel
theorem ad_Village_begin_49 : decode prog_11_method_2_code 49 = .ok (.iconst 0, 1) := by decide +kernel
theorem ad_Village_begin_50 : decode prog_11_method_2_code 50 = .ok (.invokestatic 67, 3) := by decide +kernel
theorem ad_Village_begin_53 : decode prog_11_method_2_code 53 = .ok (.aload_n 0, 1) := by decide +kernel
theorem ad_Village_begin_54 : decode prog_11_method_2_code 54 = .ok (.getfield 33, 3) := by decide +kernel
theorem ad_Village_begin_57 : decode prog_11_method_2_code 57 = .ok (.iconst 0, 1) := by decide +kernel
theorem ad_Village_begin_58 : decode prog_11_method_2_code 58 = .ok (.invokestatic 67, 3) := by decide +kernel
theorem ad_Village_begin_61 : decode prog_11_method_2_code 61 = .ok (.return_, 1) := by decide +kernel
theorem ad_Village_copyFrom_0 : decode prog_11_method_3_code 0 = .ok (.aload_n 0, 1) := by decide +kernel
theorem ad_Village_copyFrom_1 : decode prog_11_method_3_code 1 = .ok (.aload_n 1, 1) := by decide +kernel
theorem ad_Village_copyFrom_2 : decode prog_11_method_3_code 2 = .ok (.getfield 45, 3) := by decide +kernel
theorem ad_Village_copyFrom_5 : decode prog_11_method_3_code 5 = .ok (.putfield 45, 3) := by decide +kernel
theorem ad_Village_copyFrom_8 : decode prog_11_method_3_code 8 = .ok (.aload_n 0, 1) := by decide +kernel
theorem ad_Village_copyFrom_9 : decode prog_11_method_3_code 9 = .ok (.aload_n 1, 1) := by decide +kernel
theorem ad_Village_copyFrom_10 : decode prog_11_method_3_code 10 = .ok (.getfield 49, 3) := by decide +kernel
theorem ad_Village_copyFrom_13 : decode prog_11_method_3_code 13 = .ok (.putfield 49, 3) := by decide +kernel
theorem ad_Village_copyFrom_16 : decode prog_11_method_3_code 16 = .ok (.aload_n 0, 1) := by decide +kernel
theorem ad_Village_copyFrom_17 : decode prog_11_method_3_code 17 = .ok (.aload_n 1, 1) := by decide +kernel
theorem ad_Village_copyFrom_18 : decode prog_11_method_3_code 18 = .ok (.getfield 52, 3) := by decide +kernel
theorem ad_Village_copyFrom_21 : decode prog_11_method_3_code 21 = .ok (.putfield 52, 3) := by decide +kernel
theorem ad_Village_copyFrom_24 : decode prog_11_method_3_code 24 = .ok (.aload_n 0, 1) := by decide +kernel
theorem ad_Village_copyFrom_25 : decode prog_11_method_3_code 25 = .ok (.aload_n 1, 1) := by decide +kernel
theorem ad_Village_copyFrom_26 : decode prog_11_method_3_code 26 = .ok (.getfield 55, 3) := by decide +kernel
theorem ad_Village_copyFrom_29 : decode prog_11_method_3_code 29 = .ok (.putfield 55, 3) := by decide +kernel
theorem ad_Village_copyFrom_32 : decode prog_11_method_3_code 32 = .ok (.aload_n 0, 1) := by decide +kernel
theorem ad_Village_copyFrom_33 : decode prog_11_method_3_code 33 = .ok (.aload_n 1, 1) := by decide +kernel
theorem ad_Village_copyFrom_34 : decode prog_11_method_3_code 34 = .ok (.getfield 58, 3) := by decide +kernel
theorem ad_Village_copyFrom_37 : decode prog_11_method_3_code 37 = .ok (.putfield 58, 3) := by decide +kernel
theorem ad_Village_copyFrom_40 : decode prog_11_method_3_code 40 = .ok (.aload_n 0, 1) := by decide +kernel
theorem ad_Village_copyFrom_41 : decode prog_11_method_3_code 41 = .ok (.aload_n 1, 1) := by decide +kernel
theorem ad_Village_copyFrom_42 : decode prog_11_method_3_code 42 = .ok (.getfield 61, 3) := by decide +kernel
theorem ad_Village_copyFrom_45 : decode prog_11_method_3_code 45 = .ok (.putfield 61, 3) := by decide +kernel
theorem ad_Village_copyFrom_48 : decode prog_11_method_3_code 48 = .ok (.aload_n 0, 1) := by decide +kernel
theorem ad_Village_copyFrom_49 : decode prog_11_method_3_code 49 = .ok (.aload_n 1, 1) := by decide +kernel
theorem ad_Village_copyFrom_50 : decode prog_11_method_3_code 50 = .ok (.getfield 64, 3) := by decide +kernel
theorem ad_Village_copyFrom_53 : decode prog_11_method_3_code 53 = .ok (.putfield 64, 3) := by decide +kernel
theorem ad_Village_copyFrom_56 : decode prog_11_method_3_code 56 = .ok (.aload_n 1, 1) := by decide +kernel
theorem ad_Village_copyFrom_57 : decode prog_11_method_3_code 57 = .ok (.getfield 9, 3) := by decide +kernel
theorem ad_Village_copyFrom_60 : decode prog_11_method_3_code 60 = .ok (.aload_n 0, 1) := by decide +kernel
theorem ad_Village_copyFrom_61 : decode prog_11_method_3_code 61 = .ok (.getfield 9, 3) := by decide +kernel
theorem ad_Village_copyFrom_64 : decode prog_11_method_3_code 64 = .ok (.invokestatic 73, 3) := by decide +kernel
theorem ad_Village_copyFrom_67 : decode prog_11_method_3_code 67 = .ok (.aload_n 1, 1) := by decide +kernel
theorem ad_Village_copyFrom_68 : decode prog_11_method_3_code 68 = .ok (.getfield 15, 3) := by decide +kernel
theorem ad_Village_copyFrom_71 : decode prog_11_method_3_code 71 = .ok (.aload_n 0, 1) := by decide +kernel
theorem ad_Village_copyFrom_72 : decode prog_11_method_3_code 72 = .ok (.getfield 15, 3) := by decide +kernel
theorem ad_Village_copyFrom_75 : decode prog_11_method_3_code 75 = .ok (.invokestatic 73, 3) := by decide +kernel
theorem ad_Village_copyFrom_78 : decode prog_11_method_3_code 78 = .ok (.aload_n 1, 1) := by decide +kernel
theorem ad_Village_copyFrom_79 : decode prog_11_method_3_code 79 = .ok (.getfield 18, 3) := by decide +kernel
theorem ad_Village_copyFrom_82 : decode prog_11_method_3_code 82 = .ok (.aload_n 0, 1) := by decide +kernel
theorem ad_Village_copyFrom_83 : decode prog_11_method_3_code 83 = .ok (.getfield 18, 3) := by decide +kernel
theorem ad_Village_copyFrom_86 : decode prog_11_method_3_code 86 = .ok (.invokestatic 73, 3) := by decide +kernel
theorem ad_Village_copyFrom_89 : decode prog_11_method_3_code 89 = .ok (.aload_n 1, 1) := by decide +kernel
theorem ad_Village_copyFrom_90 : decode prog_11_method_3_code 90 = .ok (.getfield 21, 3) := by decide +kernel
theorem ad_Village_copyFrom_93 : decode prog_11_method_3_code 93 = .ok (.aload_n 0, 1) := by decide +kernel
theorem ad_Village_copyFrom_94 : decode prog_11_method_3_code 94 = .ok (.getfield 21, 3) := by decide +kernel
theorem ad_Village_copyFrom_97 : decode prog_11_method_3_code 97 = .ok (.invokestatic 73, 3) := by decide +kernel
theorem ad_Village_copyFrom_100 : decode prog_11_method_3_code 100 = .ok (.aload_n 1, 1) := by decide +kernel
theorem ad_Village_copyFrom_101 : decode prog_11_method_3_code 101 = .ok (.getfield 24, 3) := by decide +kernel
theorem ad_Village_copyFrom_104 : decode prog_11_method_3_code 104 = .ok (.aload_n 0, 1) := by decide +kernel
theorem ad_Village_copyFrom_105 : decode prog_11_method_3_code 105 = .ok (.getfield 24, 3) := by decide +kernel
theorem ad_Village_copyFrom_108 : decode prog_11_method_3_code 108 = .ok (.invokestatic 73, 3) := by decide +kernel
theorem ad_Village_copyFrom_111 : decode prog_11_method_3_code 111 = .ok (.aload_n 1, 1) := by decide +kernel
theorem ad_Village_copyFrom_112 : decode prog_11_method_3_code 112 = .ok (.getfield 27, 3) := by decide +kernel
theorem ad_Village_copyFrom_115 : decode prog_11_method_3_code 115 = .ok (.aload_n 0, 1) := by decide +kernel
theorem ad_Village_copyFrom_116 : decode prog_11_method_3_code 116 = .ok (.getfield 27, 3) := by decide +kernel
theorem ad_Village_copyFrom_119 : decode prog_11_method_3_code 119 = .ok (.invokestatic 73, 3) := by decide +kernel
theorem ad_Village_copyFrom_122 : decode prog_11_method_3_code 122 = .ok (.aload_n 1, 1) := by decide +kernel
theorem ad_Village_copyFrom_123 : decode prog_11_method_3_code 123 = .ok (.getfield 30, 3) := by decide +kernel
theorem ad_Village_copyFrom_126 : decode prog_11_method_3_code 126 = .ok (.aload_n 0, 1) := by decide +kernel
theorem ad_Village_copyFrom_127 : decode prog_11_method_3_code 127 = .ok (.getfield 30, 3) := by decide +kernel
theorem ad_Village_copyFrom_130 : decode prog_11_method_3_code 130 = .ok (.invokestatic 73, 3) := by decide +kernel
theorem ad_Village_copyFrom_133 : decode prog_11_method_3_code 133 = .ok (.aload_n 1, 1) := by decide +kernel
theorem ad_Village_copyFrom_134 : decode prog_11_method_3_code 134 = .ok (.getfield 33, 3) := by decide +kernel
theorem ad_Village_copyFrom_137 : decode prog_11_method_3_code 137 = .ok (.aload_n 0, 1) := by decide +kernel
theorem ad_Village_copyFrom_138 : decode prog_11_method_3_code 138 = .ok (.getfield 33, 3) := by decide +kernel
theorem ad_Village_copyFrom_141 : decode prog_11_method_3_code 141 = .ok (.invokestatic 73, 3) := by decide +kernel
theorem ad_Village_copyFrom_144 : decode prog_11_method_3_code 144 = .ok (.aload_n 1, 1) := by decide +kernel
theorem ad_Village_copyFrom_145 : decode prog_11_method_3_code 145 = .ok (.getfield 36, 3) := by decide +kernel
theorem ad_Village_copyFrom_148 : decode prog_11_method_3_code 148 = .ok (.aload_n 0, 1) := by decide +kernel
theorem ad_Village_copyFrom_149 : decode prog_11_method_3_code 149 = .ok (.getfield 36, 3) := by decide +kernel
theorem ad_Village_copyFrom_152 : decode prog_11_method_3_code 152 = .ok (.invokestatic 73, 3) := by decide +kernel
theorem ad_Village_copyFrom_155 : decode prog_11_method_3_code 155 = .ok (.aload_n 1, 1) := by decide +kernel
theorem ad_Village_copyFrom_156 : decode prog_11_method_3_code 156 = .ok (.getfield 39, 3) := by decide +kernel
theorem ad_Village_copyFrom_159 : decode prog_11_method_3_code 159 = .ok (.aload_n 0, 1) := by decide +kernel
theorem ad_Village_copyFrom_160 : decode prog_11_method_3_code 160 = .ok (.getfield 39, 3) := by decide +kernel
theorem ad_Village_copyFrom_163 : decode prog_11_method_3_code 163 = .ok (.invokestatic 73, 3) := by decide +kernel
theorem ad_Village_copyFrom_166 : decode prog_11_method_3_code 166 = .ok (.return_, 1) := by decide +kernel
theorem ad_Village_hasHelp_0 : decode prog_11_method_4_code 0 = .ok (.iload_n 1, 1) := by decide +kernel
theorem ad_Village_hasHelp_1 : decode prog_11_method_4_code 1 = .ok (.ifCond .lt 15, 3) := by decide +kernel
theorem ad_Village_hasHelp_4 : decode prog_11_method_4_code 4 = .ok (.iload_n 1, 1) := by decide +kernel
theorem ad_Village_hasHelp_5 : decode prog_11_method_4_code 5 = .ok (.aload_n 0, 1) := by decide +kernel
theorem ad_Village_hasHelp_6 : decode prog_11_method_4_code 6 = .ok (.getfield 49, 3) := by decide +kernel
theorem ad_Village_hasHelp_9 : decode prog_11_method_4_code 9 = .ok (.if_icmp .ge 7, 3) := by decide +kernel
theorem ad_Village_hasHelp_12 : decode prog_11_method_4_code 12 = .ok (.iconst 1, 1) := by decide +kernel
theorem ad_Village_hasHelp_13 : decode prog_11_method_4_code 13 = .ok (.goto 4, 3) := by decide +kernel
theorem ad_Village_hasHelp_16 : decode prog_11_method_4_code 16 = .ok (.iconst 0, 1) := by decide +kernel
theorem ad_Village_hasHelp_17 : decode prog_11_method_4_code 17 = .ok (.ireturn, 1) := by decide +kernel
theorem ad_Village_hasPerson_0 : decode prog_11_method_5_code 0 = .ok (.iload_n 1, 1) := by decide +kernel
theorem ad_Village_hasPerson_1 : decode prog_11_method_5_code 1 = .ok (.ifCond .lt 15, 3) := by decide +kernel
theorem ad_Village_hasPerson_4 : decode prog_11_method_5_code 4 = .ok (.iload_n 1, 1) := by decide +kernel
theorem ad_Village_hasPerson_5 : decode prog_11_method_5_code 5 = .ok (.aload_n 0, 1) := by decide +kernel
theorem ad_Village_hasPerson_6 : decode prog_11_method_5_code 6 = .ok (.getfield 52, 3) := by decide +kernel
theorem ad_Village_hasPerson_9 : decode prog_11_method_5_code 9 = .ok (.if_icmp .ge 7, 3) := by decide +kernel
theorem ad_Village_hasPerson_12 : decode prog_11_method_5_code 12 = .ok (.iconst 1, 1) := by decide +kernel
theorem ad_Village_hasPerson_13 : decode prog_11_method_5_code 13 = .ok (.goto 4, 3) := by decide +kernel
theorem ad_Village_hasPerson_16 : decode prog_11_method_5_code 16 = .ok (.iconst 0, 1) := by decide +kernel
theorem ad_Village_hasPerson_17 : decode prog_11_method_5_code 17 = .ok (.ireturn, 1) := by decide +kernel
theorem ad_Village_hasNeed_0 : decode prog_11_method_6_code 0 = .ok (.iload_n 1, 1) := by decide +kernel
theorem ad_Village_hasNeed_1 : decode prog_11_method_6_code 1 = .ok (.ifCond .lt 15, 3) := by decide +kernel
theorem ad_Village_hasNeed_4 : decode prog_11_method_6_code 4 = .ok (.iload_n 1, 1) := by decide +kernel
theorem ad_Village_hasNeed_5 : decode prog_11_method_6_code 5 = .ok (.aload_n 0, 1) := by decide +kernel
theorem ad_Village_hasNeed_6 : decode prog_11_method_6_code 6 = .ok (.getfield 55, 3) := by decide +kernel
theorem ad_Village_hasNeed_9 : decode prog_11_method_6_code 9 = .ok (.if_icmp .ge 7, 3) := by decide +kernel
theorem ad_Village_hasNeed_12 : decode prog_11_method_6_code 12 = .ok (.iconst 1, 1) := by decide +kernel
theorem ad_Village_hasNeed_13 : decode prog_11_method_6_code 13 = .ok (.goto 4, 3) := by decide +kernel
theorem ad_Village_hasNeed_16 : decode prog_11_method_6_code 16 = .ok (.iconst 0, 1) := by decide +kernel
theorem ad_Village_hasNeed_17 : decode prog_11_method_6_code 17 = .ok (.ireturn, 1) := by decide +kernel
theorem ad_Village_helpNamed_0 : decode prog_11_method_7_code 0 = .ok (.aload_n 0, 1) := by decide +kernel
theorem ad_Village_helpNamed_1 : decode prog_11_method_7_code 1 = .ok (.getfield 9, 3) := by decide +kernel
theorem ad_Village_helpNamed_4 : decode prog_11_method_7_code 4 = .ok (.aload_n 0, 1) := by decide +kernel
theorem ad_Village_helpNamed_5 : decode prog_11_method_7_code 5 = .ok (.getfield 49, 3) := by decide +kernel
theorem ad_Village_helpNamed_8 : decode prog_11_method_7_code 8 = .ok (.iload_n 1, 1) := by decide +kernel
theorem ad_Village_helpNamed_9 : decode prog_11_method_7_code 9 = .ok (.invokestatic 77, 3) := by decide +kernel
theorem ad_Village_helpNamed_12 : decode prog_11_method_7_code 12 = .ok (.ireturn, 1) := by decide +kernel
theorem ad_Village_personNamed_0 : decode prog_11_method_8_code 0 = .ok (.aload_n 0, 1) := by decide +kernel
theorem ad_Village_personNamed_1 : decode prog_11_method_8_code 1 = .ok (.getfield 21, 3) := by decide +kernel
theorem ad_Village_personNamed_4 : decode prog_11_method_8_code 4 = .ok (.aload_n 0, 1) := by decide +kernel
theorem ad_Village_personNamed_5 : decode prog_11_method_8_code 5 = .ok (.getfield 52, 3) := by decide +kernel
theorem ad_Village_personNamed_8 : decode prog_11_method_8_code 8 = .ok (.iload_n 1, 1) := by decide +kernel
theorem ad_Village_personNamed_9 : decode prog_11_method_8_code 9 = .ok (.invokestatic 77, 3) := by decide +kernel
theorem ad_Village_personNamed_12 : decode prog_11_method_8_code 12 = .ok (.ireturn, 1) := by decide +kernel
theorem ad_Village_indexOf_0 : decode prog_11_method_9_code 0 = .ok (.iconst 0, 1) := by decide +kernel
theorem ad_Village_indexOf_1 : decode prog_11_method_9_code 1 = .ok (.istore_n 3, 1) := by decide +kernel
theorem ad_Village_indexOf_2 : decode prog_11_method_9_code 2 = .ok (.iload_n 3, 1) := by decide +kernel
theorem ad_Village_indexOf_3 : decode prog_11_method_9_code 3 = .ok (.iload_n 1, 1) := by decide +kernel
theorem ad_Village_indexOf_4 : decode prog_11_method_9_code 4 = .ok (.if_icmp .ge 24, 3) := by decide +kernel
theorem ad_Village_indexOf_7 : decode prog_11_method_9_code 7 = .ok (.iload_n 3, 1) := by decide +kernel
theorem ad_Village_indexOf_8 : decode prog_11_method_9_code 8 = .ok (.aload_n 0, 1) := by decide +kernel
theorem ad_Village_indexOf_9 : decode prog_11_method_9_code 9 = .ok (.arraylength, 1) := by decide +kernel
theorem ad_Village_indexOf_10 : decode prog_11_method_9_code 10 = .ok (.if_icmp .ge 18, 3) := by decide +kernel
theorem ad_Village_indexOf_13 : decode prog_11_method_9_code 13 = .ok (.aload_n 0, 1) := by decide +kernel
theorem ad_Village_indexOf_14 : decode prog_11_method_9_code 14 = .ok (.iload_n 3, 1) := by decide +kernel
theorem ad_Village_indexOf_15 : decode prog_11_method_9_code 15 = .ok (.iaload, 1) := by decide +kernel
theorem ad_Village_indexOf_16 : decode prog_11_method_9_code 16 = .ok (.iload_n 2, 1) := by decide +kernel
theorem ad_Village_indexOf_17 : decode prog_11_method_9_code 17 = .ok (.if_icmp .ne 5, 3) := by decide +kernel
theorem ad_Village_indexOf_20 : decode prog_11_method_9_code 20 = .ok (.iload_n 3, 1) := by decide +kernel
theorem ad_Village_indexOf_21 : decode prog_11_method_9_code 21 = .ok (.ireturn, 1) := by decide +kernel
theorem ad_Village_indexOf_22 : decode prog_11_method_9_code 22 = .ok (.iinc 3 1, 3) := by decide +kernel
theorem ad_Village_indexOf_25 : decode prog_11_method_9_code 25 = .ok (.goto (-23), 3) := by decide +kernel
theorem ad_Village_indexOf_28 : decode prog_11_method_9_code 28 = .ok (.iconst (-1), 1) := by decide +kernel
theorem ad_Village_indexOf_29 : decode prog_11_method_9_code 29 = .ok (.ireturn, 1) := by decide +kernel
theorem ad_Village_helpAt_0 : decode prog_11_method_10_code 0 = .ok (.aload_n 1, 1) := by decide +kernel
theorem ad_Village_helpAt_1 : decode prog_11_method_10_code 1 = .ok (.aload_n 0, 1) := by decide +kernel
theorem ad_Village_helpAt_2 : decode prog_11_method_10_code 2 = .ok (.aload_n 1, 1) := by decide +kernel
theorem ad_Village_helpAt_3 : decode prog_11_method_10_code 3 = .ok (.getfield 81, 3) := by decide +kernel
theorem ad_Village_helpAt_6 : decode prog_11_method_10_code 6 = .ok (.invokevirtual 86, 3) := by decide +kernel
theorem ad_Village_helpAt_9 : decode prog_11_method_10_code 9 = .ok (.invokestatic 90, 3) := by decide +kernel
theorem ad_Village_helpAt_12 : decode prog_11_method_10_code 12 = .ok (.ireturn, 1) := by decide +kernel
theorem ad_Village_personAt_0 : decode prog_11_method_11_code 0 = .ok (.aload_n 1, 1) := by decide +kernel
theorem ad_Village_personAt_1 : decode prog_11_method_11_code 1 = .ok (.aload_n 0, 1) := by decide +kernel
theorem ad_Village_personAt_2 : decode prog_11_method_11_code 2 = .ok (.aload_n 1, 1) := by decide +kernel
theorem ad_Village_personAt_3 : decode prog_11_method_11_code 3 = .ok (.getfield 81, 3) := by decide +kernel
theorem ad_Village_personAt_6 : decode prog_11_method_11_code 6 = .ok (.invokevirtual 94, 3) := by decide +kernel
theorem ad_Village_personAt_9 : decode prog_11_method_11_code 9 = .ok (.invokestatic 90, 3) := by decide +kernel
theorem ad_Village_personAt_12 : decode prog_11_method_11_code 12 = .ok (.ireturn, 1) := by decide +kernel
theorem ad_Village_numberAt_0 : decode prog_11_method_12_code 0 = .ok (.aload_n 0, 1) := by decide +kernel
theorem ad_Village_numberAt_1 : decode prog_11_method_12_code 1 = .ok (.getfield 97, 3) := by decide +kernel
theorem ad_Village_numberAt_4 : decode prog_11_method_12_code 4 = .ok (.bipush 24, 2) := by decide +kernel
theorem ad_Village_numberAt_6 : decode prog_11_method_12_code 6 = .ok (.if_icmp .ne 9, 3) := by decide +kernel
theorem ad_Village_numberAt_9 : decode prog_11_method_12_code 9 = .ok (.iload_n 1, 1) := by decide +kernel
theorem ad_Village_numberAt_10 : decode prog_11_method_12_code 10 = .ok (.ifCond .lt 5, 3) := by decide +kernel
theorem ad_Village_numberAt_13 : decode prog_11_method_12_code 13 = .ok (.iload_n 1, 1) := by decide +kernel
theorem ad_Village_numberAt_14 : decode prog_11_method_12_code 14 = .ok (.ireturn, 1) := by decide +kernel
theorem ad_Village_numberAt_15 : decode prog_11_method_12_code 15 = .ok (.aload_n 0, 1) := by decide +kernel
theorem ad_Village_numberAt_16 : decode prog_11_method_12_code 16 = .ok (.aload_n 0, 1) := by decide +kernel
theorem ad_Village_numberAt_17 : decode prog_11_method_12_code 17 = .ok (.getfield 97, 3) := by decide +kernel
theorem ad_Village_numberAt_20 : decode prog_11_method_12_code 20 = .ok (.bipush 24, 2) := by decide +kernel
theorem ad_Village_numberAt_22 : decode prog_11_method_12_code 22 = .ok (.if_icmp .ne 7, 3) := by decide +kernel
theorem ad_Village_numberAt_25 : decode prog_11_method_12_code 25 = .ok (.iconst 3, 1) := by decide +kernel
theorem ad_Village_numberAt_26 : decode prog_11_method_12_code 26 = .ok (.goto 4, 3) := by decide +kernel
theorem ad_Village_numberAt_29 : decode prog_11_method_12_code 29 = .ok (.iconst 1, 1) := by decide +kernel
theorem ad_Village_numberAt_30 : decode prog_11_method_12_code 30 = .ok (.invokevirtual 100, 3) := by decide +kernel
theorem ad_Village_numberAt_33 : decode prog_11_method_12_code 33 = .ok (.pop, 1) := by decide +kernel
theorem ad_Village_numberAt_34 : decode prog_11_method_12_code 34 = .ok (.iconst (-1), 1) := by decide +kernel
theorem ad_Village_numberAt_35 : decode prog_11_method_12_code 35 = .ok (.ireturn, 1) := by decide +kernel
theorem ad_Village_painsOf_0 : decode prog_11_method_13_code 0 = .ok (.iload_n 1, 1) := by decide +kernel
theorem ad_Village_painsOf_1 : decode prog_11_method_13_code 1 = .ok (.ifCond .lt 27, 3) := by decide +kernel
theorem ad_Village_painsOf_4 : decode prog_11_method_13_code 4 = .ok (.iload_n 1, 1) := by decide +kernel
theorem ad_Village_painsOf_5 : decode prog_11_method_13_code 5 = .ok (.aload_n 0, 1) := by decide +kernel
theorem ad_Village_painsOf_6 : decode prog_11_method_13_code 6 = .ok (.getfield 52, 3) := by decide +kernel
theorem ad_Village_painsOf_9 : decode prog_11_method_13_code 9 = .ok (.if_icmp .ge 19, 3) := by decide +kernel
theorem ad_Village_painsOf_12 : decode prog_11_method_13_code 12 = .ok (.iload_n 2, 1) := by decide +kernel
theorem ad_Village_painsOf_13 : decode prog_11_method_13_code 13 = .ok (.ifCond .lt 15, 3) := by decide +kernel
theorem ad_Village_painsOf_16 : decode prog_11_method_13_code 16 = .ok (.iload_n 2, 1) := by decide +kernel
theorem ad_Village_painsOf_17 : decode prog_11_method_13_code 17 = .ok (.aload_n 0, 1) := by decide +kernel
theorem ad_Village_painsOf_18 : decode prog_11_method_13_code 18 = .ok (.getfield 49, 3) := by decide +kernel
theorem ad_Village_painsOf_21 : decode prog_11_method_13_code 21 = .ok (.if_icmp .ge 7, 3) := by decide +kernel
theorem ad_Village_painsOf_24 : decode prog_11_method_13_code 24 = .ok (.iconst 1, 1) := by decide +kernel
theorem ad_Village_painsOf_25 : decode prog_11_method_13_code 25 = .ok (.goto 4, 3) := by decide +kernel
theorem ad_Village_painsOf_28 : decode prog_11_method_13_code 28 = .ok (.iconst 0, 1) := by decide +kernel
theorem ad_Village_painsOf_29 : decode prog_11_method_13_code 29 = .ok (.istore_n 3, 1) := by decide +kernel
theorem ad_Village_painsOf_30 : decode prog_11_method_13_code 30 = .ok (.iload_n 3, 1) := by decide +kernel
theorem ad_Village_painsOf_31 : decode prog_11_method_13_code 31 = .ok (.ifCond .eq 17, 3) := by decide +kernel
theorem ad_Village_painsOf_34 : decode prog_11_method_13_code 34 = .ok (.aload_n 0, 1) := by decide +kernel
theorem ad_Village_painsOf_35 : decode prog_11_method_13_code 35 = .ok (.getfield 27, 3) := by decide +kernel
theorem ad_Village_painsOf_38 : decode prog_11_method_13_code 38 = .ok (.iload_n 1, 1) := by decide +kernel
theorem ad_Village_painsOf_39 : decode prog_11_method_13_code 39 = .ok (.bipush 6, 2) := by decide +kernel
theorem ad_Village_painsOf_41 : decode prog_11_method_13_code 41 = .ok (.imul, 1) := by decide +kernel
theorem ad_Village_painsOf_42 : decode prog_11_method_13_code 42 = .ok (.iload_n 2, 1) := by decide +kernel
theorem ad_Village_painsOf_43 : decode prog_11_method_13_code 43 = .ok (.iadd, 1) := by decide +kernel
theorem ad_Village_painsOf_44 : decode prog_11_method_13_code 44 = .ok (.iaload, 1) := by decide +kernel
theorem ad_Village_painsOf_45 : decode prog_11_method_13_code 45 = .ok (.goto 4, 3) := by decide +kernel
theorem ad_Village_painsOf_48 : decode prog_11_method_13_code 48 = .ok (.iconst 0, 1) := by decide +kernel
theorem ad_Village_painsOf_49 : decode prog_11_method_13_code 49 = .ok (.ireturn, 1) := by decide +kernel
theorem ad_Village_can_0 : decode prog_11_method_14_code 0 = .ok (.aload_n 0, 1) := by decide +kernel
theorem ad_Village_can_1 : decode prog_11_method_14_code 1 = .ok (.iload_n 1, 1) := by decide +kernel
theorem ad_Village_can_2 : decode prog_11_method_14_code 2 = .ok (.iload_n 2, 1) := by decide +kernel
theorem ad_Village_can_3 : decode prog_11_method_14_code 3 = .ok (.invokevirtual 104, 3) := by decide +kernel
theorem ad_Village_can_6 : decode prog_11_method_14_code 6 = .ok (.ifCond .le 7, 3) := by decide +kernel
theorem ad_Village_can_9 : decode prog_11_method_14_code 9 = .ok (.iconst 1, 1) := by decide +kernel
theorem ad_Village_can_10 : decode prog_11_method_14_code 10 = .ok (.goto 4, 3) := by decide +kernel
theorem ad_Village_can_13 : decode prog_11_method_14_code 13 = .ok (.iconst 0, 1) := by decide +kernel
theorem ad_Village_can_14 : decode prog_11_method_14_code 14 = .ok (.ireturn, 1) := by decide +kernel
theorem ad_Village_canMeet_0 : decode prog_11_method_15_code 0 = .ok (.iload_n 1, 1) := by decide +kernel
theorem ad_Village_canMeet_1 : decode prog_11_method_15_code 1 = .ok (.ifCond .lt 27, 3) := by decide +kernel
theorem ad_Village_canMeet_4 : decode prog_11_method_15_code 4 = .ok (.iload_n 1, 1) := by decide +kernel
theorem ad_Village_canMeet_5 : decode prog_11_method_15_code 5 = .ok (.aload_n 0, 1) := by decide +kernel
theorem ad_Village_canMeet_6 : decode prog_11_method_15_code 6 = .ok (.getfield 52, 3) := by decide +kernel
theorem ad_Village_canMeet_9 : decode prog_11_method_15_code 9 = .ok (.if_icmp .ge 19, 3) := by decide +kernel
theorem ad_Village_canMeet_12 : decode prog_11_method_15_code 12 = .ok (.iload_n 2, 1) := by decide +kernel
theorem ad_Village_canMeet_13 : decode prog_11_method_15_code 13 = .ok (.ifCond .lt 15, 3) := by decide +kernel
theorem ad_Village_canMeet_16 : decode prog_11_method_15_code 16 = .ok (.iload_n 2, 1) := by decide +kernel
theorem ad_Village_canMeet_17 : decode prog_11_method_15_code 17 = .ok (.aload_n 0, 1) := by decide +kernel
theorem ad_Village_canMeet_18 : decode prog_11_method_15_code 18 = .ok (.getfield 55, 3) := by decide +kernel
theorem ad_Village_canMeet_21 : decode prog_11_method_15_code 21 = .ok (.if_icmp .ge 7, 3) := by decide +kernel
theorem ad_Village_canMeet_24 : decode prog_11_method_15_code 24 = .ok (.iconst 1, 1) := by decide +kernel
theorem ad_Village_canMeet_25 : decode prog_11_method_15_code 25 = .ok (.goto 4, 3) := by decide +kernel
theorem ad_Village_canMeet_28 : decode prog_11_method_15_code 28 = .ok (.iconst 0, 1) := by decide +kernel
theorem ad_Village_canMeet_29 : decode prog_11_method_15_code 29 = .ok (.istore_n 3, 1) := by decide +kernel
theorem ad_Village_canMeet_30 : decode prog_11_method_15_code 30 = .ok (.iload_n 3, 1) := by decide +kernel
theorem ad_Village_canMeet_31 : decode prog_11_method_15_code 31 = .ok (.ifCond .eq 31, 3) := by decide +kernel
theorem ad_Village_canMeet_34 : decode prog_11_method_15_code 34 = .ok (.iload_n 1, 1) := by decide +kernel
theorem ad_Village_canMeet_35 : decode prog_11_method_15_code 35 = .ok (.aload_n 0, 1) := by decide +kernel
theorem ad_Village_canMeet_36 : decode prog_11_method_15_code 36 = .ok (.getfield 36, 3) := by decide +kernel
theorem ad_Village_canMeet_39 : decode prog_11_method_15_code 39 = .ok (.iload_n 2, 1) := by decide +kernel
theorem ad_Village_canMeet_40 : decode prog_11_method_15_code 40 = .ok (.iaload, 1) := by decide +kernel
theorem ad_Village_canMeet_41 : decode prog_11_method_15_code 41 = .ok (.if_icmp .eq 21, 3) := by decide +kernel
theorem ad_Village_canMeet_44 : decode prog_11_method_15_code 44 = .ok (.aload_n 0, 1) := by decide +kernel
theorem ad_Village_canMeet_45 : decode prog_11_method_15_code 45 = .ok (.iload_n 1, 1) := by decide +kernel
theorem ad_Village_canMeet_46 : decode prog_11_method_15_code 46 = .ok (.aload_n 0, 1) := by decide +kernel
theorem ad_Village_canMeet_47 : decode prog_11_method_15_code 47 = .ok (.getfield 39, 3) := by decide +kernel
theorem ad_Village_canMeet_50 : decode prog_11_method_15_code 50 = .ok (.iload_n 2, 1) := by decide +kernel
theorem ad_Village_canMeet_51 : decode prog_11_method_15_code 51 = .ok (.iaload, 1) := by decide +kernel
theorem ad_Village_canMeet_52 : decode prog_11_method_15_code 52 = .ok (.invokevirtual 104, 3) := by decide +kernel
theorem ad_Village_canMeet_55 : decode prog_11_method_15_code 55 = .ok (.ifCond .le 7, 3) := by decide +kernel
theorem ad_Village_canMeet_58 : decode prog_11_method_15_code 58 = .ok (.iconst 1, 1) := by decide +kernel
theorem ad_Village_canMeet_59 : decode prog_11_method_15_code 59 = .ok (.goto 4, 3) := by decide +kernel
theorem ad_Village_canMeet_62 : decode prog_11_method_15_code 62 = .ok (.iconst 0, 1) := by decide +kernel
theorem ad_Village_canMeet_63 : decode prog_11_method_15_code 63 = .ok (.ireturn, 1) := by decide +kernel
theorem ad_Village_friendship_0 : decode prog_11_method_16_code 0 = .ok (.aload_n 0, 1) := by decide +kernel
theorem ad_Village_friendship_1 : decode prog_11_method_16_code 1 = .ok (.iload_n 1, 1) := by decide +kernel
theorem ad_Village_friendship_2 : decode prog_11_method_16_code 2 = .ok (.invokevirtual 108, 3) := by decide +kernel
theorem ad_Village_friendship_5 : decode prog_11_method_16_code 5 = .ok (.ifCond .eq 25, 3) := by decide +kernel
theorem ad_Village_friendship_8 : decode prog_11_method_16_code 8 = .ok (.aload_n 0, 1) := by decide +kernel
theorem ad_Village_friendship_9 : decode prog_11_method_16_code 9 = .ok (.iload_n 2, 1) := by decide +kernel
theorem ad_Village_friendship_10 : decode prog_11_method_16_code 10 = .ok (.invokevirtual 108, 3) := by decide +kernel
theorem ad_Village_friendship_13 : decode prog_11_method_16_code 13 = .ok (.ifCond .eq 17, 3) := by decide +kernel
theorem ad_Village_friendship_16 : decode prog_11_method_16_code 16 = .ok (.aload_n 0, 1) := by decide +kernel
theorem ad_Village_friendship_17 : decode prog_11_method_16_code 17 = .ok (.getfield 30, 3) := by decide +kernel
theorem ad_Village_friendship_20 : decode prog_11_method_16_code 20 = .ok (.iload_n 1, 1) := by decide +kernel
theorem ad_Village_friendship_21 : decode prog_11_method_16_code 21 = .ok (.bipush 8, 2) := by decide +kernel
theorem ad_Village_friendship_23 : decode prog_11_method_16_code 23 = .ok (.imul, 1) := by decide +kernel
theorem ad_Village_friendship_24 : decode prog_11_method_16_code 24 = .ok (.iload_n 2, 1) := by decide +kernel
theorem ad_Village_friendship_25 : decode prog_11_method_16_code 25 = .ok (.iadd, 1) := by decide +kernel
theorem ad_Village_friendship_26 : decode prog_11_method_16_code 26 = .ok (.iaload, 1) := by decide +kernel
theorem ad_Village_friendship_27 : decode prog_11_method_16_code 27 = .ok (.goto 4, 3) := by decide +kernel
theorem ad_Village_friendship_30 : decode prog_11_method_16_code 30 = .ok (.iconst 0, 1) := by decide +kernel
theorem ad_Village_friendship_31 : decode prog_11_method_16_code 31 = .ok (.ireturn, 1) := by decide +kernel
theorem ad_Village_sight_0 : decode prog_11_method_17_code 0 = .ok (.aload_n 0, 1) := by decide +kernel
theorem ad_Village_sight_1 : decode prog_11_method_17_code 1 = .ok (.iload_n 1, 1) := by decide +kernel
theorem ad_Village_sight_2 : decode prog_11_method_17_code 2 = .ok (.invokevirtual 108, 3) := by decide +kernel
theorem ad_Village_sight_5 : decode prog_11_method_17_code 5 = .ok (.ifCond .eq 25, 3) := by decide +kernel
theorem ad_Village_sight_8 : decode prog_11_method_17_code 8 = .ok (.aload_n 0, 1) := by decide +kernel
theorem ad_Village_sight_9 : decode prog_11_method_17_code 9 = .ok (.iload_n 2, 1) := by decide +kernel
theorem ad_Village_sight_10 : decode prog_11_method_17_code 10 = .ok (.invokevirtual 108, 3) := by decide +kernel
theorem ad_Village_sight_13 : decode prog_11_method_17_code 13 = .ok (.ifCond .eq 17, 3) := by decide +kernel
theorem ad_Village_sight_16 : decode prog_11_method_17_code 16 = .ok (.aload_n 0, 1) := by decide +kernel
theorem ad_Village_sight_17 : decode prog_11_method_17_code 17 = .ok (.getfield 33, 3) := by decide +kernel
theorem ad_Village_sight_20 : decode prog_11_method_17_code 20 = .ok (.iload_n 1, 1) := by decide +kernel
theorem ad_Village_sight_21 : decode prog_11_method_17_code 21 = .ok (.bipush 8, 2) := by decide +kernel
theorem ad_Village_sight_23 : decode prog_11_method_17_code 23 = .ok (.imul, 1) := by decide +kernel
theorem ad_Village_sight_24 : decode prog_11_method_17_code 24 = .ok (.iload_n 2, 1) := by decide +kernel
theorem ad_Village_sight_25 : decode prog_11_method_17_code 25 = .ok (.iadd, 1) := by decide +kernel
theorem ad_Village_sight_26 : decode prog_11_method_17_code 26 = .ok (.iaload, 1) := by decide +kernel
theorem ad_Village_sight_27 : decode prog_11_method_17_code 27 = .ok (.goto 4, 3) := by decide +kernel
theorem ad_Village_sight_30 : decode prog_11_method_17_code 30 = .ok (.iconst 0, 1) := by decide +kernel
theorem ad_Village_sight_31 : decode prog_11_method_17_code 31 = .ok (.ireturn, 1) := by decide +kernel
theorem ad_Village_needOf_0 : decode prog_11_method_18_code 0 = .ok (.iconst 0, 1) := by decide +kernel
theorem ad_Village_needOf_1 : decode prog_11_method_18_code 1 = .ok (.istore_n 3, 1) := by decide +kernel
theorem ad_Village_needOf_2 : decode prog_11_method_18_code 2 = .ok (.iload_n 3, 1) := by decide +kernel
theorem ad_Village_needOf_3 : decode prog_11_method_18_code 3 = .ok (.aload_n 0, 1) := by decide +kernel
theorem ad_Village_needOf_4 : decode prog_11_method_18_code 4 = .ok (.getfield 55, 3) := by decide +kernel
theorem ad_Village_needOf_7 : decode prog_11_method_18_code 7 = .ok (.if_icmp .ge 31, 3) := by decide +kernel
theorem ad_Village_needOf_10 : decode prog_11_method_18_code 10 = .ok (.aload_n 0, 1) := by decide +kernel
theorem ad_Village_needOf_11 : decode prog_11_method_18_code 11 = .ok (.getfield 36, 3) := by decide +kernel
theorem ad_Village_needOf_14 : decode prog_11_method_18_code 14 = .ok (.iload_n 3, 1) := by decide +kernel
theorem ad_Village_needOf_15 : decode prog_11_method_18_code 15 = .ok (.iaload, 1) := by decide +kernel
theorem ad_Village_needOf_16 : decode prog_11_method_18_code 16 = .ok (.iload_n 1, 1) := by decide +kernel
theorem ad_Village_needOf_17 : decode prog_11_method_18_code 17 = .ok (.if_icmp .ne 15, 3) := by decide +kernel
theorem ad_Village_needOf_20 : decode prog_11_method_18_code 20 = .ok (.aload_n 0, 1) := by decide +kernel
theorem ad_Village_needOf_21 : decode prog_11_method_18_code 21 = .ok (.getfield 39, 3) := by decide +kernel
theorem ad_Village_needOf_24 : decode prog_11_method_18_code 24 = .ok (.iload_n 3, 1) := by decide +kernel
theorem ad_Village_needOf_25 : decode prog_11_method_18_code 25 = .ok (.iaload, 1) := by decide +kernel
theorem ad_Village_needOf_26 : decode prog_11_method_18_code 26 = .ok (.iload_n 2, 1) := by decide +kernel
theorem ad_Village_needOf_27 : decode prog_11_method_18_code 27 = .ok (.if_icmp .ne 5, 3) := by decide +kernel
theorem ad_Village_needOf_30 : decode prog_11_method_18_code 30 = .ok (.iload_n 3, 1) := by decide +kernel
theorem ad_Village_needOf_31 : decode prog_11_method_18_code 31 = .ok (.ireturn, 1) := by decide +kernel
theorem ad_Village_needOf_32 : decode prog_11_method_18_code 32 = .ok (.iinc 3 1, 3) := by decide +kernel
theorem ad_Village_needOf_35 : decode prog_11_method_18_code 35 = .ok (.goto (-33), 3) := by decide +kernel
theorem ad_Village_needOf_38 : decode prog_11_method_18_code 38 = .ok (.iconst (-1), 1) := by decide +kernel
theorem ad_Village_needOf_39 : decode prog_11_method_18_code 39 = .ok (.ireturn, 1) := by decide +kernel
theorem ad_Village_canBits_0 : decode prog_11_method_19_code 0 = .ok (.iconst 0, 1) := by decide +kernel
theorem ad_Village_canBits_1 : decode prog_11_method_19_code 1 = .ok (.istore_n 2, 1) := by decide +kernel
theorem ad_Village_canBits_2 : decode prog_11_method_19_code 2 = .ok (.iconst 0, 1) := by decide +kernel
theorem ad_Village_canBits_3 : decode prog_11_method_19_code 3 = .ok (.istore_n 3, 1) := by decide +kernel
theorem ad_Village_canBits_4 : decode prog_11_method_19_code 4 = .ok (.iload_n 3, 1) := by decide +kernel
theorem ad_Village_canBits_5 : decode prog_11_method_19_code 5 = .ok (.aload_n 0, 1) := by decide +kernel
theorem ad_Village_canBits_6 : decode prog_11_method_19_code 6 = .ok (.getfield 49, 3) := by decide +kernel
theorem ad_Village_canBits_9 : decode prog_11_method_19_code 9 = .ok (.if_icmp .ge 28, 3) := by decide +kernel
theorem ad_Village_canBits_12 : decode prog_11_method_19_code 12 = .ok (.iload_n 2, 1) := by decide +kernel
theorem ad_Village_canBits_13 : decode prog_11_method_19_code 13 = .ok (.aload_n 0, 1) := by decide +kernel
theorem ad_Village_canBits_14 : decode prog_11_method_19_code 14 = .ok (.iload_n 1, 1) := by decide +kernel
theorem ad_Village_canBits_15 : decode prog_11_method_19_code 15 = .ok (.iload_n 3, 1) := by decide +kernel
theorem ad_Village_canBits_16 : decode prog_11_method_19_code 16 = .ok (.invokevirtual 111, 3) := by decide +kernel
theorem ad_Village_canBits_19 : decode prog_11_method_19_code 19 = .ok (.ifCond .eq 9, 3) := by decide +kernel
theorem ad_Village_canBits_22 : decode prog_11_method_19_code 22 = .ok (.iconst 1, 1) := by decide +kernel
theorem ad_Village_canBits_23 : decode prog_11_method_19_code 23 = .ok (.iload_n 3, 1) := by decide +kernel
theorem ad_Village_canBits_24 : decode prog_11_method_19_code 24 = .ok (.ishl, 1) := by decide +kernel
theorem ad_Village_canBits_25 : decode prog_11_method_19_code 25 = .ok (.goto 4, 3) := by decide +kernel
theorem ad_Village_canBits_28 : decode prog_11_method_19_code 28 = .ok (.iconst 0, 1) := by decide +kernel
theorem ad_Village_canBits_29 : decode prog_11_method_19_code 29 = .ok (.ior, 1) := by decide +kernel
theorem ad_Village_canBits_30 : decode prog_11_method_19_code 30 = .ok (.istore_n 2, 1) := by decide +kernel
theorem ad_Village_canBits_31 : decode prog_11_method_19_code 31 = .ok (.iinc 3 1, 3) := by decide +kernel
theorem ad_Village_canBits_34 : decode prog_11_method_19_code 34 = .ok (.goto (-30), 3) := by decide +kernel
theorem ad_Village_canBits_37 : decode prog_11_method_19_code 37 = .ok (.iload_n 2, 1) := by decide +kernel
theorem ad_Village_canBits_38 : decode prog_11_method_19_code 38 = .ok (.ireturn, 1) := by decide +kernel
theorem ad_Village_needBits_0 : decode prog_11_method_20_code 0 = .ok (.iconst 0, 1) := by decide +kernel
theorem ad_Village_needBits_1 : decode prog_11_method_20_code 1 = .ok (.istore_n 2, 1) := by decide +kernel
theorem ad_Village_needBits_2 : decode prog_11_method_20_code 2 = .ok (.iconst 0, 1) := by decide +kernel
theorem ad_Village_needBits_3 : decode prog_11_method_20_code 3 = .ok (.istore_n 3, 1) := by decide +kernel
theorem ad_Village_needBits_4 : decode prog_11_method_20_code 4 = .ok (.iload_n 3, 1) := by decide +kernel
theorem ad_Village_needBits_5 : decode prog_11_method_20_code 5 = .ok (.aload_n 0, 1) := by decide +kernel
theorem ad_Village_needBits_6 : decode prog_11_method_20_code 6 = .ok (.getfield 55, 3) := by decide +kernel
theorem ad_Village_needBits_9 : decode prog_11_method_20_code 9 = .ok (.if_icmp .ge 34, 3) := by decide +kernel
theorem ad_Village_needBits_12 : decode prog_11_method_20_code 12 = .ok (.iload_n 2, 1) := by decide +kernel
theorem ad_Village_needBits_13 : decode prog_11_method_20_code 13 = .ok (.aload_n 0, 1) := by decide +kernel
theorem ad_Village_needBits_14 : decode prog_11_method_20_code 14 = .ok (.getfield 36, 3) := by decide +kernel
theorem ad_Village_needBits_17 : decode prog_11_method_20_code 17 = .ok (.iload_n 3, 1) := by decide +kernel
theorem ad_Village_needBits_18 : decode prog_11_method_20_code 18 = .ok (.iaload, 1) := by decide +kernel
theorem ad_Village_needBits_19 : decode prog_11_method_20_code 19 = .ok (.iload_n 1, 1) := by decide +kernel
theorem ad_Village_needBits_20 : decode prog_11_method_20_code 20 = .ok (.if_icmp .ne 14, 3) := by decide +kernel
theorem ad_Village_needBits_23 : decode prog_11_method_20_code 23 = .ok (.iconst 1, 1) := by decide +kernel
theorem ad_Village_needBits_24 : decode prog_11_method_20_code 24 = .ok (.aload_n 0, 1) := by decide +kernel
theorem ad_Village_needBits_25 : decode prog_11_method_20_code 25 = .ok (.getfield 39, 3) := by decide +kernel
theorem ad_Village_needBits_28 : decode prog_11_method_20_code 28 = .ok (.iload_n 3, 1) := by decide +kernel
theorem ad_Village_needBits_29 : decode prog_11_method_20_code 29 = .ok (.iaload, 1) := by decide +kernel
theorem ad_Village_needBits_30 : decode prog_11_method_20_code 30 = .ok (.ishl, 1) := by decide +kernel
theorem ad_Village_needBits_31 : decode prog_11_method_20_code 31 = .ok (.goto 4, 3) := by decide +kernel
theorem ad_Village_needBits_34 : decode prog_11_method_20_code 34 = .ok (.iconst 0, 1) := by decide +kernel
theorem ad_Village_needBits_35 : decode prog_11_method_20_code 35 = .ok (.ior, 1) := by decide +kernel
theorem ad_Village_needBits_36 : decode prog_11_method_20_code 36 = .ok (.istore_n 2, 1) := by decide +kernel
theorem ad_Village_needBits_37 : decode prog_11_method_20_code 37 = .ok (.iinc 3 1, 3) := by decide +kernel
theorem ad_Village_needBits_40 : decode prog_11_method_20_code 40 = .ok (.goto (-36), 3) := by decide +kernel
theorem ad_Village_needBits_43 : decode prog_11_method_20_code 43 = .ok (.iload_n 2, 1) := by decide +kernel
theorem ad_Village_needBits_44 : decode prog_11_method_20_code 44 = .ok (.ireturn, 1) := by decide +kernel
theorem ad_Village_foundParts_0 : decode prog_11_method_21_code 0 = .ok (.iconst 1, 1) := by decide +kernel
theorem ad_Village_foundParts_1 : decode prog_11_method_21_code 1 = .ok (.istore_n 2, 1) := by decide +kernel
theorem ad_Village_foundParts_2 : decode prog_11_method_21_code 2 = .ok (.iconst 0, 1) := by decide +kernel
theorem ad_Village_foundParts_3 : decode prog_11_method_21_code 3 = .ok (.istore_n 3, 1) := by decide +kernel
theorem ad_Village_foundParts_4 : decode prog_11_method_21_code 4 = .ok (.iload_n 3, 1) := by decide +kernel
theorem ad_Village_foundParts_5 : decode prog_11_method_21_code 5 = .ok (.bipush 8, 2) := by decide +kernel
theorem ad_Village_foundParts_7 : decode prog_11_method_21_code 7 = .ok (.if_icmp .ge 30, 3) := by decide +kernel
theorem ad_Village_foundParts_10 : decode prog_11_method_21_code 10 = .ok (.iload_n 2, 1) := by decide +kernel
theorem ad_Village_foundParts_11 : decode prog_11_method_21_code 11 = .ok (.iload_n 3, 1) := by decide +kernel
theorem ad_Village_foundParts_12 : decode prog_11_method_21_code 12 = .ok (.iload_n 1, 1) := by decide +kernel
theorem ad_Village_foundParts_13 : decode prog_11_method_21_code 13 = .ok (.if_icmp .ne 7, 3) := by decide +kernel
theorem ad_Village_foundParts_16 : decode prog_11_method_21_code 16 = .ok (.iconst 1, 1) := by decide +kernel
theorem ad_Village_foundParts_17 : decode prog_11_method_21_code 17 = .ok (.goto 12, 3) := by decide +kernel
theorem ad_Village_foundParts_20 : decode prog_11_method_21_code 20 = .ok (.bipush 10, 2) := by decide +kernel
theorem ad_Village_foundParts_22 : decode prog_11_method_21_code 22 = .ok (.aload_n 0, 1) := by decide +kernel
theorem ad_Village_foundParts_23 : decode prog_11_method_21_code 23 = .ok (.iload_n 3, 1) := by decide +kernel
theorem ad_Village_foundParts_24 : decode prog_11_method_21_code 24 = .ok (.iload_n 1, 1) := by decide +kernel
theorem ad_Village_foundParts_25 : decode prog_11_method_21_code 25 = .ok (.invokevirtual 115, 3) := by decide +kernel
theorem ad_Village_foundParts_28 : decode prog_11_method_21_code 28 = .ok (.isub, 1) := by decide +kernel
theorem ad_Village_foundParts_29 : decode prog_11_method_21_code 29 = .ok (.imul, 1) := by decide +kernel
theorem ad_Village_foundParts_30 : decode prog_11_method_21_code 30 = .ok (.istore_n 2, 1) := by decide +kernel
theorem ad_Village_foundParts_31 : decode prog_11_method_21_code 31 = .ok (.iinc 3 1, 3) := by decide +kernel
theorem ad_Village_foundParts_34 : decode prog_11_method_21_code 34 = .ok (.goto (-30), 3) := by decide +kernel
theorem ad_Village_foundParts_37 : decode prog_11_method_21_code 37 = .ok (.ldc 118, 2) := by decide +kernel
theorem ad_Village_foundParts_39 : decode prog_11_method_21_code 39 = .ok (.iload_n 2, 1) := by decide +kernel
theorem ad_Village_foundParts_40 : decode prog_11_method_21_code 40 = .ok (.isub, 1) := by decide +kernel
theorem ad_Village_foundParts_41 : decode prog_11_method_21_code 41 = .ok (.ireturn, 1) := by decide +kernel
theorem ad_VillageText_readAll_0 : decode prog_12_method_2_code 0 = .ok (.aload_n 0, 1) := by decide +kernel
theorem ad_VillageText_readAll_1 : decode prog_12_method_2_code 1 = .ok (.getfield 12, 3) := by decide +kernel
theorem ad_VillageText_readAll_4 : decode prog_12_method_2_code 4 = .ok (.aload_n 1, 1) := by decide +kernel
theorem ad_VillageText_readAll_5 : decode prog_12_method_2_code 5 = .ok (.iload_n 2, 1) := by decide +kernel
theorem ad_VillageText_readAll_6 : decode prog_12_method_2_code 6 = .ok (.sipush 900, 3) := by decide +kernel
theorem ad_VillageText_readAll_9 : decode prog_12_method_2_code 9 = .ok (.invokevirtual 35, 3) := by decide +kernel
theorem ad_VillageText_readAll_12 : decode prog_12_method_2_code 12 = .ok (.aload_n 0, 1) := by decide +kernel
theorem ad_VillageText_readAll_13 : decode prog_12_method_2_code 13 = .ok (.getfield 21, 3) := by decide +kernel
theorem ad_VillageText_readAll_16 : decode prog_12_method_2_code 16 = .ok (.invokevirtual 39, 3) := by decide +kernel
theorem ad_VillageText_readAll_19 : decode prog_12_method_2_code 19 = .ok (.aload_n 0, 1) := by decide +kernel
theorem ad_VillageText_readAll_20 : decode prog_12_method_2_code 20 = .ok (.iconst 0, 1) := by decide +kernel
theorem ad_VillageText_readAll_21 : decode prog_12_method_2_code 21 = .ok (.putfield 25, 3) := by decide +kernel
theorem ad_VillageText_readAll_24 : decode prog_12_method_2_code 24 = .ok (.aload_n 0, 1) := by decide +kernel
theorem ad_VillageText_readAll_25 : decode prog_12_method_2_code 25 = .ok (.iconst 0, 1) := by decide +kernel
theorem ad_VillageText_readAll_26 : decode prog_12_method_2_code 26 = .ok (.putfield 29, 3) := by decide +kernel
theorem ad_VillageText_readAll_29 : decode prog_12_method_2_code 29 = .ok (.aload_n 0, 1) := by decide +kernel
theorem ad_VillageText_readAll_30 : decode prog_12_method_2_code 30 = .ok (.iconst 0, 1) := by decide +kernel
theorem ad_VillageText_readAll_31 : decode prog_12_method_2_code 31 = .ok (.putfield 32, 3) := by decide +kernel
theorem ad_VillageText_readAll_34 : decode prog_12_method_2_code 34 = .ok (.iconst 0, 1) := by decide +kernel
theorem ad_VillageText_readAll_35 : decode prog_12_method_2_code 35 = .ok (.istore_n 3, 1) := by decide +kernel
theorem ad_VillageText_readAll_36 : decode prog_12_method_2_code 36 = .ok (.iload_n 3, 1) := by decide +kernel
theorem ad_VillageText_readAll_37 : decode prog_12_method_2_code 37 = .ok (.sipush 1000, 3) := by decide +kernel
theorem ad_VillageText_readAll_40 : decode prog_12_method_2_code 40 = .ok (.if_icmp .ge 55, 3) := by decide +kernel
theorem ad_VillageText_readAll_43 : decode prog_12_method_2_code 43 = .ok (.aload_n 0, 1) := by decide +kernel
theorem ad_VillageText_readAll_44 : decode prog_12_method_2_code 44 = .ok (.getfield 12, 3) := by decide +kernel
theorem ad_VillageText_readAll_47 : decode prog_12_method_2_code 47 = .ok (.getfield 42, 3) := by decide +kernel
theorem ad_VillageText_readAll_50 : decode prog_12_method_2_code 50 = .ok (.bipush 32, 2) := by decide +kernel
theorem ad_VillageText_readAll_52 : decode prog_12_method_2_code 52 = .ok (.if_icmp .eq 43, 3) := by decide +kernel
theorem ad_VillageText_readAll_55 : decode prog_12_method_2_code 55 = .ok (.aload_n 0, 1) := by decide +kernel
theorem ad_VillageText_readAll_56 : decode prog_12_method_2_code 56 = .ok (.invokevirtual 46, 3) := by decide +kernel
theorem ad_VillageText_readAll_59 : decode prog_12_method_2_code 59 = .ok (.ifCond .eq 15, 3) := by decide +kernel
theorem ad_VillageText_readAll_62 : decode prog_12_method_2_code 62 = .ok (.aload_n 0, 1) := by decide +kernel
theorem ad_VillageText_readAll_63 : decode prog_12_method_2_code 63 = .ok (.getfield 12, 3) := by decide +kernel
theorem ad_VillageText_readAll_66 : decode prog_12_method_2_code 66 = .ok (.bipush 26, 2) := by decide +kernel
theorem ad_VillageText_readAll_68 : decode prog_12_method_2_code 68 = .ok (.invokevirtual 50, 3) := by decide +kernel
theorem ad_VillageText_readAll_71 : decode prog_12_method_2_code 71 = .ok (.ifCond .ne 5, 3) := by decide +kernel
theorem ad_VillageText_readAll_74 : decode prog_12_method_2_code 74 = .ok (.iconst 0, 1) := by decide +kernel
theorem ad_VillageText_readAll_75 : decode prog_12_method_2_code 75 = .ok (.ireturn, 1) := by decide +kernel
theorem ad_VillageText_readAll_76 : decode prog_12_method_2_code 76 = .ok (.aload_n 0, 1) := by decide +kernel
theorem ad_VillageText_readAll_77 : decode prog_12_method_2_code 77 = .ok (.getfield 21, 3) := by decide +kernel
theorem ad_VillageText_readAll_80 : decode prog_12_method_2_code 80 = .ok (.dup, 1) := by decide +kernel
theorem ad_VillageText_readAll_81 : decode prog_12_method_2_code 81 = .ok (.getfield 54, 3) := by decide +kernel
theorem ad_VillageText_readAll_84 : decode prog_12_method_2_code 84 = .ok (.iconst 1, 1) := by decide +kernel
theorem ad_VillageText_readAll_85 : decode prog_12_method_2_code 85 = .ok (.iadd, 1) := by decide +kernel
theorem ad_VillageText_readAll_86 : decode prog_12_method_2_code 86 = .ok (.putfield 54, 3) := by decide +kernel
theorem ad_VillageText_readAll_89 : decode prog_12_method_2_code 89 = .ok (.iinc 3 1, 3) := by decide +kernel
theorem ad_VillageText_readAll_92 : decode prog_12_method_2_code 92 = .ok (.goto (-56), 3) := by decide +kernel
theorem ad_VillageText_readAll_95 : decode prog_12_method_2_code 95 = .ok (.iconst 1, 1) := by decide +kernel
theorem ad_VillageText_readAll_96 : decode prog_12_method_2_code 96 = .ok (.ireturn, 1) := by decide +kernel
theorem ad_VillageText_readLine_0 : decode prog_12_method_3_code 0 = .ok (.aload_n 0, 1) := by decide +kernel
theorem ad_VillageText_readLine_1 : decode prog_12_method_3_code 1 = .ok (.getfield 12, 3) := by decide +kernel
theorem ad_VillageText_readLine_4 : decode prog_12_method_3_code 4 = .ok (.getfield 42, 3) := by decide +kernel
theorem ad_VillageText_readLine_7 : decode prog_12_method_3_code 7 = .ok (.tableswitch 98 0 8 #[49, 54, 98, 98, 59, 71, 83, 88, 93], 49) := by decide +kernel
theorem ad_VillageText_readLine_56 : decode prog_12_method_3_code 56 = .ok (.aload_n 0, 1) := by decide +kernel
theorem ad_VillageText_readLine_57 : decode prog_12_method_3_code 57 = .ok (.invokevirtual 57, 3) := by decide +kernel
theorem ad_VillageText_readLine_60 : decode prog_12_method_3_code 60 = .ok (.ireturn, 1) := by decide +kernel
theorem ad_VillageText_readLine_61 : decode prog_12_method_3_code 61 = .ok (.aload_n 0, 1) := by decide +kernel
theorem ad_VillageText_readLine_62 : decode prog_12_method_3_code 62 = .ok (.invokevirtual 60, 3) := by decide +kernel
theorem ad_VillageText_readLine_65 : decode prog_12_method_3_code 65 = .ok (.ireturn, 1) := by decide +kernel
theorem ad_VillageText_readLine_66 : decode prog_12_method_3_code 66 = .ok (.aload_n 0, 1) := by decide +kernel
theorem ad_VillageText_readLine_67 : decode prog_12_method_3_code 67 = .ok (.aload_n 0, 1) := by decide +kernel
theorem ad_VillageText_readLine_68 : decode prog_12_method_3_code 68 = .ok (.getfield 21, 3) := by decide +kernel
theorem ad_VillageText_readLine_71 : decode prog_12_method_3_code 71 = .ok (.getfield 63, 3) := by decide +kernel
theorem ad_VillageText_readLine_74 : decode prog_12_method_3_code 74 = .ok (.invokevirtual 67, 3) := by decide +kernel
theorem ad_VillageText_readLine_77 : decode prog_12_method_3_code 77 = .ok (.ireturn, 1) := by decide +kernel
theorem ad_VillageText_readLine_78 : decode prog_12_method_3_code 78 = .ok (.aload_n 0, 1) := by decide +kernel
theorem ad_VillageText_readLine_79 : decode prog_12_method_3_code 79 = .ok (.aload_n 0, 1) := by decide +kernel
theorem ad_VillageText_readLine_80 : decode prog_12_method_3_code 80 = .ok (.getfield 21, 3) := by decide +kernel
theorem ad_VillageText_readLine_83 : decode prog_12_method_3_code 83 = .ok (.getfield 71, 3) := by decide +kernel
theorem ad_VillageText_readLine_86 : decode prog_12_method_3_code 86 = .ok (.invokevirtual 67, 3) := by decide +kernel
theorem ad_VillageText_readLine_89 : decode prog_12_method_3_code 89 = .ok (.ireturn, 1) := by decide +kernel
theorem ad_VillageText_readLine_90 : decode prog_12_method_3_code 90 = .ok (.aload_n 0, 1) := by decide +kernel
theorem ad_VillageText_readLine_91 : decode prog_12_method_3_code 91 = .ok (.invokevirtual 74, 3) := by decide +kernel
theorem ad_VillageText_readLine_94 : decode prog_12_method_3_code 94 = .ok (.ireturn, 1) := by decide +kernel
theorem ad_VillageText_readLine_95 : decode prog_12_method_3_code 95 = .ok (.aload_n 0, 1) := by decide +kernel
theorem ad_VillageText_readLine_96 : decode prog_12_method_3_code 96 = .ok (.invokevirtual 77, 3) := by decide +kernel
theorem ad_VillageText_readLine_99 : decode prog_12_method_3_code 99 = .ok (.ireturn, 1) := by decide +kernel
theorem ad_VillageText_readLine_100 : decode prog_12_method_3_code 100 = .ok (.aload_n 0, 1) := by decide +kernel
theorem ad_VillageText_readLine_101 : decode prog_12_method_3_code 101 = .ok (.invokevirtual 80, 3) := by decide +kernel
theorem ad_VillageText_readLine_104 : decode prog_12_method_3_code 104 = .ok (.ireturn, 1) := by decide +kernel
theorem ad_VillageText_readLine_105 : decode prog_12_method_3_code 105 = .ok (.aload_n 0, 1) := by decide +kernel
theorem ad_VillageText_readLine_106 : decode prog_12_method_3_code 106 = .ok (.getfield 12, 3) := by decide +kernel
theorem ad_VillageText_readLine_109 : decode prog_12_method_3_code 109 = .ok (.iconst 1, 1) := by decide +kernel
theorem ad_VillageText_readLine_110 : decode prog_12_method_3_code 110 = .ok (.invokevirtual 83, 3) := by decide +kernel
theorem ad_VillageText_readLine_113 : decode prog_12_method_3_code 113 = .ok (.ireturn, 1) := by decide +kernel
theorem ad_VillageText_readHelp_0 : decode prog_12_method_4_code 0 = .ok (.aload_n 0, 1) := by decide +kernel
theorem ad_VillageText_readHelp_1 : decode prog_12_method_4_code 1 = .ok (.getfield 21, 3) := by decide +kernel
theorem ad_VillageText_readHelp_4 : decode prog_12_method_4_code 4 = .ok (.getfield 86, 3) := by decide +kernel
theorem ad_VillageText_readHelp_7 : decode prog_12_method_4_code 7 = .ok (.istore_n 1, 1) := by decide +kernel
theorem ad_VillageText_readHelp_8 : decode prog_12_method_4_code 8 = .ok (.iload_n 1, 1) := by decide +kernel
theorem ad_VillageText_readHelp_9 : decode prog_12_method_4_code 9 = .ok (.bipush 6, 2) := by decide +kernel
theorem ad_VillageText_readHelp_11 : decode prog_12_method_4_code 11 = .ok (.if_icmp .lt 12, 3) := by decide +kernel
theorem ad_VillageText_readHelp_14 : decode prog_12_method_4_code 14 = .ok (.aload_n 0, 1) := by decide +kernel
theorem ad_VillageText_readHelp_15 : decode prog_12_method_4_code 15 = .ok (.getfield 12, 3) := by decide +kernel
theorem ad_VillageText_readHelp_18 : decode prog_12_method_4_code 18 = .ok (.iconst 4, 1) := by decide +kernel
theorem ad_VillageText_readHelp_19 : decode prog_12_method_4_code 19 = .ok (.invokevirtual 83, 3) := by decide +kernel
theorem ad_VillageText_readHelp_22 : decode prog_12_method_4_code 22 = .ok (.ireturn, 1) := by decide +kernel
theorem ad_VillageText_readHelp_23 : decode prog_12_method_4_code 23 = .ok (.aload_n 0, 1) := by decide +kernel
theorem ad_VillageText_readHelp_24 : decode prog_12_method_4_code 24 = .ok (.getfield 12, 3) := by decide +kernel
theorem ad_VillageText_readHelp_27 : decode prog_12_method_4_code 27 = .ok (.invokevirtual 89, 3) := by decide +kernel
theorem ad_VillageText_readHelp_30 : decode prog_12_method_4_code 30 = .ok (.aload_n 0, 1) := by decide +kernel
theorem ad_VillageText_readHelp_31 : decode prog_12_method_4_code 31 = .ok (.invokevirtual 92, 3) := by decide +kernel
theorem ad_VillageText_readHelp_34 : decode prog_12_method_4_code 34 = .ok (.ifCond .ne 5, 3) := by decide +kernel
theorem ad_VillageText_readHelp_37 : decode prog_12_method_4_code 37 = .ok (.iconst 0, 1) := by decide +kernel
theorem ad_VillageText_readHelp_38 : decode prog_12_method_4_code 38 = .ok (.ireturn, 1) := by decide +kernel
theorem ad_VillageText_readHelp_39 : decode prog_12_method_4_code 39 = .ok (.aload_n 0, 1) := by decide +kernel
theorem ad_VillageText_readHelp_40 : decode prog_12_method_4_code 40 = .ok (.getfield 21, 3) := by decide +kernel
theorem ad_VillageText_readHelp_43 : decode prog_12_method_4_code 43 = .ok (.getfield 95, 3) := by decide +kernel
theorem ad_VillageText_readHelp_46 : decode prog_12_method_4_code 46 = .ok (.iload_n 1, 1) := by decide +kernel
theorem ad_VillageText_readHelp_47 : decode prog_12_method_4_code 47 = .ok (.aload_n 0, 1) := by decide +kernel
theorem ad_VillageText_readHelp_48 : decode prog_12_method_4_code 48 = .ok (.getfield 12, 3) := by decide +kernel
theorem ad_VillageText_readHelp_51 : decode prog_12_method_4_code 51 = .ok (.getfield 98, 3) := by decide +kernel
theorem ad_VillageText_readHelp_54 : decode prog_12_method_4_code 54 = .ok (.iastore, 1) := by decide +kernel
theorem ad_VillageText_readHelp_55 : decode prog_12_method_4_code 55 = .ok (.aload_n 0, 1) := by decide +kernel
theorem ad_VillageText_readHelp_56 : decode prog_12_method_4_code 56 = .ok (.getfield 21, 3) := by decide +kernel
theorem ad_VillageText_readHelp_59 : decode prog_12_method_4_code 59 = .ok (.dup, 1) := by decide +kernel
theorem ad_VillageText_readHelp_60 : decode prog_12_method_4_code 60 = .ok (.getfield 86, 3) := by decide +kernel
theorem ad_VillageText_readHelp_63 : decode prog_12_method_4_code 63 = .ok (.iconst 1, 1) := by decide +kernel
theorem ad_VillageText_readHelp_64 : decode prog_12_method_4_code 64 = .ok (.iadd, 1) := by decide +kernel
theorem ad_VillageText_readHelp_65 : decode prog_12_method_4_code 65 = .ok (.putfield 86, 3) := by decide +kernel
theorem ad_VillageText_readHelp_68 : decode prog_12_method_4_code 68 = .ok (.aload_n 0, 1) := by decide +kernel
theorem ad_VillageText_readHelp_69 : decode prog_12_method_4_code 69 = .ok (.getfield 12, 3) := by decide +kernel
theorem ad_VillageText_readHelp_72 : decode prog_12_method_4_code 72 = .ok (.invokevirtual 89, 3) := by decide +kernel
theorem ad_VillageText_readHelp_75 : decode prog_12_method_4_code 75 = .ok (.aload_n 0, 1) := by decide +kernel
theorem ad_VillageText_readHelp_76 : decode prog_12_method_4_code 76 = .ok (.getfield 12, 3) := by decide +kernel
theorem ad_VillageText_readHelp_79 : decode prog_12_method_4_code 79 = .ok (.iconst 1, 1) := by decide +kernel
theorem ad_VillageText_readHelp_80 : decode prog_12_method_4_code 80 = .ok (.bipush 99, 2) := by decide +kernel
theorem ad_VillageText_readHelp_82 : decode prog_12_method_4_code 82 = .ok (.invokevirtual 101, 3) := by decide +kernel
theorem ad_VillageText_readHelp_85 : decode prog_12_method_4_code 85 = .ok (.ifCond .ne 5, 3) := by decide +kernel
theorem ad_VillageText_readHelp_88 : decode prog_12_method_4_code 88 = .ok (.iconst 0, 1) := by decide +kernel
theorem ad_VillageText_readHelp_89 : decode prog_12_method_4_code 89 = .ok (.ireturn, 1) := by decide +kernel
theorem ad_VillageText_readHelp_90 : decode prog_12_method_4_code 90 = .ok (.aload_n 0, 1) := by decide +kernel
theorem ad_VillageText_readHelp_91 : decode prog_12_method_4_code 91 = .ok (.getfield 21, 3) := by decide +kernel
theorem ad_VillageText_readHelp_94 : decode prog_12_method_4_code 94 = .ok (.getfield 105, 3) := by decide +kernel
theorem ad_VillageText_readHelp_97 : decode prog_12_method_4_code 97 = .ok (.iload_n 1, 1) := by decide +kernel
theorem ad_VillageText_readHelp_98 : decode prog_12_method_4_code 98 = .ok (.aload_n 0, 1) := by decide +kernel
theorem ad_VillageText_readHelp_99 : decode prog_12_method_4_code 99 = .ok (.getfield 12, 3) := by decide +kernel
theorem ad_VillageText_readHelp_102 : decode prog_12_method_4_code 102 = .ok (.getfield 108, 3) := by decide +kernel
theorem ad_VillageText_readHelp_105 : decode prog_12_method_4_code 105 = .ok (.iastore, 1) := by decide +kernel
theorem ad_VillageText_readHelp_106 : decode prog_12_method_4_code 106 = .ok (.aload_n 0, 1) := by decide +kernel
theorem ad_VillageText_readHelp_107 : decode prog_12_method_4_code 107 = .ok (.getfield 12, 3) := by decide +kernel
theorem ad_VillageText_readHelp_110 : decode prog_12_method_4_code 110 = .ok (.iconst 0, 1) := by decide +kernel
theorem ad_VillageText_readHelp_111 : decode prog_12_method_4_code 111 = .ok (.bipush 99, 2) := by decide +kernel
theorem ad_VillageText_readHelp_113 : decode prog_12_method_4_code 113 = .ok (.invokevirtual 101, 3) := by decide +kernel
theorem ad_VillageText_readHelp_116 : decode prog_12_method_4_code 116 = .ok (.ifCond .ne 5, 3) := by decide +kernel
theorem ad_VillageText_readHelp_119 : decode prog_12_method_4_code 119 = .ok (.iconst 0, 1) := by decide +kernel
theorem ad_VillageText_readHelp_120 : decode prog_12_method_4_code 120 = .ok (.ireturn, 1) := by decide +kernel
theorem ad_VillageText_readHelp_121 : decode prog_12_method_4_code 121 = .ok (.aload_n 0, 1) := by decide +kernel
theorem ad_VillageText_readHelp_122 : decode prog_12_method_4_code 122 = .ok (.getfield 21, 3) := by decide +kernel
theorem ad_VillageText_readHelp_125 : decode prog_12_method_4_code 125 = .ok (.getfield 111, 3) := by decide +kernel
theorem ad_VillageText_readHelp_128 : decode prog_12_method_4_code 128 = .ok (.iload_n 1, 1) := by decide +kernel
theorem ad_VillageText_readHelp_129 : decode prog_12_method_4_code 129 = .ok (.aload_n 0, 1) := by decide +kernel
theorem ad_VillageText_readHelp_130 : decode prog_12_method_4_code 130 = .ok (.getfield 12, 3) := by decide +kernel
theorem ad_VillageText_readHelp_133 : decode prog_12_method_4_code 133 = .ok (.getfield 108, 3) := by decide +kernel
theorem ad_VillageText_readHelp_136 : decode prog_12_method_4_code 136 = .ok (.iastore, 1) := by decide +kernel
theorem ad_VillageText_readHelp_137 : decode prog_12_method_4_code 137 = .ok (.iconst 1, 1) := by decide +kernel
theorem ad_VillageText_readHelp_138 : decode prog_12_method_4_code 138 = .ok (.ireturn, 1) := by decide +kernel
theorem ad_VillageText_isNewName_0 : decode prog_12_method_5_code 0 = .ok (.aload_n 0, 1) := by decide +kernel
theorem ad_VillageText_isNewName_1 : decode prog_12_method_5_code 1 = .ok (.getfield 12, 3) := by decide +kernel
theorem ad_VillageText_isNewName_4 : decode prog_12_method_5_code 4 = .ok (.getfield 42, 3) := by decide +kernel
theorem ad_VillageText_isNewName_7 : decode prog_12_method_5_code 7 = .ok (.bipush 24, 2) := by decide +kernel
theorem ad_VillageText_isNewName_9 : decode prog_12_method_5_code 9 = .ok (.if_icmp .eq 12, 3) := by decide +kernel
theorem ad_VillageText_isNewName_12 : decode prog_12_method_5_code 12 = .ok (.aload_n 0, 1) := by decide +kernel
theorem ad_VillageText_isNewName_13 : decode prog_12_method_5_code 13 = .ok (.getfield 12, 3) := by decide +kernel
theorem ad_VillageText_isNewName_16 : decode prog_12_method_5_code 16 = .ok (.iconst 1, 1) := by decide +kernel
theorem ad_VillageText_isNewName_17 : decode prog_12_method_5_code 17 = .ok (.invokevirtual 83, 3) := by decide +kernel
theorem ad_VillageText_isNewName_20 : decode prog_12_method_5_code 20 = .ok (.ireturn, 1) := by decide +kernel
theorem ad_VillageText_isNewName_21 : decode prog_12_method_5_code 21 = .ok (.aload_n 0, 1) := by decide +kernel
theorem ad_VillageText_isNewName_22 : decode prog_12_method_5_code 22 = .ok (.getfield 21, 3) := by decide +kernel
theorem ad_VillageText_isNewName_25 : decode prog_12_method_5_code 25 = .ok (.aload_n 0, 1) := by decide +kernel
theorem ad_VillageText_isNewName_26 : decode prog_12_method_5_code 26 = .ok (.getfield 12, 3) := by decide +kernel
theorem ad_VillageText_isNewName_29 : decode prog_12_method_5_code 29 = .ok (.getfield 98, 3) := by decide +kernel
theorem ad_VillageText_isNewName_32 : decode prog_12_method_5_code 32 = .ok (.invokevirtual 114, 3) := by decide +kernel
theorem ad_VillageText_isNewName_35 : decode prog_12_method_5_code 35 = .ok (.ifCond .ge 20, 3) := by decide +kernel
theorem ad_VillageText_isNewName_38 : decode prog_12_method_5_code 38 = .ok (.aload_n 0, 1) := by decide +kernel
theorem ad_VillageText_isNewName_39 : decode prog_12_method_5_code 39 = .ok (.getfield 21, 3) := by decide +kernel
theorem ad_VillageText_isNewName_42 : decode prog_12_method_5_code 42 = .ok (.aload_n 0, 1) := by decide +kernel
theorem ad_VillageText_isNewName_43 : decode prog_12_method_5_code 43 = .ok (.getfield 12, 3) := by decide +kernel
theorem ad_VillageText_isNewName_46 : decode prog_12_method_5_code 46 = .ok (.getfield 98, 3) := by decide +kernel
theorem ad_VillageText_isNewName_49 : decode prog_12_method_5_code 49 = .ok (.invokevirtual 118, 3) := by decide +kernel
theorem ad_VillageText_isNewName_52 : decode prog_12_method_5_code 52 = .ok (.ifCond .lt 12, 3) := by decide +kernel
theorem ad_VillageText_isNewName_55 : decode prog_12_method_5_code 55 = .ok (.aload_n 0, 1) := by decide +kernel
theorem ad_VillageText_isNewName_56 : decode prog_12_method_5_code 56 = .ok (.getfield 12, 3) := by decide +kernel
theorem ad_VillageText_isNewName_59 : decode prog_12_method_5_code 59 = .ok (.iconst 3, 1) := by decide +kernel
theorem ad_VillageText_isNewName_60 : decode prog_12_method_5_code 60 = .ok (.invokevirtual 83, 3) := by decide +kernel
theorem ad_VillageText_isNewName_63 : decode prog_12_method_5_code 63 = .ok (.ireturn, 1) := by decide +kernel
theorem ad_VillageText_isNewName_64 : decode prog_12_method_5_code 64 = .ok (.iconst 1, 1) := by decide +kernel
theorem ad_VillageText_isNewName_65 : decode prog_12_method_5_code 65 = .ok (.ireturn, 1) := by decide +kernel
theorem ad_VillageText_readPerson_0 : decode prog_12_method_6_code 0 = .ok (.aload_n 0, 1) := by decide +kernel
theorem ad_VillageText_readPerson_1 : decode prog_12_method_6_code 1 = .ok (.getfield 21, 3) := by decide +kernel
theorem ad_VillageText_readPerson_4 : decode prog_12_method_6_code 4 = .ok (.getfield 121, 3) := by decide +kernel
theorem ad_VillageText_readPerson_7 : decode prog_12_method_6_code 7 = .ok (.istore_n 1, 1) := by decide +kernel
theorem ad_VillageText_readPerson_8 : decode prog_12_method_6_code 8 = .ok (.iload_n 1, 1) := by decide +kernel
theorem ad_VillageText_readPerson_9 : decode prog_12_method_6_code 9 = .ok (.bipush 8, 2) := by decide +kernel
theorem ad_VillageText_readPerson_11 : decode prog_12_method_6_code 11 = .ok (.if_icmp .lt 12, 3) := by decide +kernel
theorem ad_VillageText_readPerson_14 : decode prog_12_method_6_code 14 = .ok (.aload_n 0, 1) := by decide +kernel
theorem ad_VillageText_readPerson_15 : decode prog_12_method_6_code 15 = .ok (.getfield 12, 3) := by decide +kernel
theorem ad_VillageText_readPerson_18 : decode prog_12_method_6_code 18 = .ok (.iconst 4, 1) := by decide +kernel
theorem ad_VillageText_readPerson_19 : decode prog_12_method_6_code 19 = .ok (.invokevirtual 83, 3) := by decide +kernel
theorem ad_VillageText_readPerson_22 : decode prog_12_method_6_code 22 = .ok (.ireturn, 1) := by decide +kernel
theorem ad_VillageText_readPerson_23 : decode prog_12_method_6_code 23 = .ok (.aload_n 0, 1) := by decide +kernel
theorem ad_VillageText_readPerson_24 : decode prog_12_method_6_code 24 = .ok (.getfield 12, 3) := by decide +kernel
theorem ad_VillageText_readPerson_27 : decode prog_12_method_6_code 27 = .ok (.invokevirtual 89, 3) := by decide +kernel
theorem ad_VillageText_readPerson_30 : decode prog_12_method_6_code 30 = .ok (.aload_n 0, 1) := by decide +kernel
theorem ad_VillageText_readPerson_31 : decode prog_12_method_6_code 31 = .ok (.invokevirtual 92, 3) := by decide +kernel
theorem ad_VillageText_readPerson_34 : decode prog_12_method_6_code 34 = .ok (.ifCond .ne 5, 3) := by decide +kernel
theorem ad_VillageText_readPerson_37 : decode prog_12_method_6_code 37 = .ok (.iconst 0, 1) := by decide +kernel
theorem ad_VillageText_readPerson_38 : decode prog_12_method_6_code 38 = .ok (.ireturn, 1) := by decide +kernel
theorem ad_VillageText_readPerson_39 : decode prog_12_method_6_code 39 = .ok (.aload_n 0, 1) := by decide +kernel
theorem ad_VillageText_readPerson_40 : decode prog_12_method_6_code 40 = .ok (.getfield 21, 3) := by decide +kernel
theorem ad_VillageText_readPerson_43 : decode prog_12_method_6_code 43 = .ok (.getfield 124, 3) := by decide +kernel
theorem ad_VillageText_readPerson_46 : decode prog_12_method_6_code 46 = .ok (.iload_n 1, 1) := by decide +kernel
theorem ad_VillageText_readPerson_47 : decode prog_12_method_6_code 47 = .ok (.aload_n 0, 1) := by decide +kernel
theorem ad_VillageText_readPerson_48 : decode prog_12_method_6_code 48 = .ok (.getfield 12, 3) := by decide +kernel
theorem ad_VillageText_readPerson_51 : decode prog_12_method_6_code 51 = .ok (.getfield 98, 3) := by decide +kernel
theorem ad_VillageText_readPerson_54 : decode prog_12_method_6_code 54 = .ok (.iastore, 1) := by decide +kernel
theorem ad_VillageText_readPerson_55 : decode prog_12_method_6_code 55 = .ok (.aload_n 0, 1) := by decide +kernel
theorem ad_VillageText_readPerson_56 : decode prog_12_method_6_code 56 = .ok (.getfield 21, 3) := by decide +kernel
theorem ad_VillageText_readPerson_59 : decode prog_12_method_6_code 59 = .ok (.dup, 1) := by decide +kernel
theorem ad_VillageText_readPerson_60 : decode prog_12_method_6_code 60 = .ok (.getfield 121, 3) := by decide +kernel
theorem ad_VillageText_readPerson_63 : decode prog_12_method_6_code 63 = .ok (.iconst 1, 1) := by decide +kernel
theorem ad_VillageText_readPerson_64 : decode prog_12_method_6_code 64 = .ok (.iadd, 1) := by decide +kernel
theorem ad_VillageText_readPerson_65 : decode prog_12_method_6_code 65 = .ok (.putfield 121, 3) := by decide +kernel
theorem ad_VillageText_readPerson_68 : decode prog_12_method_6_code 68 = .ok (.aload_n 0, 1) := by decide +kernel
theorem ad_VillageText_readPerson_69 : decode prog_12_method_6_code 69 = .ok (.getfield 12, 3) := by decide +kernel
theorem ad_VillageText_readPerson_72 : decode prog_12_method_6_code 72 = .ok (.invokevirtual 89, 3) := by decide +kernel
theorem ad_VillageText_readPerson_75 : decode prog_12_method_6_code 75 = .ok (.aload_n 0, 1) := by decide +kernel
theorem ad_VillageText_readPerson_76 : decode prog_12_method_6_code 76 = .ok (.getfield 12, 3) := by decide +kernel
theorem ad_VillageText_readPerson_79 : decode prog_12_method_6_code 79 = .ok (.iconst 0, 1) := by decide +kernel
theorem ad_VillageText_readPerson_80 : decode prog_12_method_6_code 80 = .ok (.bipush 9, 2) := by decide +kernel
theorem ad_VillageText_readPerson_82 : decode prog_12_method_6_code 82 = .ok (.invokevirtual 101, 3) := by decide +kernel
theorem ad_VillageText_readPerson_85 : decode prog_12_method_6_code 85 = .ok (.ifCond .ne 5, 3) := by decide +kernel
theorem ad_VillageText_readPerson_88 : decode prog_12_method_6_code 88 = .ok (.iconst 0, 1) := by decide +kernel
theorem ad_VillageText_readPerson_89 : decode prog_12_method_6_code 89 = .ok (.ireturn, 1) := by decide +kernel
theorem ad_VillageText_readPerson_90 : decode prog_12_method_6_code 90 = .ok (.aload_n 0, 1) := by decide +kernel
theorem ad_VillageText_readPerson_91 : decode prog_12_method_6_code 91 = .ok (.getfield 21, 3) := by decide +kernel
theorem ad_VillageText_readPerson_94 : decode prog_12_method_6_code 94 = .ok (.getfield 127, 3) := by decide +kernel
theorem ad_VillageText_readPerson_97 : decode prog_12_method_6_code 97 = .ok (.iload_n 1, 1) := by decide +kernel
theorem ad_VillageText_readPerson_98 : decode prog_12_method_6_code 98 = .ok (.aload_n 0, 1) := by decide +kernel
theorem ad_VillageText_readPerson_99 : decode prog_12_method_6_code 99 = .ok (.getfield 12, 3) := by decide +kernel
theorem ad_VillageText_readPerson_102 : decode prog_12_method_6_code 102 = .ok (.getfield 108, 3) := by decide +kernel
theorem ad_VillageText_readPerson_105 : decode prog_12_method_6_code 105 = .ok (.iastore, 1) := by decide +kernel
theorem ad_VillageText_readPerson_106 : decode prog_12_method_6_code 106 = .ok (.iconst 1, 1) := by decide +kernel
theorem ad_VillageText_readPerson_107 : decode prog_12_method_6_code 107 = .ok (.istore_n 2, 1) := by decide +kernel
theorem ad_VillageText_readPerson_108 : decode prog_12_method_6_code 108 = .ok (.iconst 0, 1) := by decide +kernel
theorem ad_VillageText_readPerson_109 : decode prog_12_method_6_code 109 = .ok (.istore_n 3, 1) := by decide +kernel
theorem ad_VillageText_readPerson_110 : decode prog_12_method_6_code 110 = .ok (.iload_n 3, 1) := by decide +kernel
theorem ad_VillageText_readPerson_111 : decode prog_12_method_6_code 111 = .ok (.sipush 1000, 3) := by decide +kernel
theorem ad_VillageText_readPerson_114 : decode prog_12_method_6_code 114 = .ok (.if_icmp .ge 74, 3) := by decide +kernel
theorem ad_VillageText_readPerson_117 : decode prog_12_method_6_code 117 = .ok (.iload_n 2, 1) := by decide +kernel
theorem ad_VillageText_readPerson_118 : decode prog_12_method_6_code 118 = .ok (.ifCond .eq 70, 3) := by decide +kernel
theorem ad_VillageText_readPerson_121 : decode prog_12_method_6_code 121 = .ok (.aload_n 0, 1) := by decide +kernel
theorem ad_VillageText_readPerson_122 : decode prog_12_method_6_code 122 = .ok (.getfield 12, 3) := by decide +kernel
theorem ad_VillageText_readPerson_125 : decode prog_12_method_6_code 125 = .ok (.getfield 42, 3) := by decide +kernel
theorem ad_VillageText_readPerson_128 : decode prog_12_method_6_code 128 = .ok (.bipush 26, 2) := by decide +kernel
theorem ad_VillageText_readPerson_130 : decode prog_12_method_6_code 130 = .ok (.if_icmp .eq 58, 3) := by decide +kernel
theorem ad_VillageText_readPerson_133 : decode prog_12_method_6_code 133 = .ok (.aload_n 0, 1) := by decide +kernel
theorem ad_VillageText_readPerson_134 : decode prog_12_method_6_code 134 = .ok (.getfield 12, 3) := by decide +kernel
theorem ad_VillageText_readPerson_137 : decode prog_12_method_6_code 137 = .ok (.getfield 42, 3) := by decide +kernel
theorem ad_VillageText_readPerson_140 : decode prog_12_method_6_code 140 = .ok (.iconst 2, 1) := by decide +kernel
theorem ad_VillageText_readPerson_141 : decode prog_12_method_6_code 141 = .ok (.if_icmp .ne 12, 3) := by decide +kernel
theorem ad_VillageText_readPerson_144 : decode prog_12_method_6_code 144 = .ok (.aload_n 0, 1) := by decide +kernel
theorem ad_VillageText_readPerson_145 : decode prog_12_method_6_code 145 = .ok (.iload_n 1, 1) := by decide +kernel
theorem ad_VillageText_readPerson_146 : decode prog_12_method_6_code 146 = .ok (.invokevirtual 130, 3) := by decide +kernel
theorem ad_VillageText_readPerson_149 : decode prog_12_method_6_code 149 = .ok (.istore_n 2, 1) := by decide +kernel
theorem ad_VillageText_readPerson_150 : decode prog_12_method_6_code 150 = .ok (.goto 32, 3) := by decide +kernel
theorem ad_VillageText_readPerson_153 : decode prog_12_method_6_code 153 = .ok (.aload_n 0, 1) := by decide +kernel
theorem ad_VillageText_readPerson_154 : decode prog_12_method_6_code 154 = .ok (.getfield 12, 3) := by decide +kernel
theorem ad_VillageText_readPerson_157 : decode prog_12_method_6_code 157 = .ok (.getfield 42, 3) := by decide +kernel
theorem ad_VillageText_readPerson_160 : decode prog_12_method_6_code 160 = .ok (.iconst 3, 1) := by decide +kernel
theorem ad_VillageText_readPerson_161 : decode prog_12_method_6_code 161 = .ok (.if_icmp .ne 12, 3) := by decide +kernel
theorem ad_VillageText_readPerson_164 : decode prog_12_method_6_code 164 = .ok (.aload_n 0, 1) := by decide +kernel
theorem ad_VillageText_readPerson_165 : decode prog_12_method_6_code 165 = .ok (.iload_n 1, 1) := by decide +kernel
theorem ad_VillageText_readPerson_166 : decode prog_12_method_6_code 166 = .ok (.invokevirtual 133, 3) := by decide +kernel
theorem ad_VillageText_readPerson_169 : decode prog_12_method_6_code 169 = .ok (.istore_n 2, 1) := by decide +kernel
theorem ad_VillageText_readPerson_170 : decode prog_12_method_6_code 170 = .ok (.goto 12, 3) := by decide +kernel
theorem ad_VillageText_readPerson_173 : decode prog_12_method_6_code 173 = .ok (.aload_n 0, 1) := by decide +kernel
theorem ad_VillageText_readPerson_174 : decode prog_12_method_6_code 174 = .ok (.getfield 12, 3) := by decide +kernel
theorem ad_VillageText_readPerson_177 : decode prog_12_method_6_code 177 = .ok (.iconst 1, 1) := by decide +kernel
theorem ad_VillageText_readPerson_178 : decode prog_12_method_6_code 178 = .ok (.invokevirtual 83, 3) := by decide +kernel
theorem ad_VillageText_readPerson_181 : decode prog_12_method_6_code 181 = .ok (.istore_n 2, 1) := by decide +kernel
theorem ad_VillageText_readPerson_182 : decode prog_12_method_6_code 182 = .ok (.iinc 3 1, 3) := by decide +kernel
theorem ad_VillageText_readPerson_185 : decode prog_12_method_6_code 185 = .ok (.goto (-75), 3) := by decide +kernel
theorem ad_VillageText_readPerson_188 : decode prog_12_method_6_code 188 = .ok (.iload_n 2, 1) := by decide +kernel
theorem ad_VillageText_readPerson_189 : decode prog_12_method_6_code 189 = .ok (.ireturn, 1) := by decide +kernel
theorem ad_VillageText_readCan_0 : decode prog_12_method_7_code 0 = .ok (.aload_n 0, 1) := by decide +kernel
theorem ad_VillageText_readCan_1 : decode prog_12_method_7_code 1 = .ok (.getfield 12, 3) := by decide +kernel
theorem ad_VillageText_readCan_4 : decode prog_12_method_7_code 4 = .ok (.invokevirtual 89, 3) := by decide +kernel
theorem ad_VillageText_readCan_7 : decode prog_12_method_7_code 7 = .ok (.aload_n 0, 1) := by decide +kernel
theorem ad_VillageText_readCan_8 : decode prog_12_method_7_code 8 = .ok (.getfield 21, 3) := by decide +kernel
theorem ad_VillageText_readCan_11 : decode prog_12_method_7_code 11 = .ok (.aload_n 0, 1) := by decide +kernel
theorem ad_VillageText_readCan_12 : decode prog_12_method_7_code 12 = .ok (.getfield 12, 3) := by decide +kernel
theorem ad_VillageText_readCan_15 : decode prog_12_method_7_code 15 = .ok (.invokevirtual 136, 3) := by decide +kernel
theorem ad_VillageText_readCan_18 : decode prog_12_method_7_code 18 = .ok (.istore_n 2, 1) := by decide +kernel
theorem ad_VillageText_readCan_19 : decode prog_12_method_7_code 19 = .ok (.iload_n 2, 1) := by decide +kernel
theorem ad_VillageText_readCan_20 : decode prog_12_method_7_code 20 = .ok (.ifCond .ge 5, 3) := by decide +kernel
theorem ad_VillageText_readCan_23 : decode prog_12_method_7_code 23 = .ok (.iconst 0, 1) := by decide +kernel
theorem ad_VillageText_readCan_24 : decode prog_12_method_7_code 24 = .ok (.ireturn, 1) := by decide +kernel
theorem ad_VillageText_readCan_25 : decode prog_12_method_7_code 25 = .ok (.aload_n 0, 1) := by decide +kernel
theorem ad_VillageText_readCan_26 : decode prog_12_method_7_code 26 = .ok (.getfield 21, 3) := by decide +kernel
theorem ad_VillageText_readCan_29 : decode prog_12_method_7_code 29 = .ok (.iload_n 1, 1) := by decide +kernel
theorem ad_VillageText_readCan_30 : decode prog_12_method_7_code 30 = .ok (.iload_n 2, 1) := by decide +kernel
theorem ad_VillageText_readCan_31 : decode prog_12_method_7_code 31 = .ok (.invokevirtual 140, 3) := by decide +kernel
theorem ad_VillageText_readCan_34 : decode prog_12_method_7_code 34 = .ok (.ifCond .eq 12, 3) := by decide +kernel
theorem ad_VillageText_readCan_37 : decode prog_12_method_7_code 37 = .ok (.aload_n 0, 1) := by decide +kernel
theorem ad_VillageText_readCan_38 : decode prog_12_method_7_code 38 = .ok (.getfield 12, 3) := by decide +kernel
theorem ad_VillageText_readCan_41 : decode prog_12_method_7_code 41 = .ok (.iconst 3, 1) := by decide +kernel
theorem ad_VillageText_readCan_42 : decode prog_12_method_7_code 42 = .ok (.invokevirtual 83, 3) := by decide +kernel
theorem ad_VillageText_readCan_45 : decode prog_12_method_7_code 45 = .ok (.ireturn, 1) := by decide +kernel
theorem ad_VillageText_readCan_46 : decode prog_12_method_7_code 46 = .ok (.aload_n 0, 1) := by decide +kernel
theorem ad_VillageText_readCan_47 : decode prog_12_method_7_code 47 = .ok (.getfield 12, 3) := by decide +kernel
theorem ad_VillageText_readCan_50 : decode prog_12_method_7_code 50 = .ok (.invokevirtual 89, 3) := by decide +kernel
theorem ad_VillageText_readCan_53 : decode prog_12_method_7_code 53 = .ok (.aload_n 0, 1) := by decide +kernel
theorem ad_VillageText_readCan_54 : decode prog_12_method_7_code 54 = .ok (.getfield 12, 3) := by decide +kernel
theorem ad_VillageText_readCan_57 : decode prog_12_method_7_code 57 = .ok (.iconst 1, 1) := by decide +kernel
theorem ad_VillageText_readCan_58 : decode prog_12_method_7_code 58 = .ok (.bipush 99, 2) := by decide +kernel
theorem ad_VillageText_readCan_60 : decode prog_12_method_7_code 60 = .ok (.invokevirtual 101, 3) := by decide +kernel
theorem ad_VillageText_readCan_63 : decode prog_12_method_7_code 63 = .ok (.ifCond .ne 5, 3) := by decide +kernel
theorem ad_VillageText_readCan_66 : decode prog_12_method_7_code 66 = .ok (.iconst 0, 1) := by decide +kernel
theorem ad_VillageText_readCan_67 : decode prog_12_method_7_code 67 = .ok (.ireturn, 1) := by decide +kernel
theorem ad_VillageText_readCan_68 : decode prog_12_method_7_code 68 = .ok (.aload_n 0, 1) := by decide +kernel
theorem ad_VillageText_readCan_69 : decode prog_12_method_7_code 69 = .ok (.getfield 21, 3) := by decide +kernel
theorem ad_VillageText_readCan_72 : decode prog_12_method_7_code 72 = .ok (.getfield 143, 3) := by decide +kernel
theorem ad_VillageText_readCan_75 : decode prog_12_method_7_code 75 = .ok (.iload_n 1, 1) := by decide +kernel
theorem ad_VillageText_readCan_76 : decode prog_12_method_7_code 76 = .ok (.bipush 6, 2) := by decide +kernel
theorem ad_VillageText_readCan_78 : decode prog_12_method_7_code 78 = .ok (.imul, 1) := by decide +kernel
theorem ad_VillageText_readCan_79 : decode prog_12_method_7_code 79 = .ok (.iload_n 2, 1) := by decide +kernel
theorem ad_VillageText_readCan_80 : decode prog_12_method_7_code 80 = .ok (.iadd, 1) := by decide +kernel
theorem ad_VillageText_readCan_81 : decode prog_12_method_7_code 81 = .ok (.aload_n 0, 1) := by decide +kernel
theorem ad_VillageText_readCan_82 : decode prog_12_method_7_code 82 = .ok (.getfield 12, 3) := by decide +kernel
theorem ad_VillageText_readCan_85 : decode prog_12_method_7_code 85 = .ok (.getfield 108, 3) := by decide +kernel
theorem ad_VillageText_readCan_88 : decode prog_12_method_7_code 88 = .ok (.iastore, 1) := by decide +kernel
theorem ad_VillageText_readCan_89 : decode prog_12_method_7_code 89 = .ok (.iconst 1, 1) := by decide +kernel
theorem ad_VillageText_readCan_90 : decode prog_12_method_7_code 90 = .ok (.ireturn, 1) := by decide +kernel
theorem ad_VillageText_readNeed_0 : decode prog_12_method_8_code 0 = .ok (.aload_n 0, 1) := by decide +kernel
theorem ad_VillageText_readNeed_1 : decode prog_12_method_8_code 1 = .ok (.getfield 12, 3) := by decide +kernel
theorem ad_VillageText_readNeed_4 : decode prog_12_method_8_code 4 = .ok (.invokevirtual 89, 3) := by decide +kernel
theorem ad_VillageText_readNeed_7 : decode prog_12_method_8_code 7 = .ok (.aload_n 0, 1) := by decide +kernel
theorem ad_VillageText_readNeed_8 : decode prog_12_method_8_code 8 = .ok (.getfield 21, 3) := by decide +kernel
theorem ad_VillageText_readNeed_11 : decode prog_12_method_8_code 11 = .ok (.aload_n 0, 1) := by decide +kernel
theorem ad_VillageText_readNeed_12 : decode prog_12_method_8_code 12 = .ok (.getfield 12, 3) := by decide +kernel
theorem ad_VillageText_readNeed_15 : decode prog_12_method_8_code 15 = .ok (.invokevirtual 136, 3) := by decide +kernel
theorem ad_VillageText_readNeed_18 : decode prog_12_method_8_code 18 = .ok (.istore_n 2, 1) := by decide +kernel
theorem ad_VillageText_readNeed_19 : decode prog_12_method_8_code 19 = .ok (.iload_n 2, 1) := by decide +kernel
theorem ad_VillageText_readNeed_20 : decode prog_12_method_8_code 20 = .ok (.ifCond .ge 5, 3) := by decide +kernel
theorem ad_VillageText_readNeed_23 : decode prog_12_method_8_code 23 = .ok (.iconst 0, 1) := by decide +kernel
theorem ad_VillageText_readNeed_24 : decode prog_12_method_8_code 24 = .ok (.ireturn, 1) := by decide +kernel
theorem ad_VillageText_readNeed_25 : decode prog_12_method_8_code 25 = .ok (.aload_n 0, 1) := by decide +kernel
theorem ad_VillageText_readNeed_26 : decode prog_12_method_8_code 26 = .ok (.getfield 21, 3) := by decide +kernel
theorem ad_VillageText_readNeed_29 : decode prog_12_method_8_code 29 = .ok (.iload_n 1, 1) := by decide +kernel
theorem ad_VillageText_readNeed_30 : decode prog_12_method_8_code 30 = .ok (.iload_n 2, 1) := by decide +kernel
theorem ad_VillageText_readNeed_31 : decode prog_12_method_8_code 31 = .ok (.invokevirtual 146, 3) := by decide +kernel
theorem ad_VillageText_readNeed_34 : decode prog_12_method_8_code 34 = .ok (.ifCond .ge 15, 3) := by decide +kernel
theorem ad_VillageText_readNeed_37 : decode prog_12_method_8_code 37 = .ok (.aload_n 0, 1) := by decide +kernel
theorem ad_VillageText_readNeed_38 : decode prog_12_method_8_code 38 = .ok (.getfield 21, 3) := by decide +kernel
theorem ad_VillageText_readNeed_41 : decode prog_12_method_8_code 41 = .ok (.getfield 150, 3) := by decide +kernel
theorem ad_VillageText_readNeed_44 : decode prog_12_method_8_code 44 = .ok (.bipush 48, 2) := by decide +kernel
theorem ad_VillageText_readNeed_46 : decode prog_12_method_8_code 46 = .ok (.if_icmp .lt 12, 3) := by decide +kernel
theorem ad_VillageText_readNeed_49 : decode prog_12_method_8_code 49 = .ok (.aload_n 0, 1) := by decide +kernel
theorem ad_VillageText_readNeed_50 : decode prog_12_method_8_code 50 = .ok (.getfield 12, 3) := by decide +kernel
theorem ad_VillageText_readNeed_53 : decode prog_12_method_8_code 53 = .ok (.iconst 3, 1) := by decide +kernel
theorem ad_VillageText_readNeed_54 : decode prog_12_method_8_code 54 = .ok (.invokevirtual 83, 3) := by decide +kernel
theorem ad_VillageText_readNeed_57 : decode prog_12_method_8_code 57 = .ok (.ireturn, 1) := by decide +kernel
theorem ad_VillageText_readNeed_58 : decode prog_12_method_8_code 58 = .ok (.aload_n 0, 1) := by decide +kernel
theorem ad_VillageText_readNeed_59 : decode prog_12_method_8_code 59 = .ok (.getfield 21, 3) := by decide +kernel
theorem ad_VillageText_readNeed_62 : decode prog_12_method_8_code 62 = .ok (.getfield 153, 3) := by decide +kernel
theorem ad_VillageText_readNeed_65 : decode prog_12_method_8_code 65 = .ok (.aload_n 0, 1) := by decide +kernel
theorem ad_VillageText_readNeed_66 : decode prog_12_method_8_code 66 = .ok (.getfield 21, 3) := by decide +kernel
theorem ad_VillageText_readNeed_69 : decode prog_12_method_8_code 69 = .ok (.getfield 150, 3) := by decide +kernel
theorem ad_VillageText_readNeed_72 : decode prog_12_method_8_code 72 = .ok (.iload_n 1, 1) := by decide +kernel
theorem ad_VillageText_readNeed_73 : decode prog_12_method_8_code 73 = .ok (.iastore, 1) := by decide +kernel
theorem ad_VillageText_readNeed_74 : decode prog_12_method_8_code 74 = .ok (.aload_n 0, 1) := by decide +kernel
theorem ad_VillageText_readNeed_75 : decode prog_12_method_8_code 75 = .ok (.getfield 21, 3) := by decide +kernel
theorem ad_VillageText_readNeed_78 : decode prog_12_method_8_code 78 = .ok (.getfield 156, 3) := by decide +kernel
theorem ad_VillageText_readNeed_81 : decode prog_12_method_8_code 81 = .ok (.aload_n 0, 1) := by decide +kernel
theorem ad_VillageText_readNeed_82 : decode prog_12_method_8_code 82 = .ok (.getfield 21, 3) := by decide +kernel
theorem ad_VillageText_readNeed_85 : decode prog_12_method_8_code 85 = .ok (.getfield 150, 3) := by decide +kernel
theorem ad_VillageText_readNeed_88 : decode prog_12_method_8_code 88 = .ok (.iload_n 2, 1) := by decide +kernel
theorem ad_VillageText_readNeed_89 : decode prog_12_method_8_code 89 = .ok (.iastore, 1) := by decide +kernel
theorem ad_VillageText_readNeed_90 : decode prog_12_method_8_code 90 = .ok (.aload_n 0, 1) := by decide +kernel
theorem ad_VillageText_readNeed_91 : decode prog_12_method_8_code 91 = .ok (.getfield 21, 3) := by decide +kernel
theorem ad_VillageText_readNeed_94 : decode prog_12_method_8_code 94 = .ok (.dup, 1) := by decide +kernel
theorem ad_VillageText_readNeed_95 : decode prog_12_method_8_code 95 = .ok (.getfield 150, 3) := by decide +kernel
theorem ad_VillageText_readNeed_98 : decode prog_12_method_8_code 98 = .ok (.iconst 1, 1) := by decide +kernel
theorem ad_VillageText_readNeed_99 : decode prog_12_method_8_code 99 = .ok (.iadd, 1) := by decide +kernel
theorem ad_VillageText_readNeed_100 : decode prog_12_method_8_code 100 = .ok (.putfield 150, 3) := by decide +kernel
theorem ad_VillageText_readNeed_103 : decode prog_12_method_8_code 103 = .ok (.aload_n 0, 1) := by decide +kernel
theorem ad_VillageText_readNeed_104 : decode prog_12_method_8_code 104 = .ok (.getfield 12, 3) := by decide +kernel
theorem ad_VillageText_readNeed_107 : decode prog_12_method_8_code 107 = .ok (.invokevirtual 89, 3) := by decide +kernel
theorem ad_VillageText_readNeed_110 : decode prog_12_method_8_code 110 = .ok (.iconst 1, 1) := by decide +kernel
theorem ad_VillageText_readNeed_111 : decode prog_12_method_8_code 111 = .ok (.ireturn, 1) := by decide +kernel
theorem ad_VillageText_readTie_0 : decode prog_12_method_9_code 0 = .ok (.aload_n 0, 1) := by decide +kernel
theorem ad_VillageText_readTie_1 : decode prog_12_method_9_code 1 = .ok (.getfield 12, 3) := by decide +kernel
theorem ad_VillageText_readTie_4 : decode prog_12_method_9_code 4 = .ok (.invokevirtual 89, 3) := by decide +kernel
theorem ad_VillageText_readTie_7 : decode prog_12_method_9_code 7 = .ok (.aload_n 0, 1) := by decide +kernel
theorem ad_VillageText_readTie_8 : decode prog_12_method_9_code 8 = .ok (.getfield 21, 3) := by decide +kernel
theorem ad_VillageText_readTie_11 : decode prog_12_method_9_code 11 = .ok (.aload_n 0, 1) := by decide +kernel
theorem ad_VillageText_readTie_12 : decode prog_12_method_9_code 12 = .ok (.getfield 12, 3) := by decide +kernel
theorem ad_VillageText_readTie_15 : decode prog_12_method_9_code 15 = .ok (.invokevirtual 159, 3) := by decide +kernel
theorem ad_VillageText_readTie_18 : decode prog_12_method_9_code 18 = .ok (.istore_n 2, 1) := by decide +kernel
theorem ad_VillageText_readTie_19 : decode prog_12_method_9_code 19 = .ok (.iload_n 2, 1) := by decide +kernel
theorem ad_VillageText_readTie_20 : decode prog_12_method_9_code 20 = .ok (.ifCond .ge 5, 3) := by decide +kernel
theorem ad_VillageText_readTie_23 : decode prog_12_method_9_code 23 = .ok (.iconst 0, 1) := by decide +kernel
theorem ad_VillageText_readTie_24 : decode prog_12_method_9_code 24 = .ok (.ireturn, 1) := by decide +kernel
theorem ad_VillageText_readTie_25 : decode prog_12_method_9_code 25 = .ok (.aload_n 0, 1) := by decide +kernel
theorem ad_VillageText_readTie_26 : decode prog_12_method_9_code 26 = .ok (.getfield 12, 3) := by decide +kernel
theorem ad_VillageText_readTie_29 : decode prog_12_method_9_code 29 = .ok (.invokevirtual 89, 3) := by decide +kernel
theorem ad_VillageText_readTie_32 : decode prog_12_method_9_code 32 = .ok (.aload_n 0, 1) := by decide +kernel
theorem ad_VillageText_readTie_33 : decode prog_12_method_9_code 33 = .ok (.getfield 21, 3) := by decide +kernel
theorem ad_VillageText_readTie_36 : decode prog_12_method_9_code 36 = .ok (.aload_n 0, 1) := by decide +kernel
theorem ad_VillageText_readTie_37 : decode prog_12_method_9_code 37 = .ok (.getfield 12, 3) := by decide +kernel
theorem ad_VillageText_readTie_40 : decode prog_12_method_9_code 40 = .ok (.invokevirtual 159, 3) := by decide +kernel
theorem ad_VillageText_readTie_43 : decode prog_12_method_9_code 43 = .ok (.istore_n 3, 1) := by decide +kernel
theorem ad_VillageText_readTie_44 : decode prog_12_method_9_code 44 = .ok (.iload_n 3, 1) := by decide +kernel
theorem ad_VillageText_readTie_45 : decode prog_12_method_9_code 45 = .ok (.ifCond .ge 5, 3) := by decide +kernel
theorem ad_VillageText_readTie_48 : decode prog_12_method_9_code 48 = .ok (.iconst 0, 1) := by decide +kernel
theorem ad_VillageText_readTie_49 : decode prog_12_method_9_code 49 = .ok (.ireturn, 1) := by decide +kernel
theorem ad_VillageText_readTie_50 : decode prog_12_method_9_code 50 = .ok (.iload_n 2, 1) := by decide +kernel
theorem ad_VillageText_readTie_51 : decode prog_12_method_9_code 51 = .ok (.bipush 8, 2) := by decide +kernel
theorem ad_VillageText_readTie_53 : decode prog_12_method_9_code 53 = .ok (.imul, 1) := by decide +kernel
theorem ad_VillageText_readTie_54 : decode prog_12_method_9_code 54 = .ok (.iload_n 3, 1) := by decide +kernel
theorem ad_VillageText_readTie_55 : decode prog_12_method_9_code 55 = .ok (.iadd, 1) := by decide +kernel
theorem ad_VillageText_readTie_56 : decode prog_12_method_9_code 56 = .ok (.istore 4, 2) := by decide +kernel
theorem ad_VillageText_readTie_58 : decode prog_12_method_9_code 58 = .ok (.iload_n 2, 1) := by decide +kernel
theorem ad_VillageText_readTie_59 : decode prog_12_method_9_code 59 = .ok (.iload_n 3, 1) := by decide +kernel
theorem ad_VillageText_readTie_60 : decode prog_12_method_9_code 60 = .ok (.if_icmp .eq 10, 3) := by decide +kernel
theorem ad_VillageText_readTie_63 : decode prog_12_method_9_code 63 = .ok (.aload_n 1, 1) := by decide +kernel
theorem ad_VillageText_readTie_64 : decode prog_12_method_9_code 64 = .ok (.iload 4, 2) := by decide +kernel
theorem ad_VillageText_readTie_66 : decode prog_12_method_9_code 66 = .ok (.iaload, 1) := by decide +kernel
theorem ad_VillageText_readTie_67 : decode prog_12_method_9_code 67 = .ok (.ifCond .eq 12, 3) := by decide +kernel
theorem ad_VillageText_readTie_70 : decode prog_12_method_9_code 70 = .ok (.aload_n 0, 1) := by decide +kernel
theorem ad_VillageText_readTie_71 : decode prog_12_method_9_code 71 = .ok (.getfield 12, 3) := by decide +kernel
theorem ad_VillageText_readTie_74 : decode prog_12_method_9_code 74 = .ok (.iconst 3, 1) := by decide +kernel
theorem ad_VillageText_readTie_75 : decode prog_12_method_9_code 75 = .ok (.invokevirtual 83, 3) := by decide +kernel
theorem ad_VillageText_readTie_78 : decode prog_12_method_9_code 78 = .ok (.ireturn, 1) := by decide +kernel
theorem ad_VillageText_readTie_79 : decode prog_12_method_9_code 79 = .ok (.aload_n 0, 1) := by decide +kernel
theorem ad_VillageText_readTie_80 : decode prog_12_method_9_code 80 = .ok (.getfield 12, 3) := by decide +kernel
theorem ad_VillageText_readTie_83 : decode prog_12_method_9_code 83 = .ok (.invokevirtual 89, 3) := by decide +kernel
theorem ad_VillageText_readTie_86 : decode prog_12_method_9_code 86 = .ok (.aload_n 0, 1) := by decide +kernel
theorem ad_VillageText_readTie_87 : decode prog_12_method_9_code 87 = .ok (.getfield 12, 3) := by decide +kernel
theorem ad_VillageText_readTie_90 : decode prog_12_method_9_code 90 = .ok (.iconst 1, 1) := by decide +kernel
theorem ad_VillageText_readTie_91 : decode prog_12_method_9_code 91 = .ok (.bipush 10, 2) := by decide +kernel
theorem ad_VillageText_readTie_93 : decode prog_12_method_9_code 93 = .ok (.invokevirtual 101, 3) := by decide +kernel
theorem ad_VillageText_readTie_96 : decode prog_12_method_9_code 96 = .ok (.ifCond .ne 5, 3) := by decide +kernel
theorem ad_VillageText_readTie_99 : decode prog_12_method_9_code 99 = .ok (.iconst 0, 1) := by decide +kernel
theorem ad_VillageText_readTie_100 : decode prog_12_method_9_code 100 = .ok (.ireturn, 1) := by decide +kernel
theorem ad_VillageText_readTie_101 : decode prog_12_method_9_code 101 = .ok (.aload_n 1, 1) := by decide +kernel
theorem ad_VillageText_readTie_102 : decode prog_12_method_9_code 102 = .ok (.iload 4, 2) := by decide +kernel
theorem ad_VillageText_readTie_104 : decode prog_12_method_9_code 104 = .ok (.aload_n 0, 1) := by decide +kernel
theorem ad_VillageText_readTie_105 : decode prog_12_method_9_code 105 = .ok (.getfield 12, 3) := by decide +kernel
theorem ad_VillageText_readTie_108 : decode prog_12_method_9_code 108 = .ok (.getfield 108, 3) := by decide +kernel
theorem ad_VillageText_readTie_111 : decode prog_12_method_9_code 111 = .ok (.iastore, 1) := by decide +kernel
theorem ad_VillageText_readTie_112 : decode prog_12_method_9_code 112 = .ok (.iconst 1, 1) := by decide +kernel
theorem ad_VillageText_readTie_113 : decode prog_12_method_9_code 113 = .ok (.ireturn, 1) := by decide +kernel
theorem ad_VillageText_readBinds_0 : decode prog_12_method_10_code 0 = .ok (.aload_n 0, 1) := by decide +kernel
theorem ad_VillageText_readBinds_1 : decode prog_12_method_10_code 1 = .ok (.getfield 25, 3) := by decide +kernel
theorem ad_VillageText_readBinds_4 : decode prog_12_method_10_code 4 = .ok (.ifCond .eq 12, 3) := by decide +kernel
theorem ad_VillageText_readBinds_7 : decode prog_12_method_10_code 7 = .ok (.aload_n 0, 1) := by decide +kernel
theorem ad_VillageText_readBinds_8 : decode prog_12_method_10_code 8 = .ok (.getfield 12, 3) := by decide +kernel
theorem ad_VillageText_readBinds_11 : decode prog_12_method_10_code 11 = .ok (.iconst 3, 1) := by decide +kernel
theorem ad_VillageText_readBinds_12 : decode prog_12_method_10_code 12 = .ok (.invokevirtual 83, 3) := by decide +kernel
theorem ad_VillageText_readBinds_15 : decode prog_12_method_10_code 15 = .ok (.ireturn, 1) := by decide +kernel
theorem ad_VillageText_readBinds_16 : decode prog_12_method_10_code 16 = .ok (.aload_n 0, 1) := by decide +kernel
theorem ad_VillageText_readBinds_17 : decode prog_12_method_10_code 17 = .ok (.iconst 1, 1) := by decide +kernel
theorem ad_VillageText_readBinds_18 : decode prog_12_method_10_code 18 = .ok (.putfield 25, 3) := by decide +kernel
theorem ad_VillageText_readBinds_21 : decode prog_12_method_10_code 21 = .ok (.aload_n 0, 1) := by decide +kernel
theorem ad_VillageText_readBinds_22 : decode prog_12_method_10_code 22 = .ok (.getfield 12, 3) := by decide +kernel
theorem ad_VillageText_readBinds_25 : decode prog_12_method_10_code 25 = .ok (.invokevirtual 89, 3) := by decide +kernel
theorem ad_VillageText_readBinds_28 : decode prog_12_method_10_code 28 = .ok (.aload_n 0, 1) := by decide +kernel
theorem ad_VillageText_readBinds_29 : decode prog_12_method_10_code 29 = .ok (.getfield 12, 3) := by decide +kernel
theorem ad_VillageText_readBinds_32 : decode prog_12_method_10_code 32 = .ok (.iconst 1, 1) := by decide +kernel
theorem ad_VillageText_readBinds_33 : decode prog_12_method_10_code 33 = .ok (.bipush 9, 2) := by decide +kernel
theorem ad_VillageText_readBinds_35 : decode prog_12_method_10_code 35 = .ok (.invokevirtual 101, 3) := by decide +kernel
theorem ad_VillageText_readBinds_38 : decode prog_12_method_10_code 38 = .ok (.ifCond .ne 5, 3) := by decide +kernel
theorem ad_VillageText_readBinds_41 : decode prog_12_method_10_code 41 = .ok (.iconst 0, 1) := by decide +kernel
theorem ad_VillageText_readBinds_42 : decode prog_12_method_10_code 42 = .ok (.ireturn, 1) := by decide +kernel
theorem ad_VillageText_readBinds_43 : decode prog_12_method_10_code 43 = .ok (.aload_n 0, 1) := by decide +kernel
theorem ad_VillageText_readBinds_44 : decode prog_12_method_10_code 44 = .ok (.getfield 21, 3) := by decide +kernel
theorem ad_VillageText_readBinds_47 : decode prog_12_method_10_code 47 = .ok (.aload_n 0, 1) := by decide +kernel
theorem ad_VillageText_readBinds_48 : decode prog_12_method_10_code 48 = .ok (.getfield 12, 3) := by decide +kernel
theorem ad_VillageText_readBinds_51 : decode prog_12_method_10_code 51 = .ok (.getfield 108, 3) := by decide +kernel
theorem ad_VillageText_readBinds_54 : decode prog_12_method_10_code 54 = .ok (.putfield 162, 3) := by decide +kernel
theorem ad_VillageText_readBinds_57 : decode prog_12_method_10_code 57 = .ok (.iconst 1, 1) := by decide +kernel
theorem ad_VillageText_readBinds_58 : decode prog_12_method_10_code 58 = .ok (.ireturn, 1) := by decide +kernel
theorem ad_VillageText_readOut_0 : decode prog_12_method_11_code 0 = .ok (.aload_n 0, 1) := by decide +kernel
theorem ad_VillageText_readOut_1 : decode prog_12_method_11_code 1 = .ok (.getfield 29, 3) := by decide +kernel
theorem ad_VillageText_readOut_4 : decode prog_12_method_11_code 4 = .ok (.ifCond .eq 12, 3) := by decide +kernel
theorem ad_VillageText_readOut_7 : decode prog_12_method_11_code 7 = .ok (.aload_n 0, 1) := by decide +kernel
theorem ad_VillageText_readOut_8 : decode prog_12_method_11_code 8 = .ok (.getfield 12, 3) := by decide +kernel
theorem ad_VillageText_readOut_11 : decode prog_12_method_11_code 11 = .ok (.iconst 3, 1) := by decide +kernel
theorem ad_VillageText_readOut_12 : decode prog_12_method_11_code 12 = .ok (.invokevirtual 83, 3) := by decide +kernel
theorem ad_VillageText_readOut_15 : decode prog_12_method_11_code 15 = .ok (.ireturn, 1) := by decide +kernel
theorem ad_VillageText_readOut_16 : decode prog_12_method_11_code 16 = .ok (.aload_n 0, 1) := by decide +kernel
theorem ad_VillageText_readOut_17 : decode prog_12_method_11_code 17 = .ok (.iconst 1, 1) := by decide +kernel
theorem ad_VillageText_readOut_18 : decode prog_12_method_11_code 18 = .ok (.putfield 29, 3) := by decide +kernel
theorem ad_VillageText_readOut_21 : decode prog_12_method_11_code 21 = .ok (.aload_n 0, 1) := by decide +kernel
theorem ad_VillageText_readOut_22 : decode prog_12_method_11_code 22 = .ok (.getfield 12, 3) := by decide +kernel
theorem ad_VillageText_readOut_25 : decode prog_12_method_11_code 25 = .ok (.invokevirtual 89, 3) := by decide +kernel
theorem ad_VillageText_readOut_28 : decode prog_12_method_11_code 28 = .ok (.aload_n 0, 1) := by decide +kernel
theorem ad_VillageText_readOut_29 : decode prog_12_method_11_code 29 = .ok (.getfield 12, 3) := by decide +kernel
theorem ad_VillageText_readOut_32 : decode prog_12_method_11_code 32 = .ok (.iconst 0, 1) := by decide +kernel
theorem ad_VillageText_readOut_33 : decode prog_12_method_11_code 33 = .ok (.sipush 999, 3) := by decide +kernel
theorem ad_VillageText_readOut_36 : decode prog_12_method_11_code 36 = .ok (.invokevirtual 101, 3) := by decide +kernel
theorem ad_VillageText_readOut_39 : decode prog_12_method_11_code 39 = .ok (.ifCond .ne 5, 3) := by decide +kernel
theorem ad_VillageText_readOut_42 : decode prog_12_method_11_code 42 = .ok (.iconst 0, 1) := by decide +kernel
theorem ad_VillageText_readOut_43 : decode prog_12_method_11_code 43 = .ok (.ireturn, 1) := by decide +kernel
theorem ad_VillageText_readOut_44 : decode prog_12_method_11_code 44 = .ok (.aload_n 0, 1) := by decide +kernel
theorem ad_VillageText_readOut_45 : decode prog_12_method_11_code 45 = .ok (.getfield 21, 3) := by decide +kernel
theorem ad_VillageText_readOut_48 : decode prog_12_method_11_code 48 = .ok (.aload_n 0, 1) := by decide +kernel
theorem ad_VillageText_readOut_49 : decode prog_12_method_11_code 49 = .ok (.getfield 12, 3) := by decide +kernel
theorem ad_VillageText_readOut_52 : decode prog_12_method_11_code 52 = .ok (.getfield 108, 3) := by decide +kernel
theorem ad_VillageText_readOut_55 : decode prog_12_method_11_code 55 = .ok (.putfield 165, 3) := by decide +kernel
theorem ad_VillageText_readOut_58 : decode prog_12_method_11_code 58 = .ok (.iconst 1, 1) := by decide +kernel
theorem ad_VillageText_readOut_59 : decode prog_12_method_11_code 59 = .ok (.ireturn, 1) := by decide +kernel
theorem ad_VillageText_readGift_0 : decode prog_12_method_12_code 0 = .ok (.aload_n 0, 1) := by decide +kernel
theorem ad_VillageText_readGift_1 : decode prog_12_method_12_code 1 = .ok (.getfield 32, 3) := by decide +kernel
theorem ad_VillageText_readGift_4 : decode prog_12_method_12_code 4 = .ok (.ifCond .eq 12, 3) := by decide +kernel
theorem ad_VillageText_readGift_7 : decode prog_12_method_12_code 7 = .ok (.aload_n 0, 1) := by decide +kernel
theorem ad_VillageText_readGift_8 : decode prog_12_method_12_code 8 = .ok (.getfield 12, 3) := by decide +kernel
theorem ad_VillageText_readGift_11 : decode prog_12_method_12_code 11 = .ok (.iconst 3, 1) := by decide +kernel
theorem ad_VillageText_readGift_12 : decode prog_12_method_12_code 12 = .ok (.invokevirtual 83, 3) := by decide +kernel
theorem ad_VillageText_readGift_15 : decode prog_12_method_12_code 15 = .ok (.ireturn, 1) := by decide +kernel
theorem ad_VillageText_readGift_16 : decode prog_12_method_12_code 16 = .ok (.aload_n 0, 1) := by decide +kernel
theorem ad_VillageText_readGift_17 : decode prog_12_method_12_code 17 = .ok (.iconst 1, 1) := by decide +kernel
theorem ad_VillageText_readGift_18 : decode prog_12_method_12_code 18 = .ok (.putfield 32, 3) := by decide +kernel
theorem ad_VillageText_readGift_21 : decode prog_12_method_12_code 21 = .ok (.aload_n 0, 1) := by decide +kernel
theorem ad_VillageText_readGift_22 : decode prog_12_method_12_code 22 = .ok (.getfield 12, 3) := by decide +kernel
theorem ad_VillageText_readGift_25 : decode prog_12_method_12_code 25 = .ok (.invokevirtual 89, 3) := by decide +kernel
theorem ad_VillageText_readGift_28 : decode prog_12_method_12_code 28 = .ok (.aload_n 0, 1) := by decide +kernel
theorem ad_VillageText_readGift_29 : decode prog_12_method_12_code 29 = .ok (.getfield 12, 3) := by decide +kernel
theorem ad_VillageText_readGift_32 : decode prog_12_method_12_code 32 = .ok (.iconst 0, 1) := by decide +kernel
theorem ad_VillageText_readGift_33 : decode prog_12_method_12_code 33 = .ok (.bipush 99, 2) := by decide +kernel
theorem ad_VillageText_readGift_35 : decode prog_12_method_12_code 35 = .ok (.invokevirtual 101, 3) := by decide +kernel
theorem ad_VillageText_readGift_38 : decode prog_12_method_12_code 38 = .ok (.ifCond .ne 5, 3) := by decide +kernel
theorem ad_VillageText_readGift_41 : decode prog_12_method_12_code 41 = .ok (.iconst 0, 1) := by decide +kernel
theorem ad_VillageText_readGift_42 : decode prog_12_method_12_code 42 = .ok (.ireturn, 1) := by decide +kernel
theorem ad_VillageText_readGift_43 : decode prog_12_method_12_code 43 = .ok (.aload_n 0, 1) := by decide +kernel
theorem ad_VillageText_readGift_44 : decode prog_12_method_12_code 44 = .ok (.getfield 21, 3) := by decide +kernel
theorem ad_VillageText_readGift_47 : decode prog_12_method_12_code 47 = .ok (.aload_n 0, 1) := by decide +kernel
theorem ad_VillageText_readGift_48 : decode prog_12_method_12_code 48 = .ok (.getfield 12, 3) := by decide +kernel
theorem ad_VillageText_readGift_51 : decode prog_12_method_12_code 51 = .ok (.getfield 108, 3) := by decide +kernel
theorem ad_VillageText_readGift_54 : decode prog_12_method_12_code 54 = .ok (.putfield 168, 3) := by decide +kernel
theorem ad_VillageText_readGift_57 : decode prog_12_method_12_code 57 = .ok (.iconst 1, 1) := by decide +kernel
theorem ad_VillageText_readGift_58 : decode prog_12_method_12_code 58 = .ok (.ireturn, 1) := by decide +kernel
theorem ad_Nh_feed_0 : decode prog_1_method_2_code 0 = .ok (.aload_n 0, 1) := by decide +kernel
theorem ad_Nh_feed_1 : decode prog_1_method_2_code 1 = .ok (.getfield 13, 3) := by decide +kernel
theorem ad_Nh_feed_4 : decode prog_1_method_2_code 4 = .ok (.bipush 20, 2) := by decide +kernel
theorem ad_Nh_feed_6 : decode prog_1_method_2_code 6 = .ok (.iadd, 1) := by decide +kernel
theorem ad_Nh_feed_7 : decode prog_1_method_2_code 7 = .ok (.sipush 940, 3) := by decide +kernel
theorem ad_Nh_feed_10 : decode prog_1_method_2_code 10 = .ok (.if_icmp .le 5, 3) := by decide +kernel
theorem ad_Nh_feed_13 : decode prog_1_method_2_code 13 = .ok (.iconst (-1), 1) := by decide +kernel
theorem ad_Nh_feed_14 : decode prog_1_method_2_code 14 = .ok (.ireturn, 1) := by decide +kernel
theorem ad_Nh_feed_15 : decode prog_1_method_2_code 15 = .ok (.aload_n 0, 1) := by decide +kernel
theorem ad_Nh_feed_16 : decode prog_1_method_2_code 16 = .ok (.iload_n 1, 1) := by decide +kernel
theorem ad_Nh_feed_17 : decode prog_1_method_2_code 17 = .ok (.invokevirtual 86, 3) := by decide +kernel
theorem ad_Nh_feed_20 : decode prog_1_method_2_code 20 = .ok (.aload_n 0, 1) := by decide +kernel
theorem ad_Nh_feed_21 : decode prog_1_method_2_code 21 = .ok (.iload_n 2, 1) := by decide +kernel
theorem ad_Nh_feed_22 : decode prog_1_method_2_code 22 = .ok (.invokevirtual 86, 3) := by decide +kernel
theorem ad_Nh_feed_25 : decode prog_1_method_2_code 25 = .ok (.aload_n 0, 1) := by decide +kernel
theorem ad_Nh_feed_26 : decode prog_1_method_2_code 26 = .ok (.iload_n 3, 1) := by decide +kernel
theorem ad_Nh_feed_27 : decode prog_1_method_2_code 27 = .ok (.invokevirtual 86, 3) := by decide +kernel
theorem ad_Nh_feed_30 : decode prog_1_method_2_code 30 = .ok (.aload_n 0, 1) := by decide +kernel
theorem ad_Nh_feed_31 : decode prog_1_method_2_code 31 = .ok (.iload 4, 2) := by decide +kernel
theorem ad_Nh_feed_33 : decode prog_1_method_2_code 33 = .ok (.invokevirtual 86, 3) := by decide +kernel
theorem ad_Nh_feed_36 : decode prog_1_method_2_code 36 = .ok (.aload_n 0, 1) := by decide +kernel
theorem ad_Nh_feed_37 : decode prog_1_method_2_code 37 = .ok (.iload 5, 2) := by decide +kernel
theorem ad_Nh_feed_39 : decode prog_1_method_2_code 39 = .ok (.invokevirtual 86, 3) := by decide +kernel
theorem ad_Nh_feed_42 : decode prog_1_method_2_code 42 = .ok (.aload_n 0, 1) := by decide +kernel
theorem ad_Nh_feed_43 : decode prog_1_method_2_code 43 = .ok (.getfield 13, 3) := by decide +kernel
theorem ad_Nh_feed_46 : decode prog_1_method_2_code 46 = .ok (.ireturn, 1) := by decide +kernel
theorem ad_Nh_putNumber_0 : decode prog_1_method_3_code 0 = .ok (.bipush 24, 2) := by decide +kernel
theorem ad_Nh_putNumber_2 : decode prog_1_method_3_code 2 = .ok (.istore_n 2, 1) := by decide +kernel
theorem ad_Nh_putNumber_3 : decode prog_1_method_3_code 3 = .ok (.iload_n 2, 1) := by decide +kernel
theorem ad_Nh_putNumber_4 : decode prog_1_method_3_code 4 = .ok (.ifCond .lt 42, 3) := by decide +kernel
theorem ad_Nh_putNumber_7 : decode prog_1_method_3_code 7 = .ok (.aload_n 0, 1) := by decide +kernel
theorem ad_Nh_putNumber_8 : decode prog_1_method_3_code 8 = .ok (.getfield 13, 3) := by decide +kernel
theorem ad_Nh_putNumber_11 : decode prog_1_method_3_code 11 = .ok (.sipush 940, 3) := by decide +kernel
theorem ad_Nh_putNumber_14 : decode prog_1_method_3_code 14 = .ok (.if_icmp .ge 26, 3) := by decide +kernel
theorem ad_Nh_putNumber_17 : decode prog_1_method_3_code 17 = .ok (.aload_n 0, 1) := by decide +kernel
theorem ad_Nh_putNumber_18 : decode prog_1_method_3_code 18 = .ok (.getfield 9, 3) := by decide +kernel
theorem ad_Nh_putNumber_21 : decode prog_1_method_3_code 21 = .ok (.aload_n 0, 1) := by decide +kernel
theorem ad_Nh_putNumber_22 : decode prog_1_method_3_code 22 = .ok (.getfield 13, 3) := by decide +kernel
theorem ad_Nh_putNumber_25 : decode prog_1_method_3_code 25 = .ok (.iload_n 1, 1) := by decide +kernel
theorem ad_Nh_putNumber_26 : decode prog_1_method_3_code 26 = .ok (.iload_n 2, 1) := by decide +kernel
theorem ad_Nh_putNumber_27 : decode prog_1_method_3_code 27 = .ok (.ishr, 1) := by decide +kernel
theorem ad_Nh_putNumber_28 : decode prog_1_method_3_code 28 = .ok (.i2b, 1) := by decide +kernel
theorem ad_Nh_putNumber_29 : decode prog_1_method_3_code 29 = .ok (.bastore, 1) := by decide +kernel
theorem ad_Nh_putNumber_30 : decode prog_1_method_3_code 30 = .ok (.aload_n 0, 1) := by decide +kernel
theorem ad_Nh_putNumber_31 : decode prog_1_method_3_code 31 = .ok (.dup, 1) := by decide +kernel
theorem ad_Nh_putNumber_32 : decode prog_1_method_3_code 32 = .ok (.getfield 13, 3) := by decide +kernel
theorem ad_Nh_putNumber_35 : decode prog_1_method_3_code 35 = .ok (.iconst 1, 1) := by decide +kernel
theorem ad_Nh_putNumber_36 : decode prog_1_method_3_code 36 = .ok (.iadd, 1) := by decide +kernel
theorem ad_Nh_putNumber_37 : decode prog_1_method_3_code 37 = .ok (.putfield 13, 3) := by decide +kernel
theorem ad_Nh_putNumber_40 : decode prog_1_method_3_code 40 = .ok (.iinc 2 (-8), 3) := by decide +kernel
theorem ad_Nh_putNumber_43 : decode prog_1_method_3_code 43 = .ok (.goto (-40), 3) := by decide +kernel
theorem ad_Nh_putNumber_46 : decode prog_1_method_3_code 46 = .ok (.return_, 1) := by decide +kernel
theorem ad_Nh_end_0 : decode prog_1_method_4_code 0 = .ok (.iload_n 1, 1) := by decide +kernel
theorem ad_Nh_end_1 : decode prog_1_method_4_code 1 = .ok (.ifCond .lt 11, 3) := by decide +kernel
theorem ad_Nh_end_4 : decode prog_1_method_4_code 4 = .ok (.iload_n 1, 1) := by decide +kernel
theorem ad_Nh_end_5 : decode prog_1_method_4_code 5 = .ok (.aload_n 0, 1) := by decide +kernel
theorem ad_Nh_end_6 : decode prog_1_method_4_code 6 = .ok (.getfield 13, 3) := by decide +kernel
theorem ad_Nh_end_9 : decode prog_1_method_4_code 9 = .ok (.if_icmp .le 5, 3) := by decide +kernel
theorem ad_Nh_end_12 : decode prog_1_method_4_code 12 = .ok (.iconst 0, 1) := by decide +kernel
theorem ad_Nh_end_13 : decode prog_1_method_4_code 13 = .ok (.ireturn, 1) := by decide +kernel
theorem ad_Nh_end_14 : decode prog_1_method_4_code 14 = .ok (.aload_n 0, 1) := by decide +kernel
theorem ad_Nh_end_15 : decode prog_1_method_4_code 15 = .ok (.iload_n 1, 1) := by decide +kernel
theorem ad_Nh_end_16 : decode prog_1_method_4_code 16 = .ok (.putfield 13, 3) := by decide +kernel
theorem ad_Nh_end_19 : decode prog_1_method_4_code 19 = .ok (.iconst 1, 1) := by decide +kernel
theorem ad_Nh_end_20 : decode prog_1_method_4_code 20 = .ok (.ireturn, 1) := by decide +kernel
theorem ad_Nh_village_0 : decode prog_1_method_5_code 0 = .ok (.aload_n 0, 1) := by decide +kernel
theorem ad_Nh_village_1 : decode prog_1_method_5_code 1 = .ok (.getfield 34, 3) := by decide +kernel
theorem ad_Nh_village_4 : decode prog_1_method_5_code 4 = .ok (.aload_n 0, 1) := by decide +kernel
theorem ad_Nh_village_5 : decode prog_1_method_5_code 5 = .ok (.getfield 9, 3) := by decide +kernel
theorem ad_Nh_village_8 : decode prog_1_method_5_code 8 = .ok (.aload_n 0, 1) := by decide +kernel
theorem ad_Nh_village_9 : decode prog_1_method_5_code 9 = .ok (.invokevirtual 90, 3) := by decide +kernel
theorem ad_Nh_village_12 : decode prog_1_method_5_code 12 = .ok (.invokevirtual 94, 3) := by decide +kernel
theorem ad_Nh_village_15 : decode prog_1_method_5_code 15 = .ok (.istore_n 1, 1) := by decide +kernel
theorem ad_Nh_village_16 : decode prog_1_method_5_code 16 = .ok (.aload_n 0, 1) := by decide +kernel
theorem ad_Nh_village_17 : decode prog_1_method_5_code 17 = .ok (.aload_n 0, 1) := by decide +kernel
theorem ad_Nh_village_18 : decode prog_1_method_5_code 18 = .ok (.getfield 34, 3) := by decide +kernel
theorem ad_Nh_village_21 : decode prog_1_method_5_code 21 = .ok (.getfield 98, 3) := by decide +kernel
theorem ad_Nh_village_24 : decode prog_1_method_5_code 24 = .ok (.getfield 102, 3) := by decide +kernel
theorem ad_Nh_village_27 : decode prog_1_method_5_code 27 = .ok (.putfield 17, 3) := by decide +kernel
theorem ad_Nh_village_30 : decode prog_1_method_5_code 30 = .ok (.iload_n 1, 1) := by decide +kernel
theorem ad_Nh_village_31 : decode prog_1_method_5_code 31 = .ok (.ifCond .ne 16, 3) := by decide +kernel
theorem ad_Nh_village_34 : decode prog_1_method_5_code 34 = .ok (.iconst (-1), 1) := by decide +kernel
theorem ad_Nh_village_35 : decode prog_1_method_5_code 35 = .ok (.aload_n 0, 1) := by decide +kernel
theorem ad_Nh_village_36 : decode prog_1_method_5_code 36 = .ok (.getfield 34, 3) := by decide +kernel
theorem ad_Nh_village_39 : decode prog_1_method_5_code 39 = .ok (.getfield 98, 3) := by decide +kernel
theorem ad_Nh_village_42 : decode prog_1_method_5_code 42 = .ok (.getfield 107, 3) := by decide +kernel
theorem ad_Nh_village_45 : decode prog_1_method_5_code 45 = .ok (.isub, 1) := by decide +kernel
theorem ad_Nh_village_46 : decode prog_1_method_5_code 46 = .ok (.ireturn, 1) := by decide +kernel
theorem ad_Nh_village_47 : decode prog_1_method_5_code 47 = .ok (.aload_n 0, 1) := by decide +kernel
theorem ad_Nh_village_48 : decode prog_1_method_5_code 48 = .ok (.getfield 23, 3) := by decide +kernel
theorem ad_Nh_village_51 : decode prog_1_method_5_code 51 = .ok (.aload_n 0, 1) := by decide +kernel
theorem ad_Nh_village_52 : decode prog_1_method_5_code 52 = .ok (.getfield 34, 3) := by decide +kernel
theorem ad_Nh_village_55 : decode prog_1_method_5_code 55 = .ok (.getfield 110, 3) := by decide +kernel
theorem ad_Nh_village_58 : decode prog_1_method_5_code 58 = .ok (.invokevirtual 114, 3) := by decide +kernel
theorem ad_Nh_village_61 : decode prog_1_method_5_code 61 = .ok (.aload_n 0, 1) := by decide +kernel
theorem ad_Nh_village_62 : decode prog_1_method_5_code 62 = .ok (.getfield 23, 3) := by decide +kernel
theorem ad_Nh_village_65 : decode prog_1_method_5_code 65 = .ok (.getfield 118, 3) := by decide +kernel
theorem ad_Nh_village_68 : decode prog_1_method_5_code 68 = .ok (.getfield 121, 3) := by decide +kernel
theorem ad_Nh_village_71 : decode prog_1_method_5_code 71 = .ok (.ireturn, 1) := by decide +kernel
theorem ad_Nh_book_0 : decode prog_1_method_6_code 0 = .ok (.aload_n 0, 1) := by decide +kernel
theorem ad_Nh_book_1 : decode prog_1_method_6_code 1 = .ok (.getfield 41, 3) := by decide +kernel
theorem ad_Nh_book_4 : decode prog_1_method_6_code 4 = .ok (.aload_n 0, 1) := by decide +kernel
theorem ad_Nh_book_5 : decode prog_1_method_6_code 5 = .ok (.getfield 9, 3) := by decide +kernel
theorem ad_Nh_book_8 : decode prog_1_method_6_code 8 = .ok (.aload_n 0, 1) := by decide +kernel
theorem ad_Nh_book_9 : decode prog_1_method_6_code 9 = .ok (.invokevirtual 90, 3) := by decide +kernel
theorem ad_Nh_book_12 : decode prog_1_method_6_code 12 = .ok (.aload_n 0, 1) := by decide +kernel
theorem ad_Nh_book_13 : decode prog_1_method_6_code 13 = .ok (.getfield 23, 3) := by decide +kernel
theorem ad_Nh_book_16 : decode prog_1_method_6_code 16 = .ok (.getfield 118, 3) := by decide +kernel
theorem ad_Nh_book_19 : decode prog_1_method_6_code 19 = .ok (.invokevirtual 126, 3) := by decide +kernel
theorem ad_Nh_book_22 : decode prog_1_method_6_code 22 = .ok (.istore_n 1, 1) := by decide +kernel
theorem ad_Nh_book_23 : decode prog_1_method_6_code 23 = .ok (.aload_n 0, 1) := by decide +kernel
theorem ad_Nh_book_24 : decode prog_1_method_6_code 24 = .ok (.aload_n 0, 1) := by decide +kernel
theorem ad_Nh_book_25 : decode prog_1_method_6_code 25 = .ok (.getfield 41, 3) := by decide +kernel
theorem ad_Nh_book_28 : decode prog_1_method_6_code 28 = .ok (.getfield 129, 3) := by decide +kernel
theorem ad_Nh_book_31 : decode prog_1_method_6_code 31 = .ok (.getfield 102, 3) := by decide +kernel
theorem ad_Nh_book_34 : decode prog_1_method_6_code 34 = .ok (.putfield 17, 3) := by decide +kernel
theorem ad_Nh_book_37 : decode prog_1_method_6_code 37 = .ok (.iload_n 1, 1) := by decide +kernel
theorem ad_Nh_book_38 : decode prog_1_method_6_code 38 = .ok (.ifCond .ne 16, 3) := by decide +kernel
theorem ad_Nh_book_41 : decode prog_1_method_6_code 41 = .ok (.iconst (-1), 1) := by decide +kernel
theorem ad_Nh_book_42 : decode prog_1_method_6_code 42 = .ok (.aload_n 0, 1) := by decide +kernel
theorem ad_Nh_book_43 : decode prog_1_method_6_code 43 = .ok (.getfield 41, 3) := by decide +kernel
theorem ad_Nh_book_46 : decode prog_1_method_6_code 46 = .ok (.getfield 129, 3) := by decide +kernel
theorem ad_Nh_book_49 : decode prog_1_method_6_code 49 = .ok (.getfield 107, 3) := by decide +kernel
theorem ad_Nh_book_52 : decode prog_1_method_6_code 52 = .ok (.isub, 1) := by decide +kernel
theorem ad_Nh_book_53 : decode prog_1_method_6_code 53 = .ok (.ireturn, 1) := by decide +kernel
theorem ad_Nh_book_54 : decode prog_1_method_6_code 54 = .ok (.aload_n 0, 1) := by decide +kernel
theorem ad_Nh_book_55 : decode prog_1_method_6_code 55 = .ok (.getfield 23, 3) := by decide +kernel
theorem ad_Nh_book_58 : decode prog_1_method_6_code 58 = .ok (.getfield 130, 3) := by decide +kernel
theorem ad_Nh_book_61 : decode prog_1_method_6_code 61 = .ok (.aload_n 0, 1) := by decide +kernel
theorem ad_Nh_book_62 : decode prog_1_method_6_code 62 = .ok (.getfield 41, 3) := by decide +kernel
theorem ad_Nh_book_65 : decode prog_1_method_6_code 65 = .ok (.getfield 134, 3) := by decide +kernel
theorem ad_Nh_book_68 : decode prog_1_method_6_code 68 = .ok (.invokevirtual 136, 3) := by decide +kernel
theorem ad_Nh_book_71 : decode prog_1_method_6_code 71 = .ok (.aload_n 0, 1) := by decide +kernel
theorem ad_Nh_book_72 : decode prog_1_method_6_code 72 = .ok (.getfield 23, 3) := by decide +kernel
theorem ad_Nh_book_75 : decode prog_1_method_6_code 75 = .ok (.getfield 130, 3) := by decide +kernel
theorem ad_Nh_book_78 : decode prog_1_method_6_code 78 = .ok (.getfield 142, 3) := by decide +kernel
theorem ad_Nh_book_81 : decode prog_1_method_6_code 81 = .ok (.ireturn, 1) := by decide +kernel
theorem ad_Nh_sentence_0 : decode prog_1_method_7_code 0 = .ok (.aload_n 0, 1) := by decide +kernel
theorem ad_Nh_sentence_1 : decode prog_1_method_7_code 1 = .ok (.invokevirtual 90, 3) := by decide +kernel
theorem ad_Nh_sentence_4 : decode prog_1_method_7_code 4 = .ok (.istore_n 1, 1) := by decide +kernel
theorem ad_Nh_sentence_5 : decode prog_1_method_7_code 5 = .ok (.aload_n 0, 1) := by decide +kernel
theorem ad_Nh_sentence_6 : decode prog_1_method_7_code 6 = .ok (.getfield 48, 3) := by decide +kernel
theorem ad_Nh_sentence_9 : decode prog_1_method_7_code 9 = .ok (.aload_n 0, 1) := by decide +kernel
theorem ad_Nh_sentence_10 : decode prog_1_method_7_code 10 = .ok (.getfield 9, 3) := by decide +kernel
theorem ad_Nh_sentence_13 : decode prog_1_method_7_code 13 = .ok (.iload_n 1, 1) := by decide +kernel
theorem ad_Nh_sentence_14 : decode prog_1_method_7_code 14 = .ok (.aload_n 0, 1) := by decide +kernel
theorem ad_Nh_sentence_15 : decode prog_1_method_7_code 15 = .ok (.getfield 23, 3) := by decide +kernel
theorem ad_Nh_sentence_18 : decode prog_1_method_7_code 18 = .ok (.getfield 118, 3) := by decide +kernel
theorem ad_Nh_sentence_21 : decode prog_1_method_7_code 21 = .ok (.aload_n 0, 1) := by decide +kernel
theorem ad_Nh_sentence_22 : decode prog_1_method_7_code 22 = .ok (.getfield 23, 3) := by decide +kernel
theorem ad_Nh_sentence_25 : decode prog_1_method_7_code 25 = .ok (.getfield 130, 3) := by decide +kernel
theorem ad_Nh_sentence_28 : decode prog_1_method_7_code 28 = .ok (.invokevirtual 143, 3) := by decide +kernel
theorem ad_Nh_sentence_31 : decode prog_1_method_7_code 31 = .ok (.istore_n 2, 1) := by decide +kernel
theorem ad_Nh_sentence_32 : decode prog_1_method_7_code 32 = .ok (.aload_n 0, 1) := by decide +kernel
theorem ad_Nh_sentence_33 : decode prog_1_method_7_code 33 = .ok (.aload_n 0, 1) := by decide +kernel
theorem ad_Nh_sentence_34 : decode prog_1_method_7_code 34 = .ok (.getfield 48, 3) := by decide +kernel
theorem ad_Nh_sentence_37 : decode prog_1_method_7_code 37 = .ok (.getfield 146, 3) := by decide +kernel
theorem ad_Nh_sentence_40 : decode prog_1_method_7_code 40 = .ok (.getfield 102, 3) := by decide +kernel
theorem ad_Nh_sentence_43 : decode prog_1_method_7_code 43 = .ok (.putfield 17, 3) := by decide +kernel
theorem ad_Nh_sentence_46 : decode prog_1_method_7_code 46 = .ok (.iload_n 2, 1) := by decide +kernel
theorem ad_Nh_sentence_47 : decode prog_1_method_7_code 47 = .ok (.ifCond .ne 16, 3) := by decide +kernel
theorem ad_Nh_sentence_50 : decode prog_1_method_7_code 50 = .ok (.iconst (-1), 1) := by decide +kernel
theorem ad_Nh_sentence_51 : decode prog_1_method_7_code 51 = .ok (.aload_n 0, 1) := by decide +kernel
theorem ad_Nh_sentence_52 : decode prog_1_method_7_code 52 = .ok (.getfield 48, 3) := by decide +kernel
theorem ad_Nh_sentence_55 : decode prog_1_method_7_code 55 = .ok (.getfield 146, 3) := by decide +kernel
theorem ad_Nh_sentence_58 : decode prog_1_method_7_code 58 = .ok (.getfield 107, 3) := by decide +kernel
theorem ad_Nh_sentence_61 : decode prog_1_method_7_code 61 = .ok (.isub, 1) := by decide +kernel
theorem ad_Nh_sentence_62 : decode prog_1_method_7_code 62 = .ok (.ireturn, 1) := by decide +kernel
theorem ad_Nh_sentence_63 : decode prog_1_method_7_code 63 = .ok (.aload_n 0, 1) := by decide +kernel
theorem ad_Nh_sentence_64 : decode prog_1_method_7_code 64 = .ok (.getfield 23, 3) := by decide +kernel
theorem ad_Nh_sentence_67 : decode prog_1_method_7_code 67 = .ok (.aload_n 0, 1) := by decide +kernel
theorem ad_Nh_sentence_68 : decode prog_1_method_7_code 68 = .ok (.getfield 9, 3) := by decide +kernel
theorem ad_Nh_sentence_71 : decode prog_1_method_7_code 71 = .ok (.iload_n 1, 1) := by decide +kernel
theorem ad_Nh_sentence_72 : decode prog_1_method_7_code 72 = .ok (.invokevirtual 147, 3) := by decide +kernel
theorem ad_Nh_sentence_75 : decode prog_1_method_7_code 75 = .ok (.aload_n 0, 1) := by decide +kernel
theorem ad_Nh_sentence_76 : decode prog_1_method_7_code 76 = .ok (.getfield 48, 3) := by decide +kernel
theorem ad_Nh_sentence_79 : decode prog_1_method_7_code 79 = .ok (.getfield 151, 3) := by decide +kernel
theorem ad_Nh_sentence_82 : decode prog_1_method_7_code 82 = .ok (.ireturn, 1) := by decide +kernel
theorem ad_Nh_takeTape_0 : decode prog_1_method_8_code 0 = .ok (.aload_n 0, 1) := by decide +kernel
theorem ad_Nh_takeTape_1 : decode prog_1_method_8_code 1 = .ok (.getfield 13, 3) := by decide +kernel
theorem ad_Nh_takeTape_4 : decode prog_1_method_8_code 4 = .ok (.istore_n 1, 1) := by decide +kernel
theorem ad_Nh_takeTape_5 : decode prog_1_method_8_code 5 = .ok (.aload_n 0, 1) := by decide +kernel
theorem ad_Nh_takeTape_6 : decode prog_1_method_8_code 6 = .ok (.iconst 0, 1) := by decide +kernel
theorem ad_Nh_takeTape_7 : decode prog_1_method_8_code 7 = .ok (.putfield 13, 3) := by decide +kernel
theorem ad_Nh_takeTape_10 : decode prog_1_method_8_code 10 = .ok (.iload_n 1, 1) := by decide +kernel
theorem ad_Nh_takeTape_11 : decode prog_1_method_8_code 11 = .ok (.ireturn, 1) := by decide +kernel
theorem ad_Nh_fault_0 : decode prog_1_method_9_code 0 = .ok (.aload_n 0, 1) := by decide +kernel
theorem ad_Nh_fault_1 : decode prog_1_method_9_code 1 = .ok (.getfield 17, 3) := by decide +kernel
theorem ad_Nh_fault_4 : decode prog_1_method_9_code 4 = .ok (.ireturn, 1) := by decide +kernel
theorem ad_Nh_help_0 : decode prog_1_method_10_code 0 = .ok (.aload_n 0, 1) := by decide +kernel
theorem ad_Nh_help_1 : decode prog_1_method_10_code 1 = .ok (.getfield 23, 3) := by decide +kernel
theorem ad_Nh_help_4 : decode prog_1_method_10_code 4 = .ok (.getfield 118, 3) := by decide +kernel
theorem ad_Nh_help_7 : decode prog_1_method_10_code 7 = .ok (.astore_n 3, 1) := by decide +kernel
theorem ad_Nh_help_8 : decode prog_1_method_10_code 8 = .ok (.aload_n 3, 1) := by decide +kernel
theorem ad_Nh_help_9 : decode prog_1_method_10_code 9 = .ok (.iload_n 1, 1) := by decide +kernel
theorem ad_Nh_help_10 : decode prog_1_method_10_code 10 = .ok (.invokevirtual 154, 3) := by decide +kernel
theorem ad_Nh_help_13 : decode prog_1_method_10_code 13 = .ok (.ifCond .eq 12, 3) := by decide +kernel
theorem ad_Nh_help_16 : decode prog_1_method_10_code 16 = .ok (.iload_n 2, 1) := by decide +kernel
theorem ad_Nh_help_17 : decode prog_1_method_10_code 17 = .ok (.ifCond .lt 8, 3) := by decide +kernel
theorem ad_Nh_help_20 : decode prog_1_method_10_code 20 = .ok (.iload_n 2, 1) := by decide +kernel
theorem ad_Nh_help_21 : decode prog_1_method_10_code 21 = .ok (.iconst 1, 1) := by decide +kernel
theorem ad_Nh_help_22 : decode prog_1_method_10_code 22 = .ok (.if_icmp .le 11, 3) := by decide +kernel
theorem ad_Nh_help_25 : decode prog_1_method_10_code 25 = .ok (.new 158, 3) := by decide +kernel
theorem ad_Nh_help_28 : decode prog_1_method_10_code 28 = .ok (.dup, 1) := by decide +kernel
theorem ad_Nh_help_29 : decode prog_1_method_10_code 29 = .ok (.invokespecial 160, 3) := by decide +kernel
theorem ad_Nh_help_32 : decode prog_1_method_10_code 32 = .ok (.athrow, 1) := by decide +kernel
theorem ad_Nh_help_33 : decode prog_1_method_10_code 33 = .ok (.iload_n 2, 1) := by decide +kernel
theorem ad_Nh_help_34 : decode prog_1_method_10_code 34 = .ok (.ifCond .ne 12, 3) := by decide +kernel
theorem ad_Nh_help_37 : decode prog_1_method_10_code 37 = .ok (.aload_n 3, 1) := by decide +kernel
theorem ad_Nh_help_38 : decode prog_1_method_10_code 38 = .ok (.getfield 161, 3) := by decide +kernel
theorem ad_Nh_help_41 : decode prog_1_method_10_code 41 = .ok (.iload_n 1, 1) := by decide +kernel
theorem ad_Nh_help_42 : decode prog_1_method_10_code 42 = .ok (.iaload, 1) := by decide +kernel
theorem ad_Nh_help_43 : decode prog_1_method_10_code 43 = .ok (.goto 9, 3) := by decide +kernel
theorem ad_Nh_help_46 : decode prog_1_method_10_code 46 = .ok (.aload_n 3, 1) := by decide +kernel
theorem ad_Nh_help_47 : decode prog_1_method_10_code 47 = .ok (.getfield 164, 3) := by decide +kernel
theorem ad_Nh_help_50 : decode prog_1_method_10_code 50 = .ok (.iload_n 1, 1) := by decide +kernel
theorem ad_Nh_help_51 : decode prog_1_method_10_code 51 = .ok (.iaload, 1) := by decide +kernel
theorem ad_Nh_help_52 : decode prog_1_method_10_code 52 = .ok (.ireturn, 1) := by decide +kernel
theorem ad_Nh_person_0 : decode prog_1_method_11_code 0 = .ok (.aload_n 0, 1) := by decide +kernel
theorem ad_Nh_person_1 : decode prog_1_method_11_code 1 = .ok (.getfield 23, 3) := by decide +kernel
theorem ad_Nh_person_4 : decode prog_1_method_11_code 4 = .ok (.getfield 118, 3) := by decide +kernel
theorem ad_Nh_person_7 : decode prog_1_method_11_code 7 = .ok (.astore_n 3, 1) := by decide +kernel
theorem ad_Nh_person_8 : decode prog_1_method_11_code 8 = .ok (.aload_n 3, 1) := by decide +kernel
theorem ad_Nh_person_9 : decode prog_1_method_11_code 9 = .ok (.iload_n 1, 1) := by decide +kernel
theorem ad_Nh_person_10 : decode prog_1_method_11_code 10 = .ok (.invokevirtual 167, 3) := by decide +kernel
theorem ad_Nh_person_13 : decode prog_1_method_11_code 13 = .ok (.ifCond .eq 12, 3) := by decide +kernel
theorem ad_Nh_person_16 : decode prog_1_method_11_code 16 = .ok (.iload_n 2, 1) := by decide +kernel
theorem ad_Nh_person_17 : decode prog_1_method_11_code 17 = .ok (.ifCond .lt 8, 3) := by decide +kernel
theorem ad_Nh_person_20 : decode prog_1_method_11_code 20 = .ok (.iload_n 2, 1) := by decide +kernel
theorem ad_Nh_person_21 : decode prog_1_method_11_code 21 = .ok (.iconst 4, 1) := by decide +kernel
theorem ad_Nh_person_22 : decode prog_1_method_11_code 22 = .ok (.if_icmp .le 11, 3) := by decide +kernel
theorem ad_Nh_person_25 : decode prog_1_method_11_code 25 = .ok (.new 158, 3) := by decide +kernel
theorem ad_Nh_person_28 : decode prog_1_method_11_code 28 = .ok (.dup, 1) := by decide +kernel
theorem ad_Nh_person_29 : decode prog_1_method_11_code 29 = .ok (.invokespecial 160, 3) := by decide +kernel
theorem ad_Nh_person_32 : decode prog_1_method_11_code 32 = .ok (.athrow, 1) := by decide +kernel
theorem ad_Nh_person_33 : decode prog_1_method_11_code 33 = .ok (.iload_n 2, 1) := by decide +kernel
theorem ad_Nh_person_34 : decode prog_1_method_11_code 34 = .ok (.tableswitch 59 0 3 #[30, 37, 43, 49], 30) := by decide +kernel
theorem ad_Nh_person_64 : decode prog_1_method_11_code 64 = .ok (.aload_n 3, 1) := by decide +kernel
theorem ad_Nh_person_65 : decode prog_1_method_11_code 65 = .ok (.getfield 170, 3) := by decide +kernel
theorem ad_Nh_person_68 : decode prog_1_method_11_code 68 = .ok (.iload_n 1, 1) := by decide +kernel
theorem ad_Nh_person_69 : decode prog_1_method_11_code 69 = .ok (.iaload, 1) := by decide +kernel
theorem ad_Nh_person_70 : decode prog_1_method_11_code 70 = .ok (.ireturn, 1) := by decide +kernel
theorem ad_Nh_person_71 : decode prog_1_method_11_code 71 = .ok (.aload_n 3, 1) := by decide +kernel
theorem ad_Nh_person_72 : decode prog_1_method_11_code 72 = .ok (.iload_n 1, 1) := by decide +kernel
theorem ad_Nh_person_73 : decode prog_1_method_11_code 73 = .ok (.invokevirtual 173, 3) := by decide +kernel
theorem ad_Nh_person_76 : decode prog_1_method_11_code 76 = .ok (.ireturn, 1) := by decide +kernel
theorem ad_Nh_person_77 : decode prog_1_method_11_code 77 = .ok (.aload_n 3, 1) := by decide +kernel
theorem ad_Nh_person_78 : decode prog_1_method_11_code 78 = .ok (.iload_n 1, 1) := by decide +kernel
theorem ad_Nh_person_79 : decode prog_1_method_11_code 79 = .ok (.invokevirtual 177, 3) := by decide +kernel
theorem ad_Nh_person_82 : decode prog_1_method_11_code 82 = .ok (.ireturn, 1) := by decide +kernel
theorem ad_Nh_person_83 : decode prog_1_method_11_code 83 = .ok (.aload_n 0, 1) := by decide +kernel
theorem ad_Nh_person_84 : decode prog_1_method_11_code 84 = .ok (.getfield 23, 3) := by decide +kernel
theorem ad_Nh_person_87 : decode prog_1_method_11_code 87 = .ok (.getfield 180, 3) := by decide +kernel
theorem ad_Nh_person_90 : decode prog_1_method_11_code 90 = .ok (.iload_n 1, 1) := by decide +kernel
theorem ad_Nh_person_91 : decode prog_1_method_11_code 91 = .ok (.iaload, 1) := by decide +kernel
theorem ad_Nh_person_92 : decode prog_1_method_11_code 92 = .ok (.ireturn, 1) := by decide +kernel
theorem ad_Nh_person_93 : decode prog_1_method_11_code 93 = .ok (.aload_n 0, 1) := by decide +kernel
theorem ad_Nh_person_94 : decode prog_1_method_11_code 94 = .ok (.getfield 23, 3) := by decide +kernel
theorem ad_Nh_person_97 : decode prog_1_method_11_code 97 = .ok (.getfield 183, 3) := by decide +kernel
theorem ad_Nh_person_100 : decode prog_1_method_11_code 100 = .ok (.iload_n 1, 1) := by decide +kernel
theorem ad_Nh_person_101 : decode prog_1_method_11_code 101 = .ok (.iaload, 1) := by decide +kernel
theorem ad_Nh_person_102 : decode prog_1_method_11_code 102 = .ok (.ireturn, 1) := by decide +kernel
theorem ad_Nh_need_0 : decode prog_1_method_12_code 0 = .ok (.aload_n 0, 1) := by decide +kernel
theorem ad_Nh_need_1 : decode prog_1_method_12_code 1 = .ok (.getfield 23, 3) := by decide +kernel
theorem ad_Nh_need_4 : decode prog_1_method_12_code 4 = .ok (.getfield 118, 3) := by decide +kernel
theorem ad_Nh_need_7 : decode prog_1_method_12_code 7 = .ok (.astore_n 3, 1) := by decide +kernel
theorem ad_Nh_need_8 : decode prog_1_method_12_code 8 = .ok (.aload_n 3, 1) := by decide +kernel
theorem ad_Nh_need_9 : decode prog_1_method_12_code 9 = .ok (.iload_n 1, 1) := by decide +kernel
theorem ad_Nh_need_10 : decode prog_1_method_12_code 10 = .ok (.invokevirtual 186, 3) := by decide +kernel
theorem ad_Nh_need_13 : decode prog_1_method_12_code 13 = .ok (.ifCond .eq 12, 3) := by decide +kernel
theorem ad_Nh_need_16 : decode prog_1_method_12_code 16 = .ok (.iload_n 2, 1) := by decide +kernel
theorem ad_Nh_need_17 : decode prog_1_method_12_code 17 = .ok (.ifCond .lt 8, 3) := by decide +kernel
theorem ad_Nh_need_20 : decode prog_1_method_12_code 20 = .ok (.iload_n 2, 1) := by decide +kernel
theorem ad_Nh_need_21 : decode prog_1_method_12_code 21 = .ok (.iconst 1, 1) := by decide +kernel
theorem ad_Nh_need_22 : decode prog_1_method_12_code 22 = .ok (.if_icmp .le 5, 3) := by decide +kernel
theorem ad_Nh_need_25 : decode prog_1_method_12_code 25 = .ok (.iconst (-1), 1) := by decide +kernel
theorem ad_Nh_need_26 : decode prog_1_method_12_code 26 = .ok (.ireturn, 1) := by decide +kernel
theorem ad_Nh_need_27 : decode prog_1_method_12_code 27 = .ok (.iload_n 2, 1) := by decide +kernel
theorem ad_Nh_need_28 : decode prog_1_method_12_code 28 = .ok (.ifCond .ne 12, 3) := by decide +kernel
theorem ad_Nh_need_31 : decode prog_1_method_12_code 31 = .ok (.aload_n 3, 1) := by decide +kernel
theorem ad_Nh_need_32 : decode prog_1_method_12_code 32 = .ok (.getfield 189, 3) := by decide +kernel
theorem ad_Nh_need_35 : decode prog_1_method_12_code 35 = .ok (.iload_n 1, 1) := by decide +kernel
theorem ad_Nh_need_36 : decode prog_1_method_12_code 36 = .ok (.iaload, 1) := by decide +kernel
theorem ad_Nh_need_37 : decode prog_1_method_12_code 37 = .ok (.goto 9, 3) := by decide +kernel
theorem ad_Nh_need_40 : decode prog_1_method_12_code 40 = .ok (.aload_n 3, 1) := by decide +kernel
theorem ad_Nh_need_41 : decode prog_1_method_12_code 41 = .ok (.getfield 192, 3) := by decide +kernel
theorem ad_Nh_need_44 : decode prog_1_method_12_code 44 = .ok (.iload_n 1, 1) := by decide +kernel
theorem ad_Nh_need_45 : decode prog_1_method_12_code 45 = .ok (.iaload, 1) := by decide +kernel
theorem ad_Nh_need_46 : decode prog_1_method_12_code 46 = .ok (.ireturn, 1) := by decide +kernel
theorem ad_Nh_tie_0 : decode prog_1_method_13_code 0 = .ok (.aload_n 0, 1) := by decide +kernel
theorem ad_Nh_tie_1 : decode prog_1_method_13_code 1 = .ok (.getfield 23, 3) := by decide +kernel
theorem ad_Nh_tie_4 : decode prog_1_method_13_code 4 = .ok (.getfield 118, 3) := by decide +kernel
theorem ad_Nh_tie_7 : decode prog_1_method_13_code 7 = .ok (.astore 4, 2) := by decide +kernel
theorem ad_Nh_tie_9 : decode prog_1_method_13_code 9 = .ok (.aload 4, 2) := by decide +kernel
theorem ad_Nh_tie_11 : decode prog_1_method_13_code 11 = .ok (.iload_n 1, 1) := by decide +kernel
theorem ad_Nh_tie_12 : decode prog_1_method_13_code 12 = .ok (.invokevirtual 167, 3) := by decide +kernel
theorem ad_Nh_tie_15 : decode prog_1_method_13_code 15 = .ok (.ifCond .eq 21, 3) := by decide +kernel
theorem ad_Nh_tie_18 : decode prog_1_method_13_code 18 = .ok (.aload 4, 2) := by decide +kernel
theorem ad_Nh_tie_20 : decode prog_1_method_13_code 20 = .ok (.iload_n 2, 1) := by decide +kernel
theorem ad_Nh_tie_21 : decode prog_1_method_13_code 21 = .ok (.invokevirtual 167, 3) := by decide +kernel
theorem ad_Nh_tie_24 : decode prog_1_method_13_code 24 = .ok (.ifCond .eq 12, 3) := by decide +kernel
theorem ad_Nh_tie_27 : decode prog_1_method_13_code 27 = .ok (.iload_n 3, 1) := by decide +kernel
theorem ad_Nh_tie_28 : decode prog_1_method_13_code 28 = .ok (.ifCond .lt 8, 3) := by decide +kernel
theorem ad_Nh_tie_31 : decode prog_1_method_13_code 31 = .ok (.iload_n 3, 1) := by decide +kernel
theorem ad_Nh_tie_32 : decode prog_1_method_13_code 32 = .ok (.iconst 1, 1) := by decide +kernel
theorem ad_Nh_tie_33 : decode prog_1_method_13_code 33 = .ok (.if_icmp .le 5, 3) := by decide +kernel
theorem ad_Nh_tie_36 : decode prog_1_method_13_code 36 = .ok (.iconst (-1), 1) := by decide +kernel
theorem ad_Nh_tie_37 : decode prog_1_method_13_code 37 = .ok (.ireturn, 1) := by decide +kernel
theorem ad_Nh_tie_38 : decode prog_1_method_13_code 38 = .ok (.iload_n 3, 1) := by decide +kernel
theorem ad_Nh_tie_39 : decode prog_1_method_13_code 39 = .ok (.ifCond .ne 13, 3) := by decide +kernel
theorem ad_Nh_tie_42 : decode prog_1_method_13_code 42 = .ok (.aload 4, 2) := by decide +kernel
theorem ad_Nh_tie_44 : decode prog_1_method_13_code 44 = .ok (.iload_n 1, 1) := by decide +kernel
theorem ad_Nh_tie_45 : decode prog_1_method_13_code 45 = .ok (.iload_n 2, 1) := by decide +kernel
theorem ad_Nh_tie_46 : decode prog_1_method_13_code 46 = .ok (.invokevirtual 195, 3) := by decide +kernel
theorem ad_Nh_tie_49 : decode prog_1_method_13_code 49 = .ok (.goto 10, 3) := by decide +kernel
theorem ad_Nh_tie_52 : decode prog_1_method_13_code 52 = .ok (.aload 4, 2) := by decide +kernel
theorem ad_Nh_tie_54 : decode prog_1_method_13_code 54 = .ok (.iload_n 1, 1) := by decide +kernel
theorem ad_Nh_tie_55 : decode prog_1_method_13_code 55 = .ok (.iload_n 2, 1) := by decide +kernel
theorem ad_Nh_tie_56 : decode prog_1_method_13_code 56 = .ok (.invokevirtual 199, 3) := by decide +kernel
theorem ad_Nh_tie_59 : decode prog_1_method_13_code 59 = .ok (.ireturn, 1) := by decide +kernel
theorem ad_Nh_found_0 : decode prog_1_method_14_code 0 = .ok (.aload_n 0, 1) := by decide +kernel
theorem ad_Nh_found_1 : decode prog_1_method_14_code 1 = .ok (.getfield 23, 3) := by decide +kernel
theorem ad_Nh_found_4 : decode prog_1_method_14_code 4 = .ok (.getfield 118, 3) := by decide +kernel
theorem ad_Nh_found_7 : decode prog_1_method_14_code 7 = .ok (.iload_n 1, 1) := by decide +kernel
theorem ad_Nh_found_8 : decode prog_1_method_14_code 8 = .ok (.invokevirtual 167, 3) := by decide +kernel
theorem ad_Nh_found_11 : decode prog_1_method_14_code 11 = .ok (.ifCond .eq 17, 3) := by decide +kernel
theorem ad_Nh_found_14 : decode prog_1_method_14_code 14 = .ok (.aload_n 0, 1) := by decide +kernel
theorem ad_Nh_found_15 : decode prog_1_method_14_code 15 = .ok (.getfield 23, 3) := by decide +kernel
theorem ad_Nh_found_18 : decode prog_1_method_14_code 18 = .ok (.getfield 118, 3) := by decide +kernel
theorem ad_Nh_found_21 : decode prog_1_method_14_code 21 = .ok (.iload_n 1, 1) := by decide +kernel
theorem ad_Nh_found_22 : decode prog_1_method_14_code 22 = .ok (.invokevirtual 202, 3) := by decide +kernel
theorem ad_Nh_found_25 : decode prog_1_method_14_code 25 = .ok (.goto 4, 3) := by decide +kernel
theorem ad_Nh_found_28 : decode prog_1_method_14_code 28 = .ok (.iconst (-1), 1) := by decide +kernel
theorem ad_Nh_found_29 : decode prog_1_method_14_code 29 = .ok (.ireturn, 1) := by decide +kernel
theorem ad_Nh_pair_0 : decode prog_1_method_15_code 0 = .ok (.aload_n 0, 1) := by decide +kernel
theorem ad_Nh_pair_1 : decode prog_1_method_15_code 1 = .ok (.getfield 23, 3) := by decide +kernel
theorem ad_Nh_pair_4 : decode prog_1_method_15_code 4 = .ok (.getfield 118, 3) := by decide +kernel
theorem ad_Nh_pair_7 : decode prog_1_method_15_code 7 = .ok (.astore_n 3, 1) := by decide +kernel
theorem ad_Nh_pair_8 : decode prog_1_method_15_code 8 = .ok (.aload_n 3, 1) := by decide +kernel
theorem ad_Nh_pair_9 : decode prog_1_method_15_code 9 = .ok (.iload_n 1, 1) := by decide +kernel
theorem ad_Nh_pair_10 : decode prog_1_method_15_code 10 = .ok (.invokevirtual 167, 3) := by decide +kernel
theorem ad_Nh_pair_13 : decode prog_1_method_15_code 13 = .ok (.ifCond .eq 16, 3) := by decide +kernel
theorem ad_Nh_pair_16 : decode prog_1_method_15_code 16 = .ok (.aload_n 3, 1) := by decide +kernel
theorem ad_Nh_pair_17 : decode prog_1_method_15_code 17 = .ok (.iload_n 2, 1) := by decide +kernel
theorem ad_Nh_pair_18 : decode prog_1_method_15_code 18 = .ok (.invokevirtual 167, 3) := by decide +kernel
theorem ad_Nh_pair_21 : decode prog_1_method_15_code 21 = .ok (.ifCond .eq 8, 3) := by decide +kernel
theorem ad_Nh_pair_24 : decode prog_1_method_15_code 24 = .ok (.iload_n 1, 1) := by decide +kernel
theorem ad_Nh_pair_25 : decode prog_1_method_15_code 25 = .ok (.iload_n 2, 1) := by decide +kernel
theorem ad_Nh_pair_26 : decode prog_1_method_15_code 26 = .ok (.if_icmp .ne 5, 3) := by decide +kernel
theorem ad_Nh_pair_29 : decode prog_1_method_15_code 29 = .ok (.iconst (-1), 1) := by decide +kernel
theorem ad_Nh_pair_30 : decode prog_1_method_15_code 30 = .ok (.ireturn, 1) := by decide +kernel
theorem ad_Nh_pair_31 : decode prog_1_method_15_code 31 = .ok (.aload_n 3, 1) := by decide +kernel
theorem ad_Nh_pair_32 : decode prog_1_method_15_code 32 = .ok (.iload_n 1, 1) := by decide +kernel
theorem ad_Nh_pair_33 : decode prog_1_method_15_code 33 = .ok (.invokevirtual 202, 3) := by decide +kernel
theorem ad_Nh_pair_36 : decode prog_1_method_15_code 36 = .ok (.i2l, 1) := by decide +kernel
theorem ad_Nh_pair_37 : decode prog_1_method_15_code 37 = .ok (.aload_n 3, 1) := by decide +kernel
theorem ad_Nh_pair_38 : decode prog_1_method_15_code 38 = .ok (.iload_n 2, 1) := by decide +kernel
theorem ad_Nh_pair_39 : decode prog_1_method_15_code 39 = .ok (.invokevirtual 202, 3) := by decide +kernel
theorem ad_Nh_pair_42 : decode prog_1_method_15_code 42 = .ok (.i2l, 1) := by decide +kernel
theorem ad_Nh_pair_43 : decode prog_1_method_15_code 43 = .ok (.lmul, 1) := by decide +kernel
theorem ad_Nh_pair_44 : decode prog_1_method_15_code 44 = .ok (.ldc2_w 205, 3) := by decide +kernel
theorem ad_Nh_pair_47 : decode prog_1_method_15_code 47 = .ok (.ldiv, 1) := by decide +kernel
theorem ad_Nh_pair_48 : decode prog_1_method_15_code 48 = .ok (.l2i, 1) := by decide +kernel
theorem ad_Nh_pair_49 : decode prog_1_method_15_code 49 = .ok (.ireturn, 1) := by decide +kernel
theorem ad_Nh_count_0 : decode prog_1_method_16_code 0 = .ok (.iload_n 1, 1) := by decide +kernel
theorem ad_Nh_count_1 : decode prog_1_method_16_code 1 = .ok (.tableswitch 129 0 7 #[47, 58, 69, 80, 91, 102, 113, 124], 47) := by decide +kernel
theorem ad_Nh_count_48 : decode prog_1_method_16_code 48 = .ok (.aload_n 0, 1) := by decide +kernel
theorem ad_Nh_count_49 : decode prog_1_method_16_code 49 = .ok (.getfield 23, 3) := by decide +kernel
theorem ad_Nh_count_52 : decode prog_1_method_16_code 52 = .ok (.getfield 118, 3) := by decide +kernel
theorem ad_Nh_count_55 : decode prog_1_method_16_code 55 = .ok (.getfield 207, 3) := by decide +kernel
theorem ad_Nh_count_58 : decode prog_1_method_16_code 58 = .ok (.ireturn, 1) := by decide +kernel
theorem ad_Nh_count_59 : decode prog_1_method_16_code 59 = .ok (.aload_n 0, 1) := by decide +kernel
theorem ad_Nh_count_60 : decode prog_1_method_16_code 60 = .ok (.getfield 23, 3) := by decide +kernel
theorem ad_Nh_count_63 : decode prog_1_method_16_code 63 = .ok (.getfield 118, 3) := by decide +kernel
theorem ad_Nh_count_66 : decode prog_1_method_16_code 66 = .ok (.getfield 210, 3) := by decide +kernel
theorem ad_Nh_count_69 : decode prog_1_method_16_code 69 = .ok (.ireturn, 1) := by decide +kernel
theorem ad_Nh_count_70 : decode prog_1_method_16_code 70 = .ok (.aload_n 0, 1) := by decide +kernel
theorem ad_Nh_count_71 : decode prog_1_method_16_code 71 = .ok (.getfield 23, 3) := by decide +kernel
theorem ad_Nh_count_74 : decode prog_1_method_16_code 74 = .ok (.getfield 118, 3) := by decide +kernel
theorem ad_Nh_count_77 : decode prog_1_method_16_code 77 = .ok (.getfield 213, 3) := by decide +kernel
theorem ad_Nh_count_80 : decode prog_1_method_16_code 80 = .ok (.ireturn, 1) := by decide +kernel
theorem ad_Nh_count_81 : decode prog_1_method_16_code 81 = .ok (.aload_n 0, 1) := by decide +kernel
theorem ad_Nh_count_82 : decode prog_1_method_16_code 82 = .ok (.getfield 23, 3) := by decide +kernel
theorem ad_Nh_count_85 : decode prog_1_method_16_code 85 = .ok (.getfield 130, 3) := by decide +kernel
theorem ad_Nh_count_88 : decode prog_1_method_16_code 88 = .ok (.getfield 142, 3) := by decide +kernel
theorem ad_Nh_count_91 : decode prog_1_method_16_code 91 = .ok (.ireturn, 1) := by decide +kernel
theorem ad_Nh_count_92 : decode prog_1_method_16_code 92 = .ok (.aload_n 0, 1) := by decide +kernel
theorem ad_Nh_count_93 : decode prog_1_method_16_code 93 = .ok (.getfield 23, 3) := by decide +kernel
theorem ad_Nh_count_96 : decode prog_1_method_16_code 96 = .ok (.getfield 118, 3) := by decide +kernel
theorem ad_Nh_count_99 : decode prog_1_method_16_code 99 = .ok (.getfield 216, 3) := by decide +kernel
theorem ad_Nh_count_102 : decode prog_1_method_16_code 102 = .ok (.ireturn, 1) := by decide +kernel
theorem ad_Nh_count_103 : decode prog_1_method_16_code 103 = .ok (.aload_n 0, 1) := by decide +kernel
theorem ad_Nh_count_104 : decode prog_1_method_16_code 104 = .ok (.getfield 23, 3) := by decide +kernel
theorem ad_Nh_count_107 : decode prog_1_method_16_code 107 = .ok (.getfield 118, 3) := by decide +kernel
theorem ad_Nh_count_110 : decode prog_1_method_16_code 110 = .ok (.getfield 219, 3) := by decide +kernel
theorem ad_Nh_count_113 : decode prog_1_method_16_code 113 = .ok (.ireturn, 1) := by decide +kernel
theorem ad_Nh_count_114 : decode prog_1_method_16_code 114 = .ok (.aload_n 0, 1) := by decide +kernel
theorem ad_Nh_count_115 : decode prog_1_method_16_code 115 = .ok (.getfield 23, 3) := by decide +kernel
theorem ad_Nh_count_118 : decode prog_1_method_16_code 118 = .ok (.getfield 118, 3) := by decide +kernel
theorem ad_Nh_count_121 : decode prog_1_method_16_code 121 = .ok (.getfield 222, 3) := by decide +kernel
theorem ad_Nh_count_124 : decode prog_1_method_16_code 124 = .ok (.ireturn, 1) := by decide +kernel
theorem ad_Nh_count_125 : decode prog_1_method_16_code 125 = .ok (.aload_n 0, 1) := by decide +kernel
theorem ad_Nh_count_126 : decode prog_1_method_16_code 126 = .ok (.getfield 13, 3) := by decide +kernel
theorem ad_Nh_count_129 : decode prog_1_method_16_code 129 = .ok (.ireturn, 1) := by decide +kernel
theorem ad_Nh_count_130 : decode prog_1_method_16_code 130 = .ok (.iconst (-1), 1) := by decide +kernel
theorem ad_Nh_count_131 : decode prog_1_method_16_code 131 = .ok (.ireturn, 1) := by decide +kernel
theorem ad_Nh_wrong_0 : decode prog_1_method_17_code 0 = .ok (.iload_n 1, 1) := by decide +kernel
theorem ad_Nh_wrong_1 : decode prog_1_method_17_code 1 = .ok (.ifCond .lt 23, 3) := by decide +kernel
theorem ad_Nh_wrong_4 : decode prog_1_method_17_code 4 = .ok (.iload_n 1, 1) := by decide +kernel
theorem ad_Nh_wrong_5 : decode prog_1_method_17_code 5 = .ok (.aload_n 0, 1) := by decide +kernel
theorem ad_Nh_wrong_6 : decode prog_1_method_17_code 6 = .ok (.getfield 23, 3) := by decide +kernel
theorem ad_Nh_wrong_9 : decode prog_1_method_17_code 9 = .ok (.getfield 130, 3) := by decide +kernel
theorem ad_Nh_wrong_12 : decode prog_1_method_17_code 12 = .ok (.getfield 142, 3) := by decide +kernel
theorem ad_Nh_wrong_15 : decode prog_1_method_17_code 15 = .ok (.if_icmp .ge 9, 3) := by decide +kernel
theorem ad_Nh_wrong_18 : decode prog_1_method_17_code 18 = .ok (.iload_n 1, 1) := by decide +kernel
theorem ad_Nh_wrong_19 : decode prog_1_method_17_code 19 = .ok (.bipush 60, 2) := by decide +kernel
theorem ad_Nh_wrong_21 : decode prog_1_method_17_code 21 = .ok (.if_icmp .lt 5, 3) := by decide +kernel
theorem ad_Nh_wrong_24 : decode prog_1_method_17_code 24 = .ok (.iconst (-1), 1) := by decide +kernel
theorem ad_Nh_wrong_25 : decode prog_1_method_17_code 25 = .ok (.ireturn, 1) := by decide +kernel
theorem ad_Nh_wrong_26 : decode prog_1_method_17_code 26 = .ok (.aload_n 0, 1) := by decide +kernel
theorem ad_Nh_wrong_27 : decode prog_1_method_17_code 27 = .ok (.getfield 23, 3) := by decide +kernel
theorem ad_Nh_wrong_30 : decode prog_1_method_17_code 30 = .ok (.getfield 130, 3) := by decide +kernel
theorem ad_Nh_wrong_33 : decode prog_1_method_17_code 33 = .ok (.getfield 225, 3) := by decide +kernel
theorem ad_Nh_wrong_36 : decode prog_1_method_17_code 36 = .ok (.iload_n 1, 1) := by decide +kernel
theorem ad_Nh_wrong_37 : decode prog_1_method_17_code 37 = .ok (.iaload, 1) := by decide +kernel
theorem ad_Nh_wrong_38 : decode prog_1_method_17_code 38 = .ok (.ireturn, 1) := by decide +kernel
theorem ad_Nh_judge_0 : decode prog_1_method_18_code 0 = .ok (.aload_n 0, 1) := by decide +kernel
theorem ad_Nh_judge_1 : decode prog_1_method_18_code 1 = .ok (.getfield 23, 3) := by decide +kernel
theorem ad_Nh_judge_4 : decode prog_1_method_18_code 4 = .ok (.getfield 130, 3) := by decide +kernel
theorem ad_Nh_judge_7 : decode prog_1_method_18_code 7 = .ok (.astore_n 2, 1) := by decide +kernel
theorem ad_Nh_judge_8 : decode prog_1_method_18_code 8 = .ok (.iload_n 1, 1) := by decide +kernel
theorem ad_Nh_judge_9 : decode prog_1_method_18_code 9 = .ok (.tableswitch 69 0 4 #[35, 40, 45, 53, 61], 35) := by decide +kernel
theorem ad_Nh_judge_44 : decode prog_1_method_18_code 44 = .ok (.aload_n 2, 1) := by decide +kernel
theorem ad_Nh_judge_45 : decode prog_1_method_18_code 45 = .ok (.getfield 228, 3) := by decide +kernel
theorem ad_Nh_judge_48 : decode prog_1_method_18_code 48 = .ok (.ireturn, 1) := by decide +kernel
theorem ad_Nh_judge_49 : decode prog_1_method_18_code 49 = .ok (.aload_n 2, 1) := by decide +kernel
theorem ad_Nh_judge_50 : decode prog_1_method_18_code 50 = .ok (.getfield 231, 3) := by decide +kernel
theorem ad_Nh_judge_53 : decode prog_1_method_18_code 53 = .ok (.ireturn, 1) := by decide +kernel
theorem ad_Nh_judge_54 : decode prog_1_method_18_code 54 = .ok (.aload_n 2, 1) := by decide +kernel
theorem ad_Nh_judge_55 : decode prog_1_method_18_code 55 = .ok (.getfield 234, 3) := by decide +kernel
theorem ad_Nh_judge_58 : decode prog_1_method_18_code 58 = .ok (.invokestatic 237, 3) := by decide +kernel
theorem ad_Nh_judge_61 : decode prog_1_method_18_code 61 = .ok (.ireturn, 1) := by decide +kernel
theorem ad_Nh_judge_62 : decode prog_1_method_18_code 62 = .ok (.aload_n 2, 1) := by decide +kernel
theorem ad_Nh_judge_63 : decode prog_1_method_18_code 63 = .ok (.getfield 241, 3) := by decide +kernel
theorem ad_Nh_judge_66 : decode prog_1_method_18_code 66 = .ok (.invokestatic 237, 3) := by decide +kernel
theorem ad_Nh_judge_69 : decode prog_1_method_18_code 69 = .ok (.ireturn, 1) := by decide +kernel
theorem ad_Nh_judge_70 : decode prog_1_method_18_code 70 = .ok (.aload_n 2, 1) := by decide +kernel
theorem ad_Nh_judge_71 : decode prog_1_method_18_code 71 = .ok (.getfield 244, 3) := by decide +kernel
theorem ad_Nh_judge_74 : decode prog_1_method_18_code 74 = .ok (.invokestatic 237, 3) := by decide +kernel
theorem ad_Nh_judge_77 : decode prog_1_method_18_code 77 = .ok (.ireturn, 1) := by decide +kernel
theorem ad_Nh_judge_78 : decode prog_1_method_18_code 78 = .ok (.iconst (-1), 1) := by decide +kernel
theorem ad_Nh_judge_79 : decode prog_1_method_18_code 79 = .ok (.ireturn, 1) := by decide +kernel
theorem ad_Nh_sumOf_0 : decode prog_1_method_19_code 0 = .ok (.iconst 0, 1) := by decide +kernel
theorem ad_Nh_sumOf_1 : decode prog_1_method_19_code 1 = .ok (.istore_n 1, 1) := by decide +kernel
theorem ad_Nh_sumOf_2 : decode prog_1_method_19_code 2 = .ok (.aload_n 0, 1) := by decide +kernel
theorem ad_Nh_sumOf_3 : decode prog_1_method_19_code 3 = .ok (.astore_n 2, 1) := by decide +kernel
theorem ad_Nh_sumOf_4 : decode prog_1_method_19_code 4 = .ok (.aload_n 2, 1) := by decide +kernel
theorem ad_Nh_sumOf_5 : decode prog_1_method_19_code 5 = .ok (.arraylength, 1) := by decide +kernel
theorem ad_Nh_sumOf_6 : decode prog_1_method_19_code 6 = .ok (.istore_n 3, 1) := by decide +kernel
theorem ad_Nh_sumOf_7 : decode prog_1_method_19_code 7 = .ok (.iconst 0, 1) := by decide +kernel
theorem ad_Nh_sumOf_8 : decode prog_1_method_19_code 8 = .ok (.istore 4, 2) := by decide +kernel
theorem ad_Nh_sumOf_10 : decode prog_1_method_19_code 10 = .ok (.iload 4, 2) := by decide +kernel
theorem ad_Nh_sumOf_12 : decode prog_1_method_19_code 12 = .ok (.iload_n 3, 1) := by decide +kernel
theorem ad_Nh_sumOf_13 : decode prog_1_method_19_code 13 = .ok (.if_icmp .ge 20, 3) := by decide +kernel
theorem ad_Nh_sumOf_16 : decode prog_1_method_19_code 16 = .ok (.aload_n 2, 1) := by decide +kernel
theorem ad_Nh_sumOf_17 : decode prog_1_method_19_code 17 = .ok (.iload 4, 2) := by decide +kernel
theorem ad_Nh_sumOf_19 : decode prog_1_method_19_code 19 = .ok (.iaload, 1) := by decide +kernel
theorem ad_Nh_sumOf_20 : decode prog_1_method_19_code 20 = .ok (.istore 5, 2) := by decide +kernel
theorem ad_Nh_sumOf_22 : decode prog_1_method_19_code 22 = .ok (.iload_n 1, 1) := by decide +kernel
theorem ad_Nh_sumOf_23 : decode prog_1_method_19_code 23 = .ok (.iload 5, 2) := by decide +kernel
theorem ad_Nh_sumOf_25 : decode prog_1_method_19_code 25 = .ok (.iadd, 1) := by decide +kernel
theorem ad_Nh_sumOf_26 : decode prog_1_method_19_code 26 = .ok (.istore_n 1, 1) := by decide +kernel
theorem ad_Nh_sumOf_27 : decode prog_1_method_19_code 27 = .ok (.iinc 4 1, 3) := by decide +kernel
theorem ad_Nh_sumOf_30 : decode prog_1_method_19_code 30 = .ok (.goto (-20), 3) := by decide +kernel
theorem ad_Nh_sumOf_33 : decode prog_1_method_19_code 33 = .ok (.iload_n 1, 1) := by decide +kernel
theorem ad_Nh_sumOf_34 : decode prog_1_method_19_code 34 = .ok (.ireturn, 1) := by decide +kernel
theorem ad_Nh_copyRow_0 : decode prog_1_method_20_code 0 = .ok (.aload_n 0, 1) := by decide +kernel
theorem ad_Nh_copyRow_1 : decode prog_1_method_20_code 1 = .ok (.iconst 0, 1) := by decide +kernel
theorem ad_Nh_copyRow_2 : decode prog_1_method_20_code 2 = .ok (.aload_n 1, 1) := by decide +kernel
theorem ad_Nh_copyRow_3 : decode prog_1_method_20_code 3 = .ok (.iconst 0, 1) := by decide +kernel
theorem ad_Nh_copyRow_4 : decode prog_1_method_20_code 4 = .ok (.aload_n 0, 1) := by decide +kernel
theorem ad_Nh_copyRow_5 : decode prog_1_method_20_code 5 = .ok (.arraylength, 1) := by decide +kernel
theorem ad_Nh_copyRow_6 : decode prog_1_method_20_code 6 = .ok (.aload_n 1, 1) := by decide +kernel
theorem ad_Nh_copyRow_7 : decode prog_1_method_20_code 7 = .ok (.arraylength, 1) := by decide +kernel
theorem ad_Nh_copyRow_8 : decode prog_1_method_20_code 8 = .ok (.invokestatic 247, 3) := by decide +kernel
theorem ad_Nh_copyRow_11 : decode prog_1_method_20_code 11 = .ok (.invokestatic 252, 3) := by decide +kernel
theorem ad_Nh_copyRow_14 : decode prog_1_method_20_code 14 = .ok (.return_, 1) := by decide +kernel
theorem ad_Nh_came_0 : decode prog_1_method_21_code 0 = .ok (.aload_n 0, 1) := by decide +kernel
theorem ad_Nh_came_1 : decode prog_1_method_21_code 1 = .ok (.getfield 23, 3) := by decide +kernel
theorem ad_Nh_came_4 : decode prog_1_method_21_code 4 = .ok (.getfield 118, 3) := by decide +kernel
theorem ad_Nh_came_7 : decode prog_1_method_21_code 7 = .ok (.iload_n 1, 1) := by decide +kernel
theorem ad_Nh_came_8 : decode prog_1_method_21_code 8 = .ok (.invokevirtual 167, 3) := by decide +kernel
theorem ad_Nh_came_11 : decode prog_1_method_21_code 11 = .ok (.ifCond .eq 12, 3) := by decide +kernel
theorem ad_Nh_came_14 : decode prog_1_method_21_code 14 = .ok (.iload_n 2, 1) := by decide +kernel
theorem ad_Nh_came_15 : decode prog_1_method_21_code 15 = .ok (.ifCond .lt 8, 3) := by decide +kernel
theorem ad_Nh_came_18 : decode prog_1_method_21_code 18 = .ok (.iload_n 2, 1) := by decide +kernel
theorem ad_Nh_came_19 : decode prog_1_method_21_code 19 = .ok (.iconst 4, 1) := by decide +kernel
theorem ad_Nh_came_20 : decode prog_1_method_21_code 20 = .ok (.if_icmp .le 11, 3) := by decide +kernel
theorem ad_Nh_came_23 : decode prog_1_method_21_code 23 = .ok (.new 158, 3) := by decide +kernel
theorem ad_Nh_came_26 : decode prog_1_method_21_code 26 = .ok (.dup, 1) := by decide +kernel
theorem ad_Nh_came_27 : decode prog_1_method_21_code 27 = .ok (.invokespecial 160, 3) := by decide +kernel
theorem ad_Nh_came_30 : decode prog_1_method_21_code 30 = .ok (.athrow, 1) := by decide +kernel
theorem ad_Nh_came_31 : decode prog_1_method_21_code 31 = .ok (.aload_n 0, 1) := by decide +kernel
theorem ad_Nh_came_32 : decode prog_1_method_21_code 32 = .ok (.getfield 23, 3) := by decide +kernel
theorem ad_Nh_came_35 : decode prog_1_method_21_code 35 = .ok (.getfield 130, 3) := by decide +kernel
theorem ad_Nh_came_38 : decode prog_1_method_21_code 38 = .ok (.aload_n 0, 1) := by decide +kernel
theorem ad_Nh_came_39 : decode prog_1_method_21_code 39 = .ok (.getfield 23, 3) := by decide +kernel
theorem ad_Nh_came_42 : decode prog_1_method_21_code 42 = .ok (.getfield 118, 3) := by decide +kernel
theorem ad_Nh_came_45 : decode prog_1_method_21_code 45 = .ok (.iload_n 1, 1) := by decide +kernel
theorem ad_Nh_came_46 : decode prog_1_method_21_code 46 = .ok (.iload_n 2, 1) := by decide +kernel
theorem ad_Nh_came_47 : decode prog_1_method_21_code 47 = .ok (.invokevirtual 258, 3) := by decide +kernel
theorem ad_Nh_came_50 : decode prog_1_method_21_code 50 = .ok (.ireturn, 1) := by decide +kernel
theorem ad_Nh_bound_0 : decode prog_1_method_22_code 0 = .ok (.aload_n 0, 1) := by decide +kernel
theorem ad_Nh_bound_1 : decode prog_1_method_22_code 1 = .ok (.getfield 23, 3) := by decide +kernel
theorem ad_Nh_bound_4 : decode prog_1_method_22_code 4 = .ok (.getfield 118, 3) := by decide +kernel
theorem ad_Nh_bound_7 : decode prog_1_method_22_code 7 = .ok (.astore 4, 2) := by decide +kernel
theorem ad_Nh_bound_9 : decode prog_1_method_22_code 9 = .ok (.aload 4, 2) := by decide +kernel
theorem ad_Nh_bound_11 : decode prog_1_method_22_code 11 = .ok (.iload_n 1, 1) := by decide +kernel
theorem ad_Nh_bound_12 : decode prog_1_method_22_code 12 = .ok (.invokevirtual 167, 3) := by decide +kernel
theorem ad_Nh_bound_15 : decode prog_1_method_22_code 15 = .ok (.ifCond .eq 21, 3) := by decide +kernel
theorem ad_Nh_bound_18 : decode prog_1_method_22_code 18 = .ok (.aload 4, 2) := by decide +kernel
theorem ad_Nh_bound_20 : decode prog_1_method_22_code 20 = .ok (.iload_n 2, 1) := by decide +kernel
theorem ad_Nh_bound_21 : decode prog_1_method_22_code 21 = .ok (.invokevirtual 167, 3) := by decide +kernel
theorem ad_Nh_bound_24 : decode prog_1_method_22_code 24 = .ok (.ifCond .eq 12, 3) := by decide +kernel
theorem ad_Nh_bound_27 : decode prog_1_method_22_code 27 = .ok (.aload 4, 2) := by decide +kernel
theorem ad_Nh_bound_29 : decode prog_1_method_22_code 29 = .ok (.iload_n 3, 1) := by decide +kernel
theorem ad_Nh_bound_30 : decode prog_1_method_22_code 30 = .ok (.invokevirtual 154, 3) := by decide +kernel
theorem ad_Nh_bound_33 : decode prog_1_method_22_code 33 = .ok (.ifCond .ne 5, 3) := by decide +kernel
theorem ad_Nh_bound_36 : decode prog_1_method_22_code 36 = .ok (.iconst (-1), 1) := by decide +kernel
theorem ad_Nh_bound_37 : decode prog_1_method_22_code 37 = .ok (.ireturn, 1) := by decide +kernel
theorem ad_Nh_bound_38 : decode prog_1_method_22_code 38 = .ok (.aload 4, 2) := by decide +kernel
theorem ad_Nh_bound_40 : decode prog_1_method_22_code 40 = .ok (.iload_n 2, 1) := by decide +kernel
theorem ad_Nh_bound_41 : decode prog_1_method_22_code 41 = .ok (.iload_n 3, 1) := by decide +kernel
theorem ad_Nh_bound_42 : decode prog_1_method_22_code 42 = .ok (.invokevirtual 262, 3) := by decide +kernel
theorem ad_Nh_bound_45 : decode prog_1_method_22_code 45 = .ok (.istore 5, 2) := by decide +kernel
theorem ad_Nh_bound_47 : decode prog_1_method_22_code 47 = .ok (.iload 5, 2) := by decide +kernel
theorem ad_Nh_bound_49 : decode prog_1_method_22_code 49 = .ok (.ifCond .ge 7, 3) := by decide +kernel
theorem ad_Nh_bound_52 : decode prog_1_method_22_code 52 = .ok (.iconst 0, 1) := by decide +kernel
theorem ad_Nh_bound_53 : decode prog_1_method_22_code 53 = .ok (.goto 16, 3) := by decide +kernel
theorem ad_Nh_bound_56 : decode prog_1_method_22_code 56 = .ok (.aload_n 0, 1) := by decide +kernel
theorem ad_Nh_bound_57 : decode prog_1_method_22_code 57 = .ok (.getfield 23, 3) := by decide +kernel
theorem ad_Nh_bound_60 : decode prog_1_method_22_code 60 = .ok (.getfield 130, 3) := by decide +kernel
theorem ad_Nh_bound_63 : decode prog_1_method_22_code 63 = .ok (.iload_n 1, 1) := by decide +kernel
theorem ad_Nh_bound_64 : decode prog_1_method_22_code 64 = .ok (.iload 5, 2) := by decide +kernel
theorem ad_Nh_bound_66 : decode prog_1_method_22_code 66 = .ok (.invokevirtual 265, 3) := by decide +kernel
theorem ad_Nh_bound_69 : decode prog_1_method_22_code 69 = .ok (.ireturn, 1) := by decide +kernel
theorem ad_Nh_best_0 : decode prog_1_method_23_code 0 = .ok (.aload_n 0, 1) := by decide +kernel
theorem ad_Nh_best_1 : decode prog_1_method_23_code 1 = .ok (.iload_n 1, 1) := by decide +kernel
theorem ad_Nh_best_2 : decode prog_1_method_23_code 2 = .ok (.iload_n 2, 1) := by decide +kernel
theorem ad_Nh_best_3 : decode prog_1_method_23_code 3 = .ok (.iload_n 3, 1) := by decide +kernel
theorem ad_Nh_best_4 : decode prog_1_method_23_code 4 = .ok (.iload 4, 2) := by decide +kernel
theorem ad_Nh_best_6 : decode prog_1_method_23_code 6 = .ok (.iload 5, 2) := by decide +kernel
theorem ad_Nh_best_8 : decode prog_1_method_23_code 8 = .ok (.invokevirtual 268, 3) := by decide +kernel
theorem ad_Nh_best_11 : decode prog_1_method_23_code 11 = .ok (.ifCond .ne 11, 3) := by decide +kernel
theorem ad_Nh_best_14 : decode prog_1_method_23_code 14 = .ok (.new 158, 3) := by decide +kernel
theorem ad_Nh_best_17 : decode prog_1_method_23_code 17 = .ok (.dup, 1) := by decide +kernel
theorem ad_Nh_best_18 : decode prog_1_method_23_code 18 = .ok (.invokespecial 160, 3) := by decide +kernel
theorem ad_Nh_best_21 : decode prog_1_method_23_code 21 = .ok (.athrow, 1) := by decide +kernel
theorem ad_Nh_best_22 : decode prog_1_method_23_code 22 = .ok (.aload_n 0, 1) := by decide +kernel
theorem ad_Nh_best_23 : decode prog_1_method_23_code 23 = .ok (.getfield 55, 3) := by decide +kernel
theorem ad_Nh_best_26 : decode prog_1_method_23_code 26 = .ok (.aload_n 0, 1) := by decide +kernel
theorem ad_Nh_best_27 : decode prog_1_method_23_code 27 = .ok (.getfield 23, 3) := by decide +kernel
theorem ad_Nh_best_30 : decode prog_1_method_23_code 30 = .ok (.getfield 118, 3) := by decide +kernel
theorem ad_Nh_best_33 : decode prog_1_method_23_code 33 = .ok (.iload_n 1, 1) := by decide +kernel
theorem ad_Nh_best_34 : decode prog_1_method_23_code 34 = .ok (.iload_n 2, 1) := by decide +kernel
theorem ad_Nh_best_35 : decode prog_1_method_23_code 35 = .ok (.iload_n 3, 1) := by decide +kernel
theorem ad_Nh_best_36 : decode prog_1_method_23_code 36 = .ok (.iload 5, 2) := by decide +kernel
theorem ad_Nh_best_38 : decode prog_1_method_23_code 38 = .ok (.invokevirtual 272, 3) := by decide +kernel
theorem ad_Nh_best_41 : decode prog_1_method_23_code 41 = .ok (.aload_n 0, 1) := by decide +kernel
theorem ad_Nh_best_42 : decode prog_1_method_23_code 42 = .ok (.getfield 55, 3) := by decide +kernel
theorem ad_Nh_best_45 : decode prog_1_method_23_code 45 = .ok (.iload_n 3, 1) := by decide +kernel
theorem ad_Nh_best_46 : decode prog_1_method_23_code 46 = .ok (.iload 4, 2) := by decide +kernel
theorem ad_Nh_best_48 : decode prog_1_method_23_code 48 = .ok (.invokevirtual 276, 3) := by decide +kernel
theorem ad_Nh_best_51 : decode prog_1_method_23_code 51 = .ok (.lreturn, 1) := by decide +kernel
theorem ad_Nh_does_0 : decode prog_1_method_24_code 0 = .ok (.aload_n 0, 1) := by decide +kernel
theorem ad_Nh_does_1 : decode prog_1_method_24_code 1 = .ok (.iload_n 1, 1) := by decide +kernel
theorem ad_Nh_does_2 : decode prog_1_method_24_code 2 = .ok (.iload_n 2, 1) := by decide +kernel
theorem ad_Nh_does_3 : decode prog_1_method_24_code 3 = .ok (.iload_n 3, 1) := by decide +kernel
theorem ad_Nh_does_4 : decode prog_1_method_24_code 4 = .ok (.iload 4, 2) := by decide +kernel
theorem ad_Nh_does_6 : decode prog_1_method_24_code 6 = .ok (.iload 5, 2) := by decide +kernel
theorem ad_Nh_does_8 : decode prog_1_method_24_code 8 = .ok (.invokevirtual 268, 3) := by decide +kernel
theorem ad_Nh_does_11 : decode prog_1_method_24_code 11 = .ok (.ifCond .ne 5, 3) := by decide +kernel
theorem ad_Nh_does_14 : decode prog_1_method_24_code 14 = .ok (.iconst (-1), 1) := by decide +kernel
theorem ad_Nh_does_15 : decode prog_1_method_24_code 15 = .ok (.ireturn, 1) := by decide +kernel
theorem ad_Nh_does_16 : decode prog_1_method_24_code 16 = .ok (.aload_n 0, 1) := by decide +kernel
theorem ad_Nh_does_17 : decode prog_1_method_24_code 17 = .ok (.getfield 55, 3) := by decide +kernel
theorem ad_Nh_does_20 : decode prog_1_method_24_code 20 = .ok (.aload_n 0, 1) := by decide +kernel
theorem ad_Nh_does_21 : decode prog_1_method_24_code 21 = .ok (.getfield 23, 3) := by decide +kernel
theorem ad_Nh_does_24 : decode prog_1_method_24_code 24 = .ok (.getfield 118, 3) := by decide +kernel
theorem ad_Nh_does_27 : decode prog_1_method_24_code 27 = .ok (.iload_n 1, 1) := by decide +kernel
theorem ad_Nh_does_28 : decode prog_1_method_24_code 28 = .ok (.iload_n 2, 1) := by decide +kernel
theorem ad_Nh_does_29 : decode prog_1_method_24_code 29 = .ok (.iload_n 3, 1) := by decide +kernel
theorem ad_Nh_does_30 : decode prog_1_method_24_code 30 = .ok (.iload 5, 2) := by decide +kernel
theorem ad_Nh_does_32 : decode prog_1_method_24_code 32 = .ok (.invokevirtual 272, 3) := by decide +kernel
theorem ad_Nh_does_35 : decode prog_1_method_24_code 35 = .ok (.aload_n 0, 1) := by decide +kernel
theorem ad_Nh_does_36 : decode prog_1_method_24_code 36 = .ok (.getfield 55, 3) := by decide +kernel
theorem ad_Nh_does_39 : decode prog_1_method_24_code 39 = .ok (.iload_n 3, 1) := by decide +kernel
theorem ad_Nh_does_40 : decode prog_1_method_24_code 40 = .ok (.iload 4, 2) := by decide +kernel
theorem ad_Nh_does_42 : decode prog_1_method_24_code 42 = .ok (.invokevirtual 280, 3) := by decide +kernel
theorem ad_Nh_does_45 : decode prog_1_method_24_code 45 = .ok (.ireturn, 1) := by decide +kernel
theorem ad_Nh_willing_0 : decode prog_1_method_25_code 0 = .ok (.aload_n 0, 1) := by decide +kernel
theorem ad_Nh_willing_1 : decode prog_1_method_25_code 1 = .ok (.getfield 23, 3) := by decide +kernel
theorem ad_Nh_willing_4 : decode prog_1_method_25_code 4 = .ok (.getfield 118, 3) := by decide +kernel
theorem ad_Nh_willing_7 : decode prog_1_method_25_code 7 = .ok (.astore 4, 2) := by decide +kernel
theorem ad_Nh_willing_9 : decode prog_1_method_25_code 9 = .ok (.aload 4, 2) := by decide +kernel
theorem ad_Nh_willing_11 : decode prog_1_method_25_code 11 = .ok (.iload_n 1, 1) := by decide +kernel
theorem ad_Nh_willing_12 : decode prog_1_method_25_code 12 = .ok (.invokevirtual 186, 3) := by decide +kernel
theorem ad_Nh_willing_15 : decode prog_1_method_25_code 15 = .ok (.ifCond .eq 11, 3) := by decide +kernel
theorem ad_Nh_willing_18 : decode prog_1_method_25_code 18 = .ok (.iload_n 2, 1) := by decide +kernel
theorem ad_Nh_willing_19 : decode prog_1_method_25_code 19 = .ok (.iload_n 3, 1) := by decide +kernel
theorem ad_Nh_willing_20 : decode prog_1_method_25_code 20 = .ok (.invokestatic 283, 3) := by decide +kernel
theorem ad_Nh_willing_23 : decode prog_1_method_25_code 23 = .ok (.ifCond .ne 5, 3) := by decide +kernel
theorem ad_Nh_willing_26 : decode prog_1_method_25_code 26 = .ok (.iconst (-1), 1) := by decide +kernel
theorem ad_Nh_willing_27 : decode prog_1_method_25_code 27 = .ok (.ireturn, 1) := by decide +kernel
theorem ad_Nh_willing_28 : decode prog_1_method_25_code 28 = .ok (.iconst 0, 1) := by decide +kernel
theorem ad_Nh_willing_29 : decode prog_1_method_25_code 29 = .ok (.istore 5, 2) := by decide +kernel
theorem ad_Nh_willing_31 : decode prog_1_method_25_code 31 = .ok (.iconst 0, 1) := by decide +kernel
theorem ad_Nh_willing_32 : decode prog_1_method_25_code 32 = .ok (.istore 6, 2) := by decide +kernel
theorem ad_Nh_willing_34 : decode prog_1_method_25_code 34 = .ok (.iload 6, 2) := by decide +kernel
theorem ad_Nh_willing_36 : decode prog_1_method_25_code 36 = .ok (.aload 4, 2) := by decide +kernel
theorem ad_Nh_willing_38 : decode prog_1_method_25_code 38 = .ok (.getfield 210, 3) := by decide +kernel
theorem ad_Nh_willing_41 : decode prog_1_method_25_code 41 = .ok (.if_icmp .ge 56, 3) := by decide +kernel
theorem ad_Nh_willing_44 : decode prog_1_method_25_code 44 = .ok (.aload 4, 2) := by decide +kernel
theorem ad_Nh_willing_46 : decode prog_1_method_25_code 46 = .ok (.iload 6, 2) := by decide +kernel
theorem ad_Nh_willing_48 : decode prog_1_method_25_code 48 = .ok (.iload_n 1, 1) := by decide +kernel
theorem ad_Nh_willing_49 : decode prog_1_method_25_code 49 = .ok (.invokevirtual 287, 3) := by decide +kernel
theorem ad_Nh_willing_52 : decode prog_1_method_25_code 52 = .ok (.ifCond .eq 39, 3) := by decide +kernel
theorem ad_Nh_willing_55 : decode prog_1_method_25_code 55 = .ok (.aload_n 0, 1) := by decide +kernel
theorem ad_Nh_willing_56 : decode prog_1_method_25_code 56 = .ok (.getfield 55, 3) := by decide +kernel
theorem ad_Nh_willing_59 : decode prog_1_method_25_code 59 = .ok (.aload 4, 2) := by decide +kernel
theorem ad_Nh_willing_61 : decode prog_1_method_25_code 61 = .ok (.iload 6, 2) := by decide +kernel
theorem ad_Nh_willing_63 : decode prog_1_method_25_code 63 = .ok (.iload_n 1, 1) := by decide +kernel
theorem ad_Nh_willing_64 : decode prog_1_method_25_code 64 = .ok (.iload_n 2, 1) := by decide +kernel
theorem ad_Nh_willing_65 : decode prog_1_method_25_code 65 = .ok (.iload_n 3, 1) := by decide +kernel
theorem ad_Nh_willing_66 : decode prog_1_method_25_code 66 = .ok (.invokevirtual 272, 3) := by decide +kernel
theorem ad_Nh_willing_69 : decode prog_1_method_25_code 69 = .ok (.iload 5, 2) := by decide +kernel
theorem ad_Nh_willing_71 : decode prog_1_method_25_code 71 = .ok (.aload_n 0, 1) := by decide +kernel
theorem ad_Nh_willing_72 : decode prog_1_method_25_code 72 = .ok (.getfield 55, 3) := by decide +kernel
theorem ad_Nh_willing_75 : decode prog_1_method_25_code 75 = .ok (.iload_n 2, 1) := by decide +kernel
theorem ad_Nh_willing_76 : decode prog_1_method_25_code 76 = .ok (.iconst 0, 1) := by decide +kernel
theorem ad_Nh_willing_77 : decode prog_1_method_25_code 77 = .ok (.invokevirtual 280, 3) := by decide +kernel
theorem ad_Nh_willing_80 : decode prog_1_method_25_code 80 = .ok (.ifCond .eq 7, 3) := by decide +kernel
theorem ad_Nh_willing_83 : decode prog_1_method_25_code 83 = .ok (.iconst 1, 1) := by decide +kernel
theorem ad_Nh_willing_84 : decode prog_1_method_25_code 84 = .ok (.goto 4, 3) := by decide +kernel
theorem ad_Nh_willing_87 : decode prog_1_method_25_code 87 = .ok (.iconst 0, 1) := by decide +kernel
theorem ad_Nh_willing_88 : decode prog_1_method_25_code 88 = .ok (.iadd, 1) := by decide +kernel
theorem ad_Nh_willing_89 : decode prog_1_method_25_code 89 = .ok (.istore 5, 2) := by decide +kernel
theorem ad_Nh_willing_91 : decode prog_1_method_25_code 91 = .ok (.iinc 6 1, 3) := by decide +kernel
theorem ad_Nh_willing_94 : decode prog_1_method_25_code 94 = .ok (.goto (-60), 3) := by decide +kernel
theorem ad_Nh_willing_97 : decode prog_1_method_25_code 97 = .ok (.iload 5, 2) := by decide +kernel
theorem ad_Nh_willing_99 : decode prog_1_method_25_code 99 = .ok (.ireturn, 1) := by decide +kernel
theorem ad_Nh_isCase_0 : decode prog_1_method_26_code 0 = .ok (.aload_n 0, 1) := by decide +kernel
theorem ad_Nh_isCase_1 : decode prog_1_method_26_code 1 = .ok (.getfield 23, 3) := by decide +kernel
theorem ad_Nh_isCase_4 : decode prog_1_method_26_code 4 = .ok (.getfield 118, 3) := by decide +kernel
theorem ad_Nh_isCase_7 : decode prog_1_method_26_code 7 = .ok (.astore 6, 2) := by decide +kernel
theorem ad_Nh_isCase_9 : decode prog_1_method_26_code 9 = .ok (.aload 6, 2) := by decide +kernel
theorem ad_Nh_isCase_11 : decode prog_1_method_26_code 11 = .ok (.iload_n 1, 1) := by decide +kernel
theorem ad_Nh_isCase_12 : decode prog_1_method_26_code 12 = .ok (.invokevirtual 167, 3) := by decide +kernel
theorem ad_Nh_isCase_15 : decode prog_1_method_26_code 15 = .ok (.ifCond .eq 50, 3) := by decide +kernel
theorem ad_Nh_isCase_18 : decode prog_1_method_26_code 18 = .ok (.aload 6, 2) := by decide +kernel
theorem ad_Nh_isCase_20 : decode prog_1_method_26_code 20 = .ok (.iload_n 2, 1) := by decide +kernel
theorem ad_Nh_isCase_21 : decode prog_1_method_26_code 21 = .ok (.invokevirtual 186, 3) := by decide +kernel
theorem ad_Nh_isCase_24 : decode prog_1_method_26_code 24 = .ok (.ifCond .eq 41, 3) := by decide +kernel
theorem ad_Nh_isCase_27 : decode prog_1_method_26_code 27 = .ok (.aload 6, 2) := by decide +kernel
theorem ad_Nh_isCase_29 : decode prog_1_method_26_code 29 = .ok (.iload_n 1, 1) := by decide +kernel
theorem ad_Nh_isCase_30 : decode prog_1_method_26_code 30 = .ok (.iload_n 2, 1) := by decide +kernel
theorem ad_Nh_isCase_31 : decode prog_1_method_26_code 31 = .ok (.invokevirtual 287, 3) := by decide +kernel
theorem ad_Nh_isCase_34 : decode prog_1_method_26_code 34 = .ok (.ifCond .eq 31, 3) := by decide +kernel
theorem ad_Nh_isCase_37 : decode prog_1_method_26_code 37 = .ok (.iload_n 3, 1) := by decide +kernel
theorem ad_Nh_isCase_38 : decode prog_1_method_26_code 38 = .ok (.iload 5, 2) := by decide +kernel
theorem ad_Nh_isCase_40 : decode prog_1_method_26_code 40 = .ok (.invokestatic 283, 3) := by decide +kernel
theorem ad_Nh_isCase_43 : decode prog_1_method_26_code 43 = .ok (.ifCond .eq 22, 3) := by decide +kernel
theorem ad_Nh_isCase_46 : decode prog_1_method_26_code 46 = .ok (.iload 4, 2) := by decide +kernel
theorem ad_Nh_isCase_48 : decode prog_1_method_26_code 48 = .ok (.ifCond .lt 17, 3) := by decide +kernel
theorem ad_Nh_isCase_51 : decode prog_1_method_26_code 51 = .ok (.iload 4, 2) := by decide +kernel
theorem ad_Nh_isCase_53 : decode prog_1_method_26_code 53 = .ok (.aload 6, 2) := by decide +kernel
theorem ad_Nh_isCase_55 : decode prog_1_method_26_code 55 = .ok (.getfield 216, 3) := by decide +kernel
theorem ad_Nh_isCase_58 : decode prog_1_method_26_code 58 = .ok (.if_icmp .gt 7, 3) := by decide +kernel
theorem ad_Nh_isCase_61 : decode prog_1_method_26_code 61 = .ok (.iconst 1, 1) := by decide +kernel
theorem ad_Nh_isCase_62 : decode prog_1_method_26_code 62 = .ok (.goto 4, 3) := by decide +kernel
theorem ad_Nh_isCase_65 : decode prog_1_method_26_code 65 = .ok (.iconst 0, 1) := by decide +kernel
theorem ad_Nh_isCase_66 : decode prog_1_method_26_code 66 = .ok (.ireturn, 1) := by decide +kernel
theorem ad_Nh_isTimeAndLaw_0 : decode prog_1_method_27_code 0 = .ok (.iload_n 0, 1) := by decide +kernel
theorem ad_Nh_isTimeAndLaw_1 : decode prog_1_method_27_code 1 = .ok (.ifCond .lt 22, 3) := by decide +kernel
theorem ad_Nh_isTimeAndLaw_4 : decode prog_1_method_27_code 4 = .ok (.iload_n 0, 1) := by decide +kernel
theorem ad_Nh_isTimeAndLaw_5 : decode prog_1_method_27_code 5 = .ok (.bipush 20, 2) := by decide +kernel
theorem ad_Nh_isTimeAndLaw_7 : decode prog_1_method_27_code 7 = .ok (.if_icmp .gt 16, 3) := by decide +kernel
theorem ad_Nh_isTimeAndLaw_10 : decode prog_1_method_27_code 10 = .ok (.iload_n 1, 1) := by decide +kernel
theorem ad_Nh_isTimeAndLaw_11 : decode prog_1_method_27_code 11 = .ok (.ifCond .lt 12, 3) := by decide +kernel
theorem ad_Nh_isTimeAndLaw_14 : decode prog_1_method_27_code 14 = .ok (.iload_n 1, 1) := by decide +kernel
theorem ad_Nh_isTimeAndLaw_15 : decode prog_1_method_27_code 15 = .ok (.iconst 2, 1) := by decide +kernel
theorem ad_Nh_isTimeAndLaw_16 : decode prog_1_method_27_code 16 = .ok (.if_icmp .gt 7, 3) := by decide +kernel
theorem ad_Nh_isTimeAndLaw_19 : decode prog_1_method_27_code 19 = .ok (.iconst 1, 1) := by decide +kernel
theorem ad_Nh_isTimeAndLaw_20 : decode prog_1_method_27_code 20 = .ok (.goto 4, 3) := by decide +kernel
theorem ad_Nh_isTimeAndLaw_23 : decode prog_1_method_27_code 23 = .ok (.iconst 0, 1) := by decide +kernel
theorem ad_Nh_isTimeAndLaw_24 : decode prog_1_method_27_code 24 = .ok (.ireturn, 1) := by decide +kernel
theorem ad_Nh_ways_0 : decode prog_1_method_28_code 0 = .ok (.aload_n 0, 1) := by decide +kernel
theorem ad_Nh_ways_1 : decode prog_1_method_28_code 1 = .ok (.getfield 23, 3) := by decide +kernel
theorem ad_Nh_ways_4 : decode prog_1_method_28_code 4 = .ok (.getfield 118, 3) := by decide +kernel
theorem ad_Nh_ways_7 : decode prog_1_method_28_code 7 = .ok (.iload_n 1, 1) := by decide +kernel
theorem ad_Nh_ways_8 : decode prog_1_method_28_code 8 = .ok (.invokevirtual 167, 3) := by decide +kernel
theorem ad_Nh_ways_11 : decode prog_1_method_28_code 11 = .ok (.ifCond .eq 21, 3) := by decide +kernel
theorem ad_Nh_ways_14 : decode prog_1_method_28_code 14 = .ok (.iload_n 2, 1) := by decide +kernel
theorem ad_Nh_ways_15 : decode prog_1_method_28_code 15 = .ok (.ifCond .lt 17, 3) := by decide +kernel
theorem ad_Nh_ways_18 : decode prog_1_method_28_code 18 = .ok (.iload_n 2, 1) := by decide +kernel
theorem ad_Nh_ways_19 : decode prog_1_method_28_code 19 = .ok (.iconst 4, 1) := by decide +kernel
theorem ad_Nh_ways_20 : decode prog_1_method_28_code 20 = .ok (.if_icmp .gt 12, 3) := by decide +kernel
theorem ad_Nh_ways_23 : decode prog_1_method_28_code 23 = .ok (.iload_n 3, 1) := by decide +kernel
theorem ad_Nh_ways_24 : decode prog_1_method_28_code 24 = .ok (.ifCond .lt 8, 3) := by decide +kernel
theorem ad_Nh_ways_27 : decode prog_1_method_28_code 27 = .ok (.iload_n 3, 1) := by decide +kernel
theorem ad_Nh_ways_28 : decode prog_1_method_28_code 28 = .ok (.iconst 3, 1) := by decide +kernel
theorem ad_Nh_ways_29 : decode prog_1_method_28_code 29 = .ok (.if_icmp .le 5, 3) := by decide +kernel
theorem ad_Nh_ways_32 : decode prog_1_method_28_code 32 = .ok (.iconst 0, 1) := by decide +kernel
theorem ad_Nh_ways_33 : decode prog_1_method_28_code 33 = .ok (.ireturn, 1) := by decide +kernel
theorem ad_Nh_ways_34 : decode prog_1_method_28_code 34 = .ok (.aload_n 0, 1) := by decide +kernel
theorem ad_Nh_ways_35 : decode prog_1_method_28_code 35 = .ok (.getfield 23, 3) := by decide +kernel
theorem ad_Nh_ways_38 : decode prog_1_method_28_code 38 = .ok (.getfield 180, 3) := by decide +kernel
theorem ad_Nh_ways_41 : decode prog_1_method_28_code 41 = .ok (.iload_n 1, 1) := by decide +kernel
theorem ad_Nh_ways_42 : decode prog_1_method_28_code 42 = .ok (.iload_n 2, 1) := by decide +kernel
theorem ad_Nh_ways_43 : decode prog_1_method_28_code 43 = .ok (.iastore, 1) := by decide +kernel
theorem ad_Nh_ways_44 : decode prog_1_method_28_code 44 = .ok (.aload_n 0, 1) := by decide +kernel
theorem ad_Nh_ways_45 : decode prog_1_method_28_code 45 = .ok (.getfield 23, 3) := by decide +kernel
theorem ad_Nh_ways_48 : decode prog_1_method_28_code 48 = .ok (.getfield 183, 3) := by decide +kernel
theorem ad_Nh_ways_51 : decode prog_1_method_28_code 51 = .ok (.iload_n 1, 1) := by decide +kernel
theorem ad_Nh_ways_52 : decode prog_1_method_28_code 52 = .ok (.iload_n 3, 1) := by decide +kernel
theorem ad_Nh_ways_53 : decode prog_1_method_28_code 53 = .ok (.iastore, 1) := by decide +kernel
theorem ad_Nh_ways_54 : decode prog_1_method_28_code 54 = .ok (.iconst 1, 1) := by decide +kernel
theorem ad_Nh_ways_55 : decode prog_1_method_28_code 55 = .ok (.ireturn, 1) := by decide +kernel
theorem ad_Nh_run_0 : decode prog_1_method_29_code 0 = .ok (.iload_n 1, 1) := by decide +kernel
theorem ad_Nh_run_1 : decode prog_1_method_29_code 1 = .ok (.iconst 1, 1) := by decide +kernel
theorem ad_Nh_run_2 : decode prog_1_method_29_code 2 = .ok (.if_icmp .lt 9, 3) := by decide +kernel
theorem ad_Nh_run_5 : decode prog_1_method_29_code 5 = .ok (.iload_n 1, 1) := by decide +kernel
theorem ad_Nh_run_6 : decode prog_1_method_29_code 6 = .ok (.bipush 60, 2) := by decide +kernel
theorem ad_Nh_run_8 : decode prog_1_method_29_code 8 = .ok (.if_icmp .le 5, 3) := by decide +kernel
theorem ad_Nh_run_11 : decode prog_1_method_29_code 11 = .ok (.iconst (-1), 1) := by decide +kernel
theorem ad_Nh_run_12 : decode prog_1_method_29_code 12 = .ok (.ireturn, 1) := by decide +kernel
theorem ad_Nh_run_13 : decode prog_1_method_29_code 13 = .ok (.aload_n 0, 1) := by decide +kernel
theorem ad_Nh_run_14 : decode prog_1_method_29_code 14 = .ok (.getfield 62, 3) := by decide +kernel
theorem ad_Nh_run_17 : decode prog_1_method_29_code 17 = .ok (.aload_n 0, 1) := by decide +kernel
theorem ad_Nh_run_18 : decode prog_1_method_29_code 18 = .ok (.getfield 23, 3) := by decide +kernel
theorem ad_Nh_run_21 : decode prog_1_method_29_code 21 = .ok (.iload_n 1, 1) := by decide +kernel
theorem ad_Nh_run_22 : decode prog_1_method_29_code 22 = .ok (.iload_n 2, 1) := by decide +kernel
theorem ad_Nh_run_23 : decode prog_1_method_29_code 23 = .ok (.invokevirtual 290, 3) := by decide +kernel
theorem ad_Nh_run_26 : decode prog_1_method_29_code 26 = .ok (.aload_n 0, 1) := by decide +kernel
theorem ad_Nh_run_27 : decode prog_1_method_29_code 27 = .ok (.getfield 62, 3) := by decide +kernel
theorem ad_Nh_run_30 : decode prog_1_method_29_code 30 = .ok (.iconst 0, 1) := by decide +kernel
theorem ad_Nh_run_31 : decode prog_1_method_29_code 31 = .ok (.invokevirtual 294, 3) := by decide +kernel
theorem ad_Nh_run_34 : decode prog_1_method_29_code 34 = .ok (.aload_n 0, 1) := by decide +kernel
theorem ad_Nh_run_35 : decode prog_1_method_29_code 35 = .ok (.getfield 62, 3) := by decide +kernel
theorem ad_Nh_run_38 : decode prog_1_method_29_code 38 = .ok (.iconst 1, 1) := by decide +kernel
theorem ad_Nh_run_39 : decode prog_1_method_29_code 39 = .ok (.invokevirtual 294, 3) := by decide +kernel
theorem ad_Nh_run_42 : decode prog_1_method_29_code 42 = .ok (.iadd, 1) := by decide +kernel
theorem ad_Nh_run_43 : decode prog_1_method_29_code 43 = .ok (.ireturn, 1) := by decide +kernel
theorem ad_Nh_runBy_0 : decode prog_1_method_30_code 0 = .ok (.aload_n 0, 1) := by decide +kernel
theorem ad_Nh_runBy_1 : decode prog_1_method_30_code 1 = .ok (.getfield 62, 3) := by decide +kernel
theorem ad_Nh_runBy_4 : decode prog_1_method_30_code 4 = .ok (.getfield 296, 3) := by decide +kernel
theorem ad_Nh_runBy_7 : decode prog_1_method_30_code 7 = .ok (.ifCond .eq 13, 3) := by decide +kernel
theorem ad_Nh_runBy_10 : decode prog_1_method_30_code 10 = .ok (.iload_n 1, 1) := by decide +kernel
theorem ad_Nh_runBy_11 : decode prog_1_method_30_code 11 = .ok (.ifCond .lt 9, 3) := by decide +kernel
theorem ad_Nh_runBy_14 : decode prog_1_method_30_code 14 = .ok (.iload_n 1, 1) := by decide +kernel
theorem ad_Nh_runBy_15 : decode prog_1_method_30_code 15 = .ok (.bipush 8, 2) := by decide +kernel
theorem ad_Nh_runBy_17 : decode prog_1_method_30_code 17 = .ok (.if_icmp .lt 6, 3) := by decide +kernel
theorem ad_Nh_runBy_20 : decode prog_1_method_30_code 20 = .ok (.bipush (-2), 2) := by decide +kernel
theorem ad_Nh_runBy_22 : decode prog_1_method_30_code 22 = .ok (.ireturn, 1) := by decide +kernel
theorem ad_Nh_runBy_23 : decode prog_1_method_30_code 23 = .ok (.aload_n 0, 1) := by decide +kernel
theorem ad_Nh_runBy_24 : decode prog_1_method_30_code 24 = .ok (.getfield 62, 3) := by decide +kernel
theorem ad_Nh_runBy_27 : decode prog_1_method_30_code 27 = .ok (.iload_n 1, 1) := by decide +kernel
theorem ad_Nh_runBy_28 : decode prog_1_method_30_code 28 = .ok (.invokevirtual 294, 3) := by decide +kernel
theorem ad_Nh_runBy_31 : decode prog_1_method_30_code 31 = .ok (.ireturn, 1) := by decide +kernel
theorem ad_Nh_runOf_0 : decode prog_1_method_31_code 0 = .ok (.iload_n 1, 1) := by decide +kernel
theorem ad_Nh_runOf_1 : decode prog_1_method_31_code 1 = .ok (.ifCond .lt 20, 3) := by decide +kernel
theorem ad_Nh_runOf_4 : decode prog_1_method_31_code 4 = .ok (.iload_n 1, 1) := by decide +kernel
theorem ad_Nh_runOf_5 : decode prog_1_method_31_code 5 = .ok (.aload_n 0, 1) := by decide +kernel
theorem ad_Nh_runOf_6 : decode prog_1_method_31_code 6 = .ok (.getfield 62, 3) := by decide +kernel
theorem ad_Nh_runOf_9 : decode prog_1_method_31_code 9 = .ok (.getfield 300, 3) := by decide +kernel
theorem ad_Nh_runOf_12 : decode prog_1_method_31_code 12 = .ok (.if_icmp .ge 9, 3) := by decide +kernel
theorem ad_Nh_runOf_15 : decode prog_1_method_31_code 15 = .ok (.iload_n 1, 1) := by decide +kernel
theorem ad_Nh_runOf_16 : decode prog_1_method_31_code 16 = .ok (.bipush 8, 2) := by decide +kernel
theorem ad_Nh_runOf_18 : decode prog_1_method_31_code 18 = .ok (.if_icmp .lt 5, 3) := by decide +kernel
theorem ad_Nh_runOf_21 : decode prog_1_method_31_code 21 = .ok (.iconst (-1), 1) := by decide +kernel
theorem ad_Nh_runOf_22 : decode prog_1_method_31_code 22 = .ok (.ireturn, 1) := by decide +kernel
theorem ad_Nh_runOf_23 : decode prog_1_method_31_code 23 = .ok (.aload_n 0, 1) := by decide +kernel
theorem ad_Nh_runOf_24 : decode prog_1_method_31_code 24 = .ok (.getfield 62, 3) := by decide +kernel
theorem ad_Nh_runOf_27 : decode prog_1_method_31_code 27 = .ok (.getfield 301, 3) := by decide +kernel
theorem ad_Nh_runOf_30 : decode prog_1_method_31_code 30 = .ok (.iload_n 1, 1) := by decide +kernel
theorem ad_Nh_runOf_31 : decode prog_1_method_31_code 31 = .ok (.iaload, 1) := by decide +kernel
theorem ad_Nh_runOf_32 : decode prog_1_method_31_code 32 = .ok (.ireturn, 1) := by decide +kernel
theorem ad_Nh_left_0 : decode prog_1_method_32_code 0 = .ok (.iload_n 1, 1) := by decide +kernel
theorem ad_Nh_left_1 : decode prog_1_method_32_code 1 = .ok (.ifCond .lt 9, 3) := by decide +kernel
theorem ad_Nh_left_4 : decode prog_1_method_32_code 4 = .ok (.iload_n 1, 1) := by decide +kernel
theorem ad_Nh_left_5 : decode prog_1_method_32_code 5 = .ok (.bipush 9, 2) := by decide +kernel
theorem ad_Nh_left_7 : decode prog_1_method_32_code 7 = .ok (.if_icmp .le 5, 3) := by decide +kernel
theorem ad_Nh_left_10 : decode prog_1_method_32_code 10 = .ok (.iconst (-1), 1) := by decide +kernel
theorem ad_Nh_left_11 : decode prog_1_method_32_code 11 = .ok (.ireturn, 1) := by decide +kernel
theorem ad_Nh_left_12 : decode prog_1_method_32_code 12 = .ok (.aload_n 0, 1) := by decide +kernel
theorem ad_Nh_left_13 : decode prog_1_method_32_code 13 = .ok (.getfield 69, 3) := by decide +kernel
theorem ad_Nh_left_16 : decode prog_1_method_32_code 16 = .ok (.aload_n 0, 1) := by decide +kernel
theorem ad_Nh_left_17 : decode prog_1_method_32_code 17 = .ok (.getfield 23, 3) := by decide +kernel
theorem ad_Nh_left_20 : decode prog_1_method_32_code 20 = .ok (.getfield 118, 3) := by decide +kernel
theorem ad_Nh_left_23 : decode prog_1_method_32_code 23 = .ok (.iload_n 1, 1) := by decide +kernel
theorem ad_Nh_left_24 : decode prog_1_method_32_code 24 = .ok (.invokevirtual 302, 3) := by decide +kernel
theorem ad_Nh_left_27 : decode prog_1_method_32_code 27 = .ok (.ireturn, 1) := by decide +kernel
theorem ad_Nh_leftBy_0 : decode prog_1_method_33_code 0 = .ok (.iload_n 1, 1) := by decide +kernel
theorem ad_Nh_leftBy_1 : decode prog_1_method_33_code 1 = .ok (.ifCond .lt 20, 3) := by decide +kernel
theorem ad_Nh_leftBy_4 : decode prog_1_method_33_code 4 = .ok (.iload_n 1, 1) := by decide +kernel
theorem ad_Nh_leftBy_5 : decode prog_1_method_33_code 5 = .ok (.aload_n 0, 1) := by decide +kernel
theorem ad_Nh_leftBy_6 : decode prog_1_method_33_code 6 = .ok (.getfield 69, 3) := by decide +kernel
theorem ad_Nh_leftBy_9 : decode prog_1_method_33_code 9 = .ok (.getfield 306, 3) := by decide +kernel
theorem ad_Nh_leftBy_12 : decode prog_1_method_33_code 12 = .ok (.if_icmp .ge 9, 3) := by decide +kernel
theorem ad_Nh_leftBy_15 : decode prog_1_method_33_code 15 = .ok (.iload_n 1, 1) := by decide +kernel
theorem ad_Nh_leftBy_16 : decode prog_1_method_33_code 16 = .ok (.bipush 48, 2) := by decide +kernel
theorem ad_Nh_leftBy_18 : decode prog_1_method_33_code 18 = .ok (.if_icmp .lt 5, 3) := by decide +kernel
theorem ad_Nh_leftBy_21 : decode prog_1_method_33_code 21 = .ok (.iconst (-1), 1) := by decide +kernel
theorem ad_Nh_leftBy_22 : decode prog_1_method_33_code 22 = .ok (.ireturn, 1) := by decide +kernel
theorem ad_Nh_leftBy_23 : decode prog_1_method_33_code 23 = .ok (.aload_n 0, 1) := by decide +kernel
theorem ad_Nh_leftBy_24 : decode prog_1_method_33_code 24 = .ok (.getfield 69, 3) := by decide +kernel
theorem ad_Nh_leftBy_27 : decode prog_1_method_33_code 27 = .ok (.getfield 307, 3) := by decide +kernel
theorem ad_Nh_leftBy_30 : decode prog_1_method_33_code 30 = .ok (.iload_n 1, 1) := by decide +kernel
theorem ad_Nh_leftBy_31 : decode prog_1_method_33_code 31 = .ok (.iaload, 1) := by decide +kernel
theorem ad_Nh_leftBy_32 : decode prog_1_method_33_code 32 = .ok (.ireturn, 1) := by decide +kernel
theorem ad_Nh_think_0 : decode prog_1_method_34_code 0 = .ok (.aload_n 0, 1) := by decide +kernel
theorem ad_Nh_think_1 : decode prog_1_method_34_code 1 = .ok (.getfield 23, 3) := by decide +kernel
theorem ad_Nh_think_4 : decode prog_1_method_34_code 4 = .ok (.getfield 118, 3) := by decide +kernel
theorem ad_Nh_think_7 : decode prog_1_method_34_code 7 = .ok (.astore 5, 2) := by decide +kernel
theorem ad_Nh_think_9 : decode prog_1_method_34_code 9 = .ok (.aload 5, 2) := by decide +kernel
theorem ad_Nh_think_11 : decode prog_1_method_34_code 11 = .ok (.iload_n 1, 1) := by decide +kernel
theorem ad_Nh_think_12 : decode prog_1_method_34_code 12 = .ok (.invokevirtual 167, 3) := by decide +kernel
theorem ad_Nh_think_15 : decode prog_1_method_34_code 15 = .ok (.ifCond .eq 12, 3) := by decide +kernel
theorem ad_Nh_think_18 : decode prog_1_method_34_code 18 = .ok (.aload 5, 2) := by decide +kernel
theorem ad_Nh_think_20 : decode prog_1_method_34_code 20 = .ok (.iload_n 2, 1) := by decide +kernel
theorem ad_Nh_think_21 : decode prog_1_method_34_code 21 = .ok (.invokevirtual 154, 3) := by decide +kernel
theorem ad_Nh_think_24 : decode prog_1_method_34_code 24 = .ok (.ifCond .ne 5, 3) := by decide +kernel
theorem ad_Nh_think_27 : decode prog_1_method_34_code 27 = .ok (.iconst (-1), 1) := by decide +kernel
theorem ad_Nh_think_28 : decode prog_1_method_34_code 28 = .ok (.ireturn, 1) := by decide +kernel
theorem ad_Nh_think_29 : decode prog_1_method_34_code 29 = .ok (.iconst 0, 1) := by decide +kernel
theorem ad_Nh_think_30 : decode prog_1_method_34_code 30 = .ok (.istore 6, 2) := by decide +kernel
theorem ad_Nh_think_32 : decode prog_1_method_34_code 32 = .ok (.iconst (-1), 1) := by decide +kernel
theorem ad_Nh_think_33 : decode prog_1_method_34_code 33 = .ok (.istore 7, 2) := by decide +kernel
theorem ad_Nh_think_35 : decode prog_1_method_34_code 35 = .ok (.iconst 0, 1) := by decide +kernel
theorem ad_Nh_think_36 : decode prog_1_method_34_code 36 = .ok (.istore 8, 2) := by decide +kernel
theorem ad_Nh_think_38 : decode prog_1_method_34_code 38 = .ok (.iconst 0, 1) := by decide +kernel
theorem ad_Nh_think_39 : decode prog_1_method_34_code 39 = .ok (.istore 9, 2) := by decide +kernel
theorem ad_Nh_think_41 : decode prog_1_method_34_code 41 = .ok (.iload 9, 2) := by decide +kernel
theorem ad_Nh_think_43 : decode prog_1_method_34_code 43 = .ok (.aload 5, 2) := by decide +kernel
theorem ad_Nh_think_45 : decode prog_1_method_34_code 45 = .ok (.getfield 210, 3) := by decide +kernel
theorem ad_Nh_think_48 : decode prog_1_method_34_code 48 = .ok (.if_icmp .ge 84, 3) := by decide +kernel
theorem ad_Nh_think_51 : decode prog_1_method_34_code 51 = .ok (.aload_n 0, 1) := by decide +kernel
theorem ad_Nh_think_52 : decode prog_1_method_34_code 52 = .ok (.getfield 77, 3) := by decide +kernel
theorem ad_Nh_think_55 : decode prog_1_method_34_code 55 = .ok (.iload 9, 2) := by decide +kernel
theorem ad_Nh_think_57 : decode prog_1_method_34_code 57 = .ok (.iload 9, 2) := by decide +kernel
theorem ad_Nh_think_59 : decode prog_1_method_34_code 59 = .ok (.iload_n 1, 1) := by decide +kernel
theorem ad_Nh_think_60 : decode prog_1_method_34_code 60 = .ok (.if_icmp .eq 27, 3) := by decide +kernel
theorem ad_Nh_think_63 : decode prog_1_method_34_code 63 = .ok (.aload 5, 2) := by decide +kernel
theorem ad_Nh_think_65 : decode prog_1_method_34_code 65 = .ok (.iload 9, 2) := by decide +kernel
theorem ad_Nh_think_67 : decode prog_1_method_34_code 67 = .ok (.iload_n 2, 1) := by decide +kernel
theorem ad_Nh_think_68 : decode prog_1_method_34_code 68 = .ok (.invokevirtual 310, 3) := by decide +kernel
theorem ad_Nh_think_71 : decode prog_1_method_34_code 71 = .ok (.ifCond .eq 16, 3) := by decide +kernel
theorem ad_Nh_think_74 : decode prog_1_method_34_code 74 = .ok (.aload_n 0, 1) := by decide +kernel
theorem ad_Nh_think_75 : decode prog_1_method_34_code 75 = .ok (.iload_n 1, 1) := by decide +kernel
theorem ad_Nh_think_76 : decode prog_1_method_34_code 76 = .ok (.iload 9, 2) := by decide +kernel
theorem ad_Nh_think_78 : decode prog_1_method_34_code 78 = .ok (.iload_n 3, 1) := by decide +kernel
theorem ad_Nh_think_79 : decode prog_1_method_34_code 79 = .ok (.iload 4, 2) := by decide +kernel
theorem ad_Nh_think_81 : decode prog_1_method_34_code 81 = .ok (.invokevirtual 313, 3) := by decide +kernel
theorem ad_Nh_think_84 : decode prog_1_method_34_code 84 = .ok (.goto 4, 3) := by decide +kernel
theorem ad_Nh_think_87 : decode prog_1_method_34_code 87 = .ok (.iconst 0, 1) := by decide +kernel
theorem ad_Nh_think_88 : decode prog_1_method_34_code 88 = .ok (.iastore, 1) := by decide +kernel
theorem ad_Nh_think_89 : decode prog_1_method_34_code 89 = .ok (.iload 6, 2) := by decide +kernel
theorem ad_Nh_think_91 : decode prog_1_method_34_code 91 = .ok (.aload_n 0, 1) := by decide +kernel
theorem ad_Nh_think_92 : decode prog_1_method_34_code 92 = .ok (.getfield 77, 3) := by decide +kernel
theorem ad_Nh_think_95 : decode prog_1_method_34_code 95 = .ok (.iload 9, 2) := by decide +kernel
theorem ad_Nh_think_97 : decode prog_1_method_34_code 97 = .ok (.iaload, 1) := by decide +kernel
theorem ad_Nh_think_98 : decode prog_1_method_34_code 98 = .ok (.iadd, 1) := by decide +kernel
theorem ad_Nh_think_99 : decode prog_1_method_34_code 99 = .ok (.istore 6, 2) := by decide +kernel
theorem ad_Nh_think_101 : decode prog_1_method_34_code 101 = .ok (.aload_n 0, 1) := by decide +kernel
theorem ad_Nh_think_102 : decode prog_1_method_34_code 102 = .ok (.getfield 77, 3) := by decide +kernel
theorem ad_Nh_think_105 : decode prog_1_method_34_code 105 = .ok (.iload 9, 2) := by decide +kernel
theorem ad_Nh_think_107 : decode prog_1_method_34_code 107 = .ok (.iaload, 1) := by decide +kernel
theorem ad_Nh_think_108 : decode prog_1_method_34_code 108 = .ok (.iload 8, 2) := by decide +kernel
theorem ad_Nh_think_110 : decode prog_1_method_34_code 110 = .ok (.if_icmp .le 16, 3) := by decide +kernel
theorem ad_Nh_think_113 : decode prog_1_method_34_code 113 = .ok (.aload_n 0, 1) := by decide +kernel
theorem ad_Nh_think_114 : decode prog_1_method_34_code 114 = .ok (.getfield 77, 3) := by decide +kernel
theorem ad_Nh_think_117 : decode prog_1_method_34_code 117 = .ok (.iload 9, 2) := by decide +kernel
theorem ad_Nh_think_119 : decode prog_1_method_34_code 119 = .ok (.iaload, 1) := by decide +kernel
theorem ad_Nh_think_120 : decode prog_1_method_34_code 120 = .ok (.istore 8, 2) := by decide +kernel
theorem ad_Nh_think_122 : decode prog_1_method_34_code 122 = .ok (.iload 9, 2) := by decide +kernel
theorem ad_Nh_think_124 : decode prog_1_method_34_code 124 = .ok (.istore 7, 2) := by decide +kernel
theorem ad_Nh_think_126 : decode prog_1_method_34_code 126 = .ok (.iinc 9 1, 3) := by decide +kernel
theorem ad_Nh_think_129 : decode prog_1_method_34_code 129 = .ok (.goto (-88), 3) := by decide +kernel
theorem ad_Nh_think_132 : decode prog_1_method_34_code 132 = .ok (.iload 7, 2) := by decide +kernel
theorem ad_Nh_think_134 : decode prog_1_method_34_code 134 = .ok (.iconst (-1), 1) := by decide +kernel
theorem ad_Nh_think_135 : decode prog_1_method_34_code 135 = .ok (.if_icmp .eq 33, 3) := by decide +kernel
theorem ad_Nh_think_138 : decode prog_1_method_34_code 138 = .ok (.aload_n 0, 1) := by decide +kernel
theorem ad_Nh_think_139 : decode prog_1_method_34_code 139 = .ok (.getfield 77, 3) := by decide +kernel
theorem ad_Nh_think_142 : decode prog_1_method_34_code 142 = .ok (.iconst 0, 1) := by decide +kernel
theorem ad_Nh_think_143 : decode prog_1_method_34_code 143 = .ok (.aload_n 0, 1) := by decide +kernel
theorem ad_Nh_think_144 : decode prog_1_method_34_code 144 = .ok (.getfield 73, 3) := by decide +kernel
theorem ad_Nh_think_147 : decode prog_1_method_34_code 147 = .ok (.iconst 0, 1) := by decide +kernel
theorem ad_Nh_think_148 : decode prog_1_method_34_code 148 = .ok (.bipush 8, 2) := by decide +kernel
theorem ad_Nh_think_150 : decode prog_1_method_34_code 150 = .ok (.invokestatic 252, 3) := by decide +kernel
theorem ad_Nh_think_153 : decode prog_1_method_34_code 153 = .ok (.aload_n 0, 1) := by decide +kernel
theorem ad_Nh_think_154 : decode prog_1_method_34_code 154 = .ok (.aload 5, 2) := by decide +kernel
theorem ad_Nh_think_156 : decode prog_1_method_34_code 156 = .ok (.getfield 210, 3) := by decide +kernel
theorem ad_Nh_think_159 : decode prog_1_method_34_code 159 = .ok (.putfield 80, 3) := by decide +kernel
theorem ad_Nh_think_162 : decode prog_1_method_34_code 162 = .ok (.aload_n 0, 1) := by decide +kernel
theorem ad_Nh_think_163 : decode prog_1_method_34_code 163 = .ok (.iload 6, 2) := by decide +kernel
theorem ad_Nh_think_165 : decode prog_1_method_34_code 165 = .ok (.putfield 83, 3) := by decide +kernel
theorem ad_Nh_think_168 : decode prog_1_method_34_code 168 = .ok (.iload 7, 2) := by decide +kernel
theorem ad_Nh_think_170 : decode prog_1_method_34_code 170 = .ok (.ireturn, 1) := by decide +kernel
theorem ad_Nh_likely_0 : decode prog_1_method_35_code 0 = .ok (.iload 4, 2) := by decide +kernel
theorem ad_Nh_likely_2 : decode prog_1_method_35_code 2 = .ok (.iload_n 2, 1) := by decide +kernel
theorem ad_Nh_likely_3 : decode prog_1_method_35_code 3 = .ok (.ishr, 1) := by decide +kernel
theorem ad_Nh_likely_4 : decode prog_1_method_35_code 4 = .ok (.iconst 1, 1) := by decide +kernel
theorem ad_Nh_likely_5 : decode prog_1_method_35_code 5 = .ok (.iand, 1) := by decide +kernel
theorem ad_Nh_likely_6 : decode prog_1_method_35_code 6 = .ok (.iconst 1, 1) := by decide +kernel
theorem ad_Nh_likely_7 : decode prog_1_method_35_code 7 = .ok (.if_icmp .ne 5, 3) := by decide +kernel
theorem ad_Nh_likely_10 : decode prog_1_method_35_code 10 = .ok (.iconst 0, 1) := by decide +kernel
theorem ad_Nh_likely_11 : decode prog_1_method_35_code 11 = .ok (.ireturn, 1) := by decide +kernel
theorem ad_Nh_likely_12 : decode prog_1_method_35_code 12 = .ok (.iconst 1, 1) := by decide +kernel
theorem ad_Nh_likely_13 : decode prog_1_method_35_code 13 = .ok (.aload_n 0, 1) := by decide +kernel
theorem ad_Nh_likely_14 : decode prog_1_method_35_code 14 = .ok (.getfield 23, 3) := by decide +kernel
theorem ad_Nh_likely_17 : decode prog_1_method_35_code 17 = .ok (.getfield 118, 3) := by decide +kernel
theorem ad_Nh_likely_20 : decode prog_1_method_35_code 20 = .ok (.iload_n 2, 1) := by decide +kernel
theorem ad_Nh_likely_21 : decode prog_1_method_35_code 21 = .ok (.iload_n 1, 1) := by decide +kernel
theorem ad_Nh_likely_22 : decode prog_1_method_35_code 22 = .ok (.invokevirtual 195, 3) := by decide +kernel
theorem ad_Nh_likely_25 : decode prog_1_method_35_code 25 = .ok (.iadd, 1) := by decide +kernel
theorem ad_Nh_likely_26 : decode prog_1_method_35_code 26 = .ok (.istore 5, 2) := by decide +kernel
theorem ad_Nh_likely_28 : decode prog_1_method_35_code 28 = .ok (.iload_n 3, 1) := by decide +kernel
theorem ad_Nh_likely_29 : decode prog_1_method_35_code 29 = .ok (.iload_n 2, 1) := by decide +kernel
theorem ad_Nh_likely_30 : decode prog_1_method_35_code 30 = .ok (.ishr, 1) := by decide +kernel
theorem ad_Nh_likely_31 : decode prog_1_method_35_code 31 = .ok (.iconst 1, 1) := by decide +kernel
theorem ad_Nh_likely_32 : decode prog_1_method_35_code 32 = .ok (.iand, 1) := by decide +kernel
theorem ad_Nh_likely_33 : decode prog_1_method_35_code 33 = .ok (.iconst 1, 1) := by decide +kernel
theorem ad_Nh_likely_34 : decode prog_1_method_35_code 34 = .ok (.if_icmp .ne 10, 3) := by decide +kernel
theorem ad_Nh_likely_37 : decode prog_1_method_35_code 37 = .ok (.iconst 3, 1) := by decide +kernel
theorem ad_Nh_likely_38 : decode prog_1_method_35_code 38 = .ok (.iload 5, 2) := by decide +kernel
theorem ad_Nh_likely_40 : decode prog_1_method_35_code 40 = .ok (.imul, 1) := by decide +kernel
theorem ad_Nh_likely_41 : decode prog_1_method_35_code 41 = .ok (.goto 5, 3) := by decide +kernel
theorem ad_Nh_likely_44 : decode prog_1_method_35_code 44 = .ok (.iload 5, 2) := by decide +kernel
theorem ad_Nh_likely_46 : decode prog_1_method_35_code 46 = .ok (.ireturn, 1) := by decide +kernel
theorem ad_Nh_thinkOf_0 : decode prog_1_method_36_code 0 = .ok (.iload_n 1, 1) := by decide +kernel
theorem ad_Nh_thinkOf_1 : decode prog_1_method_36_code 1 = .ok (.ifCond .lt 26, 3) := by decide +kernel
theorem ad_Nh_thinkOf_4 : decode prog_1_method_36_code 4 = .ok (.iload_n 1, 1) := by decide +kernel
theorem ad_Nh_thinkOf_5 : decode prog_1_method_36_code 5 = .ok (.aload_n 0, 1) := by decide +kernel
theorem ad_Nh_thinkOf_6 : decode prog_1_method_36_code 6 = .ok (.getfield 80, 3) := by decide +kernel
theorem ad_Nh_thinkOf_9 : decode prog_1_method_36_code 9 = .ok (.if_icmp .ge 18, 3) := by decide +kernel
theorem ad_Nh_thinkOf_12 : decode prog_1_method_36_code 12 = .ok (.iload_n 1, 1) := by decide +kernel
theorem ad_Nh_thinkOf_13 : decode prog_1_method_36_code 13 = .ok (.bipush 8, 2) := by decide +kernel
theorem ad_Nh_thinkOf_15 : decode prog_1_method_36_code 15 = .ok (.if_icmp .ge 12, 3) := by decide +kernel
theorem ad_Nh_thinkOf_18 : decode prog_1_method_36_code 18 = .ok (.iload_n 2, 1) := by decide +kernel
theorem ad_Nh_thinkOf_19 : decode prog_1_method_36_code 19 = .ok (.ifCond .lt 8, 3) := by decide +kernel
theorem ad_Nh_thinkOf_22 : decode prog_1_method_36_code 22 = .ok (.iload_n 2, 1) := by decide +kernel
theorem ad_Nh_thinkOf_23 : decode prog_1_method_36_code 23 = .ok (.iconst 1, 1) := by decide +kernel
theorem ad_Nh_thinkOf_24 : decode prog_1_method_36_code 24 = .ok (.if_icmp .le 5, 3) := by decide +kernel
theorem ad_Nh_thinkOf_27 : decode prog_1_method_36_code 27 = .ok (.iconst (-1), 1) := by decide +kernel
theorem ad_Nh_thinkOf_28 : decode prog_1_method_36_code 28 = .ok (.ireturn, 1) := by decide +kernel
theorem ad_Nh_thinkOf_29 : decode prog_1_method_36_code 29 = .ok (.iload_n 2, 1) := by decide +kernel
theorem ad_Nh_thinkOf_30 : decode prog_1_method_36_code 30 = .ok (.ifCond .ne 12, 3) := by decide +kernel
theorem ad_Nh_thinkOf_33 : decode prog_1_method_36_code 33 = .ok (.aload_n 0, 1) := by decide +kernel
theorem ad_Nh_thinkOf_34 : decode prog_1_method_36_code 34 = .ok (.getfield 73, 3) := by decide +kernel
theorem ad_Nh_thinkOf_37 : decode prog_1_method_36_code 37 = .ok (.iload_n 1, 1) := by decide +kernel
theorem ad_Nh_thinkOf_38 : decode prog_1_method_36_code 38 = .ok (.iaload, 1) := by decide +kernel
theorem ad_Nh_thinkOf_39 : decode prog_1_method_36_code 39 = .ok (.goto 7, 3) := by decide +kernel
theorem ad_Nh_thinkOf_42 : decode prog_1_method_36_code 42 = .ok (.aload_n 0, 1) := by decide +kernel
theorem ad_Nh_thinkOf_43 : decode prog_1_method_36_code 43 = .ok (.getfield 83, 3) := by decide +kernel
theorem ad_Nh_thinkOf_46 : decode prog_1_method_36_code 46 = .ok (.ireturn, 1) := by decide +kernel
theorem ad_Nh_said_0 : decode prog_1_method_37_code 0 = .ok (.aload_n 0, 1) := by decide +kernel
theorem ad_Nh_said_1 : decode prog_1_method_37_code 1 = .ok (.getfield 23, 3) := by decide +kernel
theorem ad_Nh_said_4 : decode prog_1_method_37_code 4 = .ok (.getfield 317, 3) := by decide +kernel
theorem ad_Nh_said_7 : decode prog_1_method_37_code 7 = .ok (.istore_n 1, 1) := by decide +kernel
theorem ad_Nh_said_8 : decode prog_1_method_37_code 8 = .ok (.iload_n 1, 1) := by decide +kernel
theorem ad_Nh_said_9 : decode prog_1_method_37_code 9 = .ok (.ifCond .eq 35, 3) := by decide +kernel
theorem ad_Nh_said_12 : decode prog_1_method_37_code 12 = .ok (.aload_n 0, 1) := by decide +kernel
theorem ad_Nh_said_13 : decode prog_1_method_37_code 13 = .ok (.getfield 48, 3) := by decide +kernel
theorem ad_Nh_said_16 : decode prog_1_method_37_code 16 = .ok (.aload_n 0, 1) := by decide +kernel
theorem ad_Nh_said_17 : decode prog_1_method_37_code 17 = .ok (.getfield 23, 3) := by decide +kernel
theorem ad_Nh_said_20 : decode prog_1_method_37_code 20 = .ok (.getfield 320, 3) := by decide +kernel
