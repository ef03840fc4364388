/-! the instructions -/
theorem ad_Md_wrong_0 : decode prog_14_method_62_code 0 = .ok (.aload_n 0, 1) := by decide +kernel
theorem ad_Md_wrong_1 : decode prog_14_method_62_code 1 = .ok (.iconst 0, 1) := by decide +kernel
theorem ad_Md_wrong_2 : decode prog_14_method_62_code 2 = .ok (.putfield 102, 3) := by decide +kernel
theorem ad_Md_wrong_5 : decode prog_14_method_62_code 5 = .ok (.aload_n 0, 1) := by decide +kernel
theorem ad_Md_wrong_6 : decode prog_14_method_62_code 6 = .ok (.invokevirtual 326, 3) := by decide +kernel
theorem ad_Md_wrong_9 : decode prog_14_method_62_code 9 = .ok (.iload_n 1, 1) := by decide +kernel
theorem ad_Md_wrong_10 : decode prog_14_method_62_code 10 = .ok (.ifCond .lt 24, 3) := by decide +kernel
theorem ad_Md_wrong_13 : decode prog_14_method_62_code 13 = .ok (.iload_n 1, 1) := by decide +kernel
theorem ad_Md_wrong_14 : decode prog_14_method_62_code 14 = .ok (.aload_n 0, 1) := by decide +kernel
theorem ad_Md_wrong_15 : decode prog_14_method_62_code 15 = .ok (.getfield 13, 3) := by decide +kernel
theorem ad_Md_wrong_18 : decode prog_14_method_62_code 18 = .ok (.sipush 341, 3) := by decide +kernel
theorem ad_Md_wrong_21 : decode prog_14_method_62_code 21 = .ok (.iaload, 1) := by decide +kernel
theorem ad_Md_wrong_22 : decode prog_14_method_62_code 22 = .ok (.if_icmp .ge 12, 3) := by decide +kernel
theorem ad_Md_wrong_25 : decode prog_14_method_62_code 25 = .ok (.aload_n 0, 1) := by decide +kernel
theorem ad_Md_wrong_26 : decode prog_14_method_62_code 26 = .ok (.getfield 57, 3) := by decide +kernel
theorem ad_Md_wrong_29 : decode prog_14_method_62_code 29 = .ok (.iload_n 1, 1) := by decide +kernel
theorem ad_Md_wrong_30 : decode prog_14_method_62_code 30 = .ok (.iaload, 1) := by decide +kernel
theorem ad_Md_wrong_31 : decode prog_14_method_62_code 31 = .ok (.goto 4, 3) := by decide +kernel
theorem ad_Md_wrong_34 : decode prog_14_method_62_code 34 = .ok (.iconst (-1), 1) := by decide +kernel
theorem ad_Md_wrong_35 : decode prog_14_method_62_code 35 = .ok (.ireturn, 1) := by decide +kernel
theorem ad_Md_judge_0 : decode prog_14_method_63_code 0 = .ok (.aload_n 0, 1) := by decide +kernel
theorem ad_Md_judge_1 : decode prog_14_method_63_code 1 = .ok (.iconst 0, 1) := by decide +kernel
theorem ad_Md_judge_2 : decode prog_14_method_63_code 2 = .ok (.putfield 102, 3) := by decide +kernel
theorem ad_Md_judge_5 : decode prog_14_method_63_code 5 = .ok (.aload_n 0, 1) := by decide +kernel
theorem ad_Md_judge_6 : decode prog_14_method_63_code 6 = .ok (.invokevirtual 326, 3) := by decide +kernel
theorem ad_Md_judge_9 : decode prog_14_method_63_code 9 = .ok (.iload_n 1, 1) := by decide +kernel
theorem ad_Md_judge_10 : decode prog_14_method_63_code 10 = .ok (.tableswitch 107 0 4 #[34, 39, 44, 49, 78], 34) := by decide +kernel
theorem ad_Md_judge_44 : decode prog_14_method_63_code 44 = .ok (.aload_n 0, 1) := by decide +kernel
theorem ad_Md_judge_45 : decode prog_14_method_63_code 45 = .ok (.getfield 313, 3) := by decide +kernel
theorem ad_Md_judge_48 : decode prog_14_method_63_code 48 = .ok (.ireturn, 1) := by decide +kernel
theorem ad_Md_judge_49 : decode prog_14_method_63_code 49 = .ok (.aload_n 0, 1) := by decide +kernel
theorem ad_Md_judge_50 : decode prog_14_method_63_code 50 = .ok (.getfield 307, 3) := by decide +kernel
theorem ad_Md_judge_53 : decode prog_14_method_63_code 53 = .ok (.ireturn, 1) := by decide +kernel
theorem ad_Md_judge_54 : decode prog_14_method_63_code 54 = .ok (.aload_n 0, 1) := by decide +kernel
theorem ad_Md_judge_55 : decode prog_14_method_63_code 55 = .ok (.getfield 295, 3) := by decide +kernel
theorem ad_Md_judge_58 : decode prog_14_method_63_code 58 = .ok (.ireturn, 1) := by decide +kernel
theorem ad_Md_judge_59 : decode prog_14_method_63_code 59 = .ok (.iconst 0, 1) := by decide +kernel
theorem ad_Md_judge_60 : decode prog_14_method_63_code 60 = .ok (.istore_n 2, 1) := by decide +kernel
theorem ad_Md_judge_61 : decode prog_14_method_63_code 61 = .ok (.iconst 0, 1) := by decide +kernel
theorem ad_Md_judge_62 : decode prog_14_method_63_code 62 = .ok (.istore_n 3, 1) := by decide +kernel
theorem ad_Md_judge_63 : decode prog_14_method_63_code 63 = .ok (.iload_n 3, 1) := by decide +kernel
theorem ad_Md_judge_64 : decode prog_14_method_63_code 64 = .ok (.aload_n 0, 1) := by decide +kernel
theorem ad_Md_judge_65 : decode prog_14_method_63_code 65 = .ok (.invokevirtual 201, 3) := by decide +kernel
theorem ad_Md_judge_68 : decode prog_14_method_63_code 68 = .ok (.if_icmp .ge 18, 3) := by decide +kernel
theorem ad_Md_judge_71 : decode prog_14_method_63_code 71 = .ok (.iload_n 2, 1) := by decide +kernel
theorem ad_Md_judge_72 : decode prog_14_method_63_code 72 = .ok (.aload_n 0, 1) := by decide +kernel
theorem ad_Md_judge_73 : decode prog_14_method_63_code 73 = .ok (.getfield 48, 3) := by decide +kernel
theorem ad_Md_judge_76 : decode prog_14_method_63_code 76 = .ok (.iload_n 3, 1) := by decide +kernel
theorem ad_Md_judge_77 : decode prog_14_method_63_code 77 = .ok (.iaload, 1) := by decide +kernel
theorem ad_Md_judge_78 : decode prog_14_method_63_code 78 = .ok (.iadd, 1) := by decide +kernel
theorem ad_Md_judge_79 : decode prog_14_method_63_code 79 = .ok (.istore_n 2, 1) := by decide +kernel
theorem ad_Md_judge_80 : decode prog_14_method_63_code 80 = .ok (.iinc 3 1, 3) := by decide +kernel
theorem ad_Md_judge_83 : decode prog_14_method_63_code 83 = .ok (.goto (-20), 3) := by decide +kernel
theorem ad_Md_judge_86 : decode prog_14_method_63_code 86 = .ok (.iload_n 2, 1) := by decide +kernel
theorem ad_Md_judge_87 : decode prog_14_method_63_code 87 = .ok (.ireturn, 1) := by decide +kernel
theorem ad_Md_judge_88 : decode prog_14_method_63_code 88 = .ok (.iconst 0, 1) := by decide +kernel
theorem ad_Md_judge_89 : decode prog_14_method_63_code 89 = .ok (.istore_n 2, 1) := by decide +kernel
theorem ad_Md_judge_90 : decode prog_14_method_63_code 90 = .ok (.iconst 0, 1) := by decide +kernel
theorem ad_Md_judge_91 : decode prog_14_method_63_code 91 = .ok (.istore_n 3, 1) := by decide +kernel
theorem ad_Md_judge_92 : decode prog_14_method_63_code 92 = .ok (.iload_n 3, 1) := by decide +kernel
theorem ad_Md_judge_93 : decode prog_14_method_63_code 93 = .ok (.aload_n 0, 1) := by decide +kernel
theorem ad_Md_judge_94 : decode prog_14_method_63_code 94 = .ok (.invokevirtual 201, 3) := by decide +kernel
theorem ad_Md_judge_97 : decode prog_14_method_63_code 97 = .ok (.if_icmp .ge 18, 3) := by decide +kernel
theorem ad_Md_judge_100 : decode prog_14_method_63_code 100 = .ok (.iload_n 2, 1) := by decide +kernel
theorem ad_Md_judge_101 : decode prog_14_method_63_code 101 = .ok (.aload_n 0, 1) := by decide +kernel
theorem ad_Md_judge_102 : decode prog_14_method_63_code 102 = .ok (.getfield 51, 3) := by decide +kernel
theorem ad_Md_judge_105 : decode prog_14_method_63_code 105 = .ok (.iload_n 3, 1) := by decide +kernel
theorem ad_Md_judge_106 : decode prog_14_method_63_code 106 = .ok (.iaload, 1) := by decide +kernel
theorem ad_Md_judge_107 : decode prog_14_method_63_code 107 = .ok (.iadd, 1) := by decide +kernel
theorem ad_Md_judge_108 : decode prog_14_method_63_code 108 = .ok (.istore_n 2, 1) := by decide +kernel
theorem ad_Md_judge_109 : decode prog_14_method_63_code 109 = .ok (.iinc 3 1, 3) := by decide +kernel
theorem ad_Md_judge_112 : decode prog_14_method_63_code 112 = .ok (.goto (-20), 3) := by decide +kernel
theorem ad_Md_judge_115 : decode prog_14_method_63_code 115 = .ok (.iload_n 2, 1) := by decide +kernel
theorem ad_Md_judge_116 : decode prog_14_method_63_code 116 = .ok (.ireturn, 1) := by decide +kernel
theorem ad_Md_judge_117 : decode prog_14_method_63_code 117 = .ok (.iconst (-1), 1) := by decide +kernel
theorem ad_Md_judge_118 : decode prog_14_method_63_code 118 = .ok (.ireturn, 1) := by decide +kernel
theorem ad_Md_felt_0 : decode prog_14_method_64_code 0 = .ok (.aload_n 0, 1) := by decide +kernel
theorem ad_Md_felt_1 : decode prog_14_method_64_code 1 = .ok (.getfield 48, 3) := by decide +kernel
theorem ad_Md_felt_4 : decode prog_14_method_64_code 4 = .ok (.iload_n 1, 1) := by decide +kernel
theorem ad_Md_felt_5 : decode prog_14_method_64_code 5 = .ok (.iaload, 1) := by decide +kernel
theorem ad_Md_felt_6 : decode prog_14_method_64_code 6 = .ok (.istore_n 2, 1) := by decide +kernel
theorem ad_Md_felt_7 : decode prog_14_method_64_code 7 = .ok (.iconst 0, 1) := by decide +kernel
theorem ad_Md_felt_8 : decode prog_14_method_64_code 8 = .ok (.istore_n 3, 1) := by decide +kernel
theorem ad_Md_felt_9 : decode prog_14_method_64_code 9 = .ok (.iload_n 3, 1) := by decide +kernel
theorem ad_Md_felt_10 : decode prog_14_method_64_code 10 = .ok (.aload_n 0, 1) := by decide +kernel
theorem ad_Md_felt_11 : decode prog_14_method_64_code 11 = .ok (.invokevirtual 201, 3) := by decide +kernel
theorem ad_Md_felt_14 : decode prog_14_method_64_code 14 = .ok (.if_icmp .ge 28, 3) := by decide +kernel
theorem ad_Md_felt_17 : decode prog_14_method_64_code 17 = .ok (.iload_n 2, 1) := by decide +kernel
theorem ad_Md_felt_18 : decode prog_14_method_64_code 18 = .ok (.aload_n 0, 1) := by decide +kernel
theorem ad_Md_felt_19 : decode prog_14_method_64_code 19 = .ok (.iload_n 1, 1) := by decide +kernel
theorem ad_Md_felt_20 : decode prog_14_method_64_code 20 = .ok (.iload_n 3, 1) := by decide +kernel
theorem ad_Md_felt_21 : decode prog_14_method_64_code 21 = .ok (.invokevirtual 270, 3) := by decide +kernel
theorem ad_Md_felt_24 : decode prog_14_method_64_code 24 = .ok (.aload_n 0, 1) := by decide +kernel
theorem ad_Md_felt_25 : decode prog_14_method_64_code 25 = .ok (.getfield 48, 3) := by decide +kernel
theorem ad_Md_felt_28 : decode prog_14_method_64_code 28 = .ok (.iload_n 3, 1) := by decide +kernel
theorem ad_Md_felt_29 : decode prog_14_method_64_code 29 = .ok (.iaload, 1) := by decide +kernel
theorem ad_Md_felt_30 : decode prog_14_method_64_code 30 = .ok (.imul, 1) := by decide +kernel
theorem ad_Md_felt_31 : decode prog_14_method_64_code 31 = .ok (.bipush 10, 2) := by decide +kernel
theorem ad_Md_felt_33 : decode prog_14_method_64_code 33 = .ok (.idiv, 1) := by decide +kernel
theorem ad_Md_felt_34 : decode prog_14_method_64_code 34 = .ok (.iadd, 1) := by decide +kernel
theorem ad_Md_felt_35 : decode prog_14_method_64_code 35 = .ok (.istore_n 2, 1) := by decide +kernel
theorem ad_Md_felt_36 : decode prog_14_method_64_code 36 = .ok (.iinc 3 1, 3) := by decide +kernel
theorem ad_Md_felt_39 : decode prog_14_method_64_code 39 = .ok (.goto (-30), 3) := by decide +kernel
theorem ad_Md_felt_42 : decode prog_14_method_64_code 42 = .ok (.iload_n 2, 1) := by decide +kernel
theorem ad_Md_felt_43 : decode prog_14_method_64_code 43 = .ok (.ireturn, 1) := by decide +kernel
theorem ad_Md_cameOf_0 : decode prog_14_method_65_code 0 = .ok (.iload_n 2, 1) := by decide +kernel
theorem ad_Md_cameOf_1 : decode prog_14_method_65_code 1 = .ok (.tableswitch 61 0 3 #[31, 38, 44, 51], 31) := by decide +kernel
theorem ad_Md_cameOf_32 : decode prog_14_method_65_code 32 = .ok (.aload_n 0, 1) := by decide +kernel
theorem ad_Md_cameOf_33 : decode prog_14_method_65_code 33 = .ok (.getfield 48, 3) := by decide +kernel
theorem ad_Md_cameOf_36 : decode prog_14_method_65_code 36 = .ok (.iload_n 1, 1) := by decide +kernel
theorem ad_Md_cameOf_37 : decode prog_14_method_65_code 37 = .ok (.iaload, 1) := by decide +kernel
theorem ad_Md_cameOf_38 : decode prog_14_method_65_code 38 = .ok (.ireturn, 1) := by decide +kernel
theorem ad_Md_cameOf_39 : decode prog_14_method_65_code 39 = .ok (.aload_n 0, 1) := by decide +kernel
theorem ad_Md_cameOf_40 : decode prog_14_method_65_code 40 = .ok (.iload_n 1, 1) := by decide +kernel
theorem ad_Md_cameOf_41 : decode prog_14_method_65_code 41 = .ok (.invokevirtual 329, 3) := by decide +kernel
theorem ad_Md_cameOf_44 : decode prog_14_method_65_code 44 = .ok (.ireturn, 1) := by decide +kernel
theorem ad_Md_cameOf_45 : decode prog_14_method_65_code 45 = .ok (.aload_n 0, 1) := by decide +kernel
theorem ad_Md_cameOf_46 : decode prog_14_method_65_code 46 = .ok (.getfield 51, 3) := by decide +kernel
theorem ad_Md_cameOf_49 : decode prog_14_method_65_code 49 = .ok (.iload_n 1, 1) := by decide +kernel
theorem ad_Md_cameOf_50 : decode prog_14_method_65_code 50 = .ok (.iaload, 1) := by decide +kernel
theorem ad_Md_cameOf_51 : decode prog_14_method_65_code 51 = .ok (.ireturn, 1) := by decide +kernel
theorem ad_Md_cameOf_52 : decode prog_14_method_65_code 52 = .ok (.aload_n 0, 1) := by decide +kernel
theorem ad_Md_cameOf_53 : decode prog_14_method_65_code 53 = .ok (.iload_n 1, 1) := by decide +kernel
theorem ad_Md_cameOf_54 : decode prog_14_method_65_code 54 = .ok (.aload_n 0, 1) := by decide +kernel
theorem ad_Md_cameOf_55 : decode prog_14_method_65_code 55 = .ok (.getfield 292, 3) := by decide +kernel
theorem ad_Md_cameOf_58 : decode prog_14_method_65_code 58 = .ok (.invokevirtual 304, 3) := by decide +kernel
theorem ad_Md_cameOf_61 : decode prog_14_method_65_code 61 = .ok (.ireturn, 1) := by decide +kernel
theorem ad_Md_cameOf_62 : decode prog_14_method_65_code 62 = .ok (.aload_n 0, 1) := by decide +kernel
theorem ad_Md_cameOf_63 : decode prog_14_method_65_code 63 = .ok (.getfield 54, 3) := by decide +kernel
theorem ad_Md_cameOf_66 : decode prog_14_method_65_code 66 = .ok (.iload_n 1, 1) := by decide +kernel
theorem ad_Md_cameOf_67 : decode prog_14_method_65_code 67 = .ok (.iaload, 1) := by decide +kernel
theorem ad_Md_cameOf_68 : decode prog_14_method_65_code 68 = .ok (.ireturn, 1) := by decide +kernel
theorem ad_Md_came_0 : decode prog_14_method_66_code 0 = .ok (.aload_n 0, 1) := by decide +kernel
theorem ad_Md_came_1 : decode prog_14_method_66_code 1 = .ok (.invokevirtual 187, 3) := by decide +kernel
theorem ad_Md_came_4 : decode prog_14_method_66_code 4 = .ok (.aload_n 0, 1) := by decide +kernel
theorem ad_Md_came_5 : decode prog_14_method_66_code 5 = .ok (.iload_n 1, 1) := by decide +kernel
theorem ad_Md_came_6 : decode prog_14_method_66_code 6 = .ok (.invokevirtual 261, 3) := by decide +kernel
theorem ad_Md_came_9 : decode prog_14_method_66_code 9 = .ok (.ifCond .eq 12, 3) := by decide +kernel
theorem ad_Md_came_12 : decode prog_14_method_66_code 12 = .ok (.iload_n 2, 1) := by decide +kernel
theorem ad_Md_came_13 : decode prog_14_method_66_code 13 = .ok (.iconst 0, 1) := by decide +kernel
theorem ad_Md_came_14 : decode prog_14_method_66_code 14 = .ok (.iconst 4, 1) := by decide +kernel
theorem ad_Md_came_15 : decode prog_14_method_66_code 15 = .ok (.invokestatic 174, 3) := by decide +kernel
theorem ad_Md_came_18 : decode prog_14_method_66_code 18 = .ok (.ifCond .ne 8, 3) := by decide +kernel
theorem ad_Md_came_21 : decode prog_14_method_66_code 21 = .ok (.aload_n 0, 1) := by decide +kernel
theorem ad_Md_came_22 : decode prog_14_method_66_code 22 = .ok (.invokevirtual 254, 3) := by decide +kernel
theorem ad_Md_came_25 : decode prog_14_method_66_code 25 = .ok (.ireturn, 1) := by decide +kernel
theorem ad_Md_came_26 : decode prog_14_method_66_code 26 = .ok (.aload_n 0, 1) := by decide +kernel
theorem ad_Md_came_27 : decode prog_14_method_66_code 27 = .ok (.iconst 0, 1) := by decide +kernel
theorem ad_Md_came_28 : decode prog_14_method_66_code 28 = .ok (.putfield 102, 3) := by decide +kernel
theorem ad_Md_came_31 : decode prog_14_method_66_code 31 = .ok (.aload_n 0, 1) := by decide +kernel
theorem ad_Md_came_32 : decode prog_14_method_66_code 32 = .ok (.invokevirtual 326, 3) := by decide +kernel
theorem ad_Md_came_35 : decode prog_14_method_66_code 35 = .ok (.aload_n 0, 1) := by decide +kernel
theorem ad_Md_came_36 : decode prog_14_method_66_code 36 = .ok (.iload_n 1, 1) := by decide +kernel
theorem ad_Md_came_37 : decode prog_14_method_66_code 37 = .ok (.iload_n 2, 1) := by decide +kernel
theorem ad_Md_came_38 : decode prog_14_method_66_code 38 = .ok (.invokevirtual 332, 3) := by decide +kernel
theorem ad_Md_came_41 : decode prog_14_method_66_code 41 = .ok (.ireturn, 1) := by decide +kernel
theorem ad_Md_bound_0 : decode prog_14_method_67_code 0 = .ok (.aload_n 0, 1) := by decide +kernel
theorem ad_Md_bound_1 : decode prog_14_method_67_code 1 = .ok (.iconst 0, 1) := by decide +kernel
theorem ad_Md_bound_2 : decode prog_14_method_67_code 2 = .ok (.putfield 102, 3) := by decide +kernel
theorem ad_Md_bound_5 : decode prog_14_method_67_code 5 = .ok (.aload_n 0, 1) := by decide +kernel
theorem ad_Md_bound_6 : decode prog_14_method_67_code 6 = .ok (.invokevirtual 326, 3) := by decide +kernel
theorem ad_Md_bound_9 : decode prog_14_method_67_code 9 = .ok (.aload_n 0, 1) := by decide +kernel
theorem ad_Md_bound_10 : decode prog_14_method_67_code 10 = .ok (.iload_n 1, 1) := by decide +kernel
theorem ad_Md_bound_11 : decode prog_14_method_67_code 11 = .ok (.invokevirtual 261, 3) := by decide +kernel
theorem ad_Md_bound_14 : decode prog_14_method_67_code 14 = .ok (.ifCond .eq 19, 3) := by decide +kernel
theorem ad_Md_bound_17 : decode prog_14_method_67_code 17 = .ok (.aload_n 0, 1) := by decide +kernel
theorem ad_Md_bound_18 : decode prog_14_method_67_code 18 = .ok (.iload_n 2, 1) := by decide +kernel
theorem ad_Md_bound_19 : decode prog_14_method_67_code 19 = .ok (.invokevirtual 261, 3) := by decide +kernel
theorem ad_Md_bound_22 : decode prog_14_method_67_code 22 = .ok (.ifCond .eq 11, 3) := by decide +kernel
theorem ad_Md_bound_25 : decode prog_14_method_67_code 25 = .ok (.aload_n 0, 1) := by decide +kernel
theorem ad_Md_bound_26 : decode prog_14_method_67_code 26 = .ok (.iload_n 3, 1) := by decide +kernel
theorem ad_Md_bound_27 : decode prog_14_method_67_code 27 = .ok (.invokevirtual 251, 3) := by decide +kernel
theorem ad_Md_bound_30 : decode prog_14_method_67_code 30 = .ok (.ifCond .ne 5, 3) := by decide +kernel
theorem ad_Md_bound_33 : decode prog_14_method_67_code 33 = .ok (.iconst (-1), 1) := by decide +kernel
theorem ad_Md_bound_34 : decode prog_14_method_67_code 34 = .ok (.ireturn, 1) := by decide +kernel
theorem ad_Md_bound_35 : decode prog_14_method_67_code 35 = .ok (.aload_n 0, 1) := by decide +kernel
theorem ad_Md_bound_36 : decode prog_14_method_67_code 36 = .ok (.getfield 42, 3) := by decide +kernel
theorem ad_Md_bound_39 : decode prog_14_method_67_code 39 = .ok (.iload_n 1, 1) := by decide +kernel
theorem ad_Md_bound_40 : decode prog_14_method_67_code 40 = .ok (.iload_n 2, 1) := by decide +kernel
theorem ad_Md_bound_41 : decode prog_14_method_67_code 41 = .ok (.iload_n 3, 1) := by decide +kernel
theorem ad_Md_bound_42 : decode prog_14_method_67_code 42 = .ok (.invokestatic 288, 3) := by decide +kernel
theorem ad_Md_bound_45 : decode prog_14_method_67_code 45 = .ok (.iaload, 1) := by decide +kernel
theorem ad_Md_bound_46 : decode prog_14_method_67_code 46 = .ok (.aload_n 0, 1) := by decide +kernel
theorem ad_Md_bound_47 : decode prog_14_method_67_code 47 = .ok (.getfield 292, 3) := by decide +kernel
theorem ad_Md_bound_50 : decode prog_14_method_67_code 50 = .ok (.isub, 1) := by decide +kernel
theorem ad_Md_bound_51 : decode prog_14_method_67_code 51 = .ok (.iconst 1, 1) := by decide +kernel
theorem ad_Md_bound_52 : decode prog_14_method_67_code 52 = .ok (.iadd, 1) := by decide +kernel
theorem ad_Md_bound_53 : decode prog_14_method_67_code 53 = .ok (.istore 4, 2) := by decide +kernel
theorem ad_Md_bound_55 : decode prog_14_method_67_code 55 = .ok (.iload 4, 2) := by decide +kernel
theorem ad_Md_bound_57 : decode prog_14_method_67_code 57 = .ok (.ifCond .le 8, 3) := by decide +kernel
theorem ad_Md_bound_60 : decode prog_14_method_67_code 60 = .ok (.iload 4, 2) := by decide +kernel
theorem ad_Md_bound_62 : decode prog_14_method_67_code 62 = .ok (.goto 4, 3) := by decide +kernel
theorem ad_Md_bound_65 : decode prog_14_method_67_code 65 = .ok (.iconst 0, 1) := by decide +kernel
theorem ad_Md_bound_66 : decode prog_14_method_67_code 66 = .ok (.ireturn, 1) := by decide +kernel
theorem ad_Md_foundOf_0 : decode prog_14_method_68_code 0 = .ok (.iconst 1, 1) := by decide +kernel
theorem ad_Md_foundOf_1 : decode prog_14_method_68_code 1 = .ok (.istore_n 2, 1) := by decide +kernel
theorem ad_Md_foundOf_2 : decode prog_14_method_68_code 2 = .ok (.iconst 0, 1) := by decide +kernel
theorem ad_Md_foundOf_3 : decode prog_14_method_68_code 3 = .ok (.istore_n 3, 1) := by decide +kernel
theorem ad_Md_foundOf_4 : decode prog_14_method_68_code 4 = .ok (.iload_n 3, 1) := by decide +kernel
theorem ad_Md_foundOf_5 : decode prog_14_method_68_code 5 = .ok (.bipush 8, 2) := by decide +kernel
theorem ad_Md_foundOf_7 : decode prog_14_method_68_code 7 = .ok (.if_icmp .ge 26, 3) := by decide +kernel
theorem ad_Md_foundOf_10 : decode prog_14_method_68_code 10 = .ok (.iload_n 3, 1) := by decide +kernel
theorem ad_Md_foundOf_11 : decode prog_14_method_68_code 11 = .ok (.iload_n 1, 1) := by decide +kernel
theorem ad_Md_foundOf_12 : decode prog_14_method_68_code 12 = .ok (.if_icmp .eq 15, 3) := by decide +kernel
theorem ad_Md_foundOf_15 : decode prog_14_method_68_code 15 = .ok (.iload_n 2, 1) := by decide +kernel
theorem ad_Md_foundOf_16 : decode prog_14_method_68_code 16 = .ok (.bipush 10, 2) := by decide +kernel
theorem ad_Md_foundOf_18 : decode prog_14_method_68_code 18 = .ok (.aload_n 0, 1) := by decide +kernel
theorem ad_Md_foundOf_19 : decode prog_14_method_68_code 19 = .ok (.iload_n 3, 1) := by decide +kernel
theorem ad_Md_foundOf_20 : decode prog_14_method_68_code 20 = .ok (.iload_n 1, 1) := by decide +kernel
theorem ad_Md_foundOf_21 : decode prog_14_method_68_code 21 = .ok (.invokevirtual 273, 3) := by decide +kernel
theorem ad_Md_foundOf_24 : decode prog_14_method_68_code 24 = .ok (.isub, 1) := by decide +kernel
theorem ad_Md_foundOf_25 : decode prog_14_method_68_code 25 = .ok (.imul, 1) := by decide +kernel
theorem ad_Md_foundOf_26 : decode prog_14_method_68_code 26 = .ok (.istore_n 2, 1) := by decide +kernel
theorem ad_Md_foundOf_27 : decode prog_14_method_68_code 27 = .ok (.iinc 3 1, 3) := by decide +kernel
theorem ad_Md_foundOf_30 : decode prog_14_method_68_code 30 = .ok (.goto (-26), 3) := by decide +kernel
theorem ad_Md_foundOf_33 : decode prog_14_method_68_code 33 = .ok (.ldc_w 335, 3) := by decide +kernel
theorem ad_Md_foundOf_36 : decode prog_14_method_68_code 36 = .ok (.iload_n 2, 1) := by decide +kernel
theorem ad_Md_foundOf_37 : decode prog_14_method_68_code 37 = .ok (.isub, 1) := by decide +kernel
theorem ad_Md_foundOf_38 : decode prog_14_method_68_code 38 = .ok (.ireturn, 1) := by decide +kernel
theorem ad_Md_found_0 : decode prog_14_method_69_code 0 = .ok (.aload_n 0, 1) := by decide +kernel
theorem ad_Md_found_1 : decode prog_14_method_69_code 1 = .ok (.iconst 0, 1) := by decide +kernel
theorem ad_Md_found_2 : decode prog_14_method_69_code 2 = .ok (.putfield 102, 3) := by decide +kernel
theorem ad_Md_found_5 : decode prog_14_method_69_code 5 = .ok (.aload_n 0, 1) := by decide +kernel
theorem ad_Md_found_6 : decode prog_14_method_69_code 6 = .ok (.invokevirtual 187, 3) := by decide +kernel
theorem ad_Md_found_9 : decode prog_14_method_69_code 9 = .ok (.aload_n 0, 1) := by decide +kernel
theorem ad_Md_found_10 : decode prog_14_method_69_code 10 = .ok (.iload_n 1, 1) := by decide +kernel
theorem ad_Md_found_11 : decode prog_14_method_69_code 11 = .ok (.invokevirtual 261, 3) := by decide +kernel
theorem ad_Md_found_14 : decode prog_14_method_69_code 14 = .ok (.ifCond .eq 11, 3) := by decide +kernel
theorem ad_Md_found_17 : decode prog_14_method_69_code 17 = .ok (.aload_n 0, 1) := by decide +kernel
theorem ad_Md_found_18 : decode prog_14_method_69_code 18 = .ok (.iload_n 1, 1) := by decide +kernel
theorem ad_Md_found_19 : decode prog_14_method_69_code 19 = .ok (.invokevirtual 336, 3) := by decide +kernel
theorem ad_Md_found_22 : decode prog_14_method_69_code 22 = .ok (.goto 4, 3) := by decide +kernel
theorem ad_Md_found_25 : decode prog_14_method_69_code 25 = .ok (.iconst (-1), 1) := by decide +kernel
theorem ad_Md_found_26 : decode prog_14_method_69_code 26 = .ok (.ireturn, 1) := by decide +kernel
theorem ad_Md_pair_0 : decode prog_14_method_70_code 0 = .ok (.aload_n 0, 1) := by decide +kernel
theorem ad_Md_pair_1 : decode prog_14_method_70_code 1 = .ok (.iconst 0, 1) := by decide +kernel
theorem ad_Md_pair_2 : decode prog_14_method_70_code 2 = .ok (.putfield 102, 3) := by decide +kernel
theorem ad_Md_pair_5 : decode prog_14_method_70_code 5 = .ok (.aload_n 0, 1) := by decide +kernel
theorem ad_Md_pair_6 : decode prog_14_method_70_code 6 = .ok (.invokevirtual 187, 3) := by decide +kernel
theorem ad_Md_pair_9 : decode prog_14_method_70_code 9 = .ok (.aload_n 0, 1) := by decide +kernel
theorem ad_Md_pair_10 : decode prog_14_method_70_code 10 = .ok (.iload_n 1, 1) := by decide +kernel
theorem ad_Md_pair_11 : decode prog_14_method_70_code 11 = .ok (.invokevirtual 261, 3) := by decide +kernel
theorem ad_Md_pair_14 : decode prog_14_method_70_code 14 = .ok (.ifCond .eq 37, 3) := by decide +kernel
theorem ad_Md_pair_17 : decode prog_14_method_70_code 17 = .ok (.aload_n 0, 1) := by decide +kernel
theorem ad_Md_pair_18 : decode prog_14_method_70_code 18 = .ok (.iload_n 2, 1) := by decide +kernel
theorem ad_Md_pair_19 : decode prog_14_method_70_code 19 = .ok (.invokevirtual 261, 3) := by decide +kernel
theorem ad_Md_pair_22 : decode prog_14_method_70_code 22 = .ok (.ifCond .eq 29, 3) := by decide +kernel
theorem ad_Md_pair_25 : decode prog_14_method_70_code 25 = .ok (.iload_n 1, 1) := by decide +kernel
theorem ad_Md_pair_26 : decode prog_14_method_70_code 26 = .ok (.iload_n 2, 1) := by decide +kernel
theorem ad_Md_pair_27 : decode prog_14_method_70_code 27 = .ok (.if_icmp .eq 24, 3) := by decide +kernel
theorem ad_Md_pair_30 : decode prog_14_method_70_code 30 = .ok (.aload_n 0, 1) := by decide +kernel
theorem ad_Md_pair_31 : decode prog_14_method_70_code 31 = .ok (.iload_n 1, 1) := by decide +kernel
theorem ad_Md_pair_32 : decode prog_14_method_70_code 32 = .ok (.invokevirtual 336, 3) := by decide +kernel
theorem ad_Md_pair_35 : decode prog_14_method_70_code 35 = .ok (.i2l, 1) := by decide +kernel
theorem ad_Md_pair_36 : decode prog_14_method_70_code 36 = .ok (.aload_n 0, 1) := by decide +kernel
theorem ad_Md_pair_37 : decode prog_14_method_70_code 37 = .ok (.iload_n 2, 1) := by decide +kernel
theorem ad_Md_pair_38 : decode prog_14_method_70_code 38 = .ok (.invokevirtual 336, 3) := by decide +kernel
theorem ad_Md_pair_41 : decode prog_14_method_70_code 41 = .ok (.i2l, 1) := by decide +kernel
theorem ad_Md_pair_42 : decode prog_14_method_70_code 42 = .ok (.lmul, 1) := by decide +kernel
theorem ad_Md_pair_43 : decode prog_14_method_70_code 43 = .ok (.ldc2_w 339, 3) := by decide +kernel
theorem ad_Md_pair_46 : decode prog_14_method_70_code 46 = .ok (.ldiv, 1) := by decide +kernel
theorem ad_Md_pair_47 : decode prog_14_method_70_code 47 = .ok (.l2i, 1) := by decide +kernel
theorem ad_Md_pair_48 : decode prog_14_method_70_code 48 = .ok (.goto 4, 3) := by decide +kernel
theorem ad_Md_pair_51 : decode prog_14_method_70_code 51 = .ok (.iconst (-1), 1) := by decide +kernel
theorem ad_Md_pair_52 : decode prog_14_method_70_code 52 = .ok (.ireturn, 1) := by decide +kernel
theorem ad_Md_layValues_0 : decode prog_14_method_71_code 0 = .ok (.aload_n 0, 1) := by decide +kernel
theorem ad_Md_layValues_1 : decode prog_14_method_71_code 1 = .ok (.iload_n 2, 1) := by decide +kernel
theorem ad_Md_layValues_2 : decode prog_14_method_71_code 2 = .ok (.invokevirtual 341, 3) := by decide +kernel
theorem ad_Md_layValues_5 : decode prog_14_method_71_code 5 = .ok (.istore 5, 2) := by decide +kernel
theorem ad_Md_layValues_7 : decode prog_14_method_71_code 7 = .ok (.ldc2_w 344, 3) := by decide +kernel
theorem ad_Md_layValues_10 : decode prog_14_method_71_code 10 = .ok (.aload_n 0, 1) := by decide +kernel
theorem ad_Md_layValues_11 : decode prog_14_method_71_code 11 = .ok (.iload_n 1, 1) := by decide +kernel
theorem ad_Md_layValues_12 : decode prog_14_method_71_code 12 = .ok (.aload_n 0, 1) := by decide +kernel
theorem ad_Md_layValues_13 : decode prog_14_method_71_code 13 = .ok (.iload_n 2, 1) := by decide +kernel
theorem ad_Md_layValues_14 : decode prog_14_method_71_code 14 = .ok (.invokevirtual 346, 3) := by decide +kernel
theorem ad_Md_layValues_17 : decode prog_14_method_71_code 17 = .ok (.invokevirtual 270, 3) := by decide +kernel
theorem ad_Md_layValues_20 : decode prog_14_method_71_code 20 = .ok (.i2l, 1) := by decide +kernel
theorem ad_Md_layValues_21 : decode prog_14_method_71_code 21 = .ok (.lmul, 1) := by decide +kernel
theorem ad_Md_layValues_22 : decode prog_14_method_71_code 22 = .ok (.aload_n 0, 1) := by decide +kernel
theorem ad_Md_layValues_23 : decode prog_14_method_71_code 23 = .ok (.iload 5, 2) := by decide +kernel
theorem ad_Md_layValues_25 : decode prog_14_method_71_code 25 = .ok (.invokevirtual 301, 3) := by decide +kernel
theorem ad_Md_layValues_28 : decode prog_14_method_71_code 28 = .ok (.i2l, 1) := by decide +kernel
theorem ad_Md_layValues_29 : decode prog_14_method_71_code 29 = .ok (.lmul, 1) := by decide +kernel
theorem ad_Md_layValues_30 : decode prog_14_method_71_code 30 = .ok (.ldc2_w 349, 3) := by decide +kernel
theorem ad_Md_layValues_33 : decode prog_14_method_71_code 33 = .ok (.aload_n 0, 1) := by decide +kernel
theorem ad_Md_layValues_34 : decode prog_14_method_71_code 34 = .ok (.iload_n 1, 1) := by decide +kernel
theorem ad_Md_layValues_35 : decode prog_14_method_71_code 35 = .ok (.iload 5, 2) := by decide +kernel
theorem ad_Md_layValues_37 : decode prog_14_method_71_code 37 = .ok (.invokevirtual 257, 3) := by decide +kernel
theorem ad_Md_layValues_40 : decode prog_14_method_71_code 40 = .ok (.i2l, 1) := by decide +kernel
theorem ad_Md_layValues_41 : decode prog_14_method_71_code 41 = .ok (.lmul, 1) := by decide +kernel
theorem ad_Md_layValues_42 : decode prog_14_method_71_code 42 = .ok (.lsub, 1) := by decide +kernel
theorem ad_Md_layValues_43 : decode prog_14_method_71_code 43 = .ok (.lstore 6, 2) := by decide +kernel
theorem ad_Md_layValues_45 : decode prog_14_method_71_code 45 = .ok (.lload 6, 2) := by decide +kernel
theorem ad_Md_layValues_47 : decode prog_14_method_71_code 47 = .ok (.ldc2_w 349, 3) := by decide +kernel
theorem ad_Md_layValues_50 : decode prog_14_method_71_code 50 = .ok (.aload_n 0, 1) := by decide +kernel
theorem ad_Md_layValues_51 : decode prog_14_method_71_code 51 = .ok (.iload 5, 2) := by decide +kernel
theorem ad_Md_layValues_53 : decode prog_14_method_71_code 53 = .ok (.invokevirtual 298, 3) := by decide +kernel
theorem ad_Md_layValues_56 : decode prog_14_method_71_code 56 = .ok (.i2l, 1) := by decide +kernel
theorem ad_Md_layValues_57 : decode prog_14_method_71_code 57 = .ok (.lmul, 1) := by decide +kernel
theorem ad_Md_layValues_58 : decode prog_14_method_71_code 58 = .ok (.lsub, 1) := by decide +kernel
theorem ad_Md_layValues_59 : decode prog_14_method_71_code 59 = .ok (.lstore 8, 2) := by decide +kernel
theorem ad_Md_layValues_61 : decode prog_14_method_71_code 61 = .ok (.aload_n 0, 1) := by decide +kernel
theorem ad_Md_layValues_62 : decode prog_14_method_71_code 62 = .ok (.iload_n 1, 1) := by decide +kernel
theorem ad_Md_layValues_63 : decode prog_14_method_71_code 63 = .ok (.invokevirtual 336, 3) := by decide +kernel
theorem ad_Md_layValues_66 : decode prog_14_method_71_code 66 = .ok (.i2l, 1) := by decide +kernel
theorem ad_Md_layValues_67 : decode prog_14_method_71_code 67 = .ok (.lstore 10, 2) := by decide +kernel
theorem ad_Md_layValues_69 : decode prog_14_method_71_code 69 = .ok (.iconst 0, 1) := by decide +kernel
theorem ad_Md_layValues_70 : decode prog_14_method_71_code 70 = .ok (.istore 12, 2) := by decide +kernel
theorem ad_Md_layValues_72 : decode prog_14_method_71_code 72 = .ok (.iload 12, 2) := by decide +kernel
theorem ad_Md_layValues_74 : decode prog_14_method_71_code 74 = .ok (.aload_n 0, 1) := by decide +kernel
theorem ad_Md_layValues_75 : decode prog_14_method_71_code 75 = .ok (.getfield 13, 3) := by decide +kernel
theorem ad_Md_layValues_78 : decode prog_14_method_71_code 78 = .ok (.iconst 3, 1) := by decide +kernel
theorem ad_Md_layValues_79 : decode prog_14_method_71_code 79 = .ok (.iaload, 1) := by decide +kernel
theorem ad_Md_layValues_80 : decode prog_14_method_71_code 80 = .ok (.if_icmp .gt 25, 3) := by decide +kernel
theorem ad_Md_layValues_83 : decode prog_14_method_71_code 83 = .ok (.aload_n 0, 1) := by decide +kernel
theorem ad_Md_layValues_84 : decode prog_14_method_71_code 84 = .ok (.getfield 63, 3) := by decide +kernel
theorem ad_Md_layValues_87 : decode prog_14_method_71_code 87 = .ok (.iload 12, 2) := by decide +kernel
theorem ad_Md_layValues_89 : decode prog_14_method_71_code 89 = .ok (.lconst 0, 1) := by decide +kernel
theorem ad_Md_layValues_90 : decode prog_14_method_71_code 90 = .ok (.lastore, 1) := by decide +kernel
theorem ad_Md_layValues_91 : decode prog_14_method_71_code 91 = .ok (.aload_n 0, 1) := by decide +kernel
theorem ad_Md_layValues_92 : decode prog_14_method_71_code 92 = .ok (.getfield 66, 3) := by decide +kernel
theorem ad_Md_layValues_95 : decode prog_14_method_71_code 95 = .ok (.iload 12, 2) := by decide +kernel
theorem ad_Md_layValues_97 : decode prog_14_method_71_code 97 = .ok (.iconst 0, 1) := by decide +kernel
theorem ad_Md_layValues_98 : decode prog_14_method_71_code 98 = .ok (.iastore, 1) := by decide +kernel
theorem ad_Md_layValues_99 : decode prog_14_method_71_code 99 = .ok (.iinc 12 1, 3) := by decide +kernel
theorem ad_Md_layValues_102 : decode prog_14_method_71_code 102 = .ok (.goto (-30), 3) := by decide +kernel
theorem ad_Md_layValues_105 : decode prog_14_method_71_code 105 = .ok (.iconst 1, 1) := by decide +kernel
theorem ad_Md_layValues_106 : decode prog_14_method_71_code 106 = .ok (.istore 12, 2) := by decide +kernel
theorem ad_Md_layValues_108 : decode prog_14_method_71_code 108 = .ok (.iload 12, 2) := by decide +kernel
theorem ad_Md_layValues_110 : decode prog_14_method_71_code 110 = .ok (.iload_n 3, 1) := by decide +kernel
theorem ad_Md_layValues_111 : decode prog_14_method_71_code 111 = .ok (.if_icmp .gt 278, 3) := by decide +kernel
theorem ad_Md_layValues_114 : decode prog_14_method_71_code 114 = .ok (.bipush 10, 2) := by decide +kernel
theorem ad_Md_layValues_116 : decode prog_14_method_71_code 116 = .ok (.iload 12, 2) := by decide +kernel
theorem ad_Md_layValues_118 : decode prog_14_method_71_code 118 = .ok (.iconst 1, 1) := by decide +kernel
theorem ad_Md_layValues_119 : decode prog_14_method_71_code 119 = .ok (.isub, 1) := by decide +kernel
theorem ad_Md_layValues_120 : decode prog_14_method_71_code 120 = .ok (.imul, 1) := by decide +kernel
theorem ad_Md_layValues_121 : decode prog_14_method_71_code 121 = .ok (.istore 13, 2) := by decide +kernel
theorem ad_Md_layValues_123 : decode prog_14_method_71_code 123 = .ok (.aload_n 0, 1) := by decide +kernel
theorem ad_Md_layValues_124 : decode prog_14_method_71_code 124 = .ok (.getfield 63, 3) := by decide +kernel
theorem ad_Md_layValues_127 : decode prog_14_method_71_code 127 = .ok (.iload 13, 2) := by decide +kernel
theorem ad_Md_layValues_129 : decode prog_14_method_71_code 129 = .ok (.laload, 1) := by decide +kernel
theorem ad_Md_layValues_130 : decode prog_14_method_71_code 130 = .ok (.lstore 14, 2) := by decide +kernel
theorem ad_Md_layValues_132 : decode prog_14_method_71_code 132 = .ok (.iload 4, 2) := by decide +kernel
theorem ad_Md_layValues_134 : decode prog_14_method_71_code 134 = .ok (.ifCond .ne 20, 3) := by decide +kernel
theorem ad_Md_layValues_137 : decode prog_14_method_71_code 137 = .ok (.aload_n 0, 1) := by decide +kernel
theorem ad_Md_layValues_138 : decode prog_14_method_71_code 138 = .ok (.getfield 63, 3) := by decide +kernel
theorem ad_Md_layValues_141 : decode prog_14_method_71_code 141 = .ok (.iload 13, 2) := by decide +kernel
theorem ad_Md_layValues_143 : decode prog_14_method_71_code 143 = .ok (.aload_n 0, 1) := by decide +kernel
theorem ad_Md_layValues_144 : decode prog_14_method_71_code 144 = .ok (.getfield 13, 3) := by decide +kernel
theorem ad_Md_layValues_147 : decode prog_14_method_71_code 147 = .ok (.iconst 3, 1) := by decide +kernel
theorem ad_Md_layValues_148 : decode prog_14_method_71_code 148 = .ok (.iaload, 1) := by decide +kernel
theorem ad_Md_layValues_149 : decode prog_14_method_71_code 149 = .ok (.iadd, 1) := by decide +kernel
theorem ad_Md_layValues_150 : decode prog_14_method_71_code 150 = .ok (.laload, 1) := by decide +kernel
theorem ad_Md_layValues_151 : decode prog_14_method_71_code 151 = .ok (.goto 28, 3) := by decide +kernel
theorem ad_Md_layValues_154 : decode prog_14_method_71_code 154 = .ok (.iload 4, 2) := by decide +kernel
theorem ad_Md_layValues_156 : decode prog_14_method_71_code 156 = .ok (.iconst 1, 1) := by decide +kernel
theorem ad_Md_layValues_157 : decode prog_14_method_71_code 157 = .ok (.if_icmp .ne 8, 3) := by decide +kernel
theorem ad_Md_layValues_160 : decode prog_14_method_71_code 160 = .ok (.lload 14, 2) := by decide +kernel
theorem ad_Md_layValues_162 : decode prog_14_method_71_code 162 = .ok (.goto 17, 3) := by decide +kernel
theorem ad_Md_layValues_165 : decode prog_14_method_71_code 165 = .ok (.lload 14, 2) := by decide +kernel
theorem ad_Md_layValues_167 : decode prog_14_method_71_code 167 = .ok (.ldc2_w 349, 3) := by decide +kernel
theorem ad_Md_layValues_170 : decode prog_14_method_71_code 170 = .ok (.aload_n 0, 1) := by decide +kernel
theorem ad_Md_layValues_171 : decode prog_14_method_71_code 171 = .ok (.getfield 13, 3) := by decide +kernel
theorem ad_Md_layValues_174 : decode prog_14_method_71_code 174 = .ok (.iconst 5, 1) := by decide +kernel
theorem ad_Md_layValues_175 : decode prog_14_method_71_code 175 = .ok (.iaload, 1) := by decide +kernel
theorem ad_Md_layValues_176 : decode prog_14_method_71_code 176 = .ok (.i2l, 1) := by decide +kernel
theorem ad_Md_layValues_177 : decode prog_14_method_71_code 177 = .ok (.lmul, 1) := by decide +kernel
theorem ad_Md_layValues_178 : decode prog_14_method_71_code 178 = .ok (.ladd, 1) := by decide +kernel
theorem ad_Md_layValues_179 : decode prog_14_method_71_code 179 = .ok (.lstore 16, 2) := by decide +kernel
theorem ad_Md_layValues_181 : decode prog_14_method_71_code 181 = .ok (.lload 14, 2) := by decide +kernel
theorem ad_Md_layValues_183 : decode prog_14_method_71_code 183 = .ok (.lstore 18, 2) := by decide +kernel
theorem ad_Md_layValues_185 : decode prog_14_method_71_code 185 = .ok (.iconst 0, 1) := by decide +kernel
theorem ad_Md_layValues_186 : decode prog_14_method_71_code 186 = .ok (.istore 20, 2) := by decide +kernel
theorem ad_Md_layValues_188 : decode prog_14_method_71_code 188 = .ok (.lload 8, 2) := by decide +kernel
theorem ad_Md_layValues_190 : decode prog_14_method_71_code 190 = .ok (.lload 16, 2) := by decide +kernel
theorem ad_Md_layValues_192 : decode prog_14_method_71_code 192 = .ok (.lload 10, 2) := by decide +kernel
theorem ad_Md_layValues_194 : decode prog_14_method_71_code 194 = .ok (.lmul, 1) := by decide +kernel
theorem ad_Md_layValues_195 : decode prog_14_method_71_code 195 = .ok (.ldc2_w 339, 3) := by decide +kernel
theorem ad_Md_layValues_198 : decode prog_14_method_71_code 198 = .ok (.ldiv, 1) := by decide +kernel
theorem ad_Md_layValues_199 : decode prog_14_method_71_code 199 = .ok (.ladd, 1) := by decide +kernel
theorem ad_Md_layValues_200 : decode prog_14_method_71_code 200 = .ok (.lload 14, 2) := by decide +kernel
theorem ad_Md_layValues_202 : decode prog_14_method_71_code 202 = .ok (.ldc2_w 339, 3) := by decide +kernel
theorem ad_Md_layValues_205 : decode prog_14_method_71_code 205 = .ok (.lload 10, 2) := by decide +kernel
theorem ad_Md_layValues_207 : decode prog_14_method_71_code 207 = .ok (.lsub, 1) := by decide +kernel
theorem ad_Md_layValues_208 : decode prog_14_method_71_code 208 = .ok (.lmul, 1) := by decide +kernel
theorem ad_Md_layValues_209 : decode prog_14_method_71_code 209 = .ok (.ldc2_w 339, 3) := by decide +kernel
theorem ad_Md_layValues_212 : decode prog_14_method_71_code 212 = .ok (.ldiv, 1) := by decide +kernel
theorem ad_Md_layValues_213 : decode prog_14_method_71_code 213 = .ok (.ladd, 1) := by decide +kernel
theorem ad_Md_layValues_214 : decode prog_14_method_71_code 214 = .ok (.lstore 21, 2) := by decide +kernel
theorem ad_Md_layValues_216 : decode prog_14_method_71_code 216 = .ok (.lload 21, 2) := by decide +kernel
theorem ad_Md_layValues_218 : decode prog_14_method_71_code 218 = .ok (.lload 18, 2) := by decide +kernel
theorem ad_Md_layValues_220 : decode prog_14_method_71_code 220 = .ok (.lcmp, 1) := by decide +kernel
theorem ad_Md_layValues_221 : decode prog_14_method_71_code 221 = .ok (.ifCond .le 10, 3) := by decide +kernel
theorem ad_Md_layValues_224 : decode prog_14_method_71_code 224 = .ok (.lload 21, 2) := by decide +kernel
theorem ad_Md_layValues_226 : decode prog_14_method_71_code 226 = .ok (.lstore 18, 2) := by decide +kernel
theorem ad_Md_layValues_228 : decode prog_14_method_71_code 228 = .ok (.iconst 1, 1) := by decide +kernel
theorem ad_Md_layValues_229 : decode prog_14_method_71_code 229 = .ok (.istore 20, 2) := by decide +kernel
theorem ad_Md_layValues_231 : decode prog_14_method_71_code 231 = .ok (.lload 6, 2) := by decide +kernel
theorem ad_Md_layValues_233 : decode prog_14_method_71_code 233 = .ok (.lload 16, 2) := by decide +kernel
theorem ad_Md_layValues_235 : decode prog_14_method_71_code 235 = .ok (.ladd, 1) := by decide +kernel
theorem ad_Md_layValues_236 : decode prog_14_method_71_code 236 = .ok (.lload 18, 2) := by decide +kernel
theorem ad_Md_layValues_238 : decode prog_14_method_71_code 238 = .ok (.lcmp, 1) := by decide +kernel
theorem ad_Md_layValues_239 : decode prog_14_method_71_code 239 = .ok (.ifCond .le 13, 3) := by decide +kernel
theorem ad_Md_layValues_242 : decode prog_14_method_71_code 242 = .ok (.lload 6, 2) := by decide +kernel
theorem ad_Md_layValues_244 : decode prog_14_method_71_code 244 = .ok (.lload 16, 2) := by decide +kernel
theorem ad_Md_layValues_246 : decode prog_14_method_71_code 246 = .ok (.ladd, 1) := by decide +kernel
theorem ad_Md_layValues_247 : decode prog_14_method_71_code 247 = .ok (.lstore 18, 2) := by decide +kernel
theorem ad_Md_layValues_249 : decode prog_14_method_71_code 249 = .ok (.iconst 2, 1) := by decide +kernel
theorem ad_Md_layValues_250 : decode prog_14_method_71_code 250 = .ok (.istore 20, 2) := by decide +kernel
theorem ad_Md_layValues_252 : decode prog_14_method_71_code 252 = .ok (.aload_n 0, 1) := by decide +kernel
theorem ad_Md_layValues_253 : decode prog_14_method_71_code 253 = .ok (.getfield 63, 3) := by decide +kernel
theorem ad_Md_layValues_256 : decode prog_14_method_71_code 256 = .ok (.bipush 10, 2) := by decide +kernel
theorem ad_Md_layValues_258 : decode prog_14_method_71_code 258 = .ok (.iload 12, 2) := by decide +kernel
theorem ad_Md_layValues_260 : decode prog_14_method_71_code 260 = .ok (.imul, 1) := by decide +kernel
theorem ad_Md_layValues_261 : decode prog_14_method_71_code 261 = .ok (.lload 18, 2) := by decide +kernel
theorem ad_Md_layValues_263 : decode prog_14_method_71_code 263 = .ok (.lastore, 1) := by decide +kernel
theorem ad_Md_layValues_264 : decode prog_14_method_71_code 264 = .ok (.aload_n 0, 1) := by decide +kernel
theorem ad_Md_layValues_265 : decode prog_14_method_71_code 265 = .ok (.getfield 66, 3) := by decide +kernel
theorem ad_Md_layValues_268 : decode prog_14_method_71_code 268 = .ok (.bipush 10, 2) := by decide +kernel
theorem ad_Md_layValues_270 : decode prog_14_method_71_code 270 = .ok (.iload 12, 2) := by decide +kernel
theorem ad_Md_layValues_272 : decode prog_14_method_71_code 272 = .ok (.imul, 1) := by decide +kernel
theorem ad_Md_layValues_273 : decode prog_14_method_71_code 273 = .ok (.iload 20, 2) := by decide +kernel
theorem ad_Md_layValues_275 : decode prog_14_method_71_code 275 = .ok (.iastore, 1) := by decide +kernel
theorem ad_Md_layValues_276 : decode prog_14_method_71_code 276 = .ok (.iconst 1, 1) := by decide +kernel
theorem ad_Md_layValues_277 : decode prog_14_method_71_code 277 = .ok (.istore 23, 2) := by decide +kernel
theorem ad_Md_layValues_279 : decode prog_14_method_71_code 279 = .ok (.iload 23, 2) := by decide +kernel
theorem ad_Md_layValues_281 : decode prog_14_method_71_code 281 = .ok (.aload_n 0, 1) := by decide +kernel
theorem ad_Md_layValues_282 : decode prog_14_method_71_code 282 = .ok (.getfield 13, 3) := by decide +kernel
theorem ad_Md_layValues_285 : decode prog_14_method_71_code 285 = .ok (.iconst 3, 1) := by decide +kernel
theorem ad_Md_layValues_286 : decode prog_14_method_71_code 286 = .ok (.iaload, 1) := by decide +kernel
theorem ad_Md_layValues_287 : decode prog_14_method_71_code 287 = .ok (.if_icmp .gt 96, 3) := by decide +kernel
theorem ad_Md_layValues_290 : decode prog_14_method_71_code 290 = .ok (.lload 6, 2) := by decide +kernel
theorem ad_Md_layValues_292 : decode prog_14_method_71_code 292 = .ok (.aload_n 0, 1) := by decide +kernel
theorem ad_Md_layValues_293 : decode prog_14_method_71_code 293 = .ok (.getfield 63, 3) := by decide +kernel
theorem ad_Md_layValues_296 : decode prog_14_method_71_code 296 = .ok (.iload 13, 2) := by decide +kernel
theorem ad_Md_layValues_298 : decode prog_14_method_71_code 298 = .ok (.iload 23, 2) := by decide +kernel
theorem ad_Md_layValues_300 : decode prog_14_method_71_code 300 = .ok (.iadd, 1) := by decide +kernel
theorem ad_Md_layValues_301 : decode prog_14_method_71_code 301 = .ok (.iconst 1, 1) := by decide +kernel
theorem ad_Md_layValues_302 : decode prog_14_method_71_code 302 = .ok (.isub, 1) := by decide +kernel
theorem ad_Md_layValues_303 : decode prog_14_method_71_code 303 = .ok (.laload, 1) := by decide +kernel
theorem ad_Md_layValues_304 : decode prog_14_method_71_code 304 = .ok (.ladd, 1) := by decide +kernel
theorem ad_Md_layValues_305 : decode prog_14_method_71_code 305 = .ok (.lstore 24, 2) := by decide +kernel
theorem ad_Md_layValues_307 : decode prog_14_method_71_code 307 = .ok (.lload 14, 2) := by decide +kernel
theorem ad_Md_layValues_309 : decode prog_14_method_71_code 309 = .ok (.ldc2_w 349, 3) := by decide +kernel
theorem ad_Md_layValues_312 : decode prog_14_method_71_code 312 = .ok (.aload_n 0, 1) := by decide +kernel
theorem ad_Md_layValues_313 : decode prog_14_method_71_code 313 = .ok (.getfield 13, 3) := by decide +kernel
theorem ad_Md_layValues_316 : decode prog_14_method_71_code 316 = .ok (.iconst 4, 1) := by decide +kernel
theorem ad_Md_layValues_317 : decode prog_14_method_71_code 317 = .ok (.iaload, 1) := by decide +kernel
theorem ad_Md_layValues_318 : decode prog_14_method_71_code 318 = .ok (.i2l, 1) := by decide +kernel
theorem ad_Md_layValues_319 : decode prog_14_method_71_code 319 = .ok (.lmul, 1) := by decide +kernel
theorem ad_Md_layValues_320 : decode prog_14_method_71_code 320 = .ok (.lsub, 1) := by decide +kernel
theorem ad_Md_layValues_321 : decode prog_14_method_71_code 321 = .ok (.lstore 26, 2) := by decide +kernel
theorem ad_Md_layValues_323 : decode prog_14_method_71_code 323 = .ok (.aload_n 0, 1) := by decide +kernel
theorem ad_Md_layValues_324 : decode prog_14_method_71_code 324 = .ok (.getfield 63, 3) := by decide +kernel
theorem ad_Md_layValues_327 : decode prog_14_method_71_code 327 = .ok (.bipush 10, 2) := by decide +kernel
theorem ad_Md_layValues_329 : decode prog_14_method_71_code 329 = .ok (.iload 12, 2) := by decide +kernel
theorem ad_Md_layValues_331 : decode prog_14_method_71_code 331 = .ok (.imul, 1) := by decide +kernel
theorem ad_Md_layValues_332 : decode prog_14_method_71_code 332 = .ok (.iload 23, 2) := by decide +kernel
theorem ad_Md_layValues_334 : decode prog_14_method_71_code 334 = .ok (.iadd, 1) := by decide +kernel
theorem ad_Md_layValues_335 : decode prog_14_method_71_code 335 = .ok (.lload 24, 2) := by decide +kernel
theorem ad_Md_layValues_337 : decode prog_14_method_71_code 337 = .ok (.lload 26, 2) := by decide +kernel
theorem ad_Md_layValues_339 : decode prog_14_method_71_code 339 = .ok (.lcmp, 1) := by decide +kernel
theorem ad_Md_layValues_340 : decode prog_14_method_71_code 340 = .ok (.ifCond .lt 8, 3) := by decide +kernel
theorem ad_Md_layValues_343 : decode prog_14_method_71_code 343 = .ok (.lload 24, 2) := by decide +kernel
theorem ad_Md_layValues_345 : decode prog_14_method_71_code 345 = .ok (.goto 5, 3) := by decide +kernel
theorem ad_Md_layValues_348 : decode prog_14_method_71_code 348 = .ok (.lload 26, 2) := by decide +kernel
theorem ad_Md_layValues_350 : decode prog_14_method_71_code 350 = .ok (.lastore, 1) := by decide +kernel
theorem ad_Md_layValues_351 : decode prog_14_method_71_code 351 = .ok (.aload_n 0, 1) := by decide +kernel
theorem ad_Md_layValues_352 : decode prog_14_method_71_code 352 = .ok (.getfield 66, 3) := by decide +kernel
theorem ad_Md_layValues_355 : decode prog_14_method_71_code 355 = .ok (.bipush 10, 2) := by decide +kernel
theorem ad_Md_layValues_357 : decode prog_14_method_71_code 357 = .ok (.iload 12, 2) := by decide +kernel
theorem ad_Md_layValues_359 : decode prog_14_method_71_code 359 = .ok (.imul, 1) := by decide +kernel
theorem ad_Md_layValues_360 : decode prog_14_method_71_code 360 = .ok (.iload 23, 2) := by decide +kernel
theorem ad_Md_layValues_362 : decode prog_14_method_71_code 362 = .ok (.iadd, 1) := by decide +kernel
theorem ad_Md_layValues_363 : decode prog_14_method_71_code 363 = .ok (.lload 24, 2) := by decide +kernel
theorem ad_Md_layValues_365 : decode prog_14_method_71_code 365 = .ok (.lload 26, 2) := by decide +kernel
theorem ad_Md_layValues_367 : decode prog_14_method_71_code 367 = .ok (.lcmp, 1) := by decide +kernel
theorem ad_Md_layValues_368 : decode prog_14_method_71_code 368 = .ok (.ifCond .lt 7, 3) := by decide +kernel
theorem ad_Md_layValues_371 : decode prog_14_method_71_code 371 = .ok (.iconst 2, 1) := by decide +kernel
theorem ad_Md_layValues_372 : decode prog_14_method_71_code 372 = .ok (.goto 4, 3) := by decide +kernel
theorem ad_Md_layValues_375 : decode prog_14_method_71_code 375 = .ok (.iconst 3, 1) := by decide +kernel
theorem ad_Md_layValues_376 : decode prog_14_method_71_code 376 = .ok (.iastore, 1) := by decide +kernel
theorem ad_Md_layValues_377 : decode prog_14_method_71_code 377 = .ok (.iinc 23 1, 3) := by decide +kernel
theorem ad_Md_layValues_380 : decode prog_14_method_71_code 380 = .ok (.goto (-101), 3) := by decide +kernel
theorem ad_Md_layValues_383 : decode prog_14_method_71_code 383 = .ok (.iinc 12 1, 3) := by decide +kernel
theorem ad_Md_layValues_386 : decode prog_14_method_71_code 386 = .ok (.goto (-278), 3) := by decide +kernel
theorem ad_Md_layValues_389 : decode prog_14_method_71_code 389 = .ok (.return_, 1) := by decide +kernel
theorem ad_Md_isAsked_0 : decode prog_14_method_72_code 0 = .ok (.aload_n 0, 1) := by decide +kernel
theorem ad_Md_isAsked_1 : decode prog_14_method_72_code 1 = .ok (.iload_n 1, 1) := by decide +kernel
theorem ad_Md_isAsked_2 : decode prog_14_method_72_code 2 = .ok (.invokevirtual 261, 3) := by decide +kernel
theorem ad_Md_isAsked_5 : decode prog_14_method_72_code 5 = .ok (.ifCond .eq 57, 3) := by decide +kernel
theorem ad_Md_isAsked_8 : decode prog_14_method_72_code 8 = .ok (.aload_n 0, 1) := by decide +kernel
theorem ad_Md_isAsked_9 : decode prog_14_method_72_code 9 = .ok (.iload_n 2, 1) := by decide +kernel
theorem ad_Md_isAsked_10 : decode prog_14_method_72_code 10 = .ok (.invokevirtual 267, 3) := by decide +kernel
theorem ad_Md_isAsked_13 : decode prog_14_method_72_code 13 = .ok (.ifCond .eq 49, 3) := by decide +kernel
theorem ad_Md_isAsked_16 : decode prog_14_method_72_code 16 = .ok (.iload_n 1, 1) := by decide +kernel
theorem ad_Md_isAsked_17 : decode prog_14_method_72_code 17 = .ok (.aload_n 0, 1) := by decide +kernel
theorem ad_Md_isAsked_18 : decode prog_14_method_72_code 18 = .ok (.iload_n 2, 1) := by decide +kernel
theorem ad_Md_isAsked_19 : decode prog_14_method_72_code 19 = .ok (.invokevirtual 346, 3) := by decide +kernel
theorem ad_Md_isAsked_22 : decode prog_14_method_72_code 22 = .ok (.if_icmp .eq 40, 3) := by decide +kernel
theorem ad_Md_isAsked_25 : decode prog_14_method_72_code 25 = .ok (.aload_n 0, 1) := by decide +kernel
theorem ad_Md_isAsked_26 : decode prog_14_method_72_code 26 = .ok (.iload_n 1, 1) := by decide +kernel
theorem ad_Md_isAsked_27 : decode prog_14_method_72_code 27 = .ok (.aload_n 0, 1) := by decide +kernel
theorem ad_Md_isAsked_28 : decode prog_14_method_72_code 28 = .ok (.iload_n 2, 1) := by decide +kernel
theorem ad_Md_isAsked_29 : decode prog_14_method_72_code 29 = .ok (.invokevirtual 341, 3) := by decide +kernel
theorem ad_Md_isAsked_32 : decode prog_14_method_72_code 32 = .ok (.invokevirtual 257, 3) := by decide +kernel
theorem ad_Md_isAsked_35 : decode prog_14_method_72_code 35 = .ok (.ifCond .le 27, 3) := by decide +kernel
theorem ad_Md_isAsked_38 : decode prog_14_method_72_code 38 = .ok (.iload_n 3, 1) := by decide +kernel
theorem ad_Md_isAsked_39 : decode prog_14_method_72_code 39 = .ok (.iconst 0, 1) := by decide +kernel
theorem ad_Md_isAsked_40 : decode prog_14_method_72_code 40 = .ok (.bipush 20, 2) := by decide +kernel
theorem ad_Md_isAsked_42 : decode prog_14_method_72_code 42 = .ok (.invokestatic 174, 3) := by decide +kernel
theorem ad_Md_isAsked_45 : decode prog_14_method_72_code 45 = .ok (.ifCond .eq 17, 3) := by decide +kernel
theorem ad_Md_isAsked_48 : decode prog_14_method_72_code 48 = .ok (.iload 4, 2) := by decide +kernel
theorem ad_Md_isAsked_50 : decode prog_14_method_72_code 50 = .ok (.iconst 0, 1) := by decide +kernel
theorem ad_Md_isAsked_51 : decode prog_14_method_72_code 51 = .ok (.iconst 2, 1) := by decide +kernel
theorem ad_Md_isAsked_52 : decode prog_14_method_72_code 52 = .ok (.invokestatic 174, 3) := by decide +kernel
theorem ad_Md_isAsked_55 : decode prog_14_method_72_code 55 = .ok (.ifCond .eq 7, 3) := by decide +kernel
theorem ad_Md_isAsked_58 : decode prog_14_method_72_code 58 = .ok (.iconst 1, 1) := by decide +kernel
theorem ad_Md_isAsked_59 : decode prog_14_method_72_code 59 = .ok (.goto 4, 3) := by decide +kernel
theorem ad_Md_isAsked_62 : decode prog_14_method_72_code 62 = .ok (.iconst 0, 1) := by decide +kernel
theorem ad_Md_isAsked_63 : decode prog_14_method_72_code 63 = .ok (.ireturn, 1) := by decide +kernel
theorem ad_Md_best_0 : decode prog_14_method_73_code 0 = .ok (.aload_n 0, 1) := by decide +kernel
theorem ad_Md_best_1 : decode prog_14_method_73_code 1 = .ok (.invokevirtual 187, 3) := by decide +kernel
theorem ad_Md_best_4 : decode prog_14_method_73_code 4 = .ok (.aload_n 0, 1) := by decide +kernel
theorem ad_Md_best_5 : decode prog_14_method_73_code 5 = .ok (.iload_n 1, 1) := by decide +kernel
theorem ad_Md_best_6 : decode prog_14_method_73_code 6 = .ok (.iload_n 2, 1) := by decide +kernel
theorem ad_Md_best_7 : decode prog_14_method_73_code 7 = .ok (.iload_n 3, 1) := by decide +kernel
theorem ad_Md_best_8 : decode prog_14_method_73_code 8 = .ok (.iload 5, 2) := by decide +kernel
theorem ad_Md_best_10 : decode prog_14_method_73_code 10 = .ok (.invokevirtual 351, 3) := by decide +kernel
theorem ad_Md_best_13 : decode prog_14_method_73_code 13 = .ok (.ifCond .eq 18, 3) := by decide +kernel
theorem ad_Md_best_16 : decode prog_14_method_73_code 16 = .ok (.iload 4, 2) := by decide +kernel
theorem ad_Md_best_18 : decode prog_14_method_73_code 18 = .ok (.iconst 0, 1) := by decide +kernel
theorem ad_Md_best_19 : decode prog_14_method_73_code 19 = .ok (.aload_n 0, 1) := by decide +kernel
theorem ad_Md_best_20 : decode prog_14_method_73_code 20 = .ok (.getfield 13, 3) := by decide +kernel
theorem ad_Md_best_23 : decode prog_14_method_73_code 23 = .ok (.iconst 3, 1) := by decide +kernel
theorem ad_Md_best_24 : decode prog_14_method_73_code 24 = .ok (.iaload, 1) := by decide +kernel
theorem ad_Md_best_25 : decode prog_14_method_73_code 25 = .ok (.invokestatic 174, 3) := by decide +kernel
theorem ad_Md_best_28 : decode prog_14_method_73_code 28 = .ok (.ifCond .ne 10, 3) := by decide +kernel
theorem ad_Md_best_31 : decode prog_14_method_73_code 31 = .ok (.aload_n 0, 1) := by decide +kernel
theorem ad_Md_best_32 : decode prog_14_method_73_code 32 = .ok (.iconst 1, 1) := by decide +kernel
theorem ad_Md_best_33 : decode prog_14_method_73_code 33 = .ok (.putfield 102, 3) := by decide +kernel
theorem ad_Md_best_36 : decode prog_14_method_73_code 36 = .ok (.lconst 0, 1) := by decide +kernel
theorem ad_Md_best_37 : decode prog_14_method_73_code 37 = .ok (.lreturn, 1) := by decide +kernel
theorem ad_Md_best_38 : decode prog_14_method_73_code 38 = .ok (.aload_n 0, 1) := by decide +kernel
theorem ad_Md_best_39 : decode prog_14_method_73_code 39 = .ok (.iconst 0, 1) := by decide +kernel
theorem ad_Md_best_40 : decode prog_14_method_73_code 40 = .ok (.putfield 102, 3) := by decide +kernel
theorem ad_Md_best_43 : decode prog_14_method_73_code 43 = .ok (.aload_n 0, 1) := by decide +kernel
theorem ad_Md_best_44 : decode prog_14_method_73_code 44 = .ok (.iload_n 1, 1) := by decide +kernel
theorem ad_Md_best_45 : decode prog_14_method_73_code 45 = .ok (.iload_n 2, 1) := by decide +kernel
theorem ad_Md_best_46 : decode prog_14_method_73_code 46 = .ok (.iload_n 3, 1) := by decide +kernel
theorem ad_Md_best_47 : decode prog_14_method_73_code 47 = .ok (.iload 5, 2) := by decide +kernel
theorem ad_Md_best_49 : decode prog_14_method_73_code 49 = .ok (.invokevirtual 355, 3) := by decide +kernel
theorem ad_Md_best_52 : decode prog_14_method_73_code 52 = .ok (.aload_n 0, 1) := by decide +kernel
theorem ad_Md_best_53 : decode prog_14_method_73_code 53 = .ok (.getfield 63, 3) := by decide +kernel
theorem ad_Md_best_56 : decode prog_14_method_73_code 56 = .ok (.bipush 10, 2) := by decide +kernel
theorem ad_Md_best_58 : decode prog_14_method_73_code 58 = .ok (.iload_n 3, 1) := by decide +kernel
theorem ad_Md_best_59 : decode prog_14_method_73_code 59 = .ok (.imul, 1) := by decide +kernel
theorem ad_Md_best_60 : decode prog_14_method_73_code 60 = .ok (.iload 4, 2) := by decide +kernel
theorem ad_Md_best_62 : decode prog_14_method_73_code 62 = .ok (.iadd, 1) := by decide +kernel
theorem ad_Md_best_63 : decode prog_14_method_73_code 63 = .ok (.laload, 1) := by decide +kernel
theorem ad_Md_best_64 : decode prog_14_method_73_code 64 = .ok (.lreturn, 1) := by decide +kernel
theorem ad_Md_does_0 : decode prog_14_method_74_code 0 = .ok (.aload_n 0, 1) := by decide +kernel
theorem ad_Md_does_1 : decode prog_14_method_74_code 1 = .ok (.iconst 0, 1) := by decide +kernel
theorem ad_Md_does_2 : decode prog_14_method_74_code 2 = .ok (.putfield 102, 3) := by decide +kernel
theorem ad_Md_does_5 : decode prog_14_method_74_code 5 = .ok (.aload_n 0, 1) := by decide +kernel
theorem ad_Md_does_6 : decode prog_14_method_74_code 6 = .ok (.invokevirtual 187, 3) := by decide +kernel
theorem ad_Md_does_9 : decode prog_14_method_74_code 9 = .ok (.aload_n 0, 1) := by decide +kernel
theorem ad_Md_does_10 : decode prog_14_method_74_code 10 = .ok (.iload_n 1, 1) := by decide +kernel
theorem ad_Md_does_11 : decode prog_14_method_74_code 11 = .ok (.iload_n 2, 1) := by decide +kernel
theorem ad_Md_does_12 : decode prog_14_method_74_code 12 = .ok (.iload_n 3, 1) := by decide +kernel
theorem ad_Md_does_13 : decode prog_14_method_74_code 13 = .ok (.iload 5, 2) := by decide +kernel
theorem ad_Md_does_15 : decode prog_14_method_74_code 15 = .ok (.invokevirtual 351, 3) := by decide +kernel
theorem ad_Md_does_18 : decode prog_14_method_74_code 18 = .ok (.ifCond .eq 18, 3) := by decide +kernel
theorem ad_Md_does_21 : decode prog_14_method_74_code 21 = .ok (.iload 4, 2) := by decide +kernel
theorem ad_Md_does_23 : decode prog_14_method_74_code 23 = .ok (.iconst 0, 1) := by decide +kernel
theorem ad_Md_does_24 : decode prog_14_method_74_code 24 = .ok (.aload_n 0, 1) := by decide +kernel
theorem ad_Md_does_25 : decode prog_14_method_74_code 25 = .ok (.getfield 13, 3) := by decide +kernel
theorem ad_Md_does_28 : decode prog_14_method_74_code 28 = .ok (.iconst 3, 1) := by decide +kernel
theorem ad_Md_does_29 : decode prog_14_method_74_code 29 = .ok (.iaload, 1) := by decide +kernel
theorem ad_Md_does_30 : decode prog_14_method_74_code 30 = .ok (.invokestatic 174, 3) := by decide +kernel
theorem ad_Md_does_33 : decode prog_14_method_74_code 33 = .ok (.ifCond .ne 5, 3) := by decide +kernel
theorem ad_Md_does_36 : decode prog_14_method_74_code 36 = .ok (.iconst (-1), 1) := by decide +kernel
theorem ad_Md_does_37 : decode prog_14_method_74_code 37 = .ok (.ireturn, 1) := by decide +kernel
theorem ad_Md_does_38 : decode prog_14_method_74_code 38 = .ok (.aload_n 0, 1) := by decide +kernel
theorem ad_Md_does_39 : decode prog_14_method_74_code 39 = .ok (.iload_n 1, 1) := by decide +kernel
theorem ad_Md_does_40 : decode prog_14_method_74_code 40 = .ok (.iload_n 2, 1) := by decide +kernel
theorem ad_Md_does_41 : decode prog_14_method_74_code 41 = .ok (.iload_n 3, 1) := by decide +kernel
theorem ad_Md_does_42 : decode prog_14_method_74_code 42 = .ok (.iload 5, 2) := by decide +kernel
theorem ad_Md_does_44 : decode prog_14_method_74_code 44 = .ok (.invokevirtual 355, 3) := by decide +kernel
theorem ad_Md_does_47 : decode prog_14_method_74_code 47 = .ok (.aload_n 0, 1) := by decide +kernel
theorem ad_Md_does_48 : decode prog_14_method_74_code 48 = .ok (.getfield 66, 3) := by decide +kernel
theorem ad_Md_does_51 : decode prog_14_method_74_code 51 = .ok (.bipush 10, 2) := by decide +kernel
theorem ad_Md_does_53 : decode prog_14_method_74_code 53 = .ok (.iload_n 3, 1) := by decide +kernel
theorem ad_Md_does_54 : decode prog_14_method_74_code 54 = .ok (.imul, 1) := by decide +kernel
theorem ad_Md_does_55 : decode prog_14_method_74_code 55 = .ok (.iload 4, 2) := by decide +kernel
theorem ad_Md_does_57 : decode prog_14_method_74_code 57 = .ok (.iadd, 1) := by decide +kernel
theorem ad_Md_does_58 : decode prog_14_method_74_code 58 = .ok (.iaload, 1) := by decide +kernel
theorem ad_Md_does_59 : decode prog_14_method_74_code 59 = .ok (.ireturn, 1) := by decide +kernel
theorem ad_Md_freely_0 : decode prog_14_method_75_code 0 = .ok (.aload_n 0, 1) := by decide +kernel
theorem ad_Md_freely_1 : decode prog_14_method_75_code 1 = .ok (.iload_n 1, 1) := by decide +kernel
theorem ad_Md_freely_2 : decode prog_14_method_75_code 2 = .ok (.iload_n 2, 1) := by decide +kernel
theorem ad_Md_freely_3 : decode prog_14_method_75_code 3 = .ok (.iload_n 3, 1) := by decide +kernel
theorem ad_Md_freely_4 : decode prog_14_method_75_code 4 = .ok (.iload 4, 2) := by decide +kernel
theorem ad_Md_freely_6 : decode prog_14_method_75_code 6 = .ok (.invokevirtual 355, 3) := by decide +kernel
theorem ad_Md_freely_9 : decode prog_14_method_75_code 9 = .ok (.aload_n 0, 1) := by decide +kernel
theorem ad_Md_freely_10 : decode prog_14_method_75_code 10 = .ok (.getfield 66, 3) := by decide +kernel
theorem ad_Md_freely_13 : decode prog_14_method_75_code 13 = .ok (.bipush 10, 2) := by decide +kernel
theorem ad_Md_freely_15 : decode prog_14_method_75_code 15 = .ok (.iload_n 3, 1) := by decide +kernel
theorem ad_Md_freely_16 : decode prog_14_method_75_code 16 = .ok (.imul, 1) := by decide +kernel
theorem ad_Md_freely_17 : decode prog_14_method_75_code 17 = .ok (.iaload, 1) := by decide +kernel
theorem ad_Md_freely_18 : decode prog_14_method_75_code 18 = .ok (.ireturn, 1) := by decide +kernel
theorem ad_Md_willing_0 : decode prog_14_method_76_code 0 = .ok (.aload_n 0, 1) := by decide +kernel
theorem ad_Md_willing_1 : decode prog_14_method_76_code 1 = .ok (.iconst 0, 1) := by decide +kernel
theorem ad_Md_willing_2 : decode prog_14_method_76_code 2 = .ok (.putfield 102, 3) := by decide +kernel
theorem ad_Md_willing_5 : decode prog_14_method_76_code 5 = .ok (.aload_n 0, 1) := by decide +kernel
theorem ad_Md_willing_6 : decode prog_14_method_76_code 6 = .ok (.invokevirtual 187, 3) := by decide +kernel
theorem ad_Md_willing_9 : decode prog_14_method_76_code 9 = .ok (.aload_n 0, 1) := by decide +kernel
theorem ad_Md_willing_10 : decode prog_14_method_76_code 10 = .ok (.iload_n 1, 1) := by decide +kernel
theorem ad_Md_willing_11 : decode prog_14_method_76_code 11 = .ok (.invokevirtual 267, 3) := by decide +kernel
theorem ad_Md_willing_14 : decode prog_14_method_76_code 14 = .ok (.ifCond .eq 22, 3) := by decide +kernel
theorem ad_Md_willing_17 : decode prog_14_method_76_code 17 = .ok (.iload_n 2, 1) := by decide +kernel
theorem ad_Md_willing_18 : decode prog_14_method_76_code 18 = .ok (.iconst 0, 1) := by decide +kernel
theorem ad_Md_willing_19 : decode prog_14_method_76_code 19 = .ok (.bipush 20, 2) := by decide +kernel
theorem ad_Md_willing_21 : decode prog_14_method_76_code 21 = .ok (.invokestatic 174, 3) := by decide +kernel
theorem ad_Md_willing_24 : decode prog_14_method_76_code 24 = .ok (.ifCond .eq 12, 3) := by decide +kernel
theorem ad_Md_willing_27 : decode prog_14_method_76_code 27 = .ok (.iload_n 3, 1) := by decide +kernel
theorem ad_Md_willing_28 : decode prog_14_method_76_code 28 = .ok (.iconst 0, 1) := by decide +kernel
theorem ad_Md_willing_29 : decode prog_14_method_76_code 29 = .ok (.iconst 2, 1) := by decide +kernel
theorem ad_Md_willing_30 : decode prog_14_method_76_code 30 = .ok (.invokestatic 174, 3) := by decide +kernel
theorem ad_Md_willing_33 : decode prog_14_method_76_code 33 = .ok (.ifCond .ne 5, 3) := by decide +kernel
theorem ad_Md_willing_36 : decode prog_14_method_76_code 36 = .ok (.iconst (-1), 1) := by decide +kernel
theorem ad_Md_willing_37 : decode prog_14_method_76_code 37 = .ok (.ireturn, 1) := by decide +kernel
theorem ad_Md_willing_38 : decode prog_14_method_76_code 38 = .ok (.iconst 0, 1) := by decide +kernel
theorem ad_Md_willing_39 : decode prog_14_method_76_code 39 = .ok (.istore 4, 2) := by decide +kernel
theorem ad_Md_willing_41 : decode prog_14_method_76_code 41 = .ok (.iconst 0, 1) := by decide +kernel
theorem ad_Md_willing_42 : decode prog_14_method_76_code 42 = .ok (.istore 5, 2) := by decide +kernel
theorem ad_Md_willing_44 : decode prog_14_method_76_code 44 = .ok (.iload 5, 2) := by decide +kernel
theorem ad_Md_willing_46 : decode prog_14_method_76_code 46 = .ok (.aload_n 0, 1) := by decide +kernel
theorem ad_Md_willing_47 : decode prog_14_method_76_code 47 = .ok (.invokevirtual 201, 3) := by decide +kernel
theorem ad_Md_willing_50 : decode prog_14_method_76_code 50 = .ok (.if_icmp .ge 36, 3) := by decide +kernel
theorem ad_Md_willing_53 : decode prog_14_method_76_code 53 = .ok (.aload_n 0, 1) := by decide +kernel
theorem ad_Md_willing_54 : decode prog_14_method_76_code 54 = .ok (.iload 5, 2) := by decide +kernel
theorem ad_Md_willing_56 : decode prog_14_method_76_code 56 = .ok (.iload_n 1, 1) := by decide +kernel
theorem ad_Md_willing_57 : decode prog_14_method_76_code 57 = .ok (.iload_n 2, 1) := by decide +kernel
theorem ad_Md_willing_58 : decode prog_14_method_76_code 58 = .ok (.iload_n 3, 1) := by decide +kernel
theorem ad_Md_willing_59 : decode prog_14_method_76_code 59 = .ok (.invokevirtual 351, 3) := by decide +kernel
theorem ad_Md_willing_62 : decode prog_14_method_76_code 62 = .ok (.ifCond .eq 18, 3) := by decide +kernel
theorem ad_Md_willing_65 : decode prog_14_method_76_code 65 = .ok (.aload_n 0, 1) := by decide +kernel
theorem ad_Md_willing_66 : decode prog_14_method_76_code 66 = .ok (.iload 5, 2) := by decide +kernel
theorem ad_Md_willing_68 : decode prog_14_method_76_code 68 = .ok (.iload_n 1, 1) := by decide +kernel
theorem ad_Md_willing_69 : decode prog_14_method_76_code 69 = .ok (.iload_n 2, 1) := by decide +kernel
theorem ad_Md_willing_70 : decode prog_14_method_76_code 70 = .ok (.iload_n 3, 1) := by decide +kernel
theorem ad_Md_willing_71 : decode prog_14_method_76_code 71 = .ok (.invokevirtual 359, 3) := by decide +kernel
theorem ad_Md_willing_74 : decode prog_14_method_76_code 74 = .ok (.ifCond .eq 6, 3) := by decide +kernel
theorem ad_Md_willing_77 : decode prog_14_method_76_code 77 = .ok (.iinc 4 1, 3) := by decide +kernel
theorem ad_Md_willing_80 : decode prog_14_method_76_code 80 = .ok (.iinc 5 1, 3) := by decide +kernel
theorem ad_Md_willing_83 : decode prog_14_method_76_code 83 = .ok (.goto (-39), 3) := by decide +kernel
theorem ad_Md_willing_86 : decode prog_14_method_76_code 86 = .ok (.iload 4, 2) := by decide +kernel
theorem ad_Md_willing_88 : decode prog_14_method_76_code 88 = .ok (.ireturn, 1) := by decide +kernel
theorem ad_Md_ways_0 : decode prog_14_method_77_code 0 = .ok (.aload_n 0, 1) := by decide +kernel
theorem ad_Md_ways_1 : decode prog_14_method_77_code 1 = .ok (.iconst 0, 1) := by decide +kernel
theorem ad_Md_ways_2 : decode prog_14_method_77_code 2 = .ok (.putfield 102, 3) := by decide +kernel
theorem ad_Md_ways_5 : decode prog_14_method_77_code 5 = .ok (.aload_n 0, 1) := by decide +kernel
theorem ad_Md_ways_6 : decode prog_14_method_77_code 6 = .ok (.invokevirtual 187, 3) := by decide +kernel
theorem ad_Md_ways_9 : decode prog_14_method_77_code 9 = .ok (.aload_n 0, 1) := by decide +kernel
theorem ad_Md_ways_10 : decode prog_14_method_77_code 10 = .ok (.iload_n 1, 1) := by decide +kernel
theorem ad_Md_ways_11 : decode prog_14_method_77_code 11 = .ok (.invokevirtual 261, 3) := by decide +kernel
theorem ad_Md_ways_14 : decode prog_14_method_77_code 14 = .ok (.ifCond .eq 21, 3) := by decide +kernel
theorem ad_Md_ways_17 : decode prog_14_method_77_code 17 = .ok (.iload_n 2, 1) := by decide +kernel
theorem ad_Md_ways_18 : decode prog_14_method_77_code 18 = .ok (.iconst 0, 1) := by decide +kernel
theorem ad_Md_ways_19 : decode prog_14_method_77_code 19 = .ok (.iconst 4, 1) := by decide +kernel
theorem ad_Md_ways_20 : decode prog_14_method_77_code 20 = .ok (.invokestatic 174, 3) := by decide +kernel
theorem ad_Md_ways_23 : decode prog_14_method_77_code 23 = .ok (.ifCond .eq 12, 3) := by decide +kernel
theorem ad_Md_ways_26 : decode prog_14_method_77_code 26 = .ok (.iload_n 3, 1) := by decide +kernel
theorem ad_Md_ways_27 : decode prog_14_method_77_code 27 = .ok (.iconst 0, 1) := by decide +kernel
theorem ad_Md_ways_28 : decode prog_14_method_77_code 28 = .ok (.iconst 3, 1) := by decide +kernel
theorem ad_Md_ways_29 : decode prog_14_method_77_code 29 = .ok (.invokestatic 174, 3) := by decide +kernel
theorem ad_Md_ways_32 : decode prog_14_method_77_code 32 = .ok (.ifCond .ne 5, 3) := by decide +kernel
theorem ad_Md_ways_35 : decode prog_14_method_77_code 35 = .ok (.iconst 0, 1) := by decide +kernel
theorem ad_Md_ways_36 : decode prog_14_method_77_code 36 = .ok (.ireturn, 1) := by decide +kernel
theorem ad_Md_ways_37 : decode prog_14_method_77_code 37 = .ok (.aload_n 0, 1) := by decide +kernel
theorem ad_Md_ways_38 : decode prog_14_method_77_code 38 = .ok (.getfield 13, 3) := by decide +kernel
theorem ad_Md_ways_41 : decode prog_14_method_77_code 41 = .ok (.sipush 325, 3) := by decide +kernel
theorem ad_Md_ways_44 : decode prog_14_method_77_code 44 = .ok (.iconst 2, 1) := by decide +kernel
theorem ad_Md_ways_45 : decode prog_14_method_77_code 45 = .ok (.iload_n 1, 1) := by decide +kernel
theorem ad_Md_ways_46 : decode prog_14_method_77_code 46 = .ok (.imul, 1) := by decide +kernel
theorem ad_Md_ways_47 : decode prog_14_method_77_code 47 = .ok (.iadd, 1) := by decide +kernel
theorem ad_Md_ways_48 : decode prog_14_method_77_code 48 = .ok (.iload_n 2, 1) := by decide +kernel
theorem ad_Md_ways_49 : decode prog_14_method_77_code 49 = .ok (.iastore, 1) := by decide +kernel
theorem ad_Md_ways_50 : decode prog_14_method_77_code 50 = .ok (.aload_n 0, 1) := by decide +kernel
theorem ad_Md_ways_51 : decode prog_14_method_77_code 51 = .ok (.getfield 13, 3) := by decide +kernel
theorem ad_Md_ways_54 : decode prog_14_method_77_code 54 = .ok (.sipush 325, 3) := by decide +kernel
theorem ad_Md_ways_57 : decode prog_14_method_77_code 57 = .ok (.iconst 2, 1) := by decide +kernel
theorem ad_Md_ways_58 : decode prog_14_method_77_code 58 = .ok (.iload_n 1, 1) := by decide +kernel
theorem ad_Md_ways_59 : decode prog_14_method_77_code 59 = .ok (.imul, 1) := by decide +kernel
theorem ad_Md_ways_60 : decode prog_14_method_77_code 60 = .ok (.iadd, 1) := by decide +kernel
theorem ad_Md_ways_61 : decode prog_14_method_77_code 61 = .ok (.iconst 1, 1) := by decide +kernel
theorem ad_Md_ways_62 : decode prog_14_method_77_code 62 = .ok (.iadd, 1) := by decide +kernel
theorem ad_Md_ways_63 : decode prog_14_method_77_code 63 = .ok (.iload_n 3, 1) := by decide +kernel
theorem ad_Md_ways_64 : decode prog_14_method_77_code 64 = .ok (.iastore, 1) := by decide +kernel
theorem ad_Md_ways_65 : decode prog_14_method_77_code 65 = .ok (.iconst 1, 1) := by decide +kernel
theorem ad_Md_ways_66 : decode prog_14_method_77_code 66 = .ok (.ireturn, 1) := by decide +kernel
theorem ad_Md_draw_0 : decode prog_14_method_78_code 0 = .ok (.aload_n 0, 1) := by decide +kernel
theorem ad_Md_draw_1 : decode prog_14_method_78_code 1 = .ok (.aload_n 0, 1) := by decide +kernel
theorem ad_Md_draw_2 : decode prog_14_method_78_code 2 = .ok (.getfield 362, 3) := by decide +kernel
theorem ad_Md_draw_5 : decode prog_14_method_78_code 5 = .ok (.ldc_w 365, 3) := by decide +kernel
theorem ad_Md_draw_8 : decode prog_14_method_78_code 8 = .ok (.imul, 1) := by decide +kernel
theorem ad_Md_draw_9 : decode prog_14_method_78_code 9 = .ok (.sipush 12345, 3) := by decide +kernel
theorem ad_Md_draw_12 : decode prog_14_method_78_code 12 = .ok (.iadd, 1) := by decide +kernel
theorem ad_Md_draw_13 : decode prog_14_method_78_code 13 = .ok (.putfield 362, 3) := by decide +kernel
theorem ad_Md_draw_16 : decode prog_14_method_78_code 16 = .ok (.aload_n 0, 1) := by decide +kernel
theorem ad_Md_draw_17 : decode prog_14_method_78_code 17 = .ok (.getfield 362, 3) := by decide +kernel
theorem ad_Md_draw_20 : decode prog_14_method_78_code 20 = .ok (.bipush 8, 2) := by decide +kernel
theorem ad_Md_draw_22 : decode prog_14_method_78_code 22 = .ok (.iushr, 1) := by decide +kernel
theorem ad_Md_draw_23 : decode prog_14_method_78_code 23 = .ok (.iload_n 1, 1) := by decide +kernel
theorem ad_Md_draw_24 : decode prog_14_method_78_code 24 = .ok (.irem, 1) := by decide +kernel
theorem ad_Md_draw_25 : decode prog_14_method_78_code 25 = .ok (.ireturn, 1) := by decide +kernel
theorem ad_Md_isSeen_0 : decode prog_14_method_79_code 0 = .ok (.iconst 0, 1) := by decide +kernel
theorem ad_Md_isSeen_1 : decode prog_14_method_79_code 1 = .ok (.istore_n 2, 1) := by decide +kernel
theorem ad_Md_isSeen_2 : decode prog_14_method_79_code 2 = .ok (.iconst 0, 1) := by decide +kernel
theorem ad_Md_isSeen_3 : decode prog_14_method_79_code 3 = .ok (.istore_n 3, 1) := by decide +kernel
theorem ad_Md_isSeen_4 : decode prog_14_method_79_code 4 = .ok (.iload_n 3, 1) := by decide +kernel
theorem ad_Md_isSeen_5 : decode prog_14_method_79_code 5 = .ok (.aload_n 0, 1) := by decide +kernel
theorem ad_Md_isSeen_6 : decode prog_14_method_79_code 6 = .ok (.invokevirtual 201, 3) := by decide +kernel
theorem ad_Md_isSeen_9 : decode prog_14_method_79_code 9 = .ok (.if_icmp .ge 40, 3) := by decide +kernel
theorem ad_Md_isSeen_12 : decode prog_14_method_79_code 12 = .ok (.iload_n 3, 1) := by decide +kernel
theorem ad_Md_isSeen_13 : decode prog_14_method_79_code 13 = .ok (.iload_n 1, 1) := by decide +kernel
theorem ad_Md_isSeen_14 : decode prog_14_method_79_code 14 = .ok (.if_icmp .eq 29, 3) := by decide +kernel
theorem ad_Md_isSeen_17 : decode prog_14_method_79_code 17 = .ok (.aload_n 0, 1) := by decide +kernel
theorem ad_Md_isSeen_18 : decode prog_14_method_79_code 18 = .ok (.iload_n 3, 1) := by decide +kernel
theorem ad_Md_isSeen_19 : decode prog_14_method_79_code 19 = .ok (.iload_n 1, 1) := by decide +kernel
theorem ad_Md_isSeen_20 : decode prog_14_method_79_code 20 = .ok (.invokevirtual 273, 3) := by decide +kernel
theorem ad_Md_isSeen_23 : decode prog_14_method_79_code 23 = .ok (.ifCond .le 20, 3) := by decide +kernel
theorem ad_Md_isSeen_26 : decode prog_14_method_79_code 26 = .ok (.aload_n 0, 1) := by decide +kernel
theorem ad_Md_isSeen_27 : decode prog_14_method_79_code 27 = .ok (.bipush 10, 2) := by decide +kernel
theorem ad_Md_isSeen_29 : decode prog_14_method_79_code 29 = .ok (.invokevirtual 366, 3) := by decide +kernel
theorem ad_Md_isSeen_32 : decode prog_14_method_79_code 32 = .ok (.aload_n 0, 1) := by decide +kernel
theorem ad_Md_isSeen_33 : decode prog_14_method_79_code 33 = .ok (.iload_n 3, 1) := by decide +kernel
theorem ad_Md_isSeen_34 : decode prog_14_method_79_code 34 = .ok (.iload_n 1, 1) := by decide +kernel
theorem ad_Md_isSeen_35 : decode prog_14_method_79_code 35 = .ok (.invokevirtual 273, 3) := by decide +kernel
theorem ad_Md_isSeen_38 : decode prog_14_method_79_code 38 = .ok (.if_icmp .ge 5, 3) := by decide +kernel
theorem ad_Md_isSeen_41 : decode prog_14_method_79_code 41 = .ok (.iconst 1, 1) := by decide +kernel
theorem ad_Md_isSeen_42 : decode prog_14_method_79_code 42 = .ok (.istore_n 2, 1) := by decide +kernel
theorem ad_Md_isSeen_43 : decode prog_14_method_79_code 43 = .ok (.iinc 3 1, 3) := by decide +kernel
theorem ad_Md_isSeen_46 : decode prog_14_method_79_code 46 = .ok (.goto (-42), 3) := by decide +kernel
theorem ad_Md_isSeen_49 : decode prog_14_method_79_code 49 = .ok (.iload_n 2, 1) := by decide +kernel
theorem ad_Md_isSeen_50 : decode prog_14_method_79_code 50 = .ok (.ireturn, 1) := by decide +kernel
theorem ad_Md_canHelp_0 : decode prog_14_method_80_code 0 = .ok (.iload_n 1, 1) := by decide +kernel
theorem ad_Md_canHelp_1 : decode prog_14_method_80_code 1 = .ok (.aload_n 0, 1) := by decide +kernel
theorem ad_Md_canHelp_2 : decode prog_14_method_80_code 2 = .ok (.iload_n 2, 1) := by decide +kernel
theorem ad_Md_canHelp_3 : decode prog_14_method_80_code 3 = .ok (.invokevirtual 346, 3) := by decide +kernel
theorem ad_Md_canHelp_6 : decode prog_14_method_80_code 6 = .ok (.if_icmp .eq 20, 3) := by decide +kernel
theorem ad_Md_canHelp_9 : decode prog_14_method_80_code 9 = .ok (.aload_n 0, 1) := by decide +kernel
theorem ad_Md_canHelp_10 : decode prog_14_method_80_code 10 = .ok (.iload_n 1, 1) := by decide +kernel
theorem ad_Md_canHelp_11 : decode prog_14_method_80_code 11 = .ok (.aload_n 0, 1) := by decide +kernel
theorem ad_Md_canHelp_12 : decode prog_14_method_80_code 12 = .ok (.iload_n 2, 1) := by decide +kernel
theorem ad_Md_canHelp_13 : decode prog_14_method_80_code 13 = .ok (.invokevirtual 341, 3) := by decide +kernel
theorem ad_Md_canHelp_16 : decode prog_14_method_80_code 16 = .ok (.invokevirtual 257, 3) := by decide +kernel
theorem ad_Md_canHelp_19 : decode prog_14_method_80_code 19 = .ok (.ifCond .le 7, 3) := by decide +kernel
theorem ad_Md_canHelp_22 : decode prog_14_method_80_code 22 = .ok (.iconst 1, 1) := by decide +kernel
theorem ad_Md_canHelp_23 : decode prog_14_method_80_code 23 = .ok (.goto 4, 3) := by decide +kernel
theorem ad_Md_canHelp_26 : decode prog_14_method_80_code 26 = .ok (.iconst 0, 1) := by decide +kernel
theorem ad_Md_canHelp_27 : decode prog_14_method_80_code 27 = .ok (.ireturn, 1) := by decide +kernel
theorem ad_Md_offers_0 : decode prog_14_method_81_code 0 = .ok (.aload_n 0, 1) := by decide +kernel
theorem ad_Md_offers_1 : decode prog_14_method_81_code 1 = .ok (.iconst (-1), 1) := by decide +kernel
theorem ad_Md_offers_2 : decode prog_14_method_81_code 2 = .ok (.putfield 369, 3) := by decide +kernel
theorem ad_Md_offers_5 : decode prog_14_method_81_code 5 = .ok (.iconst 0, 1) := by decide +kernel
theorem ad_Md_offers_6 : decode prog_14_method_81_code 6 = .ok (.istore_n 3, 1) := by decide +kernel
theorem ad_Md_offers_7 : decode prog_14_method_81_code 7 = .ok (.iload_n 3, 1) := by decide +kernel
theorem ad_Md_offers_8 : decode prog_14_method_81_code 8 = .ok (.aload_n 0, 1) := by decide +kernel
theorem ad_Md_offers_9 : decode prog_14_method_81_code 9 = .ok (.invokevirtual 201, 3) := by decide +kernel
theorem ad_Md_offers_12 : decode prog_14_method_81_code 12 = .ok (.if_icmp .ge 163, 3) := by decide +kernel
theorem ad_Md_offers_15 : decode prog_14_method_81_code 15 = .ok (.aload_n 0, 1) := by decide +kernel
theorem ad_Md_offers_16 : decode prog_14_method_81_code 16 = .ok (.iload_n 3, 1) := by decide +kernel
theorem ad_Md_offers_17 : decode prog_14_method_81_code 17 = .ok (.iload_n 1, 1) := by decide +kernel
theorem ad_Md_offers_18 : decode prog_14_method_81_code 18 = .ok (.invokevirtual 372, 3) := by decide +kernel
theorem ad_Md_offers_21 : decode prog_14_method_81_code 21 = .ok (.ifCond .ne 6, 3) := by decide +kernel
theorem ad_Md_offers_24 : decode prog_14_method_81_code 24 = .ok (.goto 145, 3) := by decide +kernel
theorem ad_Md_offers_27 : decode prog_14_method_81_code 27 = .ok (.aload_n 0, 1) := by decide +kernel
theorem ad_Md_offers_28 : decode prog_14_method_81_code 28 = .ok (.iload_n 3, 1) := by decide +kernel
theorem ad_Md_offers_29 : decode prog_14_method_81_code 29 = .ok (.putfield 375, 3) := by decide +kernel
theorem ad_Md_offers_32 : decode prog_14_method_81_code 32 = .ok (.aload_n 0, 1) := by decide +kernel
theorem ad_Md_offers_33 : decode prog_14_method_81_code 33 = .ok (.getfield 13, 3) := by decide +kernel
theorem ad_Md_offers_36 : decode prog_14_method_81_code 36 = .ok (.sipush 325, 3) := by decide +kernel
theorem ad_Md_offers_39 : decode prog_14_method_81_code 39 = .ok (.iconst 2, 1) := by decide +kernel
theorem ad_Md_offers_40 : decode prog_14_method_81_code 40 = .ok (.iload_n 3, 1) := by decide +kernel
theorem ad_Md_offers_41 : decode prog_14_method_81_code 41 = .ok (.imul, 1) := by decide +kernel
theorem ad_Md_offers_42 : decode prog_14_method_81_code 42 = .ok (.iadd, 1) := by decide +kernel
theorem ad_Md_offers_43 : decode prog_14_method_81_code 43 = .ok (.iaload, 1) := by decide +kernel
theorem ad_Md_offers_44 : decode prog_14_method_81_code 44 = .ok (.istore 4, 2) := by decide +kernel
theorem ad_Md_offers_46 : decode prog_14_method_81_code 46 = .ok (.iload 4, 2) := by decide +kernel
theorem ad_Md_offers_48 : decode prog_14_method_81_code 48 = .ok (.iconst 1, 1) := by decide +kernel
theorem ad_Md_offers_49 : decode prog_14_method_81_code 49 = .ok (.if_icmp .ne 5, 3) := by decide +kernel
theorem ad_Md_offers_52 : decode prog_14_method_81_code 52 = .ok (.iconst 2, 1) := by decide +kernel
theorem ad_Md_offers_53 : decode prog_14_method_81_code 53 = .ok (.ireturn, 1) := by decide +kernel
theorem ad_Md_offers_54 : decode prog_14_method_81_code 54 = .ok (.iload 4, 2) := by decide +kernel
theorem ad_Md_offers_56 : decode prog_14_method_81_code 56 = .ok (.iconst 2, 1) := by decide +kernel
theorem ad_Md_offers_57 : decode prog_14_method_81_code 57 = .ok (.if_icmp .ne 5, 3) := by decide +kernel
theorem ad_Md_offers_60 : decode prog_14_method_81_code 60 = .ok (.iconst 1, 1) := by decide +kernel
theorem ad_Md_offers_61 : decode prog_14_method_81_code 61 = .ok (.ireturn, 1) := by decide +kernel
theorem ad_Md_offers_62 : decode prog_14_method_81_code 62 = .ok (.iload 4, 2) := by decide +kernel
theorem ad_Md_offers_64 : decode prog_14_method_81_code 64 = .ok (.iconst 3, 1) := by decide +kernel
theorem ad_Md_offers_65 : decode prog_14_method_81_code 65 = .ok (.if_icmp .ne 24, 3) := by decide +kernel
theorem ad_Md_offers_68 : decode prog_14_method_81_code 68 = .ok (.aload_n 0, 1) := by decide +kernel
theorem ad_Md_offers_69 : decode prog_14_method_81_code 69 = .ok (.iload_n 3, 1) := by decide +kernel
theorem ad_Md_offers_70 : decode prog_14_method_81_code 70 = .ok (.iload_n 1, 1) := by decide +kernel
theorem ad_Md_offers_71 : decode prog_14_method_81_code 71 = .ok (.iload_n 2, 1) := by decide +kernel
theorem ad_Md_offers_72 : decode prog_14_method_81_code 72 = .ok (.iconst 0, 1) := by decide +kernel
theorem ad_Md_offers_73 : decode prog_14_method_81_code 73 = .ok (.invokevirtual 359, 3) := by decide +kernel
theorem ad_Md_offers_76 : decode prog_14_method_81_code 76 = .ok (.ifCond .eq 13, 3) := by decide +kernel
theorem ad_Md_offers_79 : decode prog_14_method_81_code 79 = .ok (.aload_n 0, 1) := by decide +kernel
theorem ad_Md_offers_80 : decode prog_14_method_81_code 80 = .ok (.getfield 66, 3) := by decide +kernel
theorem ad_Md_offers_83 : decode prog_14_method_81_code 83 = .ok (.bipush 10, 2) := by decide +kernel
theorem ad_Md_offers_85 : decode prog_14_method_81_code 85 = .ok (.iload_n 2, 1) := by decide +kernel
theorem ad_Md_offers_86 : decode prog_14_method_81_code 86 = .ok (.imul, 1) := by decide +kernel
theorem ad_Md_offers_87 : decode prog_14_method_81_code 87 = .ok (.iaload, 1) := by decide +kernel
theorem ad_Md_offers_88 : decode prog_14_method_81_code 88 = .ok (.ireturn, 1) := by decide +kernel
theorem ad_Md_offers_89 : decode prog_14_method_81_code 89 = .ok (.iload 4, 2) := by decide +kernel
theorem ad_Md_offers_91 : decode prog_14_method_81_code 91 = .ok (.iconst 4, 1) := by decide +kernel
theorem ad_Md_offers_92 : decode prog_14_method_81_code 92 = .ok (.if_icmp .eq 6, 3) := by decide +kernel
theorem ad_Md_offers_95 : decode prog_14_method_81_code 95 = .ok (.goto 74, 3) := by decide +kernel
theorem ad_Md_offers_98 : decode prog_14_method_81_code 98 = .ok (.iload_n 3, 1) := by decide +kernel
theorem ad_Md_offers_99 : decode prog_14_method_81_code 99 = .ok (.iconst 1, 1) := by decide +kernel
theorem ad_Md_offers_100 : decode prog_14_method_81_code 100 = .ok (.iadd, 1) := by decide +kernel
theorem ad_Md_offers_101 : decode prog_14_method_81_code 101 = .ok (.istore 5, 2) := by decide +kernel
theorem ad_Md_offers_103 : decode prog_14_method_81_code 103 = .ok (.iload 5, 2) := by decide +kernel
theorem ad_Md_offers_105 : decode prog_14_method_81_code 105 = .ok (.aload_n 0, 1) := by decide +kernel
theorem ad_Md_offers_106 : decode prog_14_method_81_code 106 = .ok (.invokevirtual 201, 3) := by decide +kernel
theorem ad_Md_offers_109 : decode prog_14_method_81_code 109 = .ok (.if_icmp .ge 50, 3) := by decide +kernel
theorem ad_Md_offers_112 : decode prog_14_method_81_code 112 = .ok (.aload_n 0, 1) := by decide +kernel
theorem ad_Md_offers_113 : decode prog_14_method_81_code 113 = .ok (.getfield 369, 3) := by decide +kernel
theorem ad_Md_offers_116 : decode prog_14_method_81_code 116 = .ok (.iconst (-1), 1) := by decide +kernel
theorem ad_Md_offers_117 : decode prog_14_method_81_code 117 = .ok (.if_icmp .ne 42, 3) := by decide +kernel
theorem ad_Md_offers_120 : decode prog_14_method_81_code 120 = .ok (.aload_n 0, 1) := by decide +kernel
theorem ad_Md_offers_121 : decode prog_14_method_81_code 121 = .ok (.iload 5, 2) := by decide +kernel
theorem ad_Md_offers_123 : decode prog_14_method_81_code 123 = .ok (.iload_n 1, 1) := by decide +kernel
theorem ad_Md_offers_124 : decode prog_14_method_81_code 124 = .ok (.invokevirtual 372, 3) := by decide +kernel
theorem ad_Md_offers_127 : decode prog_14_method_81_code 127 = .ok (.ifCond .eq 26, 3) := by decide +kernel
theorem ad_Md_offers_130 : decode prog_14_method_81_code 130 = .ok (.aload_n 0, 1) := by decide +kernel
theorem ad_Md_offers_131 : decode prog_14_method_81_code 131 = .ok (.getfield 13, 3) := by decide +kernel
theorem ad_Md_offers_134 : decode prog_14_method_81_code 134 = .ok (.sipush 325, 3) := by decide +kernel
theorem ad_Md_offers_137 : decode prog_14_method_81_code 137 = .ok (.iconst 2, 1) := by decide +kernel
theorem ad_Md_offers_138 : decode prog_14_method_81_code 138 = .ok (.iload 5, 2) := by decide +kernel
theorem ad_Md_offers_140 : decode prog_14_method_81_code 140 = .ok (.imul, 1) := by decide +kernel
theorem ad_Md_offers_141 : decode prog_14_method_81_code 141 = .ok (.iadd, 1) := by decide +kernel
theorem ad_Md_offers_142 : decode prog_14_method_81_code 142 = .ok (.iaload, 1) := by decide +kernel
theorem ad_Md_offers_143 : decode prog_14_method_81_code 143 = .ok (.iconst 4, 1) := by decide +kernel
theorem ad_Md_offers_144 : decode prog_14_method_81_code 144 = .ok (.if_icmp .ne 9, 3) := by decide +kernel
theorem ad_Md_offers_147 : decode prog_14_method_81_code 147 = .ok (.aload_n 0, 1) := by decide +kernel
theorem ad_Md_offers_148 : decode prog_14_method_81_code 148 = .ok (.iload 5, 2) := by decide +kernel
theorem ad_Md_offers_150 : decode prog_14_method_81_code 150 = .ok (.putfield 369, 3) := by decide +kernel
theorem ad_Md_offers_153 : decode prog_14_method_81_code 153 = .ok (.iinc 5 1, 3) := by decide +kernel
theorem ad_Md_offers_156 : decode prog_14_method_81_code 156 = .ok (.goto (-53), 3) := by decide +kernel
theorem ad_Md_offers_159 : decode prog_14_method_81_code 159 = .ok (.aload_n 0, 1) := by decide +kernel
theorem ad_Md_offers_160 : decode prog_14_method_81_code 160 = .ok (.getfield 369, 3) := by decide +kernel
theorem ad_Md_offers_163 : decode prog_14_method_81_code 163 = .ok (.iconst (-1), 1) := by decide +kernel
theorem ad_Md_offers_164 : decode prog_14_method_81_code 164 = .ok (.if_icmp .eq 5, 3) := by decide +kernel
theorem ad_Md_offers_167 : decode prog_14_method_81_code 167 = .ok (.iconst 1, 1) := by decide +kernel
theorem ad_Md_offers_168 : decode prog_14_method_81_code 168 = .ok (.ireturn, 1) := by decide +kernel
theorem ad_Md_offers_169 : decode prog_14_method_81_code 169 = .ok (.iinc 3 1, 3) := by decide +kernel
theorem ad_Md_offers_172 : decode prog_14_method_81_code 172 = .ok (.goto (-165), 3) := by decide +kernel
theorem ad_Md_offers_175 : decode prog_14_method_81_code 175 = .ok (.iconst 0, 1) := by decide +kernel
theorem ad_Md_offers_176 : decode prog_14_method_81_code 176 = .ok (.ireturn, 1) := by decide +kernel
theorem ad_Md_thanks_0 : decode prog_14_method_82_code 0 = .ok (.aload_n 0, 1) := by decide +kernel
theorem ad_Md_thanks_1 : decode prog_14_method_82_code 1 = .ok (.iload_n 1, 1) := by decide +kernel
theorem ad_Md_thanks_2 : decode prog_14_method_82_code 2 = .ok (.invokevirtual 346, 3) := by decide +kernel
theorem ad_Md_thanks_5 : decode prog_14_method_82_code 5 = .ok (.istore 4, 2) := by decide +kernel
theorem ad_Md_thanks_7 : decode prog_14_method_82_code 7 = .ok (.aload_n 0, 1) := by decide +kernel
theorem ad_Md_thanks_8 : decode prog_14_method_82_code 8 = .ok (.iload_n 1, 1) := by decide +kernel
theorem ad_Md_thanks_9 : decode prog_14_method_82_code 9 = .ok (.invokevirtual 341, 3) := by decide +kernel
theorem ad_Md_thanks_12 : decode prog_14_method_82_code 12 = .ok (.istore 5, 2) := by decide +kernel
theorem ad_Md_thanks_14 : decode prog_14_method_82_code 14 = .ok (.aload_n 0, 1) := by decide +kernel
theorem ad_Md_thanks_15 : decode prog_14_method_82_code 15 = .ok (.getfield 13, 3) := by decide +kernel
theorem ad_Md_thanks_18 : decode prog_14_method_82_code 18 = .ok (.sipush 325, 3) := by decide +kernel
theorem ad_Md_thanks_21 : decode prog_14_method_82_code 21 = .ok (.iconst 2, 1) := by decide +kernel
theorem ad_Md_thanks_22 : decode prog_14_method_82_code 22 = .ok (.iload 4, 2) := by decide +kernel
theorem ad_Md_thanks_24 : decode prog_14_method_82_code 24 = .ok (.imul, 1) := by decide +kernel
theorem ad_Md_thanks_25 : decode prog_14_method_82_code 25 = .ok (.iadd, 1) := by decide +kernel
theorem ad_Md_thanks_26 : decode prog_14_method_82_code 26 = .ok (.iconst 1, 1) := by decide +kernel
theorem ad_Md_thanks_27 : decode prog_14_method_82_code 27 = .ok (.iadd, 1) := by decide +kernel
theorem ad_Md_thanks_28 : decode prog_14_method_82_code 28 = .ok (.iaload, 1) := by decide +kernel
theorem ad_Md_thanks_29 : decode prog_14_method_82_code 29 = .ok (.istore 6, 2) := by decide +kernel
theorem ad_Md_thanks_31 : decode prog_14_method_82_code 31 = .ok (.iload 6, 2) := by decide +kernel
theorem ad_Md_thanks_33 : decode prog_14_method_82_code 33 = .ok (.ifCond .eq 23, 3) := by decide +kernel
theorem ad_Md_thanks_36 : decode prog_14_method_82_code 36 = .ok (.iload 6, 2) := by decide +kernel
theorem ad_Md_thanks_38 : decode prog_14_method_82_code 38 = .ok (.iconst 2, 1) := by decide +kernel
theorem ad_Md_thanks_39 : decode prog_14_method_82_code 39 = .ok (.if_icmp .ne 18, 3) := by decide +kernel
theorem ad_Md_thanks_42 : decode prog_14_method_82_code 42 = .ok (.aload_n 0, 1) := by decide +kernel
theorem ad_Md_thanks_43 : decode prog_14_method_82_code 43 = .ok (.aload_n 0, 1) := by decide +kernel
theorem ad_Md_thanks_44 : decode prog_14_method_82_code 44 = .ok (.getfield 375, 3) := by decide +kernel
theorem ad_Md_thanks_47 : decode prog_14_method_82_code 47 = .ok (.iload_n 1, 1) := by decide +kernel
theorem ad_Md_thanks_48 : decode prog_14_method_82_code 48 = .ok (.iload_n 2, 1) := by decide +kernel
theorem ad_Md_thanks_49 : decode prog_14_method_82_code 49 = .ok (.iconst 1, 1) := by decide +kernel
theorem ad_Md_thanks_50 : decode prog_14_method_82_code 50 = .ok (.invokevirtual 359, 3) := by decide +kernel
theorem ad_Md_thanks_53 : decode prog_14_method_82_code 53 = .ok (.ifCond .eq 4, 3) := by decide +kernel
theorem ad_Md_thanks_56 : decode prog_14_method_82_code 56 = .ok (.return_, 1) := by decide +kernel
theorem ad_Md_thanks_57 : decode prog_14_method_82_code 57 = .ok (.aload_n 0, 1) := by decide +kernel
theorem ad_Md_thanks_58 : decode prog_14_method_82_code 58 = .ok (.getfield 375, 3) := by decide +kernel
theorem ad_Md_thanks_61 : decode prog_14_method_82_code 61 = .ok (.istore 7, 2) := by decide +kernel
theorem ad_Md_thanks_63 : decode prog_14_method_82_code 63 = .ok (.aload_n 0, 1) := by decide +kernel
theorem ad_Md_thanks_64 : decode prog_14_method_82_code 64 = .ok (.invokevirtual 201, 3) := by decide +kernel
theorem ad_Md_thanks_67 : decode prog_14_method_82_code 67 = .ok (.iconst 1, 1) := by decide +kernel
theorem ad_Md_thanks_68 : decode prog_14_method_82_code 68 = .ok (.isub, 1) := by decide +kernel
theorem ad_Md_thanks_69 : decode prog_14_method_82_code 69 = .ok (.istore 8, 2) := by decide +kernel
theorem ad_Md_thanks_71 : decode prog_14_method_82_code 71 = .ok (.iload 8, 2) := by decide +kernel
theorem ad_Md_thanks_73 : decode prog_14_method_82_code 73 = .ok (.ifCond .lt 38, 3) := by decide +kernel
theorem ad_Md_thanks_76 : decode prog_14_method_82_code 76 = .ok (.iload 6, 2) := by decide +kernel
theorem ad_Md_thanks_78 : decode prog_14_method_82_code 78 = .ok (.iconst 3, 1) := by decide +kernel
theorem ad_Md_thanks_79 : decode prog_14_method_82_code 79 = .ok (.if_icmp .ne 32, 3) := by decide +kernel
theorem ad_Md_thanks_82 : decode prog_14_method_82_code 82 = .ok (.iload 8, 2) := by decide +kernel
theorem ad_Md_thanks_84 : decode prog_14_method_82_code 84 = .ok (.aload_n 0, 1) := by decide +kernel
theorem ad_Md_thanks_85 : decode prog_14_method_82_code 85 = .ok (.getfield 375, 3) := by decide +kernel
theorem ad_Md_thanks_88 : decode prog_14_method_82_code 88 = .ok (.if_icmp .eq 17, 3) := by decide +kernel
theorem ad_Md_thanks_91 : decode prog_14_method_82_code 91 = .ok (.aload_n 0, 1) := by decide +kernel
theorem ad_Md_thanks_92 : decode prog_14_method_82_code 92 = .ok (.iload 8, 2) := by decide +kernel
theorem ad_Md_thanks_94 : decode prog_14_method_82_code 94 = .ok (.iload_n 1, 1) := by decide +kernel
theorem ad_Md_thanks_95 : decode prog_14_method_82_code 95 = .ok (.invokevirtual 372, 3) := by decide +kernel
theorem ad_Md_thanks_98 : decode prog_14_method_82_code 98 = .ok (.ifCond .eq 7, 3) := by decide +kernel
theorem ad_Md_thanks_101 : decode prog_14_method_82_code 101 = .ok (.iload 8, 2) := by decide +kernel
theorem ad_Md_thanks_103 : decode prog_14_method_82_code 103 = .ok (.istore 7, 2) := by decide +kernel
theorem ad_Md_thanks_105 : decode prog_14_method_82_code 105 = .ok (.iinc 8 (-1), 3) := by decide +kernel
theorem ad_Md_thanks_108 : decode prog_14_method_82_code 108 = .ok (.goto (-37), 3) := by decide +kernel
theorem ad_Md_thanks_111 : decode prog_14_method_82_code 111 = .ok (.aload_n 0, 1) := by decide +kernel
theorem ad_Md_thanks_112 : decode prog_14_method_82_code 112 = .ok (.getfield 69, 3) := by decide +kernel
theorem ad_Md_thanks_115 : decode prog_14_method_82_code 115 = .ok (.iconst 3, 1) := by decide +kernel
theorem ad_Md_thanks_116 : decode prog_14_method_82_code 116 = .ok (.dup2, 1) := by decide +kernel
theorem ad_Md_thanks_117 : decode prog_14_method_82_code 117 = .ok (.iaload, 1) := by decide +kernel
theorem ad_Md_thanks_118 : decode prog_14_method_82_code 118 = .ok (.iconst 1, 1) := by decide +kernel
theorem ad_Md_thanks_119 : decode prog_14_method_82_code 119 = .ok (.iadd, 1) := by decide +kernel
theorem ad_Md_thanks_120 : decode prog_14_method_82_code 120 = .ok (.iastore, 1) := by decide +kernel
theorem ad_Md_thanks_121 : decode prog_14_method_82_code 121 = .ok (.iload 7, 2) := by decide +kernel
theorem ad_Md_thanks_123 : decode prog_14_method_82_code 123 = .ok (.aload_n 0, 1) := by decide +kernel
theorem ad_Md_thanks_124 : decode prog_14_method_82_code 124 = .ok (.getfield 375, 3) := by decide +kernel
theorem ad_Md_thanks_127 : decode prog_14_method_82_code 127 = .ok (.if_icmp .eq 22, 3) := by decide +kernel
theorem ad_Md_thanks_130 : decode prog_14_method_82_code 130 = .ok (.iload 7, 2) := by decide +kernel
theorem ad_Md_thanks_132 : decode prog_14_method_82_code 132 = .ok (.aload_n 0, 1) := by decide +kernel
theorem ad_Md_thanks_133 : decode prog_14_method_82_code 133 = .ok (.getfield 369, 3) := by decide +kernel
theorem ad_Md_thanks_136 : decode prog_14_method_82_code 136 = .ok (.if_icmp .eq 13, 3) := by decide +kernel
theorem ad_Md_thanks_139 : decode prog_14_method_82_code 139 = .ok (.aload_n 0, 1) := by decide +kernel
theorem ad_Md_thanks_140 : decode prog_14_method_82_code 140 = .ok (.getfield 69, 3) := by decide +kernel
theorem ad_Md_thanks_143 : decode prog_14_method_82_code 143 = .ok (.iconst 4, 1) := by decide +kernel
theorem ad_Md_thanks_144 : decode prog_14_method_82_code 144 = .ok (.dup2, 1) := by decide +kernel
theorem ad_Md_thanks_145 : decode prog_14_method_82_code 145 = .ok (.iaload, 1) := by decide +kernel
theorem ad_Md_thanks_146 : decode prog_14_method_82_code 146 = .ok (.iconst 1, 1) := by decide +kernel
theorem ad_Md_thanks_147 : decode prog_14_method_82_code 147 = .ok (.iadd, 1) := by decide +kernel
theorem ad_Md_thanks_148 : decode prog_14_method_82_code 148 = .ok (.iastore, 1) := by decide +kernel
theorem ad_Md_thanks_149 : decode prog_14_method_82_code 149 = .ok (.iload 7, 2) := by decide +kernel
theorem ad_Md_thanks_151 : decode prog_14_method_82_code 151 = .ok (.iload 4, 2) := by decide +kernel
theorem ad_Md_thanks_153 : decode prog_14_method_82_code 153 = .ok (.iload 5, 2) := by decide +kernel
theorem ad_Md_thanks_155 : decode prog_14_method_82_code 155 = .ok (.invokestatic 288, 3) := by decide +kernel
theorem ad_Md_thanks_158 : decode prog_14_method_82_code 158 = .ok (.istore 8, 2) := by decide +kernel
theorem ad_Md_thanks_160 : decode prog_14_method_82_code 160 = .ok (.aload_n 0, 1) := by decide +kernel
theorem ad_Md_thanks_161 : decode prog_14_method_82_code 161 = .ok (.getfield 42, 3) := by decide +kernel
theorem ad_Md_thanks_164 : decode prog_14_method_82_code 164 = .ok (.iload 8, 2) := by decide +kernel
theorem ad_Md_thanks_166 : decode prog_14_method_82_code 166 = .ok (.iaload, 1) := by decide +kernel
theorem ad_Md_thanks_167 : decode prog_14_method_82_code 167 = .ok (.iload_n 3, 1) := by decide +kernel
theorem ad_Md_thanks_168 : decode prog_14_method_82_code 168 = .ok (.if_icmp .ge 41, 3) := by decide +kernel
theorem ad_Md_thanks_171 : decode prog_14_method_82_code 171 = .ok (.aload_n 0, 1) := by decide +kernel
theorem ad_Md_thanks_172 : decode prog_14_method_82_code 172 = .ok (.iload 7, 2) := by decide +kernel
theorem ad_Md_thanks_174 : decode prog_14_method_82_code 174 = .ok (.iload_n 3, 1) := by decide +kernel
theorem ad_Md_thanks_175 : decode prog_14_method_82_code 175 = .ok (.invokevirtual 304, 3) := by decide +kernel
theorem ad_Md_thanks_178 : decode prog_14_method_82_code 178 = .ok (.aload_n 0, 1) := by decide +kernel
theorem ad_Md_thanks_179 : decode prog_14_method_82_code 179 = .ok (.getfield 13, 3) := by decide +kernel
theorem ad_Md_thanks_182 : decode prog_14_method_82_code 182 = .ok (.bipush 25, 2) := by decide +kernel
theorem ad_Md_thanks_184 : decode prog_14_method_82_code 184 = .ok (.iload 7, 2) := by decide +kernel
theorem ad_Md_thanks_186 : decode prog_14_method_82_code 186 = .ok (.iadd, 1) := by decide +kernel
theorem ad_Md_thanks_187 : decode prog_14_method_82_code 187 = .ok (.iaload, 1) := by decide +kernel
theorem ad_Md_thanks_188 : decode prog_14_method_82_code 188 = .ok (.if_icmp .lt 21, 3) := by decide +kernel
theorem ad_Md_thanks_191 : decode prog_14_method_82_code 191 = .ok (.aload_n 0, 1) := by decide +kernel
theorem ad_Md_thanks_192 : decode prog_14_method_82_code 192 = .ok (.getfield 69, 3) := by decide +kernel
theorem ad_Md_thanks_195 : decode prog_14_method_82_code 195 = .ok (.iconst 5, 1) := by decide +kernel
theorem ad_Md_thanks_196 : decode prog_14_method_82_code 196 = .ok (.iaload, 1) := by decide +kernel
theorem ad_Md_thanks_197 : decode prog_14_method_82_code 197 = .ok (.iconst (-1), 1) := by decide +kernel
theorem ad_Md_thanks_198 : decode prog_14_method_82_code 198 = .ok (.if_icmp .ne 10, 3) := by decide +kernel
theorem ad_Md_thanks_201 : decode prog_14_method_82_code 201 = .ok (.aload_n 0, 1) := by decide +kernel
theorem ad_Md_thanks_202 : decode prog_14_method_82_code 202 = .ok (.getfield 69, 3) := by decide +kernel
theorem ad_Md_thanks_205 : decode prog_14_method_82_code 205 = .ok (.iconst 5, 1) := by decide +kernel
theorem ad_Md_thanks_206 : decode prog_14_method_82_code 206 = .ok (.iload_n 3, 1) := by decide +kernel
theorem ad_Md_thanks_207 : decode prog_14_method_82_code 207 = .ok (.iastore, 1) := by decide +kernel
theorem ad_Md_thanks_208 : decode prog_14_method_82_code 208 = .ok (.return_, 1) := by decide +kernel
theorem ad_Md_thanks_209 : decode prog_14_method_82_code 209 = .ok (.aload_n 0, 1) := by decide +kernel
theorem ad_Md_thanks_210 : decode prog_14_method_82_code 210 = .ok (.getfield 39, 3) := by decide +kernel
theorem ad_Md_thanks_213 : decode prog_14_method_82_code 213 = .ok (.iload 8, 2) := by decide +kernel
theorem ad_Md_thanks_215 : decode prog_14_method_82_code 215 = .ok (.iload_n 3, 1) := by decide +kernel
theorem ad_Md_thanks_216 : decode prog_14_method_82_code 216 = .ok (.iconst 1, 1) := by decide +kernel
theorem ad_Md_thanks_217 : decode prog_14_method_82_code 217 = .ok (.iadd, 1) := by decide +kernel
theorem ad_Md_thanks_218 : decode prog_14_method_82_code 218 = .ok (.iastore, 1) := by decide +kernel
theorem ad_Md_thanks_219 : decode prog_14_method_82_code 219 = .ok (.aload_n 0, 1) := by decide +kernel
theorem ad_Md_thanks_220 : decode prog_14_method_82_code 220 = .ok (.getfield 42, 3) := by decide +kernel
theorem ad_Md_thanks_223 : decode prog_14_method_82_code 223 = .ok (.iload 8, 2) := by decide +kernel
theorem ad_Md_thanks_225 : decode prog_14_method_82_code 225 = .ok (.iload_n 3, 1) := by decide +kernel
theorem ad_Md_thanks_226 : decode prog_14_method_82_code 226 = .ok (.aload_n 0, 1) := by decide +kernel
theorem ad_Md_thanks_227 : decode prog_14_method_82_code 227 = .ok (.getfield 13, 3) := by decide +kernel
theorem ad_Md_thanks_230 : decode prog_14_method_82_code 230 = .ok (.iconst 3, 1) := by decide +kernel
theorem ad_Md_thanks_231 : decode prog_14_method_82_code 231 = .ok (.iaload, 1) := by decide +kernel
theorem ad_Md_thanks_232 : decode prog_14_method_82_code 232 = .ok (.iadd, 1) := by decide +kernel
theorem ad_Md_thanks_233 : decode prog_14_method_82_code 233 = .ok (.iastore, 1) := by decide +kernel
theorem ad_Md_thanks_234 : decode prog_14_method_82_code 234 = .ok (.return_, 1) := by decide +kernel
theorem ad_Md_meet_0 : decode prog_14_method_83_code 0 = .ok (.aload_n 0, 1) := by decide +kernel
theorem ad_Md_meet_1 : decode prog_14_method_83_code 1 = .ok (.iload_n 1, 1) := by decide +kernel
theorem ad_Md_meet_2 : decode prog_14_method_83_code 2 = .ok (.invokevirtual 346, 3) := by decide +kernel
theorem ad_Md_meet_5 : decode prog_14_method_83_code 5 = .ok (.istore 4, 2) := by decide +kernel
theorem ad_Md_meet_7 : decode prog_14_method_83_code 7 = .ok (.aload_n 0, 1) := by decide +kernel
theorem ad_Md_meet_8 : decode prog_14_method_83_code 8 = .ok (.iload_n 1, 1) := by decide +kernel
theorem ad_Md_meet_9 : decode prog_14_method_83_code 9 = .ok (.invokevirtual 341, 3) := by decide +kernel
theorem ad_Md_meet_12 : decode prog_14_method_83_code 12 = .ok (.istore 5, 2) := by decide +kernel
theorem ad_Md_meet_14 : decode prog_14_method_83_code 14 = .ok (.iconst (-1), 1) := by decide +kernel
theorem ad_Md_meet_15 : decode prog_14_method_83_code 15 = .ok (.istore 6, 2) := by decide +kernel
theorem ad_Md_meet_17 : decode prog_14_method_83_code 17 = .ok (.aload_n 0, 1) := by decide +kernel
theorem ad_Md_meet_18 : decode prog_14_method_83_code 18 = .ok (.invokevirtual 201, 3) := by decide +kernel
theorem ad_Md_meet_21 : decode prog_14_method_83_code 21 = .ok (.iconst 1, 1) := by decide +kernel
theorem ad_Md_meet_22 : decode prog_14_method_83_code 22 = .ok (.isub, 1) := by decide +kernel
theorem ad_Md_meet_23 : decode prog_14_method_83_code 23 = .ok (.istore 7, 2) := by decide +kernel
theorem ad_Md_meet_25 : decode prog_14_method_83_code 25 = .ok (.iload 7, 2) := by decide +kernel
theorem ad_Md_meet_27 : decode prog_14_method_83_code 27 = .ok (.ifCond .lt 49, 3) := by decide +kernel
theorem ad_Md_meet_30 : decode prog_14_method_83_code 30 = .ok (.aload_n 0, 1) := by decide +kernel
theorem ad_Md_meet_31 : decode prog_14_method_83_code 31 = .ok (.getfield 42, 3) := by decide +kernel
theorem ad_Md_meet_34 : decode prog_14_method_83_code 34 = .ok (.iload 7, 2) := by decide +kernel
theorem ad_Md_meet_36 : decode prog_14_method_83_code 36 = .ok (.iload 4, 2) := by decide +kernel
theorem ad_Md_meet_38 : decode prog_14_method_83_code 38 = .ok (.iload 5, 2) := by decide +kernel
theorem ad_Md_meet_40 : decode prog_14_method_83_code 40 = .ok (.invokestatic 288, 3) := by decide +kernel
theorem ad_Md_meet_43 : decode prog_14_method_83_code 43 = .ok (.iaload, 1) := by decide +kernel
theorem ad_Md_meet_44 : decode prog_14_method_83_code 44 = .ok (.iload_n 2, 1) := by decide +kernel
theorem ad_Md_meet_45 : decode prog_14_method_83_code 45 = .ok (.if_icmp .lt 25, 3) := by decide +kernel
theorem ad_Md_meet_48 : decode prog_14_method_83_code 48 = .ok (.aload_n 0, 1) := by decide +kernel
theorem ad_Md_meet_49 : decode prog_14_method_83_code 49 = .ok (.getfield 39, 3) := by decide +kernel
theorem ad_Md_meet_52 : decode prog_14_method_83_code 52 = .ok (.iload 7, 2) := by decide +kernel
theorem ad_Md_meet_54 : decode prog_14_method_83_code 54 = .ok (.iload 4, 2) := by decide +kernel
theorem ad_Md_meet_56 : decode prog_14_method_83_code 56 = .ok (.iload 5, 2) := by decide +kernel
theorem ad_Md_meet_58 : decode prog_14_method_83_code 58 = .ok (.invokestatic 288, 3) := by decide +kernel
theorem ad_Md_meet_61 : decode prog_14_method_83_code 61 = .ok (.iaload, 1) := by decide +kernel
theorem ad_Md_meet_62 : decode prog_14_method_83_code 62 = .ok (.iload_n 2, 1) := by decide +kernel
theorem ad_Md_meet_63 : decode prog_14_method_83_code 63 = .ok (.if_icmp .gt 7, 3) := by decide +kernel
theorem ad_Md_meet_66 : decode prog_14_method_83_code 66 = .ok (.iload 7, 2) := by decide +kernel
theorem ad_Md_meet_68 : decode prog_14_method_83_code 68 = .ok (.istore 6, 2) := by decide +kernel
theorem ad_Md_meet_70 : decode prog_14_method_83_code 70 = .ok (.iinc 7 (-1), 3) := by decide +kernel
theorem ad_Md_meet_73 : decode prog_14_method_83_code 73 = .ok (.goto (-48), 3) := by decide +kernel
theorem ad_Md_meet_76 : decode prog_14_method_83_code 76 = .ok (.iload 6, 2) := by decide +kernel
theorem ad_Md_meet_78 : decode prog_14_method_83_code 78 = .ok (.iconst (-1), 1) := by decide +kernel
theorem ad_Md_meet_79 : decode prog_14_method_83_code 79 = .ok (.if_icmp .eq 50, 3) := by decide +kernel
theorem ad_Md_meet_82 : decode prog_14_method_83_code 82 = .ok (.aload_n 0, 1) := by decide +kernel
theorem ad_Md_meet_83 : decode prog_14_method_83_code 83 = .ok (.getfield 72, 3) := by decide +kernel
theorem ad_Md_meet_86 : decode prog_14_method_83_code 86 = .ok (.iload 6, 2) := by decide +kernel
theorem ad_Md_meet_88 : decode prog_14_method_83_code 88 = .ok (.dup2, 1) := by decide +kernel
theorem ad_Md_meet_89 : decode prog_14_method_83_code 89 = .ok (.iaload, 1) := by decide +kernel
theorem ad_Md_meet_90 : decode prog_14_method_83_code 90 = .ok (.iconst 1, 1) := by decide +kernel
theorem ad_Md_meet_91 : decode prog_14_method_83_code 91 = .ok (.iadd, 1) := by decide +kernel
theorem ad_Md_meet_92 : decode prog_14_method_83_code 92 = .ok (.iastore, 1) := by decide +kernel
theorem ad_Md_meet_93 : decode prog_14_method_83_code 93 = .ok (.aload_n 0, 1) := by decide +kernel
theorem ad_Md_meet_94 : decode prog_14_method_83_code 94 = .ok (.getfield 69, 3) := by decide +kernel
theorem ad_Md_meet_97 : decode prog_14_method_83_code 97 = .ok (.iconst 0, 1) := by decide +kernel
theorem ad_Md_meet_98 : decode prog_14_method_83_code 98 = .ok (.dup2, 1) := by decide +kernel
theorem ad_Md_meet_99 : decode prog_14_method_83_code 99 = .ok (.iaload, 1) := by decide +kernel
theorem ad_Md_meet_100 : decode prog_14_method_83_code 100 = .ok (.iconst 1, 1) := by decide +kernel
theorem ad_Md_meet_101 : decode prog_14_method_83_code 101 = .ok (.iadd, 1) := by decide +kernel
theorem ad_Md_meet_102 : decode prog_14_method_83_code 102 = .ok (.iastore, 1) := by decide +kernel
theorem ad_Md_meet_103 : decode prog_14_method_83_code 103 = .ok (.aload_n 0, 1) := by decide +kernel
theorem ad_Md_meet_104 : decode prog_14_method_83_code 104 = .ok (.getfield 69, 3) := by decide +kernel
theorem ad_Md_meet_107 : decode prog_14_method_83_code 107 = .ok (.bipush 7, 2) := by decide +kernel
theorem ad_Md_meet_109 : decode prog_14_method_83_code 109 = .ok (.dup2, 1) := by decide +kernel
theorem ad_Md_meet_110 : decode prog_14_method_83_code 110 = .ok (.iaload, 1) := by decide +kernel
theorem ad_Md_meet_111 : decode prog_14_method_83_code 111 = .ok (.aload_n 0, 1) := by decide +kernel
theorem ad_Md_meet_112 : decode prog_14_method_83_code 112 = .ok (.iload 5, 2) := by decide +kernel
theorem ad_Md_meet_114 : decode prog_14_method_83_code 114 = .ok (.invokevirtual 301, 3) := by decide +kernel
theorem ad_Md_meet_117 : decode prog_14_method_83_code 117 = .ok (.aload_n 0, 1) := by decide +kernel
theorem ad_Md_meet_118 : decode prog_14_method_83_code 118 = .ok (.iload 6, 2) := by decide +kernel
theorem ad_Md_meet_120 : decode prog_14_method_83_code 120 = .ok (.iload 5, 2) := by decide +kernel
theorem ad_Md_meet_122 : decode prog_14_method_83_code 122 = .ok (.invokevirtual 257, 3) := by decide +kernel
theorem ad_Md_meet_125 : decode prog_14_method_83_code 125 = .ok (.isub, 1) := by decide +kernel
theorem ad_Md_meet_126 : decode prog_14_method_83_code 126 = .ok (.iadd, 1) := by decide +kernel
theorem ad_Md_meet_127 : decode prog_14_method_83_code 127 = .ok (.iastore, 1) := by decide +kernel
theorem ad_Md_meet_128 : decode prog_14_method_83_code 128 = .ok (.return_, 1) := by decide +kernel
theorem ad_Md_meet_129 : decode prog_14_method_83_code 129 = .ok (.aload_n 0, 1) := by decide +kernel
theorem ad_Md_meet_130 : decode prog_14_method_83_code 130 = .ok (.iload_n 1, 1) := by decide +kernel
theorem ad_Md_meet_131 : decode prog_14_method_83_code 131 = .ok (.iload_n 3, 1) := by decide +kernel
theorem ad_Md_meet_132 : decode prog_14_method_83_code 132 = .ok (.invokevirtual 378, 3) := by decide +kernel
theorem ad_Md_meet_135 : decode prog_14_method_83_code 135 = .ok (.istore 7, 2) := by decide +kernel
theorem ad_Md_meet_137 : decode prog_14_method_83_code 137 = .ok (.iload 7, 2) := by decide +kernel
theorem ad_Md_meet_139 : decode prog_14_method_83_code 139 = .ok (.ifCond .ne 15, 3) := by decide +kernel
theorem ad_Md_meet_142 : decode prog_14_method_83_code 142 = .ok (.aload_n 0, 1) := by decide +kernel
theorem ad_Md_meet_143 : decode prog_14_method_83_code 143 = .ok (.getfield 69, 3) := by decide +kernel
theorem ad_Md_meet_146 : decode prog_14_method_83_code 146 = .ok (.bipush 6, 2) := by decide +kernel
theorem ad_Md_meet_148 : decode prog_14_method_83_code 148 = .ok (.dup2, 1) := by decide +kernel
theorem ad_Md_meet_149 : decode prog_14_method_83_code 149 = .ok (.iaload, 1) := by decide +kernel
theorem ad_Md_meet_150 : decode prog_14_method_83_code 150 = .ok (.iconst 1, 1) := by decide +kernel
theorem ad_Md_meet_151 : decode prog_14_method_83_code 151 = .ok (.iadd, 1) := by decide +kernel
theorem ad_Md_meet_152 : decode prog_14_method_83_code 152 = .ok (.iastore, 1) := by decide +kernel
theorem ad_Md_meet_153 : decode prog_14_method_83_code 153 = .ok (.return_, 1) := by decide +kernel
theorem ad_Md_meet_154 : decode prog_14_method_83_code 154 = .ok (.aload_n 0, 1) := by decide +kernel
theorem ad_Md_meet_155 : decode prog_14_method_83_code 155 = .ok (.getfield 72, 3) := by decide +kernel
theorem ad_Md_meet_158 : decode prog_14_method_83_code 158 = .ok (.aload_n 0, 1) := by decide +kernel
theorem ad_Md_meet_159 : decode prog_14_method_83_code 159 = .ok (.getfield 375, 3) := by decide +kernel
theorem ad_Md_meet_162 : decode prog_14_method_83_code 162 = .ok (.dup2, 1) := by decide +kernel
theorem ad_Md_meet_163 : decode prog_14_method_83_code 163 = .ok (.iaload, 1) := by decide +kernel
theorem ad_Md_meet_164 : decode prog_14_method_83_code 164 = .ok (.iconst 1, 1) := by decide +kernel
theorem ad_Md_meet_165 : decode prog_14_method_83_code 165 = .ok (.iadd, 1) := by decide +kernel
theorem ad_Md_meet_166 : decode prog_14_method_83_code 166 = .ok (.iastore, 1) := by decide +kernel
theorem ad_Md_meet_167 : decode prog_14_method_83_code 167 = .ok (.aload_n 0, 1) := by decide +kernel
theorem ad_Md_meet_168 : decode prog_14_method_83_code 168 = .ok (.getfield 69, 3) := by decide +kernel
theorem ad_Md_meet_171 : decode prog_14_method_83_code 171 = .ok (.iload 7, 2) := by decide +kernel
theorem ad_Md_meet_173 : decode prog_14_method_83_code 173 = .ok (.iconst 2, 1) := by decide +kernel
theorem ad_Md_meet_174 : decode prog_14_method_83_code 174 = .ok (.if_icmp .ne 7, 3) := by decide +kernel
theorem ad_Md_meet_177 : decode prog_14_method_83_code 177 = .ok (.iconst 0, 1) := by decide +kernel
theorem ad_Md_meet_178 : decode prog_14_method_83_code 178 = .ok (.goto 4, 3) := by decide +kernel
theorem ad_Md_meet_181 : decode prog_14_method_83_code 181 = .ok (.iconst 1, 1) := by decide +kernel
theorem ad_Md_meet_182 : decode prog_14_method_83_code 182 = .ok (.dup2, 1) := by decide +kernel
theorem ad_Md_meet_183 : decode prog_14_method_83_code 183 = .ok (.iaload, 1) := by decide +kernel
theorem ad_Md_meet_184 : decode prog_14_method_83_code 184 = .ok (.iconst 1, 1) := by decide +kernel
theorem ad_Md_meet_185 : decode prog_14_method_83_code 185 = .ok (.iadd, 1) := by decide +kernel
theorem ad_Md_meet_186 : decode prog_14_method_83_code 186 = .ok (.iastore, 1) := by decide +kernel
theorem ad_Md_meet_187 : decode prog_14_method_83_code 187 = .ok (.aload_n 0, 1) := by decide +kernel
theorem ad_Md_meet_188 : decode prog_14_method_83_code 188 = .ok (.getfield 369, 3) := by decide +kernel
theorem ad_Md_meet_191 : decode prog_14_method_83_code 191 = .ok (.iconst (-1), 1) := by decide +kernel
theorem ad_Md_meet_192 : decode prog_14_method_83_code 192 = .ok (.if_icmp .ne 50, 3) := by decide +kernel
theorem ad_Md_meet_195 : decode prog_14_method_83_code 195 = .ok (.aload_n 0, 1) := by decide +kernel
theorem ad_Md_meet_196 : decode prog_14_method_83_code 196 = .ok (.getfield 69, 3) := by decide +kernel
theorem ad_Md_meet_199 : decode prog_14_method_83_code 199 = .ok (.bipush 7, 2) := by decide +kernel
theorem ad_Md_meet_201 : decode prog_14_method_83_code 201 = .ok (.dup2, 1) := by decide +kernel
theorem ad_Md_meet_202 : decode prog_14_method_83_code 202 = .ok (.iaload, 1) := by decide +kernel
theorem ad_Md_meet_203 : decode prog_14_method_83_code 203 = .ok (.aload_n 0, 1) := by decide +kernel
theorem ad_Md_meet_204 : decode prog_14_method_83_code 204 = .ok (.iload 5, 2) := by decide +kernel
theorem ad_Md_meet_206 : decode prog_14_method_83_code 206 = .ok (.invokevirtual 301, 3) := by decide +kernel
theorem ad_Md_meet_209 : decode prog_14_method_83_code 209 = .ok (.aload_n 0, 1) := by decide +kernel
theorem ad_Md_meet_210 : decode prog_14_method_83_code 210 = .ok (.aload_n 0, 1) := by decide +kernel
theorem ad_Md_meet_211 : decode prog_14_method_83_code 211 = .ok (.getfield 375, 3) := by decide +kernel
theorem ad_Md_meet_214 : decode prog_14_method_83_code 214 = .ok (.iload 5, 2) := by decide +kernel
theorem ad_Md_meet_216 : decode prog_14_method_83_code 216 = .ok (.invokevirtual 257, 3) := by decide +kernel
theorem ad_Md_meet_219 : decode prog_14_method_83_code 219 = .ok (.isub, 1) := by decide +kernel
theorem ad_Md_meet_220 : decode prog_14_method_83_code 220 = .ok (.iload 7, 2) := by decide +kernel
theorem ad_Md_meet_222 : decode prog_14_method_83_code 222 = .ok (.iconst 1, 1) := by decide +kernel
theorem ad_Md_meet_223 : decode prog_14_method_83_code 223 = .ok (.if_icmp .ne 12, 3) := by decide +kernel
theorem ad_Md_meet_226 : decode prog_14_method_83_code 226 = .ok (.aload_n 0, 1) := by decide +kernel
theorem ad_Md_meet_227 : decode prog_14_method_83_code 227 = .ok (.iload 5, 2) := by decide +kernel
theorem ad_Md_meet_229 : decode prog_14_method_83_code 229 = .ok (.invokevirtual 298, 3) := by decide +kernel
theorem ad_Md_meet_232 : decode prog_14_method_83_code 232 = .ok (.goto 4, 3) := by decide +kernel
theorem ad_Md_meet_235 : decode prog_14_method_83_code 235 = .ok (.iconst 0, 1) := by decide +kernel
theorem ad_Md_meet_236 : decode prog_14_method_83_code 236 = .ok (.isub, 1) := by decide +kernel
theorem ad_Md_meet_237 : decode prog_14_method_83_code 237 = .ok (.iadd, 1) := by decide +kernel
theorem ad_Md_meet_238 : decode prog_14_method_83_code 238 = .ok (.iastore, 1) := by decide +kernel
theorem ad_Md_meet_239 : decode prog_14_method_83_code 239 = .ok (.goto 75, 3) := by decide +kernel
theorem ad_Md_meet_242 : decode prog_14_method_83_code 242 = .ok (.aload_n 0, 1) := by decide +kernel
theorem ad_Md_meet_243 : decode prog_14_method_83_code 243 = .ok (.getfield 72, 3) := by decide +kernel
theorem ad_Md_meet_246 : decode prog_14_method_83_code 246 = .ok (.aload_n 0, 1) := by decide +kernel
theorem ad_Md_meet_247 : decode prog_14_method_83_code 247 = .ok (.getfield 369, 3) := by decide +kernel
theorem ad_Md_meet_250 : decode prog_14_method_83_code 250 = .ok (.dup2, 1) := by decide +kernel
theorem ad_Md_meet_251 : decode prog_14_method_83_code 251 = .ok (.iaload, 1) := by decide +kernel
theorem ad_Md_meet_252 : decode prog_14_method_83_code 252 = .ok (.iconst 1, 1) := by decide +kernel
theorem ad_Md_meet_253 : decode prog_14_method_83_code 253 = .ok (.iadd, 1) := by decide +kernel
theorem ad_Md_meet_254 : decode prog_14_method_83_code 254 = .ok (.iastore, 1) := by decide +kernel
theorem ad_Md_meet_255 : decode prog_14_method_83_code 255 = .ok (.aload_n 0, 1) := by decide +kernel
theorem ad_Md_meet_256 : decode prog_14_method_83_code 256 = .ok (.getfield 69, 3) := by decide +kernel
theorem ad_Md_meet_259 : decode prog_14_method_83_code 259 = .ok (.bipush 7, 2) := by decide +kernel
theorem ad_Md_meet_261 : decode prog_14_method_83_code 261 = .ok (.dup2, 1) := by decide +kernel
theorem ad_Md_meet_262 : decode prog_14_method_83_code 262 = .ok (.iaload, 1) := by decide +kernel
theorem ad_Md_meet_263 : decode prog_14_method_83_code 263 = .ok (.aload_n 0, 1) := by decide +kernel
theorem ad_Md_meet_264 : decode prog_14_method_83_code 264 = .ok (.iload 5, 2) := by decide +kernel
theorem ad_Md_meet_266 : decode prog_14_method_83_code 266 = .ok (.invokevirtual 301, 3) := by decide +kernel
theorem ad_Md_meet_269 : decode prog_14_method_83_code 269 = .ok (.aload_n 0, 1) := by decide +kernel
theorem ad_Md_meet_270 : decode prog_14_method_83_code 270 = .ok (.aload_n 0, 1) := by decide +kernel
theorem ad_Md_meet_271 : decode prog_14_method_83_code 271 = .ok (.getfield 375, 3) := by decide +kernel
theorem ad_Md_meet_274 : decode prog_14_method_83_code 274 = .ok (.iload 5, 2) := by decide +kernel
theorem ad_Md_meet_276 : decode prog_14_method_83_code 276 = .ok (.invokevirtual 257, 3) := by decide +kernel
theorem ad_Md_meet_279 : decode prog_14_method_83_code 279 = .ok (.iconst 1, 1) := by decide +kernel
theorem ad_Md_meet_280 : decode prog_14_method_83_code 280 = .ok (.iadd, 1) := by decide +kernel
theorem ad_Md_meet_281 : decode prog_14_method_83_code 281 = .ok (.iconst 2, 1) := by decide +kernel
theorem ad_Md_meet_282 : decode prog_14_method_83_code 282 = .ok (.idiv, 1) := by decide +kernel
theorem ad_Md_meet_283 : decode prog_14_method_83_code 283 = .ok (.isub, 1) := by decide +kernel
theorem ad_Md_meet_284 : decode prog_14_method_83_code 284 = .ok (.aload_n 0, 1) := by decide +kernel
theorem ad_Md_meet_285 : decode prog_14_method_83_code 285 = .ok (.aload_n 0, 1) := by decide +kernel
theorem ad_Md_meet_286 : decode prog_14_method_83_code 286 = .ok (.getfield 369, 3) := by decide +kernel
theorem ad_Md_meet_289 : decode prog_14_method_83_code 289 = .ok (.iload 5, 2) := by decide +kernel
theorem ad_Md_meet_291 : decode prog_14_method_83_code 291 = .ok (.invokevirtual 257, 3) := by decide +kernel
theorem ad_Md_meet_294 : decode prog_14_method_83_code 294 = .ok (.iconst 1, 1) := by decide +kernel
theorem ad_Md_meet_295 : decode prog_14_method_83_code 295 = .ok (.iadd, 1) := by decide +kernel
theorem ad_Md_meet_296 : decode prog_14_method_83_code 296 = .ok (.iconst 2, 1) := by decide +kernel
theorem ad_Md_meet_297 : decode prog_14_method_83_code 297 = .ok (.idiv, 1) := by decide +kernel
theorem ad_Md_meet_298 : decode prog_14_method_83_code 298 = .ok (.isub, 1) := by decide +kernel
theorem ad_Md_meet_299 : decode prog_14_method_83_code 299 = .ok (.iconst 2, 1) := by decide +kernel
theorem ad_Md_meet_300 : decode prog_14_method_83_code 300 = .ok (.aload_n 0, 1) := by decide +kernel
theorem ad_Md_meet_301 : decode prog_14_method_83_code 301 = .ok (.iload 5, 2) := by decide +kernel
theorem ad_Md_meet_303 : decode prog_14_method_83_code 303 = .ok (.invokevirtual 298, 3) := by decide +kernel
theorem ad_Md_meet_306 : decode prog_14_method_83_code 306 = .ok (.iconst 1, 1) := by decide +kernel
theorem ad_Md_meet_307 : decode prog_14_method_83_code 307 = .ok (.iadd, 1) := by decide +kernel
theorem ad_Md_meet_308 : decode prog_14_method_83_code 308 = .ok (.iconst 2, 1) := by decide +kernel
theorem ad_Md_meet_309 : decode prog_14_method_83_code 309 = .ok (.idiv, 1) := by decide +kernel
theorem ad_Md_meet_310 : decode prog_14_method_83_code 310 = .ok (.imul, 1) := by decide +kernel
theorem ad_Md_meet_311 : decode prog_14_method_83_code 311 = .ok (.isub, 1) := by decide +kernel
theorem ad_Md_meet_312 : decode prog_14_method_83_code 312 = .ok (.iadd, 1) := by decide +kernel
theorem ad_Md_meet_313 : decode prog_14_method_83_code 313 = .ok (.iastore, 1) := by decide +kernel
theorem ad_Md_meet_314 : decode prog_14_method_83_code 314 = .ok (.iload 7, 2) := by decide +kernel
theorem ad_Md_meet_316 : decode prog_14_method_83_code 316 = .ok (.iconst 1, 1) := by decide +kernel
theorem ad_Md_meet_317 : decode prog_14_method_83_code 317 = .ok (.if_icmp .ne 51, 3) := by decide +kernel
theorem ad_Md_meet_320 : decode prog_14_method_83_code 320 = .ok (.aload_n 0, 1) := by decide +kernel
theorem ad_Md_meet_321 : decode prog_14_method_83_code 321 = .ok (.aload_n 0, 1) := by decide +kernel
theorem ad_Md_meet_322 : decode prog_14_method_83_code 322 = .ok (.getfield 375, 3) := by decide +kernel
theorem ad_Md_meet_325 : decode prog_14_method_83_code 325 = .ok (.invokevirtual 381, 3) := by decide +kernel
theorem ad_Md_meet_328 : decode prog_14_method_83_code 328 = .ok (.istore 8, 2) := by decide +kernel
theorem ad_Md_meet_330 : decode prog_14_method_83_code 330 = .ok (.aload_n 0, 1) := by decide +kernel
theorem ad_Md_meet_331 : decode prog_14_method_83_code 331 = .ok (.getfield 369, 3) := by decide +kernel
theorem ad_Md_meet_334 : decode prog_14_method_83_code 334 = .ok (.iconst (-1), 1) := by decide +kernel
theorem ad_Md_meet_335 : decode prog_14_method_83_code 335 = .ok (.if_icmp .eq 17, 3) := by decide +kernel
theorem ad_Md_meet_338 : decode prog_14_method_83_code 338 = .ok (.aload_n 0, 1) := by decide +kernel
theorem ad_Md_meet_339 : decode prog_14_method_83_code 339 = .ok (.aload_n 0, 1) := by decide +kernel
theorem ad_Md_meet_340 : decode prog_14_method_83_code 340 = .ok (.getfield 369, 3) := by decide +kernel
theorem ad_Md_meet_343 : decode prog_14_method_83_code 343 = .ok (.invokevirtual 381, 3) := by decide +kernel
theorem ad_Md_meet_346 : decode prog_14_method_83_code 346 = .ok (.ifCond .ne 6, 3) := by decide +kernel
theorem ad_Md_meet_349 : decode prog_14_method_83_code 349 = .ok (.iconst 0, 1) := by decide +kernel
theorem ad_Md_meet_350 : decode prog_14_method_83_code 350 = .ok (.istore 8, 2) := by decide +kernel
theorem ad_Md_meet_352 : decode prog_14_method_83_code 352 = .ok (.iload 8, 2) := by decide +kernel
theorem ad_Md_meet_354 : decode prog_14_method_83_code 354 = .ok (.ifCond .ne 4, 3) := by decide +kernel
theorem ad_Md_meet_357 : decode prog_14_method_83_code 357 = .ok (.return_, 1) := by decide +kernel
theorem ad_Md_meet_358 : decode prog_14_method_83_code 358 = .ok (.aload_n 0, 1) := by decide +kernel
theorem ad_Md_meet_359 : decode prog_14_method_83_code 359 = .ok (.getfield 69, 3) := by decide +kernel
theorem ad_Md_meet_362 : decode prog_14_method_83_code 362 = .ok (.iconst 2, 1) := by decide +kernel
theorem ad_Md_meet_363 : decode prog_14_method_83_code 363 = .ok (.dup2, 1) := by decide +kernel
theorem ad_Md_meet_364 : decode prog_14_method_83_code 364 = .ok (.iaload, 1) := by decide +kernel
theorem ad_Md_meet_365 : decode prog_14_method_83_code 365 = .ok (.iconst 1, 1) := by decide +kernel
theorem ad_Md_meet_366 : decode prog_14_method_83_code 366 = .ok (.iadd, 1) := by decide +kernel
theorem ad_Md_meet_367 : decode prog_14_method_83_code 367 = .ok (.iastore, 1) := by decide +kernel
theorem ad_Md_meet_368 : decode prog_14_method_83_code 368 = .ok (.aload_n 0, 1) := by decide +kernel
theorem ad_Md_meet_369 : decode prog_14_method_83_code 369 = .ok (.iload_n 1, 1) := by decide +kernel
theorem ad_Md_meet_370 : decode prog_14_method_83_code 370 = .ok (.iload_n 3, 1) := by decide +kernel
theorem ad_Md_meet_371 : decode prog_14_method_83_code 371 = .ok (.iload_n 2, 1) := by decide +kernel
theorem ad_Md_meet_372 : decode prog_14_method_83_code 372 = .ok (.invokevirtual 384, 3) := by decide +kernel
theorem ad_Md_meet_375 : decode prog_14_method_83_code 375 = .ok (.return_, 1) := by decide +kernel
theorem ad_Md_run_0 : decode prog_14_method_84_code 0 = .ok (.aload_n 0, 1) := by decide +kernel
theorem ad_Md_run_1 : decode prog_14_method_84_code 1 = .ok (.iconst 0, 1) := by decide +kernel
theorem ad_Md_run_2 : decode prog_14_method_84_code 2 = .ok (.putfield 102, 3) := by decide +kernel
theorem ad_Md_run_5 : decode prog_14_method_84_code 5 = .ok (.aload_n 0, 1) := by decide +kernel
theorem ad_Md_run_6 : decode prog_14_method_84_code 6 = .ok (.invokevirtual 187, 3) := by decide +kernel
theorem ad_Md_run_9 : decode prog_14_method_84_code 9 = .ok (.iload_n 1, 1) := by decide +kernel
theorem ad_Md_run_10 : decode prog_14_method_84_code 10 = .ok (.iconst 1, 1) := by decide +kernel
theorem ad_Md_run_11 : decode prog_14_method_84_code 11 = .ok (.bipush 60, 2) := by decide +kernel
theorem ad_Md_run_13 : decode prog_14_method_84_code 13 = .ok (.invokestatic 174, 3) := by decide +kernel
theorem ad_Md_run_16 : decode prog_14_method_84_code 16 = .ok (.ifCond .ne 5, 3) := by decide +kernel
theorem ad_Md_run_19 : decode prog_14_method_84_code 19 = .ok (.iconst (-1), 1) := by decide +kernel
theorem ad_Md_run_20 : decode prog_14_method_84_code 20 = .ok (.ireturn, 1) := by decide +kernel
theorem ad_Md_run_21 : decode prog_14_method_84_code 21 = .ok (.aload_n 0, 1) := by decide +kernel
theorem ad_Md_run_22 : decode prog_14_method_84_code 22 = .ok (.invokevirtual 316, 3) := by decide +kernel
theorem ad_Md_run_25 : decode prog_14_method_84_code 25 = .ok (.aload_n 0, 1) := by decide +kernel
theorem ad_Md_run_26 : decode prog_14_method_84_code 26 = .ok (.iload_n 2, 1) := by decide +kernel
theorem ad_Md_run_27 : decode prog_14_method_84_code 27 = .ok (.putfield 362, 3) := by decide +kernel
theorem ad_Md_run_30 : decode prog_14_method_84_code 30 = .ok (.iconst 0, 1) := by decide +kernel
theorem ad_Md_run_31 : decode prog_14_method_84_code 31 = .ok (.istore_n 3, 1) := by decide +kernel
theorem ad_Md_run_32 : decode prog_14_method_84_code 32 = .ok (.iload_n 3, 1) := by decide +kernel
theorem ad_Md_run_33 : decode prog_14_method_84_code 33 = .ok (.bipush 8, 2) := by decide +kernel
theorem ad_Md_run_35 : decode prog_14_method_84_code 35 = .ok (.if_icmp .ge 23, 3) := by decide +kernel
theorem ad_Md_run_38 : decode prog_14_method_84_code 38 = .ok (.aload_n 0, 1) := by decide +kernel
theorem ad_Md_run_39 : decode prog_14_method_84_code 39 = .ok (.getfield 69, 3) := by decide +kernel
theorem ad_Md_run_42 : decode prog_14_method_84_code 42 = .ok (.iload_n 3, 1) := by decide +kernel
theorem ad_Md_run_43 : decode prog_14_method_84_code 43 = .ok (.iconst 0, 1) := by decide +kernel
theorem ad_Md_run_44 : decode prog_14_method_84_code 44 = .ok (.iastore, 1) := by decide +kernel
theorem ad_Md_run_45 : decode prog_14_method_84_code 45 = .ok (.aload_n 0, 1) := by decide +kernel
theorem ad_Md_run_46 : decode prog_14_method_84_code 46 = .ok (.getfield 72, 3) := by decide +kernel
theorem ad_Md_run_49 : decode prog_14_method_84_code 49 = .ok (.iload_n 3, 1) := by decide +kernel
theorem ad_Md_run_50 : decode prog_14_method_84_code 50 = .ok (.iconst 0, 1) := by decide +kernel
theorem ad_Md_run_51 : decode prog_14_method_84_code 51 = .ok (.iastore, 1) := by decide +kernel
theorem ad_Md_run_52 : decode prog_14_method_84_code 52 = .ok (.iinc 3 1, 3) := by decide +kernel
theorem ad_Md_run_55 : decode prog_14_method_84_code 55 = .ok (.goto (-23), 3) := by decide +kernel
theorem ad_Md_run_58 : decode prog_14_method_84_code 58 = .ok (.aload_n 0, 1) := by decide +kernel
theorem ad_Md_run_59 : decode prog_14_method_84_code 59 = .ok (.getfield 69, 3) := by decide +kernel
theorem ad_Md_run_62 : decode prog_14_method_84_code 62 = .ok (.iconst 5, 1) := by decide +kernel
theorem ad_Md_run_63 : decode prog_14_method_84_code 63 = .ok (.iconst (-1), 1) := by decide +kernel
theorem ad_Md_run_64 : decode prog_14_method_84_code 64 = .ok (.iastore, 1) := by decide +kernel
theorem ad_Md_run_65 : decode prog_14_method_84_code 65 = .ok (.iconst 0, 1) := by decide +kernel
theorem ad_Md_run_66 : decode prog_14_method_84_code 66 = .ok (.istore_n 3, 1) := by decide +kernel
theorem ad_Md_run_67 : decode prog_14_method_84_code 67 = .ok (.iload_n 3, 1) := by decide +kernel
theorem ad_Md_run_68 : decode prog_14_method_84_code 68 = .ok (.iload_n 1, 1) := by decide +kernel
theorem ad_Md_run_69 : decode prog_14_method_84_code 69 = .ok (.if_icmp .ge 52, 3) := by decide +kernel
theorem ad_Md_run_72 : decode prog_14_method_84_code 72 = .ok (.iconst 0, 1) := by decide +kernel
theorem ad_Md_run_73 : decode prog_14_method_84_code 73 = .ok (.istore 4, 2) := by decide +kernel
theorem ad_Md_run_75 : decode prog_14_method_84_code 75 = .ok (.iload 4, 2) := by decide +kernel
theorem ad_Md_run_77 : decode prog_14_method_84_code 77 = .ok (.aload_n 0, 1) := by decide +kernel
theorem ad_Md_run_78 : decode prog_14_method_84_code 78 = .ok (.getfield 13, 3) := by decide +kernel
theorem ad_Md_run_81 : decode prog_14_method_84_code 81 = .ok (.iconst 2, 1) := by decide +kernel
theorem ad_Md_run_82 : decode prog_14_method_84_code 82 = .ok (.iaload, 1) := by decide +kernel
theorem ad_Md_run_83 : decode prog_14_method_84_code 83 = .ok (.if_icmp .ge 32, 3) := by decide +kernel
theorem ad_Md_run_86 : decode prog_14_method_84_code 86 = .ok (.aload_n 0, 1) := by decide +kernel
theorem ad_Md_run_87 : decode prog_14_method_84_code 87 = .ok (.iload 4, 2) := by decide +kernel
theorem ad_Md_run_89 : decode prog_14_method_84_code 89 = .ok (.iload_n 3, 1) := by decide +kernel
theorem ad_Md_run_90 : decode prog_14_method_84_code 90 = .ok (.iload_n 1, 1) := by decide +kernel
theorem ad_Md_run_91 : decode prog_14_method_84_code 91 = .ok (.iload_n 3, 1) := by decide +kernel
theorem ad_Md_run_92 : decode prog_14_method_84_code 92 = .ok (.isub, 1) := by decide +kernel
theorem ad_Md_run_93 : decode prog_14_method_84_code 93 = .ok (.bipush 20, 2) := by decide +kernel
theorem ad_Md_run_95 : decode prog_14_method_84_code 95 = .ok (.if_icmp .ge 9, 3) := by decide +kernel
theorem ad_Md_run_98 : decode prog_14_method_84_code 98 = .ok (.iload_n 1, 1) := by decide +kernel
theorem ad_Md_run_99 : decode prog_14_method_84_code 99 = .ok (.iload_n 3, 1) := by decide +kernel
theorem ad_Md_run_100 : decode prog_14_method_84_code 100 = .ok (.isub, 1) := by decide +kernel
theorem ad_Md_run_101 : decode prog_14_method_84_code 101 = .ok (.goto 5, 3) := by decide +kernel
theorem ad_Md_run_104 : decode prog_14_method_84_code 104 = .ok (.bipush 20, 2) := by decide +kernel
theorem ad_Md_run_106 : decode prog_14_method_84_code 106 = .ok (.invokevirtual 388, 3) := by decide +kernel
theorem ad_Md_run_109 : decode prog_14_method_84_code 109 = .ok (.iinc 4 1, 3) := by decide +kernel
theorem ad_Md_run_112 : decode prog_14_method_84_code 112 = .ok (.goto (-37), 3) := by decide +kernel
theorem ad_Md_run_115 : decode prog_14_method_84_code 115 = .ok (.iinc 3 1, 3) := by decide +kernel
theorem ad_Md_run_118 : decode prog_14_method_84_code 118 = .ok (.goto (-51), 3) := by decide +kernel
theorem ad_Md_run_121 : decode prog_14_method_84_code 121 = .ok (.aload_n 0, 1) := by decide +kernel
theorem ad_Md_run_122 : decode prog_14_method_84_code 122 = .ok (.iconst 1, 1) := by decide +kernel
theorem ad_Md_run_123 : decode prog_14_method_84_code 123 = .ok (.putfield 391, 3) := by decide +kernel
theorem ad_Md_run_126 : decode prog_14_method_84_code 126 = .ok (.aload_n 0, 1) := by decide +kernel
theorem ad_Md_run_127 : decode prog_14_method_84_code 127 = .ok (.aload_n 0, 1) := by decide +kernel
theorem ad_Md_run_128 : decode prog_14_method_84_code 128 = .ok (.invokevirtual 201, 3) := by decide +kernel
theorem ad_Md_run_131 : decode prog_14_method_84_code 131 = .ok (.putfield 394, 3) := by decide +kernel
theorem ad_Md_run_134 : decode prog_14_method_84_code 134 = .ok (.iconst 0, 1) := by decide +kernel
theorem ad_Md_run_135 : decode prog_14_method_84_code 135 = .ok (.istore_n 3, 1) := by decide +kernel
theorem ad_Md_run_136 : decode prog_14_method_84_code 136 = .ok (.iload_n 3, 1) := by decide +kernel
theorem ad_Md_run_137 : decode prog_14_method_84_code 137 = .ok (.bipush 8, 2) := by decide +kernel
theorem ad_Md_run_139 : decode prog_14_method_84_code 139 = .ok (.if_icmp .ge 33, 3) := by decide +kernel
theorem ad_Md_run_142 : decode prog_14_method_84_code 142 = .ok (.aload_n 0, 1) := by decide +kernel
theorem ad_Md_run_143 : decode prog_14_method_84_code 143 = .ok (.getfield 75, 3) := by decide +kernel
theorem ad_Md_run_146 : decode prog_14_method_84_code 146 = .ok (.iload_n 3, 1) := by decide +kernel
theorem ad_Md_run_147 : decode prog_14_method_84_code 147 = .ok (.aload_n 0, 1) := by decide +kernel
theorem ad_Md_run_148 : decode prog_14_method_84_code 148 = .ok (.getfield 69, 3) := by decide +kernel
theorem ad_Md_run_151 : decode prog_14_method_84_code 151 = .ok (.iload_n 3, 1) := by decide +kernel
theorem ad_Md_run_152 : decode prog_14_method_84_code 152 = .ok (.iaload, 1) := by decide +kernel
theorem ad_Md_run_153 : decode prog_14_method_84_code 153 = .ok (.iastore, 1) := by decide +kernel
theorem ad_Md_run_154 : decode prog_14_method_84_code 154 = .ok (.aload_n 0, 1) := by decide +kernel
theorem ad_Md_run_155 : decode prog_14_method_84_code 155 = .ok (.getfield 78, 3) := by decide +kernel
theorem ad_Md_run_158 : decode prog_14_method_84_code 158 = .ok (.iload_n 3, 1) := by decide +kernel
theorem ad_Md_run_159 : decode prog_14_method_84_code 159 = .ok (.aload_n 0, 1) := by decide +kernel
theorem ad_Md_run_160 : decode prog_14_method_84_code 160 = .ok (.getfield 72, 3) := by decide +kernel
theorem ad_Md_run_163 : decode prog_14_method_84_code 163 = .ok (.iload_n 3, 1) := by decide +kernel
theorem ad_Md_run_164 : decode prog_14_method_84_code 164 = .ok (.iaload, 1) := by decide +kernel
theorem ad_Md_run_165 : decode prog_14_method_84_code 165 = .ok (.iastore, 1) := by decide +kernel
theorem ad_Md_run_166 : decode prog_14_method_84_code 166 = .ok (.iinc 3 1, 3) := by decide +kernel
theorem ad_Md_run_169 : decode prog_14_method_84_code 169 = .ok (.goto (-33), 3) := by decide +kernel
theorem ad_Md_run_172 : decode prog_14_method_84_code 172 = .ok (.aload_n 0, 1) := by decide +kernel
theorem ad_Md_run_173 : decode prog_14_method_84_code 173 = .ok (.getfield 69, 3) := by decide +kernel
theorem ad_Md_run_176 : decode prog_14_method_84_code 176 = .ok (.iconst 0, 1) := by decide +kernel
theorem ad_Md_run_177 : decode prog_14_method_84_code 177 = .ok (.iaload, 1) := by decide +kernel
theorem ad_Md_run_178 : decode prog_14_method_84_code 178 = .ok (.aload_n 0, 1) := by decide +kernel
theorem ad_Md_run_179 : decode prog_14_method_84_code 179 = .ok (.getfield 69, 3) := by decide +kernel
theorem ad_Md_run_182 : decode prog_14_method_84_code 182 = .ok (.iconst 1, 1) := by decide +kernel
theorem ad_Md_run_183 : decode prog_14_method_84_code 183 = .ok (.iaload, 1) := by decide +kernel
theorem ad_Md_run_184 : decode prog_14_method_84_code 184 = .ok (.iadd, 1) := by decide +kernel
theorem ad_Md_run_185 : decode prog_14_method_84_code 185 = .ok (.ireturn, 1) := by decide +kernel
theorem ad_Md_runBy_0 : decode prog_14_method_85_code 0 = .ok (.aload_n 0, 1) := by decide +kernel
theorem ad_Md_runBy_1 : decode prog_14_method_85_code 1 = .ok (.iconst 0, 1) := by decide +kernel
theorem ad_Md_runBy_2 : decode prog_14_method_85_code 2 = .ok (.putfield 102, 3) := by decide +kernel
theorem ad_Md_runBy_5 : decode prog_14_method_85_code 5 = .ok (.aload_n 0, 1) := by decide +kernel
theorem ad_Md_runBy_6 : decode prog_14_method_85_code 6 = .ok (.getfield 391, 3) := by decide +kernel
theorem ad_Md_runBy_9 : decode prog_14_method_85_code 9 = .ok (.ifCond .eq 22, 3) := by decide +kernel
theorem ad_Md_runBy_12 : decode prog_14_method_85_code 12 = .ok (.iload_n 1, 1) := by decide +kernel
theorem ad_Md_runBy_13 : decode prog_14_method_85_code 13 = .ok (.iconst 0, 1) := by decide +kernel
theorem ad_Md_runBy_14 : decode prog_14_method_85_code 14 = .ok (.bipush 7, 2) := by decide +kernel
theorem ad_Md_runBy_16 : decode prog_14_method_85_code 16 = .ok (.invokestatic 174, 3) := by decide +kernel
theorem ad_Md_runBy_19 : decode prog_14_method_85_code 19 = .ok (.ifCond .eq 12, 3) := by decide +kernel
theorem ad_Md_runBy_22 : decode prog_14_method_85_code 22 = .ok (.aload_n 0, 1) := by decide +kernel
theorem ad_Md_runBy_23 : decode prog_14_method_85_code 23 = .ok (.getfield 75, 3) := by decide +kernel
theorem ad_Md_runBy_26 : decode prog_14_method_85_code 26 = .ok (.iload_n 1, 1) := by decide +kernel
theorem ad_Md_runBy_27 : decode prog_14_method_85_code 27 = .ok (.iaload, 1) := by decide +kernel
theorem ad_Md_runBy_28 : decode prog_14_method_85_code 28 = .ok (.goto 5, 3) := by decide +kernel
theorem ad_Md_runBy_31 : decode prog_14_method_85_code 31 = .ok (.bipush (-2), 2) := by decide +kernel
theorem ad_Md_runBy_33 : decode prog_14_method_85_code 33 = .ok (.ireturn, 1) := by decide +kernel
theorem ad_Md_runOf_0 : decode prog_14_method_86_code 0 = .ok (.aload_n 0, 1) := by decide +kernel
theorem ad_Md_runOf_1 : decode prog_14_method_86_code 1 = .ok (.iconst 0, 1) := by decide +kernel
theorem ad_Md_runOf_2 : decode prog_14_method_86_code 2 = .ok (.putfield 102, 3) := by decide +kernel
theorem ad_Md_runOf_5 : decode prog_14_method_86_code 5 = .ok (.aload_n 0, 1) := by decide +kernel
theorem ad_Md_runOf_6 : decode prog_14_method_86_code 6 = .ok (.getfield 391, 3) := by decide +kernel
theorem ad_Md_runOf_9 : decode prog_14_method_86_code 9 = .ok (.ifCond .eq 24, 3) := by decide +kernel
theorem ad_Md_runOf_12 : decode prog_14_method_86_code 12 = .ok (.iload_n 1, 1) := by decide +kernel
theorem ad_Md_runOf_13 : decode prog_14_method_86_code 13 = .ok (.ifCond .lt 20, 3) := by decide +kernel
theorem ad_Md_runOf_16 : decode prog_14_method_86_code 16 = .ok (.iload_n 1, 1) := by decide +kernel
theorem ad_Md_runOf_17 : decode prog_14_method_86_code 17 = .ok (.aload_n 0, 1) := by decide +kernel
theorem ad_Md_runOf_18 : decode prog_14_method_86_code 18 = .ok (.getfield 394, 3) := by decide +kernel
theorem ad_Md_runOf_21 : decode prog_14_method_86_code 21 = .ok (.if_icmp .ge 12, 3) := by decide +kernel
theorem ad_Md_runOf_24 : decode prog_14_method_86_code 24 = .ok (.aload_n 0, 1) := by decide +kernel
theorem ad_Md_runOf_25 : decode prog_14_method_86_code 25 = .ok (.getfield 78, 3) := by decide +kernel
theorem ad_Md_runOf_28 : decode prog_14_method_86_code 28 = .ok (.iload_n 1, 1) := by decide +kernel
theorem ad_Md_runOf_29 : decode prog_14_method_86_code 29 = .ok (.iaload, 1) := by decide +kernel
theorem ad_Md_runOf_30 : decode prog_14_method_86_code 30 = .ok (.goto 4, 3) := by decide +kernel
theorem ad_Md_runOf_33 : decode prog_14_method_86_code 33 = .ok (.iconst (-1), 1) := by decide +kernel
theorem ad_Md_runOf_34 : decode prog_14_method_86_code 34 = .ok (.ireturn, 1) := by decide +kernel
theorem ad_Md_gets_0 : decode prog_14_method_87_code 0 = .ok (.iconst 0, 1) := by decide +kernel
theorem ad_Md_gets_1 : decode prog_14_method_87_code 1 = .ok (.istore_n 2, 1) := by decide +kernel
theorem ad_Md_gets_2 : decode prog_14_method_87_code 2 = .ok (.iload_n 2, 1) := by decide +kernel
theorem ad_Md_gets_3 : decode prog_14_method_87_code 3 = .ok (.aload_n 0, 1) := by decide +kernel
theorem ad_Md_gets_4 : decode prog_14_method_87_code 4 = .ok (.invokevirtual 201, 3) := by decide +kernel
theorem ad_Md_gets_7 : decode prog_14_method_87_code 7 = .ok (.if_icmp .ge 200, 3) := by decide +kernel
theorem ad_Md_gets_10 : decode prog_14_method_87_code 10 = .ok (.aload_n 0, 1) := by decide +kernel
theorem ad_Md_gets_11 : decode prog_14_method_87_code 11 = .ok (.iload_n 2, 1) := by decide +kernel
theorem ad_Md_gets_12 : decode prog_14_method_87_code 12 = .ok (.iload_n 1, 1) := by decide +kernel
theorem ad_Md_gets_13 : decode prog_14_method_87_code 13 = .ok (.invokevirtual 372, 3) := by decide +kernel
theorem ad_Md_gets_16 : decode prog_14_method_87_code 16 = .ok (.ifCond .eq 185, 3) := by decide +kernel
theorem ad_Md_gets_19 : decode prog_14_method_87_code 19 = .ok (.aload_n 0, 1) := by decide +kernel
theorem ad_Md_gets_20 : decode prog_14_method_87_code 20 = .ok (.getfield 397, 3) := by decide +kernel
theorem ad_Md_gets_23 : decode prog_14_method_87_code 23 = .ok (.iload_n 2, 1) := by decide +kernel
theorem ad_Md_gets_24 : decode prog_14_method_87_code 24 = .ok (.invokestatic 224, 3) := by decide +kernel
theorem ad_Md_gets_27 : decode prog_14_method_87_code 27 = .ok (.ifCond .ne 174, 3) := by decide +kernel
theorem ad_Md_gets_30 : decode prog_14_method_87_code 30 = .ok (.aload_n 0, 1) := by decide +kernel
theorem ad_Md_gets_31 : decode prog_14_method_87_code 31 = .ok (.getfield 87, 3) := by decide +kernel
theorem ad_Md_gets_34 : decode prog_14_method_87_code 34 = .ok (.iload_n 1, 1) := by decide +kernel
theorem ad_Md_gets_35 : decode prog_14_method_87_code 35 = .ok (.iaload, 1) := by decide +kernel
theorem ad_Md_gets_36 : decode prog_14_method_87_code 36 = .ok (.bipush (-2), 2) := by decide +kernel
theorem ad_Md_gets_38 : decode prog_14_method_87_code 38 = .ok (.if_icmp .eq 16, 3) := by decide +kernel
theorem ad_Md_gets_41 : decode prog_14_method_87_code 41 = .ok (.aload_n 0, 1) := by decide +kernel
theorem ad_Md_gets_42 : decode prog_14_method_87_code 42 = .ok (.getfield 87, 3) := by decide +kernel
theorem ad_Md_gets_45 : decode prog_14_method_87_code 45 = .ok (.iload_n 1, 1) := by decide +kernel
theorem ad_Md_gets_46 : decode prog_14_method_87_code 46 = .ok (.iaload, 1) := by decide +kernel
theorem ad_Md_gets_47 : decode prog_14_method_87_code 47 = .ok (.iload_n 2, 1) := by decide +kernel
theorem ad_Md_gets_48 : decode prog_14_method_87_code 48 = .ok (.if_icmp .eq 6, 3) := by decide +kernel
theorem ad_Md_gets_51 : decode prog_14_method_87_code 51 = .ok (.goto 150, 3) := by decide +kernel
theorem ad_Md_gets_54 : decode prog_14_method_87_code 54 = .ok (.aload_n 0, 1) := by decide +kernel
theorem ad_Md_gets_55 : decode prog_14_method_87_code 55 = .ok (.dup, 1) := by decide +kernel
theorem ad_Md_gets_56 : decode prog_14_method_87_code 56 = .ok (.getfield 397, 3) := by decide +kernel
theorem ad_Md_gets_59 : decode prog_14_method_87_code 59 = .ok (.iconst 1, 1) := by decide +kernel
theorem ad_Md_gets_60 : decode prog_14_method_87_code 60 = .ok (.iload_n 2, 1) := by decide +kernel
theorem ad_Md_gets_61 : decode prog_14_method_87_code 61 = .ok (.ishl, 1) := by decide +kernel
theorem ad_Md_gets_62 : decode prog_14_method_87_code 62 = .ok (.ior, 1) := by decide +kernel
theorem ad_Md_gets_63 : decode prog_14_method_87_code 63 = .ok (.putfield 397, 3) := by decide +kernel
theorem ad_Md_gets_66 : decode prog_14_method_87_code 66 = .ok (.aload_n 0, 1) := by decide +kernel
theorem ad_Md_gets_67 : decode prog_14_method_87_code 67 = .ok (.getfield 84, 3) := by decide +kernel
theorem ad_Md_gets_70 : decode prog_14_method_87_code 70 = .ok (.iload_n 2, 1) := by decide +kernel
theorem ad_Md_gets_71 : decode prog_14_method_87_code 71 = .ok (.iaload, 1) := by decide +kernel
theorem ad_Md_gets_72 : decode prog_14_method_87_code 72 = .ok (.aload_n 0, 1) := by decide +kernel
theorem ad_Md_gets_73 : decode prog_14_method_87_code 73 = .ok (.getfield 400, 3) := by decide +kernel
theorem ad_Md_gets_76 : decode prog_14_method_87_code 76 = .ok (.if_icmp .ge 22, 3) := by decide +kernel
theorem ad_Md_gets_79 : decode prog_14_method_87_code 79 = .ok (.aload_n 0, 1) := by decide +kernel
theorem ad_Md_gets_80 : decode prog_14_method_87_code 80 = .ok (.getfield 84, 3) := by decide +kernel
theorem ad_Md_gets_83 : decode prog_14_method_87_code 83 = .ok (.iload_n 2, 1) := by decide +kernel
theorem ad_Md_gets_84 : decode prog_14_method_87_code 84 = .ok (.dup2, 1) := by decide +kernel
theorem ad_Md_gets_85 : decode prog_14_method_87_code 85 = .ok (.iaload, 1) := by decide +kernel
theorem ad_Md_gets_86 : decode prog_14_method_87_code 86 = .ok (.iconst 1, 1) := by decide +kernel
theorem ad_Md_gets_87 : decode prog_14_method_87_code 87 = .ok (.iadd, 1) := by decide +kernel
theorem ad_Md_gets_88 : decode prog_14_method_87_code 88 = .ok (.iastore, 1) := by decide +kernel
theorem ad_Md_gets_89 : decode prog_14_method_87_code 89 = .ok (.aload_n 0, 1) := by decide +kernel
theorem ad_Md_gets_90 : decode prog_14_method_87_code 90 = .ok (.getfield 81, 3) := by decide +kernel
theorem ad_Md_gets_93 : decode prog_14_method_87_code 93 = .ok (.iload_n 1, 1) := by decide +kernel
theorem ad_Md_gets_94 : decode prog_14_method_87_code 94 = .ok (.iload_n 2, 1) := by decide +kernel
theorem ad_Md_gets_95 : decode prog_14_method_87_code 95 = .ok (.iastore, 1) := by decide +kernel
theorem ad_Md_gets_96 : decode prog_14_method_87_code 96 = .ok (.iconst 1, 1) := by decide +kernel
theorem ad_Md_gets_97 : decode prog_14_method_87_code 97 = .ok (.ireturn, 1) := by decide +kernel
theorem ad_Md_gets_98 : decode prog_14_method_87_code 98 = .ok (.iconst 0, 1) := by decide +kernel
theorem ad_Md_gets_99 : decode prog_14_method_87_code 99 = .ok (.istore_n 3, 1) := by decide +kernel
theorem ad_Md_gets_100 : decode prog_14_method_87_code 100 = .ok (.iload_n 3, 1) := by decide +kernel
theorem ad_Md_gets_101 : decode prog_14_method_87_code 101 = .ok (.aload_n 0, 1) := by decide +kernel
theorem ad_Md_gets_102 : decode prog_14_method_87_code 102 = .ok (.getfield 13, 3) := by decide +kernel
theorem ad_Md_gets_105 : decode prog_14_method_87_code 105 = .ok (.iconst 2, 1) := by decide +kernel
theorem ad_Md_gets_106 : decode prog_14_method_87_code 106 = .ok (.iaload, 1) := by decide +kernel
theorem ad_Md_gets_107 : decode prog_14_method_87_code 107 = .ok (.if_icmp .ge 94, 3) := by decide +kernel
theorem ad_Md_gets_110 : decode prog_14_method_87_code 110 = .ok (.aload_n 0, 1) := by decide +kernel
theorem ad_Md_gets_111 : decode prog_14_method_87_code 111 = .ok (.getfield 81, 3) := by decide +kernel
theorem ad_Md_gets_114 : decode prog_14_method_87_code 114 = .ok (.iload_n 3, 1) := by decide +kernel
theorem ad_Md_gets_115 : decode prog_14_method_87_code 115 = .ok (.iaload, 1) := by decide +kernel
theorem ad_Md_gets_116 : decode prog_14_method_87_code 116 = .ok (.iload_n 2, 1) := by decide +kernel
theorem ad_Md_gets_117 : decode prog_14_method_87_code 117 = .ok (.if_icmp .ne 78, 3) := by decide +kernel
theorem ad_Md_gets_120 : decode prog_14_method_87_code 120 = .ok (.aload_n 0, 1) := by decide +kernel
theorem ad_Md_gets_121 : decode prog_14_method_87_code 121 = .ok (.getfield 87, 3) := by decide +kernel
theorem ad_Md_gets_124 : decode prog_14_method_87_code 124 = .ok (.iload_n 3, 1) := by decide +kernel
theorem ad_Md_gets_125 : decode prog_14_method_87_code 125 = .ok (.iaload, 1) := by decide +kernel
theorem ad_Md_gets_126 : decode prog_14_method_87_code 126 = .ok (.bipush (-2), 2) := by decide +kernel
theorem ad_Md_gets_128 : decode prog_14_method_87_code 128 = .ok (.if_icmp .eq 6, 3) := by decide +kernel
theorem ad_Md_gets_131 : decode prog_14_method_87_code 131 = .ok (.goto 64, 3) := by decide +kernel
theorem ad_Md_gets_134 : decode prog_14_method_87_code 134 = .ok (.aload_n 0, 1) := by decide +kernel
theorem ad_Md_gets_135 : decode prog_14_method_87_code 135 = .ok (.getfield 81, 3) := by decide +kernel
theorem ad_Md_gets_138 : decode prog_14_method_87_code 138 = .ok (.iload_n 3, 1) := by decide +kernel
theorem ad_Md_gets_139 : decode prog_14_method_87_code 139 = .ok (.iconst (-1), 1) := by decide +kernel
theorem ad_Md_gets_140 : decode prog_14_method_87_code 140 = .ok (.iastore, 1) := by decide +kernel
theorem ad_Md_gets_141 : decode prog_14_method_87_code 141 = .ok (.aload_n 0, 1) := by decide +kernel
theorem ad_Md_gets_142 : decode prog_14_method_87_code 142 = .ok (.getfield 84, 3) := by decide +kernel
theorem ad_Md_gets_145 : decode prog_14_method_87_code 145 = .ok (.iload_n 2, 1) := by decide +kernel
theorem ad_Md_gets_146 : decode prog_14_method_87_code 146 = .ok (.dup2, 1) := by decide +kernel
theorem ad_Md_gets_147 : decode prog_14_method_87_code 147 = .ok (.iaload, 1) := by decide +kernel
theorem ad_Md_gets_148 : decode prog_14_method_87_code 148 = .ok (.iconst 1, 1) := by decide +kernel
theorem ad_Md_gets_149 : decode prog_14_method_87_code 149 = .ok (.isub, 1) := by decide +kernel
theorem ad_Md_gets_150 : decode prog_14_method_87_code 150 = .ok (.iastore, 1) := by decide +kernel
theorem ad_Md_gets_151 : decode prog_14_method_87_code 151 = .ok (.aload_n 0, 1) := by decide +kernel
theorem ad_Md_gets_152 : decode prog_14_method_87_code 152 = .ok (.iload_n 3, 1) := by decide +kernel
theorem ad_Md_gets_153 : decode prog_14_method_87_code 153 = .ok (.invokevirtual 403, 3) := by decide +kernel
theorem ad_Md_gets_156 : decode prog_14_method_87_code 156 = .ok (.ifCond .eq 22, 3) := by decide +kernel
theorem ad_Md_gets_159 : decode prog_14_method_87_code 159 = .ok (.aload_n 0, 1) := by decide +kernel
theorem ad_Md_gets_160 : decode prog_14_method_87_code 160 = .ok (.getfield 84, 3) := by decide +kernel
theorem ad_Md_gets_163 : decode prog_14_method_87_code 163 = .ok (.iload_n 2, 1) := by decide +kernel
theorem ad_Md_gets_164 : decode prog_14_method_87_code 164 = .ok (.dup2, 1) := by decide +kernel
theorem ad_Md_gets_165 : decode prog_14_method_87_code 165 = .ok (.iaload, 1) := by decide +kernel
theorem ad_Md_gets_166 : decode prog_14_method_87_code 166 = .ok (.iconst 1, 1) := by decide +kernel
theorem ad_Md_gets_167 : decode prog_14_method_87_code 167 = .ok (.iadd, 1) := by decide +kernel
theorem ad_Md_gets_168 : decode prog_14_method_87_code 168 = .ok (.iastore, 1) := by decide +kernel
theorem ad_Md_gets_169 : decode prog_14_method_87_code 169 = .ok (.aload_n 0, 1) := by decide +kernel
theorem ad_Md_gets_170 : decode prog_14_method_87_code 170 = .ok (.getfield 81, 3) := by decide +kernel
theorem ad_Md_gets_173 : decode prog_14_method_87_code 173 = .ok (.iload_n 1, 1) := by decide +kernel
theorem ad_Md_gets_174 : decode prog_14_method_87_code 174 = .ok (.iload_n 2, 1) := by decide +kernel
theorem ad_Md_gets_175 : decode prog_14_method_87_code 175 = .ok (.iastore, 1) := by decide +kernel
theorem ad_Md_gets_176 : decode prog_14_method_87_code 176 = .ok (.iconst 1, 1) := by decide +kernel
theorem ad_Md_gets_177 : decode prog_14_method_87_code 177 = .ok (.ireturn, 1) := by decide +kernel
theorem ad_Md_gets_178 : decode prog_14_method_87_code 178 = .ok (.aload_n 0, 1) := by decide +kernel
theorem ad_Md_gets_179 : decode prog_14_method_87_code 179 = .ok (.getfield 84, 3) := by decide +kernel
theorem ad_Md_gets_182 : decode prog_14_method_87_code 182 = .ok (.iload_n 2, 1) := by decide +kernel
theorem ad_Md_gets_183 : decode prog_14_method_87_code 183 = .ok (.dup2, 1) := by decide +kernel
theorem ad_Md_gets_184 : decode prog_14_method_87_code 184 = .ok (.iaload, 1) := by decide +kernel
theorem ad_Md_gets_185 : decode prog_14_method_87_code 185 = .ok (.iconst 1, 1) := by decide +kernel
theorem ad_Md_gets_186 : decode prog_14_method_87_code 186 = .ok (.iadd, 1) := by decide +kernel
theorem ad_Md_gets_187 : decode prog_14_method_87_code 187 = .ok (.iastore, 1) := by decide +kernel
theorem ad_Md_gets_188 : decode prog_14_method_87_code 188 = .ok (.aload_n 0, 1) := by decide +kernel
theorem ad_Md_gets_189 : decode prog_14_method_87_code 189 = .ok (.getfield 81, 3) := by decide +kernel
theorem ad_Md_gets_192 : decode prog_14_method_87_code 192 = .ok (.iload_n 3, 1) := by decide +kernel
theorem ad_Md_gets_193 : decode prog_14_method_87_code 193 = .ok (.iload_n 2, 1) := by decide +kernel
theorem ad_Md_gets_194 : decode prog_14_method_87_code 194 = .ok (.iastore, 1) := by decide +kernel
theorem ad_Md_gets_195 : decode prog_14_method_87_code 195 = .ok (.iinc 3 1, 3) := by decide +kernel
theorem ad_Md_gets_198 : decode prog_14_method_87_code 198 = .ok (.goto (-98), 3) := by decide +kernel
theorem ad_Md_gets_201 : decode prog_14_method_87_code 201 = .ok (.iinc 2 1, 3) := by decide +kernel
theorem ad_Md_gets_204 : decode prog_14_method_87_code 204 = .ok (.goto (-202), 3) := by decide +kernel
theorem ad_Md_gets_207 : decode prog_14_method_87_code 207 = .ok (.iconst 0, 1) := by decide +kernel
theorem ad_Md_gets_208 : decode prog_14_method_87_code 208 = .ok (.ireturn, 1) := by decide +kernel
theorem ad_Md_matched_0 : decode prog_14_method_88_code 0 = .ok (.iconst 0, 1) := by decide +kernel
theorem ad_Md_matched_1 : decode prog_14_method_88_code 1 = .ok (.istore_n 1, 1) := by decide +kernel
theorem ad_Md_matched_2 : decode prog_14_method_88_code 2 = .ok (.iload_n 1, 1) := by decide +kernel
theorem ad_Md_matched_3 : decode prog_14_method_88_code 3 = .ok (.bipush 8, 2) := by decide +kernel
theorem ad_Md_matched_5 : decode prog_14_method_88_code 5 = .ok (.if_icmp .ge 16, 3) := by decide +kernel
theorem ad_Md_matched_8 : decode prog_14_method_88_code 8 = .ok (.aload_n 0, 1) := by decide +kernel
theorem ad_Md_matched_9 : decode prog_14_method_88_code 9 = .ok (.getfield 84, 3) := by decide +kernel
theorem ad_Md_matched_12 : decode prog_14_method_88_code 12 = .ok (.iload_n 1, 1) := by decide +kernel
theorem ad_Md_matched_13 : decode prog_14_method_88_code 13 = .ok (.iconst 0, 1) := by decide +kernel
theorem ad_Md_matched_14 : decode prog_14_method_88_code 14 = .ok (.iastore, 1) := by decide +kernel
theorem ad_Md_matched_15 : decode prog_14_method_88_code 15 = .ok (.iinc 1 1, 3) := by decide +kernel
theorem ad_Md_matched_18 : decode prog_14_method_88_code 18 = .ok (.goto (-16), 3) := by decide +kernel
theorem ad_Md_matched_21 : decode prog_14_method_88_code 21 = .ok (.iconst 0, 1) := by decide +kernel
theorem ad_Md_matched_22 : decode prog_14_method_88_code 22 = .ok (.istore_n 1, 1) := by decide +kernel
theorem ad_Md_matched_23 : decode prog_14_method_88_code 23 = .ok (.iload_n 1, 1) := by decide +kernel
theorem ad_Md_matched_24 : decode prog_14_method_88_code 24 = .ok (.aload_n 0, 1) := by decide +kernel
theorem ad_Md_matched_25 : decode prog_14_method_88_code 25 = .ok (.getfield 13, 3) := by decide +kernel
theorem ad_Md_matched_28 : decode prog_14_method_88_code 28 = .ok (.iconst 2, 1) := by decide +kernel
theorem ad_Md_matched_29 : decode prog_14_method_88_code 29 = .ok (.iaload, 1) := by decide +kernel
theorem ad_Md_matched_30 : decode prog_14_method_88_code 30 = .ok (.if_icmp .ge 16, 3) := by decide +kernel
theorem ad_Md_matched_33 : decode prog_14_method_88_code 33 = .ok (.aload_n 0, 1) := by decide +kernel
theorem ad_Md_matched_34 : decode prog_14_method_88_code 34 = .ok (.getfield 81, 3) := by decide +kernel
theorem ad_Md_matched_37 : decode prog_14_method_88_code 37 = .ok (.iload_n 1, 1) := by decide +kernel
theorem ad_Md_matched_38 : decode prog_14_method_88_code 38 = .ok (.iconst (-1), 1) := by decide +kernel
theorem ad_Md_matched_39 : decode prog_14_method_88_code 39 = .ok (.iastore, 1) := by decide +kernel
theorem ad_Md_matched_40 : decode prog_14_method_88_code 40 = .ok (.iinc 1 1, 3) := by decide +kernel
theorem ad_Md_matched_43 : decode prog_14_method_88_code 43 = .ok (.goto (-20), 3) := by decide +kernel
theorem ad_Md_matched_46 : decode prog_14_method_88_code 46 = .ok (.iconst 0, 1) := by decide +kernel
theorem ad_Md_matched_47 : decode prog_14_method_88_code 47 = .ok (.istore_n 1, 1) := by decide +kernel
theorem ad_Md_matched_48 : decode prog_14_method_88_code 48 = .ok (.iconst 0, 1) := by decide +kernel
theorem ad_Md_matched_49 : decode prog_14_method_88_code 49 = .ok (.istore_n 2, 1) := by decide +kernel
theorem ad_Md_matched_50 : decode prog_14_method_88_code 50 = .ok (.iload_n 2, 1) := by decide +kernel
theorem ad_Md_matched_51 : decode prog_14_method_88_code 51 = .ok (.aload_n 0, 1) := by decide +kernel
theorem ad_Md_matched_52 : decode prog_14_method_88_code 52 = .ok (.getfield 13, 3) := by decide +kernel
theorem ad_Md_matched_55 : decode prog_14_method_88_code 55 = .ok (.iconst 2, 1) := by decide +kernel
theorem ad_Md_matched_56 : decode prog_14_method_88_code 56 = .ok (.iaload, 1) := by decide +kernel
theorem ad_Md_matched_57 : decode prog_14_method_88_code 57 = .ok (.if_icmp .ge 71, 3) := by decide +kernel
theorem ad_Md_matched_60 : decode prog_14_method_88_code 60 = .ok (.aload_n 0, 1) := by decide +kernel
theorem ad_Md_matched_61 : decode prog_14_method_88_code 61 = .ok (.getfield 87, 3) := by decide +kernel
theorem ad_Md_matched_64 : decode prog_14_method_88_code 64 = .ok (.iload_n 2, 1) := by decide +kernel
theorem ad_Md_matched_65 : decode prog_14_method_88_code 65 = .ok (.iaload, 1) := by decide +kernel
theorem ad_Md_matched_66 : decode prog_14_method_88_code 66 = .ok (.ifCond .ge 6, 3) := by decide +kernel
theorem ad_Md_matched_69 : decode prog_14_method_88_code 69 = .ok (.goto 53, 3) := by decide +kernel
theorem ad_Md_matched_72 : decode prog_14_method_88_code 72 = .ok (.aload_n 0, 1) := by decide +kernel
theorem ad_Md_matched_73 : decode prog_14_method_88_code 73 = .ok (.getfield 84, 3) := by decide +kernel
theorem ad_Md_matched_76 : decode prog_14_method_88_code 76 = .ok (.aload_n 0, 1) := by decide +kernel
theorem ad_Md_matched_77 : decode prog_14_method_88_code 77 = .ok (.getfield 87, 3) := by decide +kernel
theorem ad_Md_matched_80 : decode prog_14_method_88_code 80 = .ok (.iload_n 2, 1) := by decide +kernel
theorem ad_Md_matched_81 : decode prog_14_method_88_code 81 = .ok (.iaload, 1) := by decide +kernel
theorem ad_Md_matched_82 : decode prog_14_method_88_code 82 = .ok (.iaload, 1) := by decide +kernel
theorem ad_Md_matched_83 : decode prog_14_method_88_code 83 = .ok (.aload_n 0, 1) := by decide +kernel
theorem ad_Md_matched_84 : decode prog_14_method_88_code 84 = .ok (.getfield 400, 3) := by decide +kernel
theorem ad_Md_matched_87 : decode prog_14_method_88_code 87 = .ok (.if_icmp .ne 5, 3) := by decide +kernel
theorem ad_Md_matched_90 : decode prog_14_method_88_code 90 = .ok (.iconst (-1), 1) := by decide +kernel
theorem ad_Md_matched_91 : decode prog_14_method_88_code 91 = .ok (.ireturn, 1) := by decide +kernel
theorem ad_Md_matched_92 : decode prog_14_method_88_code 92 = .ok (.aload_n 0, 1) := by decide +kernel
theorem ad_Md_matched_93 : decode prog_14_method_88_code 93 = .ok (.getfield 84, 3) := by decide +kernel
theorem ad_Md_matched_96 : decode prog_14_method_88_code 96 = .ok (.aload_n 0, 1) := by decide +kernel
theorem ad_Md_matched_97 : decode prog_14_method_88_code 97 = .ok (.getfield 87, 3) := by decide +kernel
theorem ad_Md_matched_100 : decode prog_14_method_88_code 100 = .ok (.iload_n 2, 1) := by decide +kernel
theorem ad_Md_matched_101 : decode prog_14_method_88_code 101 = .ok (.iaload, 1) := by decide +kernel
theorem ad_Md_matched_102 : decode prog_14_method_88_code 102 = .ok (.dup2, 1) := by decide +kernel
theorem ad_Md_matched_103 : decode prog_14_method_88_code 103 = .ok (.iaload, 1) := by decide +kernel
theorem ad_Md_matched_104 : decode prog_14_method_88_code 104 = .ok (.iconst 1, 1) := by decide +kernel
theorem ad_Md_matched_105 : decode prog_14_method_88_code 105 = .ok (.iadd, 1) := by decide +kernel
theorem ad_Md_matched_106 : decode prog_14_method_88_code 106 = .ok (.iastore, 1) := by decide +kernel
theorem ad_Md_matched_107 : decode prog_14_method_88_code 107 = .ok (.aload_n 0, 1) := by decide +kernel
theorem ad_Md_matched_108 : decode prog_14_method_88_code 108 = .ok (.getfield 81, 3) := by decide +kernel
theorem ad_Md_matched_111 : decode prog_14_method_88_code 111 = .ok (.iload_n 2, 1) := by decide +kernel
theorem ad_Md_matched_112 : decode prog_14_method_88_code 112 = .ok (.aload_n 0, 1) := by decide +kernel
theorem ad_Md_matched_113 : decode prog_14_method_88_code 113 = .ok (.getfield 87, 3) := by decide +kernel
theorem ad_Md_matched_116 : decode prog_14_method_88_code 116 = .ok (.iload_n 2, 1) := by decide +kernel
theorem ad_Md_matched_117 : decode prog_14_method_88_code 117 = .ok (.iaload, 1) := by decide +kernel
theorem ad_Md_matched_118 : decode prog_14_method_88_code 118 = .ok (.iastore, 1) := by decide +kernel
theorem ad_Md_matched_119 : decode prog_14_method_88_code 119 = .ok (.iinc 1 1, 3) := by decide +kernel
theorem ad_Md_matched_122 : decode prog_14_method_88_code 122 = .ok (.iinc 2 1, 3) := by decide +kernel
theorem ad_Md_matched_125 : decode prog_14_method_88_code 125 = .ok (.goto (-75), 3) := by decide +kernel
theorem ad_Md_matched_128 : decode prog_14_method_88_code 128 = .ok (.iconst 0, 1) := by decide +kernel
theorem ad_Md_matched_129 : decode prog_14_method_88_code 129 = .ok (.istore_n 2, 1) := by decide +kernel
theorem ad_Md_matched_130 : decode prog_14_method_88_code 130 = .ok (.iload_n 2, 1) := by decide +kernel
theorem ad_Md_matched_131 : decode prog_14_method_88_code 131 = .ok (.aload_n 0, 1) := by decide +kernel
theorem ad_Md_matched_132 : decode prog_14_method_88_code 132 = .ok (.getfield 13, 3) := by decide +kernel
theorem ad_Md_matched_135 : decode prog_14_method_88_code 135 = .ok (.iconst 2, 1) := by decide +kernel
theorem ad_Md_matched_136 : decode prog_14_method_88_code 136 = .ok (.iaload, 1) := by decide +kernel
theorem ad_Md_matched_137 : decode prog_14_method_88_code 137 = .ok (.if_icmp .ge 39, 3) := by decide +kernel
theorem ad_Md_matched_140 : decode prog_14_method_88_code 140 = .ok (.aload_n 0, 1) := by decide +kernel
theorem ad_Md_matched_141 : decode prog_14_method_88_code 141 = .ok (.getfield 87, 3) := by decide +kernel
theorem ad_Md_matched_144 : decode prog_14_method_88_code 144 = .ok (.iload_n 2, 1) := by decide +kernel
theorem ad_Md_matched_145 : decode prog_14_method_88_code 145 = .ok (.iaload, 1) := by decide +kernel
theorem ad_Md_matched_146 : decode prog_14_method_88_code 146 = .ok (.bipush (-2), 2) := by decide +kernel
theorem ad_Md_matched_148 : decode prog_14_method_88_code 148 = .ok (.if_icmp .eq 6, 3) := by decide +kernel
theorem ad_Md_matched_151 : decode prog_14_method_88_code 151 = .ok (.goto 19, 3) := by decide +kernel
theorem ad_Md_matched_154 : decode prog_14_method_88_code 154 = .ok (.aload_n 0, 1) := by decide +kernel
theorem ad_Md_matched_155 : decode prog_14_method_88_code 155 = .ok (.iconst 0, 1) := by decide +kernel
theorem ad_Md_matched_156 : decode prog_14_method_88_code 156 = .ok (.putfield 397, 3) := by decide +kernel
theorem ad_Md_matched_159 : decode prog_14_method_88_code 159 = .ok (.aload_n 0, 1) := by decide +kernel
theorem ad_Md_matched_160 : decode prog_14_method_88_code 160 = .ok (.iload_n 2, 1) := by decide +kernel
theorem ad_Md_matched_161 : decode prog_14_method_88_code 161 = .ok (.invokevirtual 403, 3) := by decide +kernel
theorem ad_Md_matched_164 : decode prog_14_method_88_code 164 = .ok (.ifCond .eq 6, 3) := by decide +kernel
theorem ad_Md_matched_167 : decode prog_14_method_88_code 167 = .ok (.iinc 1 1, 3) := by decide +kernel
theorem ad_Md_matched_170 : decode prog_14_method_88_code 170 = .ok (.iinc 2 1, 3) := by decide +kernel
theorem ad_Md_matched_173 : decode prog_14_method_88_code 173 = .ok (.goto (-43), 3) := by decide +kernel
theorem ad_Md_matched_176 : decode prog_14_method_88_code 176 = .ok (.iload_n 1, 1) := by decide +kernel
theorem ad_Md_matched_177 : decode prog_14_method_88_code 177 = .ok (.ireturn, 1) := by decide +kernel
theorem ad_Md_left_0 : decode prog_14_method_89_code 0 = .ok (.aload_n 0, 1) := by decide +kernel
theorem ad_Md_left_1 : decode prog_14_method_89_code 1 = .ok (.iconst 0, 1) := by decide +kernel
theorem ad_Md_left_2 : decode prog_14_method_89_code 2 = .ok (.putfield 102, 3) := by decide +kernel
theorem ad_Md_left_5 : decode prog_14_method_89_code 5 = .ok (.aload_n 0, 1) := by decide +kernel
theorem ad_Md_left_6 : decode prog_14_method_89_code 6 = .ok (.invokevirtual 187, 3) := by decide +kernel
theorem ad_Md_left_9 : decode prog_14_method_89_code 9 = .ok (.iload_n 1, 1) := by decide +kernel
theorem ad_Md_left_10 : decode prog_14_method_89_code 10 = .ok (.iconst 0, 1) := by decide +kernel
theorem ad_Md_left_11 : decode prog_14_method_89_code 11 = .ok (.bipush 9, 2) := by decide +kernel
theorem ad_Md_left_13 : decode prog_14_method_89_code 13 = .ok (.invokestatic 174, 3) := by decide +kernel
theorem ad_Md_left_16 : decode prog_14_method_89_code 16 = .ok (.ifCond .ne 5, 3) := by decide +kernel
theorem ad_Md_left_19 : decode prog_14_method_89_code 19 = .ok (.iconst (-1), 1) := by decide +kernel
theorem ad_Md_left_20 : decode prog_14_method_89_code 20 = .ok (.ireturn, 1) := by decide +kernel
theorem ad_Md_left_21 : decode prog_14_method_89_code 21 = .ok (.aload_n 0, 1) := by decide +kernel
theorem ad_Md_left_22 : decode prog_14_method_89_code 22 = .ok (.iload_n 1, 1) := by decide +kernel
theorem ad_Md_left_23 : decode prog_14_method_89_code 23 = .ok (.putfield 400, 3) := by decide +kernel
theorem ad_Md_left_26 : decode prog_14_method_89_code 26 = .ok (.iconst 0, 1) := by decide +kernel
theorem ad_Md_left_27 : decode prog_14_method_89_code 27 = .ok (.istore_n 2, 1) := by decide +kernel
theorem ad_Md_left_28 : decode prog_14_method_89_code 28 = .ok (.iload_n 2, 1) := by decide +kernel
theorem ad_Md_left_29 : decode prog_14_method_89_code 29 = .ok (.bipush 48, 2) := by decide +kernel
theorem ad_Md_left_31 : decode prog_14_method_89_code 31 = .ok (.if_icmp .ge 17, 3) := by decide +kernel
theorem ad_Md_left_34 : decode prog_14_method_89_code 34 = .ok (.aload_n 0, 1) := by decide +kernel
theorem ad_Md_left_35 : decode prog_14_method_89_code 35 = .ok (.getfield 87, 3) := by decide +kernel
theorem ad_Md_left_38 : decode prog_14_method_89_code 38 = .ok (.iload_n 2, 1) := by decide +kernel
theorem ad_Md_left_39 : decode prog_14_method_89_code 39 = .ok (.bipush (-2), 2) := by decide +kernel
theorem ad_Md_left_41 : decode prog_14_method_89_code 41 = .ok (.iastore, 1) := by decide +kernel
theorem ad_Md_left_42 : decode prog_14_method_89_code 42 = .ok (.iinc 2 1, 3) := by decide +kernel
theorem ad_Md_left_45 : decode prog_14_method_89_code 45 = .ok (.goto (-17), 3) := by decide +kernel
theorem ad_Md_left_48 : decode prog_14_method_89_code 48 = .ok (.aload_n 0, 1) := by decide +kernel
theorem ad_Md_left_49 : decode prog_14_method_89_code 49 = .ok (.invokevirtual 406, 3) := by decide +kernel
theorem ad_Md_left_52 : decode prog_14_method_89_code 52 = .ok (.istore_n 2, 1) := by decide +kernel
theorem ad_Md_left_53 : decode prog_14_method_89_code 53 = .ok (.iconst 0, 1) := by decide +kernel
theorem ad_Md_left_54 : decode prog_14_method_89_code 54 = .ok (.istore_n 3, 1) := by decide +kernel
theorem ad_Md_left_55 : decode prog_14_method_89_code 55 = .ok (.iload_n 3, 1) := by decide +kernel
theorem ad_Md_left_56 : decode prog_14_method_89_code 56 = .ok (.aload_n 0, 1) := by decide +kernel
theorem ad_Md_left_57 : decode prog_14_method_89_code 57 = .ok (.getfield 13, 3) := by decide +kernel
theorem ad_Md_left_60 : decode prog_14_method_89_code 60 = .ok (.iconst 2, 1) := by decide +kernel
theorem ad_Md_left_61 : decode prog_14_method_89_code 61 = .ok (.iaload, 1) := by decide +kernel
theorem ad_Md_left_62 : decode prog_14_method_89_code 62 = .ok (.if_icmp .ge 85, 3) := by decide +kernel
theorem ad_Md_left_65 : decode prog_14_method_89_code 65 = .ok (.iconst 0, 1) := by decide +kernel
theorem ad_Md_left_66 : decode prog_14_method_89_code 66 = .ok (.istore 4, 2) := by decide +kernel
theorem ad_Md_left_68 : decode prog_14_method_89_code 68 = .ok (.iconst 0, 1) := by decide +kernel
theorem ad_Md_left_69 : decode prog_14_method_89_code 69 = .ok (.istore 5, 2) := by decide +kernel
theorem ad_Md_left_71 : decode prog_14_method_89_code 71 = .ok (.iload 4, 2) := by decide +kernel
theorem ad_Md_left_73 : decode prog_14_method_89_code 73 = .ok (.aload_n 0, 1) := by decide +kernel
theorem ad_Md_left_74 : decode prog_14_method_89_code 74 = .ok (.invokevirtual 201, 3) := by decide +kernel
theorem ad_Md_left_77 : decode prog_14_method_89_code 77 = .ok (.if_icmp .ge 52, 3) := by decide +kernel
theorem ad_Md_left_80 : decode prog_14_method_89_code 80 = .ok (.iload 5, 2) := by decide +kernel
theorem ad_Md_left_82 : decode prog_14_method_89_code 82 = .ok (.ifCond .ne 47, 3) := by decide +kernel
theorem ad_Md_left_85 : decode prog_14_method_89_code 85 = .ok (.aload_n 0, 1) := by decide +kernel
theorem ad_Md_left_86 : decode prog_14_method_89_code 86 = .ok (.getfield 87, 3) := by decide +kernel
theorem ad_Md_left_89 : decode prog_14_method_89_code 89 = .ok (.iload_n 3, 1) := by decide +kernel
theorem ad_Md_left_90 : decode prog_14_method_89_code 90 = .ok (.iload 4, 2) := by decide +kernel
theorem ad_Md_left_92 : decode prog_14_method_89_code 92 = .ok (.iastore, 1) := by decide +kernel
theorem ad_Md_left_93 : decode prog_14_method_89_code 93 = .ok (.aload_n 0, 1) := by decide +kernel
theorem ad_Md_left_94 : decode prog_14_method_89_code 94 = .ok (.iload 4, 2) := by decide +kernel
theorem ad_Md_left_96 : decode prog_14_method_89_code 96 = .ok (.iload_n 3, 1) := by decide +kernel
theorem ad_Md_left_97 : decode prog_14_method_89_code 97 = .ok (.invokevirtual 372, 3) := by decide +kernel
theorem ad_Md_left_100 : decode prog_14_method_89_code 100 = .ok (.ifCond .eq 15, 3) := by decide +kernel
theorem ad_Md_left_103 : decode prog_14_method_89_code 103 = .ok (.aload_n 0, 1) := by decide +kernel
theorem ad_Md_left_104 : decode prog_14_method_89_code 104 = .ok (.invokevirtual 406, 3) := by decide +kernel
theorem ad_Md_left_107 : decode prog_14_method_89_code 107 = .ok (.iload_n 2, 1) := by decide +kernel
theorem ad_Md_left_108 : decode prog_14_method_89_code 108 = .ok (.if_icmp .ne 7, 3) := by decide +kernel
theorem ad_Md_left_111 : decode prog_14_method_89_code 111 = .ok (.iconst 1, 1) := by decide +kernel
theorem ad_Md_left_112 : decode prog_14_method_89_code 112 = .ok (.goto 4, 3) := by decide +kernel
theorem ad_Md_left_115 : decode prog_14_method_89_code 115 = .ok (.iconst 0, 1) := by decide +kernel
theorem ad_Md_left_116 : decode prog_14_method_89_code 116 = .ok (.istore 5, 2) := by decide +kernel
theorem ad_Md_left_118 : decode prog_14_method_89_code 118 = .ok (.iload 5, 2) := by decide +kernel
theorem ad_Md_left_120 : decode prog_14_method_89_code 120 = .ok (.ifCond .ne (-49), 3) := by decide +kernel
theorem ad_Md_left_123 : decode prog_14_method_89_code 123 = .ok (.iinc 4 1, 3) := by decide +kernel
theorem ad_Md_left_126 : decode prog_14_method_89_code 126 = .ok (.goto (-55), 3) := by decide +kernel
theorem ad_Md_left_129 : decode prog_14_method_89_code 129 = .ok (.iload 5, 2) := by decide +kernel
theorem ad_Md_left_131 : decode prog_14_method_89_code 131 = .ok (.ifCond .ne 10, 3) := by decide +kernel
theorem ad_Md_left_134 : decode prog_14_method_89_code 134 = .ok (.aload_n 0, 1) := by decide +kernel
theorem ad_Md_left_135 : decode prog_14_method_89_code 135 = .ok (.getfield 87, 3) := by decide +kernel
theorem ad_Md_left_138 : decode prog_14_method_89_code 138 = .ok (.iload_n 3, 1) := by decide +kernel
theorem ad_Md_left_139 : decode prog_14_method_89_code 139 = .ok (.iconst (-1), 1) := by decide +kernel
theorem ad_Md_left_140 : decode prog_14_method_89_code 140 = .ok (.iastore, 1) := by decide +kernel
theorem ad_Md_left_141 : decode prog_14_method_89_code 141 = .ok (.iinc 3 1, 3) := by decide +kernel
theorem ad_Md_left_144 : decode prog_14_method_89_code 144 = .ok (.goto (-89), 3) := by decide +kernel
theorem ad_Md_left_147 : decode prog_14_method_89_code 147 = .ok (.aload_n 0, 1) := by decide +kernel
theorem ad_Md_left_148 : decode prog_14_method_89_code 148 = .ok (.aload_n 0, 1) := by decide +kernel
theorem ad_Md_left_149 : decode prog_14_method_89_code 149 = .ok (.getfield 13, 3) := by decide +kernel
theorem ad_Md_left_152 : decode prog_14_method_89_code 152 = .ok (.iconst 2, 1) := by decide +kernel
theorem ad_Md_left_153 : decode prog_14_method_89_code 153 = .ok (.iaload, 1) := by decide +kernel
theorem ad_Md_left_154 : decode prog_14_method_89_code 154 = .ok (.putfield 409, 3) := by decide +kernel
theorem ad_Md_left_157 : decode prog_14_method_89_code 157 = .ok (.iconst 0, 1) := by decide +kernel
theorem ad_Md_left_158 : decode prog_14_method_89_code 158 = .ok (.istore_n 3, 1) := by decide +kernel
theorem ad_Md_left_159 : decode prog_14_method_89_code 159 = .ok (.iload_n 3, 1) := by decide +kernel
theorem ad_Md_left_160 : decode prog_14_method_89_code 160 = .ok (.aload_n 0, 1) := by decide +kernel
theorem ad_Md_left_161 : decode prog_14_method_89_code 161 = .ok (.getfield 409, 3) := by decide +kernel
theorem ad_Md_left_164 : decode prog_14_method_89_code 164 = .ok (.if_icmp .ge 21, 3) := by decide +kernel
theorem ad_Md_left_167 : decode prog_14_method_89_code 167 = .ok (.aload_n 0, 1) := by decide +kernel
theorem ad_Md_left_168 : decode prog_14_method_89_code 168 = .ok (.getfield 90, 3) := by decide +kernel
theorem ad_Md_left_171 : decode prog_14_method_89_code 171 = .ok (.iload_n 3, 1) := by decide +kernel
theorem ad_Md_left_172 : decode prog_14_method_89_code 172 = .ok (.aload_n 0, 1) := by decide +kernel
theorem ad_Md_left_173 : decode prog_14_method_89_code 173 = .ok (.getfield 87, 3) := by decide +kernel
theorem ad_Md_left_176 : decode prog_14_method_89_code 176 = .ok (.iload_n 3, 1) := by decide +kernel
theorem ad_Md_left_177 : decode prog_14_method_89_code 177 = .ok (.iaload, 1) := by decide +kernel
theorem ad_Md_left_178 : decode prog_14_method_89_code 178 = .ok (.iastore, 1) := by decide +kernel
theorem ad_Md_left_179 : decode prog_14_method_89_code 179 = .ok (.iinc 3 1, 3) := by decide +kernel
theorem ad_Md_left_182 : decode prog_14_method_89_code 182 = .ok (.goto (-23), 3) := by decide +kernel
theorem ad_Md_left_185 : decode prog_14_method_89_code 185 = .ok (.iload_n 2, 1) := by decide +kernel
theorem ad_Md_left_186 : decode prog_14_method_89_code 186 = .ok (.ireturn, 1) := by decide +kernel
theorem ad_Md_leftBy_0 : decode prog_14_method_90_code 0 = .ok (.aload_n 0, 1) := by decide +kernel
theorem ad_Md_leftBy_1 : decode prog_14_method_90_code 1 = .ok (.iconst 0, 1) := by decide +kernel
theorem ad_Md_leftBy_2 : decode prog_14_method_90_code 2 = .ok (.putfield 102, 3) := by decide +kernel
theorem ad_Md_leftBy_5 : decode prog_14_method_90_code 5 = .ok (.iload_n 1, 1) := by decide +kernel
theorem ad_Md_leftBy_6 : decode prog_14_method_90_code 6 = .ok (.ifCond .lt 20, 3) := by decide +kernel
theorem ad_Md_leftBy_9 : decode prog_14_method_90_code 9 = .ok (.iload_n 1, 1) := by decide +kernel
theorem ad_Md_leftBy_10 : decode prog_14_method_90_code 10 = .ok (.aload_n 0, 1) := by decide +kernel
theorem ad_Md_leftBy_11 : decode prog_14_method_90_code 11 = .ok (.getfield 409, 3) := by decide +kernel
theorem ad_Md_leftBy_14 : decode prog_14_method_90_code 14 = .ok (.if_icmp .ge 12, 3) := by decide +kernel
theorem ad_Md_leftBy_17 : decode prog_14_method_90_code 17 = .ok (.aload_n 0, 1) := by decide +kernel
theorem ad_Md_leftBy_18 : decode prog_14_method_90_code 18 = .ok (.getfield 90, 3) := by decide +kernel
theorem ad_Md_leftBy_21 : decode prog_14_method_90_code 21 = .ok (.iload_n 1, 1) := by decide +kernel
theorem ad_Md_leftBy_22 : decode prog_14_method_90_code 22 = .ok (.iaload, 1) := by decide +kernel
theorem ad_Md_leftBy_23 : decode prog_14_method_90_code 23 = .ok (.goto 4, 3) := by decide +kernel
theorem ad_Md_leftBy_26 : decode prog_14_method_90_code 26 = .ok (.iconst (-1), 1) := by decide +kernel
theorem ad_Md_leftBy_27 : decode prog_14_method_90_code 27 = .ok (.ireturn, 1) := by decide +kernel
theorem ad_Md_think_0 : decode prog_14_method_91_code 0 = .ok (.aload_n 0, 1) := by decide +kernel
theorem ad_Md_think_1 : decode prog_14_method_91_code 1 = .ok (.iconst 0, 1) := by decide +kernel
theorem ad_Md_think_2 : decode prog_14_method_91_code 2 = .ok (.putfield 102, 3) := by decide +kernel
theorem ad_Md_think_5 : decode prog_14_method_91_code 5 = .ok (.aload_n 0, 1) := by decide +kernel
theorem ad_Md_think_6 : decode prog_14_method_91_code 6 = .ok (.invokevirtual 187, 3) := by decide +kernel
theorem ad_Md_think_9 : decode prog_14_method_91_code 9 = .ok (.aload_n 0, 1) := by decide +kernel
theorem ad_Md_think_10 : decode prog_14_method_91_code 10 = .ok (.iload_n 1, 1) := by decide +kernel
theorem ad_Md_think_11 : decode prog_14_method_91_code 11 = .ok (.invokevirtual 261, 3) := by decide +kernel
theorem ad_Md_think_14 : decode prog_14_method_91_code 14 = .ok (.ifCond .eq 11, 3) := by decide +kernel
theorem ad_Md_think_17 : decode prog_14_method_91_code 17 = .ok (.aload_n 0, 1) := by decide +kernel
theorem ad_Md_think_18 : decode prog_14_method_91_code 18 = .ok (.iload_n 2, 1) := by decide +kernel
theorem ad_Md_think_19 : decode prog_14_method_91_code 19 = .ok (.invokevirtual 251, 3) := by decide +kernel
theorem ad_Md_think_22 : decode prog_14_method_91_code 22 = .ok (.ifCond .ne 5, 3) := by decide +kernel
theorem ad_Md_think_25 : decode prog_14_method_91_code 25 = .ok (.iconst (-1), 1) := by decide +kernel
theorem ad_Md_think_26 : decode prog_14_method_91_code 26 = .ok (.ireturn, 1) := by decide +kernel
theorem ad_Md_think_27 : decode prog_14_method_91_code 27 = .ok (.iconst 0, 1) := by decide +kernel
theorem ad_Md_think_28 : decode prog_14_method_91_code 28 = .ok (.istore 5, 2) := by decide +kernel
theorem ad_Md_think_30 : decode prog_14_method_91_code 30 = .ok (.iconst (-1), 1) := by decide +kernel
theorem ad_Md_think_31 : decode prog_14_method_91_code 31 = .ok (.istore 6, 2) := by decide +kernel
theorem ad_Md_think_33 : decode prog_14_method_91_code 33 = .ok (.iconst 0, 1) := by decide +kernel
theorem ad_Md_think_34 : decode prog_14_method_91_code 34 = .ok (.istore 7, 2) := by decide +kernel
theorem ad_Md_think_36 : decode prog_14_method_91_code 36 = .ok (.iload 7, 2) := by decide +kernel
theorem ad_Md_think_38 : decode prog_14_method_91_code 38 = .ok (.aload_n 0, 1) := by decide +kernel
theorem ad_Md_think_39 : decode prog_14_method_91_code 39 = .ok (.invokevirtual 201, 3) := by decide +kernel
theorem ad_Md_think_42 : decode prog_14_method_91_code 42 = .ok (.if_icmp .ge 119, 3) := by decide +kernel
theorem ad_Md_think_45 : decode prog_14_method_91_code 45 = .ok (.aload_n 0, 1) := by decide +kernel
theorem ad_Md_think_46 : decode prog_14_method_91_code 46 = .ok (.getfield 93, 3) := by decide +kernel
theorem ad_Md_think_49 : decode prog_14_method_91_code 49 = .ok (.iload 7, 2) := by decide +kernel
theorem ad_Md_think_51 : decode prog_14_method_91_code 51 = .ok (.iload 7, 2) := by decide +kernel
theorem ad_Md_think_53 : decode prog_14_method_91_code 53 = .ok (.iload_n 1, 1) := by decide +kernel
theorem ad_Md_think_54 : decode prog_14_method_91_code 54 = .ok (.if_icmp .eq 23, 3) := by decide +kernel
theorem ad_Md_think_57 : decode prog_14_method_91_code 57 = .ok (.aload_n 0, 1) := by decide +kernel
theorem ad_Md_think_58 : decode prog_14_method_91_code 58 = .ok (.iload 7, 2) := by decide +kernel
theorem ad_Md_think_60 : decode prog_14_method_91_code 60 = .ok (.iload_n 2, 1) := by decide +kernel
theorem ad_Md_think_61 : decode prog_14_method_91_code 61 = .ok (.invokevirtual 257, 3) := by decide +kernel
theorem ad_Md_think_64 : decode prog_14_method_91_code 64 = .ok (.ifCond .eq 13, 3) := by decide +kernel
theorem ad_Md_think_67 : decode prog_14_method_91_code 67 = .ok (.iload 4, 2) := by decide +kernel
theorem ad_Md_think_69 : decode prog_14_method_91_code 69 = .ok (.iload 7, 2) := by decide +kernel
theorem ad_Md_think_71 : decode prog_14_method_91_code 71 = .ok (.invokestatic 224, 3) := by decide +kernel
theorem ad_Md_think_74 : decode prog_14_method_91_code 74 = .ok (.ifCond .eq 7, 3) := by decide +kernel
theorem ad_Md_think_77 : decode prog_14_method_91_code 77 = .ok (.iconst 0, 1) := by decide +kernel
theorem ad_Md_think_78 : decode prog_14_method_91_code 78 = .ok (.goto 27, 3) := by decide +kernel
theorem ad_Md_think_81 : decode prog_14_method_91_code 81 = .ok (.iconst 1, 1) := by decide +kernel
theorem ad_Md_think_82 : decode prog_14_method_91_code 82 = .ok (.aload_n 0, 1) := by decide +kernel
theorem ad_Md_think_83 : decode prog_14_method_91_code 83 = .ok (.iload 7, 2) := by decide +kernel
theorem ad_Md_think_85 : decode prog_14_method_91_code 85 = .ok (.iload_n 1, 1) := by decide +kernel
theorem ad_Md_think_86 : decode prog_14_method_91_code 86 = .ok (.invokevirtual 270, 3) := by decide +kernel
theorem ad_Md_think_89 : decode prog_14_method_91_code 89 = .ok (.iadd, 1) := by decide +kernel
theorem ad_Md_think_90 : decode prog_14_method_91_code 90 = .ok (.iload_n 3, 1) := by decide +kernel
theorem ad_Md_think_91 : decode prog_14_method_91_code 91 = .ok (.iload 7, 2) := by decide +kernel
theorem ad_Md_think_93 : decode prog_14_method_91_code 93 = .ok (.invokestatic 224, 3) := by decide +kernel
theorem ad_Md_think_96 : decode prog_14_method_91_code 96 = .ok (.ifCond .eq 7, 3) := by decide +kernel
theorem ad_Md_think_99 : decode prog_14_method_91_code 99 = .ok (.iconst 3, 1) := by decide +kernel
theorem ad_Md_think_100 : decode prog_14_method_91_code 100 = .ok (.goto 4, 3) := by decide +kernel
theorem ad_Md_think_103 : decode prog_14_method_91_code 103 = .ok (.iconst 1, 1) := by decide +kernel
theorem ad_Md_think_104 : decode prog_14_method_91_code 104 = .ok (.imul, 1) := by decide +kernel
theorem ad_Md_think_105 : decode prog_14_method_91_code 105 = .ok (.iastore, 1) := by decide +kernel
theorem ad_Md_think_106 : decode prog_14_method_91_code 106 = .ok (.iload 5, 2) := by decide +kernel
theorem ad_Md_think_108 : decode prog_14_method_91_code 108 = .ok (.aload_n 0, 1) := by decide +kernel
theorem ad_Md_think_109 : decode prog_14_method_91_code 109 = .ok (.getfield 93, 3) := by decide +kernel
theorem ad_Md_think_112 : decode prog_14_method_91_code 112 = .ok (.iload 7, 2) := by decide +kernel
theorem ad_Md_think_114 : decode prog_14_method_91_code 114 = .ok (.iaload, 1) := by decide +kernel
theorem ad_Md_think_115 : decode prog_14_method_91_code 115 = .ok (.iadd, 1) := by decide +kernel
theorem ad_Md_think_116 : decode prog_14_method_91_code 116 = .ok (.istore 5, 2) := by decide +kernel
theorem ad_Md_think_118 : decode prog_14_method_91_code 118 = .ok (.aload_n 0, 1) := by decide +kernel
theorem ad_Md_think_119 : decode prog_14_method_91_code 119 = .ok (.getfield 93, 3) := by decide +kernel
theorem ad_Md_think_122 : decode prog_14_method_91_code 122 = .ok (.iload 7, 2) := by decide +kernel
theorem ad_Md_think_124 : decode prog_14_method_91_code 124 = .ok (.iaload, 1) := by decide +kernel
theorem ad_Md_think_125 : decode prog_14_method_91_code 125 = .ok (.ifCond .le 30, 3) := by decide +kernel
theorem ad_Md_think_128 : decode prog_14_method_91_code 128 = .ok (.iload 6, 2) := by decide +kernel
theorem ad_Md_think_130 : decode prog_14_method_91_code 130 = .ok (.iconst (-1), 1) := by decide +kernel
theorem ad_Md_think_131 : decode prog_14_method_91_code 131 = .ok (.if_icmp .eq 20, 3) := by decide +kernel
theorem ad_Md_think_134 : decode prog_14_method_91_code 134 = .ok (.aload_n 0, 1) := by decide +kernel
theorem ad_Md_think_135 : decode prog_14_method_91_code 135 = .ok (.getfield 93, 3) := by decide +kernel
theorem ad_Md_think_138 : decode prog_14_method_91_code 138 = .ok (.iload 7, 2) := by decide +kernel
theorem ad_Md_think_140 : decode prog_14_method_91_code 140 = .ok (.iaload, 1) := by decide +kernel
theorem ad_Md_think_141 : decode prog_14_method_91_code 141 = .ok (.aload_n 0, 1) := by decide +kernel
theorem ad_Md_think_142 : decode prog_14_method_91_code 142 = .ok (.getfield 93, 3) := by decide +kernel
theorem ad_Md_think_145 : decode prog_14_method_91_code 145 = .ok (.iload 6, 2) := by decide +kernel
theorem ad_Md_think_147 : decode prog_14_method_91_code 147 = .ok (.iaload, 1) := by decide +kernel
theorem ad_Md_think_148 : decode prog_14_method_91_code 148 = .ok (.if_icmp .le 7, 3) := by decide +kernel
theorem ad_Md_think_151 : decode prog_14_method_91_code 151 = .ok (.iload 7, 2) := by decide +kernel
theorem ad_Md_think_153 : decode prog_14_method_91_code 153 = .ok (.istore 6, 2) := by decide +kernel
theorem ad_Md_think_155 : decode prog_14_method_91_code 155 = .ok (.iinc 7 1, 3) := by decide +kernel
theorem ad_Md_think_158 : decode prog_14_method_91_code 158 = .ok (.goto (-122), 3) := by decide +kernel
theorem ad_Md_think_161 : decode prog_14_method_91_code 161 = .ok (.iload 6, 2) := by decide +kernel
theorem ad_Md_think_163 : decode prog_14_method_91_code 163 = .ok (.iconst (-1), 1) := by decide +kernel
theorem ad_Md_think_164 : decode prog_14_method_91_code 164 = .ok (.if_icmp .ne 5, 3) := by decide +kernel
theorem ad_Md_think_167 : decode prog_14_method_91_code 167 = .ok (.iconst (-1), 1) := by decide +kernel
theorem ad_Md_think_168 : decode prog_14_method_91_code 168 = .ok (.ireturn, 1) := by decide +kernel
theorem ad_Md_think_169 : decode prog_14_method_91_code 169 = .ok (.aload_n 0, 1) := by decide +kernel
theorem ad_Md_think_170 : decode prog_14_method_91_code 170 = .ok (.iload 5, 2) := by decide +kernel
theorem ad_Md_think_172 : decode prog_14_method_91_code 172 = .ok (.putfield 412, 3) := by decide +kernel
theorem ad_Md_think_175 : decode prog_14_method_91_code 175 = .ok (.aload_n 0, 1) := by decide +kernel
theorem ad_Md_think_176 : decode prog_14_method_91_code 176 = .ok (.aload_n 0, 1) := by decide +kernel
theorem ad_Md_think_177 : decode prog_14_method_91_code 177 = .ok (.invokevirtual 201, 3) := by decide +kernel
theorem ad_Md_think_180 : decode prog_14_method_91_code 180 = .ok (.putfield 415, 3) := by decide +kernel
theorem ad_Md_think_183 : decode prog_14_method_91_code 183 = .ok (.iconst 0, 1) := by decide +kernel
theorem ad_Md_think_184 : decode prog_14_method_91_code 184 = .ok (.istore 7, 2) := by decide +kernel
theorem ad_Md_think_186 : decode prog_14_method_91_code 186 = .ok (.iload 7, 2) := by decide +kernel
theorem ad_Md_think_188 : decode prog_14_method_91_code 188 = .ok (.aload_n 0, 1) := by decide +kernel
theorem ad_Md_think_189 : decode prog_14_method_91_code 189 = .ok (.invokevirtual 201, 3) := by decide +kernel
theorem ad_Md_think_192 : decode prog_14_method_91_code 192 = .ok (.if_icmp .ge 23, 3) := by decide +kernel
theorem ad_Md_think_195 : decode prog_14_method_91_code 195 = .ok (.aload_n 0, 1) := by decide +kernel
theorem ad_Md_think_196 : decode prog_14_method_91_code 196 = .ok (.getfield 96, 3) := by decide +kernel
theorem ad_Md_think_199 : decode prog_14_method_91_code 199 = .ok (.iload 7, 2) := by decide +kernel
theorem ad_Md_think_201 : decode prog_14_method_91_code 201 = .ok (.aload_n 0, 1) := by decide +kernel
theorem ad_Md_think_202 : decode prog_14_method_91_code 202 = .ok (.getfield 93, 3) := by decide +kernel
theorem ad_Md_think_205 : decode prog_14_method_91_code 205 = .ok (.iload 7, 2) := by decide +kernel
theorem ad_Md_think_207 : decode prog_14_method_91_code 207 = .ok (.iaload, 1) := by decide +kernel
theorem ad_Md_think_208 : decode prog_14_method_91_code 208 = .ok (.iastore, 1) := by decide +kernel
theorem ad_Md_think_209 : decode prog_14_method_91_code 209 = .ok (.iinc 7 1, 3) := by decide +kernel
theorem ad_Md_think_212 : decode prog_14_method_91_code 212 = .ok (.goto (-26), 3) := by decide +kernel
theorem ad_Md_think_215 : decode prog_14_method_91_code 215 = .ok (.iload 6, 2) := by decide +kernel
theorem ad_Md_think_217 : decode prog_14_method_91_code 217 = .ok (.ireturn, 1) := by decide +kernel
theorem ad_Md_thinkOf_0 : decode prog_14_method_92_code 0 = .ok (.aload_n 0, 1) := by decide +kernel
theorem ad_Md_thinkOf_1 : decode prog_14_method_92_code 1 = .ok (.iconst 0, 1) := by decide +kernel
theorem ad_Md_thinkOf_2 : decode prog_14_method_92_code 2 = .ok (.putfield 102, 3) := by decide +kernel
theorem ad_Md_thinkOf_5 : decode prog_14_method_92_code 5 = .ok (.iload_n 1, 1) := by decide +kernel
theorem ad_Md_thinkOf_6 : decode prog_14_method_92_code 6 = .ok (.ifCond .lt 20, 3) := by decide +kernel
theorem ad_Md_thinkOf_9 : decode prog_14_method_92_code 9 = .ok (.iload_n 1, 1) := by decide +kernel
theorem ad_Md_thinkOf_10 : decode prog_14_method_92_code 10 = .ok (.aload_n 0, 1) := by decide +kernel
theorem ad_Md_thinkOf_11 : decode prog_14_method_92_code 11 = .ok (.getfield 415, 3) := by decide +kernel
theorem ad_Md_thinkOf_14 : decode prog_14_method_92_code 14 = .ok (.if_icmp .ge 12, 3) := by decide +kernel
theorem ad_Md_thinkOf_17 : decode prog_14_method_92_code 17 = .ok (.iload_n 2, 1) := by decide +kernel
theorem ad_Md_thinkOf_18 : decode prog_14_method_92_code 18 = .ok (.iconst 0, 1) := by decide +kernel
theorem ad_Md_thinkOf_19 : decode prog_14_method_92_code 19 = .ok (.iconst 1, 1) := by decide +kernel
theorem ad_Md_thinkOf_20 : decode prog_14_method_92_code 20 = .ok (.invokestatic 174, 3) := by decide +kernel
theorem ad_Md_thinkOf_23 : decode prog_14_method_92_code 23 = .ok (.ifCond .ne 5, 3) := by decide +kernel
theorem ad_Md_thinkOf_26 : decode prog_14_method_92_code 26 = .ok (.iconst (-1), 1) := by decide +kernel
theorem ad_Md_thinkOf_27 : decode prog_14_method_92_code 27 = .ok (.ireturn, 1) := by decide +kernel
theorem ad_Md_thinkOf_28 : decode prog_14_method_92_code 28 = .ok (.iload_n 2, 1) := by decide +kernel
theorem ad_Md_thinkOf_29 : decode prog_14_method_92_code 29 = .ok (.ifCond .ne 12, 3) := by decide +kernel
theorem ad_Md_thinkOf_32 : decode prog_14_method_92_code 32 = .ok (.aload_n 0, 1) := by decide +kernel
theorem ad_Md_thinkOf_33 : decode prog_14_method_92_code 33 = .ok (.getfield 96, 3) := by decide +kernel
theorem ad_Md_thinkOf_36 : decode prog_14_method_92_code 36 = .ok (.iload_n 1, 1) := by decide +kernel
theorem ad_Md_thinkOf_37 : decode prog_14_method_92_code 37 = .ok (.iaload, 1) := by decide +kernel
theorem ad_Md_thinkOf_38 : decode prog_14_method_92_code 38 = .ok (.goto 7, 3) := by decide +kernel
theorem ad_Md_thinkOf_41 : decode prog_14_method_92_code 41 = .ok (.aload_n 0, 1) := by decide +kernel
theorem ad_Md_thinkOf_42 : decode prog_14_method_92_code 42 = .ok (.getfield 412, 3) := by decide +kernel
theorem ad_Md_thinkOf_45 : decode prog_14_method_92_code 45 = .ok (.ireturn, 1) := by decide +kernel
theorem ad_Md_lays_0 : decode prog_14_method_93_code 0 = .ok (.iconst 4, 1) := by decide +kernel
theorem ad_Md_lays_1 : decode prog_14_method_93_code 1 = .ok (.aload_n 0, 1) := by decide +kernel
theorem ad_Md_lays_2 : decode prog_14_method_93_code 2 = .ok (.getfield 418, 3) := by decide +kernel
theorem ad_Md_lays_5 : decode prog_14_method_93_code 5 = .ok (.imul, 1) := by decide +kernel
theorem ad_Md_lays_6 : decode prog_14_method_93_code 6 = .ok (.istore 5, 2) := by decide +kernel
theorem ad_Md_lays_8 : decode prog_14_method_93_code 8 = .ok (.aload_n 0, 1) := by decide +kernel
theorem ad_Md_lays_9 : decode prog_14_method_93_code 9 = .ok (.getfield 99, 3) := by decide +kernel
theorem ad_Md_lays_12 : decode prog_14_method_93_code 12 = .ok (.iload 5, 2) := by decide +kernel
theorem ad_Md_lays_14 : decode prog_14_method_93_code 14 = .ok (.iload_n 1, 1) := by decide +kernel
theorem ad_Md_lays_15 : decode prog_14_method_93_code 15 = .ok (.iastore, 1) := by decide +kernel
theorem ad_Md_lays_16 : decode prog_14_method_93_code 16 = .ok (.aload_n 0, 1) := by decide +kernel
theorem ad_Md_lays_17 : decode prog_14_method_93_code 17 = .ok (.getfield 99, 3) := by decide +kernel
theorem ad_Md_lays_20 : decode prog_14_method_93_code 20 = .ok (.iload 5, 2) := by decide +kernel
theorem ad_Md_lays_22 : decode prog_14_method_93_code 22 = .ok (.iconst 1, 1) := by decide +kernel
theorem ad_Md_lays_23 : decode prog_14_method_93_code 23 = .ok (.iadd, 1) := by decide +kernel
theorem ad_Md_lays_24 : decode prog_14_method_93_code 24 = .ok (.iload_n 2, 1) := by decide +kernel
theorem ad_Md_lays_25 : decode prog_14_method_93_code 25 = .ok (.iastore, 1) := by decide +kernel
theorem ad_Md_lays_26 : decode prog_14_method_93_code 26 = .ok (.aload_n 0, 1) := by decide +kernel
theorem ad_Md_lays_27 : decode prog_14_method_93_code 27 = .ok (.getfield 99, 3) := by decide +kernel
theorem ad_Md_lays_30 : decode prog_14_method_93_code 30 = .ok (.iload 5, 2) := by decide +kernel
theorem ad_Md_lays_32 : decode prog_14_method_93_code 32 = .ok (.iconst 2, 1) := by decide +kernel
theorem ad_Md_lays_33 : decode prog_14_method_93_code 33 = .ok (.iadd, 1) := by decide +kernel
theorem ad_Md_lays_34 : decode prog_14_method_93_code 34 = .ok (.iload_n 3, 1) := by decide +kernel
theorem ad_Md_lays_35 : decode prog_14_method_93_code 35 = .ok (.iastore, 1) := by decide +kernel
theorem ad_Md_lays_36 : decode prog_14_method_93_code 36 = .ok (.aload_n 0, 1) := by decide +kernel
theorem ad_Md_lays_37 : decode prog_14_method_93_code 37 = .ok (.getfield 99, 3) := by decide +kernel
theorem ad_Md_lays_40 : decode prog_14_method_93_code 40 = .ok (.iload 5, 2) := by decide +kernel
theorem ad_Md_lays_42 : decode prog_14_method_93_code 42 = .ok (.iconst 3, 1) := by decide +kernel
theorem ad_Md_lays_43 : decode prog_14_method_93_code 43 = .ok (.iadd, 1) := by decide +kernel
theorem ad_Md_lays_44 : decode prog_14_method_93_code 44 = .ok (.iload 4, 2) := by decide +kernel
theorem ad_Md_lays_46 : decode prog_14_method_93_code 46 = .ok (.iastore, 1) := by decide +kernel
theorem ad_Md_lays_47 : decode prog_14_method_93_code 47 = .ok (.aload_n 0, 1) := by decide +kernel
theorem ad_Md_lays_48 : decode prog_14_method_93_code 48 = .ok (.dup, 1) := by decide +kernel
theorem ad_Md_lays_49 : decode prog_14_method_93_code 49 = .ok (.getfield 418, 3) := by decide +kernel
theorem ad_Md_lays_52 : decode prog_14_method_93_code 52 = .ok (.iconst 1, 1) := by decide +kernel
theorem ad_Md_lays_53 : decode prog_14_method_93_code 53 = .ok (.iadd, 1) := by decide +kernel
theorem ad_Md_lays_54 : decode prog_14_method_93_code 54 = .ok (.putfield 418, 3) := by decide +kernel
theorem ad_Md_lays_57 : decode prog_14_method_93_code 57 = .ok (.aload_n 0, 1) := by decide +kernel
theorem ad_Md_lays_58 : decode prog_14_method_93_code 58 = .ok (.getfield 418, 3) := by decide +kernel
theorem ad_Md_lays_61 : decode prog_14_method_93_code 61 = .ok (.iconst 1, 1) := by decide +kernel
theorem ad_Md_lays_62 : decode prog_14_method_93_code 62 = .ok (.isub, 1) := by decide +kernel
theorem ad_Md_lays_63 : decode prog_14_method_93_code 63 = .ok (.ireturn, 1) := by decide +kernel
theorem ad_Md_readOr_0 : decode prog_14_method_94_code 0 = .ok (.aload_n 0, 1) := by decide +kernel
theorem ad_Md_readOr_1 : decode prog_14_method_94_code 1 = .ok (.invokevirtual 421, 3) := by decide +kernel
theorem ad_Md_readOr_4 : decode prog_14_method_94_code 4 = .ok (.ifCond .ne 5, 3) := by decide +kernel
theorem ad_Md_readOr_7 : decode prog_14_method_94_code 7 = .ok (.iconst 0, 1) := by decide +kernel
theorem ad_Md_readOr_8 : decode prog_14_method_94_code 8 = .ok (.ireturn, 1) := by decide +kernel
theorem ad_Md_readOr_9 : decode prog_14_method_94_code 9 = .ok (.aload_n 0, 1) := by decide +kernel
theorem ad_Md_readOr_10 : decode prog_14_method_94_code 10 = .ok (.getfield 424, 3) := by decide +kernel
theorem ad_Md_readOr_13 : decode prog_14_method_94_code 13 = .ok (.istore_n 1, 1) := by decide +kernel
theorem ad_Md_readOr_14 : decode prog_14_method_94_code 14 = .ok (.aload_n 0, 1) := by decide +kernel
theorem ad_Md_readOr_15 : decode prog_14_method_94_code 15 = .ok (.bipush 14, 2) := by decide +kernel
theorem ad_Md_readOr_17 : decode prog_14_method_94_code 17 = .ok (.invokevirtual 218, 3) := by decide +kernel
theorem ad_Md_readOr_20 : decode prog_14_method_94_code 20 = .ok (.ifCond .eq 31, 3) := by decide +kernel
theorem ad_Md_readOr_23 : decode prog_14_method_94_code 23 = .ok (.aload_n 0, 1) := by decide +kernel
theorem ad_Md_readOr_24 : decode prog_14_method_94_code 24 = .ok (.invokevirtual 181, 3) := by decide +kernel
theorem ad_Md_readOr_27 : decode prog_14_method_94_code 27 = .ok (.aload_n 0, 1) := by decide +kernel
theorem ad_Md_readOr_28 : decode prog_14_method_94_code 28 = .ok (.invokevirtual 421, 3) := by decide +kernel
theorem ad_Md_readOr_31 : decode prog_14_method_94_code 31 = .ok (.ifCond .ne 5, 3) := by decide +kernel
theorem ad_Md_readOr_34 : decode prog_14_method_94_code 34 = .ok (.iconst 0, 1) := by decide +kernel
theorem ad_Md_readOr_35 : decode prog_14_method_94_code 35 = .ok (.ireturn, 1) := by decide +kernel
theorem ad_Md_readOr_36 : decode prog_14_method_94_code 36 = .ok (.aload_n 0, 1) := by decide +kernel
theorem ad_Md_readOr_37 : decode prog_14_method_94_code 37 = .ok (.iconst 3, 1) := by decide +kernel
theorem ad_Md_readOr_38 : decode prog_14_method_94_code 38 = .ok (.iload_n 1, 1) := by decide +kernel
theorem ad_Md_readOr_39 : decode prog_14_method_94_code 39 = .ok (.aload_n 0, 1) := by decide +kernel
theorem ad_Md_readOr_40 : decode prog_14_method_94_code 40 = .ok (.getfield 424, 3) := by decide +kernel
theorem ad_Md_readOr_43 : decode prog_14_method_94_code 43 = .ok (.iconst 0, 1) := by decide +kernel
theorem ad_Md_readOr_44 : decode prog_14_method_94_code 44 = .ok (.invokevirtual 427, 3) := by decide +kernel
theorem ad_Md_readOr_47 : decode prog_14_method_94_code 47 = .ok (.istore_n 1, 1) := by decide +kernel
theorem ad_Md_readOr_48 : decode prog_14_method_94_code 48 = .ok (.goto (-34), 3) := by decide +kernel
theorem ad_Md_readOr_51 : decode prog_14_method_94_code 51 = .ok (.aload_n 0, 1) := by decide +kernel
theorem ad_Md_readOr_52 : decode prog_14_method_94_code 52 = .ok (.iload_n 1, 1) := by decide +kernel
theorem ad_Md_readOr_53 : decode prog_14_method_94_code 53 = .ok (.putfield 424, 3) := by decide +kernel
theorem ad_Md_readOr_56 : decode prog_14_method_94_code 56 = .ok (.iconst 1, 1) := by decide +kernel
theorem ad_Md_readOr_57 : decode prog_14_method_94_code 57 = .ok (.ireturn, 1) := by decide +kernel
theorem ad_Md_readAnd_0 : decode prog_14_method_95_code 0 = .ok (.aload_n 0, 1) := by decide +kernel
theorem ad_Md_readAnd_1 : decode prog_14_method_95_code 1 = .ok (.invokevirtual 430, 3) := by decide +kernel
theorem ad_Md_readAnd_4 : decode prog_14_method_95_code 4 = .ok (.ifCond .ne 5, 3) := by decide +kernel
theorem ad_Md_readAnd_7 : decode prog_14_method_95_code 7 = .ok (.iconst 0, 1) := by decide +kernel
theorem ad_Md_readAnd_8 : decode prog_14_method_95_code 8 = .ok (.ireturn, 1) := by decide +kernel
theorem ad_Md_readAnd_9 : decode prog_14_method_95_code 9 = .ok (.aload_n 0, 1) := by decide +kernel
theorem ad_Md_readAnd_10 : decode prog_14_method_95_code 10 = .ok (.getfield 424, 3) := by decide +kernel
theorem ad_Md_readAnd_13 : decode prog_14_method_95_code 13 = .ok (.istore_n 1, 1) := by decide +kernel
theorem ad_Md_readAnd_14 : decode prog_14_method_95_code 14 = .ok (.aload_n 0, 1) := by decide +kernel
theorem ad_Md_readAnd_15 : decode prog_14_method_95_code 15 = .ok (.bipush 15, 2) := by decide +kernel
theorem ad_Md_readAnd_17 : decode prog_14_method_95_code 17 = .ok (.invokevirtual 218, 3) := by decide +kernel
theorem ad_Md_readAnd_20 : decode prog_14_method_95_code 20 = .ok (.ifCond .eq 31, 3) := by decide +kernel
theorem ad_Md_readAnd_23 : decode prog_14_method_95_code 23 = .ok (.aload_n 0, 1) := by decide +kernel
theorem ad_Md_readAnd_24 : decode prog_14_method_95_code 24 = .ok (.invokevirtual 181, 3) := by decide +kernel
theorem ad_Md_readAnd_27 : decode prog_14_method_95_code 27 = .ok (.aload_n 0, 1) := by decide +kernel
theorem ad_Md_readAnd_28 : decode prog_14_method_95_code 28 = .ok (.invokevirtual 430, 3) := by decide +kernel
theorem ad_Md_readAnd_31 : decode prog_14_method_95_code 31 = .ok (.ifCond .ne 5, 3) := by decide +kernel
theorem ad_Md_readAnd_34 : decode prog_14_method_95_code 34 = .ok (.iconst 0, 1) := by decide +kernel
theorem ad_Md_readAnd_35 : decode prog_14_method_95_code 35 = .ok (.ireturn, 1) := by decide +kernel
theorem ad_Md_readAnd_36 : decode prog_14_method_95_code 36 = .ok (.aload_n 0, 1) := by decide +kernel
theorem ad_Md_readAnd_37 : decode prog_14_method_95_code 37 = .ok (.iconst 2, 1) := by decide +kernel
theorem ad_Md_readAnd_38 : decode prog_14_method_95_code 38 = .ok (.iload_n 1, 1) := by decide +kernel
theorem ad_Md_readAnd_39 : decode prog_14_method_95_code 39 = .ok (.aload_n 0, 1) := by decide +kernel
theorem ad_Md_readAnd_40 : decode prog_14_method_95_code 40 = .ok (.getfield 424, 3) := by decide +kernel
theorem ad_Md_readAnd_43 : decode prog_14_method_95_code 43 = .ok (.iconst 0, 1) := by decide +kernel
theorem ad_Md_readAnd_44 : decode prog_14_method_95_code 44 = .ok (.invokevirtual 427, 3) := by decide +kernel
theorem ad_Md_readAnd_47 : decode prog_14_method_95_code 47 = .ok (.istore_n 1, 1) := by decide +kernel
theorem ad_Md_readAnd_48 : decode prog_14_method_95_code 48 = .ok (.goto (-34), 3) := by decide +kernel
theorem ad_Md_readAnd_51 : decode prog_14_method_95_code 51 = .ok (.aload_n 0, 1) := by decide +kernel
theorem ad_Md_readAnd_52 : decode prog_14_method_95_code 52 = .ok (.iload_n 1, 1) := by decide +kernel
theorem ad_Md_readAnd_53 : decode prog_14_method_95_code 53 = .ok (.putfield 424, 3) := by decide +kernel
theorem ad_Md_readAnd_56 : decode prog_14_method_95_code 56 = .ok (.iconst 1, 1) := by decide +kernel
theorem ad_Md_readAnd_57 : decode prog_14_method_95_code 57 = .ok (.ireturn, 1) := by decide +kernel
theorem ad_Md_readOne_0 : decode prog_14_method_96_code 0 = .ok (.aload_n 0, 1) := by decide +kernel
theorem ad_Md_readOne_1 : decode prog_14_method_96_code 1 = .ok (.bipush 40, 2) := by decide +kernel
theorem ad_Md_readOne_3 : decode prog_14_method_96_code 3 = .ok (.invokevirtual 184, 3) := by decide +kernel
theorem ad_Md_readOne_6 : decode prog_14_method_96_code 6 = .ok (.istore_n 1, 1) := by decide +kernel
theorem ad_Md_readOne_7 : decode prog_14_method_96_code 7 = .ok (.bipush 16, 2) := by decide +kernel
theorem ad_Md_readOne_9 : decode prog_14_method_96_code 9 = .ok (.istore_n 2, 1) := by decide +kernel
theorem ad_Md_readOne_10 : decode prog_14_method_96_code 10 = .ok (.iload_n 2, 1) := by decide +kernel
theorem ad_Md_readOne_11 : decode prog_14_method_96_code 11 = .ok (.bipush 23, 2) := by decide +kernel
theorem ad_Md_readOne_13 : decode prog_14_method_96_code 13 = .ok (.if_icmp .gt 17, 3) := by decide +kernel
theorem ad_Md_readOne_16 : decode prog_14_method_96_code 16 = .ok (.aload_n 0, 1) := by decide +kernel
theorem ad_Md_readOne_17 : decode prog_14_method_96_code 17 = .ok (.iload_n 2, 1) := by decide +kernel
theorem ad_Md_readOne_18 : decode prog_14_method_96_code 18 = .ok (.invokevirtual 218, 3) := by decide +kernel
theorem ad_Md_readOne_21 : decode prog_14_method_96_code 21 = .ok (.ifCond .ne 9, 3) := by decide +kernel
theorem ad_Md_readOne_24 : decode prog_14_method_96_code 24 = .ok (.iinc 2 1, 3) := by decide +kernel
theorem ad_Md_readOne_27 : decode prog_14_method_96_code 27 = .ok (.goto (-17), 3) := by decide +kernel
theorem ad_Md_readOne_30 : decode prog_14_method_96_code 30 = .ok (.iload_n 1, 1) := by decide +kernel
theorem ad_Md_readOne_31 : decode prog_14_method_96_code 31 = .ok (.ifCond .ne 15, 3) := by decide +kernel
theorem ad_Md_readOne_34 : decode prog_14_method_96_code 34 = .ok (.iload_n 2, 1) := by decide +kernel
theorem ad_Md_readOne_35 : decode prog_14_method_96_code 35 = .ok (.bipush 23, 2) := by decide +kernel
theorem ad_Md_readOne_37 : decode prog_14_method_96_code 37 = .ok (.if_icmp .le 9, 3) := by decide +kernel
theorem ad_Md_readOne_40 : decode prog_14_method_96_code 40 = .ok (.aload_n 0, 1) := by decide +kernel
theorem ad_Md_readOne_41 : decode prog_14_method_96_code 41 = .ok (.iconst 1, 1) := by decide +kernel
theorem ad_Md_readOne_42 : decode prog_14_method_96_code 42 = .ok (.invokevirtual 171, 3) := by decide +kernel
theorem ad_Md_readOne_45 : decode prog_14_method_96_code 45 = .ok (.ireturn, 1) := by decide +kernel
theorem ad_Md_readOne_46 : decode prog_14_method_96_code 46 = .ok (.aload_n 0, 1) := by decide +kernel
theorem ad_Md_readOne_47 : decode prog_14_method_96_code 47 = .ok (.getfield 433, 3) := by decide +kernel
theorem ad_Md_readOne_50 : decode prog_14_method_96_code 50 = .ok (.bipush 20, 2) := by decide +kernel
theorem ad_Md_readOne_52 : decode prog_14_method_96_code 52 = .ok (.if_icmp .eq 12, 3) := by decide +kernel
theorem ad_Md_readOne_55 : decode prog_14_method_96_code 55 = .ok (.aload_n 0, 1) := by decide +kernel
theorem ad_Md_readOne_56 : decode prog_14_method_96_code 56 = .ok (.getfield 436, 3) := by decide +kernel
theorem ad_Md_readOne_59 : decode prog_14_method_96_code 59 = .ok (.bipush 8, 2) := by decide +kernel
theorem ad_Md_readOne_61 : decode prog_14_method_96_code 61 = .ok (.if_icmp .ne 9, 3) := by decide +kernel
theorem ad_Md_readOne_64 : decode prog_14_method_96_code 64 = .ok (.aload_n 0, 1) := by decide +kernel
theorem ad_Md_readOne_65 : decode prog_14_method_96_code 65 = .ok (.iconst 4, 1) := by decide +kernel
theorem ad_Md_readOne_66 : decode prog_14_method_96_code 66 = .ok (.invokevirtual 171, 3) := by decide +kernel
theorem ad_Md_readOne_69 : decode prog_14_method_96_code 69 = .ok (.ireturn, 1) := by decide +kernel
theorem ad_Md_readOne_70 : decode prog_14_method_96_code 70 = .ok (.aload_n 0, 1) := by decide +kernel
theorem ad_Md_readOne_71 : decode prog_14_method_96_code 71 = .ok (.dup, 1) := by decide +kernel
theorem ad_Md_readOne_72 : decode prog_14_method_96_code 72 = .ok (.getfield 433, 3) := by decide +kernel
theorem ad_Md_readOne_75 : decode prog_14_method_96_code 75 = .ok (.iconst 1, 1) := by decide +kernel
theorem ad_Md_readOne_76 : decode prog_14_method_96_code 76 = .ok (.iadd, 1) := by decide +kernel
theorem ad_Md_readOne_77 : decode prog_14_method_96_code 77 = .ok (.putfield 433, 3) := by decide +kernel
theorem ad_Md_readOne_80 : decode prog_14_method_96_code 80 = .ok (.aload_n 0, 1) := by decide +kernel
theorem ad_Md_readOne_81 : decode prog_14_method_96_code 81 = .ok (.dup, 1) := by decide +kernel
theorem ad_Md_readOne_82 : decode prog_14_method_96_code 82 = .ok (.getfield 436, 3) := by decide +kernel
theorem ad_Md_readOne_85 : decode prog_14_method_96_code 85 = .ok (.iconst 1, 1) := by decide +kernel
theorem ad_Md_readOne_86 : decode prog_14_method_96_code 86 = .ok (.iadd, 1) := by decide +kernel
theorem ad_Md_readOne_87 : decode prog_14_method_96_code 87 = .ok (.putfield 436, 3) := by decide +kernel
theorem ad_Md_readOne_90 : decode prog_14_method_96_code 90 = .ok (.aload_n 0, 1) := by decide +kernel
theorem ad_Md_readOne_91 : decode prog_14_method_96_code 91 = .ok (.invokevirtual 181, 3) := by decide +kernel
theorem ad_Md_readOne_94 : decode prog_14_method_96_code 94 = .ok (.iconst 1, 1) := by decide +kernel
theorem ad_Md_readOne_95 : decode prog_14_method_96_code 95 = .ok (.istore_n 3, 1) := by decide +kernel
theorem ad_Md_readOne_96 : decode prog_14_method_96_code 96 = .ok (.iload_n 1, 1) := by decide +kernel
theorem ad_Md_readOne_97 : decode prog_14_method_96_code 97 = .ok (.ifCond .eq 11, 3) := by decide +kernel
theorem ad_Md_readOne_100 : decode prog_14_method_96_code 100 = .ok (.aload_n 0, 1) := by decide +kernel
theorem ad_Md_readOne_101 : decode prog_14_method_96_code 101 = .ok (.invokevirtual 439, 3) := by decide +kernel
theorem ad_Md_readOne_104 : decode prog_14_method_96_code 104 = .ok (.istore_n 3, 1) := by decide +kernel
theorem ad_Md_readOne_105 : decode prog_14_method_96_code 105 = .ok (.goto 54, 3) := by decide +kernel
theorem ad_Md_readOne_108 : decode prog_14_method_96_code 108 = .ok (.iload_n 2, 1) := by decide +kernel
theorem ad_Md_readOne_109 : decode prog_14_method_96_code 109 = .ok (.bipush 16, 2) := by decide +kernel
theorem ad_Md_readOne_111 : decode prog_14_method_96_code 111 = .ok (.if_icmp .ne 11, 3) := by decide +kernel
theorem ad_Md_readOne_114 : decode prog_14_method_96_code 114 = .ok (.aload_n 0, 1) := by decide +kernel
theorem ad_Md_readOne_115 : decode prog_14_method_96_code 115 = .ok (.invokevirtual 442, 3) := by decide +kernel
theorem ad_Md_readOne_118 : decode prog_14_method_96_code 118 = .ok (.istore_n 3, 1) := by decide +kernel
theorem ad_Md_readOne_119 : decode prog_14_method_96_code 119 = .ok (.goto 40, 3) := by decide +kernel
theorem ad_Md_readOne_122 : decode prog_14_method_96_code 122 = .ok (.iload_n 2, 1) := by decide +kernel
theorem ad_Md_readOne_123 : decode prog_14_method_96_code 123 = .ok (.bipush 19, 2) := by decide +kernel
theorem ad_Md_readOne_125 : decode prog_14_method_96_code 125 = .ok (.if_icmp .ge 28, 3) := by decide +kernel
theorem ad_Md_readOne_128 : decode prog_14_method_96_code 128 = .ok (.aload_n 0, 1) := by decide +kernel
theorem ad_Md_readOne_129 : decode prog_14_method_96_code 129 = .ok (.aload_n 0, 1) := by decide +kernel
theorem ad_Md_readOne_130 : decode prog_14_method_96_code 130 = .ok (.iload_n 2, 1) := by decide +kernel
theorem ad_Md_readOne_131 : decode prog_14_method_96_code 131 = .ok (.bipush 17, 2) := by decide +kernel
theorem ad_Md_readOne_133 : decode prog_14_method_96_code 133 = .ok (.if_icmp .ne 7, 3) := by decide +kernel
theorem ad_Md_readOne_136 : decode prog_14_method_96_code 136 = .ok (.iconst 4, 1) := by decide +kernel
theorem ad_Md_readOne_137 : decode prog_14_method_96_code 137 = .ok (.goto 4, 3) := by decide +kernel
theorem ad_Md_readOne_140 : decode prog_14_method_96_code 140 = .ok (.iconst 5, 1) := by decide +kernel
theorem ad_Md_readOne_141 : decode prog_14_method_96_code 141 = .ok (.iconst 0, 1) := by decide +kernel
theorem ad_Md_readOne_142 : decode prog_14_method_96_code 142 = .ok (.iconst 0, 1) := by decide +kernel
theorem ad_Md_readOne_143 : decode prog_14_method_96_code 143 = .ok (.iconst 0, 1) := by decide +kernel
theorem ad_Md_readOne_144 : decode prog_14_method_96_code 144 = .ok (.invokevirtual 427, 3) := by decide +kernel
theorem ad_Md_readOne_147 : decode prog_14_method_96_code 147 = .ok (.putfield 424, 3) := by decide +kernel
theorem ad_Md_readOne_150 : decode prog_14_method_96_code 150 = .ok (.goto 9, 3) := by decide +kernel
theorem ad_Md_readOne_153 : decode prog_14_method_96_code 153 = .ok (.aload_n 0, 1) := by decide +kernel
theorem ad_Md_readOne_154 : decode prog_14_method_96_code 154 = .ok (.iload_n 2, 1) := by decide +kernel
theorem ad_Md_readOne_155 : decode prog_14_method_96_code 155 = .ok (.invokevirtual 445, 3) := by decide +kernel
theorem ad_Md_readOne_158 : decode prog_14_method_96_code 158 = .ok (.istore_n 3, 1) := by decide +kernel
theorem ad_Md_readOne_159 : decode prog_14_method_96_code 159 = .ok (.aload_n 0, 1) := by decide +kernel
theorem ad_Md_readOne_160 : decode prog_14_method_96_code 160 = .ok (.dup, 1) := by decide +kernel
theorem ad_Md_readOne_161 : decode prog_14_method_96_code 161 = .ok (.getfield 436, 3) := by decide +kernel
theorem ad_Md_readOne_164 : decode prog_14_method_96_code 164 = .ok (.iconst 1, 1) := by decide +kernel
theorem ad_Md_readOne_165 : decode prog_14_method_96_code 165 = .ok (.isub, 1) := by decide +kernel
theorem ad_Md_readOne_166 : decode prog_14_method_96_code 166 = .ok (.putfield 436, 3) := by decide +kernel
theorem ad_Md_readOne_169 : decode prog_14_method_96_code 169 = .ok (.iload_n 3, 1) := by decide +kernel
theorem ad_Md_readOne_170 : decode prog_14_method_96_code 170 = .ok (.ireturn, 1) := by decide +kernel
theorem ad_Md_readNot_0 : decode prog_14_method_97_code 0 = .ok (.aload_n 0, 1) := by decide +kernel
theorem ad_Md_readNot_1 : decode prog_14_method_97_code 1 = .ok (.invokevirtual 430, 3) := by decide +kernel
theorem ad_Md_readNot_4 : decode prog_14_method_97_code 4 = .ok (.ifCond .ne 5, 3) := by decide +kernel
theorem ad_Md_readNot_7 : decode prog_14_method_97_code 7 = .ok (.iconst 0, 1) := by decide +kernel
theorem ad_Md_readNot_8 : decode prog_14_method_97_code 8 = .ok (.ireturn, 1) := by decide +kernel
theorem ad_Md_readNot_9 : decode prog_14_method_97_code 9 = .ok (.aload_n 0, 1) := by decide +kernel
theorem ad_Md_readNot_10 : decode prog_14_method_97_code 10 = .ok (.aload_n 0, 1) := by decide +kernel
theorem ad_Md_readNot_11 : decode prog_14_method_97_code 11 = .ok (.iconst 1, 1) := by decide +kernel
theorem ad_Md_readNot_12 : decode prog_14_method_97_code 12 = .ok (.aload_n 0, 1) := by decide +kernel
theorem ad_Md_readNot_13 : decode prog_14_method_97_code 13 = .ok (.getfield 424, 3) := by decide +kernel
theorem ad_Md_readNot_16 : decode prog_14_method_97_code 16 = .ok (.iconst 0, 1) := by decide +kernel
theorem ad_Md_readNot_17 : decode prog_14_method_97_code 17 = .ok (.iconst 0, 1) := by decide +kernel
theorem ad_Md_readNot_18 : decode prog_14_method_97_code 18 = .ok (.invokevirtual 427, 3) := by decide +kernel
theorem ad_Md_readNot_21 : decode prog_14_method_97_code 21 = .ok (.putfield 424, 3) := by decide +kernel
theorem ad_Md_readNot_24 : decode prog_14_method_97_code 24 = .ok (.iconst 1, 1) := by decide +kernel
theorem ad_Md_readNot_25 : decode prog_14_method_97_code 25 = .ok (.ireturn, 1) := by decide +kernel
theorem ad_Md_readBracket_0 : decode prog_14_method_98_code 0 = .ok (.aload_n 0, 1) := by decide +kernel
theorem ad_Md_readBracket_1 : decode prog_14_method_98_code 1 = .ok (.invokevirtual 448, 3) := by decide +kernel
theorem ad_Md_readBracket_4 : decode prog_14_method_98_code 4 = .ok (.ifCond .ne 5, 3) := by decide +kernel
theorem ad_Md_readBracket_7 : decode prog_14_method_98_code 7 = .ok (.iconst 0, 1) := by decide +kernel
theorem ad_Md_readBracket_8 : decode prog_14_method_98_code 8 = .ok (.ireturn, 1) := by decide +kernel
theorem ad_Md_readBracket_9 : decode prog_14_method_98_code 9 = .ok (.aload_n 0, 1) := by decide +kernel
theorem ad_Md_readBracket_10 : decode prog_14_method_98_code 10 = .ok (.bipush 41, 2) := by decide +kernel
theorem ad_Md_readBracket_12 : decode prog_14_method_98_code 12 = .ok (.invokevirtual 184, 3) := by decide +kernel
theorem ad_Md_readBracket_15 : decode prog_14_method_98_code 15 = .ok (.ifCond .ne 9, 3) := by decide +kernel
theorem ad_Md_readBracket_18 : decode prog_14_method_98_code 18 = .ok (.aload_n 0, 1) := by decide +kernel
theorem ad_Md_readBracket_19 : decode prog_14_method_98_code 19 = .ok (.iconst 1, 1) := by decide +kernel
theorem ad_Md_readBracket_20 : decode prog_14_method_98_code 20 = .ok (.invokevirtual 171, 3) := by decide +kernel
theorem ad_Md_readBracket_23 : decode prog_14_method_98_code 23 = .ok (.ireturn, 1) := by decide +kernel
theorem ad_Md_readBracket_24 : decode prog_14_method_98_code 24 = .ok (.aload_n 0, 1) := by decide +kernel
theorem ad_Md_readBracket_25 : decode prog_14_method_98_code 25 = .ok (.invokevirtual 181, 3) := by decide +kernel
theorem ad_Md_readBracket_28 : decode prog_14_method_98_code 28 = .ok (.iconst 1, 1) := by decide +kernel
theorem ad_Md_readBracket_29 : decode prog_14_method_98_code 29 = .ok (.ireturn, 1) := by decide +kernel
theorem ad_Md_readCompare_0 : decode prog_14_method_99_code 0 = .ok (.aload_n 0, 1) := by decide +kernel
theorem ad_Md_readCompare_1 : decode prog_14_method_99_code 1 = .ok (.bipush 60, 2) := by decide +kernel
theorem ad_Md_readCompare_3 : decode prog_14_method_99_code 3 = .ok (.invokevirtual 184, 3) := by decide +kernel
theorem ad_Md_readCompare_6 : decode prog_14_method_99_code 6 = .ok (.ifCond .ne 27, 3) := by decide +kernel
theorem ad_Md_readCompare_9 : decode prog_14_method_99_code 9 = .ok (.aload_n 0, 1) := by decide +kernel
theorem ad_Md_readCompare_10 : decode prog_14_method_99_code 10 = .ok (.bipush 61, 2) := by decide +kernel
theorem ad_Md_readCompare_12 : decode prog_14_method_99_code 12 = .ok (.invokevirtual 184, 3) := by decide +kernel
theorem ad_Md_readCompare_15 : decode prog_14_method_99_code 15 = .ok (.ifCond .ne 18, 3) := by decide +kernel
theorem ad_Md_readCompare_18 : decode prog_14_method_99_code 18 = .ok (.aload_n 0, 1) := by decide +kernel
theorem ad_Md_readCompare_19 : decode prog_14_method_99_code 19 = .ok (.bipush 62, 2) := by decide +kernel
theorem ad_Md_readCompare_21 : decode prog_14_method_99_code 21 = .ok (.invokevirtual 184, 3) := by decide +kernel
theorem ad_Md_readCompare_24 : decode prog_14_method_99_code 24 = .ok (.ifCond .ne 9, 3) := by decide +kernel
theorem ad_Md_readCompare_27 : decode prog_14_method_99_code 27 = .ok (.aload_n 0, 1) := by decide +kernel
theorem ad_Md_readCompare_28 : decode prog_14_method_99_code 28 = .ok (.iconst 1, 1) := by decide +kernel
theorem ad_Md_readCompare_29 : decode prog_14_method_99_code 29 = .ok (.invokevirtual 171, 3) := by decide +kernel
theorem ad_Md_readCompare_32 : decode prog_14_method_99_code 32 = .ok (.ireturn, 1) := by decide +kernel
theorem ad_Md_readCompare_33 : decode prog_14_method_99_code 33 = .ok (.aload_n 0, 1) := by decide +kernel
theorem ad_Md_readCompare_34 : decode prog_14_method_99_code 34 = .ok (.getfield 135, 3) := by decide +kernel
theorem ad_Md_readCompare_37 : decode prog_14_method_99_code 37 = .ok (.istore_n 2, 1) := by decide +kernel
theorem ad_Md_readCompare_38 : decode prog_14_method_99_code 38 = .ok (.aload_n 0, 1) := by decide +kernel
theorem ad_Md_readCompare_39 : decode prog_14_method_99_code 39 = .ok (.invokevirtual 181, 3) := by decide +kernel
theorem ad_Md_readCompare_42 : decode prog_14_method_99_code 42 = .ok (.aload_n 0, 1) := by decide +kernel
theorem ad_Md_readCompare_43 : decode prog_14_method_99_code 43 = .ok (.iconst 0, 1) := by decide +kernel
theorem ad_Md_readCompare_44 : decode prog_14_method_99_code 44 = .ok (.sipush 999, 3) := by decide +kernel
theorem ad_Md_readCompare_47 : decode prog_14_method_99_code 47 = .ok (.invokevirtual 214, 3) := by decide +kernel
theorem ad_Md_readCompare_50 : decode prog_14_method_99_code 50 = .ok (.ifCond .ne 5, 3) := by decide +kernel
theorem ad_Md_readCompare_53 : decode prog_14_method_99_code 53 = .ok (.iconst 0, 1) := by decide +kernel
theorem ad_Md_readCompare_54 : decode prog_14_method_99_code 54 = .ok (.ireturn, 1) := by decide +kernel
theorem ad_Md_readCompare_55 : decode prog_14_method_99_code 55 = .ok (.aload_n 0, 1) := by decide +kernel
theorem ad_Md_readCompare_56 : decode prog_14_method_99_code 56 = .ok (.aload_n 0, 1) := by decide +kernel
theorem ad_Md_readCompare_57 : decode prog_14_method_99_code 57 = .ok (.bipush 6, 2) := by decide +kernel
theorem ad_Md_readCompare_59 : decode prog_14_method_99_code 59 = .ok (.iload_n 1, 1) := by decide +kernel
theorem ad_Md_readCompare_60 : decode prog_14_method_99_code 60 = .ok (.bipush 19, 2) := by decide +kernel
theorem ad_Md_readCompare_62 : decode prog_14_method_99_code 62 = .ok (.isub, 1) := by decide +kernel
theorem ad_Md_readCompare_63 : decode prog_14_method_99_code 63 = .ok (.aload_n 0, 1) := by decide +kernel
theorem ad_Md_readCompare_64 : decode prog_14_method_99_code 64 = .ok (.getfield 178, 3) := by decide +kernel
theorem ad_Md_readCompare_67 : decode prog_14_method_99_code 67 = .ok (.iload_n 2, 1) := by decide +kernel
theorem ad_Md_readCompare_68 : decode prog_14_method_99_code 68 = .ok (.invokevirtual 427, 3) := by decide +kernel
theorem ad_Md_readCompare_71 : decode prog_14_method_99_code 71 = .ok (.putfield 424, 3) := by decide +kernel
theorem ad_Md_readCompare_74 : decode prog_14_method_99_code 74 = .ok (.iconst 1, 1) := by decide +kernel
theorem ad_Md_readCompare_75 : decode prog_14_method_99_code 75 = .ok (.ireturn, 1) := by decide +kernel
theorem ad_Md_sentence_0 : decode prog_14_method_100_code 0 = .ok (.aload_n 0, 1) := by decide +kernel
theorem ad_Md_sentence_1 : decode prog_14_method_100_code 1 = .ok (.sipush 200, 3) := by decide +kernel
theorem ad_Md_sentence_4 : decode prog_14_method_100_code 4 = .ok (.invokevirtual 245, 3) := by decide +kernel
theorem ad_Md_sentence_7 : decode prog_14_method_100_code 7 = .ok (.aload_n 0, 1) := by decide +kernel
theorem ad_Md_sentence_8 : decode prog_14_method_100_code 8 = .ok (.iconst 0, 1) := by decide +kernel
theorem ad_Md_sentence_9 : decode prog_14_method_100_code 9 = .ok (.putfield 418, 3) := by decide +kernel
theorem ad_Md_sentence_12 : decode prog_14_method_100_code 12 = .ok (.aload_n 0, 1) := by decide +kernel
theorem ad_Md_sentence_13 : decode prog_14_method_100_code 13 = .ok (.iconst 0, 1) := by decide +kernel
theorem ad_Md_sentence_14 : decode prog_14_method_100_code 14 = .ok (.putfield 433, 3) := by decide +kernel
theorem ad_Md_sentence_17 : decode prog_14_method_100_code 17 = .ok (.aload_n 0, 1) := by decide +kernel
theorem ad_Md_sentence_18 : decode prog_14_method_100_code 18 = .ok (.iconst 0, 1) := by decide +kernel
theorem ad_Md_sentence_19 : decode prog_14_method_100_code 19 = .ok (.putfield 436, 3) := by decide +kernel
theorem ad_Md_sentence_22 : decode prog_14_method_100_code 22 = .ok (.aload_n 0, 1) := by decide +kernel
theorem ad_Md_sentence_23 : decode prog_14_method_100_code 23 = .ok (.invokevirtual 448, 3) := by decide +kernel
theorem ad_Md_sentence_26 : decode prog_14_method_100_code 26 = .ok (.ifCond .ne 10, 3) := by decide +kernel
theorem ad_Md_sentence_29 : decode prog_14_method_100_code 29 = .ok (.iconst (-1), 1) := by decide +kernel
theorem ad_Md_sentence_30 : decode prog_14_method_100_code 30 = .ok (.aload_n 0, 1) := by decide +kernel
theorem ad_Md_sentence_31 : decode prog_14_method_100_code 31 = .ok (.getfield 168, 3) := by decide +kernel
theorem ad_Md_sentence_34 : decode prog_14_method_100_code 34 = .ok (.isub, 1) := by decide +kernel
theorem ad_Md_sentence_35 : decode prog_14_method_100_code 35 = .ok (.ireturn, 1) := by decide +kernel
theorem ad_Md_sentence_36 : decode prog_14_method_100_code 36 = .ok (.aload_n 0, 1) := by decide +kernel
theorem ad_Md_sentence_37 : decode prog_14_method_100_code 37 = .ok (.getfield 125, 3) := by decide +kernel
theorem ad_Md_sentence_40 : decode prog_14_method_100_code 40 = .ok (.ifCond .eq 16, 3) := by decide +kernel
theorem ad_Md_sentence_43 : decode prog_14_method_100_code 43 = .ok (.aload_n 0, 1) := by decide +kernel
theorem ad_Md_sentence_44 : decode prog_14_method_100_code 44 = .ok (.iconst 1, 1) := by decide +kernel
theorem ad_Md_sentence_45 : decode prog_14_method_100_code 45 = .ok (.invokevirtual 171, 3) := by decide +kernel
theorem ad_Md_sentence_48 : decode prog_14_method_100_code 48 = .ok (.pop, 1) := by decide +kernel
theorem ad_Md_sentence_49 : decode prog_14_method_100_code 49 = .ok (.iconst (-1), 1) := by decide +kernel
theorem ad_Md_sentence_50 : decode prog_14_method_100_code 50 = .ok (.aload_n 0, 1) := by decide +kernel
theorem ad_Md_sentence_51 : decode prog_14_method_100_code 51 = .ok (.getfield 168, 3) := by decide +kernel
theorem ad_Md_sentence_54 : decode prog_14_method_100_code 54 = .ok (.isub, 1) := by decide +kernel
theorem ad_Md_sentence_55 : decode prog_14_method_100_code 55 = .ok (.ireturn, 1) := by decide +kernel
theorem ad_Md_sentence_56 : decode prog_14_method_100_code 56 = .ok (.aload_n 0, 1) := by decide +kernel
theorem ad_Md_sentence_57 : decode prog_14_method_100_code 57 = .ok (.getfield 13, 3) := by decide +kernel
theorem ad_Md_sentence_60 : decode prog_14_method_100_code 60 = .ok (.sipush 590, 3) := by decide +kernel
theorem ad_Md_sentence_63 : decode prog_14_method_100_code 63 = .ok (.iconst 1, 1) := by decide +kernel
theorem ad_Md_sentence_64 : decode prog_14_method_100_code 64 = .ok (.iastore, 1) := by decide +kernel
theorem ad_Md_sentence_65 : decode prog_14_method_100_code 65 = .ok (.aload_n 0, 1) := by decide +kernel
theorem ad_Md_sentence_66 : decode prog_14_method_100_code 66 = .ok (.getfield 13, 3) := by decide +kernel
theorem ad_Md_sentence_69 : decode prog_14_method_100_code 69 = .ok (.sipush 591, 3) := by decide +kernel
theorem ad_Md_sentence_72 : decode prog_14_method_100_code 72 = .ok (.aload_n 0, 1) := by decide +kernel
theorem ad_Md_sentence_73 : decode prog_14_method_100_code 73 = .ok (.getfield 424, 3) := by decide +kernel
theorem ad_Md_sentence_76 : decode prog_14_method_100_code 76 = .ok (.iastore, 1) := by decide +kernel
theorem ad_Md_sentence_77 : decode prog_14_method_100_code 77 = .ok (.iconst 0, 1) := by decide +kernel
theorem ad_Md_sentence_78 : decode prog_14_method_100_code 78 = .ok (.istore_n 1, 1) := by decide +kernel
theorem ad_Md_sentence_79 : decode prog_14_method_100_code 79 = .ok (.iload_n 1, 1) := by decide +kernel
theorem ad_Md_sentence_80 : decode prog_14_method_100_code 80 = .ok (.sipush 240, 3) := by decide +kernel
theorem ad_Md_sentence_83 : decode prog_14_method_100_code 83 = .ok (.if_icmp .ge 25, 3) := by decide +kernel
theorem ad_Md_sentence_86 : decode prog_14_method_100_code 86 = .ok (.aload_n 0, 1) := by decide +kernel
theorem ad_Md_sentence_87 : decode prog_14_method_100_code 87 = .ok (.getfield 13, 3) := by decide +kernel
theorem ad_Md_sentence_90 : decode prog_14_method_100_code 90 = .ok (.sipush 600, 3) := by decide +kernel
theorem ad_Md_sentence_93 : decode prog_14_method_100_code 93 = .ok (.iload_n 1, 1) := by decide +kernel
theorem ad_Md_sentence_94 : decode prog_14_method_100_code 94 = .ok (.iadd, 1) := by decide +kernel
theorem ad_Md_sentence_95 : decode prog_14_method_100_code 95 = .ok (.aload_n 0, 1) := by decide +kernel
theorem ad_Md_sentence_96 : decode prog_14_method_100_code 96 = .ok (.getfield 99, 3) := by decide +kernel
theorem ad_Md_sentence_99 : decode prog_14_method_100_code 99 = .ok (.iload_n 1, 1) := by decide +kernel
theorem ad_Md_sentence_100 : decode prog_14_method_100_code 100 = .ok (.iaload, 1) := by decide +kernel
theorem ad_Md_sentence_101 : decode prog_14_method_100_code 101 = .ok (.iastore, 1) := by decide +kernel
theorem ad_Md_sentence_102 : decode prog_14_method_100_code 102 = .ok (.iinc 1 1, 3) := by decide +kernel
theorem ad_Md_sentence_105 : decode prog_14_method_100_code 105 = .ok (.goto (-26), 3) := by decide +kernel
theorem ad_Md_sentence_108 : decode prog_14_method_100_code 108 = .ok (.aload_n 0, 1) := by decide +kernel
theorem ad_Md_sentence_109 : decode prog_14_method_100_code 109 = .ok (.getfield 433, 3) := by decide +kernel
theorem ad_Md_sentence_112 : decode prog_14_method_100_code 112 = .ok (.ireturn, 1) := by decide +kernel
theorem ad_Md_isSo_0 : decode prog_14_method_101_code 0 = .ok (.sipush 600, 3) := by decide +kernel
theorem ad_Md_isSo_3 : decode prog_14_method_101_code 3 = .ok (.iconst 4, 1) := by decide +kernel
theorem ad_Md_isSo_4 : decode prog_14_method_101_code 4 = .ok (.iload_n 1, 1) := by decide +kernel
theorem ad_Md_isSo_5 : decode prog_14_method_101_code 5 = .ok (.imul, 1) := by decide +kernel
theorem ad_Md_isSo_6 : decode prog_14_method_101_code 6 = .ok (.iadd, 1) := by decide +kernel
theorem ad_Md_isSo_7 : decode prog_14_method_101_code 7 = .ok (.istore_n 3, 1) := by decide +kernel
theorem ad_Md_isSo_8 : decode prog_14_method_101_code 8 = .ok (.aload_n 0, 1) := by decide +kernel
theorem ad_Md_isSo_9 : decode prog_14_method_101_code 9 = .ok (.getfield 13, 3) := by decide +kernel
theorem ad_Md_isSo_12 : decode prog_14_method_101_code 12 = .ok (.iload_n 3, 1) := by decide +kernel
theorem ad_Md_isSo_13 : decode prog_14_method_101_code 13 = .ok (.iconst 1, 1) := by decide +kernel
theorem ad_Md_isSo_14 : decode prog_14_method_101_code 14 = .ok (.iadd, 1) := by decide +kernel
theorem ad_Md_isSo_15 : decode prog_14_method_101_code 15 = .ok (.iaload, 1) := by decide +kernel
theorem ad_Md_isSo_16 : decode prog_14_method_101_code 16 = .ok (.istore 4, 2) := by decide +kernel
theorem ad_Md_isSo_18 : decode prog_14_method_101_code 18 = .ok (.aload_n 0, 1) := by decide +kernel
theorem ad_Md_isSo_19 : decode prog_14_method_101_code 19 = .ok (.getfield 13, 3) := by decide +kernel
theorem ad_Md_isSo_22 : decode prog_14_method_101_code 22 = .ok (.iload_n 3, 1) := by decide +kernel
theorem ad_Md_isSo_23 : decode prog_14_method_101_code 23 = .ok (.iconst 2, 1) := by decide +kernel
theorem ad_Md_isSo_24 : decode prog_14_method_101_code 24 = .ok (.iadd, 1) := by decide +kernel
theorem ad_Md_isSo_25 : decode prog_14_method_101_code 25 = .ok (.iaload, 1) := by decide +kernel
theorem ad_Md_isSo_26 : decode prog_14_method_101_code 26 = .ok (.istore 5, 2) := by decide +kernel
theorem ad_Md_isSo_28 : decode prog_14_method_101_code 28 = .ok (.aload_n 0, 1) := by decide +kernel
theorem ad_Md_isSo_29 : decode prog_14_method_101_code 29 = .ok (.getfield 13, 3) := by decide +kernel
theorem ad_Md_isSo_32 : decode prog_14_method_101_code 32 = .ok (.iload_n 3, 1) := by decide +kernel
theorem ad_Md_isSo_33 : decode prog_14_method_101_code 33 = .ok (.iaload, 1) := by decide +kernel
theorem ad_Md_isSo_34 : decode prog_14_method_101_code 34 = .ok (.tableswitch 137 1 5 #[34, 50, 76, 102, 120], 34) := by decide +kernel
theorem ad_Md_isSo_68 : decode prog_14_method_101_code 68 = .ok (.aload_n 0, 1) := by decide +kernel
theorem ad_Md_isSo_69 : decode prog_14_method_101_code 69 = .ok (.iload 4, 2) := by decide +kernel
theorem ad_Md_isSo_71 : decode prog_14_method_101_code 71 = .ok (.iload_n 2, 1) := by decide +kernel
theorem ad_Md_isSo_72 : decode prog_14_method_101_code 72 = .ok (.invokevirtual 451, 3) := by decide +kernel
theorem ad_Md_isSo_75 : decode prog_14_method_101_code 75 = .ok (.ifCond .ne 7, 3) := by decide +kernel
theorem ad_Md_isSo_78 : decode prog_14_method_101_code 78 = .ok (.iconst 1, 1) := by decide +kernel
theorem ad_Md_isSo_79 : decode prog_14_method_101_code 79 = .ok (.goto 4, 3) := by decide +kernel
theorem ad_Md_isSo_82 : decode prog_14_method_101_code 82 = .ok (.iconst 0, 1) := by decide +kernel
theorem ad_Md_isSo_83 : decode prog_14_method_101_code 83 = .ok (.ireturn, 1) := by decide +kernel
theorem ad_Md_isSo_84 : decode prog_14_method_101_code 84 = .ok (.aload_n 0, 1) := by decide +kernel
theorem ad_Md_isSo_85 : decode prog_14_method_101_code 85 = .ok (.iload 4, 2) := by decide +kernel
theorem ad_Md_isSo_87 : decode prog_14_method_101_code 87 = .ok (.iload_n 2, 1) := by decide +kernel
theorem ad_Md_isSo_88 : decode prog_14_method_101_code 88 = .ok (.invokevirtual 451, 3) := by decide +kernel
theorem ad_Md_isSo_91 : decode prog_14_method_101_code 91 = .ok (.ifCond .eq 17, 3) := by decide +kernel
theorem ad_Md_isSo_94 : decode prog_14_method_101_code 94 = .ok (.aload_n 0, 1) := by decide +kernel
theorem ad_Md_isSo_95 : decode prog_14_method_101_code 95 = .ok (.iload 5, 2) := by decide +kernel
theorem ad_Md_isSo_97 : decode prog_14_method_101_code 97 = .ok (.iload_n 2, 1) := by decide +kernel
theorem ad_Md_isSo_98 : decode prog_14_method_101_code 98 = .ok (.invokevirtual 451, 3) := by decide +kernel
theorem ad_Md_isSo_101 : decode prog_14_method_101_code 101 = .ok (.ifCond .eq 7, 3) := by decide +kernel
theorem ad_Md_isSo_104 : decode prog_14_method_101_code 104 = .ok (.iconst 1, 1) := by decide +kernel
theorem ad_Md_isSo_105 : decode prog_14_method_101_code 105 = .ok (.goto 4, 3) := by decide +kernel
theorem ad_Md_isSo_108 : decode prog_14_method_101_code 108 = .ok (.iconst 0, 1) := by decide +kernel
theorem ad_Md_isSo_109 : decode prog_14_method_101_code 109 = .ok (.ireturn, 1) := by decide +kernel
theorem ad_Md_isSo_110 : decode prog_14_method_101_code 110 = .ok (.aload_n 0, 1) := by decide +kernel
theorem ad_Md_isSo_111 : decode prog_14_method_101_code 111 = .ok (.iload 4, 2) := by decide +kernel
theorem ad_Md_isSo_113 : decode prog_14_method_101_code 113 = .ok (.iload_n 2, 1) := by decide +kernel
theorem ad_Md_isSo_114 : decode prog_14_method_101_code 114 = .ok (.invokevirtual 451, 3) := by decide +kernel
theorem ad_Md_isSo_117 : decode prog_14_method_101_code 117 = .ok (.ifCond .ne 13, 3) := by decide +kernel
theorem ad_Md_isSo_120 : decode prog_14_method_101_code 120 = .ok (.aload_n 0, 1) := by decide +kernel
theorem ad_Md_isSo_121 : decode prog_14_method_101_code 121 = .ok (.iload 5, 2) := by decide +kernel
theorem ad_Md_isSo_123 : decode prog_14_method_101_code 123 = .ok (.iload_n 2, 1) := by decide +kernel
theorem ad_Md_isSo_124 : decode prog_14_method_101_code 124 = .ok (.invokevirtual 451, 3) := by decide +kernel
theorem ad_Md_isSo_127 : decode prog_14_method_101_code 127 = .ok (.ifCond .eq 7, 3) := by decide +kernel
theorem ad_Md_isSo_130 : decode prog_14_method_101_code 130 = .ok (.iconst 1, 1) := by decide +kernel
theorem ad_Md_isSo_131 : decode prog_14_method_101_code 131 = .ok (.goto 4, 3) := by decide +kernel
theorem ad_Md_isSo_134 : decode prog_14_method_101_code 134 = .ok (.iconst 0, 1) := by decide +kernel
theorem ad_Md_isSo_135 : decode prog_14_method_101_code 135 = .ok (.ireturn, 1) := by decide +kernel
theorem ad_Md_isSo_136 : decode prog_14_method_101_code 136 = .ok (.aload_n 0, 1) := by decide +kernel
theorem ad_Md_isSo_137 : decode prog_14_method_101_code 137 = .ok (.iload_n 2, 1) := by decide +kernel
theorem ad_Md_isSo_138 : decode prog_14_method_101_code 138 = .ok (.aload_n 0, 1) := by decide +kernel
theorem ad_Md_isSo_139 : decode prog_14_method_101_code 139 = .ok (.getfield 292, 3) := by decide +kernel
theorem ad_Md_isSo_142 : decode prog_14_method_101_code 142 = .ok (.invokevirtual 304, 3) := by decide +kernel
theorem ad_Md_isSo_145 : decode prog_14_method_101_code 145 = .ok (.ifCond .le 7, 3) := by decide +kernel
theorem ad_Md_isSo_148 : decode prog_14_method_101_code 148 = .ok (.iconst 1, 1) := by decide +kernel
theorem ad_Md_isSo_149 : decode prog_14_method_101_code 149 = .ok (.goto 4, 3) := by decide +kernel
theorem ad_Md_isSo_152 : decode prog_14_method_101_code 152 = .ok (.iconst 0, 1) := by decide +kernel
theorem ad_Md_isSo_153 : decode prog_14_method_101_code 153 = .ok (.ireturn, 1) := by decide +kernel
theorem ad_Md_isSo_154 : decode prog_14_method_101_code 154 = .ok (.aload_n 0, 1) := by decide +kernel
theorem ad_Md_isSo_155 : decode prog_14_method_101_code 155 = .ok (.getfield 310, 3) := by decide +kernel
theorem ad_Md_isSo_158 : decode prog_14_method_101_code 158 = .ok (.iload_n 2, 1) := by decide +kernel
theorem ad_Md_isSo_159 : decode prog_14_method_101_code 159 = .ok (.invokestatic 224, 3) := by decide +kernel
theorem ad_Md_isSo_162 : decode prog_14_method_101_code 162 = .ok (.ifCond .ne 7, 3) := by decide +kernel
theorem ad_Md_isSo_165 : decode prog_14_method_101_code 165 = .ok (.iconst 1, 1) := by decide +kernel
theorem ad_Md_isSo_166 : decode prog_14_method_101_code 166 = .ok (.goto 4, 3) := by decide +kernel
theorem ad_Md_isSo_169 : decode prog_14_method_101_code 169 = .ok (.iconst 0, 1) := by decide +kernel
theorem ad_Md_isSo_170 : decode prog_14_method_101_code 170 = .ok (.ireturn, 1) := by decide +kernel
theorem ad_Md_isSo_171 : decode prog_14_method_101_code 171 = .ok (.aload_n 0, 1) := by decide +kernel
theorem ad_Md_isSo_172 : decode prog_14_method_101_code 172 = .ok (.iload_n 2, 1) := by decide +kernel
theorem ad_Md_isSo_173 : decode prog_14_method_101_code 173 = .ok (.iload 4, 2) := by decide +kernel
theorem ad_Md_isSo_175 : decode prog_14_method_101_code 175 = .ok (.invokevirtual 332, 3) := by decide +kernel
theorem ad_Md_isSo_178 : decode prog_14_method_101_code 178 = .ok (.istore 6, 2) := by decide +kernel
theorem ad_Md_isSo_180 : decode prog_14_method_101_code 180 = .ok (.aload_n 0, 1) := by decide +kernel
theorem ad_Md_isSo_181 : decode prog_14_method_101_code 181 = .ok (.getfield 13, 3) := by decide +kernel
theorem ad_Md_isSo_184 : decode prog_14_method_101_code 184 = .ok (.iload_n 3, 1) := by decide +kernel
theorem ad_Md_isSo_185 : decode prog_14_method_101_code 185 = .ok (.iconst 3, 1) := by decide +kernel
theorem ad_Md_isSo_186 : decode prog_14_method_101_code 186 = .ok (.iadd, 1) := by decide +kernel
theorem ad_Md_isSo_187 : decode prog_14_method_101_code 187 = .ok (.iaload, 1) := by decide +kernel
theorem ad_Md_isSo_188 : decode prog_14_method_101_code 188 = .ok (.bipush 60, 2) := by decide +kernel
theorem ad_Md_isSo_190 : decode prog_14_method_101_code 190 = .ok (.if_icmp .ne 18, 3) := by decide +kernel
theorem ad_Md_isSo_193 : decode prog_14_method_101_code 193 = .ok (.iload 6, 2) := by decide +kernel
theorem ad_Md_isSo_195 : decode prog_14_method_101_code 195 = .ok (.iload 5, 2) := by decide +kernel
theorem ad_Md_isSo_197 : decode prog_14_method_101_code 197 = .ok (.if_icmp .ge 7, 3) := by decide +kernel
theorem ad_Md_isSo_200 : decode prog_14_method_101_code 200 = .ok (.iconst 1, 1) := by decide +kernel
theorem ad_Md_isSo_201 : decode prog_14_method_101_code 201 = .ok (.goto 47, 3) := by decide +kernel
theorem ad_Md_isSo_204 : decode prog_14_method_101_code 204 = .ok (.iconst 0, 1) := by decide +kernel
theorem ad_Md_isSo_205 : decode prog_14_method_101_code 205 = .ok (.goto 43, 3) := by decide +kernel
theorem ad_Md_isSo_208 : decode prog_14_method_101_code 208 = .ok (.aload_n 0, 1) := by decide +kernel
theorem ad_Md_isSo_209 : decode prog_14_method_101_code 209 = .ok (.getfield 13, 3) := by decide +kernel
theorem ad_Md_isSo_212 : decode prog_14_method_101_code 212 = .ok (.iload_n 3, 1) := by decide +kernel
theorem ad_Md_isSo_213 : decode prog_14_method_101_code 213 = .ok (.iconst 3, 1) := by decide +kernel
theorem ad_Md_isSo_214 : decode prog_14_method_101_code 214 = .ok (.iadd, 1) := by decide +kernel
theorem ad_Md_isSo_215 : decode prog_14_method_101_code 215 = .ok (.iaload, 1) := by decide +kernel
theorem ad_Md_isSo_216 : decode prog_14_method_101_code 216 = .ok (.bipush 61, 2) := by decide +kernel
theorem ad_Md_isSo_218 : decode prog_14_method_101_code 218 = .ok (.if_icmp .ne 18, 3) := by decide +kernel
theorem ad_Md_isSo_221 : decode prog_14_method_101_code 221 = .ok (.iload 6, 2) := by decide +kernel
theorem ad_Md_isSo_223 : decode prog_14_method_101_code 223 = .ok (.iload 5, 2) := by decide +kernel
theorem ad_Md_isSo_225 : decode prog_14_method_101_code 225 = .ok (.if_icmp .ne 7, 3) := by decide +kernel
theorem ad_Md_isSo_228 : decode prog_14_method_101_code 228 = .ok (.iconst 1, 1) := by decide +kernel
theorem ad_Md_isSo_229 : decode prog_14_method_101_code 229 = .ok (.goto 19, 3) := by decide +kernel
theorem ad_Md_isSo_232 : decode prog_14_method_101_code 232 = .ok (.iconst 0, 1) := by decide +kernel
theorem ad_Md_isSo_233 : decode prog_14_method_101_code 233 = .ok (.goto 15, 3) := by decide +kernel
theorem ad_Md_isSo_236 : decode prog_14_method_101_code 236 = .ok (.iload 6, 2) := by decide +kernel
theorem ad_Md_isSo_238 : decode prog_14_method_101_code 238 = .ok (.iload 5, 2) := by decide +kernel
theorem ad_Md_isSo_240 : decode prog_14_method_101_code 240 = .ok (.if_icmp .le 7, 3) := by decide +kernel
theorem ad_Md_isSo_243 : decode prog_14_method_101_code 243 = .ok (.iconst 1, 1) := by decide +kernel
theorem ad_Md_isSo_244 : decode prog_14_method_101_code 244 = .ok (.goto 4, 3) := by decide +kernel
theorem ad_Md_isSo_247 : decode prog_14_method_101_code 247 = .ok (.iconst 0, 1) := by decide +kernel
theorem ad_Md_isSo_248 : decode prog_14_method_101_code 248 = .ok (.ireturn, 1) := by decide +kernel
theorem ad_Md_said_0 : decode prog_14_method_102_code 0 = .ok (.aload_n 0, 1) := by decide +kernel
theorem ad_Md_said_1 : decode prog_14_method_102_code 1 = .ok (.iconst 0, 1) := by decide +kernel
theorem ad_Md_said_2 : decode prog_14_method_102_code 2 = .ok (.putfield 102, 3) := by decide +kernel
theorem ad_Md_said_5 : decode prog_14_method_102_code 5 = .ok (.aload_n 0, 1) := by decide +kernel
theorem ad_Md_said_6 : decode prog_14_method_102_code 6 = .ok (.invokevirtual 187, 3) := by decide +kernel
theorem ad_Md_said_9 : decode prog_14_method_102_code 9 = .ok (.aload_n 0, 1) := by decide +kernel
theorem ad_Md_said_10 : decode prog_14_method_102_code 10 = .ok (.getfield 13, 3) := by decide +kernel
theorem ad_Md_said_13 : decode prog_14_method_102_code 13 = .ok (.sipush 590, 3) := by decide +kernel
theorem ad_Md_said_16 : decode prog_14_method_102_code 16 = .ok (.iaload, 1) := by decide +kernel
theorem ad_Md_said_17 : decode prog_14_method_102_code 17 = .ok (.ifCond .ne 5, 3) := by decide +kernel
theorem ad_Md_said_20 : decode prog_14_method_102_code 20 = .ok (.iconst (-1), 1) := by decide +kernel
theorem ad_Md_said_21 : decode prog_14_method_102_code 21 = .ok (.ireturn, 1) := by decide +kernel
theorem ad_Md_said_22 : decode prog_14_method_102_code 22 = .ok (.aload_n 0, 1) := by decide +kernel
theorem ad_Md_said_23 : decode prog_14_method_102_code 23 = .ok (.invokevirtual 326, 3) := by decide +kernel
theorem ad_Md_said_26 : decode prog_14_method_102_code 26 = .ok (.iconst 0, 1) := by decide +kernel
theorem ad_Md_said_27 : decode prog_14_method_102_code 27 = .ok (.istore_n 1, 1) := by decide +kernel
theorem ad_Md_said_28 : decode prog_14_method_102_code 28 = .ok (.iconst 0, 1) := by decide +kernel
theorem ad_Md_said_29 : decode prog_14_method_102_code 29 = .ok (.istore_n 2, 1) := by decide +kernel
theorem ad_Md_said_30 : decode prog_14_method_102_code 30 = .ok (.iload_n 2, 1) := by decide +kernel
theorem ad_Md_said_31 : decode prog_14_method_102_code 31 = .ok (.aload_n 0, 1) := by decide +kernel
theorem ad_Md_said_32 : decode prog_14_method_102_code 32 = .ok (.invokevirtual 201, 3) := by decide +kernel
theorem ad_Md_said_35 : decode prog_14_method_102_code 35 = .ok (.if_icmp .ge 31, 3) := by decide +kernel
theorem ad_Md_said_38 : decode prog_14_method_102_code 38 = .ok (.aload_n 0, 1) := by decide +kernel
theorem ad_Md_said_39 : decode prog_14_method_102_code 39 = .ok (.aload_n 0, 1) := by decide +kernel
theorem ad_Md_said_40 : decode prog_14_method_102_code 40 = .ok (.getfield 13, 3) := by decide +kernel
theorem ad_Md_said_43 : decode prog_14_method_102_code 43 = .ok (.sipush 591, 3) := by decide +kernel
theorem ad_Md_said_46 : decode prog_14_method_102_code 46 = .ok (.iaload, 1) := by decide +kernel
theorem ad_Md_said_47 : decode prog_14_method_102_code 47 = .ok (.iload_n 2, 1) := by decide +kernel
theorem ad_Md_said_48 : decode prog_14_method_102_code 48 = .ok (.invokevirtual 451, 3) := by decide +kernel
theorem ad_Md_said_51 : decode prog_14_method_102_code 51 = .ok (.ifCond .eq 9, 3) := by decide +kernel
theorem ad_Md_said_54 : decode prog_14_method_102_code 54 = .ok (.iload_n 1, 1) := by decide +kernel
theorem ad_Md_said_55 : decode prog_14_method_102_code 55 = .ok (.iconst 1, 1) := by decide +kernel
theorem ad_Md_said_56 : decode prog_14_method_102_code 56 = .ok (.iload_n 2, 1) := by decide +kernel
theorem ad_Md_said_57 : decode prog_14_method_102_code 57 = .ok (.ishl, 1) := by decide +kernel
theorem ad_Md_said_58 : decode prog_14_method_102_code 58 = .ok (.ior, 1) := by decide +kernel
theorem ad_Md_said_59 : decode prog_14_method_102_code 59 = .ok (.istore_n 1, 1) := by decide +kernel
theorem ad_Md_said_60 : decode prog_14_method_102_code 60 = .ok (.iinc 2 1, 3) := by decide +kernel
theorem ad_Md_said_63 : decode prog_14_method_102_code 63 = .ok (.goto (-33), 3) := by decide +kernel
theorem ad_Md_said_66 : decode prog_14_method_102_code 66 = .ok (.iload_n 1, 1) := by decide +kernel
theorem ad_Md_said_67 : decode prog_14_method_102_code 67 = .ok (.ireturn, 1) := by decide +kernel
theorem ad_Md_image_0 : decode prog_14_method_103_code 0 = .ok (.aload_n 0, 1) := by decide +kernel
theorem ad_Md_image_1 : decode prog_14_method_103_code 1 = .ok (.iconst 0, 1) := by decide +kernel
theorem ad_Md_image_2 : decode prog_14_method_103_code 2 = .ok (.putfield 102, 3) := by decide +kernel
theorem ad_Md_image_5 : decode prog_14_method_103_code 5 = .ok (.aload_n 0, 1) := by decide +kernel
theorem ad_Md_image_6 : decode prog_14_method_103_code 6 = .ok (.invokevirtual 187, 3) := by decide +kernel
theorem ad_Md_image_9 : decode prog_14_method_103_code 9 = .ok (.iload_n 1, 1) := by decide +kernel
theorem ad_Md_image_10 : decode prog_14_method_103_code 10 = .ok (.iconst 0, 1) := by decide +kernel
theorem ad_Md_image_11 : decode prog_14_method_103_code 11 = .ok (.iconst 1, 1) := by decide +kernel
theorem ad_Md_image_12 : decode prog_14_method_103_code 12 = .ok (.invokestatic 174, 3) := by decide +kernel
theorem ad_Md_image_15 : decode prog_14_method_103_code 15 = .ok (.ifCond .ne 5, 3) := by decide +kernel
theorem ad_Md_image_18 : decode prog_14_method_103_code 18 = .ok (.iconst 0, 1) := by decide +kernel
theorem ad_Md_image_19 : decode prog_14_method_103_code 19 = .ok (.ireturn, 1) := by decide +kernel
theorem ad_Md_image_20 : decode prog_14_method_103_code 20 = .ok (.iconst 0, 1) := by decide +kernel
theorem ad_Md_image_21 : decode prog_14_method_103_code 21 = .ok (.istore_n 2, 1) := by decide +kernel
theorem ad_Md_image_22 : decode prog_14_method_103_code 22 = .ok (.iload_n 2, 1) := by decide +kernel
theorem ad_Md_image_23 : decode prog_14_method_103_code 23 = .ok (.sipush 840, 3) := by decide +kernel
theorem ad_Md_image_26 : decode prog_14_method_103_code 26 = .ok (.if_icmp .ge 27, 3) := by decide +kernel
theorem ad_Md_image_29 : decode prog_14_method_103_code 29 = .ok (.aload_n 0, 1) := by decide +kernel
theorem ad_Md_image_30 : decode prog_14_method_103_code 30 = .ok (.getfield 22, 3) := by decide +kernel
theorem ad_Md_image_33 : decode prog_14_method_103_code 33 = .ok (.sipush 840, 3) := by decide +kernel
theorem ad_Md_image_36 : decode prog_14_method_103_code 36 = .ok (.iload_n 1, 1) := by decide +kernel
theorem ad_Md_image_37 : decode prog_14_method_103_code 37 = .ok (.imul, 1) := by decide +kernel
theorem ad_Md_image_38 : decode prog_14_method_103_code 38 = .ok (.iload_n 2, 1) := by decide +kernel
theorem ad_Md_image_39 : decode prog_14_method_103_code 39 = .ok (.iadd, 1) := by decide +kernel
theorem ad_Md_image_40 : decode prog_14_method_103_code 40 = .ok (.aload_n 0, 1) := by decide +kernel
theorem ad_Md_image_41 : decode prog_14_method_103_code 41 = .ok (.getfield 13, 3) := by decide +kernel
theorem ad_Md_image_44 : decode prog_14_method_103_code 44 = .ok (.iload_n 2, 1) := by decide +kernel
theorem ad_Md_image_45 : decode prog_14_method_103_code 45 = .ok (.iaload, 1) := by decide +kernel
theorem ad_Md_image_46 : decode prog_14_method_103_code 46 = .ok (.iastore, 1) := by decide +kernel
theorem ad_Md_image_47 : decode prog_14_method_103_code 47 = .ok (.iinc 2 1, 3) := by decide +kernel
theorem ad_Md_image_50 : decode prog_14_method_103_code 50 = .ok (.goto (-28), 3) := by decide +kernel
theorem ad_Md_image_53 : decode prog_14_method_103_code 53 = .ok (.iconst 0, 1) := by decide +kernel
theorem ad_Md_image_54 : decode prog_14_method_103_code 54 = .ok (.istore_n 2, 1) := by decide +kernel
theorem ad_Md_image_55 : decode prog_14_method_103_code 55 = .ok (.iload_n 2, 1) := by decide +kernel
theorem ad_Md_image_56 : decode prog_14_method_103_code 56 = .ok (.bipush 14, 2) := by decide +kernel
theorem ad_Md_image_58 : decode prog_14_method_103_code 58 = .ok (.if_icmp .ge 26, 3) := by decide +kernel
theorem ad_Md_image_61 : decode prog_14_method_103_code 61 = .ok (.aload_n 0, 1) := by decide +kernel
theorem ad_Md_image_62 : decode prog_14_method_103_code 62 = .ok (.getfield 32, 3) := by decide +kernel
theorem ad_Md_image_65 : decode prog_14_method_103_code 65 = .ok (.bipush 14, 2) := by decide +kernel
theorem ad_Md_image_67 : decode prog_14_method_103_code 67 = .ok (.iload_n 1, 1) := by decide +kernel
theorem ad_Md_image_68 : decode prog_14_method_103_code 68 = .ok (.imul, 1) := by decide +kernel
theorem ad_Md_image_69 : decode prog_14_method_103_code 69 = .ok (.iload_n 2, 1) := by decide +kernel
theorem ad_Md_image_70 : decode prog_14_method_103_code 70 = .ok (.iadd, 1) := by decide +kernel
theorem ad_Md_image_71 : decode prog_14_method_103_code 71 = .ok (.aload_n 0, 1) := by decide +kernel
theorem ad_Md_image_72 : decode prog_14_method_103_code 72 = .ok (.getfield 25, 3) := by decide +kernel
theorem ad_Md_image_75 : decode prog_14_method_103_code 75 = .ok (.iload_n 2, 1) := by decide +kernel
theorem ad_Md_image_76 : decode prog_14_method_103_code 76 = .ok (.laload, 1) := by decide +kernel
theorem ad_Md_image_77 : decode prog_14_method_103_code 77 = .ok (.lastore, 1) := by decide +kernel
theorem ad_Md_image_78 : decode prog_14_method_103_code 78 = .ok (.iinc 2 1, 3) := by decide +kernel
theorem ad_Md_image_81 : decode prog_14_method_103_code 81 = .ok (.goto (-26), 3) := by decide +kernel
theorem ad_Md_image_84 : decode prog_14_method_103_code 84 = .ok (.aload_n 0, 1) := by decide +kernel
theorem ad_Md_image_85 : decode prog_14_method_103_code 85 = .ok (.getfield 35, 3) := by decide +kernel
theorem ad_Md_image_88 : decode prog_14_method_103_code 88 = .ok (.iload_n 1, 1) := by decide +kernel
theorem ad_Md_image_89 : decode prog_14_method_103_code 89 = .ok (.iconst 1, 1) := by decide +kernel
theorem ad_Md_image_90 : decode prog_14_method_103_code 90 = .ok (.bastore, 1) := by decide +kernel
theorem ad_Md_image_91 : decode prog_14_method_103_code 91 = .ok (.iconst 1, 1) := by decide +kernel
theorem ad_Md_image_92 : decode prog_14_method_103_code 92 = .ok (.ireturn, 1) := by decide +kernel
theorem ad_Md_restore_0 : decode prog_14_method_104_code 0 = .ok (.aload_n 0, 1) := by decide +kernel
theorem ad_Md_restore_1 : decode prog_14_method_104_code 1 = .ok (.iconst 0, 1) := by decide +kernel
theorem ad_Md_restore_2 : decode prog_14_method_104_code 2 = .ok (.putfield 102, 3) := by decide +kernel
theorem ad_Md_restore_5 : decode prog_14_method_104_code 5 = .ok (.aload_n 0, 1) := by decide +kernel
theorem ad_Md_restore_6 : decode prog_14_method_104_code 6 = .ok (.invokevirtual 187, 3) := by decide +kernel
theorem ad_Md_restore_9 : decode prog_14_method_104_code 9 = .ok (.iload_n 1, 1) := by decide +kernel
theorem ad_Md_restore_10 : decode prog_14_method_104_code 10 = .ok (.iconst 0, 1) := by decide +kernel
theorem ad_Md_restore_11 : decode prog_14_method_104_code 11 = .ok (.iconst 1, 1) := by decide +kernel
theorem ad_Md_restore_12 : decode prog_14_method_104_code 12 = .ok (.invokestatic 174, 3) := by decide +kernel
theorem ad_Md_restore_15 : decode prog_14_method_104_code 15 = .ok (.ifCond .eq 12, 3) := by decide +kernel
theorem ad_Md_restore_18 : decode prog_14_method_104_code 18 = .ok (.aload_n 0, 1) := by decide +kernel
theorem ad_Md_restore_19 : decode prog_14_method_104_code 19 = .ok (.getfield 35, 3) := by decide +kernel
theorem ad_Md_restore_22 : decode prog_14_method_104_code 22 = .ok (.iload_n 1, 1) := by decide +kernel
theorem ad_Md_restore_23 : decode prog_14_method_104_code 23 = .ok (.baload, 1) := by decide +kernel
theorem ad_Md_restore_24 : decode prog_14_method_104_code 24 = .ok (.ifCond .ne 5, 3) := by decide +kernel
theorem ad_Md_restore_27 : decode prog_14_method_104_code 27 = .ok (.iconst 0, 1) := by decide +kernel
theorem ad_Md_restore_28 : decode prog_14_method_104_code 28 = .ok (.ireturn, 1) := by decide +kernel
theorem ad_Md_restore_29 : decode prog_14_method_104_code 29 = .ok (.iconst 0, 1) := by decide +kernel
theorem ad_Md_restore_30 : decode prog_14_method_104_code 30 = .ok (.istore_n 2, 1) := by decide +kernel
theorem ad_Md_restore_31 : decode prog_14_method_104_code 31 = .ok (.iload_n 2, 1) := by decide +kernel
theorem ad_Md_restore_32 : decode prog_14_method_104_code 32 = .ok (.sipush 840, 3) := by decide +kernel
theorem ad_Md_restore_35 : decode prog_14_method_104_code 35 = .ok (.if_icmp .ge 27, 3) := by decide +kernel
theorem ad_Md_restore_38 : decode prog_14_method_104_code 38 = .ok (.aload_n 0, 1) := by decide +kernel
theorem ad_Md_restore_39 : decode prog_14_method_104_code 39 = .ok (.getfield 13, 3) := by decide +kernel
theorem ad_Md_restore_42 : decode prog_14_method_104_code 42 = .ok (.iload_n 2, 1) := by decide +kernel
theorem ad_Md_restore_43 : decode prog_14_method_104_code 43 = .ok (.aload_n 0, 1) := by decide +kernel
theorem ad_Md_restore_44 : decode prog_14_method_104_code 44 = .ok (.getfield 22, 3) := by decide +kernel
theorem ad_Md_restore_47 : decode prog_14_method_104_code 47 = .ok (.sipush 840, 3) := by decide +kernel
theorem ad_Md_restore_50 : decode prog_14_method_104_code 50 = .ok (.iload_n 1, 1) := by decide +kernel
theorem ad_Md_restore_51 : decode prog_14_method_104_code 51 = .ok (.imul, 1) := by decide +kernel
theorem ad_Md_restore_52 : decode prog_14_method_104_code 52 = .ok (.iload_n 2, 1) := by decide +kernel
theorem ad_Md_restore_53 : decode prog_14_method_104_code 53 = .ok (.iadd, 1) := by decide +kernel
theorem ad_Md_restore_54 : decode prog_14_method_104_code 54 = .ok (.iaload, 1) := by decide +kernel
theorem ad_Md_restore_55 : decode prog_14_method_104_code 55 = .ok (.iastore, 1) := by decide +kernel
theorem ad_Md_restore_56 : decode prog_14_method_104_code 56 = .ok (.iinc 2 1, 3) := by decide +kernel
theorem ad_Md_restore_59 : decode prog_14_method_104_code 59 = .ok (.goto (-28), 3) := by decide +kernel
theorem ad_Md_restore_62 : decode prog_14_method_104_code 62 = .ok (.iconst 0, 1) := by decide +kernel
theorem ad_Md_restore_63 : decode prog_14_method_104_code 63 = .ok (.istore_n 2, 1) := by decide +kernel
theorem ad_Md_restore_64 : decode prog_14_method_104_code 64 = .ok (.iload_n 2, 1) := by decide +kernel
theorem ad_Md_restore_65 : decode prog_14_method_104_code 65 = .ok (.bipush 14, 2) := by decide +kernel
theorem ad_Md_restore_67 : decode prog_14_method_104_code 67 = .ok (.if_icmp .ge 26, 3) := by decide +kernel
theorem ad_Md_restore_70 : decode prog_14_method_104_code 70 = .ok (.aload_n 0, 1) := by decide +kernel
theorem ad_Md_restore_71 : decode prog_14_method_104_code 71 = .ok (.getfield 25, 3) := by decide +kernel
theorem ad_Md_restore_74 : decode prog_14_method_104_code 74 = .ok (.iload_n 2, 1) := by decide +kernel
theorem ad_Md_restore_75 : decode prog_14_method_104_code 75 = .ok (.aload_n 0, 1) := by decide +kernel
theorem ad_Md_restore_76 : decode prog_14_method_104_code 76 = .ok (.getfield 32, 3) := by decide +kernel
theorem ad_Md_restore_79 : decode prog_14_method_104_code 79 = .ok (.bipush 14, 2) := by decide +kernel
theorem ad_Md_restore_81 : decode prog_14_method_104_code 81 = .ok (.iload_n 1, 1) := by decide +kernel
theorem ad_Md_restore_82 : decode prog_14_method_104_code 82 = .ok (.imul, 1) := by decide +kernel
theorem ad_Md_restore_83 : decode prog_14_method_104_code 83 = .ok (.iload_n 2, 1) := by decide +kernel
theorem ad_Md_restore_84 : decode prog_14_method_104_code 84 = .ok (.iadd, 1) := by decide +kernel
theorem ad_Md_restore_85 : decode prog_14_method_104_code 85 = .ok (.laload, 1) := by decide +kernel
theorem ad_Md_restore_86 : decode prog_14_method_104_code 86 = .ok (.lastore, 1) := by decide +kernel
theorem ad_Md_restore_87 : decode prog_14_method_104_code 87 = .ok (.iinc 2 1, 3) := by decide +kernel
theorem ad_Md_restore_90 : decode prog_14_method_104_code 90 = .ok (.goto (-26), 3) := by decide +kernel
theorem ad_Md_restore_93 : decode prog_14_method_104_code 93 = .ok (.iconst 1, 1) := by decide +kernel
theorem ad_Md_restore_94 : decode prog_14_method_104_code 94 = .ok (.ireturn, 1) := by decide +kernel
theorem ad_Md_count_0 : decode prog_14_method_105_code 0 = .ok (.aload_n 0, 1) := by decide +kernel
theorem ad_Md_count_1 : decode prog_14_method_105_code 1 = .ok (.iconst 0, 1) := by decide +kernel
theorem ad_Md_count_2 : decode prog_14_method_105_code 2 = .ok (.putfield 102, 3) := by decide +kernel
theorem ad_Md_count_5 : decode prog_14_method_105_code 5 = .ok (.aload_n 0, 1) := by decide +kernel
theorem ad_Md_count_6 : decode prog_14_method_105_code 6 = .ok (.invokevirtual 187, 3) := by decide +kernel
theorem ad_Md_count_9 : decode prog_14_method_105_code 9 = .ok (.iload_n 1, 1) := by decide +kernel
theorem ad_Md_count_10 : decode prog_14_method_105_code 10 = .ok (.tableswitch 98 0 7 #[46, 51, 56, 63, 72, 79, 86, 93], 46) := by decide +kernel
theorem ad_Md_count_56 : decode prog_14_method_105_code 56 = .ok (.aload_n 0, 1) := by decide +kernel
theorem ad_Md_count_57 : decode prog_14_method_105_code 57 = .ok (.invokevirtual 198, 3) := by decide +kernel
theorem ad_Md_count_60 : decode prog_14_method_105_code 60 = .ok (.ireturn, 1) := by decide +kernel
theorem ad_Md_count_61 : decode prog_14_method_105_code 61 = .ok (.aload_n 0, 1) := by decide +kernel
theorem ad_Md_count_62 : decode prog_14_method_105_code 62 = .ok (.invokevirtual 201, 3) := by decide +kernel
theorem ad_Md_count_65 : decode prog_14_method_105_code 65 = .ok (.ireturn, 1) := by decide +kernel
theorem ad_Md_count_66 : decode prog_14_method_105_code 66 = .ok (.aload_n 0, 1) := by decide +kernel
theorem ad_Md_count_67 : decode prog_14_method_105_code 67 = .ok (.getfield 13, 3) := by decide +kernel
theorem ad_Md_count_70 : decode prog_14_method_105_code 70 = .ok (.iconst 2, 1) := by decide +kernel
theorem ad_Md_count_71 : decode prog_14_method_105_code 71 = .ok (.iaload, 1) := by decide +kernel
theorem ad_Md_count_72 : decode prog_14_method_105_code 72 = .ok (.ireturn, 1) := by decide +kernel
theorem ad_Md_count_73 : decode prog_14_method_105_code 73 = .ok (.aload_n 0, 1) := by decide +kernel
theorem ad_Md_count_74 : decode prog_14_method_105_code 74 = .ok (.getfield 13, 3) := by decide +kernel
theorem ad_Md_count_77 : decode prog_14_method_105_code 77 = .ok (.sipush 341, 3) := by decide +kernel
theorem ad_Md_count_80 : decode prog_14_method_105_code 80 = .ok (.iaload, 1) := by decide +kernel
theorem ad_Md_count_81 : decode prog_14_method_105_code 81 = .ok (.ireturn, 1) := by decide +kernel
theorem ad_Md_count_82 : decode prog_14_method_105_code 82 = .ok (.aload_n 0, 1) := by decide +kernel
theorem ad_Md_count_83 : decode prog_14_method_105_code 83 = .ok (.getfield 13, 3) := by decide +kernel
theorem ad_Md_count_86 : decode prog_14_method_105_code 86 = .ok (.iconst 3, 1) := by decide +kernel
theorem ad_Md_count_87 : decode prog_14_method_105_code 87 = .ok (.iaload, 1) := by decide +kernel
theorem ad_Md_count_88 : decode prog_14_method_105_code 88 = .ok (.ireturn, 1) := by decide +kernel
theorem ad_Md_count_89 : decode prog_14_method_105_code 89 = .ok (.aload_n 0, 1) := by decide +kernel
theorem ad_Md_count_90 : decode prog_14_method_105_code 90 = .ok (.getfield 13, 3) := by decide +kernel
theorem ad_Md_count_93 : decode prog_14_method_105_code 93 = .ok (.iconst 4, 1) := by decide +kernel
theorem ad_Md_count_94 : decode prog_14_method_105_code 94 = .ok (.iaload, 1) := by decide +kernel
theorem ad_Md_count_95 : decode prog_14_method_105_code 95 = .ok (.ireturn, 1) := by decide +kernel
theorem ad_Md_count_96 : decode prog_14_method_105_code 96 = .ok (.aload_n 0, 1) := by decide +kernel
theorem ad_Md_count_97 : decode prog_14_method_105_code 97 = .ok (.getfield 13, 3) := by decide +kernel
theorem ad_Md_count_100 : decode prog_14_method_105_code 100 = .ok (.iconst 5, 1) := by decide +kernel
theorem ad_Md_count_101 : decode prog_14_method_105_code 101 = .ok (.iaload, 1) := by decide +kernel
theorem ad_Md_count_102 : decode prog_14_method_105_code 102 = .ok (.ireturn, 1) := by decide +kernel
theorem ad_Md_count_103 : decode prog_14_method_105_code 103 = .ok (.aload_n 0, 1) := by decide +kernel
theorem ad_Md_count_104 : decode prog_14_method_105_code 104 = .ok (.getfield 106, 3) := by decide +kernel
theorem ad_Md_count_107 : decode prog_14_method_105_code 107 = .ok (.ireturn, 1) := by decide +kernel
theorem ad_Md_count_108 : decode prog_14_method_105_code 108 = .ok (.iconst (-1), 1) := by decide +kernel
theorem ad_Md_count_109 : decode prog_14_method_105_code 109 = .ok (.ireturn, 1) := by decide +kernel
theorem ad_Ar_fillJ_0 : decode prog_28_method_101_code 0 = .ok (.iconst 0, 1) := by decide +kernel
theorem ad_Ar_fillJ_1 : decode prog_28_method_101_code 1 = .ok (.istore_n 3, 1) := by decide +kernel
theorem ad_Ar_fillJ_2 : decode prog_28_method_101_code 2 = .ok (.aload_n 0, 1) := by decide +kernel
theorem ad_Ar_fillJ_3 : decode prog_28_method_101_code 3 = .ok (.arraylength, 1) := by decide +kernel
theorem ad_Ar_fillJ_4 : decode prog_28_method_101_code 4 = .ok (.istore 4, 2) := by decide +kernel
theorem ad_Ar_fillJ_6 : decode prog_28_method_101_code 6 = .ok (.iload_n 3, 1) := by decide +kernel
theorem ad_Ar_fillJ_7 : decode prog_28_method_101_code 7 = .ok (.iload 4, 2) := by decide +kernel
theorem ad_Ar_fillJ_9 : decode prog_28_method_101_code 9 = .ok (.if_icmp .ge 13, 3) := by decide +kernel
theorem ad_Ar_fillJ_12 : decode prog_28_method_101_code 12 = .ok (.aload_n 0, 1) := by decide +kernel
theorem ad_Ar_fillJ_13 : decode prog_28_method_101_code 13 = .ok (.iload_n 3, 1) := by decide +kernel
theorem ad_Ar_fillJ_14 : decode prog_28_method_101_code 14 = .ok (.lload_n 1, 1) := by decide +kernel
theorem ad_Ar_fillJ_15 : decode prog_28_method_101_code 15 = .ok (.lastore, 1) := by decide +kernel
theorem ad_Ar_fillJ_16 : decode prog_28_method_101_code 16 = .ok (.iinc 3 1, 3) := by decide +kernel
theorem ad_Ar_fillJ_19 : decode prog_28_method_101_code 19 = .ok (.goto (-13), 3) := by decide +kernel
theorem ad_Ar_fillJ_22 : decode prog_28_method_101_code 22 = .ok (.return_, 1) := by decide +kernel
theorem ad_Ar_fillI_0 : decode prog_28_method_103_code 0 = .ok (.iconst 0, 1) := by decide +kernel
theorem ad_Ar_fillI_1 : decode prog_28_method_103_code 1 = .ok (.istore_n 2, 1) := by decide +kernel
theorem ad_Ar_fillI_2 : decode prog_28_method_103_code 2 = .ok (.aload_n 0, 1) := by decide +kernel
theorem ad_Ar_fillI_3 : decode prog_28_method_103_code 3 = .ok (.arraylength, 1) := by decide +kernel
theorem ad_Ar_fillI_4 : decode prog_28_method_103_code 4 = .ok (.istore_n 3, 1) := by decide +kernel
theorem ad_Ar_fillI_5 : decode prog_28_method_103_code 5 = .ok (.iload_n 2, 1) := by decide +kernel
theorem ad_Ar_fillI_6 : decode prog_28_method_103_code 6 = .ok (.iload_n 3, 1) := by decide +kernel
theorem ad_Ar_fillI_7 : decode prog_28_method_103_code 7 = .ok (.if_icmp .ge 13, 3) := by decide +kernel
theorem ad_Ar_fillI_10 : decode prog_28_method_103_code 10 = .ok (.aload_n 0, 1) := by decide +kernel
theorem ad_Ar_fillI_11 : decode prog_28_method_103_code 11 = .ok (.iload_n 2, 1) := by decide +kernel
theorem ad_Ar_fillI_12 : decode prog_28_method_103_code 12 = .ok (.iload_n 1, 1) := by decide +kernel
theorem ad_Ar_fillI_13 : decode prog_28_method_103_code 13 = .ok (.iastore, 1) := by decide +kernel
theorem ad_Ar_fillI_14 : decode prog_28_method_103_code 14 = .ok (.iinc 2 1, 3) := by decide +kernel
theorem ad_Ar_fillI_17 : decode prog_28_method_103_code 17 = .ok (.goto (-12), 3) := by decide +kernel
theorem ad_Ar_fillI_20 : decode prog_28_method_103_code 20 = .ok (.return_, 1) := by decide +kernel
