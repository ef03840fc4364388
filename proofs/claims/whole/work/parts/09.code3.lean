/-! the instructions -/
theorem ad_Nh_said_23 : decode prog_1_method_37_code 23 = .ok (.iload_n 1, 1) := by decide +kernel
theorem ad_Nh_said_24 : decode prog_1_method_37_code 24 = .ok (.aload_n 0, 1) := by decide +kernel
theorem ad_Nh_said_25 : decode prog_1_method_37_code 25 = .ok (.getfield 23, 3) := by decide +kernel
theorem ad_Nh_said_28 : decode prog_1_method_37_code 28 = .ok (.getfield 118, 3) := by decide +kernel
theorem ad_Nh_said_31 : decode prog_1_method_37_code 31 = .ok (.aload_n 0, 1) := by decide +kernel
theorem ad_Nh_said_32 : decode prog_1_method_37_code 32 = .ok (.getfield 23, 3) := by decide +kernel
theorem ad_Nh_said_35 : decode prog_1_method_37_code 35 = .ok (.getfield 130, 3) := by decide +kernel
theorem ad_Nh_said_38 : decode prog_1_method_37_code 38 = .ok (.invokevirtual 143, 3) := by decide +kernel
theorem ad_Nh_said_41 : decode prog_1_method_37_code 41 = .ok (.ifCond .ne 5, 3) := by decide +kernel
theorem ad_Nh_said_44 : decode prog_1_method_37_code 44 = .ok (.iconst (-1), 1) := by decide +kernel
theorem ad_Nh_said_45 : decode prog_1_method_37_code 45 = .ok (.ireturn, 1) := by decide +kernel
theorem ad_Nh_said_46 : decode prog_1_method_37_code 46 = .ok (.aload_n 0, 1) := by decide +kernel
theorem ad_Nh_said_47 : decode prog_1_method_37_code 47 = .ok (.getfield 48, 3) := by decide +kernel
theorem ad_Nh_said_50 : decode prog_1_method_37_code 50 = .ok (.getfield 323, 3) := by decide +kernel
theorem ad_Nh_said_53 : decode prog_1_method_37_code 53 = .ok (.ireturn, 1) := by decide +kernel
theorem ad_Nh_image_0 : decode prog_1_method_38_code 0 = .ok (.iload_n 1, 1) := by decide +kernel
theorem ad_Nh_image_1 : decode prog_1_method_38_code 1 = .ok (.ifCond .lt 12, 3) := by decide +kernel
theorem ad_Nh_image_4 : decode prog_1_method_38_code 4 = .ok (.iload_n 1, 1) := by decide +kernel
theorem ad_Nh_image_5 : decode prog_1_method_38_code 5 = .ok (.aload_n 0, 1) := by decide +kernel
theorem ad_Nh_image_6 : decode prog_1_method_38_code 6 = .ok (.getfield 27, 3) := by decide +kernel
theorem ad_Nh_image_9 : decode prog_1_method_38_code 9 = .ok (.arraylength, 1) := by decide +kernel
theorem ad_Nh_image_10 : decode prog_1_method_38_code 10 = .ok (.if_icmp .lt 5, 3) := by decide +kernel
theorem ad_Nh_image_13 : decode prog_1_method_38_code 13 = .ok (.iconst 0, 1) := by decide +kernel
theorem ad_Nh_image_14 : decode prog_1_method_38_code 14 = .ok (.ireturn, 1) := by decide +kernel
theorem ad_Nh_image_15 : decode prog_1_method_38_code 15 = .ok (.aload_n 0, 1) := by decide +kernel
theorem ad_Nh_image_16 : decode prog_1_method_38_code 16 = .ok (.getfield 27, 3) := by decide +kernel
theorem ad_Nh_image_19 : decode prog_1_method_38_code 19 = .ok (.iload_n 1, 1) := by decide +kernel
theorem ad_Nh_image_20 : decode prog_1_method_38_code 20 = .ok (.aaload, 1) := by decide +kernel
theorem ad_Nh_image_21 : decode prog_1_method_38_code 21 = .ok (.aload_n 0, 1) := by decide +kernel
theorem ad_Nh_image_22 : decode prog_1_method_38_code 22 = .ok (.getfield 23, 3) := by decide +kernel
theorem ad_Nh_image_25 : decode prog_1_method_38_code 25 = .ok (.invokevirtual 326, 3) := by decide +kernel
theorem ad_Nh_image_28 : decode prog_1_method_38_code 28 = .ok (.aload_n 0, 1) := by decide +kernel
theorem ad_Nh_image_29 : decode prog_1_method_38_code 29 = .ok (.getfield 27, 3) := by decide +kernel
theorem ad_Nh_image_32 : decode prog_1_method_38_code 32 = .ok (.iload_n 1, 1) := by decide +kernel
theorem ad_Nh_image_33 : decode prog_1_method_38_code 33 = .ok (.aaload, 1) := by decide +kernel
theorem ad_Nh_image_34 : decode prog_1_method_38_code 34 = .ok (.iconst 1, 1) := by decide +kernel
theorem ad_Nh_image_35 : decode prog_1_method_38_code 35 = .ok (.putfield 329, 3) := by decide +kernel
theorem ad_Nh_image_38 : decode prog_1_method_38_code 38 = .ok (.iconst 1, 1) := by decide +kernel
theorem ad_Nh_image_39 : decode prog_1_method_38_code 39 = .ok (.ireturn, 1) := by decide +kernel
theorem ad_Nh_restore_0 : decode prog_1_method_39_code 0 = .ok (.iload_n 1, 1) := by decide +kernel
theorem ad_Nh_restore_1 : decode prog_1_method_39_code 1 = .ok (.ifCond .lt 24, 3) := by decide +kernel
theorem ad_Nh_restore_4 : decode prog_1_method_39_code 4 = .ok (.iload_n 1, 1) := by decide +kernel
theorem ad_Nh_restore_5 : decode prog_1_method_39_code 5 = .ok (.aload_n 0, 1) := by decide +kernel
theorem ad_Nh_restore_6 : decode prog_1_method_39_code 6 = .ok (.getfield 27, 3) := by decide +kernel
theorem ad_Nh_restore_9 : decode prog_1_method_39_code 9 = .ok (.arraylength, 1) := by decide +kernel
theorem ad_Nh_restore_10 : decode prog_1_method_39_code 10 = .ok (.if_icmp .ge 15, 3) := by decide +kernel
theorem ad_Nh_restore_13 : decode prog_1_method_39_code 13 = .ok (.aload_n 0, 1) := by decide +kernel
theorem ad_Nh_restore_14 : decode prog_1_method_39_code 14 = .ok (.getfield 27, 3) := by decide +kernel
theorem ad_Nh_restore_17 : decode prog_1_method_39_code 17 = .ok (.iload_n 1, 1) := by decide +kernel
theorem ad_Nh_restore_18 : decode prog_1_method_39_code 18 = .ok (.aaload, 1) := by decide +kernel
theorem ad_Nh_restore_19 : decode prog_1_method_39_code 19 = .ok (.getfield 329, 3) := by decide +kernel
theorem ad_Nh_restore_22 : decode prog_1_method_39_code 22 = .ok (.ifCond .ne 5, 3) := by decide +kernel
theorem ad_Nh_restore_25 : decode prog_1_method_39_code 25 = .ok (.iconst 0, 1) := by decide +kernel
theorem ad_Nh_restore_26 : decode prog_1_method_39_code 26 = .ok (.ireturn, 1) := by decide +kernel
theorem ad_Nh_restore_27 : decode prog_1_method_39_code 27 = .ok (.aload_n 0, 1) := by decide +kernel
theorem ad_Nh_restore_28 : decode prog_1_method_39_code 28 = .ok (.getfield 23, 3) := by decide +kernel
theorem ad_Nh_restore_31 : decode prog_1_method_39_code 31 = .ok (.aload_n 0, 1) := by decide +kernel
theorem ad_Nh_restore_32 : decode prog_1_method_39_code 32 = .ok (.getfield 27, 3) := by decide +kernel
theorem ad_Nh_restore_35 : decode prog_1_method_39_code 35 = .ok (.iload_n 1, 1) := by decide +kernel
theorem ad_Nh_restore_36 : decode prog_1_method_39_code 36 = .ok (.aaload, 1) := by decide +kernel
theorem ad_Nh_restore_37 : decode prog_1_method_39_code 37 = .ok (.invokevirtual 326, 3) := by decide +kernel
theorem ad_Nh_restore_40 : decode prog_1_method_39_code 40 = .ok (.iconst 1, 1) := by decide +kernel
theorem ad_Nh_restore_41 : decode prog_1_method_39_code 41 = .ok (.ireturn, 1) := by decide +kernel
theorem ad_Md_thrown_0 : decode prog_14_method_2_code 0 = .ok (.aload_n 0, 1) := by decide +kernel
theorem ad_Md_thrown_1 : decode prog_14_method_2_code 1 = .ok (.getfield 102, 3) := by decide +kernel
theorem ad_Md_thrown_4 : decode prog_14_method_2_code 4 = .ok (.ireturn, 1) := by decide +kernel
theorem ad_Md_refuse_0 : decode prog_14_method_3_code 0 = .ok (.aload_n 0, 1) := by decide +kernel
theorem ad_Md_refuse_1 : decode prog_14_method_3_code 1 = .ok (.iconst 1, 1) := by decide +kernel
theorem ad_Md_refuse_2 : decode prog_14_method_3_code 2 = .ok (.putfield 102, 3) := by decide +kernel
theorem ad_Md_refuse_5 : decode prog_14_method_3_code 5 = .ok (.iconst 0, 1) := by decide +kernel
theorem ad_Md_refuse_6 : decode prog_14_method_3_code 6 = .ok (.ireturn, 1) := by decide +kernel
theorem ad_Md_come_0 : decode prog_14_method_4_code 0 = .ok (.bipush 24, 2) := by decide +kernel
theorem ad_Md_come_2 : decode prog_14_method_4_code 2 = .ok (.istore_n 2, 1) := by decide +kernel
theorem ad_Md_come_3 : decode prog_14_method_4_code 3 = .ok (.iload_n 2, 1) := by decide +kernel
theorem ad_Md_come_4 : decode prog_14_method_4_code 4 = .ok (.ifCond .lt 35, 3) := by decide +kernel
theorem ad_Md_come_7 : decode prog_14_method_4_code 7 = .ok (.aload_n 0, 1) := by decide +kernel
theorem ad_Md_come_8 : decode prog_14_method_4_code 8 = .ok (.getfield 7, 3) := by decide +kernel
theorem ad_Md_come_11 : decode prog_14_method_4_code 11 = .ok (.aload_n 0, 1) := by decide +kernel
theorem ad_Md_come_12 : decode prog_14_method_4_code 12 = .ok (.getfield 106, 3) := by decide +kernel
theorem ad_Md_come_15 : decode prog_14_method_4_code 15 = .ok (.iload_n 1, 1) := by decide +kernel
theorem ad_Md_come_16 : decode prog_14_method_4_code 16 = .ok (.iload_n 2, 1) := by decide +kernel
theorem ad_Md_come_17 : decode prog_14_method_4_code 17 = .ok (.iushr, 1) := by decide +kernel
theorem ad_Md_come_18 : decode prog_14_method_4_code 18 = .ok (.sipush 255, 3) := by decide +kernel
theorem ad_Md_come_21 : decode prog_14_method_4_code 21 = .ok (.iand, 1) := by decide +kernel
theorem ad_Md_come_22 : decode prog_14_method_4_code 22 = .ok (.iastore, 1) := by decide +kernel
theorem ad_Md_come_23 : decode prog_14_method_4_code 23 = .ok (.aload_n 0, 1) := by decide +kernel
theorem ad_Md_come_24 : decode prog_14_method_4_code 24 = .ok (.dup, 1) := by decide +kernel
theorem ad_Md_come_25 : decode prog_14_method_4_code 25 = .ok (.getfield 106, 3) := by decide +kernel
theorem ad_Md_come_28 : decode prog_14_method_4_code 28 = .ok (.iconst 1, 1) := by decide +kernel
theorem ad_Md_come_29 : decode prog_14_method_4_code 29 = .ok (.iadd, 1) := by decide +kernel
theorem ad_Md_come_30 : decode prog_14_method_4_code 30 = .ok (.putfield 106, 3) := by decide +kernel
theorem ad_Md_come_33 : decode prog_14_method_4_code 33 = .ok (.iinc 2 (-8), 3) := by decide +kernel
theorem ad_Md_come_36 : decode prog_14_method_4_code 36 = .ok (.goto (-33), 3) := by decide +kernel
theorem ad_Md_come_39 : decode prog_14_method_4_code 39 = .ok (.return_, 1) := by decide +kernel
theorem ad_Md_feed_0 : decode prog_14_method_5_code 0 = .ok (.aload_n 0, 1) := by decide +kernel
theorem ad_Md_feed_1 : decode prog_14_method_5_code 1 = .ok (.iconst 0, 1) := by decide +kernel
theorem ad_Md_feed_2 : decode prog_14_method_5_code 2 = .ok (.putfield 102, 3) := by decide +kernel
theorem ad_Md_feed_5 : decode prog_14_method_5_code 5 = .ok (.aload_n 0, 1) := by decide +kernel
theorem ad_Md_feed_6 : decode prog_14_method_5_code 6 = .ok (.getfield 106, 3) := by decide +kernel
theorem ad_Md_feed_9 : decode prog_14_method_5_code 9 = .ok (.bipush 20, 2) := by decide +kernel
theorem ad_Md_feed_11 : decode prog_14_method_5_code 11 = .ok (.iadd, 1) := by decide +kernel
theorem ad_Md_feed_12 : decode prog_14_method_5_code 12 = .ok (.sipush 940, 3) := by decide +kernel
theorem ad_Md_feed_15 : decode prog_14_method_5_code 15 = .ok (.if_icmp .le 5, 3) := by decide +kernel
theorem ad_Md_feed_18 : decode prog_14_method_5_code 18 = .ok (.iconst (-1), 1) := by decide +kernel
theorem ad_Md_feed_19 : decode prog_14_method_5_code 19 = .ok (.ireturn, 1) := by decide +kernel
theorem ad_Md_feed_20 : decode prog_14_method_5_code 20 = .ok (.aload_n 0, 1) := by decide +kernel
theorem ad_Md_feed_21 : decode prog_14_method_5_code 21 = .ok (.iload_n 1, 1) := by decide +kernel
theorem ad_Md_feed_22 : decode prog_14_method_5_code 22 = .ok (.invokevirtual 109, 3) := by decide +kernel
theorem ad_Md_feed_25 : decode prog_14_method_5_code 25 = .ok (.aload_n 0, 1) := by decide +kernel
theorem ad_Md_feed_26 : decode prog_14_method_5_code 26 = .ok (.iload_n 2, 1) := by decide +kernel
theorem ad_Md_feed_27 : decode prog_14_method_5_code 27 = .ok (.invokevirtual 109, 3) := by decide +kernel
theorem ad_Md_feed_30 : decode prog_14_method_5_code 30 = .ok (.aload_n 0, 1) := by decide +kernel
theorem ad_Md_feed_31 : decode prog_14_method_5_code 31 = .ok (.iload_n 3, 1) := by decide +kernel
theorem ad_Md_feed_32 : decode prog_14_method_5_code 32 = .ok (.invokevirtual 109, 3) := by decide +kernel
theorem ad_Md_feed_35 : decode prog_14_method_5_code 35 = .ok (.aload_n 0, 1) := by decide +kernel
theorem ad_Md_feed_36 : decode prog_14_method_5_code 36 = .ok (.iload 4, 2) := by decide +kernel
theorem ad_Md_feed_38 : decode prog_14_method_5_code 38 = .ok (.invokevirtual 109, 3) := by decide +kernel
theorem ad_Md_feed_41 : decode prog_14_method_5_code 41 = .ok (.aload_n 0, 1) := by decide +kernel
theorem ad_Md_feed_42 : decode prog_14_method_5_code 42 = .ok (.iload 5, 2) := by decide +kernel
theorem ad_Md_feed_44 : decode prog_14_method_5_code 44 = .ok (.invokevirtual 109, 3) := by decide +kernel
theorem ad_Md_feed_47 : decode prog_14_method_5_code 47 = .ok (.aload_n 0, 1) := by decide +kernel
theorem ad_Md_feed_48 : decode prog_14_method_5_code 48 = .ok (.getfield 106, 3) := by decide +kernel
theorem ad_Md_feed_51 : decode prog_14_method_5_code 51 = .ok (.ireturn, 1) := by decide +kernel
theorem ad_Md_end_0 : decode prog_14_method_6_code 0 = .ok (.aload_n 0, 1) := by decide +kernel
theorem ad_Md_end_1 : decode prog_14_method_6_code 1 = .ok (.iconst 0, 1) := by decide +kernel
theorem ad_Md_end_2 : decode prog_14_method_6_code 2 = .ok (.putfield 102, 3) := by decide +kernel
theorem ad_Md_end_5 : decode prog_14_method_6_code 5 = .ok (.iload_n 1, 1) := by decide +kernel
theorem ad_Md_end_6 : decode prog_14_method_6_code 6 = .ok (.ifCond .lt 11, 3) := by decide +kernel
theorem ad_Md_end_9 : decode prog_14_method_6_code 9 = .ok (.iload_n 1, 1) := by decide +kernel
theorem ad_Md_end_10 : decode prog_14_method_6_code 10 = .ok (.aload_n 0, 1) := by decide +kernel
theorem ad_Md_end_11 : decode prog_14_method_6_code 11 = .ok (.getfield 106, 3) := by decide +kernel
theorem ad_Md_end_14 : decode prog_14_method_6_code 14 = .ok (.if_icmp .le 5, 3) := by decide +kernel
theorem ad_Md_end_17 : decode prog_14_method_6_code 17 = .ok (.iconst 0, 1) := by decide +kernel
theorem ad_Md_end_18 : decode prog_14_method_6_code 18 = .ok (.ireturn, 1) := by decide +kernel
theorem ad_Md_end_19 : decode prog_14_method_6_code 19 = .ok (.aload_n 0, 1) := by decide +kernel
theorem ad_Md_end_20 : decode prog_14_method_6_code 20 = .ok (.iload_n 1, 1) := by decide +kernel
theorem ad_Md_end_21 : decode prog_14_method_6_code 21 = .ok (.putfield 106, 3) := by decide +kernel
theorem ad_Md_end_24 : decode prog_14_method_6_code 24 = .ok (.iconst 1, 1) := by decide +kernel
theorem ad_Md_end_25 : decode prog_14_method_6_code 25 = .ok (.ireturn, 1) := by decide +kernel
theorem ad_Md_take_0 : decode prog_14_method_7_code 0 = .ok (.aload_n 0, 1) := by decide +kernel
theorem ad_Md_take_1 : decode prog_14_method_7_code 1 = .ok (.getfield 106, 3) := by decide +kernel
theorem ad_Md_take_4 : decode prog_14_method_7_code 4 = .ok (.istore_n 1, 1) := by decide +kernel
theorem ad_Md_take_5 : decode prog_14_method_7_code 5 = .ok (.aload_n 0, 1) := by decide +kernel
theorem ad_Md_take_6 : decode prog_14_method_7_code 6 = .ok (.iconst 0, 1) := by decide +kernel
theorem ad_Md_take_7 : decode prog_14_method_7_code 7 = .ok (.putfield 106, 3) := by decide +kernel
theorem ad_Md_take_10 : decode prog_14_method_7_code 10 = .ok (.iload_n 1, 1) := by decide +kernel
theorem ad_Md_take_11 : decode prog_14_method_7_code 11 = .ok (.ireturn, 1) := by decide +kernel
theorem ad_Md_isIn_0 : decode prog_14_method_8_code 0 = .ok (.iload_n 0, 1) := by decide +kernel
theorem ad_Md_isIn_1 : decode prog_14_method_8_code 1 = .ok (.iload_n 1, 1) := by decide +kernel
theorem ad_Md_isIn_2 : decode prog_14_method_8_code 2 = .ok (.if_icmp .lt 12, 3) := by decide +kernel
theorem ad_Md_isIn_5 : decode prog_14_method_8_code 5 = .ok (.iload_n 0, 1) := by decide +kernel
theorem ad_Md_isIn_6 : decode prog_14_method_8_code 6 = .ok (.iload_n 2, 1) := by decide +kernel
theorem ad_Md_isIn_7 : decode prog_14_method_8_code 7 = .ok (.if_icmp .gt 7, 3) := by decide +kernel
theorem ad_Md_isIn_10 : decode prog_14_method_8_code 10 = .ok (.iconst 1, 1) := by decide +kernel
theorem ad_Md_isIn_11 : decode prog_14_method_8_code 11 = .ok (.goto 4, 3) := by decide +kernel
theorem ad_Md_isIn_14 : decode prog_14_method_8_code 14 = .ok (.iconst 0, 1) := by decide +kernel
theorem ad_Md_isIn_15 : decode prog_14_method_8_code 15 = .ok (.ireturn, 1) := by decide +kernel
theorem ad_Md_has_0 : decode prog_14_method_9_code 0 = .ok (.iload_n 0, 1) := by decide +kernel
theorem ad_Md_has_1 : decode prog_14_method_9_code 1 = .ok (.iload_n 1, 1) := by decide +kernel
theorem ad_Md_has_2 : decode prog_14_method_9_code 2 = .ok (.ishr, 1) := by decide +kernel
theorem ad_Md_has_3 : decode prog_14_method_9_code 3 = .ok (.iconst 1, 1) := by decide +kernel
theorem ad_Md_has_4 : decode prog_14_method_9_code 4 = .ok (.iand, 1) := by decide +kernel
theorem ad_Md_has_5 : decode prog_14_method_9_code 5 = .ok (.iconst 1, 1) := by decide +kernel
theorem ad_Md_has_6 : decode prog_14_method_9_code 6 = .ok (.if_icmp .ne 7, 3) := by decide +kernel
theorem ad_Md_has_9 : decode prog_14_method_9_code 9 = .ok (.iconst 1, 1) := by decide +kernel
theorem ad_Md_has_10 : decode prog_14_method_9_code 10 = .ok (.goto 4, 3) := by decide +kernel
theorem ad_Md_has_13 : decode prog_14_method_9_code 13 = .ok (.iconst 0, 1) := by decide +kernel
theorem ad_Md_has_14 : decode prog_14_method_9_code 14 = .ok (.ireturn, 1) := by decide +kernel
theorem ad_Md_byteAt_0 : decode prog_14_method_10_code 0 = .ok (.iload_n 1, 1) := by decide +kernel
theorem ad_Md_byteAt_1 : decode prog_14_method_10_code 1 = .ok (.aload_n 0, 1) := by decide +kernel
theorem ad_Md_byteAt_2 : decode prog_14_method_10_code 2 = .ok (.getfield 113, 3) := by decide +kernel
theorem ad_Md_byteAt_5 : decode prog_14_method_10_code 5 = .ok (.if_icmp .ge 12, 3) := by decide +kernel
theorem ad_Md_byteAt_8 : decode prog_14_method_10_code 8 = .ok (.aload_n 0, 1) := by decide +kernel
theorem ad_Md_byteAt_9 : decode prog_14_method_10_code 9 = .ok (.getfield 7, 3) := by decide +kernel
theorem ad_Md_byteAt_12 : decode prog_14_method_10_code 12 = .ok (.iload_n 1, 1) := by decide +kernel
theorem ad_Md_byteAt_13 : decode prog_14_method_10_code 13 = .ok (.iaload, 1) := by decide +kernel
theorem ad_Md_byteAt_14 : decode prog_14_method_10_code 14 = .ok (.goto 4, 3) := by decide +kernel
theorem ad_Md_byteAt_17 : decode prog_14_method_10_code 17 = .ok (.iconst 0, 1) := by decide +kernel
theorem ad_Md_byteAt_18 : decode prog_14_method_10_code 18 = .ok (.ireturn, 1) := by decide +kernel
theorem ad_Md_isDigit_0 : decode prog_14_method_11_code 0 = .ok (.iload_n 0, 1) := by decide +kernel
theorem ad_Md_isDigit_1 : decode prog_14_method_11_code 1 = .ok (.bipush 48, 2) := by decide +kernel
theorem ad_Md_isDigit_3 : decode prog_14_method_11_code 3 = .ok (.if_icmp .lt 13, 3) := by decide +kernel
theorem ad_Md_isDigit_6 : decode prog_14_method_11_code 6 = .ok (.iload_n 0, 1) := by decide +kernel
theorem ad_Md_isDigit_7 : decode prog_14_method_11_code 7 = .ok (.bipush 57, 2) := by decide +kernel
theorem ad_Md_isDigit_9 : decode prog_14_method_11_code 9 = .ok (.if_icmp .gt 7, 3) := by decide +kernel
theorem ad_Md_isDigit_12 : decode prog_14_method_11_code 12 = .ok (.iconst 1, 1) := by decide +kernel
theorem ad_Md_isDigit_13 : decode prog_14_method_11_code 13 = .ok (.goto 4, 3) := by decide +kernel
theorem ad_Md_isDigit_16 : decode prog_14_method_11_code 16 = .ok (.iconst 0, 1) := by decide +kernel
theorem ad_Md_isDigit_17 : decode prog_14_method_11_code 17 = .ok (.ireturn, 1) := by decide +kernel
theorem ad_Md_isLetter_0 : decode prog_14_method_12_code 0 = .ok (.iload_n 0, 1) := by decide +kernel
theorem ad_Md_isLetter_1 : decode prog_14_method_12_code 1 = .ok (.bipush 97, 2) := by decide +kernel
theorem ad_Md_isLetter_3 : decode prog_14_method_12_code 3 = .ok (.if_icmp .lt 13, 3) := by decide +kernel
theorem ad_Md_isLetter_6 : decode prog_14_method_12_code 6 = .ok (.iload_n 0, 1) := by decide +kernel
theorem ad_Md_isLetter_7 : decode prog_14_method_12_code 7 = .ok (.bipush 122, 2) := by decide +kernel
theorem ad_Md_isLetter_9 : decode prog_14_method_12_code 9 = .ok (.if_icmp .gt 7, 3) := by decide +kernel
theorem ad_Md_isLetter_12 : decode prog_14_method_12_code 12 = .ok (.iconst 1, 1) := by decide +kernel
theorem ad_Md_isLetter_13 : decode prog_14_method_12_code 13 = .ok (.goto 4, 3) := by decide +kernel
theorem ad_Md_isLetter_16 : decode prog_14_method_12_code 16 = .ok (.iconst 0, 1) := by decide +kernel
theorem ad_Md_isLetter_17 : decode prog_14_method_12_code 17 = .ok (.ireturn, 1) := by decide +kernel
theorem ad_Md_go_0 : decode prog_14_method_13_code 0 = .ok (.aload_n 0, 1) := by decide +kernel
theorem ad_Md_go_1 : decode prog_14_method_13_code 1 = .ok (.getfield 116, 3) := by decide +kernel
theorem ad_Md_go_4 : decode prog_14_method_13_code 4 = .ok (.aload_n 0, 1) := by decide +kernel
theorem ad_Md_go_5 : decode prog_14_method_13_code 5 = .ok (.getfield 113, 3) := by decide +kernel
theorem ad_Md_go_8 : decode prog_14_method_13_code 8 = .ok (.if_icmp .ge 44, 3) := by decide +kernel
theorem ad_Md_go_11 : decode prog_14_method_13_code 11 = .ok (.aload_n 0, 1) := by decide +kernel
theorem ad_Md_go_12 : decode prog_14_method_13_code 12 = .ok (.getfield 7, 3) := by decide +kernel
theorem ad_Md_go_15 : decode prog_14_method_13_code 15 = .ok (.aload_n 0, 1) := by decide +kernel
theorem ad_Md_go_16 : decode prog_14_method_13_code 16 = .ok (.getfield 116, 3) := by decide +kernel
theorem ad_Md_go_19 : decode prog_14_method_13_code 19 = .ok (.iaload, 1) := by decide +kernel
theorem ad_Md_go_20 : decode prog_14_method_13_code 20 = .ok (.bipush 32, 2) := by decide +kernel
theorem ad_Md_go_22 : decode prog_14_method_13_code 22 = .ok (.if_icmp .eq 17, 3) := by decide +kernel
theorem ad_Md_go_25 : decode prog_14_method_13_code 25 = .ok (.aload_n 0, 1) := by decide +kernel
theorem ad_Md_go_26 : decode prog_14_method_13_code 26 = .ok (.getfield 7, 3) := by decide +kernel
theorem ad_Md_go_29 : decode prog_14_method_13_code 29 = .ok (.aload_n 0, 1) := by decide +kernel
theorem ad_Md_go_30 : decode prog_14_method_13_code 30 = .ok (.getfield 116, 3) := by decide +kernel
theorem ad_Md_go_33 : decode prog_14_method_13_code 33 = .ok (.iaload, 1) := by decide +kernel
theorem ad_Md_go_34 : decode prog_14_method_13_code 34 = .ok (.bipush 10, 2) := by decide +kernel
theorem ad_Md_go_36 : decode prog_14_method_13_code 36 = .ok (.if_icmp .ne 16, 3) := by decide +kernel
theorem ad_Md_go_39 : decode prog_14_method_13_code 39 = .ok (.aload_n 0, 1) := by decide +kernel
theorem ad_Md_go_40 : decode prog_14_method_13_code 40 = .ok (.dup, 1) := by decide +kernel
theorem ad_Md_go_41 : decode prog_14_method_13_code 41 = .ok (.getfield 116, 3) := by decide +kernel
theorem ad_Md_go_44 : decode prog_14_method_13_code 44 = .ok (.iconst 1, 1) := by decide +kernel
theorem ad_Md_go_45 : decode prog_14_method_13_code 45 = .ok (.iadd, 1) := by decide +kernel
theorem ad_Md_go_46 : decode prog_14_method_13_code 46 = .ok (.putfield 116, 3) := by decide +kernel
theorem ad_Md_go_49 : decode prog_14_method_13_code 49 = .ok (.goto (-49), 3) := by decide +kernel
theorem ad_Md_go_52 : decode prog_14_method_13_code 52 = .ok (.aload_n 0, 1) := by decide +kernel
theorem ad_Md_go_53 : decode prog_14_method_13_code 53 = .ok (.aload_n 0, 1) := by decide +kernel
theorem ad_Md_go_54 : decode prog_14_method_13_code 54 = .ok (.getfield 116, 3) := by decide +kernel
theorem ad_Md_go_57 : decode prog_14_method_13_code 57 = .ok (.putfield 119, 3) := by decide +kernel
theorem ad_Md_go_60 : decode prog_14_method_13_code 60 = .ok (.aload_n 0, 1) := by decide +kernel
theorem ad_Md_go_61 : decode prog_14_method_13_code 61 = .ok (.getfield 113, 3) := by decide +kernel
theorem ad_Md_go_64 : decode prog_14_method_13_code 64 = .ok (.aload_n 0, 1) := by decide +kernel
theorem ad_Md_go_65 : decode prog_14_method_13_code 65 = .ok (.getfield 122, 3) := by decide +kernel
theorem ad_Md_go_68 : decode prog_14_method_13_code 68 = .ok (.if_icmp .le 28, 3) := by decide +kernel
theorem ad_Md_go_71 : decode prog_14_method_13_code 71 = .ok (.aload_n 0, 1) := by decide +kernel
theorem ad_Md_go_72 : decode prog_14_method_13_code 72 = .ok (.getfield 119, 3) := by decide +kernel
theorem ad_Md_go_75 : decode prog_14_method_13_code 75 = .ok (.aload_n 0, 1) := by decide +kernel
theorem ad_Md_go_76 : decode prog_14_method_13_code 76 = .ok (.getfield 122, 3) := by decide +kernel
theorem ad_Md_go_79 : decode prog_14_method_13_code 79 = .ok (.if_icmp .lt 17, 3) := by decide +kernel
theorem ad_Md_go_82 : decode prog_14_method_13_code 82 = .ok (.aload_n 0, 1) := by decide +kernel
theorem ad_Md_go_83 : decode prog_14_method_13_code 83 = .ok (.aload_n 0, 1) := by decide +kernel
theorem ad_Md_go_84 : decode prog_14_method_13_code 84 = .ok (.getfield 122, 3) := by decide +kernel
theorem ad_Md_go_87 : decode prog_14_method_13_code 87 = .ok (.putfield 119, 3) := by decide +kernel
theorem ad_Md_go_90 : decode prog_14_method_13_code 90 = .ok (.aload_n 0, 1) := by decide +kernel
theorem ad_Md_go_91 : decode prog_14_method_13_code 91 = .ok (.iconst 1, 1) := by decide +kernel
theorem ad_Md_go_92 : decode prog_14_method_13_code 92 = .ok (.putfield 125, 3) := by decide +kernel
theorem ad_Md_go_95 : decode prog_14_method_13_code 95 = .ok (.return_, 1) := by decide +kernel
theorem ad_Md_go_96 : decode prog_14_method_13_code 96 = .ok (.aload_n 0, 1) := by decide +kernel
theorem ad_Md_go_97 : decode prog_14_method_13_code 97 = .ok (.getfield 116, 3) := by decide +kernel
theorem ad_Md_go_100 : decode prog_14_method_13_code 100 = .ok (.aload_n 0, 1) := by decide +kernel
theorem ad_Md_go_101 : decode prog_14_method_13_code 101 = .ok (.getfield 113, 3) := by decide +kernel
theorem ad_Md_go_104 : decode prog_14_method_13_code 104 = .ok (.if_icmp .lt 9, 3) := by decide +kernel
theorem ad_Md_go_107 : decode prog_14_method_13_code 107 = .ok (.aload_n 0, 1) := by decide +kernel
theorem ad_Md_go_108 : decode prog_14_method_13_code 108 = .ok (.iconst 0, 1) := by decide +kernel
theorem ad_Md_go_109 : decode prog_14_method_13_code 109 = .ok (.putfield 125, 3) := by decide +kernel
theorem ad_Md_go_112 : decode prog_14_method_13_code 112 = .ok (.return_, 1) := by decide +kernel
theorem ad_Md_go_113 : decode prog_14_method_13_code 113 = .ok (.aload_n 0, 1) := by decide +kernel
theorem ad_Md_go_114 : decode prog_14_method_13_code 114 = .ok (.getfield 7, 3) := by decide +kernel
theorem ad_Md_go_117 : decode prog_14_method_13_code 117 = .ok (.aload_n 0, 1) := by decide +kernel
theorem ad_Md_go_118 : decode prog_14_method_13_code 118 = .ok (.getfield 116, 3) := by decide +kernel
theorem ad_Md_go_121 : decode prog_14_method_13_code 121 = .ok (.iaload, 1) := by decide +kernel
theorem ad_Md_go_122 : decode prog_14_method_13_code 122 = .ok (.istore_n 1, 1) := by decide +kernel
theorem ad_Md_go_123 : decode prog_14_method_13_code 123 = .ok (.iload_n 1, 1) := by decide +kernel
theorem ad_Md_go_124 : decode prog_14_method_13_code 124 = .ok (.invokestatic 128, 3) := by decide +kernel
theorem ad_Md_go_127 : decode prog_14_method_13_code 127 = .ok (.ifCond .ne 71, 3) := by decide +kernel
theorem ad_Md_go_130 : decode prog_14_method_13_code 130 = .ok (.iload_n 1, 1) := by decide +kernel
theorem ad_Md_go_131 : decode prog_14_method_13_code 131 = .ok (.invokestatic 132, 3) := by decide +kernel
theorem ad_Md_go_134 : decode prog_14_method_13_code 134 = .ok (.ifCond .ne 64, 3) := by decide +kernel
theorem ad_Md_go_137 : decode prog_14_method_13_code 137 = .ok (.aload_n 0, 1) := by decide +kernel
theorem ad_Md_go_138 : decode prog_14_method_13_code 138 = .ok (.iload_n 1, 1) := by decide +kernel
theorem ad_Md_go_139 : decode prog_14_method_13_code 139 = .ok (.bipush 59, 2) := by decide +kernel
theorem ad_Md_go_141 : decode prog_14_method_13_code 141 = .ok (.if_icmp .eq 33, 3) := by decide +kernel
theorem ad_Md_go_144 : decode prog_14_method_13_code 144 = .ok (.iload_n 1, 1) := by decide +kernel
theorem ad_Md_go_145 : decode prog_14_method_13_code 145 = .ok (.bipush 60, 2) := by decide +kernel
theorem ad_Md_go_147 : decode prog_14_method_13_code 147 = .ok (.if_icmp .eq 27, 3) := by decide +kernel
theorem ad_Md_go_150 : decode prog_14_method_13_code 150 = .ok (.iload_n 1, 1) := by decide +kernel
theorem ad_Md_go_151 : decode prog_14_method_13_code 151 = .ok (.bipush 61, 2) := by decide +kernel
theorem ad_Md_go_153 : decode prog_14_method_13_code 153 = .ok (.if_icmp .eq 21, 3) := by decide +kernel
theorem ad_Md_go_156 : decode prog_14_method_13_code 156 = .ok (.iload_n 1, 1) := by decide +kernel
theorem ad_Md_go_157 : decode prog_14_method_13_code 157 = .ok (.bipush 62, 2) := by decide +kernel
theorem ad_Md_go_159 : decode prog_14_method_13_code 159 = .ok (.if_icmp .eq 15, 3) := by decide +kernel
theorem ad_Md_go_162 : decode prog_14_method_13_code 162 = .ok (.iload_n 1, 1) := by decide +kernel
theorem ad_Md_go_163 : decode prog_14_method_13_code 163 = .ok (.bipush 40, 2) := by decide +kernel
theorem ad_Md_go_165 : decode prog_14_method_13_code 165 = .ok (.if_icmp .eq 9, 3) := by decide +kernel
theorem ad_Md_go_168 : decode prog_14_method_13_code 168 = .ok (.iload_n 1, 1) := by decide +kernel
theorem ad_Md_go_169 : decode prog_14_method_13_code 169 = .ok (.bipush 41, 2) := by decide +kernel
theorem ad_Md_go_171 : decode prog_14_method_13_code 171 = .ok (.if_icmp .ne 7, 3) := by decide +kernel
theorem ad_Md_go_174 : decode prog_14_method_13_code 174 = .ok (.iconst 4, 1) := by decide +kernel
theorem ad_Md_go_175 : decode prog_14_method_13_code 175 = .ok (.goto 4, 3) := by decide +kernel
theorem ad_Md_go_178 : decode prog_14_method_13_code 178 = .ok (.iconst 1, 1) := by decide +kernel
theorem ad_Md_go_179 : decode prog_14_method_13_code 179 = .ok (.putfield 125, 3) := by decide +kernel
theorem ad_Md_go_182 : decode prog_14_method_13_code 182 = .ok (.aload_n 0, 1) := by decide +kernel
theorem ad_Md_go_183 : decode prog_14_method_13_code 183 = .ok (.iload_n 1, 1) := by decide +kernel
theorem ad_Md_go_184 : decode prog_14_method_13_code 184 = .ok (.putfield 135, 3) := by decide +kernel
theorem ad_Md_go_187 : decode prog_14_method_13_code 187 = .ok (.aload_n 0, 1) := by decide +kernel
theorem ad_Md_go_188 : decode prog_14_method_13_code 188 = .ok (.dup, 1) := by decide +kernel
theorem ad_Md_go_189 : decode prog_14_method_13_code 189 = .ok (.getfield 116, 3) := by decide +kernel
theorem ad_Md_go_192 : decode prog_14_method_13_code 192 = .ok (.iconst 1, 1) := by decide +kernel
theorem ad_Md_go_193 : decode prog_14_method_13_code 193 = .ok (.iadd, 1) := by decide +kernel
theorem ad_Md_go_194 : decode prog_14_method_13_code 194 = .ok (.putfield 116, 3) := by decide +kernel
theorem ad_Md_go_197 : decode prog_14_method_13_code 197 = .ok (.return_, 1) := by decide +kernel
theorem ad_Md_go_198 : decode prog_14_method_13_code 198 = .ok (.iload_n 1, 1) := by decide +kernel
theorem ad_Md_go_199 : decode prog_14_method_13_code 199 = .ok (.invokestatic 128, 3) := by decide +kernel
theorem ad_Md_go_202 : decode prog_14_method_13_code 202 = .ok (.istore_n 2, 1) := by decide +kernel
theorem ad_Md_go_203 : decode prog_14_method_13_code 203 = .ok (.iconst 1, 1) := by decide +kernel
theorem ad_Md_go_204 : decode prog_14_method_13_code 204 = .ok (.istore_n 3, 1) := by decide +kernel
theorem ad_Md_go_205 : decode prog_14_method_13_code 205 = .ok (.aload_n 0, 1) := by decide +kernel
theorem ad_Md_go_206 : decode prog_14_method_13_code 206 = .ok (.lconst 0, 1) := by decide +kernel
theorem ad_Md_go_207 : decode prog_14_method_13_code 207 = .ok (.putfield 138, 3) := by decide +kernel
theorem ad_Md_go_210 : decode prog_14_method_13_code 210 = .ok (.aload_n 0, 1) := by decide +kernel
theorem ad_Md_go_211 : decode prog_14_method_13_code 211 = .ok (.iconst 0, 1) := by decide +kernel
theorem ad_Md_go_212 : decode prog_14_method_13_code 212 = .ok (.putfield 142, 3) := by decide +kernel
theorem ad_Md_go_215 : decode prog_14_method_13_code 215 = .ok (.aload_n 0, 1) := by decide +kernel
theorem ad_Md_go_216 : decode prog_14_method_13_code 216 = .ok (.aload_n 0, 1) := by decide +kernel
theorem ad_Md_go_217 : decode prog_14_method_13_code 217 = .ok (.getfield 116, 3) := by decide +kernel
theorem ad_Md_go_220 : decode prog_14_method_13_code 220 = .ok (.invokevirtual 145, 3) := by decide +kernel
theorem ad_Md_go_223 : decode prog_14_method_13_code 223 = .ok (.invokestatic 128, 3) := by decide +kernel
theorem ad_Md_go_226 : decode prog_14_method_13_code 226 = .ok (.ifCond .ne 17, 3) := by decide +kernel
theorem ad_Md_go_229 : decode prog_14_method_13_code 229 = .ok (.aload_n 0, 1) := by decide +kernel
theorem ad_Md_go_230 : decode prog_14_method_13_code 230 = .ok (.aload_n 0, 1) := by decide +kernel
theorem ad_Md_go_231 : decode prog_14_method_13_code 231 = .ok (.getfield 116, 3) := by decide +kernel
theorem ad_Md_go_234 : decode prog_14_method_13_code 234 = .ok (.invokevirtual 145, 3) := by decide +kernel
theorem ad_Md_go_237 : decode prog_14_method_13_code 237 = .ok (.invokestatic 132, 3) := by decide +kernel
theorem ad_Md_go_240 : decode prog_14_method_13_code 240 = .ok (.ifCond .eq 110, 3) := by decide +kernel
theorem ad_Md_go_243 : decode prog_14_method_13_code 243 = .ok (.aload_n 0, 1) := by decide +kernel
theorem ad_Md_go_244 : decode prog_14_method_13_code 244 = .ok (.getfield 7, 3) := by decide +kernel
theorem ad_Md_go_247 : decode prog_14_method_13_code 247 = .ok (.aload_n 0, 1) := by decide +kernel
theorem ad_Md_go_248 : decode prog_14_method_13_code 248 = .ok (.getfield 116, 3) := by decide +kernel
theorem ad_Md_go_251 : decode prog_14_method_13_code 251 = .ok (.iaload, 1) := by decide +kernel
theorem ad_Md_go_252 : decode prog_14_method_13_code 252 = .ok (.istore 4, 2) := by decide +kernel
theorem ad_Md_go_254 : decode prog_14_method_13_code 254 = .ok (.iload_n 3, 1) := by decide +kernel
theorem ad_Md_go_255 : decode prog_14_method_13_code 255 = .ok (.ifCond .eq 16, 3) := by decide +kernel
theorem ad_Md_go_258 : decode prog_14_method_13_code 258 = .ok (.iload 4, 2) := by decide +kernel
theorem ad_Md_go_260 : decode prog_14_method_13_code 260 = .ok (.invokestatic 128, 3) := by decide +kernel
theorem ad_Md_go_263 : decode prog_14_method_13_code 263 = .ok (.iload_n 2, 1) := by decide +kernel
theorem ad_Md_go_264 : decode prog_14_method_13_code 264 = .ok (.if_icmp .ne 7, 3) := by decide +kernel
theorem ad_Md_go_267 : decode prog_14_method_13_code 267 = .ok (.iconst 1, 1) := by decide +kernel
theorem ad_Md_go_268 : decode prog_14_method_13_code 268 = .ok (.goto 4, 3) := by decide +kernel
theorem ad_Md_go_271 : decode prog_14_method_13_code 271 = .ok (.iconst 0, 1) := by decide +kernel
theorem ad_Md_go_272 : decode prog_14_method_13_code 272 = .ok (.istore_n 3, 1) := by decide +kernel
theorem ad_Md_go_273 : decode prog_14_method_13_code 273 = .ok (.aload_n 0, 1) := by decide +kernel
theorem ad_Md_go_274 : decode prog_14_method_13_code 274 = .ok (.getfield 116, 3) := by decide +kernel
theorem ad_Md_go_277 : decode prog_14_method_13_code 277 = .ok (.aload_n 0, 1) := by decide +kernel
theorem ad_Md_go_278 : decode prog_14_method_13_code 278 = .ok (.getfield 119, 3) := by decide +kernel
theorem ad_Md_go_281 : decode prog_14_method_13_code 281 = .ok (.isub, 1) := by decide +kernel
theorem ad_Md_go_282 : decode prog_14_method_13_code 282 = .ok (.bipush 6, 2) := by decide +kernel
theorem ad_Md_go_284 : decode prog_14_method_13_code 284 = .ok (.if_icmp .ge 23, 3) := by decide +kernel
theorem ad_Md_go_287 : decode prog_14_method_13_code 287 = .ok (.aload_n 0, 1) := by decide +kernel
theorem ad_Md_go_288 : decode prog_14_method_13_code 288 = .ok (.ldc2_w 149, 3) := by decide +kernel
theorem ad_Md_go_291 : decode prog_14_method_13_code 291 = .ok (.aload_n 0, 1) := by decide +kernel
theorem ad_Md_go_292 : decode prog_14_method_13_code 292 = .ok (.getfield 138, 3) := by decide +kernel
theorem ad_Md_go_295 : decode prog_14_method_13_code 295 = .ok (.lmul, 1) := by decide +kernel
theorem ad_Md_go_296 : decode prog_14_method_13_code 296 = .ok (.iload 4, 2) := by decide +kernel
theorem ad_Md_go_298 : decode prog_14_method_13_code 298 = .ok (.i2l, 1) := by decide +kernel
theorem ad_Md_go_299 : decode prog_14_method_13_code 299 = .ok (.ladd, 1) := by decide +kernel
theorem ad_Md_go_300 : decode prog_14_method_13_code 300 = .ok (.ldc2_w 151, 3) := by decide +kernel
theorem ad_Md_go_303 : decode prog_14_method_13_code 303 = .ok (.lsub, 1) := by decide +kernel
theorem ad_Md_go_304 : decode prog_14_method_13_code 304 = .ok (.putfield 138, 3) := by decide +kernel
theorem ad_Md_go_307 : decode prog_14_method_13_code 307 = .ok (.aload_n 0, 1) := by decide +kernel
theorem ad_Md_go_308 : decode prog_14_method_13_code 308 = .ok (.getfield 116, 3) := by decide +kernel
theorem ad_Md_go_311 : decode prog_14_method_13_code 311 = .ok (.aload_n 0, 1) := by decide +kernel
theorem ad_Md_go_312 : decode prog_14_method_13_code 312 = .ok (.getfield 119, 3) := by decide +kernel
theorem ad_Md_go_315 : decode prog_14_method_13_code 315 = .ok (.isub, 1) := by decide +kernel
theorem ad_Md_go_316 : decode prog_14_method_13_code 316 = .ok (.iconst 3, 1) := by decide +kernel
theorem ad_Md_go_317 : decode prog_14_method_13_code 317 = .ok (.if_icmp .ge 20, 3) := by decide +kernel
theorem ad_Md_go_320 : decode prog_14_method_13_code 320 = .ok (.aload_n 0, 1) := by decide +kernel
theorem ad_Md_go_321 : decode prog_14_method_13_code 321 = .ok (.bipush 10, 2) := by decide +kernel
theorem ad_Md_go_323 : decode prog_14_method_13_code 323 = .ok (.aload_n 0, 1) := by decide +kernel
theorem ad_Md_go_324 : decode prog_14_method_13_code 324 = .ok (.getfield 142, 3) := by decide +kernel
theorem ad_Md_go_327 : decode prog_14_method_13_code 327 = .ok (.imul, 1) := by decide +kernel
theorem ad_Md_go_328 : decode prog_14_method_13_code 328 = .ok (.iload 4, 2) := by decide +kernel
theorem ad_Md_go_330 : decode prog_14_method_13_code 330 = .ok (.iadd, 1) := by decide +kernel
theorem ad_Md_go_331 : decode prog_14_method_13_code 331 = .ok (.bipush 48, 2) := by decide +kernel
theorem ad_Md_go_333 : decode prog_14_method_13_code 333 = .ok (.isub, 1) := by decide +kernel
theorem ad_Md_go_334 : decode prog_14_method_13_code 334 = .ok (.putfield 142, 3) := by decide +kernel
theorem ad_Md_go_337 : decode prog_14_method_13_code 337 = .ok (.aload_n 0, 1) := by decide +kernel
theorem ad_Md_go_338 : decode prog_14_method_13_code 338 = .ok (.dup, 1) := by decide +kernel
theorem ad_Md_go_339 : decode prog_14_method_13_code 339 = .ok (.getfield 116, 3) := by decide +kernel
theorem ad_Md_go_342 : decode prog_14_method_13_code 342 = .ok (.iconst 1, 1) := by decide +kernel
theorem ad_Md_go_343 : decode prog_14_method_13_code 343 = .ok (.iadd, 1) := by decide +kernel
theorem ad_Md_go_344 : decode prog_14_method_13_code 344 = .ok (.putfield 116, 3) := by decide +kernel
theorem ad_Md_go_347 : decode prog_14_method_13_code 347 = .ok (.goto (-132), 3) := by decide +kernel
theorem ad_Md_go_350 : decode prog_14_method_13_code 350 = .ok (.aload_n 0, 1) := by decide +kernel
theorem ad_Md_go_351 : decode prog_14_method_13_code 351 = .ok (.iload_n 3, 1) := by decide +kernel
theorem ad_Md_go_352 : decode prog_14_method_13_code 352 = .ok (.ifCond .eq 25, 3) := by decide +kernel
theorem ad_Md_go_355 : decode prog_14_method_13_code 355 = .ok (.aload_n 0, 1) := by decide +kernel
theorem ad_Md_go_356 : decode prog_14_method_13_code 356 = .ok (.getfield 116, 3) := by decide +kernel
theorem ad_Md_go_359 : decode prog_14_method_13_code 359 = .ok (.aload_n 0, 1) := by decide +kernel
theorem ad_Md_go_360 : decode prog_14_method_13_code 360 = .ok (.getfield 119, 3) := by decide +kernel
theorem ad_Md_go_363 : decode prog_14_method_13_code 363 = .ok (.isub, 1) := by decide +kernel
theorem ad_Md_go_364 : decode prog_14_method_13_code 364 = .ok (.iload_n 2, 1) := by decide +kernel
theorem ad_Md_go_365 : decode prog_14_method_13_code 365 = .ok (.ifCond .eq 8, 3) := by decide +kernel
theorem ad_Md_go_368 : decode prog_14_method_13_code 368 = .ok (.bipush 6, 2) := by decide +kernel
theorem ad_Md_go_370 : decode prog_14_method_13_code 370 = .ok (.goto 4, 3) := by decide +kernel
theorem ad_Md_go_373 : decode prog_14_method_13_code 373 = .ok (.iconst 3, 1) := by decide +kernel
theorem ad_Md_go_374 : decode prog_14_method_13_code 374 = .ok (.if_icmp .le 7, 3) := by decide +kernel
theorem ad_Md_go_377 : decode prog_14_method_13_code 377 = .ok (.iconst 1, 1) := by decide +kernel
theorem ad_Md_go_378 : decode prog_14_method_13_code 378 = .ok (.goto 12, 3) := by decide +kernel
theorem ad_Md_go_381 : decode prog_14_method_13_code 381 = .ok (.iload_n 2, 1) := by decide +kernel
theorem ad_Md_go_382 : decode prog_14_method_13_code 382 = .ok (.ifCond .eq 7, 3) := by decide +kernel
theorem ad_Md_go_385 : decode prog_14_method_13_code 385 = .ok (.iconst 2, 1) := by decide +kernel
theorem ad_Md_go_386 : decode prog_14_method_13_code 386 = .ok (.goto 4, 3) := by decide +kernel
theorem ad_Md_go_389 : decode prog_14_method_13_code 389 = .ok (.iconst 3, 1) := by decide +kernel
theorem ad_Md_go_390 : decode prog_14_method_13_code 390 = .ok (.putfield 125, 3) := by decide +kernel
theorem ad_Md_go_393 : decode prog_14_method_13_code 393 = .ok (.return_, 1) := by decide +kernel
theorem ad_Md_spelt_0 : decode prog_14_method_14_code 0 = .ok (.ldc2_w 149, 3) := by decide +kernel
theorem ad_Md_spelt_3 : decode prog_14_method_14_code 3 = .ok (.iload_n 0, 1) := by decide +kernel
theorem ad_Md_spelt_4 : decode prog_14_method_14_code 4 = .ok (.i2l, 1) := by decide +kernel
theorem ad_Md_spelt_5 : decode prog_14_method_14_code 5 = .ok (.ldc2_w 151, 3) := by decide +kernel
theorem ad_Md_spelt_8 : decode prog_14_method_14_code 8 = .ok (.lsub, 1) := by decide +kernel
theorem ad_Md_spelt_9 : decode prog_14_method_14_code 9 = .ok (.lmul, 1) := by decide +kernel
theorem ad_Md_spelt_10 : decode prog_14_method_14_code 10 = .ok (.iload_n 1, 1) := by decide +kernel
theorem ad_Md_spelt_11 : decode prog_14_method_14_code 11 = .ok (.i2l, 1) := by decide +kernel
theorem ad_Md_spelt_12 : decode prog_14_method_14_code 12 = .ok (.ladd, 1) := by decide +kernel
theorem ad_Md_spelt_13 : decode prog_14_method_14_code 13 = .ok (.ldc2_w 151, 3) := by decide +kernel
theorem ad_Md_spelt_16 : decode prog_14_method_14_code 16 = .ok (.lsub, 1) := by decide +kernel
theorem ad_Md_spelt_17 : decode prog_14_method_14_code 17 = .ok (.lstore 4, 2) := by decide +kernel
theorem ad_Md_spelt_19 : decode prog_14_method_14_code 19 = .ok (.iload_n 2, 1) := by decide +kernel
theorem ad_Md_spelt_20 : decode prog_14_method_14_code 20 = .ok (.ifCond .le 18, 3) := by decide +kernel
theorem ad_Md_spelt_23 : decode prog_14_method_14_code 23 = .ok (.ldc2_w 149, 3) := by decide +kernel
theorem ad_Md_spelt_26 : decode prog_14_method_14_code 26 = .ok (.lload 4, 2) := by decide +kernel
theorem ad_Md_spelt_28 : decode prog_14_method_14_code 28 = .ok (.lmul, 1) := by decide +kernel
theorem ad_Md_spelt_29 : decode prog_14_method_14_code 29 = .ok (.iload_n 2, 1) := by decide +kernel
theorem ad_Md_spelt_30 : decode prog_14_method_14_code 30 = .ok (.i2l, 1) := by decide +kernel
theorem ad_Md_spelt_31 : decode prog_14_method_14_code 31 = .ok (.ladd, 1) := by decide +kernel
theorem ad_Md_spelt_32 : decode prog_14_method_14_code 32 = .ok (.ldc2_w 151, 3) := by decide +kernel
theorem ad_Md_spelt_35 : decode prog_14_method_14_code 35 = .ok (.lsub, 1) := by decide +kernel
theorem ad_Md_spelt_36 : decode prog_14_method_14_code 36 = .ok (.lstore 4, 2) := by decide +kernel
theorem ad_Md_spelt_38 : decode prog_14_method_14_code 38 = .ok (.iload_n 3, 1) := by decide +kernel
theorem ad_Md_spelt_39 : decode prog_14_method_14_code 39 = .ok (.ifCond .le 19, 3) := by decide +kernel
theorem ad_Md_spelt_42 : decode prog_14_method_14_code 42 = .ok (.ldc2_w 149, 3) := by decide +kernel
theorem ad_Md_spelt_45 : decode prog_14_method_14_code 45 = .ok (.lload 4, 2) := by decide +kernel
theorem ad_Md_spelt_47 : decode prog_14_method_14_code 47 = .ok (.lmul, 1) := by decide +kernel
theorem ad_Md_spelt_48 : decode prog_14_method_14_code 48 = .ok (.iload_n 3, 1) := by decide +kernel
theorem ad_Md_spelt_49 : decode prog_14_method_14_code 49 = .ok (.i2l, 1) := by decide +kernel
theorem ad_Md_spelt_50 : decode prog_14_method_14_code 50 = .ok (.ladd, 1) := by decide +kernel
theorem ad_Md_spelt_51 : decode prog_14_method_14_code 51 = .ok (.ldc2_w 151, 3) := by decide +kernel
theorem ad_Md_spelt_54 : decode prog_14_method_14_code 54 = .ok (.lsub, 1) := by decide +kernel
theorem ad_Md_spelt_55 : decode prog_14_method_14_code 55 = .ok (.goto 5, 3) := by decide +kernel
theorem ad_Md_spelt_58 : decode prog_14_method_14_code 58 = .ok (.lload 4, 2) := by decide +kernel
theorem ad_Md_spelt_60 : decode prog_14_method_14_code 60 = .ok (.lreturn, 1) := by decide +kernel
theorem ad_Md_on_0 : decode prog_14_method_15_code 0 = .ok (.ldc2_w 149, 3) := by decide +kernel
theorem ad_Md_on_3 : decode prog_14_method_15_code 3 = .ok (.lload_n 0, 1) := by decide +kernel
theorem ad_Md_on_4 : decode prog_14_method_15_code 4 = .ok (.lmul, 1) := by decide +kernel
theorem ad_Md_on_5 : decode prog_14_method_15_code 5 = .ok (.iload_n 2, 1) := by decide +kernel
theorem ad_Md_on_6 : decode prog_14_method_15_code 6 = .ok (.i2l, 1) := by decide +kernel
theorem ad_Md_on_7 : decode prog_14_method_15_code 7 = .ok (.ladd, 1) := by decide +kernel
theorem ad_Md_on_8 : decode prog_14_method_15_code 8 = .ok (.ldc2_w 151, 3) := by decide +kernel
theorem ad_Md_on_11 : decode prog_14_method_15_code 11 = .ok (.lsub, 1) := by decide +kernel
theorem ad_Md_on_12 : decode prog_14_method_15_code 12 = .ok (.lstore 4, 2) := by decide +kernel
theorem ad_Md_on_14 : decode prog_14_method_15_code 14 = .ok (.iload_n 3, 1) := by decide +kernel
theorem ad_Md_on_15 : decode prog_14_method_15_code 15 = .ok (.ifCond .le 19, 3) := by decide +kernel
theorem ad_Md_on_18 : decode prog_14_method_15_code 18 = .ok (.ldc2_w 149, 3) := by decide +kernel
theorem ad_Md_on_21 : decode prog_14_method_15_code 21 = .ok (.lload 4, 2) := by decide +kernel
theorem ad_Md_on_23 : decode prog_14_method_15_code 23 = .ok (.lmul, 1) := by decide +kernel
theorem ad_Md_on_24 : decode prog_14_method_15_code 24 = .ok (.iload_n 3, 1) := by decide +kernel
theorem ad_Md_on_25 : decode prog_14_method_15_code 25 = .ok (.i2l, 1) := by decide +kernel
theorem ad_Md_on_26 : decode prog_14_method_15_code 26 = .ok (.ladd, 1) := by decide +kernel
theorem ad_Md_on_27 : decode prog_14_method_15_code 27 = .ok (.ldc2_w 151, 3) := by decide +kernel
theorem ad_Md_on_30 : decode prog_14_method_15_code 30 = .ok (.lsub, 1) := by decide +kernel
theorem ad_Md_on_31 : decode prog_14_method_15_code 31 = .ok (.goto 5, 3) := by decide +kernel
theorem ad_Md_on_34 : decode prog_14_method_15_code 34 = .ok (.lload 4, 2) := by decide +kernel
theorem ad_Md_on_36 : decode prog_14_method_15_code 36 = .ok (.lreturn, 1) := by decide +kernel
theorem ad_Md_wordOf_0 : decode prog_14_method_16_code 0 = .ok (.iload_n 0, 1) := by decide +kernel
theorem ad_Md_wordOf_1 : decode prog_14_method_16_code 1 = .ok (.tableswitch 456 0 22 #[107, 119, 138, 157, 169, 187, 198, 210, 221, 239, 251, 269, 288, 307, 326, 336, 347, 358, 376, 388, 407, 419, 438], 107) := by decide +kernel
theorem ad_Md_wordOf_108 : decode prog_14_method_16_code 108 = .ok (.bipush 104, 2) := by decide +kernel
theorem ad_Md_wordOf_110 : decode prog_14_method_16_code 110 = .ok (.bipush 101, 2) := by decide +kernel
theorem ad_Md_wordOf_112 : decode prog_14_method_16_code 112 = .ok (.bipush 108, 2) := by decide +kernel
theorem ad_Md_wordOf_114 : decode prog_14_method_16_code 114 = .ok (.bipush 112, 2) := by decide +kernel
theorem ad_Md_wordOf_116 : decode prog_14_method_16_code 116 = .ok (.invokestatic 153, 3) := by decide +kernel
theorem ad_Md_wordOf_119 : decode prog_14_method_16_code 119 = .ok (.lreturn, 1) := by decide +kernel
theorem ad_Md_wordOf_120 : decode prog_14_method_16_code 120 = .ok (.bipush 112, 2) := by decide +kernel
theorem ad_Md_wordOf_122 : decode prog_14_method_16_code 122 = .ok (.bipush 101, 2) := by decide +kernel
theorem ad_Md_wordOf_124 : decode prog_14_method_16_code 124 = .ok (.bipush 114, 2) := by decide +kernel
theorem ad_Md_wordOf_126 : decode prog_14_method_16_code 126 = .ok (.bipush 115, 2) := by decide +kernel
theorem ad_Md_wordOf_128 : decode prog_14_method_16_code 128 = .ok (.invokestatic 153, 3) := by decide +kernel
theorem ad_Md_wordOf_131 : decode prog_14_method_16_code 131 = .ok (.bipush 111, 2) := by decide +kernel
theorem ad_Md_wordOf_133 : decode prog_14_method_16_code 133 = .ok (.bipush 110, 2) := by decide +kernel
theorem ad_Md_wordOf_135 : decode prog_14_method_16_code 135 = .ok (.invokestatic 157, 3) := by decide +kernel
theorem ad_Md_wordOf_138 : decode prog_14_method_16_code 138 = .ok (.lreturn, 1) := by decide +kernel
theorem ad_Md_wordOf_139 : decode prog_14_method_16_code 139 = .ok (.bipush 102, 2) := by decide +kernel
theorem ad_Md_wordOf_141 : decode prog_14_method_16_code 141 = .ok (.bipush 114, 2) := by decide +kernel
theorem ad_Md_wordOf_143 : decode prog_14_method_16_code 143 = .ok (.bipush 105, 2) := by decide +kernel
theorem ad_Md_wordOf_145 : decode prog_14_method_16_code 145 = .ok (.bipush 101, 2) := by decide +kernel
theorem ad_Md_wordOf_147 : decode prog_14_method_16_code 147 = .ok (.invokestatic 153, 3) := by decide +kernel
theorem ad_Md_wordOf_150 : decode prog_14_method_16_code 150 = .ok (.bipush 110, 2) := by decide +kernel
theorem ad_Md_wordOf_152 : decode prog_14_method_16_code 152 = .ok (.bipush 100, 2) := by decide +kernel
theorem ad_Md_wordOf_154 : decode prog_14_method_16_code 154 = .ok (.invokestatic 157, 3) := by decide +kernel
theorem ad_Md_wordOf_157 : decode prog_14_method_16_code 157 = .ok (.lreturn, 1) := by decide +kernel
theorem ad_Md_wordOf_158 : decode prog_14_method_16_code 158 = .ok (.bipush 115, 2) := by decide +kernel
theorem ad_Md_wordOf_160 : decode prog_14_method_16_code 160 = .ok (.bipush 101, 2) := by decide +kernel
theorem ad_Md_wordOf_162 : decode prog_14_method_16_code 162 = .ok (.bipush 101, 2) := by decide +kernel
theorem ad_Md_wordOf_164 : decode prog_14_method_16_code 164 = .ok (.bipush 115, 2) := by decide +kernel
theorem ad_Md_wordOf_166 : decode prog_14_method_16_code 166 = .ok (.invokestatic 153, 3) := by decide +kernel
theorem ad_Md_wordOf_169 : decode prog_14_method_16_code 169 = .ok (.lreturn, 1) := by decide +kernel
theorem ad_Md_wordOf_170 : decode prog_14_method_16_code 170 = .ok (.bipush 98, 2) := by decide +kernel
theorem ad_Md_wordOf_172 : decode prog_14_method_16_code 172 = .ok (.bipush 105, 2) := by decide +kernel
theorem ad_Md_wordOf_174 : decode prog_14_method_16_code 174 = .ok (.bipush 110, 2) := by decide +kernel
theorem ad_Md_wordOf_176 : decode prog_14_method_16_code 176 = .ok (.bipush 100, 2) := by decide +kernel
theorem ad_Md_wordOf_178 : decode prog_14_method_16_code 178 = .ok (.invokestatic 153, 3) := by decide +kernel
theorem ad_Md_wordOf_181 : decode prog_14_method_16_code 181 = .ok (.bipush 115, 2) := by decide +kernel
theorem ad_Md_wordOf_183 : decode prog_14_method_16_code 183 = .ok (.iconst 0, 1) := by decide +kernel
theorem ad_Md_wordOf_184 : decode prog_14_method_16_code 184 = .ok (.invokestatic 157, 3) := by decide +kernel
theorem ad_Md_wordOf_187 : decode prog_14_method_16_code 187 = .ok (.lreturn, 1) := by decide +kernel
theorem ad_Md_wordOf_188 : decode prog_14_method_16_code 188 = .ok (.bipush 111, 2) := by decide +kernel
theorem ad_Md_wordOf_190 : decode prog_14_method_16_code 190 = .ok (.bipush 117, 2) := by decide +kernel
theorem ad_Md_wordOf_192 : decode prog_14_method_16_code 192 = .ok (.bipush 116, 2) := by decide +kernel
theorem ad_Md_wordOf_194 : decode prog_14_method_16_code 194 = .ok (.iconst 0, 1) := by decide +kernel
theorem ad_Md_wordOf_195 : decode prog_14_method_16_code 195 = .ok (.invokestatic 153, 3) := by decide +kernel
theorem ad_Md_wordOf_198 : decode prog_14_method_16_code 198 = .ok (.lreturn, 1) := by decide +kernel
theorem ad_Md_wordOf_199 : decode prog_14_method_16_code 199 = .ok (.bipush 103, 2) := by decide +kernel
theorem ad_Md_wordOf_201 : decode prog_14_method_16_code 201 = .ok (.bipush 105, 2) := by decide +kernel
theorem ad_Md_wordOf_203 : decode prog_14_method_16_code 203 = .ok (.bipush 102, 2) := by decide +kernel
theorem ad_Md_wordOf_205 : decode prog_14_method_16_code 205 = .ok (.bipush 116, 2) := by decide +kernel
theorem ad_Md_wordOf_207 : decode prog_14_method_16_code 207 = .ok (.invokestatic 153, 3) := by decide +kernel
theorem ad_Md_wordOf_210 : decode prog_14_method_16_code 210 = .ok (.lreturn, 1) := by decide +kernel
theorem ad_Md_wordOf_211 : decode prog_14_method_16_code 211 = .ok (.bipush 99, 2) := by decide +kernel
theorem ad_Md_wordOf_213 : decode prog_14_method_16_code 213 = .ok (.bipush 97, 2) := by decide +kernel
theorem ad_Md_wordOf_215 : decode prog_14_method_16_code 215 = .ok (.bipush 110, 2) := by decide +kernel
theorem ad_Md_wordOf_217 : decode prog_14_method_16_code 217 = .ok (.iconst 0, 1) := by decide +kernel
theorem ad_Md_wordOf_218 : decode prog_14_method_16_code 218 = .ok (.invokestatic 153, 3) := by decide +kernel
theorem ad_Md_wordOf_221 : decode prog_14_method_16_code 221 = .ok (.lreturn, 1) := by decide +kernel
theorem ad_Md_wordOf_222 : decode prog_14_method_16_code 222 = .ok (.bipush 110, 2) := by decide +kernel
theorem ad_Md_wordOf_224 : decode prog_14_method_16_code 224 = .ok (.bipush 101, 2) := by decide +kernel
theorem ad_Md_wordOf_226 : decode prog_14_method_16_code 226 = .ok (.bipush 101, 2) := by decide +kernel
theorem ad_Md_wordOf_228 : decode prog_14_method_16_code 228 = .ok (.bipush 100, 2) := by decide +kernel
theorem ad_Md_wordOf_230 : decode prog_14_method_16_code 230 = .ok (.invokestatic 153, 3) := by decide +kernel
theorem ad_Md_wordOf_233 : decode prog_14_method_16_code 233 = .ok (.bipush 115, 2) := by decide +kernel
theorem ad_Md_wordOf_235 : decode prog_14_method_16_code 235 = .ok (.iconst 0, 1) := by decide +kernel
theorem ad_Md_wordOf_236 : decode prog_14_method_16_code 236 = .ok (.invokestatic 157, 3) := by decide +kernel
theorem ad_Md_wordOf_239 : decode prog_14_method_16_code 239 = .ok (.lreturn, 1) := by decide +kernel
theorem ad_Md_wordOf_240 : decode prog_14_method_16_code 240 = .ok (.bipush 121, 2) := by decide +kernel
theorem ad_Md_wordOf_242 : decode prog_14_method_16_code 242 = .ok (.bipush 101, 2) := by decide +kernel
theorem ad_Md_wordOf_244 : decode prog_14_method_16_code 244 = .ok (.bipush 97, 2) := by decide +kernel
theorem ad_Md_wordOf_246 : decode prog_14_method_16_code 246 = .ok (.bipush 114, 2) := by decide +kernel
theorem ad_Md_wordOf_248 : decode prog_14_method_16_code 248 = .ok (.invokestatic 153, 3) := by decide +kernel
theorem ad_Md_wordOf_251 : decode prog_14_method_16_code 251 = .ok (.lreturn, 1) := by decide +kernel
theorem ad_Md_wordOf_252 : decode prog_14_method_16_code 252 = .ok (.bipush 104, 2) := by decide +kernel
theorem ad_Md_wordOf_254 : decode prog_14_method_16_code 254 = .ok (.bipush 101, 2) := by decide +kernel
theorem ad_Md_wordOf_256 : decode prog_14_method_16_code 256 = .ok (.bipush 108, 2) := by decide +kernel
theorem ad_Md_wordOf_258 : decode prog_14_method_16_code 258 = .ok (.bipush 112, 2) := by decide +kernel
theorem ad_Md_wordOf_260 : decode prog_14_method_16_code 260 = .ok (.invokestatic 153, 3) := by decide +kernel
theorem ad_Md_wordOf_263 : decode prog_14_method_16_code 263 = .ok (.bipush 115, 2) := by decide +kernel
theorem ad_Md_wordOf_265 : decode prog_14_method_16_code 265 = .ok (.iconst 0, 1) := by decide +kernel
theorem ad_Md_wordOf_266 : decode prog_14_method_16_code 266 = .ok (.invokestatic 157, 3) := by decide +kernel
theorem ad_Md_wordOf_269 : decode prog_14_method_16_code 269 = .ok (.lreturn, 1) := by decide +kernel
theorem ad_Md_wordOf_270 : decode prog_14_method_16_code 270 = .ok (.bipush 104, 2) := by decide +kernel
theorem ad_Md_wordOf_272 : decode prog_14_method_16_code 272 = .ok (.bipush 105, 2) := by decide +kernel
theorem ad_Md_wordOf_274 : decode prog_14_method_16_code 274 = .ok (.bipush 100, 2) := by decide +kernel
theorem ad_Md_wordOf_276 : decode prog_14_method_16_code 276 = .ok (.bipush 100, 2) := by decide +kernel
theorem ad_Md_wordOf_278 : decode prog_14_method_16_code 278 = .ok (.invokestatic 153, 3) := by decide +kernel
theorem ad_Md_wordOf_281 : decode prog_14_method_16_code 281 = .ok (.bipush 101, 2) := by decide +kernel
theorem ad_Md_wordOf_283 : decode prog_14_method_16_code 283 = .ok (.bipush 110, 2) := by decide +kernel
theorem ad_Md_wordOf_285 : decode prog_14_method_16_code 285 = .ok (.invokestatic 157, 3) := by decide +kernel
theorem ad_Md_wordOf_288 : decode prog_14_method_16_code 288 = .ok (.lreturn, 1) := by decide +kernel
theorem ad_Md_wordOf_289 : decode prog_14_method_16_code 289 = .ok (.bipush 116, 2) := by decide +kernel
theorem ad_Md_wordOf_291 : decode prog_14_method_16_code 291 = .ok (.bipush 104, 2) := by decide +kernel
theorem ad_Md_wordOf_293 : decode prog_14_method_16_code 293 = .ok (.bipush 97, 2) := by decide +kernel
theorem ad_Md_wordOf_295 : decode prog_14_method_16_code 295 = .ok (.bipush 110, 2) := by decide +kernel
theorem ad_Md_wordOf_297 : decode prog_14_method_16_code 297 = .ok (.invokestatic 153, 3) := by decide +kernel
theorem ad_Md_wordOf_300 : decode prog_14_method_16_code 300 = .ok (.bipush 107, 2) := by decide +kernel
theorem ad_Md_wordOf_302 : decode prog_14_method_16_code 302 = .ok (.bipush 115, 2) := by decide +kernel
theorem ad_Md_wordOf_304 : decode prog_14_method_16_code 304 = .ok (.invokestatic 157, 3) := by decide +kernel
theorem ad_Md_wordOf_307 : decode prog_14_method_16_code 307 = .ok (.lreturn, 1) := by decide +kernel
theorem ad_Md_wordOf_308 : decode prog_14_method_16_code 308 = .ok (.bipush 108, 2) := by decide +kernel
theorem ad_Md_wordOf_310 : decode prog_14_method_16_code 310 = .ok (.bipush 101, 2) := by decide +kernel
theorem ad_Md_wordOf_312 : decode prog_14_method_16_code 312 = .ok (.bipush 97, 2) := by decide +kernel
theorem ad_Md_wordOf_314 : decode prog_14_method_16_code 314 = .ok (.bipush 118, 2) := by decide +kernel
theorem ad_Md_wordOf_316 : decode prog_14_method_16_code 316 = .ok (.invokestatic 153, 3) := by decide +kernel
theorem ad_Md_wordOf_319 : decode prog_14_method_16_code 319 = .ok (.bipush 101, 2) := by decide +kernel
theorem ad_Md_wordOf_321 : decode prog_14_method_16_code 321 = .ok (.bipush 115, 2) := by decide +kernel
theorem ad_Md_wordOf_323 : decode prog_14_method_16_code 323 = .ok (.invokestatic 157, 3) := by decide +kernel
theorem ad_Md_wordOf_326 : decode prog_14_method_16_code 326 = .ok (.lreturn, 1) := by decide +kernel
theorem ad_Md_wordOf_327 : decode prog_14_method_16_code 327 = .ok (.bipush 111, 2) := by decide +kernel
theorem ad_Md_wordOf_329 : decode prog_14_method_16_code 329 = .ok (.bipush 114, 2) := by decide +kernel
theorem ad_Md_wordOf_331 : decode prog_14_method_16_code 331 = .ok (.iconst 0, 1) := by decide +kernel
theorem ad_Md_wordOf_332 : decode prog_14_method_16_code 332 = .ok (.iconst 0, 1) := by decide +kernel
theorem ad_Md_wordOf_333 : decode prog_14_method_16_code 333 = .ok (.invokestatic 153, 3) := by decide +kernel
theorem ad_Md_wordOf_336 : decode prog_14_method_16_code 336 = .ok (.lreturn, 1) := by decide +kernel
theorem ad_Md_wordOf_337 : decode prog_14_method_16_code 337 = .ok (.bipush 97, 2) := by decide +kernel
theorem ad_Md_wordOf_339 : decode prog_14_method_16_code 339 = .ok (.bipush 110, 2) := by decide +kernel
theorem ad_Md_wordOf_341 : decode prog_14_method_16_code 341 = .ok (.bipush 100, 2) := by decide +kernel
theorem ad_Md_wordOf_343 : decode prog_14_method_16_code 343 = .ok (.iconst 0, 1) := by decide +kernel
theorem ad_Md_wordOf_344 : decode prog_14_method_16_code 344 = .ok (.invokestatic 153, 3) := by decide +kernel
theorem ad_Md_wordOf_347 : decode prog_14_method_16_code 347 = .ok (.lreturn, 1) := by decide +kernel
theorem ad_Md_wordOf_348 : decode prog_14_method_16_code 348 = .ok (.bipush 110, 2) := by decide +kernel
theorem ad_Md_wordOf_350 : decode prog_14_method_16_code 350 = .ok (.bipush 111, 2) := by decide +kernel
theorem ad_Md_wordOf_352 : decode prog_14_method_16_code 352 = .ok (.bipush 116, 2) := by decide +kernel
theorem ad_Md_wordOf_354 : decode prog_14_method_16_code 354 = .ok (.iconst 0, 1) := by decide +kernel
theorem ad_Md_wordOf_355 : decode prog_14_method_16_code 355 = .ok (.invokestatic 153, 3) := by decide +kernel
theorem ad_Md_wordOf_358 : decode prog_14_method_16_code 358 = .ok (.lreturn, 1) := by decide +kernel
theorem ad_Md_wordOf_359 : decode prog_14_method_16_code 359 = .ok (.bipush 98, 2) := by decide +kernel
theorem ad_Md_wordOf_361 : decode prog_14_method_16_code 361 = .ok (.bipush 111, 2) := by decide +kernel
theorem ad_Md_wordOf_363 : decode prog_14_method_16_code 363 = .ok (.bipush 117, 2) := by decide +kernel
theorem ad_Md_wordOf_365 : decode prog_14_method_16_code 365 = .ok (.bipush 110, 2) := by decide +kernel
theorem ad_Md_wordOf_367 : decode prog_14_method_16_code 367 = .ok (.invokestatic 153, 3) := by decide +kernel
theorem ad_Md_wordOf_370 : decode prog_14_method_16_code 370 = .ok (.bipush 100, 2) := by decide +kernel
theorem ad_Md_wordOf_372 : decode prog_14_method_16_code 372 = .ok (.iconst 0, 1) := by decide +kernel
theorem ad_Md_wordOf_373 : decode prog_14_method_16_code 373 = .ok (.invokestatic 157, 3) := by decide +kernel
theorem ad_Md_wordOf_376 : decode prog_14_method_16_code 376 = .ok (.lreturn, 1) := by decide +kernel
theorem ad_Md_wordOf_377 : decode prog_14_method_16_code 377 = .ok (.bipush 102, 2) := by decide +kernel
theorem ad_Md_wordOf_379 : decode prog_14_method_16_code 379 = .ok (.bipush 114, 2) := by decide +kernel
theorem ad_Md_wordOf_381 : decode prog_14_method_16_code 381 = .ok (.bipush 101, 2) := by decide +kernel
theorem ad_Md_wordOf_383 : decode prog_14_method_16_code 383 = .ok (.bipush 101, 2) := by decide +kernel
theorem ad_Md_wordOf_385 : decode prog_14_method_16_code 385 = .ok (.invokestatic 153, 3) := by decide +kernel
theorem ad_Md_wordOf_388 : decode prog_14_method_16_code 388 = .ok (.lreturn, 1) := by decide +kernel
theorem ad_Md_wordOf_389 : decode prog_14_method_16_code 389 = .ok (.bipush 103, 2) := by decide +kernel
theorem ad_Md_wordOf_391 : decode prog_14_method_16_code 391 = .ok (.bipush 97, 2) := by decide +kernel
theorem ad_Md_wordOf_393 : decode prog_14_method_16_code 393 = .ok (.bipush 105, 2) := by decide +kernel
theorem ad_Md_wordOf_395 : decode prog_14_method_16_code 395 = .ok (.bipush 110, 2) := by decide +kernel
theorem ad_Md_wordOf_397 : decode prog_14_method_16_code 397 = .ok (.invokestatic 153, 3) := by decide +kernel
theorem ad_Md_wordOf_400 : decode prog_14_method_16_code 400 = .ok (.bipush 101, 2) := by decide +kernel
theorem ad_Md_wordOf_402 : decode prog_14_method_16_code 402 = .ok (.bipush 100, 2) := by decide +kernel
theorem ad_Md_wordOf_404 : decode prog_14_method_16_code 404 = .ok (.invokestatic 157, 3) := by decide +kernel
theorem ad_Md_wordOf_407 : decode prog_14_method_16_code 407 = .ok (.lreturn, 1) := by decide +kernel
theorem ad_Md_wordOf_408 : decode prog_14_method_16_code 408 = .ok (.bipush 102, 2) := by decide +kernel
theorem ad_Md_wordOf_410 : decode prog_14_method_16_code 410 = .ok (.bipush 101, 2) := by decide +kernel
theorem ad_Md_wordOf_412 : decode prog_14_method_16_code 412 = .ok (.bipush 108, 2) := by decide +kernel
theorem ad_Md_wordOf_414 : decode prog_14_method_16_code 414 = .ok (.bipush 116, 2) := by decide +kernel
theorem ad_Md_wordOf_416 : decode prog_14_method_16_code 416 = .ok (.invokestatic 153, 3) := by decide +kernel
theorem ad_Md_wordOf_419 : decode prog_14_method_16_code 419 = .ok (.lreturn, 1) := by decide +kernel
theorem ad_Md_wordOf_420 : decode prog_14_method_16_code 420 = .ok (.bipush 104, 2) := by decide +kernel
theorem ad_Md_wordOf_422 : decode prog_14_method_16_code 422 = .ok (.bipush 101, 2) := by decide +kernel
theorem ad_Md_wordOf_424 : decode prog_14_method_16_code 424 = .ok (.bipush 108, 2) := by decide +kernel
theorem ad_Md_wordOf_426 : decode prog_14_method_16_code 426 = .ok (.bipush 112, 2) := by decide +kernel
theorem ad_Md_wordOf_428 : decode prog_14_method_16_code 428 = .ok (.invokestatic 153, 3) := by decide +kernel
theorem ad_Md_wordOf_431 : decode prog_14_method_16_code 431 = .ok (.bipush 101, 2) := by decide +kernel
theorem ad_Md_wordOf_433 : decode prog_14_method_16_code 433 = .ok (.bipush 100, 2) := by decide +kernel
theorem ad_Md_wordOf_435 : decode prog_14_method_16_code 435 = .ok (.invokestatic 157, 3) := by decide +kernel
theorem ad_Md_wordOf_438 : decode prog_14_method_16_code 438 = .ok (.lreturn, 1) := by decide +kernel
theorem ad_Md_wordOf_439 : decode prog_14_method_16_code 439 = .ok (.bipush 98, 2) := by decide +kernel
theorem ad_Md_wordOf_441 : decode prog_14_method_16_code 441 = .ok (.bipush 111, 2) := by decide +kernel
theorem ad_Md_wordOf_443 : decode prog_14_method_16_code 443 = .ok (.bipush 110, 2) := by decide +kernel
theorem ad_Md_wordOf_445 : decode prog_14_method_16_code 445 = .ok (.bipush 100, 2) := by decide +kernel
theorem ad_Md_wordOf_447 : decode prog_14_method_16_code 447 = .ok (.invokestatic 153, 3) := by decide +kernel
theorem ad_Md_wordOf_450 : decode prog_14_method_16_code 450 = .ok (.bipush 115, 2) := by decide +kernel
theorem ad_Md_wordOf_452 : decode prog_14_method_16_code 452 = .ok (.iconst 0, 1) := by decide +kernel
theorem ad_Md_wordOf_453 : decode prog_14_method_16_code 453 = .ok (.invokestatic 157, 3) := by decide +kernel
theorem ad_Md_wordOf_456 : decode prog_14_method_16_code 456 = .ok (.lreturn, 1) := by decide +kernel
theorem ad_Md_wordOf_457 : decode prog_14_method_16_code 457 = .ok (.bipush 98, 2) := by decide +kernel
theorem ad_Md_wordOf_459 : decode prog_14_method_16_code 459 = .ok (.bipush 114, 2) := by decide +kernel
theorem ad_Md_wordOf_461 : decode prog_14_method_16_code 461 = .ok (.bipush 111, 2) := by decide +kernel
theorem ad_Md_wordOf_463 : decode prog_14_method_16_code 463 = .ok (.bipush 107, 2) := by decide +kernel
theorem ad_Md_wordOf_465 : decode prog_14_method_16_code 465 = .ok (.invokestatic 153, 3) := by decide +kernel
theorem ad_Md_wordOf_468 : decode prog_14_method_16_code 468 = .ok (.bipush 101, 2) := by decide +kernel
theorem ad_Md_wordOf_470 : decode prog_14_method_16_code 470 = .ok (.bipush 110, 2) := by decide +kernel
theorem ad_Md_wordOf_472 : decode prog_14_method_16_code 472 = .ok (.invokestatic 157, 3) := by decide +kernel
theorem ad_Md_wordOf_475 : decode prog_14_method_16_code 475 = .ok (.lreturn, 1) := by decide +kernel
theorem ad_Md_isWord_0 : decode prog_14_method_17_code 0 = .ok (.aload_n 0, 1) := by decide +kernel
theorem ad_Md_isWord_1 : decode prog_14_method_17_code 1 = .ok (.getfield 125, 3) := by decide +kernel
theorem ad_Md_isWord_4 : decode prog_14_method_17_code 4 = .ok (.iconst 2, 1) := by decide +kernel
theorem ad_Md_isWord_5 : decode prog_14_method_17_code 5 = .ok (.if_icmp .ne 19, 3) := by decide +kernel
theorem ad_Md_isWord_8 : decode prog_14_method_17_code 8 = .ok (.aload_n 0, 1) := by decide +kernel
theorem ad_Md_isWord_9 : decode prog_14_method_17_code 9 = .ok (.getfield 138, 3) := by decide +kernel
theorem ad_Md_isWord_12 : decode prog_14_method_17_code 12 = .ok (.iload_n 1, 1) := by decide +kernel
theorem ad_Md_isWord_13 : decode prog_14_method_17_code 13 = .ok (.invokestatic 161, 3) := by decide +kernel
theorem ad_Md_isWord_16 : decode prog_14_method_17_code 16 = .ok (.lcmp, 1) := by decide +kernel
theorem ad_Md_isWord_17 : decode prog_14_method_17_code 17 = .ok (.ifCond .ne 7, 3) := by decide +kernel
theorem ad_Md_isWord_20 : decode prog_14_method_17_code 20 = .ok (.iconst 1, 1) := by decide +kernel
theorem ad_Md_isWord_21 : decode prog_14_method_17_code 21 = .ok (.goto 4, 3) := by decide +kernel
theorem ad_Md_isWord_24 : decode prog_14_method_17_code 24 = .ok (.iconst 0, 1) := by decide +kernel
theorem ad_Md_isWord_25 : decode prog_14_method_17_code 25 = .ok (.ireturn, 1) := by decide +kernel
theorem ad_Md_isSign_0 : decode prog_14_method_18_code 0 = .ok (.aload_n 0, 1) := by decide +kernel
theorem ad_Md_isSign_1 : decode prog_14_method_18_code 1 = .ok (.getfield 125, 3) := by decide +kernel
theorem ad_Md_isSign_4 : decode prog_14_method_18_code 4 = .ok (.iconst 4, 1) := by decide +kernel
theorem ad_Md_isSign_5 : decode prog_14_method_18_code 5 = .ok (.if_icmp .ne 15, 3) := by decide +kernel
theorem ad_Md_isSign_8 : decode prog_14_method_18_code 8 = .ok (.aload_n 0, 1) := by decide +kernel
theorem ad_Md_isSign_9 : decode prog_14_method_18_code 9 = .ok (.getfield 135, 3) := by decide +kernel
theorem ad_Md_isSign_12 : decode prog_14_method_18_code 12 = .ok (.iload_n 1, 1) := by decide +kernel
theorem ad_Md_isSign_13 : decode prog_14_method_18_code 13 = .ok (.if_icmp .ne 7, 3) := by decide +kernel
theorem ad_Md_isSign_16 : decode prog_14_method_18_code 16 = .ok (.iconst 1, 1) := by decide +kernel
theorem ad_Md_isSign_17 : decode prog_14_method_18_code 17 = .ok (.goto 4, 3) := by decide +kernel
theorem ad_Md_isSign_20 : decode prog_14_method_18_code 20 = .ok (.iconst 0, 1) := by decide +kernel
theorem ad_Md_isSign_21 : decode prog_14_method_18_code 21 = .ok (.ireturn, 1) := by decide +kernel
theorem ad_Md_isName_0 : decode prog_14_method_19_code 0 = .ok (.aload_n 0, 1) := by decide +kernel
theorem ad_Md_isName_1 : decode prog_14_method_19_code 1 = .ok (.getfield 125, 3) := by decide +kernel
theorem ad_Md_isName_4 : decode prog_14_method_19_code 4 = .ok (.iconst 2, 1) := by decide +kernel
theorem ad_Md_isName_5 : decode prog_14_method_19_code 5 = .ok (.if_icmp .eq 5, 3) := by decide +kernel
theorem ad_Md_isName_8 : decode prog_14_method_19_code 8 = .ok (.iconst 0, 1) := by decide +kernel
theorem ad_Md_isName_9 : decode prog_14_method_19_code 9 = .ok (.ireturn, 1) := by decide +kernel
theorem ad_Md_isName_10 : decode prog_14_method_19_code 10 = .ok (.iconst 0, 1) := by decide +kernel
theorem ad_Md_isName_11 : decode prog_14_method_19_code 11 = .ok (.istore_n 1, 1) := by decide +kernel
theorem ad_Md_isName_12 : decode prog_14_method_19_code 12 = .ok (.iload_n 1, 1) := by decide +kernel
theorem ad_Md_isName_13 : decode prog_14_method_19_code 13 = .ok (.bipush 23, 2) := by decide +kernel
theorem ad_Md_isName_15 : decode prog_14_method_19_code 15 = .ok (.if_icmp .gt 23, 3) := by decide +kernel
theorem ad_Md_isName_18 : decode prog_14_method_19_code 18 = .ok (.aload_n 0, 1) := by decide +kernel
theorem ad_Md_isName_19 : decode prog_14_method_19_code 19 = .ok (.getfield 138, 3) := by decide +kernel
theorem ad_Md_isName_22 : decode prog_14_method_19_code 22 = .ok (.iload_n 1, 1) := by decide +kernel
theorem ad_Md_isName_23 : decode prog_14_method_19_code 23 = .ok (.invokestatic 161, 3) := by decide +kernel
theorem ad_Md_isName_26 : decode prog_14_method_19_code 26 = .ok (.lcmp, 1) := by decide +kernel
theorem ad_Md_isName_27 : decode prog_14_method_19_code 27 = .ok (.ifCond .ne 5, 3) := by decide +kernel
theorem ad_Md_isName_30 : decode prog_14_method_19_code 30 = .ok (.iconst 0, 1) := by decide +kernel
theorem ad_Md_isName_31 : decode prog_14_method_19_code 31 = .ok (.ireturn, 1) := by decide +kernel
theorem ad_Md_isName_32 : decode prog_14_method_19_code 32 = .ok (.iinc 1 1, 3) := by decide +kernel
theorem ad_Md_isName_35 : decode prog_14_method_19_code 35 = .ok (.goto (-23), 3) := by decide +kernel
theorem ad_Md_isName_38 : decode prog_14_method_19_code 38 = .ok (.iconst 1, 1) := by decide +kernel
theorem ad_Md_isName_39 : decode prog_14_method_19_code 39 = .ok (.ireturn, 1) := by decide +kernel
theorem ad_Md_bad_0 : decode prog_14_method_20_code 0 = .ok (.aload_n 0, 1) := by decide +kernel
theorem ad_Md_bad_1 : decode prog_14_method_20_code 1 = .ok (.aload_n 0, 1) := by decide +kernel
theorem ad_Md_bad_2 : decode prog_14_method_20_code 2 = .ok (.getfield 125, 3) := by decide +kernel
theorem ad_Md_bad_5 : decode prog_14_method_20_code 5 = .ok (.iconst 1, 1) := by decide +kernel
theorem ad_Md_bad_6 : decode prog_14_method_20_code 6 = .ok (.if_icmp .ne 7, 3) := by decide +kernel
theorem ad_Md_bad_9 : decode prog_14_method_20_code 9 = .ok (.iconst 1, 1) := by decide +kernel
theorem ad_Md_bad_10 : decode prog_14_method_20_code 10 = .ok (.goto 4, 3) := by decide +kernel
theorem ad_Md_bad_13 : decode prog_14_method_20_code 13 = .ok (.iload_n 1, 1) := by decide +kernel
theorem ad_Md_bad_14 : decode prog_14_method_20_code 14 = .ok (.putfield 165, 3) := by decide +kernel
theorem ad_Md_bad_17 : decode prog_14_method_20_code 17 = .ok (.aload_n 0, 1) := by decide +kernel
theorem ad_Md_bad_18 : decode prog_14_method_20_code 18 = .ok (.aload_n 0, 1) := by decide +kernel
theorem ad_Md_bad_19 : decode prog_14_method_20_code 19 = .ok (.getfield 119, 3) := by decide +kernel
theorem ad_Md_bad_22 : decode prog_14_method_20_code 22 = .ok (.putfield 168, 3) := by decide +kernel
theorem ad_Md_bad_25 : decode prog_14_method_20_code 25 = .ok (.iconst 0, 1) := by decide +kernel
theorem ad_Md_bad_26 : decode prog_14_method_20_code 26 = .ok (.ireturn, 1) := by decide +kernel
theorem ad_Md_readNumber_0 : decode prog_14_method_21_code 0 = .ok (.aload_n 0, 1) := by decide +kernel
theorem ad_Md_readNumber_1 : decode prog_14_method_21_code 1 = .ok (.getfield 125, 3) := by decide +kernel
theorem ad_Md_readNumber_4 : decode prog_14_method_21_code 4 = .ok (.iconst 3, 1) := by decide +kernel
theorem ad_Md_readNumber_5 : decode prog_14_method_21_code 5 = .ok (.if_icmp .eq 9, 3) := by decide +kernel
theorem ad_Md_readNumber_8 : decode prog_14_method_21_code 8 = .ok (.aload_n 0, 1) := by decide +kernel
theorem ad_Md_readNumber_9 : decode prog_14_method_21_code 9 = .ok (.iconst 1, 1) := by decide +kernel
theorem ad_Md_readNumber_10 : decode prog_14_method_21_code 10 = .ok (.invokevirtual 171, 3) := by decide +kernel
theorem ad_Md_readNumber_13 : decode prog_14_method_21_code 13 = .ok (.ireturn, 1) := by decide +kernel
theorem ad_Md_readNumber_14 : decode prog_14_method_21_code 14 = .ok (.aload_n 0, 1) := by decide +kernel
theorem ad_Md_readNumber_15 : decode prog_14_method_21_code 15 = .ok (.getfield 142, 3) := by decide +kernel
theorem ad_Md_readNumber_18 : decode prog_14_method_21_code 18 = .ok (.iload_n 1, 1) := by decide +kernel
theorem ad_Md_readNumber_19 : decode prog_14_method_21_code 19 = .ok (.iload_n 2, 1) := by decide +kernel
theorem ad_Md_readNumber_20 : decode prog_14_method_21_code 20 = .ok (.invokestatic 174, 3) := by decide +kernel
theorem ad_Md_readNumber_23 : decode prog_14_method_21_code 23 = .ok (.ifCond .ne 9, 3) := by decide +kernel
theorem ad_Md_readNumber_26 : decode prog_14_method_21_code 26 = .ok (.aload_n 0, 1) := by decide +kernel
theorem ad_Md_readNumber_27 : decode prog_14_method_21_code 27 = .ok (.iconst 2, 1) := by decide +kernel
theorem ad_Md_readNumber_28 : decode prog_14_method_21_code 28 = .ok (.invokevirtual 171, 3) := by decide +kernel
theorem ad_Md_readNumber_31 : decode prog_14_method_21_code 31 = .ok (.ireturn, 1) := by decide +kernel
theorem ad_Md_readNumber_32 : decode prog_14_method_21_code 32 = .ok (.aload_n 0, 1) := by decide +kernel
theorem ad_Md_readNumber_33 : decode prog_14_method_21_code 33 = .ok (.aload_n 0, 1) := by decide +kernel
theorem ad_Md_readNumber_34 : decode prog_14_method_21_code 34 = .ok (.getfield 142, 3) := by decide +kernel
theorem ad_Md_readNumber_37 : decode prog_14_method_21_code 37 = .ok (.putfield 178, 3) := by decide +kernel
theorem ad_Md_readNumber_40 : decode prog_14_method_21_code 40 = .ok (.aload_n 0, 1) := by decide +kernel
theorem ad_Md_readNumber_41 : decode prog_14_method_21_code 41 = .ok (.invokevirtual 181, 3) := by decide +kernel
theorem ad_Md_readNumber_44 : decode prog_14_method_21_code 44 = .ok (.iconst 1, 1) := by decide +kernel
theorem ad_Md_readNumber_45 : decode prog_14_method_21_code 45 = .ok (.ireturn, 1) := by decide +kernel
theorem ad_Md_readEnd_0 : decode prog_14_method_22_code 0 = .ok (.aload_n 0, 1) := by decide +kernel
theorem ad_Md_readEnd_1 : decode prog_14_method_22_code 1 = .ok (.bipush 59, 2) := by decide +kernel
theorem ad_Md_readEnd_3 : decode prog_14_method_22_code 3 = .ok (.invokevirtual 184, 3) := by decide +kernel
theorem ad_Md_readEnd_6 : decode prog_14_method_22_code 6 = .ok (.ifCond .ne 9, 3) := by decide +kernel
theorem ad_Md_readEnd_9 : decode prog_14_method_22_code 9 = .ok (.aload_n 0, 1) := by decide +kernel
theorem ad_Md_readEnd_10 : decode prog_14_method_22_code 10 = .ok (.iconst 1, 1) := by decide +kernel
theorem ad_Md_readEnd_11 : decode prog_14_method_22_code 11 = .ok (.invokevirtual 171, 3) := by decide +kernel
theorem ad_Md_readEnd_14 : decode prog_14_method_22_code 14 = .ok (.ireturn, 1) := by decide +kernel
theorem ad_Md_readEnd_15 : decode prog_14_method_22_code 15 = .ok (.aload_n 0, 1) := by decide +kernel
theorem ad_Md_readEnd_16 : decode prog_14_method_22_code 16 = .ok (.invokevirtual 181, 3) := by decide +kernel
theorem ad_Md_readEnd_19 : decode prog_14_method_22_code 19 = .ok (.iconst 1, 1) := by decide +kernel
theorem ad_Md_readEnd_20 : decode prog_14_method_22_code 20 = .ok (.ireturn, 1) := by decide +kernel
theorem ad_Md_begin_0 : decode prog_14_method_23_code 0 = .ok (.aload_n 0, 1) := by decide +kernel
theorem ad_Md_begin_1 : decode prog_14_method_23_code 1 = .ok (.iconst 0, 1) := by decide +kernel
theorem ad_Md_begin_2 : decode prog_14_method_23_code 2 = .ok (.putfield 102, 3) := by decide +kernel
theorem ad_Md_begin_5 : decode prog_14_method_23_code 5 = .ok (.aload_n 0, 1) := by decide +kernel
theorem ad_Md_begin_6 : decode prog_14_method_23_code 6 = .ok (.invokevirtual 187, 3) := by decide +kernel
theorem ad_Md_begin_9 : decode prog_14_method_23_code 9 = .ok (.aload_n 0, 1) := by decide +kernel
theorem ad_Md_begin_10 : decode prog_14_method_23_code 10 = .ok (.aload_n 0, 1) := by decide +kernel
theorem ad_Md_begin_11 : decode prog_14_method_23_code 11 = .ok (.invokevirtual 190, 3) := by decide +kernel
theorem ad_Md_begin_14 : decode prog_14_method_23_code 14 = .ok (.putfield 113, 3) := by decide +kernel
theorem ad_Md_begin_17 : decode prog_14_method_23_code 17 = .ok (.aload_n 0, 1) := by decide +kernel
theorem ad_Md_begin_18 : decode prog_14_method_23_code 18 = .ok (.iload_n 1, 1) := by decide +kernel
theorem ad_Md_begin_19 : decode prog_14_method_23_code 19 = .ok (.putfield 122, 3) := by decide +kernel
theorem ad_Md_begin_22 : decode prog_14_method_23_code 22 = .ok (.aload_n 0, 1) := by decide +kernel
theorem ad_Md_begin_23 : decode prog_14_method_23_code 23 = .ok (.iconst 0, 1) := by decide +kernel
theorem ad_Md_begin_24 : decode prog_14_method_23_code 24 = .ok (.putfield 165, 3) := by decide +kernel
theorem ad_Md_begin_27 : decode prog_14_method_23_code 27 = .ok (.aload_n 0, 1) := by decide +kernel
theorem ad_Md_begin_28 : decode prog_14_method_23_code 28 = .ok (.iconst 0, 1) := by decide +kernel
theorem ad_Md_begin_29 : decode prog_14_method_23_code 29 = .ok (.putfield 116, 3) := by decide +kernel
theorem ad_Md_begin_32 : decode prog_14_method_23_code 32 = .ok (.aload_n 0, 1) := by decide +kernel
theorem ad_Md_begin_33 : decode prog_14_method_23_code 33 = .ok (.invokevirtual 181, 3) := by decide +kernel
theorem ad_Md_begin_36 : decode prog_14_method_23_code 36 = .ok (.return_, 1) := by decide +kernel
theorem ad_Md_lay_0 : decode prog_14_method_24_code 0 = .ok (.aload_n 0, 1) := by decide +kernel
theorem ad_Md_lay_1 : decode prog_14_method_24_code 1 = .ok (.getfield 194, 3) := by decide +kernel
theorem ad_Md_lay_4 : decode prog_14_method_24_code 4 = .ok (.ifCond .eq 4, 3) := by decide +kernel
theorem ad_Md_lay_7 : decode prog_14_method_24_code 7 = .ok (.return_, 1) := by decide +kernel
theorem ad_Md_lay_8 : decode prog_14_method_24_code 8 = .ok (.aload_n 0, 1) := by decide +kernel
theorem ad_Md_lay_9 : decode prog_14_method_24_code 9 = .ok (.iconst 1, 1) := by decide +kernel
theorem ad_Md_lay_10 : decode prog_14_method_24_code 10 = .ok (.putfield 194, 3) := by decide +kernel
theorem ad_Md_lay_13 : decode prog_14_method_24_code 13 = .ok (.aload_n 0, 1) := by decide +kernel
theorem ad_Md_lay_14 : decode prog_14_method_24_code 14 = .ok (.getfield 13, 3) := by decide +kernel
theorem ad_Md_lay_17 : decode prog_14_method_24_code 17 = .ok (.iconst 3, 1) := by decide +kernel
theorem ad_Md_lay_18 : decode prog_14_method_24_code 18 = .ok (.iconst 3, 1) := by decide +kernel
theorem ad_Md_lay_19 : decode prog_14_method_24_code 19 = .ok (.iastore, 1) := by decide +kernel
theorem ad_Md_lay_20 : decode prog_14_method_24_code 20 = .ok (.aload_n 0, 1) := by decide +kernel
theorem ad_Md_lay_21 : decode prog_14_method_24_code 21 = .ok (.getfield 13, 3) := by decide +kernel
theorem ad_Md_lay_24 : decode prog_14_method_24_code 24 = .ok (.iconst 4, 1) := by decide +kernel
theorem ad_Md_lay_25 : decode prog_14_method_24_code 25 = .ok (.bipush 50, 2) := by decide +kernel
theorem ad_Md_lay_27 : decode prog_14_method_24_code 27 = .ok (.iastore, 1) := by decide +kernel
theorem ad_Md_lay_28 : decode prog_14_method_24_code 28 = .ok (.aload_n 0, 1) := by decide +kernel
theorem ad_Md_lay_29 : decode prog_14_method_24_code 29 = .ok (.getfield 13, 3) := by decide +kernel
theorem ad_Md_lay_32 : decode prog_14_method_24_code 32 = .ok (.iconst 5, 1) := by decide +kernel
theorem ad_Md_lay_33 : decode prog_14_method_24_code 33 = .ok (.bipush 10, 2) := by decide +kernel
theorem ad_Md_lay_35 : decode prog_14_method_24_code 35 = .ok (.iastore, 1) := by decide +kernel
theorem ad_Md_lay_36 : decode prog_14_method_24_code 36 = .ok (.return_, 1) := by decide +kernel
theorem ad_Md_helps_0 : decode prog_14_method_25_code 0 = .ok (.aload_n 0, 1) := by decide +kernel
theorem ad_Md_helps_1 : decode prog_14_method_25_code 1 = .ok (.getfield 13, 3) := by decide +kernel
theorem ad_Md_helps_4 : decode prog_14_method_25_code 4 = .ok (.iconst 0, 1) := by decide +kernel
theorem ad_Md_helps_5 : decode prog_14_method_25_code 5 = .ok (.iaload, 1) := by decide +kernel
theorem ad_Md_helps_6 : decode prog_14_method_25_code 6 = .ok (.ireturn, 1) := by decide +kernel
theorem ad_Md_persons_0 : decode prog_14_method_26_code 0 = .ok (.aload_n 0, 1) := by decide +kernel
theorem ad_Md_persons_1 : decode prog_14_method_26_code 1 = .ok (.getfield 13, 3) := by decide +kernel
theorem ad_Md_persons_4 : decode prog_14_method_26_code 4 = .ok (.iconst 1, 1) := by decide +kernel
theorem ad_Md_persons_5 : decode prog_14_method_26_code 5 = .ok (.iaload, 1) := by decide +kernel
theorem ad_Md_persons_6 : decode prog_14_method_26_code 6 = .ok (.ireturn, 1) := by decide +kernel
theorem ad_Md_isHelp_0 : decode prog_14_method_27_code 0 = .ok (.iload_n 1, 1) := by decide +kernel
theorem ad_Md_isHelp_1 : decode prog_14_method_27_code 1 = .ok (.ifCond .lt 15, 3) := by decide +kernel
theorem ad_Md_isHelp_4 : decode prog_14_method_27_code 4 = .ok (.iload_n 1, 1) := by decide +kernel
theorem ad_Md_isHelp_5 : decode prog_14_method_27_code 5 = .ok (.aload_n 0, 1) := by decide +kernel
theorem ad_Md_isHelp_6 : decode prog_14_method_27_code 6 = .ok (.invokevirtual 198, 3) := by decide +kernel
theorem ad_Md_isHelp_9 : decode prog_14_method_27_code 9 = .ok (.if_icmp .ge 7, 3) := by decide +kernel
theorem ad_Md_isHelp_12 : decode prog_14_method_27_code 12 = .ok (.iconst 1, 1) := by decide +kernel
theorem ad_Md_isHelp_13 : decode prog_14_method_27_code 13 = .ok (.goto 4, 3) := by decide +kernel
theorem ad_Md_isHelp_16 : decode prog_14_method_27_code 16 = .ok (.iconst 0, 1) := by decide +kernel
theorem ad_Md_isHelp_17 : decode prog_14_method_27_code 17 = .ok (.ireturn, 1) := by decide +kernel
theorem ad_Md_isPerson_0 : decode prog_14_method_28_code 0 = .ok (.iload_n 1, 1) := by decide +kernel
theorem ad_Md_isPerson_1 : decode prog_14_method_28_code 1 = .ok (.ifCond .lt 15, 3) := by decide +kernel
theorem ad_Md_isPerson_4 : decode prog_14_method_28_code 4 = .ok (.iload_n 1, 1) := by decide +kernel
theorem ad_Md_isPerson_5 : decode prog_14_method_28_code 5 = .ok (.aload_n 0, 1) := by decide +kernel
theorem ad_Md_isPerson_6 : decode prog_14_method_28_code 6 = .ok (.invokevirtual 201, 3) := by decide +kernel
theorem ad_Md_isPerson_9 : decode prog_14_method_28_code 9 = .ok (.if_icmp .ge 7, 3) := by decide +kernel
theorem ad_Md_isPerson_12 : decode prog_14_method_28_code 12 = .ok (.iconst 1, 1) := by decide +kernel
theorem ad_Md_isPerson_13 : decode prog_14_method_28_code 13 = .ok (.goto 4, 3) := by decide +kernel
theorem ad_Md_isPerson_16 : decode prog_14_method_28_code 16 = .ok (.iconst 0, 1) := by decide +kernel
theorem ad_Md_isPerson_17 : decode prog_14_method_28_code 17 = .ok (.ireturn, 1) := by decide +kernel
theorem ad_Md_isNeed_0 : decode prog_14_method_29_code 0 = .ok (.iload_n 1, 1) := by decide +kernel
theorem ad_Md_isNeed_1 : decode prog_14_method_29_code 1 = .ok (.ifCond .lt 17, 3) := by decide +kernel
theorem ad_Md_isNeed_4 : decode prog_14_method_29_code 4 = .ok (.iload_n 1, 1) := by decide +kernel
theorem ad_Md_isNeed_5 : decode prog_14_method_29_code 5 = .ok (.aload_n 0, 1) := by decide +kernel
theorem ad_Md_isNeed_6 : decode prog_14_method_29_code 6 = .ok (.getfield 13, 3) := by decide +kernel
theorem ad_Md_isNeed_9 : decode prog_14_method_29_code 9 = .ok (.iconst 2, 1) := by decide +kernel
theorem ad_Md_isNeed_10 : decode prog_14_method_29_code 10 = .ok (.iaload, 1) := by decide +kernel
theorem ad_Md_isNeed_11 : decode prog_14_method_29_code 11 = .ok (.if_icmp .ge 7, 3) := by decide +kernel
theorem ad_Md_isNeed_14 : decode prog_14_method_29_code 14 = .ok (.iconst 1, 1) := by decide +kernel
theorem ad_Md_isNeed_15 : decode prog_14_method_29_code 15 = .ok (.goto 4, 3) := by decide +kernel
theorem ad_Md_isNeed_18 : decode prog_14_method_29_code 18 = .ok (.iconst 0, 1) := by decide +kernel
theorem ad_Md_isNeed_19 : decode prog_14_method_29_code 19 = .ok (.ireturn, 1) := by decide +kernel
theorem ad_Md_worth_0 : decode prog_14_method_30_code 0 = .ok (.aload_n 0, 1) := by decide +kernel
theorem ad_Md_worth_1 : decode prog_14_method_30_code 1 = .ok (.getfield 13, 3) := by decide +kernel
theorem ad_Md_worth_4 : decode prog_14_method_30_code 4 = .ok (.bipush 10, 2) := by decide +kernel
theorem ad_Md_worth_6 : decode prog_14_method_30_code 6 = .ok (.iconst 2, 1) := by decide +kernel
theorem ad_Md_worth_7 : decode prog_14_method_30_code 7 = .ok (.iload_n 1, 1) := by decide +kernel
theorem ad_Md_worth_8 : decode prog_14_method_30_code 8 = .ok (.imul, 1) := by decide +kernel
theorem ad_Md_worth_9 : decode prog_14_method_30_code 9 = .ok (.iadd, 1) := by decide +kernel
theorem ad_Md_worth_10 : decode prog_14_method_30_code 10 = .ok (.iaload, 1) := by decide +kernel
theorem ad_Md_worth_11 : decode prog_14_method_30_code 11 = .ok (.ireturn, 1) := by decide +kernel
theorem ad_Md_hide_0 : decode prog_14_method_31_code 0 = .ok (.aload_n 0, 1) := by decide +kernel
theorem ad_Md_hide_1 : decode prog_14_method_31_code 1 = .ok (.getfield 13, 3) := by decide +kernel
theorem ad_Md_hide_4 : decode prog_14_method_31_code 4 = .ok (.bipush 10, 2) := by decide +kernel
theorem ad_Md_hide_6 : decode prog_14_method_31_code 6 = .ok (.iconst 2, 1) := by decide +kernel
theorem ad_Md_hide_7 : decode prog_14_method_31_code 7 = .ok (.iload_n 1, 1) := by decide +kernel
theorem ad_Md_hide_8 : decode prog_14_method_31_code 8 = .ok (.imul, 1) := by decide +kernel
theorem ad_Md_hide_9 : decode prog_14_method_31_code 9 = .ok (.iadd, 1) := by decide +kernel
theorem ad_Md_hide_10 : decode prog_14_method_31_code 10 = .ok (.iconst 1, 1) := by decide +kernel
theorem ad_Md_hide_11 : decode prog_14_method_31_code 11 = .ok (.iadd, 1) := by decide +kernel
theorem ad_Md_hide_12 : decode prog_14_method_31_code 12 = .ok (.iaload, 1) := by decide +kernel
theorem ad_Md_hide_13 : decode prog_14_method_31_code 13 = .ok (.ireturn, 1) := by decide +kernel
theorem ad_Md_pains_0 : decode prog_14_method_32_code 0 = .ok (.aload_n 0, 1) := by decide +kernel
theorem ad_Md_pains_1 : decode prog_14_method_32_code 1 = .ok (.getfield 13, 3) := by decide +kernel
theorem ad_Md_pains_4 : decode prog_14_method_32_code 4 = .ok (.bipush 35, 2) := by decide +kernel
theorem ad_Md_pains_6 : decode prog_14_method_32_code 6 = .ok (.bipush 6, 2) := by decide +kernel
theorem ad_Md_pains_8 : decode prog_14_method_32_code 8 = .ok (.iload_n 1, 1) := by decide +kernel
theorem ad_Md_pains_9 : decode prog_14_method_32_code 9 = .ok (.imul, 1) := by decide +kernel
theorem ad_Md_pains_10 : decode prog_14_method_32_code 10 = .ok (.iadd, 1) := by decide +kernel
theorem ad_Md_pains_11 : decode prog_14_method_32_code 11 = .ok (.iload_n 2, 1) := by decide +kernel
theorem ad_Md_pains_12 : decode prog_14_method_32_code 12 = .ok (.iadd, 1) := by decide +kernel
theorem ad_Md_pains_13 : decode prog_14_method_32_code 13 = .ok (.iaload, 1) := by decide +kernel
theorem ad_Md_pains_14 : decode prog_14_method_32_code 14 = .ok (.ireturn, 1) := by decide +kernel
theorem ad_Md_friendship_0 : decode prog_14_method_33_code 0 = .ok (.aload_n 0, 1) := by decide +kernel
theorem ad_Md_friendship_1 : decode prog_14_method_33_code 1 = .ok (.getfield 13, 3) := by decide +kernel
theorem ad_Md_friendship_4 : decode prog_14_method_33_code 4 = .ok (.bipush 95, 2) := by decide +kernel
theorem ad_Md_friendship_6 : decode prog_14_method_33_code 6 = .ok (.bipush 8, 2) := by decide +kernel
theorem ad_Md_friendship_8 : decode prog_14_method_33_code 8 = .ok (.iload_n 1, 1) := by decide +kernel
theorem ad_Md_friendship_9 : decode prog_14_method_33_code 9 = .ok (.imul, 1) := by decide +kernel
theorem ad_Md_friendship_10 : decode prog_14_method_33_code 10 = .ok (.iadd, 1) := by decide +kernel
theorem ad_Md_friendship_11 : decode prog_14_method_33_code 11 = .ok (.iload_n 2, 1) := by decide +kernel
theorem ad_Md_friendship_12 : decode prog_14_method_33_code 12 = .ok (.iadd, 1) := by decide +kernel
theorem ad_Md_friendship_13 : decode prog_14_method_33_code 13 = .ok (.iaload, 1) := by decide +kernel
theorem ad_Md_friendship_14 : decode prog_14_method_33_code 14 = .ok (.ireturn, 1) := by decide +kernel
theorem ad_Md_sees_0 : decode prog_14_method_34_code 0 = .ok (.aload_n 0, 1) := by decide +kernel
theorem ad_Md_sees_1 : decode prog_14_method_34_code 1 = .ok (.getfield 13, 3) := by decide +kernel
theorem ad_Md_sees_4 : decode prog_14_method_34_code 4 = .ok (.sipush 160, 3) := by decide +kernel
theorem ad_Md_sees_7 : decode prog_14_method_34_code 7 = .ok (.bipush 8, 2) := by decide +kernel
theorem ad_Md_sees_9 : decode prog_14_method_34_code 9 = .ok (.iload_n 1, 1) := by decide +kernel
theorem ad_Md_sees_10 : decode prog_14_method_34_code 10 = .ok (.imul, 1) := by decide +kernel
theorem ad_Md_sees_11 : decode prog_14_method_34_code 11 = .ok (.iadd, 1) := by decide +kernel
theorem ad_Md_sees_12 : decode prog_14_method_34_code 12 = .ok (.iload_n 2, 1) := by decide +kernel
theorem ad_Md_sees_13 : decode prog_14_method_34_code 13 = .ok (.iadd, 1) := by decide +kernel
theorem ad_Md_sees_14 : decode prog_14_method_34_code 14 = .ok (.iaload, 1) := by decide +kernel
theorem ad_Md_sees_15 : decode prog_14_method_34_code 15 = .ok (.ireturn, 1) := by decide +kernel
theorem ad_Md_needy_0 : decode prog_14_method_35_code 0 = .ok (.aload_n 0, 1) := by decide +kernel
theorem ad_Md_needy_1 : decode prog_14_method_35_code 1 = .ok (.getfield 13, 3) := by decide +kernel
theorem ad_Md_needy_4 : decode prog_14_method_35_code 4 = .ok (.sipush 225, 3) := by decide +kernel
theorem ad_Md_needy_7 : decode prog_14_method_35_code 7 = .ok (.iconst 2, 1) := by decide +kernel
theorem ad_Md_needy_8 : decode prog_14_method_35_code 8 = .ok (.iload_n 1, 1) := by decide +kernel
theorem ad_Md_needy_9 : decode prog_14_method_35_code 9 = .ok (.imul, 1) := by decide +kernel
theorem ad_Md_needy_10 : decode prog_14_method_35_code 10 = .ok (.iadd, 1) := by decide +kernel
theorem ad_Md_needy_11 : decode prog_14_method_35_code 11 = .ok (.iaload, 1) := by decide +kernel
theorem ad_Md_needy_12 : decode prog_14_method_35_code 12 = .ok (.ireturn, 1) := by decide +kernel
theorem ad_Md_needed_0 : decode prog_14_method_36_code 0 = .ok (.aload_n 0, 1) := by decide +kernel
theorem ad_Md_needed_1 : decode prog_14_method_36_code 1 = .ok (.getfield 13, 3) := by decide +kernel
theorem ad_Md_needed_4 : decode prog_14_method_36_code 4 = .ok (.sipush 225, 3) := by decide +kernel
theorem ad_Md_needed_7 : decode prog_14_method_36_code 7 = .ok (.iconst 2, 1) := by decide +kernel
theorem ad_Md_needed_8 : decode prog_14_method_36_code 8 = .ok (.iload_n 1, 1) := by decide +kernel
theorem ad_Md_needed_9 : decode prog_14_method_36_code 9 = .ok (.imul, 1) := by decide +kernel
theorem ad_Md_needed_10 : decode prog_14_method_36_code 10 = .ok (.iadd, 1) := by decide +kernel
theorem ad_Md_needed_11 : decode prog_14_method_36_code 11 = .ok (.iconst 1, 1) := by decide +kernel
theorem ad_Md_needed_12 : decode prog_14_method_36_code 12 = .ok (.iadd, 1) := by decide +kernel
theorem ad_Md_needed_13 : decode prog_14_method_36_code 13 = .ok (.iaload, 1) := by decide +kernel
theorem ad_Md_needed_14 : decode prog_14_method_36_code 14 = .ok (.ireturn, 1) := by decide +kernel
theorem ad_Md_findRead_0 : decode prog_14_method_37_code 0 = .ok (.iconst 0, 1) := by decide +kernel
theorem ad_Md_findRead_1 : decode prog_14_method_37_code 1 = .ok (.istore_n 1, 1) := by decide +kernel
theorem ad_Md_findRead_2 : decode prog_14_method_37_code 2 = .ok (.iload_n 1, 1) := by decide +kernel
theorem ad_Md_findRead_3 : decode prog_14_method_37_code 3 = .ok (.aload_n 0, 1) := by decide +kernel
theorem ad_Md_findRead_4 : decode prog_14_method_37_code 4 = .ok (.getfield 16, 3) := by decide +kernel
theorem ad_Md_findRead_7 : decode prog_14_method_37_code 7 = .ok (.iconst 0, 1) := by decide +kernel
theorem ad_Md_findRead_8 : decode prog_14_method_37_code 8 = .ok (.iaload, 1) := by decide +kernel
theorem ad_Md_findRead_9 : decode prog_14_method_37_code 9 = .ok (.if_icmp .ge 25, 3) := by decide +kernel
theorem ad_Md_findRead_12 : decode prog_14_method_37_code 12 = .ok (.aload_n 0, 1) := by decide +kernel
theorem ad_Md_findRead_13 : decode prog_14_method_37_code 13 = .ok (.getfield 29, 3) := by decide +kernel
theorem ad_Md_findRead_16 : decode prog_14_method_37_code 16 = .ok (.iload_n 1, 1) := by decide +kernel
theorem ad_Md_findRead_17 : decode prog_14_method_37_code 17 = .ok (.laload, 1) := by decide +kernel
theorem ad_Md_findRead_18 : decode prog_14_method_37_code 18 = .ok (.aload_n 0, 1) := by decide +kernel
theorem ad_Md_findRead_19 : decode prog_14_method_37_code 19 = .ok (.getfield 138, 3) := by decide +kernel
theorem ad_Md_findRead_22 : decode prog_14_method_37_code 22 = .ok (.lcmp, 1) := by decide +kernel
theorem ad_Md_findRead_23 : decode prog_14_method_37_code 23 = .ok (.ifCond .ne 5, 3) := by decide +kernel
theorem ad_Md_findRead_26 : decode prog_14_method_37_code 26 = .ok (.iload_n 1, 1) := by decide +kernel
theorem ad_Md_findRead_27 : decode prog_14_method_37_code 27 = .ok (.ireturn, 1) := by decide +kernel
theorem ad_Md_findRead_28 : decode prog_14_method_37_code 28 = .ok (.iinc 1 1, 3) := by decide +kernel
theorem ad_Md_findRead_31 : decode prog_14_method_37_code 31 = .ok (.goto (-29), 3) := by decide +kernel
theorem ad_Md_findRead_34 : decode prog_14_method_37_code 34 = .ok (.iconst 0, 1) := by decide +kernel
theorem ad_Md_findRead_35 : decode prog_14_method_37_code 35 = .ok (.istore_n 1, 1) := by decide +kernel
theorem ad_Md_findRead_36 : decode prog_14_method_37_code 36 = .ok (.iload_n 1, 1) := by decide +kernel
theorem ad_Md_findRead_37 : decode prog_14_method_37_code 37 = .ok (.aload_n 0, 1) := by decide +kernel
theorem ad_Md_findRead_38 : decode prog_14_method_37_code 38 = .ok (.getfield 16, 3) := by decide +kernel
theorem ad_Md_findRead_41 : decode prog_14_method_37_code 41 = .ok (.iconst 1, 1) := by decide +kernel
theorem ad_Md_findRead_42 : decode prog_14_method_37_code 42 = .ok (.iaload, 1) := by decide +kernel
theorem ad_Md_findRead_43 : decode prog_14_method_37_code 43 = .ok (.if_icmp .ge 31, 3) := by decide +kernel
theorem ad_Md_findRead_46 : decode prog_14_method_37_code 46 = .ok (.aload_n 0, 1) := by decide +kernel
theorem ad_Md_findRead_47 : decode prog_14_method_37_code 47 = .ok (.getfield 29, 3) := by decide +kernel
theorem ad_Md_findRead_50 : decode prog_14_method_37_code 50 = .ok (.bipush 6, 2) := by decide +kernel
theorem ad_Md_findRead_52 : decode prog_14_method_37_code 52 = .ok (.iload_n 1, 1) := by decide +kernel
theorem ad_Md_findRead_53 : decode prog_14_method_37_code 53 = .ok (.iadd, 1) := by decide +kernel
theorem ad_Md_findRead_54 : decode prog_14_method_37_code 54 = .ok (.laload, 1) := by decide +kernel
theorem ad_Md_findRead_55 : decode prog_14_method_37_code 55 = .ok (.aload_n 0, 1) := by decide +kernel
theorem ad_Md_findRead_56 : decode prog_14_method_37_code 56 = .ok (.getfield 138, 3) := by decide +kernel
theorem ad_Md_findRead_59 : decode prog_14_method_37_code 59 = .ok (.lcmp, 1) := by decide +kernel
theorem ad_Md_findRead_60 : decode prog_14_method_37_code 60 = .ok (.ifCond .ne 8, 3) := by decide +kernel
theorem ad_Md_findRead_63 : decode prog_14_method_37_code 63 = .ok (.bipush 6, 2) := by decide +kernel
theorem ad_Md_findRead_65 : decode prog_14_method_37_code 65 = .ok (.iload_n 1, 1) := by decide +kernel
theorem ad_Md_findRead_66 : decode prog_14_method_37_code 66 = .ok (.iadd, 1) := by decide +kernel
theorem ad_Md_findRead_67 : decode prog_14_method_37_code 67 = .ok (.ireturn, 1) := by decide +kernel
theorem ad_Md_findRead_68 : decode prog_14_method_37_code 68 = .ok (.iinc 1 1, 3) := by decide +kernel
theorem ad_Md_findRead_71 : decode prog_14_method_37_code 71 = .ok (.goto (-35), 3) := by decide +kernel
theorem ad_Md_findRead_74 : decode prog_14_method_37_code 74 = .ok (.iconst (-1), 1) := by decide +kernel
theorem ad_Md_findRead_75 : decode prog_14_method_37_code 75 = .ok (.ireturn, 1) := by decide +kernel
theorem ad_Md_readNew_0 : decode prog_14_method_38_code 0 = .ok (.aload_n 0, 1) := by decide +kernel
theorem ad_Md_readNew_1 : decode prog_14_method_38_code 1 = .ok (.invokevirtual 204, 3) := by decide +kernel
theorem ad_Md_readNew_4 : decode prog_14_method_38_code 4 = .ok (.ifCond .ne 9, 3) := by decide +kernel
theorem ad_Md_readNew_7 : decode prog_14_method_38_code 7 = .ok (.aload_n 0, 1) := by decide +kernel
theorem ad_Md_readNew_8 : decode prog_14_method_38_code 8 = .ok (.iconst 1, 1) := by decide +kernel
theorem ad_Md_readNew_9 : decode prog_14_method_38_code 9 = .ok (.invokevirtual 171, 3) := by decide +kernel
theorem ad_Md_readNew_12 : decode prog_14_method_38_code 12 = .ok (.ireturn, 1) := by decide +kernel
theorem ad_Md_readNew_13 : decode prog_14_method_38_code 13 = .ok (.aload_n 0, 1) := by decide +kernel
theorem ad_Md_readNew_14 : decode prog_14_method_38_code 14 = .ok (.invokevirtual 208, 3) := by decide +kernel
theorem ad_Md_readNew_17 : decode prog_14_method_38_code 17 = .ok (.iconst (-1), 1) := by decide +kernel
theorem ad_Md_readNew_18 : decode prog_14_method_38_code 18 = .ok (.if_icmp .eq 9, 3) := by decide +kernel
theorem ad_Md_readNew_21 : decode prog_14_method_38_code 21 = .ok (.aload_n 0, 1) := by decide +kernel
theorem ad_Md_readNew_22 : decode prog_14_method_38_code 22 = .ok (.iconst 3, 1) := by decide +kernel
theorem ad_Md_readNew_23 : decode prog_14_method_38_code 23 = .ok (.invokevirtual 171, 3) := by decide +kernel
theorem ad_Md_readNew_26 : decode prog_14_method_38_code 26 = .ok (.ireturn, 1) := by decide +kernel
theorem ad_Md_readNew_27 : decode prog_14_method_38_code 27 = .ok (.aload_n 0, 1) := by decide +kernel
theorem ad_Md_readNew_28 : decode prog_14_method_38_code 28 = .ok (.getfield 29, 3) := by decide +kernel
theorem ad_Md_readNew_31 : decode prog_14_method_38_code 31 = .ok (.iload_n 1, 1) := by decide +kernel
theorem ad_Md_readNew_32 : decode prog_14_method_38_code 32 = .ok (.aload_n 0, 1) := by decide +kernel
theorem ad_Md_readNew_33 : decode prog_14_method_38_code 33 = .ok (.getfield 138, 3) := by decide +kernel
theorem ad_Md_readNew_36 : decode prog_14_method_38_code 36 = .ok (.lastore, 1) := by decide +kernel
theorem ad_Md_readNew_37 : decode prog_14_method_38_code 37 = .ok (.aload_n 0, 1) := by decide +kernel
theorem ad_Md_readNew_38 : decode prog_14_method_38_code 38 = .ok (.invokevirtual 181, 3) := by decide +kernel
theorem ad_Md_readNew_41 : decode prog_14_method_38_code 41 = .ok (.iconst 1, 1) := by decide +kernel
theorem ad_Md_readNew_42 : decode prog_14_method_38_code 42 = .ok (.ireturn, 1) := by decide +kernel
theorem ad_Md_readHelp_0 : decode prog_14_method_39_code 0 = .ok (.aload_n 0, 1) := by decide +kernel
theorem ad_Md_readHelp_1 : decode prog_14_method_39_code 1 = .ok (.getfield 16, 3) := by decide +kernel
theorem ad_Md_readHelp_4 : decode prog_14_method_39_code 4 = .ok (.iconst 0, 1) := by decide +kernel
theorem ad_Md_readHelp_5 : decode prog_14_method_39_code 5 = .ok (.iaload, 1) := by decide +kernel
theorem ad_Md_readHelp_6 : decode prog_14_method_39_code 6 = .ok (.istore_n 1, 1) := by decide +kernel
theorem ad_Md_readHelp_7 : decode prog_14_method_39_code 7 = .ok (.iload_n 1, 1) := by decide +kernel
theorem ad_Md_readHelp_8 : decode prog_14_method_39_code 8 = .ok (.bipush 6, 2) := by decide +kernel
theorem ad_Md_readHelp_10 : decode prog_14_method_39_code 10 = .ok (.if_icmp .ne 9, 3) := by decide +kernel
theorem ad_Md_readHelp_13 : decode prog_14_method_39_code 13 = .ok (.aload_n 0, 1) := by decide +kernel
theorem ad_Md_readHelp_14 : decode prog_14_method_39_code 14 = .ok (.iconst 4, 1) := by decide +kernel
theorem ad_Md_readHelp_15 : decode prog_14_method_39_code 15 = .ok (.invokevirtual 171, 3) := by decide +kernel
theorem ad_Md_readHelp_18 : decode prog_14_method_39_code 18 = .ok (.ireturn, 1) := by decide +kernel
theorem ad_Md_readHelp_19 : decode prog_14_method_39_code 19 = .ok (.aload_n 0, 1) := by decide +kernel
theorem ad_Md_readHelp_20 : decode prog_14_method_39_code 20 = .ok (.invokevirtual 181, 3) := by decide +kernel
theorem ad_Md_readHelp_23 : decode prog_14_method_39_code 23 = .ok (.aload_n 0, 1) := by decide +kernel
theorem ad_Md_readHelp_24 : decode prog_14_method_39_code 24 = .ok (.iload_n 1, 1) := by decide +kernel
theorem ad_Md_readHelp_25 : decode prog_14_method_39_code 25 = .ok (.invokevirtual 211, 3) := by decide +kernel
theorem ad_Md_readHelp_28 : decode prog_14_method_39_code 28 = .ok (.ifCond .eq 13, 3) := by decide +kernel
theorem ad_Md_readHelp_31 : decode prog_14_method_39_code 31 = .ok (.aload_n 0, 1) := by decide +kernel
theorem ad_Md_readHelp_32 : decode prog_14_method_39_code 32 = .ok (.iconst 1, 1) := by decide +kernel
theorem ad_Md_readHelp_33 : decode prog_14_method_39_code 33 = .ok (.bipush 99, 2) := by decide +kernel
theorem ad_Md_readHelp_35 : decode prog_14_method_39_code 35 = .ok (.invokevirtual 214, 3) := by decide +kernel
theorem ad_Md_readHelp_38 : decode prog_14_method_39_code 38 = .ok (.ifCond .ne 5, 3) := by decide +kernel
theorem ad_Md_readHelp_41 : decode prog_14_method_39_code 41 = .ok (.iconst 0, 1) := by decide +kernel
theorem ad_Md_readHelp_42 : decode prog_14_method_39_code 42 = .ok (.ireturn, 1) := by decide +kernel
theorem ad_Md_readHelp_43 : decode prog_14_method_39_code 43 = .ok (.aload_n 0, 1) := by decide +kernel
theorem ad_Md_readHelp_44 : decode prog_14_method_39_code 44 = .ok (.getfield 16, 3) := by decide +kernel
theorem ad_Md_readHelp_47 : decode prog_14_method_39_code 47 = .ok (.bipush 10, 2) := by decide +kernel
theorem ad_Md_readHelp_49 : decode prog_14_method_39_code 49 = .ok (.iconst 2, 1) := by decide +kernel
theorem ad_Md_readHelp_50 : decode prog_14_method_39_code 50 = .ok (.iload_n 1, 1) := by decide +kernel
theorem ad_Md_readHelp_51 : decode prog_14_method_39_code 51 = .ok (.imul, 1) := by decide +kernel
theorem ad_Md_readHelp_52 : decode prog_14_method_39_code 52 = .ok (.iadd, 1) := by decide +kernel
theorem ad_Md_readHelp_53 : decode prog_14_method_39_code 53 = .ok (.aload_n 0, 1) := by decide +kernel
theorem ad_Md_readHelp_54 : decode prog_14_method_39_code 54 = .ok (.getfield 178, 3) := by decide +kernel
theorem ad_Md_readHelp_57 : decode prog_14_method_39_code 57 = .ok (.iastore, 1) := by decide +kernel
theorem ad_Md_readHelp_58 : decode prog_14_method_39_code 58 = .ok (.aload_n 0, 1) := by decide +kernel
theorem ad_Md_readHelp_59 : decode prog_14_method_39_code 59 = .ok (.iconst 0, 1) := by decide +kernel
theorem ad_Md_readHelp_60 : decode prog_14_method_39_code 60 = .ok (.bipush 99, 2) := by decide +kernel
theorem ad_Md_readHelp_62 : decode prog_14_method_39_code 62 = .ok (.invokevirtual 214, 3) := by decide +kernel
theorem ad_Md_readHelp_65 : decode prog_14_method_39_code 65 = .ok (.ifCond .ne 5, 3) := by decide +kernel
theorem ad_Md_readHelp_68 : decode prog_14_method_39_code 68 = .ok (.iconst 0, 1) := by decide +kernel
theorem ad_Md_readHelp_69 : decode prog_14_method_39_code 69 = .ok (.ireturn, 1) := by decide +kernel
theorem ad_Md_readHelp_70 : decode prog_14_method_39_code 70 = .ok (.aload_n 0, 1) := by decide +kernel
theorem ad_Md_readHelp_71 : decode prog_14_method_39_code 71 = .ok (.getfield 16, 3) := by decide +kernel
theorem ad_Md_readHelp_74 : decode prog_14_method_39_code 74 = .ok (.bipush 10, 2) := by decide +kernel
theorem ad_Md_readHelp_76 : decode prog_14_method_39_code 76 = .ok (.iconst 2, 1) := by decide +kernel
theorem ad_Md_readHelp_77 : decode prog_14_method_39_code 77 = .ok (.iload_n 1, 1) := by decide +kernel
theorem ad_Md_readHelp_78 : decode prog_14_method_39_code 78 = .ok (.imul, 1) := by decide +kernel
theorem ad_Md_readHelp_79 : decode prog_14_method_39_code 79 = .ok (.iadd, 1) := by decide +kernel
theorem ad_Md_readHelp_80 : decode prog_14_method_39_code 80 = .ok (.iconst 1, 1) := by decide +kernel
theorem ad_Md_readHelp_81 : decode prog_14_method_39_code 81 = .ok (.iadd, 1) := by decide +kernel
theorem ad_Md_readHelp_82 : decode prog_14_method_39_code 82 = .ok (.aload_n 0, 1) := by decide +kernel
theorem ad_Md_readHelp_83 : decode prog_14_method_39_code 83 = .ok (.getfield 178, 3) := by decide +kernel
theorem ad_Md_readHelp_86 : decode prog_14_method_39_code 86 = .ok (.iastore, 1) := by decide +kernel
theorem ad_Md_readHelp_87 : decode prog_14_method_39_code 87 = .ok (.aload_n 0, 1) := by decide +kernel
theorem ad_Md_readHelp_88 : decode prog_14_method_39_code 88 = .ok (.getfield 16, 3) := by decide +kernel
theorem ad_Md_readHelp_91 : decode prog_14_method_39_code 91 = .ok (.iconst 0, 1) := by decide +kernel
theorem ad_Md_readHelp_92 : decode prog_14_method_39_code 92 = .ok (.dup2, 1) := by decide +kernel
theorem ad_Md_readHelp_93 : decode prog_14_method_39_code 93 = .ok (.iaload, 1) := by decide +kernel
theorem ad_Md_readHelp_94 : decode prog_14_method_39_code 94 = .ok (.iconst 1, 1) := by decide +kernel
theorem ad_Md_readHelp_95 : decode prog_14_method_39_code 95 = .ok (.iadd, 1) := by decide +kernel
theorem ad_Md_readHelp_96 : decode prog_14_method_39_code 96 = .ok (.iastore, 1) := by decide +kernel
theorem ad_Md_readHelp_97 : decode prog_14_method_39_code 97 = .ok (.iconst 1, 1) := by decide +kernel
theorem ad_Md_readHelp_98 : decode prog_14_method_39_code 98 = .ok (.ireturn, 1) := by decide +kernel
theorem ad_Md_readHelpTold_0 : decode prog_14_method_40_code 0 = .ok (.aload_n 0, 1) := by decide +kernel
theorem ad_Md_readHelpTold_1 : decode prog_14_method_40_code 1 = .ok (.invokevirtual 204, 3) := by decide +kernel
theorem ad_Md_readHelpTold_4 : decode prog_14_method_40_code 4 = .ok (.ifCond .ne 9, 3) := by decide +kernel
theorem ad_Md_readHelpTold_7 : decode prog_14_method_40_code 7 = .ok (.aload_n 0, 1) := by decide +kernel
theorem ad_Md_readHelpTold_8 : decode prog_14_method_40_code 8 = .ok (.iconst 1, 1) := by decide +kernel
theorem ad_Md_readHelpTold_9 : decode prog_14_method_40_code 9 = .ok (.invokevirtual 171, 3) := by decide +kernel
theorem ad_Md_readHelpTold_12 : decode prog_14_method_40_code 12 = .ok (.ireturn, 1) := by decide +kernel
theorem ad_Md_readHelpTold_13 : decode prog_14_method_40_code 13 = .ok (.aload_n 0, 1) := by decide +kernel
theorem ad_Md_readHelpTold_14 : decode prog_14_method_40_code 14 = .ok (.invokevirtual 208, 3) := by decide +kernel
theorem ad_Md_readHelpTold_17 : decode prog_14_method_40_code 17 = .ok (.istore_n 1, 1) := by decide +kernel
theorem ad_Md_readHelpTold_18 : decode prog_14_method_40_code 18 = .ok (.iload_n 1, 1) := by decide +kernel
theorem ad_Md_readHelpTold_19 : decode prog_14_method_40_code 19 = .ok (.iconst (-1), 1) := by decide +kernel
theorem ad_Md_readHelpTold_20 : decode prog_14_method_40_code 20 = .ok (.if_icmp .eq 9, 3) := by decide +kernel
theorem ad_Md_readHelpTold_23 : decode prog_14_method_40_code 23 = .ok (.iload_n 1, 1) := by decide +kernel
theorem ad_Md_readHelpTold_24 : decode prog_14_method_40_code 24 = .ok (.bipush 6, 2) := by decide +kernel
theorem ad_Md_readHelpTold_26 : decode prog_14_method_40_code 26 = .ok (.if_icmp .lt 9, 3) := by decide +kernel
theorem ad_Md_readHelpTold_29 : decode prog_14_method_40_code 29 = .ok (.aload_n 0, 1) := by decide +kernel
theorem ad_Md_readHelpTold_30 : decode prog_14_method_40_code 30 = .ok (.iconst 3, 1) := by decide +kernel
theorem ad_Md_readHelpTold_31 : decode prog_14_method_40_code 31 = .ok (.invokevirtual 171, 3) := by decide +kernel
theorem ad_Md_readHelpTold_34 : decode prog_14_method_40_code 34 = .ok (.ireturn, 1) := by decide +kernel
theorem ad_Md_readHelpTold_35 : decode prog_14_method_40_code 35 = .ok (.aload_n 0, 1) := by decide +kernel
theorem ad_Md_readHelpTold_36 : decode prog_14_method_40_code 36 = .ok (.iload_n 1, 1) := by decide +kernel
theorem ad_Md_readHelpTold_37 : decode prog_14_method_40_code 37 = .ok (.putfield 178, 3) := by decide +kernel
theorem ad_Md_readHelpTold_40 : decode prog_14_method_40_code 40 = .ok (.iconst 1, 1) := by decide +kernel
theorem ad_Md_readHelpTold_41 : decode prog_14_method_40_code 41 = .ok (.ireturn, 1) := by decide +kernel
theorem ad_Md_readPerson_0 : decode prog_14_method_41_code 0 = .ok (.aload_n 0, 1) := by decide +kernel
theorem ad_Md_readPerson_1 : decode prog_14_method_41_code 1 = .ok (.getfield 16, 3) := by decide +kernel
theorem ad_Md_readPerson_4 : decode prog_14_method_41_code 4 = .ok (.iconst 1, 1) := by decide +kernel
theorem ad_Md_readPerson_5 : decode prog_14_method_41_code 5 = .ok (.iaload, 1) := by decide +kernel
theorem ad_Md_readPerson_6 : decode prog_14_method_41_code 6 = .ok (.istore_n 1, 1) := by decide +kernel
theorem ad_Md_readPerson_7 : decode prog_14_method_41_code 7 = .ok (.iload_n 1, 1) := by decide +kernel
theorem ad_Md_readPerson_8 : decode prog_14_method_41_code 8 = .ok (.bipush 8, 2) := by decide +kernel
theorem ad_Md_readPerson_10 : decode prog_14_method_41_code 10 = .ok (.if_icmp .ne 9, 3) := by decide +kernel
theorem ad_Md_readPerson_13 : decode prog_14_method_41_code 13 = .ok (.aload_n 0, 1) := by decide +kernel
theorem ad_Md_readPerson_14 : decode prog_14_method_41_code 14 = .ok (.iconst 4, 1) := by decide +kernel
theorem ad_Md_readPerson_15 : decode prog_14_method_41_code 15 = .ok (.invokevirtual 171, 3) := by decide +kernel
theorem ad_Md_readPerson_18 : decode prog_14_method_41_code 18 = .ok (.ireturn, 1) := by decide +kernel
theorem ad_Md_readPerson_19 : decode prog_14_method_41_code 19 = .ok (.aload_n 0, 1) := by decide +kernel
theorem ad_Md_readPerson_20 : decode prog_14_method_41_code 20 = .ok (.invokevirtual 181, 3) := by decide +kernel
theorem ad_Md_readPerson_23 : decode prog_14_method_41_code 23 = .ok (.aload_n 0, 1) := by decide +kernel
theorem ad_Md_readPerson_24 : decode prog_14_method_41_code 24 = .ok (.bipush 6, 2) := by decide +kernel
theorem ad_Md_readPerson_26 : decode prog_14_method_41_code 26 = .ok (.iload_n 1, 1) := by decide +kernel
theorem ad_Md_readPerson_27 : decode prog_14_method_41_code 27 = .ok (.iadd, 1) := by decide +kernel
theorem ad_Md_readPerson_28 : decode prog_14_method_41_code 28 = .ok (.invokevirtual 211, 3) := by decide +kernel
theorem ad_Md_readPerson_31 : decode prog_14_method_41_code 31 = .ok (.ifCond .eq 13, 3) := by decide +kernel
theorem ad_Md_readPerson_34 : decode prog_14_method_41_code 34 = .ok (.aload_n 0, 1) := by decide +kernel
theorem ad_Md_readPerson_35 : decode prog_14_method_41_code 35 = .ok (.iconst 0, 1) := by decide +kernel
theorem ad_Md_readPerson_36 : decode prog_14_method_41_code 36 = .ok (.bipush 9, 2) := by decide +kernel
theorem ad_Md_readPerson_38 : decode prog_14_method_41_code 38 = .ok (.invokevirtual 214, 3) := by decide +kernel
theorem ad_Md_readPerson_41 : decode prog_14_method_41_code 41 = .ok (.ifCond .ne 5, 3) := by decide +kernel
theorem ad_Md_readPerson_44 : decode prog_14_method_41_code 44 = .ok (.iconst 0, 1) := by decide +kernel
theorem ad_Md_readPerson_45 : decode prog_14_method_41_code 45 = .ok (.ireturn, 1) := by decide +kernel
theorem ad_Md_readPerson_46 : decode prog_14_method_41_code 46 = .ok (.aload_n 0, 1) := by decide +kernel
theorem ad_Md_readPerson_47 : decode prog_14_method_41_code 47 = .ok (.getfield 16, 3) := by decide +kernel
theorem ad_Md_readPerson_50 : decode prog_14_method_41_code 50 = .ok (.bipush 25, 2) := by decide +kernel
theorem ad_Md_readPerson_52 : decode prog_14_method_41_code 52 = .ok (.iload_n 1, 1) := by decide +kernel
theorem ad_Md_readPerson_53 : decode prog_14_method_41_code 53 = .ok (.iadd, 1) := by decide +kernel
theorem ad_Md_readPerson_54 : decode prog_14_method_41_code 54 = .ok (.aload_n 0, 1) := by decide +kernel
theorem ad_Md_readPerson_55 : decode prog_14_method_41_code 55 = .ok (.getfield 178, 3) := by decide +kernel
theorem ad_Md_readPerson_58 : decode prog_14_method_41_code 58 = .ok (.iastore, 1) := by decide +kernel
theorem ad_Md_readPerson_59 : decode prog_14_method_41_code 59 = .ok (.aload_n 0, 1) := by decide +kernel
theorem ad_Md_readPerson_60 : decode prog_14_method_41_code 60 = .ok (.getfield 16, 3) := by decide +kernel
theorem ad_Md_readPerson_63 : decode prog_14_method_41_code 63 = .ok (.bipush 85, 2) := by decide +kernel
theorem ad_Md_readPerson_65 : decode prog_14_method_41_code 65 = .ok (.iload_n 1, 1) := by decide +kernel
theorem ad_Md_readPerson_66 : decode prog_14_method_41_code 66 = .ok (.iadd, 1) := by decide +kernel
theorem ad_Md_readPerson_67 : decode prog_14_method_41_code 67 = .ok (.iconst 0, 1) := by decide +kernel
theorem ad_Md_readPerson_68 : decode prog_14_method_41_code 68 = .ok (.iastore, 1) := by decide +kernel
theorem ad_Md_readPerson_69 : decode prog_14_method_41_code 69 = .ok (.iconst 0, 1) := by decide +kernel
theorem ad_Md_readPerson_70 : decode prog_14_method_41_code 70 = .ok (.istore_n 2, 1) := by decide +kernel
theorem ad_Md_readPerson_71 : decode prog_14_method_41_code 71 = .ok (.iload_n 2, 1) := by decide +kernel
theorem ad_Md_readPerson_72 : decode prog_14_method_41_code 72 = .ok (.bipush 6, 2) := by decide +kernel
theorem ad_Md_readPerson_74 : decode prog_14_method_41_code 74 = .ok (.if_icmp .ge 24, 3) := by decide +kernel
theorem ad_Md_readPerson_77 : decode prog_14_method_41_code 77 = .ok (.aload_n 0, 1) := by decide +kernel
theorem ad_Md_readPerson_78 : decode prog_14_method_41_code 78 = .ok (.getfield 16, 3) := by decide +kernel
theorem ad_Md_readPerson_81 : decode prog_14_method_41_code 81 = .ok (.bipush 35, 2) := by decide +kernel
theorem ad_Md_readPerson_83 : decode prog_14_method_41_code 83 = .ok (.bipush 6, 2) := by decide +kernel
theorem ad_Md_readPerson_85 : decode prog_14_method_41_code 85 = .ok (.iload_n 1, 1) := by decide +kernel
theorem ad_Md_readPerson_86 : decode prog_14_method_41_code 86 = .ok (.imul, 1) := by decide +kernel
theorem ad_Md_readPerson_87 : decode prog_14_method_41_code 87 = .ok (.iadd, 1) := by decide +kernel
theorem ad_Md_readPerson_88 : decode prog_14_method_41_code 88 = .ok (.iload_n 2, 1) := by decide +kernel
theorem ad_Md_readPerson_89 : decode prog_14_method_41_code 89 = .ok (.iadd, 1) := by decide +kernel
theorem ad_Md_readPerson_90 : decode prog_14_method_41_code 90 = .ok (.iconst 0, 1) := by decide +kernel
theorem ad_Md_readPerson_91 : decode prog_14_method_41_code 91 = .ok (.iastore, 1) := by decide +kernel
theorem ad_Md_readPerson_92 : decode prog_14_method_41_code 92 = .ok (.iinc 2 1, 3) := by decide +kernel
theorem ad_Md_readPerson_95 : decode prog_14_method_41_code 95 = .ok (.goto (-24), 3) := by decide +kernel
theorem ad_Md_readPerson_98 : decode prog_14_method_41_code 98 = .ok (.aload_n 0, 1) := by decide +kernel
theorem ad_Md_readPerson_99 : decode prog_14_method_41_code 99 = .ok (.bipush 7, 2) := by decide +kernel
theorem ad_Md_readPerson_101 : decode prog_14_method_41_code 101 = .ok (.invokevirtual 218, 3) := by decide +kernel
theorem ad_Md_readPerson_104 : decode prog_14_method_41_code 104 = .ok (.ifCond .ne 12, 3) := by decide +kernel
theorem ad_Md_readPerson_107 : decode prog_14_method_41_code 107 = .ok (.aload_n 0, 1) := by decide +kernel
theorem ad_Md_readPerson_108 : decode prog_14_method_41_code 108 = .ok (.bipush 8, 2) := by decide +kernel
theorem ad_Md_readPerson_110 : decode prog_14_method_41_code 110 = .ok (.invokevirtual 218, 3) := by decide +kernel
theorem ad_Md_readPerson_113 : decode prog_14_method_41_code 113 = .ok (.ifCond .eq 185, 3) := by decide +kernel
theorem ad_Md_readPerson_116 : decode prog_14_method_41_code 116 = .ok (.aload_n 0, 1) := by decide +kernel
theorem ad_Md_readPerson_117 : decode prog_14_method_41_code 117 = .ok (.bipush 7, 2) := by decide +kernel
theorem ad_Md_readPerson_119 : decode prog_14_method_41_code 119 = .ok (.invokevirtual 218, 3) := by decide +kernel
theorem ad_Md_readPerson_122 : decode prog_14_method_41_code 122 = .ok (.istore_n 2, 1) := by decide +kernel
theorem ad_Md_readPerson_123 : decode prog_14_method_41_code 123 = .ok (.aload_n 0, 1) := by decide +kernel
theorem ad_Md_readPerson_124 : decode prog_14_method_41_code 124 = .ok (.invokevirtual 181, 3) := by decide +kernel
theorem ad_Md_readPerson_127 : decode prog_14_method_41_code 127 = .ok (.aload_n 0, 1) := by decide +kernel
theorem ad_Md_readPerson_128 : decode prog_14_method_41_code 128 = .ok (.invokevirtual 221, 3) := by decide +kernel
theorem ad_Md_readPerson_131 : decode prog_14_method_41_code 131 = .ok (.ifCond .ne 5, 3) := by decide +kernel
theorem ad_Md_readPerson_134 : decode prog_14_method_41_code 134 = .ok (.iconst 0, 1) := by decide +kernel
theorem ad_Md_readPerson_135 : decode prog_14_method_41_code 135 = .ok (.ireturn, 1) := by decide +kernel
theorem ad_Md_readPerson_136 : decode prog_14_method_41_code 136 = .ok (.aload_n 0, 1) := by decide +kernel
theorem ad_Md_readPerson_137 : decode prog_14_method_41_code 137 = .ok (.getfield 178, 3) := by decide +kernel
theorem ad_Md_readPerson_140 : decode prog_14_method_41_code 140 = .ok (.istore_n 3, 1) := by decide +kernel
theorem ad_Md_readPerson_141 : decode prog_14_method_41_code 141 = .ok (.iload_n 2, 1) := by decide +kernel
theorem ad_Md_readPerson_142 : decode prog_14_method_41_code 142 = .ok (.ifCond .eq 23, 3) := by decide +kernel
theorem ad_Md_readPerson_145 : decode prog_14_method_41_code 145 = .ok (.aload_n 0, 1) := by decide +kernel
theorem ad_Md_readPerson_146 : decode prog_14_method_41_code 146 = .ok (.getfield 16, 3) := by decide +kernel
theorem ad_Md_readPerson_149 : decode prog_14_method_41_code 149 = .ok (.bipush 35, 2) := by decide +kernel
theorem ad_Md_readPerson_151 : decode prog_14_method_41_code 151 = .ok (.bipush 6, 2) := by decide +kernel
theorem ad_Md_readPerson_153 : decode prog_14_method_41_code 153 = .ok (.iload_n 1, 1) := by decide +kernel
theorem ad_Md_readPerson_154 : decode prog_14_method_41_code 154 = .ok (.imul, 1) := by decide +kernel
theorem ad_Md_readPerson_155 : decode prog_14_method_41_code 155 = .ok (.iadd, 1) := by decide +kernel
theorem ad_Md_readPerson_156 : decode prog_14_method_41_code 156 = .ok (.iload_n 3, 1) := by decide +kernel
theorem ad_Md_readPerson_157 : decode prog_14_method_41_code 157 = .ok (.iadd, 1) := by decide +kernel
theorem ad_Md_readPerson_158 : decode prog_14_method_41_code 158 = .ok (.iaload, 1) := by decide +kernel
theorem ad_Md_readPerson_159 : decode prog_14_method_41_code 159 = .ok (.ifCond .le 28, 3) := by decide +kernel
theorem ad_Md_readPerson_162 : decode prog_14_method_41_code 162 = .ok (.goto 19, 3) := by decide +kernel
theorem ad_Md_readPerson_165 : decode prog_14_method_41_code 165 = .ok (.aload_n 0, 1) := by decide +kernel
theorem ad_Md_readPerson_166 : decode prog_14_method_41_code 166 = .ok (.getfield 16, 3) := by decide +kernel
theorem ad_Md_readPerson_169 : decode prog_14_method_41_code 169 = .ok (.bipush 85, 2) := by decide +kernel
theorem ad_Md_readPerson_171 : decode prog_14_method_41_code 171 = .ok (.iload_n 1, 1) := by decide +kernel
theorem ad_Md_readPerson_172 : decode prog_14_method_41_code 172 = .ok (.iadd, 1) := by decide +kernel
theorem ad_Md_readPerson_173 : decode prog_14_method_41_code 173 = .ok (.iaload, 1) := by decide +kernel
theorem ad_Md_readPerson_174 : decode prog_14_method_41_code 174 = .ok (.iload_n 3, 1) := by decide +kernel
theorem ad_Md_readPerson_175 : decode prog_14_method_41_code 175 = .ok (.invokestatic 224, 3) := by decide +kernel
theorem ad_Md_readPerson_178 : decode prog_14_method_41_code 178 = .ok (.ifCond .eq 9, 3) := by decide +kernel
theorem ad_Md_readPerson_181 : decode prog_14_method_41_code 181 = .ok (.aload_n 0, 1) := by decide +kernel
theorem ad_Md_readPerson_182 : decode prog_14_method_41_code 182 = .ok (.iconst 3, 1) := by decide +kernel
theorem ad_Md_readPerson_183 : decode prog_14_method_41_code 183 = .ok (.invokevirtual 171, 3) := by decide +kernel
theorem ad_Md_readPerson_186 : decode prog_14_method_41_code 186 = .ok (.ireturn, 1) := by decide +kernel
theorem ad_Md_readPerson_187 : decode prog_14_method_41_code 187 = .ok (.iload_n 2, 1) := by decide +kernel
theorem ad_Md_readPerson_188 : decode prog_14_method_41_code 188 = .ok (.ifCond .eq 40, 3) := by decide +kernel
theorem ad_Md_readPerson_191 : decode prog_14_method_41_code 191 = .ok (.aload_n 0, 1) := by decide +kernel
theorem ad_Md_readPerson_192 : decode prog_14_method_41_code 192 = .ok (.invokevirtual 181, 3) := by decide +kernel
theorem ad_Md_readPerson_195 : decode prog_14_method_41_code 195 = .ok (.aload_n 0, 1) := by decide +kernel
theorem ad_Md_readPerson_196 : decode prog_14_method_41_code 196 = .ok (.iconst 1, 1) := by decide +kernel
theorem ad_Md_readPerson_197 : decode prog_14_method_41_code 197 = .ok (.bipush 99, 2) := by decide +kernel
theorem ad_Md_readPerson_199 : decode prog_14_method_41_code 199 = .ok (.invokevirtual 214, 3) := by decide +kernel
theorem ad_Md_readPerson_202 : decode prog_14_method_41_code 202 = .ok (.ifCond .ne 5, 3) := by decide +kernel
theorem ad_Md_readPerson_205 : decode prog_14_method_41_code 205 = .ok (.iconst 0, 1) := by decide +kernel
theorem ad_Md_readPerson_206 : decode prog_14_method_41_code 206 = .ok (.ireturn, 1) := by decide +kernel
theorem ad_Md_readPerson_207 : decode prog_14_method_41_code 207 = .ok (.aload_n 0, 1) := by decide +kernel
theorem ad_Md_readPerson_208 : decode prog_14_method_41_code 208 = .ok (.getfield 16, 3) := by decide +kernel
theorem ad_Md_readPerson_211 : decode prog_14_method_41_code 211 = .ok (.bipush 35, 2) := by decide +kernel
theorem ad_Md_readPerson_213 : decode prog_14_method_41_code 213 = .ok (.bipush 6, 2) := by decide +kernel
theorem ad_Md_readPerson_215 : decode prog_14_method_41_code 215 = .ok (.iload_n 1, 1) := by decide +kernel
theorem ad_Md_readPerson_216 : decode prog_14_method_41_code 216 = .ok (.imul, 1) := by decide +kernel
theorem ad_Md_readPerson_217 : decode prog_14_method_41_code 217 = .ok (.iadd, 1) := by decide +kernel
theorem ad_Md_readPerson_218 : decode prog_14_method_41_code 218 = .ok (.iload_n 3, 1) := by decide +kernel
theorem ad_Md_readPerson_219 : decode prog_14_method_41_code 219 = .ok (.iadd, 1) := by decide +kernel
theorem ad_Md_readPerson_220 : decode prog_14_method_41_code 220 = .ok (.aload_n 0, 1) := by decide +kernel
theorem ad_Md_readPerson_221 : decode prog_14_method_41_code 221 = .ok (.getfield 178, 3) := by decide +kernel
theorem ad_Md_readPerson_224 : decode prog_14_method_41_code 224 = .ok (.iastore, 1) := by decide +kernel
theorem ad_Md_readPerson_225 : decode prog_14_method_41_code 225 = .ok (.goto (-127), 3) := by decide +kernel
theorem ad_Md_readPerson_228 : decode prog_14_method_41_code 228 = .ok (.aload_n 0, 1) := by decide +kernel
theorem ad_Md_readPerson_229 : decode prog_14_method_41_code 229 = .ok (.getfield 16, 3) := by decide +kernel
theorem ad_Md_readPerson_232 : decode prog_14_method_41_code 232 = .ok (.bipush 85, 2) := by decide +kernel
theorem ad_Md_readPerson_234 : decode prog_14_method_41_code 234 = .ok (.iload_n 1, 1) := by decide +kernel
theorem ad_Md_readPerson_235 : decode prog_14_method_41_code 235 = .ok (.iadd, 1) := by decide +kernel
theorem ad_Md_readPerson_236 : decode prog_14_method_41_code 236 = .ok (.dup2, 1) := by decide +kernel
theorem ad_Md_readPerson_237 : decode prog_14_method_41_code 237 = .ok (.iaload, 1) := by decide +kernel
theorem ad_Md_readPerson_238 : decode prog_14_method_41_code 238 = .ok (.iconst 1, 1) := by decide +kernel
theorem ad_Md_readPerson_239 : decode prog_14_method_41_code 239 = .ok (.iload_n 3, 1) := by decide +kernel
theorem ad_Md_readPerson_240 : decode prog_14_method_41_code 240 = .ok (.ishl, 1) := by decide +kernel
theorem ad_Md_readPerson_241 : decode prog_14_method_41_code 241 = .ok (.ior, 1) := by decide +kernel
theorem ad_Md_readPerson_242 : decode prog_14_method_41_code 242 = .ok (.iastore, 1) := by decide +kernel
theorem ad_Md_readPerson_243 : decode prog_14_method_41_code 243 = .ok (.aload_n 0, 1) := by decide +kernel
theorem ad_Md_readPerson_244 : decode prog_14_method_41_code 244 = .ok (.getfield 16, 3) := by decide +kernel
theorem ad_Md_readPerson_247 : decode prog_14_method_41_code 247 = .ok (.sipush 225, 3) := by decide +kernel
theorem ad_Md_readPerson_250 : decode prog_14_method_41_code 250 = .ok (.iconst 2, 1) := by decide +kernel
theorem ad_Md_readPerson_251 : decode prog_14_method_41_code 251 = .ok (.aload_n 0, 1) := by decide +kernel
theorem ad_Md_readPerson_252 : decode prog_14_method_41_code 252 = .ok (.getfield 16, 3) := by decide +kernel
theorem ad_Md_readPerson_255 : decode prog_14_method_41_code 255 = .ok (.iconst 2, 1) := by decide +kernel
theorem ad_Md_readPerson_256 : decode prog_14_method_41_code 256 = .ok (.iaload, 1) := by decide +kernel
theorem ad_Md_readPerson_257 : decode prog_14_method_41_code 257 = .ok (.imul, 1) := by decide +kernel
theorem ad_Md_readPerson_258 : decode prog_14_method_41_code 258 = .ok (.iadd, 1) := by decide +kernel
theorem ad_Md_readPerson_259 : decode prog_14_method_41_code 259 = .ok (.iload_n 1, 1) := by decide +kernel
theorem ad_Md_readPerson_260 : decode prog_14_method_41_code 260 = .ok (.iastore, 1) := by decide +kernel
theorem ad_Md_readPerson_261 : decode prog_14_method_41_code 261 = .ok (.aload_n 0, 1) := by decide +kernel
theorem ad_Md_readPerson_262 : decode prog_14_method_41_code 262 = .ok (.getfield 16, 3) := by decide +kernel
theorem ad_Md_readPerson_265 : decode prog_14_method_41_code 265 = .ok (.sipush 225, 3) := by decide +kernel
theorem ad_Md_readPerson_268 : decode prog_14_method_41_code 268 = .ok (.iconst 2, 1) := by decide +kernel
theorem ad_Md_readPerson_269 : decode prog_14_method_41_code 269 = .ok (.aload_n 0, 1) := by decide +kernel
theorem ad_Md_readPerson_270 : decode prog_14_method_41_code 270 = .ok (.getfield 16, 3) := by decide +kernel
theorem ad_Md_readPerson_273 : decode prog_14_method_41_code 273 = .ok (.iconst 2, 1) := by decide +kernel
theorem ad_Md_readPerson_274 : decode prog_14_method_41_code 274 = .ok (.iaload, 1) := by decide +kernel
theorem ad_Md_readPerson_275 : decode prog_14_method_41_code 275 = .ok (.imul, 1) := by decide +kernel
theorem ad_Md_readPerson_276 : decode prog_14_method_41_code 276 = .ok (.iadd, 1) := by decide +kernel
theorem ad_Md_readPerson_277 : decode prog_14_method_41_code 277 = .ok (.iconst 1, 1) := by decide +kernel
theorem ad_Md_readPerson_278 : decode prog_14_method_41_code 278 = .ok (.iadd, 1) := by decide +kernel
theorem ad_Md_readPerson_279 : decode prog_14_method_41_code 279 = .ok (.iload_n 3, 1) := by decide +kernel
theorem ad_Md_readPerson_280 : decode prog_14_method_41_code 280 = .ok (.iastore, 1) := by decide +kernel
theorem ad_Md_readPerson_281 : decode prog_14_method_41_code 281 = .ok (.aload_n 0, 1) := by decide +kernel
theorem ad_Md_readPerson_282 : decode prog_14_method_41_code 282 = .ok (.getfield 16, 3) := by decide +kernel
theorem ad_Md_readPerson_285 : decode prog_14_method_41_code 285 = .ok (.iconst 2, 1) := by decide +kernel
theorem ad_Md_readPerson_286 : decode prog_14_method_41_code 286 = .ok (.dup2, 1) := by decide +kernel
theorem ad_Md_readPerson_287 : decode prog_14_method_41_code 287 = .ok (.iaload, 1) := by decide +kernel
theorem ad_Md_readPerson_288 : decode prog_14_method_41_code 288 = .ok (.iconst 1, 1) := by decide +kernel
theorem ad_Md_readPerson_289 : decode prog_14_method_41_code 289 = .ok (.iadd, 1) := by decide +kernel
theorem ad_Md_readPerson_290 : decode prog_14_method_41_code 290 = .ok (.iastore, 1) := by decide +kernel
theorem ad_Md_readPerson_291 : decode prog_14_method_41_code 291 = .ok (.aload_n 0, 1) := by decide +kernel
theorem ad_Md_readPerson_292 : decode prog_14_method_41_code 292 = .ok (.invokevirtual 181, 3) := by decide +kernel
theorem ad_Md_readPerson_295 : decode prog_14_method_41_code 295 = .ok (.goto (-197), 3) := by decide +kernel
theorem ad_Md_readPerson_298 : decode prog_14_method_41_code 298 = .ok (.aload_n 0, 1) := by decide +kernel
theorem ad_Md_readPerson_299 : decode prog_14_method_41_code 299 = .ok (.getfield 16, 3) := by decide +kernel
theorem ad_Md_readPerson_302 : decode prog_14_method_41_code 302 = .ok (.iconst 1, 1) := by decide +kernel
theorem ad_Md_readPerson_303 : decode prog_14_method_41_code 303 = .ok (.dup2, 1) := by decide +kernel
theorem ad_Md_readPerson_304 : decode prog_14_method_41_code 304 = .ok (.iaload, 1) := by decide +kernel
theorem ad_Md_readPerson_305 : decode prog_14_method_41_code 305 = .ok (.iconst 1, 1) := by decide +kernel
theorem ad_Md_readPerson_306 : decode prog_14_method_41_code 306 = .ok (.iadd, 1) := by decide +kernel
theorem ad_Md_readPerson_307 : decode prog_14_method_41_code 307 = .ok (.iastore, 1) := by decide +kernel
theorem ad_Md_readPerson_308 : decode prog_14_method_41_code 308 = .ok (.iconst 1, 1) := by decide +kernel
theorem ad_Md_readPerson_309 : decode prog_14_method_41_code 309 = .ok (.ireturn, 1) := by decide +kernel
theorem ad_Md_readTie_0 : decode prog_14_method_42_code 0 = .ok (.aload_n 0, 1) := by decide +kernel
theorem ad_Md_readTie_1 : decode prog_14_method_42_code 1 = .ok (.invokevirtual 181, 3) := by decide +kernel
theorem ad_Md_readTie_4 : decode prog_14_method_42_code 4 = .ok (.aload_n 0, 1) := by decide +kernel
theorem ad_Md_readTie_5 : decode prog_14_method_42_code 5 = .ok (.invokevirtual 204, 3) := by decide +kernel
theorem ad_Md_readTie_8 : decode prog_14_method_42_code 8 = .ok (.ifCond .ne 9, 3) := by decide +kernel
theorem ad_Md_readTie_11 : decode prog_14_method_42_code 11 = .ok (.aload_n 0, 1) := by decide +kernel
theorem ad_Md_readTie_12 : decode prog_14_method_42_code 12 = .ok (.iconst 1, 1) := by decide +kernel
theorem ad_Md_readTie_13 : decode prog_14_method_42_code 13 = .ok (.invokevirtual 171, 3) := by decide +kernel
theorem ad_Md_readTie_16 : decode prog_14_method_42_code 16 = .ok (.ireturn, 1) := by decide +kernel
theorem ad_Md_readTie_17 : decode prog_14_method_42_code 17 = .ok (.aload_n 0, 1) := by decide +kernel
theorem ad_Md_readTie_18 : decode prog_14_method_42_code 18 = .ok (.invokevirtual 208, 3) := by decide +kernel
theorem ad_Md_readTie_21 : decode prog_14_method_42_code 21 = .ok (.bipush 6, 2) := by decide +kernel
theorem ad_Md_readTie_23 : decode prog_14_method_42_code 23 = .ok (.isub, 1) := by decide +kernel
theorem ad_Md_readTie_24 : decode prog_14_method_42_code 24 = .ok (.istore_n 2, 1) := by decide +kernel
theorem ad_Md_readTie_25 : decode prog_14_method_42_code 25 = .ok (.iload_n 2, 1) := by decide +kernel
theorem ad_Md_readTie_26 : decode prog_14_method_42_code 26 = .ok (.ifCond .ge 9, 3) := by decide +kernel
theorem ad_Md_readTie_29 : decode prog_14_method_42_code 29 = .ok (.aload_n 0, 1) := by decide +kernel
theorem ad_Md_readTie_30 : decode prog_14_method_42_code 30 = .ok (.iconst 3, 1) := by decide +kernel
theorem ad_Md_readTie_31 : decode prog_14_method_42_code 31 = .ok (.invokevirtual 171, 3) := by decide +kernel
theorem ad_Md_readTie_34 : decode prog_14_method_42_code 34 = .ok (.ireturn, 1) := by decide +kernel
theorem ad_Md_readTie_35 : decode prog_14_method_42_code 35 = .ok (.aload_n 0, 1) := by decide +kernel
theorem ad_Md_readTie_36 : decode prog_14_method_42_code 36 = .ok (.invokevirtual 181, 3) := by decide +kernel
theorem ad_Md_readTie_39 : decode prog_14_method_42_code 39 = .ok (.aload_n 0, 1) := by decide +kernel
theorem ad_Md_readTie_40 : decode prog_14_method_42_code 40 = .ok (.invokevirtual 204, 3) := by decide +kernel
theorem ad_Md_readTie_43 : decode prog_14_method_42_code 43 = .ok (.ifCond .ne 9, 3) := by decide +kernel
theorem ad_Md_readTie_46 : decode prog_14_method_42_code 46 = .ok (.aload_n 0, 1) := by decide +kernel
theorem ad_Md_readTie_47 : decode prog_14_method_42_code 47 = .ok (.iconst 1, 1) := by decide +kernel
theorem ad_Md_readTie_48 : decode prog_14_method_42_code 48 = .ok (.invokevirtual 171, 3) := by decide +kernel
theorem ad_Md_readTie_51 : decode prog_14_method_42_code 51 = .ok (.ireturn, 1) := by decide +kernel
theorem ad_Md_readTie_52 : decode prog_14_method_42_code 52 = .ok (.aload_n 0, 1) := by decide +kernel
theorem ad_Md_readTie_53 : decode prog_14_method_42_code 53 = .ok (.invokevirtual 208, 3) := by decide +kernel
theorem ad_Md_readTie_56 : decode prog_14_method_42_code 56 = .ok (.bipush 6, 2) := by decide +kernel
theorem ad_Md_readTie_58 : decode prog_14_method_42_code 58 = .ok (.isub, 1) := by decide +kernel
theorem ad_Md_readTie_59 : decode prog_14_method_42_code 59 = .ok (.istore_n 3, 1) := by decide +kernel
theorem ad_Md_readTie_60 : decode prog_14_method_42_code 60 = .ok (.iload_n 3, 1) := by decide +kernel
theorem ad_Md_readTie_61 : decode prog_14_method_42_code 61 = .ok (.ifCond .lt 24, 3) := by decide +kernel
theorem ad_Md_readTie_64 : decode prog_14_method_42_code 64 = .ok (.iload_n 3, 1) := by decide +kernel
theorem ad_Md_readTie_65 : decode prog_14_method_42_code 65 = .ok (.iload_n 2, 1) := by decide +kernel
theorem ad_Md_readTie_66 : decode prog_14_method_42_code 66 = .ok (.if_icmp .eq 19, 3) := by decide +kernel
theorem ad_Md_readTie_69 : decode prog_14_method_42_code 69 = .ok (.aload_n 0, 1) := by decide +kernel
theorem ad_Md_readTie_70 : decode prog_14_method_42_code 70 = .ok (.getfield 16, 3) := by decide +kernel
theorem ad_Md_readTie_73 : decode prog_14_method_42_code 73 = .ok (.iload_n 1, 1) := by decide +kernel
theorem ad_Md_readTie_74 : decode prog_14_method_42_code 74 = .ok (.bipush 8, 2) := by decide +kernel
theorem ad_Md_readTie_76 : decode prog_14_method_42_code 76 = .ok (.iload_n 2, 1) := by decide +kernel
theorem ad_Md_readTie_77 : decode prog_14_method_42_code 77 = .ok (.imul, 1) := by decide +kernel
theorem ad_Md_readTie_78 : decode prog_14_method_42_code 78 = .ok (.iadd, 1) := by decide +kernel
theorem ad_Md_readTie_79 : decode prog_14_method_42_code 79 = .ok (.iload_n 3, 1) := by decide +kernel
theorem ad_Md_readTie_80 : decode prog_14_method_42_code 80 = .ok (.iadd, 1) := by decide +kernel
theorem ad_Md_readTie_81 : decode prog_14_method_42_code 81 = .ok (.iaload, 1) := by decide +kernel
theorem ad_Md_readTie_82 : decode prog_14_method_42_code 82 = .ok (.ifCond .le 9, 3) := by decide +kernel
theorem ad_Md_readTie_85 : decode prog_14_method_42_code 85 = .ok (.aload_n 0, 1) := by decide +kernel
theorem ad_Md_readTie_86 : decode prog_14_method_42_code 86 = .ok (.iconst 3, 1) := by decide +kernel
theorem ad_Md_readTie_87 : decode prog_14_method_42_code 87 = .ok (.invokevirtual 171, 3) := by decide +kernel
theorem ad_Md_readTie_90 : decode prog_14_method_42_code 90 = .ok (.ireturn, 1) := by decide +kernel
theorem ad_Md_readTie_91 : decode prog_14_method_42_code 91 = .ok (.aload_n 0, 1) := by decide +kernel
theorem ad_Md_readTie_92 : decode prog_14_method_42_code 92 = .ok (.invokevirtual 181, 3) := by decide +kernel
theorem ad_Md_readTie_95 : decode prog_14_method_42_code 95 = .ok (.aload_n 0, 1) := by decide +kernel
theorem ad_Md_readTie_96 : decode prog_14_method_42_code 96 = .ok (.iconst 1, 1) := by decide +kernel
theorem ad_Md_readTie_97 : decode prog_14_method_42_code 97 = .ok (.bipush 10, 2) := by decide +kernel
theorem ad_Md_readTie_99 : decode prog_14_method_42_code 99 = .ok (.invokevirtual 214, 3) := by decide +kernel
theorem ad_Md_readTie_102 : decode prog_14_method_42_code 102 = .ok (.ifCond .ne 5, 3) := by decide +kernel
theorem ad_Md_readTie_105 : decode prog_14_method_42_code 105 = .ok (.iconst 0, 1) := by decide +kernel
theorem ad_Md_readTie_106 : decode prog_14_method_42_code 106 = .ok (.ireturn, 1) := by decide +kernel
theorem ad_Md_readTie_107 : decode prog_14_method_42_code 107 = .ok (.aload_n 0, 1) := by decide +kernel
theorem ad_Md_readTie_108 : decode prog_14_method_42_code 108 = .ok (.getfield 16, 3) := by decide +kernel
theorem ad_Md_readTie_111 : decode prog_14_method_42_code 111 = .ok (.iload_n 1, 1) := by decide +kernel
theorem ad_Md_readTie_112 : decode prog_14_method_42_code 112 = .ok (.bipush 8, 2) := by decide +kernel
theorem ad_Md_readTie_114 : decode prog_14_method_42_code 114 = .ok (.iload_n 2, 1) := by decide +kernel
theorem ad_Md_readTie_115 : decode prog_14_method_42_code 115 = .ok (.imul, 1) := by decide +kernel
theorem ad_Md_readTie_116 : decode prog_14_method_42_code 116 = .ok (.iadd, 1) := by decide +kernel
theorem ad_Md_readTie_117 : decode prog_14_method_42_code 117 = .ok (.iload_n 3, 1) := by decide +kernel
theorem ad_Md_readTie_118 : decode prog_14_method_42_code 118 = .ok (.iadd, 1) := by decide +kernel
theorem ad_Md_readTie_119 : decode prog_14_method_42_code 119 = .ok (.aload_n 0, 1) := by decide +kernel
theorem ad_Md_readTie_120 : decode prog_14_method_42_code 120 = .ok (.getfield 178, 3) := by decide +kernel
theorem ad_Md_readTie_123 : decode prog_14_method_42_code 123 = .ok (.iastore, 1) := by decide +kernel
theorem ad_Md_readTie_124 : decode prog_14_method_42_code 124 = .ok (.iconst 1, 1) := by decide +kernel
theorem ad_Md_readTie_125 : decode prog_14_method_42_code 125 = .ok (.ireturn, 1) := by decide +kernel
theorem ad_Md_readOnce_0 : decode prog_14_method_43_code 0 = .ok (.aload_n 0, 1) := by decide +kernel
theorem ad_Md_readOnce_1 : decode prog_14_method_43_code 1 = .ok (.getfield 227, 3) := by decide +kernel
theorem ad_Md_readOnce_4 : decode prog_14_method_43_code 4 = .ok (.iload_n 1, 1) := by decide +kernel
theorem ad_Md_readOnce_5 : decode prog_14_method_43_code 5 = .ok (.invokestatic 224, 3) := by decide +kernel
theorem ad_Md_readOnce_8 : decode prog_14_method_43_code 8 = .ok (.ifCond .eq 9, 3) := by decide +kernel
theorem ad_Md_readOnce_11 : decode prog_14_method_43_code 11 = .ok (.aload_n 0, 1) := by decide +kernel
theorem ad_Md_readOnce_12 : decode prog_14_method_43_code 12 = .ok (.iconst 3, 1) := by decide +kernel
theorem ad_Md_readOnce_13 : decode prog_14_method_43_code 13 = .ok (.invokevirtual 171, 3) := by decide +kernel
theorem ad_Md_readOnce_16 : decode prog_14_method_43_code 16 = .ok (.ireturn, 1) := by decide +kernel
theorem ad_Md_readOnce_17 : decode prog_14_method_43_code 17 = .ok (.aload_n 0, 1) := by decide +kernel
theorem ad_Md_readOnce_18 : decode prog_14_method_43_code 18 = .ok (.dup, 1) := by decide +kernel
theorem ad_Md_readOnce_19 : decode prog_14_method_43_code 19 = .ok (.getfield 227, 3) := by decide +kernel
theorem ad_Md_readOnce_22 : decode prog_14_method_43_code 22 = .ok (.iconst 1, 1) := by decide +kernel
theorem ad_Md_readOnce_23 : decode prog_14_method_43_code 23 = .ok (.iload_n 1, 1) := by decide +kernel
theorem ad_Md_readOnce_24 : decode prog_14_method_43_code 24 = .ok (.ishl, 1) := by decide +kernel
theorem ad_Md_readOnce_25 : decode prog_14_method_43_code 25 = .ok (.ior, 1) := by decide +kernel
theorem ad_Md_readOnce_26 : decode prog_14_method_43_code 26 = .ok (.putfield 227, 3) := by decide +kernel
theorem ad_Md_readOnce_29 : decode prog_14_method_43_code 29 = .ok (.aload_n 0, 1) := by decide +kernel
theorem ad_Md_readOnce_30 : decode prog_14_method_43_code 30 = .ok (.invokevirtual 181, 3) := by decide +kernel
theorem ad_Md_readOnce_33 : decode prog_14_method_43_code 33 = .ok (.aload_n 0, 1) := by decide +kernel
theorem ad_Md_readOnce_34 : decode prog_14_method_43_code 34 = .ok (.iload_n 1, 1) := by decide +kernel
theorem ad_Md_readOnce_35 : decode prog_14_method_43_code 35 = .ok (.iconst 4, 1) := by decide +kernel
theorem ad_Md_readOnce_36 : decode prog_14_method_43_code 36 = .ok (.if_icmp .ne 7, 3) := by decide +kernel
theorem ad_Md_readOnce_39 : decode prog_14_method_43_code 39 = .ok (.iconst 1, 1) := by decide +kernel
theorem ad_Md_readOnce_40 : decode prog_14_method_43_code 40 = .ok (.goto 4, 3) := by decide +kernel
theorem ad_Md_readOnce_43 : decode prog_14_method_43_code 43 = .ok (.iconst 0, 1) := by decide +kernel
theorem ad_Md_readOnce_44 : decode prog_14_method_43_code 44 = .ok (.iload_n 1, 1) := by decide +kernel
theorem ad_Md_readOnce_45 : decode prog_14_method_43_code 45 = .ok (.iconst 4, 1) := by decide +kernel
theorem ad_Md_readOnce_46 : decode prog_14_method_43_code 46 = .ok (.if_icmp .ne 8, 3) := by decide +kernel
theorem ad_Md_readOnce_49 : decode prog_14_method_43_code 49 = .ok (.bipush 9, 2) := by decide +kernel
theorem ad_Md_readOnce_51 : decode prog_14_method_43_code 51 = .ok (.goto 16, 3) := by decide +kernel
theorem ad_Md_readOnce_54 : decode prog_14_method_43_code 54 = .ok (.iload_n 1, 1) := by decide +kernel
theorem ad_Md_readOnce_55 : decode prog_14_method_43_code 55 = .ok (.iconst 5, 1) := by decide +kernel
theorem ad_Md_readOnce_56 : decode prog_14_method_43_code 56 = .ok (.if_icmp .ne 9, 3) := by decide +kernel
theorem ad_Md_readOnce_59 : decode prog_14_method_43_code 59 = .ok (.sipush 999, 3) := by decide +kernel
theorem ad_Md_readOnce_62 : decode prog_14_method_43_code 62 = .ok (.goto 5, 3) := by decide +kernel
theorem ad_Md_readOnce_65 : decode prog_14_method_43_code 65 = .ok (.bipush 99, 2) := by decide +kernel
theorem ad_Md_readOnce_67 : decode prog_14_method_43_code 67 = .ok (.invokevirtual 214, 3) := by decide +kernel
theorem ad_Md_readOnce_70 : decode prog_14_method_43_code 70 = .ok (.ifCond .ne 5, 3) := by decide +kernel
theorem ad_Md_readOnce_73 : decode prog_14_method_43_code 73 = .ok (.iconst 0, 1) := by decide +kernel
theorem ad_Md_readOnce_74 : decode prog_14_method_43_code 74 = .ok (.ireturn, 1) := by decide +kernel
theorem ad_Md_readOnce_75 : decode prog_14_method_43_code 75 = .ok (.aload_n 0, 1) := by decide +kernel
theorem ad_Md_readOnce_76 : decode prog_14_method_43_code 76 = .ok (.getfield 16, 3) := by decide +kernel
theorem ad_Md_readOnce_79 : decode prog_14_method_43_code 79 = .ok (.iload_n 1, 1) := by decide +kernel
theorem ad_Md_readOnce_80 : decode prog_14_method_43_code 80 = .ok (.iconst 4, 1) := by decide +kernel
theorem ad_Md_readOnce_81 : decode prog_14_method_43_code 81 = .ok (.if_icmp .ne 7, 3) := by decide +kernel
theorem ad_Md_readOnce_84 : decode prog_14_method_43_code 84 = .ok (.iconst 3, 1) := by decide +kernel
theorem ad_Md_readOnce_85 : decode prog_14_method_43_code 85 = .ok (.goto 13, 3) := by decide +kernel
theorem ad_Md_readOnce_88 : decode prog_14_method_43_code 88 = .ok (.iload_n 1, 1) := by decide +kernel
theorem ad_Md_readOnce_89 : decode prog_14_method_43_code 89 = .ok (.iconst 5, 1) := by decide +kernel
theorem ad_Md_readOnce_90 : decode prog_14_method_43_code 90 = .ok (.if_icmp .ne 7, 3) := by decide +kernel
theorem ad_Md_readOnce_93 : decode prog_14_method_43_code 93 = .ok (.iconst 4, 1) := by decide +kernel
theorem ad_Md_readOnce_94 : decode prog_14_method_43_code 94 = .ok (.goto 4, 3) := by decide +kernel
theorem ad_Md_readOnce_97 : decode prog_14_method_43_code 97 = .ok (.iconst 5, 1) := by decide +kernel
theorem ad_Md_readOnce_98 : decode prog_14_method_43_code 98 = .ok (.aload_n 0, 1) := by decide +kernel
theorem ad_Md_readOnce_99 : decode prog_14_method_43_code 99 = .ok (.getfield 178, 3) := by decide +kernel
theorem ad_Md_readOnce_102 : decode prog_14_method_43_code 102 = .ok (.iastore, 1) := by decide +kernel
theorem ad_Md_readOnce_103 : decode prog_14_method_43_code 103 = .ok (.iconst 1, 1) := by decide +kernel
theorem ad_Md_readOnce_104 : decode prog_14_method_43_code 104 = .ok (.ireturn, 1) := by decide +kernel
theorem ad_Md_readLine_0 : decode prog_14_method_44_code 0 = .ok (.iconst 0, 1) := by decide +kernel
theorem ad_Md_readLine_1 : decode prog_14_method_44_code 1 = .ok (.istore_n 1, 1) := by decide +kernel
theorem ad_Md_readLine_2 : decode prog_14_method_44_code 2 = .ok (.iload_n 1, 1) := by decide +kernel
theorem ad_Md_readLine_3 : decode prog_14_method_44_code 3 = .ok (.bipush 6, 2) := by decide +kernel
theorem ad_Md_readLine_5 : decode prog_14_method_44_code 5 = .ok (.if_icmp .gt 17, 3) := by decide +kernel
theorem ad_Md_readLine_8 : decode prog_14_method_44_code 8 = .ok (.aload_n 0, 1) := by decide +kernel
theorem ad_Md_readLine_9 : decode prog_14_method_44_code 9 = .ok (.iload_n 1, 1) := by decide +kernel
theorem ad_Md_readLine_10 : decode prog_14_method_44_code 10 = .ok (.invokevirtual 218, 3) := by decide +kernel
theorem ad_Md_readLine_13 : decode prog_14_method_44_code 13 = .ok (.ifCond .ne 9, 3) := by decide +kernel
theorem ad_Md_readLine_16 : decode prog_14_method_44_code 16 = .ok (.iinc 1 1, 3) := by decide +kernel
theorem ad_Md_readLine_19 : decode prog_14_method_44_code 19 = .ok (.goto (-17), 3) := by decide +kernel
theorem ad_Md_readLine_22 : decode prog_14_method_44_code 22 = .ok (.iload_n 1, 1) := by decide +kernel
theorem ad_Md_readLine_23 : decode prog_14_method_44_code 23 = .ok (.bipush 6, 2) := by decide +kernel
theorem ad_Md_readLine_25 : decode prog_14_method_44_code 25 = .ok (.if_icmp .le 9, 3) := by decide +kernel
theorem ad_Md_readLine_28 : decode prog_14_method_44_code 28 = .ok (.aload_n 0, 1) := by decide +kernel
theorem ad_Md_readLine_29 : decode prog_14_method_44_code 29 = .ok (.iconst 1, 1) := by decide +kernel
theorem ad_Md_readLine_30 : decode prog_14_method_44_code 30 = .ok (.invokevirtual 171, 3) := by decide +kernel
theorem ad_Md_readLine_33 : decode prog_14_method_44_code 33 = .ok (.ireturn, 1) := by decide +kernel
theorem ad_Md_readLine_34 : decode prog_14_method_44_code 34 = .ok (.iload_n 1, 1) := by decide +kernel
theorem ad_Md_readLine_35 : decode prog_14_method_44_code 35 = .ok (.ifCond .ne 10, 3) := by decide +kernel
theorem ad_Md_readLine_38 : decode prog_14_method_44_code 38 = .ok (.aload_n 0, 1) := by decide +kernel
theorem ad_Md_readLine_39 : decode prog_14_method_44_code 39 = .ok (.invokevirtual 230, 3) := by decide +kernel
theorem ad_Md_readLine_42 : decode prog_14_method_44_code 42 = .ok (.goto 49, 3) := by decide +kernel
theorem ad_Md_readLine_45 : decode prog_14_method_44_code 45 = .ok (.iload_n 1, 1) := by decide +kernel
theorem ad_Md_readLine_46 : decode prog_14_method_44_code 46 = .ok (.iconst 1, 1) := by decide +kernel
theorem ad_Md_readLine_47 : decode prog_14_method_44_code 47 = .ok (.if_icmp .ne 10, 3) := by decide +kernel
theorem ad_Md_readLine_50 : decode prog_14_method_44_code 50 = .ok (.aload_n 0, 1) := by decide +kernel
theorem ad_Md_readLine_51 : decode prog_14_method_44_code 51 = .ok (.invokevirtual 233, 3) := by decide +kernel
theorem ad_Md_readLine_54 : decode prog_14_method_44_code 54 = .ok (.goto 37, 3) := by decide +kernel
theorem ad_Md_readLine_57 : decode prog_14_method_44_code 57 = .ok (.iload_n 1, 1) := by decide +kernel
theorem ad_Md_readLine_58 : decode prog_14_method_44_code 58 = .ok (.iconst 2, 1) := by decide +kernel
theorem ad_Md_readLine_59 : decode prog_14_method_44_code 59 = .ok (.if_icmp .ne 12, 3) := by decide +kernel
theorem ad_Md_readLine_62 : decode prog_14_method_44_code 62 = .ok (.aload_n 0, 1) := by decide +kernel
theorem ad_Md_readLine_63 : decode prog_14_method_44_code 63 = .ok (.bipush 95, 2) := by decide +kernel
theorem ad_Md_readLine_65 : decode prog_14_method_44_code 65 = .ok (.invokevirtual 236, 3) := by decide +kernel
theorem ad_Md_readLine_68 : decode prog_14_method_44_code 68 = .ok (.goto 23, 3) := by decide +kernel
theorem ad_Md_readLine_71 : decode prog_14_method_44_code 71 = .ok (.iload_n 1, 1) := by decide +kernel
theorem ad_Md_readLine_72 : decode prog_14_method_44_code 72 = .ok (.iconst 3, 1) := by decide +kernel
theorem ad_Md_readLine_73 : decode prog_14_method_44_code 73 = .ok (.if_icmp .ne 13, 3) := by decide +kernel
theorem ad_Md_readLine_76 : decode prog_14_method_44_code 76 = .ok (.aload_n 0, 1) := by decide +kernel
theorem ad_Md_readLine_77 : decode prog_14_method_44_code 77 = .ok (.sipush 160, 3) := by decide +kernel
theorem ad_Md_readLine_80 : decode prog_14_method_44_code 80 = .ok (.invokevirtual 236, 3) := by decide +kernel
theorem ad_Md_readLine_83 : decode prog_14_method_44_code 83 = .ok (.goto 8, 3) := by decide +kernel
theorem ad_Md_readLine_86 : decode prog_14_method_44_code 86 = .ok (.aload_n 0, 1) := by decide +kernel
theorem ad_Md_readLine_87 : decode prog_14_method_44_code 87 = .ok (.iload_n 1, 1) := by decide +kernel
theorem ad_Md_readLine_88 : decode prog_14_method_44_code 88 = .ok (.invokevirtual 239, 3) := by decide +kernel
theorem ad_Md_readLine_91 : decode prog_14_method_44_code 91 = .ok (.istore_n 2, 1) := by decide +kernel
theorem ad_Md_readLine_92 : decode prog_14_method_44_code 92 = .ok (.iload_n 2, 1) := by decide +kernel
theorem ad_Md_readLine_93 : decode prog_14_method_44_code 93 = .ok (.ifCond .eq 14, 3) := by decide +kernel
theorem ad_Md_readLine_96 : decode prog_14_method_44_code 96 = .ok (.aload_n 0, 1) := by decide +kernel
theorem ad_Md_readLine_97 : decode prog_14_method_44_code 97 = .ok (.invokevirtual 242, 3) := by decide +kernel
theorem ad_Md_readLine_100 : decode prog_14_method_44_code 100 = .ok (.ifCond .eq 7, 3) := by decide +kernel
theorem ad_Md_readLine_103 : decode prog_14_method_44_code 103 = .ok (.iconst 1, 1) := by decide +kernel
theorem ad_Md_readLine_104 : decode prog_14_method_44_code 104 = .ok (.goto 4, 3) := by decide +kernel
theorem ad_Md_readLine_107 : decode prog_14_method_44_code 107 = .ok (.iconst 0, 1) := by decide +kernel
theorem ad_Md_readLine_108 : decode prog_14_method_44_code 108 = .ok (.ireturn, 1) := by decide +kernel
theorem ad_Md_village_0 : decode prog_14_method_45_code 0 = .ok (.aload_n 0, 1) := by decide +kernel
theorem ad_Md_village_1 : decode prog_14_method_45_code 1 = .ok (.sipush 900, 3) := by decide +kernel
theorem ad_Md_village_4 : decode prog_14_method_45_code 4 = .ok (.invokevirtual 245, 3) := by decide +kernel
theorem ad_Md_village_7 : decode prog_14_method_45_code 7 = .ok (.iconst 0, 1) := by decide +kernel
theorem ad_Md_village_8 : decode prog_14_method_45_code 8 = .ok (.istore_n 1, 1) := by decide +kernel
theorem ad_Md_village_9 : decode prog_14_method_45_code 9 = .ok (.iload_n 1, 1) := by decide +kernel
theorem ad_Md_village_10 : decode prog_14_method_45_code 10 = .ok (.sipush 325, 3) := by decide +kernel
theorem ad_Md_village_13 : decode prog_14_method_45_code 13 = .ok (.if_icmp .ge 16, 3) := by decide +kernel
theorem ad_Md_village_16 : decode prog_14_method_45_code 16 = .ok (.aload_n 0, 1) := by decide +kernel
theorem ad_Md_village_17 : decode prog_14_method_45_code 17 = .ok (.getfield 16, 3) := by decide +kernel
theorem ad_Md_village_20 : decode prog_14_method_45_code 20 = .ok (.iload_n 1, 1) := by decide +kernel
theorem ad_Md_village_21 : decode prog_14_method_45_code 21 = .ok (.iconst 0, 1) := by decide +kernel
theorem ad_Md_village_22 : decode prog_14_method_45_code 22 = .ok (.iastore, 1) := by decide +kernel
theorem ad_Md_village_23 : decode prog_14_method_45_code 23 = .ok (.iinc 1 1, 3) := by decide +kernel
theorem ad_Md_village_26 : decode prog_14_method_45_code 26 = .ok (.goto (-17), 3) := by decide +kernel
theorem ad_Md_village_29 : decode prog_14_method_45_code 29 = .ok (.aload_n 0, 1) := by decide +kernel
theorem ad_Md_village_30 : decode prog_14_method_45_code 30 = .ok (.getfield 16, 3) := by decide +kernel
theorem ad_Md_village_33 : decode prog_14_method_45_code 33 = .ok (.iconst 3, 1) := by decide +kernel
theorem ad_Md_village_34 : decode prog_14_method_45_code 34 = .ok (.iconst 3, 1) := by decide +kernel
theorem ad_Md_village_35 : decode prog_14_method_45_code 35 = .ok (.iastore, 1) := by decide +kernel
theorem ad_Md_village_36 : decode prog_14_method_45_code 36 = .ok (.aload_n 0, 1) := by decide +kernel
theorem ad_Md_village_37 : decode prog_14_method_45_code 37 = .ok (.getfield 16, 3) := by decide +kernel
theorem ad_Md_village_40 : decode prog_14_method_45_code 40 = .ok (.iconst 4, 1) := by decide +kernel
theorem ad_Md_village_41 : decode prog_14_method_45_code 41 = .ok (.bipush 50, 2) := by decide +kernel
theorem ad_Md_village_43 : decode prog_14_method_45_code 43 = .ok (.iastore, 1) := by decide +kernel
theorem ad_Md_village_44 : decode prog_14_method_45_code 44 = .ok (.aload_n 0, 1) := by decide +kernel
theorem ad_Md_village_45 : decode prog_14_method_45_code 45 = .ok (.getfield 16, 3) := by decide +kernel
theorem ad_Md_village_48 : decode prog_14_method_45_code 48 = .ok (.iconst 5, 1) := by decide +kernel
theorem ad_Md_village_49 : decode prog_14_method_45_code 49 = .ok (.bipush 10, 2) := by decide +kernel
theorem ad_Md_village_51 : decode prog_14_method_45_code 51 = .ok (.iastore, 1) := by decide +kernel
theorem ad_Md_village_52 : decode prog_14_method_45_code 52 = .ok (.aload_n 0, 1) := by decide +kernel
theorem ad_Md_village_53 : decode prog_14_method_45_code 53 = .ok (.iconst 0, 1) := by decide +kernel
theorem ad_Md_village_54 : decode prog_14_method_45_code 54 = .ok (.putfield 227, 3) := by decide +kernel
theorem ad_Md_village_57 : decode prog_14_method_45_code 57 = .ok (.iconst 0, 1) := by decide +kernel
theorem ad_Md_village_58 : decode prog_14_method_45_code 58 = .ok (.istore_n 1, 1) := by decide +kernel
theorem ad_Md_village_59 : decode prog_14_method_45_code 59 = .ok (.aload_n 0, 1) := by decide +kernel
theorem ad_Md_village_60 : decode prog_14_method_45_code 60 = .ok (.getfield 125, 3) := by decide +kernel
theorem ad_Md_village_63 : decode prog_14_method_45_code 63 = .ok (.ifCond .eq 23, 3) := by decide +kernel
theorem ad_Md_village_66 : decode prog_14_method_45_code 66 = .ok (.aload_n 0, 1) := by decide +kernel
theorem ad_Md_village_67 : decode prog_14_method_45_code 67 = .ok (.invokevirtual 248, 3) := by decide +kernel
theorem ad_Md_village_70 : decode prog_14_method_45_code 70 = .ok (.ifCond .ne 10, 3) := by decide +kernel
theorem ad_Md_village_73 : decode prog_14_method_45_code 73 = .ok (.iconst (-1), 1) := by decide +kernel
theorem ad_Md_village_74 : decode prog_14_method_45_code 74 = .ok (.aload_n 0, 1) := by decide +kernel
theorem ad_Md_village_75 : decode prog_14_method_45_code 75 = .ok (.getfield 168, 3) := by decide +kernel
theorem ad_Md_village_78 : decode prog_14_method_45_code 78 = .ok (.isub, 1) := by decide +kernel
theorem ad_Md_village_79 : decode prog_14_method_45_code 79 = .ok (.ireturn, 1) := by decide +kernel
theorem ad_Md_village_80 : decode prog_14_method_45_code 80 = .ok (.iinc 1 1, 3) := by decide +kernel
theorem ad_Md_village_83 : decode prog_14_method_45_code 83 = .ok (.goto (-24), 3) := by decide +kernel
theorem ad_Md_village_86 : decode prog_14_method_45_code 86 = .ok (.iconst 0, 1) := by decide +kernel
theorem ad_Md_village_87 : decode prog_14_method_45_code 87 = .ok (.istore_n 2, 1) := by decide +kernel
theorem ad_Md_village_88 : decode prog_14_method_45_code 88 = .ok (.iload_n 2, 1) := by decide +kernel
theorem ad_Md_village_89 : decode prog_14_method_45_code 89 = .ok (.sipush 325, 3) := by decide +kernel
theorem ad_Md_village_92 : decode prog_14_method_45_code 92 = .ok (.if_icmp .ge 21, 3) := by decide +kernel
theorem ad_Md_village_95 : decode prog_14_method_45_code 95 = .ok (.aload_n 0, 1) := by decide +kernel
theorem ad_Md_village_96 : decode prog_14_method_45_code 96 = .ok (.getfield 13, 3) := by decide +kernel
theorem ad_Md_village_99 : decode prog_14_method_45_code 99 = .ok (.iload_n 2, 1) := by decide +kernel
theorem ad_Md_village_100 : decode prog_14_method_45_code 100 = .ok (.aload_n 0, 1) := by decide +kernel
theorem ad_Md_village_101 : decode prog_14_method_45_code 101 = .ok (.getfield 16, 3) := by decide +kernel
theorem ad_Md_village_104 : decode prog_14_method_45_code 104 = .ok (.iload_n 2, 1) := by decide +kernel
theorem ad_Md_village_105 : decode prog_14_method_45_code 105 = .ok (.iaload, 1) := by decide +kernel
theorem ad_Md_village_106 : decode prog_14_method_45_code 106 = .ok (.iastore, 1) := by decide +kernel
theorem ad_Md_village_107 : decode prog_14_method_45_code 107 = .ok (.iinc 2 1, 3) := by decide +kernel
theorem ad_Md_village_110 : decode prog_14_method_45_code 110 = .ok (.goto (-22), 3) := by decide +kernel
theorem ad_Md_village_113 : decode prog_14_method_45_code 113 = .ok (.iconst 0, 1) := by decide +kernel
theorem ad_Md_village_114 : decode prog_14_method_45_code 114 = .ok (.istore_n 2, 1) := by decide +kernel
theorem ad_Md_village_115 : decode prog_14_method_45_code 115 = .ok (.iload_n 2, 1) := by decide +kernel
theorem ad_Md_village_116 : decode prog_14_method_45_code 116 = .ok (.bipush 14, 2) := by decide +kernel
theorem ad_Md_village_118 : decode prog_14_method_45_code 118 = .ok (.if_icmp .ge 21, 3) := by decide +kernel
theorem ad_Md_village_121 : decode prog_14_method_45_code 121 = .ok (.aload_n 0, 1) := by decide +kernel
theorem ad_Md_village_122 : decode prog_14_method_45_code 122 = .ok (.getfield 25, 3) := by decide +kernel
theorem ad_Md_village_125 : decode prog_14_method_45_code 125 = .ok (.iload_n 2, 1) := by decide +kernel
theorem ad_Md_village_126 : decode prog_14_method_45_code 126 = .ok (.aload_n 0, 1) := by decide +kernel
theorem ad_Md_village_127 : decode prog_14_method_45_code 127 = .ok (.getfield 29, 3) := by decide +kernel
theorem ad_Md_village_130 : decode prog_14_method_45_code 130 = .ok (.iload_n 2, 1) := by decide +kernel
theorem ad_Md_village_131 : decode prog_14_method_45_code 131 = .ok (.laload, 1) := by decide +kernel
theorem ad_Md_village_132 : decode prog_14_method_45_code 132 = .ok (.lastore, 1) := by decide +kernel
theorem ad_Md_village_133 : decode prog_14_method_45_code 133 = .ok (.iinc 2 1, 3) := by decide +kernel
theorem ad_Md_village_136 : decode prog_14_method_45_code 136 = .ok (.goto (-21), 3) := by decide +kernel
theorem ad_Md_village_139 : decode prog_14_method_45_code 139 = .ok (.iconst 0, 1) := by decide +kernel
theorem ad_Md_village_140 : decode prog_14_method_45_code 140 = .ok (.istore_n 2, 1) := by decide +kernel
theorem ad_Md_village_141 : decode prog_14_method_45_code 141 = .ok (.iload_n 2, 1) := by decide +kernel
theorem ad_Md_village_142 : decode prog_14_method_45_code 142 = .ok (.bipush 16, 2) := by decide +kernel
theorem ad_Md_village_144 : decode prog_14_method_45_code 144 = .ok (.if_icmp .ge 20, 3) := by decide +kernel
theorem ad_Md_village_147 : decode prog_14_method_45_code 147 = .ok (.aload_n 0, 1) := by decide +kernel
theorem ad_Md_village_148 : decode prog_14_method_45_code 148 = .ok (.getfield 13, 3) := by decide +kernel
theorem ad_Md_village_151 : decode prog_14_method_45_code 151 = .ok (.sipush 325, 3) := by decide +kernel
theorem ad_Md_village_154 : decode prog_14_method_45_code 154 = .ok (.iload_n 2, 1) := by decide +kernel
theorem ad_Md_village_155 : decode prog_14_method_45_code 155 = .ok (.iadd, 1) := by decide +kernel
theorem ad_Md_village_156 : decode prog_14_method_45_code 156 = .ok (.iconst 0, 1) := by decide +kernel
theorem ad_Md_village_157 : decode prog_14_method_45_code 157 = .ok (.iastore, 1) := by decide +kernel
theorem ad_Md_village_158 : decode prog_14_method_45_code 158 = .ok (.iinc 2 1, 3) := by decide +kernel
theorem ad_Md_village_161 : decode prog_14_method_45_code 161 = .ok (.goto (-20), 3) := by decide +kernel
theorem ad_Md_village_164 : decode prog_14_method_45_code 164 = .ok (.aload_n 0, 1) := by decide +kernel
theorem ad_Md_village_165 : decode prog_14_method_45_code 165 = .ok (.getfield 13, 3) := by decide +kernel
theorem ad_Md_village_168 : decode prog_14_method_45_code 168 = .ok (.sipush 341, 3) := by decide +kernel
theorem ad_Md_village_171 : decode prog_14_method_45_code 171 = .ok (.iconst 0, 1) := by decide +kernel
theorem ad_Md_village_172 : decode prog_14_method_45_code 172 = .ok (.iastore, 1) := by decide +kernel
theorem ad_Md_village_173 : decode prog_14_method_45_code 173 = .ok (.aload_n 0, 1) := by decide +kernel
theorem ad_Md_village_174 : decode prog_14_method_45_code 174 = .ok (.getfield 13, 3) := by decide +kernel
theorem ad_Md_village_177 : decode prog_14_method_45_code 177 = .ok (.sipush 590, 3) := by decide +kernel
theorem ad_Md_village_180 : decode prog_14_method_45_code 180 = .ok (.iconst 0, 1) := by decide +kernel
theorem ad_Md_village_181 : decode prog_14_method_45_code 181 = .ok (.iastore, 1) := by decide +kernel
theorem ad_Md_village_182 : decode prog_14_method_45_code 182 = .ok (.iload_n 1, 1) := by decide +kernel
theorem ad_Md_village_183 : decode prog_14_method_45_code 183 = .ok (.ireturn, 1) := by decide +kernel
theorem ad_Md_fault_0 : decode prog_14_method_46_code 0 = .ok (.aload_n 0, 1) := by decide +kernel
theorem ad_Md_fault_1 : decode prog_14_method_46_code 1 = .ok (.iconst 0, 1) := by decide +kernel
theorem ad_Md_fault_2 : decode prog_14_method_46_code 2 = .ok (.putfield 102, 3) := by decide +kernel
theorem ad_Md_fault_5 : decode prog_14_method_46_code 5 = .ok (.aload_n 0, 1) := by decide +kernel
theorem ad_Md_fault_6 : decode prog_14_method_46_code 6 = .ok (.getfield 165, 3) := by decide +kernel
theorem ad_Md_fault_9 : decode prog_14_method_46_code 9 = .ok (.ireturn, 1) := by decide +kernel
theorem ad_Md_help_0 : decode prog_14_method_47_code 0 = .ok (.aload_n 0, 1) := by decide +kernel
theorem ad_Md_help_1 : decode prog_14_method_47_code 1 = .ok (.invokevirtual 187, 3) := by decide +kernel
theorem ad_Md_help_4 : decode prog_14_method_47_code 4 = .ok (.aload_n 0, 1) := by decide +kernel
theorem ad_Md_help_5 : decode prog_14_method_47_code 5 = .ok (.iload_n 1, 1) := by decide +kernel
theorem ad_Md_help_6 : decode prog_14_method_47_code 6 = .ok (.invokevirtual 251, 3) := by decide +kernel
theorem ad_Md_help_9 : decode prog_14_method_47_code 9 = .ok (.ifCond .eq 12, 3) := by decide +kernel
theorem ad_Md_help_12 : decode prog_14_method_47_code 12 = .ok (.iload_n 2, 1) := by decide +kernel
theorem ad_Md_help_13 : decode prog_14_method_47_code 13 = .ok (.iconst 0, 1) := by decide +kernel
theorem ad_Md_help_14 : decode prog_14_method_47_code 14 = .ok (.iconst 1, 1) := by decide +kernel
theorem ad_Md_help_15 : decode prog_14_method_47_code 15 = .ok (.invokestatic 174, 3) := by decide +kernel
theorem ad_Md_help_18 : decode prog_14_method_47_code 18 = .ok (.ifCond .ne 8, 3) := by decide +kernel
theorem ad_Md_help_21 : decode prog_14_method_47_code 21 = .ok (.aload_n 0, 1) := by decide +kernel
theorem ad_Md_help_22 : decode prog_14_method_47_code 22 = .ok (.invokevirtual 254, 3) := by decide +kernel
theorem ad_Md_help_25 : decode prog_14_method_47_code 25 = .ok (.ireturn, 1) := by decide +kernel
theorem ad_Md_help_26 : decode prog_14_method_47_code 26 = .ok (.aload_n 0, 1) := by decide +kernel
theorem ad_Md_help_27 : decode prog_14_method_47_code 27 = .ok (.iconst 0, 1) := by decide +kernel
theorem ad_Md_help_28 : decode prog_14_method_47_code 28 = .ok (.putfield 102, 3) := by decide +kernel
theorem ad_Md_help_31 : decode prog_14_method_47_code 31 = .ok (.aload_n 0, 1) := by decide +kernel
theorem ad_Md_help_32 : decode prog_14_method_47_code 32 = .ok (.getfield 13, 3) := by decide +kernel
theorem ad_Md_help_35 : decode prog_14_method_47_code 35 = .ok (.bipush 10, 2) := by decide +kernel
theorem ad_Md_help_37 : decode prog_14_method_47_code 37 = .ok (.iconst 2, 1) := by decide +kernel
theorem ad_Md_help_38 : decode prog_14_method_47_code 38 = .ok (.iload_n 1, 1) := by decide +kernel
theorem ad_Md_help_39 : decode prog_14_method_47_code 39 = .ok (.imul, 1) := by decide +kernel
theorem ad_Md_help_40 : decode prog_14_method_47_code 40 = .ok (.iadd, 1) := by decide +kernel
theorem ad_Md_help_41 : decode prog_14_method_47_code 41 = .ok (.iload_n 2, 1) := by decide +kernel
theorem ad_Md_help_42 : decode prog_14_method_47_code 42 = .ok (.iadd, 1) := by decide +kernel
theorem ad_Md_help_43 : decode prog_14_method_47_code 43 = .ok (.iaload, 1) := by decide +kernel
theorem ad_Md_help_44 : decode prog_14_method_47_code 44 = .ok (.ireturn, 1) := by decide +kernel
theorem ad_Md_cans_0 : decode prog_14_method_48_code 0 = .ok (.iconst 0, 1) := by decide +kernel
theorem ad_Md_cans_1 : decode prog_14_method_48_code 1 = .ok (.istore_n 2, 1) := by decide +kernel
theorem ad_Md_cans_2 : decode prog_14_method_48_code 2 = .ok (.iconst 0, 1) := by decide +kernel
theorem ad_Md_cans_3 : decode prog_14_method_48_code 3 = .ok (.istore_n 3, 1) := by decide +kernel
theorem ad_Md_cans_4 : decode prog_14_method_48_code 4 = .ok (.iload_n 3, 1) := by decide +kernel
theorem ad_Md_cans_5 : decode prog_14_method_48_code 5 = .ok (.aload_n 0, 1) := by decide +kernel
theorem ad_Md_cans_6 : decode prog_14_method_48_code 6 = .ok (.invokevirtual 198, 3) := by decide +kernel
theorem ad_Md_cans_9 : decode prog_14_method_48_code 9 = .ok (.if_icmp .ge 24, 3) := by decide +kernel
theorem ad_Md_cans_12 : decode prog_14_method_48_code 12 = .ok (.aload_n 0, 1) := by decide +kernel
theorem ad_Md_cans_13 : decode prog_14_method_48_code 13 = .ok (.iload_n 1, 1) := by decide +kernel
theorem ad_Md_cans_14 : decode prog_14_method_48_code 14 = .ok (.iload_n 3, 1) := by decide +kernel
theorem ad_Md_cans_15 : decode prog_14_method_48_code 15 = .ok (.invokevirtual 257, 3) := by decide +kernel
theorem ad_Md_cans_18 : decode prog_14_method_48_code 18 = .ok (.ifCond .le 9, 3) := by decide +kernel
theorem ad_Md_cans_21 : decode prog_14_method_48_code 21 = .ok (.iload_n 2, 1) := by decide +kernel
theorem ad_Md_cans_22 : decode prog_14_method_48_code 22 = .ok (.iconst 1, 1) := by decide +kernel
theorem ad_Md_cans_23 : decode prog_14_method_48_code 23 = .ok (.iload_n 3, 1) := by decide +kernel
theorem ad_Md_cans_24 : decode prog_14_method_48_code 24 = .ok (.ishl, 1) := by decide +kernel
theorem ad_Md_cans_25 : decode prog_14_method_48_code 25 = .ok (.ior, 1) := by decide +kernel
theorem ad_Md_cans_26 : decode prog_14_method_48_code 26 = .ok (.istore_n 2, 1) := by decide +kernel
theorem ad_Md_cans_27 : decode prog_14_method_48_code 27 = .ok (.iinc 3 1, 3) := by decide +kernel
theorem ad_Md_cans_30 : decode prog_14_method_48_code 30 = .ok (.goto (-26), 3) := by decide +kernel
theorem ad_Md_cans_33 : decode prog_14_method_48_code 33 = .ok (.iload_n 2, 1) := by decide +kernel
theorem ad_Md_cans_34 : decode prog_14_method_48_code 34 = .ok (.ireturn, 1) := by decide +kernel
theorem ad_Md_person_0 : decode prog_14_method_49_code 0 = .ok (.aload_n 0, 1) := by decide +kernel
theorem ad_Md_person_1 : decode prog_14_method_49_code 1 = .ok (.invokevirtual 187, 3) := by decide +kernel
theorem ad_Md_person_4 : decode prog_14_method_49_code 4 = .ok (.aload_n 0, 1) := by decide +kernel
theorem ad_Md_person_5 : decode prog_14_method_49_code 5 = .ok (.iload_n 1, 1) := by decide +kernel
theorem ad_Md_person_6 : decode prog_14_method_49_code 6 = .ok (.invokevirtual 261, 3) := by decide +kernel
theorem ad_Md_person_9 : decode prog_14_method_49_code 9 = .ok (.ifCond .eq 12, 3) := by decide +kernel
theorem ad_Md_person_12 : decode prog_14_method_49_code 12 = .ok (.iload_n 2, 1) := by decide +kernel
theorem ad_Md_person_13 : decode prog_14_method_49_code 13 = .ok (.iconst 0, 1) := by decide +kernel
theorem ad_Md_person_14 : decode prog_14_method_49_code 14 = .ok (.iconst 4, 1) := by decide +kernel
theorem ad_Md_person_15 : decode prog_14_method_49_code 15 = .ok (.invokestatic 174, 3) := by decide +kernel
theorem ad_Md_person_18 : decode prog_14_method_49_code 18 = .ok (.ifCond .ne 8, 3) := by decide +kernel
theorem ad_Md_person_21 : decode prog_14_method_49_code 21 = .ok (.aload_n 0, 1) := by decide +kernel
theorem ad_Md_person_22 : decode prog_14_method_49_code 22 = .ok (.invokevirtual 254, 3) := by decide +kernel
theorem ad_Md_person_25 : decode prog_14_method_49_code 25 = .ok (.ireturn, 1) := by decide +kernel
theorem ad_Md_person_26 : decode prog_14_method_49_code 26 = .ok (.aload_n 0, 1) := by decide +kernel
theorem ad_Md_person_27 : decode prog_14_method_49_code 27 = .ok (.iconst 0, 1) := by decide +kernel
theorem ad_Md_person_28 : decode prog_14_method_49_code 28 = .ok (.putfield 102, 3) := by decide +kernel
theorem ad_Md_person_31 : decode prog_14_method_49_code 31 = .ok (.iload_n 2, 1) := by decide +kernel
theorem ad_Md_person_32 : decode prog_14_method_49_code 32 = .ok (.tableswitch 54 0 2 #[28, 38, 44], 28) := by decide +kernel
theorem ad_Md_person_60 : decode prog_14_method_49_code 60 = .ok (.aload_n 0, 1) := by decide +kernel
theorem ad_Md_person_61 : decode prog_14_method_49_code 61 = .ok (.getfield 13, 3) := by decide +kernel
theorem ad_Md_person_64 : decode prog_14_method_49_code 64 = .ok (.bipush 25, 2) := by decide +kernel
theorem ad_Md_person_66 : decode prog_14_method_49_code 66 = .ok (.iload_n 1, 1) := by decide +kernel
theorem ad_Md_person_67 : decode prog_14_method_49_code 67 = .ok (.iadd, 1) := by decide +kernel
theorem ad_Md_person_68 : decode prog_14_method_49_code 68 = .ok (.iaload, 1) := by decide +kernel
theorem ad_Md_person_69 : decode prog_14_method_49_code 69 = .ok (.ireturn, 1) := by decide +kernel
theorem ad_Md_person_70 : decode prog_14_method_49_code 70 = .ok (.aload_n 0, 1) := by decide +kernel
theorem ad_Md_person_71 : decode prog_14_method_49_code 71 = .ok (.iload_n 1, 1) := by decide +kernel
theorem ad_Md_person_72 : decode prog_14_method_49_code 72 = .ok (.invokevirtual 264, 3) := by decide +kernel
theorem ad_Md_person_75 : decode prog_14_method_49_code 75 = .ok (.ireturn, 1) := by decide +kernel
theorem ad_Md_person_76 : decode prog_14_method_49_code 76 = .ok (.aload_n 0, 1) := by decide +kernel
theorem ad_Md_person_77 : decode prog_14_method_49_code 77 = .ok (.getfield 13, 3) := by decide +kernel
theorem ad_Md_person_80 : decode prog_14_method_49_code 80 = .ok (.bipush 85, 2) := by decide +kernel
theorem ad_Md_person_82 : decode prog_14_method_49_code 82 = .ok (.iload_n 1, 1) := by decide +kernel
theorem ad_Md_person_83 : decode prog_14_method_49_code 83 = .ok (.iadd, 1) := by decide +kernel
theorem ad_Md_person_84 : decode prog_14_method_49_code 84 = .ok (.iaload, 1) := by decide +kernel
theorem ad_Md_person_85 : decode prog_14_method_49_code 85 = .ok (.ireturn, 1) := by decide +kernel
theorem ad_Md_person_86 : decode prog_14_method_49_code 86 = .ok (.aload_n 0, 1) := by decide +kernel
theorem ad_Md_person_87 : decode prog_14_method_49_code 87 = .ok (.getfield 13, 3) := by decide +kernel
theorem ad_Md_person_90 : decode prog_14_method_49_code 90 = .ok (.sipush 325, 3) := by decide +kernel
theorem ad_Md_person_93 : decode prog_14_method_49_code 93 = .ok (.iconst 2, 1) := by decide +kernel
theorem ad_Md_person_94 : decode prog_14_method_49_code 94 = .ok (.iload_n 1, 1) := by decide +kernel
theorem ad_Md_person_95 : decode prog_14_method_49_code 95 = .ok (.imul, 1) := by decide +kernel
theorem ad_Md_person_96 : decode prog_14_method_49_code 96 = .ok (.iadd, 1) := by decide +kernel
theorem ad_Md_person_97 : decode prog_14_method_49_code 97 = .ok (.iload_n 2, 1) := by decide +kernel
theorem ad_Md_person_98 : decode prog_14_method_49_code 98 = .ok (.iadd, 1) := by decide +kernel
theorem ad_Md_person_99 : decode prog_14_method_49_code 99 = .ok (.iconst 3, 1) := by decide +kernel
theorem ad_Md_person_100 : decode prog_14_method_49_code 100 = .ok (.isub, 1) := by decide +kernel
theorem ad_Md_person_101 : decode prog_14_method_49_code 101 = .ok (.iaload, 1) := by decide +kernel
theorem ad_Md_person_102 : decode prog_14_method_49_code 102 = .ok (.ireturn, 1) := by decide +kernel
theorem ad_Md_need_0 : decode prog_14_method_50_code 0 = .ok (.aload_n 0, 1) := by decide +kernel
theorem ad_Md_need_1 : decode prog_14_method_50_code 1 = .ok (.iconst 0, 1) := by decide +kernel
theorem ad_Md_need_2 : decode prog_14_method_50_code 2 = .ok (.putfield 102, 3) := by decide +kernel
theorem ad_Md_need_5 : decode prog_14_method_50_code 5 = .ok (.aload_n 0, 1) := by decide +kernel
theorem ad_Md_need_6 : decode prog_14_method_50_code 6 = .ok (.invokevirtual 187, 3) := by decide +kernel
theorem ad_Md_need_9 : decode prog_14_method_50_code 9 = .ok (.aload_n 0, 1) := by decide +kernel
theorem ad_Md_need_10 : decode prog_14_method_50_code 10 = .ok (.iload_n 1, 1) := by decide +kernel
theorem ad_Md_need_11 : decode prog_14_method_50_code 11 = .ok (.invokevirtual 267, 3) := by decide +kernel
theorem ad_Md_need_14 : decode prog_14_method_50_code 14 = .ok (.ifCond .eq 29, 3) := by decide +kernel
theorem ad_Md_need_17 : decode prog_14_method_50_code 17 = .ok (.iload_n 2, 1) := by decide +kernel
theorem ad_Md_need_18 : decode prog_14_method_50_code 18 = .ok (.iconst 0, 1) := by decide +kernel
theorem ad_Md_need_19 : decode prog_14_method_50_code 19 = .ok (.iconst 1, 1) := by decide +kernel
theorem ad_Md_need_20 : decode prog_14_method_50_code 20 = .ok (.invokestatic 174, 3) := by decide +kernel
theorem ad_Md_need_23 : decode prog_14_method_50_code 23 = .ok (.ifCond .eq 20, 3) := by decide +kernel
theorem ad_Md_need_26 : decode prog_14_method_50_code 26 = .ok (.aload_n 0, 1) := by decide +kernel
theorem ad_Md_need_27 : decode prog_14_method_50_code 27 = .ok (.getfield 13, 3) := by decide +kernel
theorem ad_Md_need_30 : decode prog_14_method_50_code 30 = .ok (.sipush 225, 3) := by decide +kernel
theorem ad_Md_need_33 : decode prog_14_method_50_code 33 = .ok (.iconst 2, 1) := by decide +kernel
theorem ad_Md_need_34 : decode prog_14_method_50_code 34 = .ok (.iload_n 1, 1) := by decide +kernel
theorem ad_Md_need_35 : decode prog_14_method_50_code 35 = .ok (.imul, 1) := by decide +kernel
theorem ad_Md_need_36 : decode prog_14_method_50_code 36 = .ok (.iadd, 1) := by decide +kernel
theorem ad_Md_need_37 : decode prog_14_method_50_code 37 = .ok (.iload_n 2, 1) := by decide +kernel
theorem ad_Md_need_38 : decode prog_14_method_50_code 38 = .ok (.iadd, 1) := by decide +kernel
theorem ad_Md_need_39 : decode prog_14_method_50_code 39 = .ok (.iaload, 1) := by decide +kernel
theorem ad_Md_need_40 : decode prog_14_method_50_code 40 = .ok (.goto 4, 3) := by decide +kernel
theorem ad_Md_need_43 : decode prog_14_method_50_code 43 = .ok (.iconst (-1), 1) := by decide +kernel
theorem ad_Md_need_44 : decode prog_14_method_50_code 44 = .ok (.ireturn, 1) := by decide +kernel
theorem ad_Md_tie_0 : decode prog_14_method_51_code 0 = .ok (.aload_n 0, 1) := by decide +kernel
theorem ad_Md_tie_1 : decode prog_14_method_51_code 1 = .ok (.iconst 0, 1) := by decide +kernel
theorem ad_Md_tie_2 : decode prog_14_method_51_code 2 = .ok (.putfield 102, 3) := by decide +kernel
theorem ad_Md_tie_5 : decode prog_14_method_51_code 5 = .ok (.aload_n 0, 1) := by decide +kernel
theorem ad_Md_tie_6 : decode prog_14_method_51_code 6 = .ok (.invokevirtual 187, 3) := by decide +kernel
theorem ad_Md_tie_9 : decode prog_14_method_51_code 9 = .ok (.aload_n 0, 1) := by decide +kernel
theorem ad_Md_tie_10 : decode prog_14_method_51_code 10 = .ok (.iload_n 1, 1) := by decide +kernel
theorem ad_Md_tie_11 : decode prog_14_method_51_code 11 = .ok (.invokevirtual 261, 3) := by decide +kernel
theorem ad_Md_tie_14 : decode prog_14_method_51_code 14 = .ok (.ifCond .eq 20, 3) := by decide +kernel
theorem ad_Md_tie_17 : decode prog_14_method_51_code 17 = .ok (.aload_n 0, 1) := by decide +kernel
theorem ad_Md_tie_18 : decode prog_14_method_51_code 18 = .ok (.iload_n 2, 1) := by decide +kernel
theorem ad_Md_tie_19 : decode prog_14_method_51_code 19 = .ok (.invokevirtual 261, 3) := by decide +kernel
theorem ad_Md_tie_22 : decode prog_14_method_51_code 22 = .ok (.ifCond .eq 12, 3) := by decide +kernel
theorem ad_Md_tie_25 : decode prog_14_method_51_code 25 = .ok (.iload_n 3, 1) := by decide +kernel
theorem ad_Md_tie_26 : decode prog_14_method_51_code 26 = .ok (.iconst 0, 1) := by decide +kernel
theorem ad_Md_tie_27 : decode prog_14_method_51_code 27 = .ok (.iconst 1, 1) := by decide +kernel
theorem ad_Md_tie_28 : decode prog_14_method_51_code 28 = .ok (.invokestatic 174, 3) := by decide +kernel
theorem ad_Md_tie_31 : decode prog_14_method_51_code 31 = .ok (.ifCond .ne 5, 3) := by decide +kernel
theorem ad_Md_tie_34 : decode prog_14_method_51_code 34 = .ok (.iconst (-1), 1) := by decide +kernel
theorem ad_Md_tie_35 : decode prog_14_method_51_code 35 = .ok (.ireturn, 1) := by decide +kernel
theorem ad_Md_tie_36 : decode prog_14_method_51_code 36 = .ok (.iload_n 3, 1) := by decide +kernel
theorem ad_Md_tie_37 : decode prog_14_method_51_code 37 = .ok (.ifCond .ne 12, 3) := by decide +kernel
theorem ad_Md_tie_40 : decode prog_14_method_51_code 40 = .ok (.aload_n 0, 1) := by decide +kernel
theorem ad_Md_tie_41 : decode prog_14_method_51_code 41 = .ok (.iload_n 1, 1) := by decide +kernel
theorem ad_Md_tie_42 : decode prog_14_method_51_code 42 = .ok (.iload_n 2, 1) := by decide +kernel
theorem ad_Md_tie_43 : decode prog_14_method_51_code 43 = .ok (.invokevirtual 270, 3) := by decide +kernel
theorem ad_Md_tie_46 : decode prog_14_method_51_code 46 = .ok (.goto 9, 3) := by decide +kernel
theorem ad_Md_tie_49 : decode prog_14_method_51_code 49 = .ok (.aload_n 0, 1) := by decide +kernel
theorem ad_Md_tie_50 : decode prog_14_method_51_code 50 = .ok (.iload_n 1, 1) := by decide +kernel
theorem ad_Md_tie_51 : decode prog_14_method_51_code 51 = .ok (.iload_n 2, 1) := by decide +kernel
theorem ad_Md_tie_52 : decode prog_14_method_51_code 52 = .ok (.invokevirtual 273, 3) := by decide +kernel
theorem ad_Md_tie_55 : decode prog_14_method_51_code 55 = .ok (.ireturn, 1) := by decide +kernel
theorem ad_Md_named_0 : decode prog_14_method_52_code 0 = .ok (.aload_n 0, 1) := by decide +kernel
theorem ad_Md_named_1 : decode prog_14_method_52_code 1 = .ok (.invokevirtual 204, 3) := by decide +kernel
theorem ad_Md_named_4 : decode prog_14_method_52_code 4 = .ok (.ifCond .ne 6, 3) := by decide +kernel
theorem ad_Md_named_7 : decode prog_14_method_52_code 7 = .ok (.bipush (-2), 2) := by decide +kernel
theorem ad_Md_named_9 : decode prog_14_method_52_code 9 = .ok (.ireturn, 1) := by decide +kernel
theorem ad_Md_named_10 : decode prog_14_method_52_code 10 = .ok (.iconst 0, 1) := by decide +kernel
theorem ad_Md_named_11 : decode prog_14_method_52_code 11 = .ok (.istore_n 3, 1) := by decide +kernel
theorem ad_Md_named_12 : decode prog_14_method_52_code 12 = .ok (.iload_n 3, 1) := by decide +kernel
theorem ad_Md_named_13 : decode prog_14_method_52_code 13 = .ok (.iload_n 2, 1) := by decide +kernel
theorem ad_Md_named_14 : decode prog_14_method_52_code 14 = .ok (.if_icmp .ge 27, 3) := by decide +kernel
theorem ad_Md_named_17 : decode prog_14_method_52_code 17 = .ok (.aload_n 0, 1) := by decide +kernel
theorem ad_Md_named_18 : decode prog_14_method_52_code 18 = .ok (.getfield 25, 3) := by decide +kernel
theorem ad_Md_named_21 : decode prog_14_method_52_code 21 = .ok (.iload_n 1, 1) := by decide +kernel
theorem ad_Md_named_22 : decode prog_14_method_52_code 22 = .ok (.iload_n 3, 1) := by decide +kernel
theorem ad_Md_named_23 : decode prog_14_method_52_code 23 = .ok (.iadd, 1) := by decide +kernel
theorem ad_Md_named_24 : decode prog_14_method_52_code 24 = .ok (.laload, 1) := by decide +kernel
theorem ad_Md_named_25 : decode prog_14_method_52_code 25 = .ok (.aload_n 0, 1) := by decide +kernel
theorem ad_Md_named_26 : decode prog_14_method_52_code 26 = .ok (.getfield 138, 3) := by decide +kernel
theorem ad_Md_named_29 : decode prog_14_method_52_code 29 = .ok (.lcmp, 1) := by decide +kernel
theorem ad_Md_named_30 : decode prog_14_method_52_code 30 = .ok (.ifCond .ne 5, 3) := by decide +kernel
theorem ad_Md_named_33 : decode prog_14_method_52_code 33 = .ok (.iload_n 3, 1) := by decide +kernel
theorem ad_Md_named_34 : decode prog_14_method_52_code 34 = .ok (.ireturn, 1) := by decide +kernel
theorem ad_Md_named_35 : decode prog_14_method_52_code 35 = .ok (.iinc 3 1, 3) := by decide +kernel
theorem ad_Md_named_38 : decode prog_14_method_52_code 38 = .ok (.goto (-26), 3) := by decide +kernel
theorem ad_Md_named_41 : decode prog_14_method_52_code 41 = .ok (.iconst (-1), 1) := by decide +kernel
theorem ad_Md_named_42 : decode prog_14_method_52_code 42 = .ok (.ireturn, 1) := by decide +kernel
theorem ad_Md_readNamed_0 : decode prog_14_method_53_code 0 = .ok (.aload_n 0, 1) := by decide +kernel
theorem ad_Md_readNamed_1 : decode prog_14_method_53_code 1 = .ok (.iload_n 1, 1) := by decide +kernel
theorem ad_Md_readNamed_2 : decode prog_14_method_53_code 2 = .ok (.iload_n 2, 1) := by decide +kernel
theorem ad_Md_readNamed_3 : decode prog_14_method_53_code 3 = .ok (.invokevirtual 276, 3) := by decide +kernel
theorem ad_Md_readNamed_6 : decode prog_14_method_53_code 6 = .ok (.istore 4, 2) := by decide +kernel
theorem ad_Md_readNamed_8 : decode prog_14_method_53_code 8 = .ok (.iload 4, 2) := by decide +kernel
theorem ad_Md_readNamed_10 : decode prog_14_method_53_code 10 = .ok (.ifCond .lt 9, 3) := by decide +kernel
theorem ad_Md_readNamed_13 : decode prog_14_method_53_code 13 = .ok (.iload 4, 2) := by decide +kernel
theorem ad_Md_readNamed_15 : decode prog_14_method_53_code 15 = .ok (.iload_n 3, 1) := by decide +kernel
theorem ad_Md_readNamed_16 : decode prog_14_method_53_code 16 = .ok (.if_icmp .ne 20, 3) := by decide +kernel
theorem ad_Md_readNamed_19 : decode prog_14_method_53_code 19 = .ok (.aload_n 0, 1) := by decide +kernel
theorem ad_Md_readNamed_20 : decode prog_14_method_53_code 20 = .ok (.iload 4, 2) := by decide +kernel
theorem ad_Md_readNamed_22 : decode prog_14_method_53_code 22 = .ok (.bipush (-2), 2) := by decide +kernel
theorem ad_Md_readNamed_24 : decode prog_14_method_53_code 24 = .ok (.if_icmp .ne 7, 3) := by decide +kernel
theorem ad_Md_readNamed_27 : decode prog_14_method_53_code 27 = .ok (.iconst 1, 1) := by decide +kernel
theorem ad_Md_readNamed_28 : decode prog_14_method_53_code 28 = .ok (.goto 4, 3) := by decide +kernel
theorem ad_Md_readNamed_31 : decode prog_14_method_53_code 31 = .ok (.iconst 3, 1) := by decide +kernel
theorem ad_Md_readNamed_32 : decode prog_14_method_53_code 32 = .ok (.invokevirtual 171, 3) := by decide +kernel
theorem ad_Md_readNamed_35 : decode prog_14_method_53_code 35 = .ok (.ireturn, 1) := by decide +kernel
theorem ad_Md_readNamed_36 : decode prog_14_method_53_code 36 = .ok (.aload_n 0, 1) := by decide +kernel
theorem ad_Md_readNamed_37 : decode prog_14_method_53_code 37 = .ok (.iload 4, 2) := by decide +kernel
theorem ad_Md_readNamed_39 : decode prog_14_method_53_code 39 = .ok (.putfield 178, 3) := by decide +kernel
theorem ad_Md_readNamed_42 : decode prog_14_method_53_code 42 = .ok (.aload_n 0, 1) := by decide +kernel
theorem ad_Md_readNamed_43 : decode prog_14_method_53_code 43 = .ok (.invokevirtual 181, 3) := by decide +kernel
theorem ad_Md_readNamed_46 : decode prog_14_method_53_code 46 = .ok (.iconst 1, 1) := by decide +kernel
theorem ad_Md_readNamed_47 : decode prog_14_method_53_code 47 = .ok (.ireturn, 1) := by decide +kernel
theorem ad_Md_readBookLine_0 : decode prog_14_method_54_code 0 = .ok (.aload_n 0, 1) := by decide +kernel
theorem ad_Md_readBookLine_1 : decode prog_14_method_54_code 1 = .ok (.bipush 9, 2) := by decide +kernel
theorem ad_Md_readBookLine_3 : decode prog_14_method_54_code 3 = .ok (.invokevirtual 218, 3) := by decide +kernel
theorem ad_Md_readBookLine_6 : decode prog_14_method_54_code 6 = .ok (.istore_n 2, 1) := by decide +kernel
theorem ad_Md_readBookLine_7 : decode prog_14_method_54_code 7 = .ok (.iconst 0, 1) := by decide +kernel
theorem ad_Md_readBookLine_8 : decode prog_14_method_54_code 8 = .ok (.istore_n 3, 1) := by decide +kernel
theorem ad_Md_readBookLine_9 : decode prog_14_method_54_code 9 = .ok (.iload_n 2, 1) := by decide +kernel
theorem ad_Md_readBookLine_10 : decode prog_14_method_54_code 10 = .ok (.ifCond .ne 33, 3) := by decide +kernel
theorem ad_Md_readBookLine_13 : decode prog_14_method_54_code 13 = .ok (.aload_n 0, 1) := by decide +kernel
theorem ad_Md_readBookLine_14 : decode prog_14_method_54_code 14 = .ok (.bipush 6, 2) := by decide +kernel
theorem ad_Md_readBookLine_16 : decode prog_14_method_54_code 16 = .ok (.aload_n 0, 1) := by decide +kernel
theorem ad_Md_readBookLine_17 : decode prog_14_method_54_code 17 = .ok (.invokevirtual 201, 3) := by decide +kernel
theorem ad_Md_readBookLine_20 : decode prog_14_method_54_code 20 = .ok (.invokevirtual 276, 3) := by decide +kernel
theorem ad_Md_readBookLine_23 : decode prog_14_method_54_code 23 = .ok (.istore_n 3, 1) := by decide +kernel
theorem ad_Md_readBookLine_24 : decode prog_14_method_54_code 24 = .ok (.iload_n 3, 1) := by decide +kernel
theorem ad_Md_readBookLine_25 : decode prog_14_method_54_code 25 = .ok (.ifCond .ge 18, 3) := by decide +kernel
theorem ad_Md_readBookLine_28 : decode prog_14_method_54_code 28 = .ok (.aload_n 0, 1) := by decide +kernel
theorem ad_Md_readBookLine_29 : decode prog_14_method_54_code 29 = .ok (.iload_n 3, 1) := by decide +kernel
theorem ad_Md_readBookLine_30 : decode prog_14_method_54_code 30 = .ok (.iconst (-1), 1) := by decide +kernel
theorem ad_Md_readBookLine_31 : decode prog_14_method_54_code 31 = .ok (.if_icmp .ne 7, 3) := by decide +kernel
theorem ad_Md_readBookLine_34 : decode prog_14_method_54_code 34 = .ok (.iconst 3, 1) := by decide +kernel
theorem ad_Md_readBookLine_35 : decode prog_14_method_54_code 35 = .ok (.goto 4, 3) := by decide +kernel
theorem ad_Md_readBookLine_38 : decode prog_14_method_54_code 38 = .ok (.iconst 1, 1) := by decide +kernel
theorem ad_Md_readBookLine_39 : decode prog_14_method_54_code 39 = .ok (.invokevirtual 171, 3) := by decide +kernel
theorem ad_Md_readBookLine_42 : decode prog_14_method_54_code 42 = .ok (.ireturn, 1) := by decide +kernel
theorem ad_Md_readBookLine_43 : decode prog_14_method_54_code 43 = .ok (.aload_n 0, 1) := by decide +kernel
theorem ad_Md_readBookLine_44 : decode prog_14_method_54_code 44 = .ok (.getfield 279, 3) := by decide +kernel
theorem ad_Md_readBookLine_47 : decode prog_14_method_54_code 47 = .ok (.bipush 60, 2) := by decide +kernel
theorem ad_Md_readBookLine_49 : decode prog_14_method_54_code 49 = .ok (.if_icmp .ne 9, 3) := by decide +kernel
theorem ad_Md_readBookLine_52 : decode prog_14_method_54_code 52 = .ok (.aload_n 0, 1) := by decide +kernel
theorem ad_Md_readBookLine_53 : decode prog_14_method_54_code 53 = .ok (.iconst 4, 1) := by decide +kernel
theorem ad_Md_readBookLine_54 : decode prog_14_method_54_code 54 = .ok (.invokevirtual 171, 3) := by decide +kernel
theorem ad_Md_readBookLine_57 : decode prog_14_method_54_code 57 = .ok (.ireturn, 1) := by decide +kernel
theorem ad_Md_readBookLine_58 : decode prog_14_method_54_code 58 = .ok (.iconst 4, 1) := by decide +kernel
theorem ad_Md_readBookLine_59 : decode prog_14_method_54_code 59 = .ok (.aload_n 0, 1) := by decide +kernel
theorem ad_Md_readBookLine_60 : decode prog_14_method_54_code 60 = .ok (.getfield 279, 3) := by decide +kernel
theorem ad_Md_readBookLine_63 : decode prog_14_method_54_code 63 = .ok (.imul, 1) := by decide +kernel
theorem ad_Md_readBookLine_64 : decode prog_14_method_54_code 64 = .ok (.istore 4, 2) := by decide +kernel
theorem ad_Md_readBookLine_66 : decode prog_14_method_54_code 66 = .ok (.aload_n 0, 1) := by decide +kernel
theorem ad_Md_readBookLine_67 : decode prog_14_method_54_code 67 = .ok (.invokevirtual 181, 3) := by decide +kernel
theorem ad_Md_readBookLine_70 : decode prog_14_method_54_code 70 = .ok (.aload_n 0, 1) := by decide +kernel
theorem ad_Md_readBookLine_71 : decode prog_14_method_54_code 71 = .ok (.getfield 19, 3) := by decide +kernel
theorem ad_Md_readBookLine_74 : decode prog_14_method_54_code 74 = .ok (.iload 4, 2) := by decide +kernel
theorem ad_Md_readBookLine_76 : decode prog_14_method_54_code 76 = .ok (.iconst 1, 1) := by decide +kernel
theorem ad_Md_readBookLine_77 : decode prog_14_method_54_code 77 = .ok (.iadd, 1) := by decide +kernel
theorem ad_Md_readBookLine_78 : decode prog_14_method_54_code 78 = .ok (.iload_n 3, 1) := by decide +kernel
theorem ad_Md_readBookLine_79 : decode prog_14_method_54_code 79 = .ok (.iastore, 1) := by decide +kernel
theorem ad_Md_readBookLine_80 : decode prog_14_method_54_code 80 = .ok (.iload_n 2, 1) := by decide +kernel
theorem ad_Md_readBookLine_81 : decode prog_14_method_54_code 81 = .ok (.ifCond .eq 52, 3) := by decide +kernel
theorem ad_Md_readBookLine_84 : decode prog_14_method_54_code 84 = .ok (.aload_n 0, 1) := by decide +kernel
theorem ad_Md_readBookLine_85 : decode prog_14_method_54_code 85 = .ok (.aload_n 0, 1) := by decide +kernel
theorem ad_Md_readBookLine_86 : decode prog_14_method_54_code 86 = .ok (.getfield 279, 3) := by decide +kernel
theorem ad_Md_readBookLine_89 : decode prog_14_method_54_code 89 = .ok (.ifCond .ne 7, 3) := by decide +kernel
theorem ad_Md_readBookLine_92 : decode prog_14_method_54_code 92 = .ok (.iconst 0, 1) := by decide +kernel
theorem ad_Md_readBookLine_93 : decode prog_14_method_54_code 93 = .ok (.goto 6, 3) := by decide +kernel
theorem ad_Md_readBookLine_96 : decode prog_14_method_54_code 96 = .ok (.iload_n 1, 1) := by decide +kernel
theorem ad_Md_readBookLine_97 : decode prog_14_method_54_code 97 = .ok (.iconst 1, 1) := by decide +kernel
theorem ad_Md_readBookLine_98 : decode prog_14_method_54_code 98 = .ok (.iadd, 1) := by decide +kernel
theorem ad_Md_readBookLine_99 : decode prog_14_method_54_code 99 = .ok (.bipush 99, 2) := by decide +kernel
theorem ad_Md_readBookLine_101 : decode prog_14_method_54_code 101 = .ok (.invokevirtual 214, 3) := by decide +kernel
theorem ad_Md_readBookLine_104 : decode prog_14_method_54_code 104 = .ok (.ifCond .ne 5, 3) := by decide +kernel
theorem ad_Md_readBookLine_107 : decode prog_14_method_54_code 107 = .ok (.iconst 0, 1) := by decide +kernel
theorem ad_Md_readBookLine_108 : decode prog_14_method_54_code 108 = .ok (.ireturn, 1) := by decide +kernel
theorem ad_Md_readBookLine_109 : decode prog_14_method_54_code 109 = .ok (.aload_n 0, 1) := by decide +kernel
theorem ad_Md_readBookLine_110 : decode prog_14_method_54_code 110 = .ok (.getfield 19, 3) := by decide +kernel
theorem ad_Md_readBookLine_113 : decode prog_14_method_54_code 113 = .ok (.iload 4, 2) := by decide +kernel
theorem ad_Md_readBookLine_115 : decode prog_14_method_54_code 115 = .ok (.iconst 0, 1) := by decide +kernel
theorem ad_Md_readBookLine_116 : decode prog_14_method_54_code 116 = .ok (.iastore, 1) := by decide +kernel
theorem ad_Md_readBookLine_117 : decode prog_14_method_54_code 117 = .ok (.aload_n 0, 1) := by decide +kernel
theorem ad_Md_readBookLine_118 : decode prog_14_method_54_code 118 = .ok (.getfield 19, 3) := by decide +kernel
theorem ad_Md_readBookLine_121 : decode prog_14_method_54_code 121 = .ok (.iload 4, 2) := by decide +kernel
theorem ad_Md_readBookLine_123 : decode prog_14_method_54_code 123 = .ok (.iconst 1, 1) := by decide +kernel
theorem ad_Md_readBookLine_124 : decode prog_14_method_54_code 124 = .ok (.iadd, 1) := by decide +kernel
theorem ad_Md_readBookLine_125 : decode prog_14_method_54_code 125 = .ok (.aload_n 0, 1) := by decide +kernel
theorem ad_Md_readBookLine_126 : decode prog_14_method_54_code 126 = .ok (.getfield 178, 3) := by decide +kernel
theorem ad_Md_readBookLine_129 : decode prog_14_method_54_code 129 = .ok (.iastore, 1) := by decide +kernel
theorem ad_Md_readBookLine_130 : decode prog_14_method_54_code 130 = .ok (.goto 158, 3) := by decide +kernel
theorem ad_Md_readBookLine_133 : decode prog_14_method_54_code 133 = .ok (.aload_n 0, 1) := by decide +kernel
theorem ad_Md_readBookLine_134 : decode prog_14_method_54_code 134 = .ok (.bipush 10, 2) := by decide +kernel
theorem ad_Md_readBookLine_136 : decode prog_14_method_54_code 136 = .ok (.invokevirtual 218, 3) := by decide +kernel
theorem ad_Md_readBookLine_139 : decode prog_14_method_54_code 139 = .ok (.istore 5, 2) := by decide +kernel
theorem ad_Md_readBookLine_141 : decode prog_14_method_54_code 141 = .ok (.iload 5, 2) := by decide +kernel
theorem ad_Md_readBookLine_143 : decode prog_14_method_54_code 143 = .ok (.ifCond .ne 27, 3) := by decide +kernel
theorem ad_Md_readBookLine_146 : decode prog_14_method_54_code 146 = .ok (.aload_n 0, 1) := by decide +kernel
theorem ad_Md_readBookLine_147 : decode prog_14_method_54_code 147 = .ok (.bipush 12, 2) := by decide +kernel
theorem ad_Md_readBookLine_149 : decode prog_14_method_54_code 149 = .ok (.invokevirtual 218, 3) := by decide +kernel
theorem ad_Md_readBookLine_152 : decode prog_14_method_54_code 152 = .ok (.ifCond .ne 18, 3) := by decide +kernel
theorem ad_Md_readBookLine_155 : decode prog_14_method_54_code 155 = .ok (.aload_n 0, 1) := by decide +kernel
theorem ad_Md_readBookLine_156 : decode prog_14_method_54_code 156 = .ok (.bipush 13, 2) := by decide +kernel
theorem ad_Md_readBookLine_158 : decode prog_14_method_54_code 158 = .ok (.invokevirtual 218, 3) := by decide +kernel
theorem ad_Md_readBookLine_161 : decode prog_14_method_54_code 161 = .ok (.ifCond .ne 9, 3) := by decide +kernel
theorem ad_Md_readBookLine_164 : decode prog_14_method_54_code 164 = .ok (.aload_n 0, 1) := by decide +kernel
theorem ad_Md_readBookLine_165 : decode prog_14_method_54_code 165 = .ok (.iconst 1, 1) := by decide +kernel
theorem ad_Md_readBookLine_166 : decode prog_14_method_54_code 166 = .ok (.invokevirtual 171, 3) := by decide +kernel
theorem ad_Md_readBookLine_169 : decode prog_14_method_54_code 169 = .ok (.ireturn, 1) := by decide +kernel
theorem ad_Md_readBookLine_170 : decode prog_14_method_54_code 170 = .ok (.aload_n 0, 1) := by decide +kernel
theorem ad_Md_readBookLine_171 : decode prog_14_method_54_code 171 = .ok (.getfield 19, 3) := by decide +kernel
theorem ad_Md_readBookLine_174 : decode prog_14_method_54_code 174 = .ok (.iload 4, 2) := by decide +kernel
theorem ad_Md_readBookLine_176 : decode prog_14_method_54_code 176 = .ok (.iload 5, 2) := by decide +kernel
theorem ad_Md_readBookLine_178 : decode prog_14_method_54_code 178 = .ok (.ifCond .eq 7, 3) := by decide +kernel
theorem ad_Md_readBookLine_181 : decode prog_14_method_54_code 181 = .ok (.iconst 1, 1) := by decide +kernel
theorem ad_Md_readBookLine_182 : decode prog_14_method_54_code 182 = .ok (.goto 17, 3) := by decide +kernel
theorem ad_Md_readBookLine_185 : decode prog_14_method_54_code 185 = .ok (.aload_n 0, 1) := by decide +kernel
theorem ad_Md_readBookLine_186 : decode prog_14_method_54_code 186 = .ok (.bipush 12, 2) := by decide +kernel
theorem ad_Md_readBookLine_188 : decode prog_14_method_54_code 188 = .ok (.invokevirtual 218, 3) := by decide +kernel
theorem ad_Md_readBookLine_191 : decode prog_14_method_54_code 191 = .ok (.ifCond .eq 7, 3) := by decide +kernel
theorem ad_Md_readBookLine_194 : decode prog_14_method_54_code 194 = .ok (.iconst 3, 1) := by decide +kernel
theorem ad_Md_readBookLine_195 : decode prog_14_method_54_code 195 = .ok (.goto 4, 3) := by decide +kernel
theorem ad_Md_readBookLine_198 : decode prog_14_method_54_code 198 = .ok (.iconst 4, 1) := by decide +kernel
theorem ad_Md_readBookLine_199 : decode prog_14_method_54_code 199 = .ok (.iastore, 1) := by decide +kernel
theorem ad_Md_readBookLine_200 : decode prog_14_method_54_code 200 = .ok (.aload_n 0, 1) := by decide +kernel
theorem ad_Md_readBookLine_201 : decode prog_14_method_54_code 201 = .ok (.invokevirtual 181, 3) := by decide +kernel
theorem ad_Md_readBookLine_204 : decode prog_14_method_54_code 204 = .ok (.aload_n 0, 1) := by decide +kernel
theorem ad_Md_readBookLine_205 : decode prog_14_method_54_code 205 = .ok (.bipush 6, 2) := by decide +kernel
theorem ad_Md_readBookLine_207 : decode prog_14_method_54_code 207 = .ok (.aload_n 0, 1) := by decide +kernel
theorem ad_Md_readBookLine_208 : decode prog_14_method_54_code 208 = .ok (.invokevirtual 201, 3) := by decide +kernel
theorem ad_Md_readBookLine_211 : decode prog_14_method_54_code 211 = .ok (.iload_n 3, 1) := by decide +kernel
theorem ad_Md_readBookLine_212 : decode prog_14_method_54_code 212 = .ok (.invokevirtual 282, 3) := by decide +kernel
theorem ad_Md_readBookLine_215 : decode prog_14_method_54_code 215 = .ok (.ifCond .ne 5, 3) := by decide +kernel
theorem ad_Md_readBookLine_218 : decode prog_14_method_54_code 218 = .ok (.iconst 0, 1) := by decide +kernel
theorem ad_Md_readBookLine_219 : decode prog_14_method_54_code 219 = .ok (.ireturn, 1) := by decide +kernel
theorem ad_Md_readBookLine_220 : decode prog_14_method_54_code 220 = .ok (.aload_n 0, 1) := by decide +kernel
theorem ad_Md_readBookLine_221 : decode prog_14_method_54_code 221 = .ok (.getfield 19, 3) := by decide +kernel
theorem ad_Md_readBookLine_224 : decode prog_14_method_54_code 224 = .ok (.iload 4, 2) := by decide +kernel
theorem ad_Md_readBookLine_226 : decode prog_14_method_54_code 226 = .ok (.iconst 2, 1) := by decide +kernel
theorem ad_Md_readBookLine_227 : decode prog_14_method_54_code 227 = .ok (.iadd, 1) := by decide +kernel
theorem ad_Md_readBookLine_228 : decode prog_14_method_54_code 228 = .ok (.aload_n 0, 1) := by decide +kernel
theorem ad_Md_readBookLine_229 : decode prog_14_method_54_code 229 = .ok (.getfield 178, 3) := by decide +kernel
theorem ad_Md_readBookLine_232 : decode prog_14_method_54_code 232 = .ok (.iastore, 1) := by decide +kernel
theorem ad_Md_readBookLine_233 : decode prog_14_method_54_code 233 = .ok (.aload_n 0, 1) := by decide +kernel
theorem ad_Md_readBookLine_234 : decode prog_14_method_54_code 234 = .ok (.iconst 0, 1) := by decide +kernel
theorem ad_Md_readBookLine_235 : decode prog_14_method_54_code 235 = .ok (.aload_n 0, 1) := by decide +kernel
theorem ad_Md_readBookLine_236 : decode prog_14_method_54_code 236 = .ok (.invokevirtual 198, 3) := by decide +kernel
theorem ad_Md_readBookLine_239 : decode prog_14_method_54_code 239 = .ok (.bipush (-6), 2) := by decide +kernel
theorem ad_Md_readBookLine_241 : decode prog_14_method_54_code 241 = .ok (.invokevirtual 282, 3) := by decide +kernel
theorem ad_Md_readBookLine_244 : decode prog_14_method_54_code 244 = .ok (.ifCond .ne 5, 3) := by decide +kernel
theorem ad_Md_readBookLine_247 : decode prog_14_method_54_code 247 = .ok (.iconst 0, 1) := by decide +kernel
theorem ad_Md_readBookLine_248 : decode prog_14_method_54_code 248 = .ok (.ireturn, 1) := by decide +kernel
theorem ad_Md_readBookLine_249 : decode prog_14_method_54_code 249 = .ok (.aload_n 0, 1) := by decide +kernel
theorem ad_Md_readBookLine_250 : decode prog_14_method_54_code 250 = .ok (.getfield 19, 3) := by decide +kernel
theorem ad_Md_readBookLine_253 : decode prog_14_method_54_code 253 = .ok (.iload 4, 2) := by decide +kernel
theorem ad_Md_readBookLine_255 : decode prog_14_method_54_code 255 = .ok (.iconst 3, 1) := by decide +kernel
theorem ad_Md_readBookLine_256 : decode prog_14_method_54_code 256 = .ok (.iadd, 1) := by decide +kernel
theorem ad_Md_readBookLine_257 : decode prog_14_method_54_code 257 = .ok (.aload_n 0, 1) := by decide +kernel
theorem ad_Md_readBookLine_258 : decode prog_14_method_54_code 258 = .ok (.getfield 178, 3) := by decide +kernel
theorem ad_Md_readBookLine_261 : decode prog_14_method_54_code 261 = .ok (.iastore, 1) := by decide +kernel
theorem ad_Md_readBookLine_262 : decode prog_14_method_54_code 262 = .ok (.iload 5, 2) := by decide +kernel
theorem ad_Md_readBookLine_264 : decode prog_14_method_54_code 264 = .ok (.ifCond .eq 24, 3) := by decide +kernel
theorem ad_Md_readBookLine_267 : decode prog_14_method_54_code 267 = .ok (.aload_n 0, 1) := by decide +kernel
theorem ad_Md_readBookLine_268 : decode prog_14_method_54_code 268 = .ok (.bipush 11, 2) := by decide +kernel
theorem ad_Md_readBookLine_270 : decode prog_14_method_54_code 270 = .ok (.invokevirtual 218, 3) := by decide +kernel
theorem ad_Md_readBookLine_273 : decode prog_14_method_54_code 273 = .ok (.ifCond .eq 15, 3) := by decide +kernel
theorem ad_Md_readBookLine_276 : decode prog_14_method_54_code 276 = .ok (.aload_n 0, 1) := by decide +kernel
theorem ad_Md_readBookLine_277 : decode prog_14_method_54_code 277 = .ok (.getfield 19, 3) := by decide +kernel
theorem ad_Md_readBookLine_280 : decode prog_14_method_54_code 280 = .ok (.iload 4, 2) := by decide +kernel
theorem ad_Md_readBookLine_282 : decode prog_14_method_54_code 282 = .ok (.iconst 2, 1) := by decide +kernel
theorem ad_Md_readBookLine_283 : decode prog_14_method_54_code 283 = .ok (.iastore, 1) := by decide +kernel
theorem ad_Md_readBookLine_284 : decode prog_14_method_54_code 284 = .ok (.aload_n 0, 1) := by decide +kernel
theorem ad_Md_readBookLine_285 : decode prog_14_method_54_code 285 = .ok (.invokevirtual 181, 3) := by decide +kernel
theorem ad_Md_readBookLine_288 : decode prog_14_method_54_code 288 = .ok (.aload_n 0, 1) := by decide +kernel
theorem ad_Md_readBookLine_289 : decode prog_14_method_54_code 289 = .ok (.dup, 1) := by decide +kernel
theorem ad_Md_readBookLine_290 : decode prog_14_method_54_code 290 = .ok (.getfield 279, 3) := by decide +kernel
theorem ad_Md_readBookLine_293 : decode prog_14_method_54_code 293 = .ok (.iconst 1, 1) := by decide +kernel
theorem ad_Md_readBookLine_294 : decode prog_14_method_54_code 294 = .ok (.iadd, 1) := by decide +kernel
theorem ad_Md_readBookLine_295 : decode prog_14_method_54_code 295 = .ok (.putfield 279, 3) := by decide +kernel
theorem ad_Md_readBookLine_298 : decode prog_14_method_54_code 298 = .ok (.aload_n 0, 1) := by decide +kernel
theorem ad_Md_readBookLine_299 : decode prog_14_method_54_code 299 = .ok (.invokevirtual 242, 3) := by decide +kernel
theorem ad_Md_readBookLine_302 : decode prog_14_method_54_code 302 = .ok (.ireturn, 1) := by decide +kernel
theorem ad_Md_book_0 : decode prog_14_method_55_code 0 = .ok (.aload_n 0, 1) := by decide +kernel
theorem ad_Md_book_1 : decode prog_14_method_55_code 1 = .ok (.sipush 700, 3) := by decide +kernel
theorem ad_Md_book_4 : decode prog_14_method_55_code 4 = .ok (.invokevirtual 245, 3) := by decide +kernel
theorem ad_Md_book_7 : decode prog_14_method_55_code 7 = .ok (.aload_n 0, 1) := by decide +kernel
theorem ad_Md_book_8 : decode prog_14_method_55_code 8 = .ok (.iconst 0, 1) := by decide +kernel
theorem ad_Md_book_9 : decode prog_14_method_55_code 9 = .ok (.putfield 279, 3) := by decide +kernel
theorem ad_Md_book_12 : decode prog_14_method_55_code 12 = .ok (.iconst 0, 1) := by decide +kernel
theorem ad_Md_book_13 : decode prog_14_method_55_code 13 = .ok (.istore_n 1, 1) := by decide +kernel
theorem ad_Md_book_14 : decode prog_14_method_55_code 14 = .ok (.aload_n 0, 1) := by decide +kernel
theorem ad_Md_book_15 : decode prog_14_method_55_code 15 = .ok (.getfield 125, 3) := by decide +kernel
theorem ad_Md_book_18 : decode prog_14_method_55_code 18 = .ok (.ifCond .eq 51, 3) := by decide +kernel
theorem ad_Md_book_21 : decode prog_14_method_55_code 21 = .ok (.aload_n 0, 1) := by decide +kernel
theorem ad_Md_book_22 : decode prog_14_method_55_code 22 = .ok (.iload_n 1, 1) := by decide +kernel
theorem ad_Md_book_23 : decode prog_14_method_55_code 23 = .ok (.invokevirtual 285, 3) := by decide +kernel
theorem ad_Md_book_26 : decode prog_14_method_55_code 26 = .ok (.ifCond .ne 10, 3) := by decide +kernel
theorem ad_Md_book_29 : decode prog_14_method_55_code 29 = .ok (.iconst (-1), 1) := by decide +kernel
theorem ad_Md_book_30 : decode prog_14_method_55_code 30 = .ok (.aload_n 0, 1) := by decide +kernel
theorem ad_Md_book_31 : decode prog_14_method_55_code 31 = .ok (.getfield 168, 3) := by decide +kernel
theorem ad_Md_book_34 : decode prog_14_method_55_code 34 = .ok (.isub, 1) := by decide +kernel
theorem ad_Md_book_35 : decode prog_14_method_55_code 35 = .ok (.ireturn, 1) := by decide +kernel
theorem ad_Md_book_36 : decode prog_14_method_55_code 36 = .ok (.aload_n 0, 1) := by decide +kernel
theorem ad_Md_book_37 : decode prog_14_method_55_code 37 = .ok (.getfield 19, 3) := by decide +kernel
theorem ad_Md_book_40 : decode prog_14_method_55_code 40 = .ok (.iconst 4, 1) := by decide +kernel
theorem ad_Md_book_41 : decode prog_14_method_55_code 41 = .ok (.aload_n 0, 1) := by decide +kernel
theorem ad_Md_book_42 : decode prog_14_method_55_code 42 = .ok (.getfield 279, 3) := by decide +kernel
theorem ad_Md_book_45 : decode prog_14_method_55_code 45 = .ok (.imul, 1) := by decide +kernel
theorem ad_Md_book_46 : decode prog_14_method_55_code 46 = .ok (.iconst 4, 1) := by decide +kernel
theorem ad_Md_book_47 : decode prog_14_method_55_code 47 = .ok (.isub, 1) := by decide +kernel
theorem ad_Md_book_48 : decode prog_14_method_55_code 48 = .ok (.iaload, 1) := by decide +kernel
theorem ad_Md_book_49 : decode prog_14_method_55_code 49 = .ok (.ifCond .ne (-35), 3) := by decide +kernel
theorem ad_Md_book_52 : decode prog_14_method_55_code 52 = .ok (.aload_n 0, 1) := by decide +kernel
theorem ad_Md_book_53 : decode prog_14_method_55_code 53 = .ok (.getfield 19, 3) := by decide +kernel
theorem ad_Md_book_56 : decode prog_14_method_55_code 56 = .ok (.iconst 4, 1) := by decide +kernel
theorem ad_Md_book_57 : decode prog_14_method_55_code 57 = .ok (.aload_n 0, 1) := by decide +kernel
theorem ad_Md_book_58 : decode prog_14_method_55_code 58 = .ok (.getfield 279, 3) := by decide +kernel
theorem ad_Md_book_61 : decode prog_14_method_55_code 61 = .ok (.imul, 1) := by decide +kernel
theorem ad_Md_book_62 : decode prog_14_method_55_code 62 = .ok (.iconst 3, 1) := by decide +kernel
theorem ad_Md_book_63 : decode prog_14_method_55_code 63 = .ok (.isub, 1) := by decide +kernel
theorem ad_Md_book_64 : decode prog_14_method_55_code 64 = .ok (.iaload, 1) := by decide +kernel
theorem ad_Md_book_65 : decode prog_14_method_55_code 65 = .ok (.istore_n 1, 1) := by decide +kernel
theorem ad_Md_book_66 : decode prog_14_method_55_code 66 = .ok (.goto (-52), 3) := by decide +kernel
theorem ad_Md_book_69 : decode prog_14_method_55_code 69 = .ok (.iconst 0, 1) := by decide +kernel
theorem ad_Md_book_70 : decode prog_14_method_55_code 70 = .ok (.istore_n 2, 1) := by decide +kernel
theorem ad_Md_book_71 : decode prog_14_method_55_code 71 = .ok (.iload_n 2, 1) := by decide +kernel
theorem ad_Md_book_72 : decode prog_14_method_55_code 72 = .ok (.iconst 4, 1) := by decide +kernel
theorem ad_Md_book_73 : decode prog_14_method_55_code 73 = .ok (.aload_n 0, 1) := by decide +kernel
theorem ad_Md_book_74 : decode prog_14_method_55_code 74 = .ok (.getfield 279, 3) := by decide +kernel
theorem ad_Md_book_77 : decode prog_14_method_55_code 77 = .ok (.imul, 1) := by decide +kernel
theorem ad_Md_book_78 : decode prog_14_method_55_code 78 = .ok (.if_icmp .ge 25, 3) := by decide +kernel
theorem ad_Md_book_81 : decode prog_14_method_55_code 81 = .ok (.aload_n 0, 1) := by decide +kernel
theorem ad_Md_book_82 : decode prog_14_method_55_code 82 = .ok (.getfield 13, 3) := by decide +kernel
theorem ad_Md_book_85 : decode prog_14_method_55_code 85 = .ok (.sipush 342, 3) := by decide +kernel
theorem ad_Md_book_88 : decode prog_14_method_55_code 88 = .ok (.iload_n 2, 1) := by decide +kernel
theorem ad_Md_book_89 : decode prog_14_method_55_code 89 = .ok (.iadd, 1) := by decide +kernel
theorem ad_Md_book_90 : decode prog_14_method_55_code 90 = .ok (.aload_n 0, 1) := by decide +kernel
theorem ad_Md_book_91 : decode prog_14_method_55_code 91 = .ok (.getfield 19, 3) := by decide +kernel
theorem ad_Md_book_94 : decode prog_14_method_55_code 94 = .ok (.iload_n 2, 1) := by decide +kernel
theorem ad_Md_book_95 : decode prog_14_method_55_code 95 = .ok (.iaload, 1) := by decide +kernel
theorem ad_Md_book_96 : decode prog_14_method_55_code 96 = .ok (.iastore, 1) := by decide +kernel
theorem ad_Md_book_97 : decode prog_14_method_55_code 97 = .ok (.iinc 2 1, 3) := by decide +kernel
theorem ad_Md_book_100 : decode prog_14_method_55_code 100 = .ok (.goto (-29), 3) := by decide +kernel
theorem ad_Md_book_103 : decode prog_14_method_55_code 103 = .ok (.aload_n 0, 1) := by decide +kernel
theorem ad_Md_book_104 : decode prog_14_method_55_code 104 = .ok (.getfield 13, 3) := by decide +kernel
theorem ad_Md_book_107 : decode prog_14_method_55_code 107 = .ok (.sipush 341, 3) := by decide +kernel
theorem ad_Md_book_110 : decode prog_14_method_55_code 110 = .ok (.aload_n 0, 1) := by decide +kernel
theorem ad_Md_book_111 : decode prog_14_method_55_code 111 = .ok (.getfield 279, 3) := by decide +kernel
theorem ad_Md_book_114 : decode prog_14_method_55_code 114 = .ok (.iastore, 1) := by decide +kernel
theorem ad_Md_book_115 : decode prog_14_method_55_code 115 = .ok (.aload_n 0, 1) := by decide +kernel
theorem ad_Md_book_116 : decode prog_14_method_55_code 116 = .ok (.getfield 279, 3) := by decide +kernel
theorem ad_Md_book_119 : decode prog_14_method_55_code 119 = .ok (.ireturn, 1) := by decide +kernel
theorem ad_Md_bond_0 : decode prog_14_method_56_code 0 = .ok (.bipush 6, 2) := by decide +kernel
theorem ad_Md_bond_2 : decode prog_14_method_56_code 2 = .ok (.bipush 8, 2) := by decide +kernel
theorem ad_Md_bond_4 : decode prog_14_method_56_code 4 = .ok (.iload_n 0, 1) := by decide +kernel
theorem ad_Md_bond_5 : decode prog_14_method_56_code 5 = .ok (.imul, 1) := by decide +kernel
theorem ad_Md_bond_6 : decode prog_14_method_56_code 6 = .ok (.iload_n 1, 1) := by decide +kernel
theorem ad_Md_bond_7 : decode prog_14_method_56_code 7 = .ok (.iadd, 1) := by decide +kernel
theorem ad_Md_bond_8 : decode prog_14_method_56_code 8 = .ok (.imul, 1) := by decide +kernel
theorem ad_Md_bond_9 : decode prog_14_method_56_code 9 = .ok (.iload_n 2, 1) := by decide +kernel
theorem ad_Md_bond_10 : decode prog_14_method_56_code 10 = .ok (.iadd, 1) := by decide +kernel
theorem ad_Md_bond_11 : decode prog_14_method_56_code 11 = .ok (.ireturn, 1) := by decide +kernel
theorem ad_Md_endYear_0 : decode prog_14_method_57_code 0 = .ok (.iconst 0, 1) := by decide +kernel
theorem ad_Md_endYear_1 : decode prog_14_method_57_code 1 = .ok (.istore_n 1, 1) := by decide +kernel
theorem ad_Md_endYear_2 : decode prog_14_method_57_code 2 = .ok (.iload_n 1, 1) := by decide +kernel
theorem ad_Md_endYear_3 : decode prog_14_method_57_code 3 = .ok (.aload_n 0, 1) := by decide +kernel
theorem ad_Md_endYear_4 : decode prog_14_method_57_code 4 = .ok (.invokevirtual 201, 3) := by decide +kernel
theorem ad_Md_endYear_7 : decode prog_14_method_57_code 7 = .ok (.if_icmp .ge 148, 3) := by decide +kernel
theorem ad_Md_endYear_10 : decode prog_14_method_57_code 10 = .ok (.iconst 0, 1) := by decide +kernel
theorem ad_Md_endYear_11 : decode prog_14_method_57_code 11 = .ok (.istore_n 2, 1) := by decide +kernel
theorem ad_Md_endYear_12 : decode prog_14_method_57_code 12 = .ok (.iload_n 2, 1) := by decide +kernel
theorem ad_Md_endYear_13 : decode prog_14_method_57_code 13 = .ok (.aload_n 0, 1) := by decide +kernel
theorem ad_Md_endYear_14 : decode prog_14_method_57_code 14 = .ok (.invokevirtual 201, 3) := by decide +kernel
theorem ad_Md_endYear_17 : decode prog_14_method_57_code 17 = .ok (.if_icmp .ge 132, 3) := by decide +kernel
theorem ad_Md_endYear_20 : decode prog_14_method_57_code 20 = .ok (.iconst 0, 1) := by decide +kernel
theorem ad_Md_endYear_21 : decode prog_14_method_57_code 21 = .ok (.istore_n 3, 1) := by decide +kernel
theorem ad_Md_endYear_22 : decode prog_14_method_57_code 22 = .ok (.iload_n 3, 1) := by decide +kernel
theorem ad_Md_endYear_23 : decode prog_14_method_57_code 23 = .ok (.aload_n 0, 1) := by decide +kernel
theorem ad_Md_endYear_24 : decode prog_14_method_57_code 24 = .ok (.invokevirtual 198, 3) := by decide +kernel
theorem ad_Md_endYear_27 : decode prog_14_method_57_code 27 = .ok (.if_icmp .ge 116, 3) := by decide +kernel
theorem ad_Md_endYear_30 : decode prog_14_method_57_code 30 = .ok (.iload_n 1, 1) := by decide +kernel
theorem ad_Md_endYear_31 : decode prog_14_method_57_code 31 = .ok (.iload_n 2, 1) := by decide +kernel
theorem ad_Md_endYear_32 : decode prog_14_method_57_code 32 = .ok (.iload_n 3, 1) := by decide +kernel
theorem ad_Md_endYear_33 : decode prog_14_method_57_code 33 = .ok (.invokestatic 288, 3) := by decide +kernel
theorem ad_Md_endYear_36 : decode prog_14_method_57_code 36 = .ok (.istore 4, 2) := by decide +kernel
theorem ad_Md_endYear_38 : decode prog_14_method_57_code 38 = .ok (.aload_n 0, 1) := by decide +kernel
theorem ad_Md_endYear_39 : decode prog_14_method_57_code 39 = .ok (.getfield 60, 3) := by decide +kernel
theorem ad_Md_endYear_42 : decode prog_14_method_57_code 42 = .ok (.iload 4, 2) := by decide +kernel
theorem ad_Md_endYear_44 : decode prog_14_method_57_code 44 = .ok (.baload, 1) := by decide +kernel
theorem ad_Md_endYear_45 : decode prog_14_method_57_code 45 = .ok (.ifCond .ne 31, 3) := by decide +kernel
theorem ad_Md_endYear_48 : decode prog_14_method_57_code 48 = .ok (.aload_n 0, 1) := by decide +kernel
theorem ad_Md_endYear_49 : decode prog_14_method_57_code 49 = .ok (.getfield 39, 3) := by decide +kernel
theorem ad_Md_endYear_52 : decode prog_14_method_57_code 52 = .ok (.iload 4, 2) := by decide +kernel
theorem ad_Md_endYear_54 : decode prog_14_method_57_code 54 = .ok (.iaload, 1) := by decide +kernel
theorem ad_Md_endYear_55 : decode prog_14_method_57_code 55 = .ok (.aload_n 0, 1) := by decide +kernel
theorem ad_Md_endYear_56 : decode prog_14_method_57_code 56 = .ok (.getfield 292, 3) := by decide +kernel
theorem ad_Md_endYear_59 : decode prog_14_method_57_code 59 = .ok (.if_icmp .gt 21, 3) := by decide +kernel
theorem ad_Md_endYear_62 : decode prog_14_method_57_code 62 = .ok (.aload_n 0, 1) := by decide +kernel
theorem ad_Md_endYear_63 : decode prog_14_method_57_code 63 = .ok (.getfield 42, 3) := by decide +kernel
theorem ad_Md_endYear_66 : decode prog_14_method_57_code 66 = .ok (.iload 4, 2) := by decide +kernel
theorem ad_Md_endYear_68 : decode prog_14_method_57_code 68 = .ok (.iaload, 1) := by decide +kernel
theorem ad_Md_endYear_69 : decode prog_14_method_57_code 69 = .ok (.aload_n 0, 1) := by decide +kernel
theorem ad_Md_endYear_70 : decode prog_14_method_57_code 70 = .ok (.getfield 292, 3) := by decide +kernel
theorem ad_Md_endYear_73 : decode prog_14_method_57_code 73 = .ok (.if_icmp .lt 7, 3) := by decide +kernel
theorem ad_Md_endYear_76 : decode prog_14_method_57_code 76 = .ok (.iconst 1, 1) := by decide +kernel
theorem ad_Md_endYear_77 : decode prog_14_method_57_code 77 = .ok (.goto 4, 3) := by decide +kernel
theorem ad_Md_endYear_80 : decode prog_14_method_57_code 80 = .ok (.iconst 0, 1) := by decide +kernel
theorem ad_Md_endYear_81 : decode prog_14_method_57_code 81 = .ok (.istore 5, 2) := by decide +kernel
theorem ad_Md_endYear_83 : decode prog_14_method_57_code 83 = .ok (.aload_n 0, 1) := by decide +kernel
theorem ad_Md_endYear_84 : decode prog_14_method_57_code 84 = .ok (.getfield 60, 3) := by decide +kernel
theorem ad_Md_endYear_87 : decode prog_14_method_57_code 87 = .ok (.iload 4, 2) := by decide +kernel
theorem ad_Md_endYear_89 : decode prog_14_method_57_code 89 = .ok (.iconst 0, 1) := by decide +kernel
theorem ad_Md_endYear_90 : decode prog_14_method_57_code 90 = .ok (.bastore, 1) := by decide +kernel
theorem ad_Md_endYear_91 : decode prog_14_method_57_code 91 = .ok (.iload 5, 2) := by decide +kernel
theorem ad_Md_endYear_93 : decode prog_14_method_57_code 93 = .ok (.ifCond .eq 44, 3) := by decide +kernel
theorem ad_Md_endYear_96 : decode prog_14_method_57_code 96 = .ok (.aload_n 0, 1) := by decide +kernel
theorem ad_Md_endYear_97 : decode prog_14_method_57_code 97 = .ok (.getfield 45, 3) := by decide +kernel
theorem ad_Md_endYear_100 : decode prog_14_method_57_code 100 = .ok (.bipush 6, 2) := by decide +kernel
theorem ad_Md_endYear_102 : decode prog_14_method_57_code 102 = .ok (.iload_n 2, 1) := by decide +kernel
theorem ad_Md_endYear_103 : decode prog_14_method_57_code 103 = .ok (.imul, 1) := by decide +kernel
theorem ad_Md_endYear_104 : decode prog_14_method_57_code 104 = .ok (.iload_n 3, 1) := by decide +kernel
theorem ad_Md_endYear_105 : decode prog_14_method_57_code 105 = .ok (.iadd, 1) := by decide +kernel
theorem ad_Md_endYear_106 : decode prog_14_method_57_code 106 = .ok (.iaload, 1) := by decide +kernel
theorem ad_Md_endYear_107 : decode prog_14_method_57_code 107 = .ok (.iload_n 1, 1) := by decide +kernel
theorem ad_Md_endYear_108 : decode prog_14_method_57_code 108 = .ok (.invokestatic 224, 3) := by decide +kernel
theorem ad_Md_endYear_111 : decode prog_14_method_57_code 111 = .ok (.ifCond .eq 6, 3) := by decide +kernel
theorem ad_Md_endYear_114 : decode prog_14_method_57_code 114 = .ok (.goto 23, 3) := by decide +kernel
theorem ad_Md_endYear_117 : decode prog_14_method_57_code 117 = .ok (.aload_n 0, 1) := by decide +kernel
theorem ad_Md_endYear_118 : decode prog_14_method_57_code 118 = .ok (.getfield 54, 3) := by decide +kernel
theorem ad_Md_endYear_121 : decode prog_14_method_57_code 121 = .ok (.iload_n 1, 1) := by decide +kernel
theorem ad_Md_endYear_122 : decode prog_14_method_57_code 122 = .ok (.dup2, 1) := by decide +kernel
theorem ad_Md_endYear_123 : decode prog_14_method_57_code 123 = .ok (.iaload, 1) := by decide +kernel
theorem ad_Md_endYear_124 : decode prog_14_method_57_code 124 = .ok (.iconst 1, 1) := by decide +kernel
theorem ad_Md_endYear_125 : decode prog_14_method_57_code 125 = .ok (.iadd, 1) := by decide +kernel
theorem ad_Md_endYear_126 : decode prog_14_method_57_code 126 = .ok (.iastore, 1) := by decide +kernel
theorem ad_Md_endYear_127 : decode prog_14_method_57_code 127 = .ok (.aload_n 0, 1) := by decide +kernel
theorem ad_Md_endYear_128 : decode prog_14_method_57_code 128 = .ok (.dup, 1) := by decide +kernel
theorem ad_Md_endYear_129 : decode prog_14_method_57_code 129 = .ok (.getfield 295, 3) := by decide +kernel
theorem ad_Md_endYear_132 : decode prog_14_method_57_code 132 = .ok (.iconst 1, 1) := by decide +kernel
theorem ad_Md_endYear_133 : decode prog_14_method_57_code 133 = .ok (.iadd, 1) := by decide +kernel
theorem ad_Md_endYear_134 : decode prog_14_method_57_code 134 = .ok (.putfield 295, 3) := by decide +kernel
theorem ad_Md_endYear_137 : decode prog_14_method_57_code 137 = .ok (.iinc 3 1, 3) := by decide +kernel
theorem ad_Md_endYear_140 : decode prog_14_method_57_code 140 = .ok (.goto (-118), 3) := by decide +kernel
theorem ad_Md_endYear_143 : decode prog_14_method_57_code 143 = .ok (.iinc 2 1, 3) := by decide +kernel
theorem ad_Md_endYear_146 : decode prog_14_method_57_code 146 = .ok (.goto (-134), 3) := by decide +kernel
theorem ad_Md_endYear_149 : decode prog_14_method_57_code 149 = .ok (.iinc 1 1, 3) := by decide +kernel
theorem ad_Md_endYear_152 : decode prog_14_method_57_code 152 = .ok (.goto (-150), 3) := by decide +kernel
theorem ad_Md_endYear_155 : decode prog_14_method_57_code 155 = .ok (.iconst 0, 1) := by decide +kernel
theorem ad_Md_endYear_156 : decode prog_14_method_57_code 156 = .ok (.istore_n 1, 1) := by decide +kernel
theorem ad_Md_endYear_157 : decode prog_14_method_57_code 157 = .ok (.iload_n 1, 1) := by decide +kernel
theorem ad_Md_endYear_158 : decode prog_14_method_57_code 158 = .ok (.bipush 48, 2) := by decide +kernel
theorem ad_Md_endYear_160 : decode prog_14_method_57_code 160 = .ok (.if_icmp .ge 16, 3) := by decide +kernel
theorem ad_Md_endYear_163 : decode prog_14_method_57_code 163 = .ok (.aload_n 0, 1) := by decide +kernel
theorem ad_Md_endYear_164 : decode prog_14_method_57_code 164 = .ok (.getfield 45, 3) := by decide +kernel
theorem ad_Md_endYear_167 : decode prog_14_method_57_code 167 = .ok (.iload_n 1, 1) := by decide +kernel
theorem ad_Md_endYear_168 : decode prog_14_method_57_code 168 = .ok (.iconst 0, 1) := by decide +kernel
theorem ad_Md_endYear_169 : decode prog_14_method_57_code 169 = .ok (.iastore, 1) := by decide +kernel
theorem ad_Md_endYear_170 : decode prog_14_method_57_code 170 = .ok (.iinc 1 1, 3) := by decide +kernel
theorem ad_Md_endYear_173 : decode prog_14_method_57_code 173 = .ok (.goto (-16), 3) := by decide +kernel
theorem ad_Md_endYear_176 : decode prog_14_method_57_code 176 = .ok (.aload_n 0, 1) := by decide +kernel
theorem ad_Md_endYear_177 : decode prog_14_method_57_code 177 = .ok (.dup, 1) := by decide +kernel
theorem ad_Md_endYear_178 : decode prog_14_method_57_code 178 = .ok (.getfield 292, 3) := by decide +kernel
theorem ad_Md_endYear_181 : decode prog_14_method_57_code 181 = .ok (.iconst 1, 1) := by decide +kernel
theorem ad_Md_endYear_182 : decode prog_14_method_57_code 182 = .ok (.iadd, 1) := by decide +kernel
theorem ad_Md_endYear_183 : decode prog_14_method_57_code 183 = .ok (.putfield 292, 3) := by decide +kernel
theorem ad_Md_endYear_186 : decode prog_14_method_57_code 186 = .ok (.return_, 1) := by decide +kernel
theorem ad_Md_bondsOf_0 : decode prog_14_method_58_code 0 = .ok (.iconst 0, 1) := by decide +kernel
theorem ad_Md_bondsOf_1 : decode prog_14_method_58_code 1 = .ok (.istore_n 3, 1) := by decide +kernel
theorem ad_Md_bondsOf_2 : decode prog_14_method_58_code 2 = .ok (.iconst 0, 1) := by decide +kernel
theorem ad_Md_bondsOf_3 : decode prog_14_method_58_code 3 = .ok (.istore 4, 2) := by decide +kernel
theorem ad_Md_bondsOf_5 : decode prog_14_method_58_code 5 = .ok (.iload 4, 2) := by decide +kernel
theorem ad_Md_bondsOf_7 : decode prog_14_method_58_code 7 = .ok (.aload_n 0, 1) := by decide +kernel
theorem ad_Md_bondsOf_8 : decode prog_14_method_58_code 8 = .ok (.invokevirtual 201, 3) := by decide +kernel
theorem ad_Md_bondsOf_11 : decode prog_14_method_58_code 11 = .ok (.if_icmp .ge 47, 3) := by decide +kernel
theorem ad_Md_bondsOf_14 : decode prog_14_method_58_code 14 = .ok (.iconst 0, 1) := by decide +kernel
theorem ad_Md_bondsOf_15 : decode prog_14_method_58_code 15 = .ok (.istore 5, 2) := by decide +kernel
theorem ad_Md_bondsOf_17 : decode prog_14_method_58_code 17 = .ok (.iload 5, 2) := by decide +kernel
theorem ad_Md_bondsOf_19 : decode prog_14_method_58_code 19 = .ok (.aload_n 0, 1) := by decide +kernel
theorem ad_Md_bondsOf_20 : decode prog_14_method_58_code 20 = .ok (.invokevirtual 198, 3) := by decide +kernel
theorem ad_Md_bondsOf_23 : decode prog_14_method_58_code 23 = .ok (.if_icmp .ge 29, 3) := by decide +kernel
theorem ad_Md_bondsOf_26 : decode prog_14_method_58_code 26 = .ok (.aload_n 0, 1) := by decide +kernel
theorem ad_Md_bondsOf_27 : decode prog_14_method_58_code 27 = .ok (.getfield 42, 3) := by decide +kernel
theorem ad_Md_bondsOf_30 : decode prog_14_method_58_code 30 = .ok (.iload_n 1, 1) := by decide +kernel
theorem ad_Md_bondsOf_31 : decode prog_14_method_58_code 31 = .ok (.iload 4, 2) := by decide +kernel
theorem ad_Md_bondsOf_33 : decode prog_14_method_58_code 33 = .ok (.iload 5, 2) := by decide +kernel
theorem ad_Md_bondsOf_35 : decode prog_14_method_58_code 35 = .ok (.invokestatic 288, 3) := by decide +kernel
theorem ad_Md_bondsOf_38 : decode prog_14_method_58_code 38 = .ok (.iaload, 1) := by decide +kernel
theorem ad_Md_bondsOf_39 : decode prog_14_method_58_code 39 = .ok (.iload_n 2, 1) := by decide +kernel
theorem ad_Md_bondsOf_40 : decode prog_14_method_58_code 40 = .ok (.if_icmp .lt 6, 3) := by decide +kernel
theorem ad_Md_bondsOf_43 : decode prog_14_method_58_code 43 = .ok (.iinc 3 1, 3) := by decide +kernel
theorem ad_Md_bondsOf_46 : decode prog_14_method_58_code 46 = .ok (.iinc 5 1, 3) := by decide +kernel
theorem ad_Md_bondsOf_49 : decode prog_14_method_58_code 49 = .ok (.goto (-32), 3) := by decide +kernel
theorem ad_Md_bondsOf_52 : decode prog_14_method_58_code 52 = .ok (.iinc 4 1, 3) := by decide +kernel
theorem ad_Md_bondsOf_55 : decode prog_14_method_58_code 55 = .ok (.goto (-50), 3) := by decide +kernel
theorem ad_Md_bondsOf_58 : decode prog_14_method_58_code 58 = .ok (.iload_n 3, 1) := by decide +kernel
theorem ad_Md_bondsOf_59 : decode prog_14_method_58_code 59 = .ok (.ireturn, 1) := by decide +kernel
theorem ad_Md_doLine_0 : decode prog_14_method_59_code 0 = .ok (.bipush 6, 2) := by decide +kernel
theorem ad_Md_doLine_2 : decode prog_14_method_59_code 2 = .ok (.iload_n 3, 1) := by decide +kernel
theorem ad_Md_doLine_3 : decode prog_14_method_59_code 3 = .ok (.imul, 1) := by decide +kernel
theorem ad_Md_doLine_4 : decode prog_14_method_59_code 4 = .ok (.iload 4, 2) := by decide +kernel
theorem ad_Md_doLine_6 : decode prog_14_method_59_code 6 = .ok (.iadd, 1) := by decide +kernel
theorem ad_Md_doLine_7 : decode prog_14_method_59_code 7 = .ok (.istore 5, 2) := by decide +kernel
theorem ad_Md_doLine_9 : decode prog_14_method_59_code 9 = .ok (.iload_n 1, 1) := by decide +kernel
theorem ad_Md_doLine_10 : decode prog_14_method_59_code 10 = .ok (.iconst 3, 1) := by decide +kernel
theorem ad_Md_doLine_11 : decode prog_14_method_59_code 11 = .ok (.if_icmp .ge 115, 3) := by decide +kernel
theorem ad_Md_doLine_14 : decode prog_14_method_59_code 14 = .ok (.aload_n 0, 1) := by decide +kernel
theorem ad_Md_doLine_15 : decode prog_14_method_59_code 15 = .ok (.iload_n 2, 1) := by decide +kernel
theorem ad_Md_doLine_16 : decode prog_14_method_59_code 16 = .ok (.iload 4, 2) := by decide +kernel
theorem ad_Md_doLine_18 : decode prog_14_method_59_code 18 = .ok (.invokevirtual 257, 3) := by decide +kernel
theorem ad_Md_doLine_21 : decode prog_14_method_59_code 21 = .ok (.ifCond .ne 5, 3) := by decide +kernel
theorem ad_Md_doLine_24 : decode prog_14_method_59_code 24 = .ok (.iconst 1, 1) := by decide +kernel
theorem ad_Md_doLine_25 : decode prog_14_method_59_code 25 = .ok (.ireturn, 1) := by decide +kernel
theorem ad_Md_doLine_26 : decode prog_14_method_59_code 26 = .ok (.aload_n 0, 1) := by decide +kernel
theorem ad_Md_doLine_27 : decode prog_14_method_59_code 27 = .ok (.getfield 13, 3) := by decide +kernel
theorem ad_Md_doLine_30 : decode prog_14_method_59_code 30 = .ok (.bipush 85, 2) := by decide +kernel
theorem ad_Md_doLine_32 : decode prog_14_method_59_code 32 = .ok (.iload_n 3, 1) := by decide +kernel
theorem ad_Md_doLine_33 : decode prog_14_method_59_code 33 = .ok (.iadd, 1) := by decide +kernel
theorem ad_Md_doLine_34 : decode prog_14_method_59_code 34 = .ok (.iaload, 1) := by decide +kernel
theorem ad_Md_doLine_35 : decode prog_14_method_59_code 35 = .ok (.iload 4, 2) := by decide +kernel
theorem ad_Md_doLine_37 : decode prog_14_method_59_code 37 = .ok (.invokestatic 224, 3) := by decide +kernel
theorem ad_Md_doLine_40 : decode prog_14_method_59_code 40 = .ok (.ifCond .ne 5, 3) := by decide +kernel
theorem ad_Md_doLine_43 : decode prog_14_method_59_code 43 = .ok (.iconst 2, 1) := by decide +kernel
theorem ad_Md_doLine_44 : decode prog_14_method_59_code 44 = .ok (.ireturn, 1) := by decide +kernel
theorem ad_Md_doLine_45 : decode prog_14_method_59_code 45 = .ok (.aload_n 0, 1) := by decide +kernel
theorem ad_Md_doLine_46 : decode prog_14_method_59_code 46 = .ok (.getfield 45, 3) := by decide +kernel
theorem ad_Md_doLine_49 : decode prog_14_method_59_code 49 = .ok (.iload 5, 2) := by decide +kernel
theorem ad_Md_doLine_51 : decode prog_14_method_59_code 51 = .ok (.iaload, 1) := by decide +kernel
theorem ad_Md_doLine_52 : decode prog_14_method_59_code 52 = .ok (.ifCond .eq 5, 3) := by decide +kernel
theorem ad_Md_doLine_55 : decode prog_14_method_59_code 55 = .ok (.iconst 3, 1) := by decide +kernel
theorem ad_Md_doLine_56 : decode prog_14_method_59_code 56 = .ok (.ireturn, 1) := by decide +kernel
theorem ad_Md_doLine_57 : decode prog_14_method_59_code 57 = .ok (.aload_n 0, 1) := by decide +kernel
theorem ad_Md_doLine_58 : decode prog_14_method_59_code 58 = .ok (.getfield 45, 3) := by decide +kernel
theorem ad_Md_doLine_61 : decode prog_14_method_59_code 61 = .ok (.iload 5, 2) := by decide +kernel
theorem ad_Md_doLine_63 : decode prog_14_method_59_code 63 = .ok (.iconst 1, 1) := by decide +kernel
theorem ad_Md_doLine_64 : decode prog_14_method_59_code 64 = .ok (.iload_n 2, 1) := by decide +kernel
theorem ad_Md_doLine_65 : decode prog_14_method_59_code 65 = .ok (.ishl, 1) := by decide +kernel
theorem ad_Md_doLine_66 : decode prog_14_method_59_code 66 = .ok (.iastore, 1) := by decide +kernel
theorem ad_Md_doLine_67 : decode prog_14_method_59_code 67 = .ok (.aload_n 0, 1) := by decide +kernel
theorem ad_Md_doLine_68 : decode prog_14_method_59_code 68 = .ok (.getfield 51, 3) := by decide +kernel
theorem ad_Md_doLine_71 : decode prog_14_method_59_code 71 = .ok (.iload_n 2, 1) := by decide +kernel
theorem ad_Md_doLine_72 : decode prog_14_method_59_code 72 = .ok (.dup2, 1) := by decide +kernel
theorem ad_Md_doLine_73 : decode prog_14_method_59_code 73 = .ok (.iaload, 1) := by decide +kernel
theorem ad_Md_doLine_74 : decode prog_14_method_59_code 74 = .ok (.iconst 1, 1) := by decide +kernel
theorem ad_Md_doLine_75 : decode prog_14_method_59_code 75 = .ok (.iadd, 1) := by decide +kernel
theorem ad_Md_doLine_76 : decode prog_14_method_59_code 76 = .ok (.iastore, 1) := by decide +kernel
theorem ad_Md_doLine_77 : decode prog_14_method_59_code 77 = .ok (.aload_n 0, 1) := by decide +kernel
theorem ad_Md_doLine_78 : decode prog_14_method_59_code 78 = .ok (.getfield 48, 3) := by decide +kernel
theorem ad_Md_doLine_81 : decode prog_14_method_59_code 81 = .ok (.iload_n 2, 1) := by decide +kernel
theorem ad_Md_doLine_82 : decode prog_14_method_59_code 82 = .ok (.dup2, 1) := by decide +kernel
theorem ad_Md_doLine_83 : decode prog_14_method_59_code 83 = .ok (.iaload, 1) := by decide +kernel
theorem ad_Md_doLine_84 : decode prog_14_method_59_code 84 = .ok (.aload_n 0, 1) := by decide +kernel
theorem ad_Md_doLine_85 : decode prog_14_method_59_code 85 = .ok (.iload_n 2, 1) := by decide +kernel
theorem ad_Md_doLine_86 : decode prog_14_method_59_code 86 = .ok (.iload 4, 2) := by decide +kernel
theorem ad_Md_doLine_88 : decode prog_14_method_59_code 88 = .ok (.invokevirtual 257, 3) := by decide +kernel
theorem ad_Md_doLine_91 : decode prog_14_method_59_code 91 = .ok (.iload_n 1, 1) := by decide +kernel
theorem ad_Md_doLine_92 : decode prog_14_method_59_code 92 = .ok (.iconst 2, 1) := by decide +kernel
theorem ad_Md_doLine_93 : decode prog_14_method_59_code 93 = .ok (.if_icmp .ne 12, 3) := by decide +kernel
theorem ad_Md_doLine_96 : decode prog_14_method_59_code 96 = .ok (.aload_n 0, 1) := by decide +kernel
theorem ad_Md_doLine_97 : decode prog_14_method_59_code 97 = .ok (.iload 4, 2) := by decide +kernel
theorem ad_Md_doLine_99 : decode prog_14_method_59_code 99 = .ok (.invokevirtual 298, 3) := by decide +kernel
theorem ad_Md_doLine_102 : decode prog_14_method_59_code 102 = .ok (.goto 4, 3) := by decide +kernel
theorem ad_Md_doLine_105 : decode prog_14_method_59_code 105 = .ok (.iconst 0, 1) := by decide +kernel
theorem ad_Md_doLine_106 : decode prog_14_method_59_code 106 = .ok (.iadd, 1) := by decide +kernel
theorem ad_Md_doLine_107 : decode prog_14_method_59_code 107 = .ok (.isub, 1) := by decide +kernel
theorem ad_Md_doLine_108 : decode prog_14_method_59_code 108 = .ok (.iastore, 1) := by decide +kernel
theorem ad_Md_doLine_109 : decode prog_14_method_59_code 109 = .ok (.aload_n 0, 1) := by decide +kernel
theorem ad_Md_doLine_110 : decode prog_14_method_59_code 110 = .ok (.getfield 48, 3) := by decide +kernel
theorem ad_Md_doLine_113 : decode prog_14_method_59_code 113 = .ok (.iload_n 3, 1) := by decide +kernel
theorem ad_Md_doLine_114 : decode prog_14_method_59_code 114 = .ok (.dup2, 1) := by decide +kernel
theorem ad_Md_doLine_115 : decode prog_14_method_59_code 115 = .ok (.iaload, 1) := by decide +kernel
theorem ad_Md_doLine_116 : decode prog_14_method_59_code 116 = .ok (.aload_n 0, 1) := by decide +kernel
theorem ad_Md_doLine_117 : decode prog_14_method_59_code 117 = .ok (.iload 4, 2) := by decide +kernel
theorem ad_Md_doLine_119 : decode prog_14_method_59_code 119 = .ok (.invokevirtual 301, 3) := by decide +kernel
theorem ad_Md_doLine_122 : decode prog_14_method_59_code 122 = .ok (.iadd, 1) := by decide +kernel
theorem ad_Md_doLine_123 : decode prog_14_method_59_code 123 = .ok (.iastore, 1) := by decide +kernel
theorem ad_Md_doLine_124 : decode prog_14_method_59_code 124 = .ok (.iconst 0, 1) := by decide +kernel
theorem ad_Md_doLine_125 : decode prog_14_method_59_code 125 = .ok (.ireturn, 1) := by decide +kernel
theorem ad_Md_doLine_126 : decode prog_14_method_59_code 126 = .ok (.iload_n 1, 1) := by decide +kernel
theorem ad_Md_doLine_127 : decode prog_14_method_59_code 127 = .ok (.iconst 3, 1) := by decide +kernel
theorem ad_Md_doLine_128 : decode prog_14_method_59_code 128 = .ok (.if_icmp .ne 203, 3) := by decide +kernel
theorem ad_Md_doLine_131 : decode prog_14_method_59_code 131 = .ok (.aload_n 0, 1) := by decide +kernel
theorem ad_Md_doLine_132 : decode prog_14_method_59_code 132 = .ok (.getfield 45, 3) := by decide +kernel
theorem ad_Md_doLine_135 : decode prog_14_method_59_code 135 = .ok (.bipush 6, 2) := by decide +kernel
theorem ad_Md_doLine_137 : decode prog_14_method_59_code 137 = .ok (.iload_n 2, 1) := by decide +kernel
theorem ad_Md_doLine_138 : decode prog_14_method_59_code 138 = .ok (.imul, 1) := by decide +kernel
theorem ad_Md_doLine_139 : decode prog_14_method_59_code 139 = .ok (.iload 4, 2) := by decide +kernel
theorem ad_Md_doLine_141 : decode prog_14_method_59_code 141 = .ok (.iadd, 1) := by decide +kernel
theorem ad_Md_doLine_142 : decode prog_14_method_59_code 142 = .ok (.iaload, 1) := by decide +kernel
theorem ad_Md_doLine_143 : decode prog_14_method_59_code 143 = .ok (.ifCond .ne 5, 3) := by decide +kernel
theorem ad_Md_doLine_146 : decode prog_14_method_59_code 146 = .ok (.iconst 4, 1) := by decide +kernel
theorem ad_Md_doLine_147 : decode prog_14_method_59_code 147 = .ok (.ireturn, 1) := by decide +kernel
theorem ad_Md_doLine_148 : decode prog_14_method_59_code 148 = .ok (.aload_n 0, 1) := by decide +kernel
theorem ad_Md_doLine_149 : decode prog_14_method_59_code 149 = .ok (.iload_n 3, 1) := by decide +kernel
theorem ad_Md_doLine_150 : decode prog_14_method_59_code 150 = .ok (.iload 4, 2) := by decide +kernel
theorem ad_Md_doLine_152 : decode prog_14_method_59_code 152 = .ok (.invokevirtual 257, 3) := by decide +kernel
theorem ad_Md_doLine_155 : decode prog_14_method_59_code 155 = .ok (.ifCond .ne 5, 3) := by decide +kernel
theorem ad_Md_doLine_158 : decode prog_14_method_59_code 158 = .ok (.iconst 5, 1) := by decide +kernel
theorem ad_Md_doLine_159 : decode prog_14_method_59_code 159 = .ok (.ireturn, 1) := by decide +kernel
theorem ad_Md_doLine_160 : decode prog_14_method_59_code 160 = .ok (.iload_n 3, 1) := by decide +kernel
theorem ad_Md_doLine_161 : decode prog_14_method_59_code 161 = .ok (.iload_n 2, 1) := by decide +kernel
theorem ad_Md_doLine_162 : decode prog_14_method_59_code 162 = .ok (.iload 4, 2) := by decide +kernel
theorem ad_Md_doLine_164 : decode prog_14_method_59_code 164 = .ok (.invokestatic 288, 3) := by decide +kernel
theorem ad_Md_doLine_167 : decode prog_14_method_59_code 167 = .ok (.istore 6, 2) := by decide +kernel
theorem ad_Md_doLine_169 : decode prog_14_method_59_code 169 = .ok (.aload_n 0, 1) := by decide +kernel
theorem ad_Md_doLine_170 : decode prog_14_method_59_code 170 = .ok (.getfield 42, 3) := by decide +kernel
theorem ad_Md_doLine_173 : decode prog_14_method_59_code 173 = .ok (.iload 6, 2) := by decide +kernel
theorem ad_Md_doLine_175 : decode prog_14_method_59_code 175 = .ok (.iaload, 1) := by decide +kernel
theorem ad_Md_doLine_176 : decode prog_14_method_59_code 176 = .ok (.aload_n 0, 1) := by decide +kernel
theorem ad_Md_doLine_177 : decode prog_14_method_59_code 177 = .ok (.getfield 292, 3) := by decide +kernel
theorem ad_Md_doLine_180 : decode prog_14_method_59_code 180 = .ok (.if_icmp .ge 27, 3) := by decide +kernel
theorem ad_Md_doLine_183 : decode prog_14_method_59_code 183 = .ok (.aload_n 0, 1) := by decide +kernel
theorem ad_Md_doLine_184 : decode prog_14_method_59_code 184 = .ok (.iload_n 3, 1) := by decide +kernel
theorem ad_Md_doLine_185 : decode prog_14_method_59_code 185 = .ok (.aload_n 0, 1) := by decide +kernel
theorem ad_Md_doLine_186 : decode prog_14_method_59_code 186 = .ok (.getfield 292, 3) := by decide +kernel
theorem ad_Md_doLine_189 : decode prog_14_method_59_code 189 = .ok (.invokevirtual 304, 3) := by decide +kernel
theorem ad_Md_doLine_192 : decode prog_14_method_59_code 192 = .ok (.aload_n 0, 1) := by decide +kernel
theorem ad_Md_doLine_193 : decode prog_14_method_59_code 193 = .ok (.getfield 13, 3) := by decide +kernel
theorem ad_Md_doLine_196 : decode prog_14_method_59_code 196 = .ok (.bipush 25, 2) := by decide +kernel
theorem ad_Md_doLine_198 : decode prog_14_method_59_code 198 = .ok (.iload_n 3, 1) := by decide +kernel
theorem ad_Md_doLine_199 : decode prog_14_method_59_code 199 = .ok (.iadd, 1) := by decide +kernel
theorem ad_Md_doLine_200 : decode prog_14_method_59_code 200 = .ok (.iaload, 1) := by decide +kernel
theorem ad_Md_doLine_201 : decode prog_14_method_59_code 201 = .ok (.if_icmp .lt 6, 3) := by decide +kernel
theorem ad_Md_doLine_204 : decode prog_14_method_59_code 204 = .ok (.bipush 7, 2) := by decide +kernel
theorem ad_Md_doLine_206 : decode prog_14_method_59_code 206 = .ok (.ireturn, 1) := by decide +kernel
theorem ad_Md_doLine_207 : decode prog_14_method_59_code 207 = .ok (.aload_n 0, 1) := by decide +kernel
theorem ad_Md_doLine_208 : decode prog_14_method_59_code 208 = .ok (.getfield 45, 3) := by decide +kernel
theorem ad_Md_doLine_211 : decode prog_14_method_59_code 211 = .ok (.bipush 6, 2) := by decide +kernel
theorem ad_Md_doLine_213 : decode prog_14_method_59_code 213 = .ok (.iload_n 2, 1) := by decide +kernel
theorem ad_Md_doLine_214 : decode prog_14_method_59_code 214 = .ok (.imul, 1) := by decide +kernel
theorem ad_Md_doLine_215 : decode prog_14_method_59_code 215 = .ok (.iload 4, 2) := by decide +kernel
theorem ad_Md_doLine_217 : decode prog_14_method_59_code 217 = .ok (.iadd, 1) := by decide +kernel
theorem ad_Md_doLine_218 : decode prog_14_method_59_code 218 = .ok (.iaload, 1) := by decide +kernel
theorem ad_Md_doLine_219 : decode prog_14_method_59_code 219 = .ok (.iload_n 3, 1) := by decide +kernel
theorem ad_Md_doLine_220 : decode prog_14_method_59_code 220 = .ok (.invokestatic 224, 3) := by decide +kernel
theorem ad_Md_doLine_223 : decode prog_14_method_59_code 223 = .ok (.ifCond .ne 13, 3) := by decide +kernel
theorem ad_Md_doLine_226 : decode prog_14_method_59_code 226 = .ok (.aload_n 0, 1) := by decide +kernel
theorem ad_Md_doLine_227 : decode prog_14_method_59_code 227 = .ok (.dup, 1) := by decide +kernel
theorem ad_Md_doLine_228 : decode prog_14_method_59_code 228 = .ok (.getfield 307, 3) := by decide +kernel
theorem ad_Md_doLine_231 : decode prog_14_method_59_code 231 = .ok (.iconst 1, 1) := by decide +kernel
theorem ad_Md_doLine_232 : decode prog_14_method_59_code 232 = .ok (.iadd, 1) := by decide +kernel
theorem ad_Md_doLine_233 : decode prog_14_method_59_code 233 = .ok (.putfield 307, 3) := by decide +kernel
theorem ad_Md_doLine_236 : decode prog_14_method_59_code 236 = .ok (.aload_n 0, 1) := by decide +kernel
theorem ad_Md_doLine_237 : decode prog_14_method_59_code 237 = .ok (.getfield 60, 3) := by decide +kernel
theorem ad_Md_doLine_240 : decode prog_14_method_59_code 240 = .ok (.iload 6, 2) := by decide +kernel
theorem ad_Md_doLine_242 : decode prog_14_method_59_code 242 = .ok (.aload_n 0, 1) := by decide +kernel
theorem ad_Md_doLine_243 : decode prog_14_method_59_code 243 = .ok (.getfield 60, 3) := by decide +kernel
theorem ad_Md_doLine_246 : decode prog_14_method_59_code 246 = .ok (.iload 6, 2) := by decide +kernel
theorem ad_Md_doLine_248 : decode prog_14_method_59_code 248 = .ok (.baload, 1) := by decide +kernel
theorem ad_Md_doLine_249 : decode prog_14_method_59_code 249 = .ok (.ifCond .ne 31, 3) := by decide +kernel
theorem ad_Md_doLine_252 : decode prog_14_method_59_code 252 = .ok (.aload_n 0, 1) := by decide +kernel
theorem ad_Md_doLine_253 : decode prog_14_method_59_code 253 = .ok (.getfield 39, 3) := by decide +kernel
theorem ad_Md_doLine_256 : decode prog_14_method_59_code 256 = .ok (.iload 6, 2) := by decide +kernel
theorem ad_Md_doLine_258 : decode prog_14_method_59_code 258 = .ok (.iaload, 1) := by decide +kernel
theorem ad_Md_doLine_259 : decode prog_14_method_59_code 259 = .ok (.aload_n 0, 1) := by decide +kernel
theorem ad_Md_doLine_260 : decode prog_14_method_59_code 260 = .ok (.getfield 292, 3) := by decide +kernel
theorem ad_Md_doLine_263 : decode prog_14_method_59_code 263 = .ok (.if_icmp .gt 21, 3) := by decide +kernel
theorem ad_Md_doLine_266 : decode prog_14_method_59_code 266 = .ok (.aload_n 0, 1) := by decide +kernel
theorem ad_Md_doLine_267 : decode prog_14_method_59_code 267 = .ok (.getfield 42, 3) := by decide +kernel
theorem ad_Md_doLine_270 : decode prog_14_method_59_code 270 = .ok (.iload 6, 2) := by decide +kernel
theorem ad_Md_doLine_272 : decode prog_14_method_59_code 272 = .ok (.iaload, 1) := by decide +kernel
theorem ad_Md_doLine_273 : decode prog_14_method_59_code 273 = .ok (.aload_n 0, 1) := by decide +kernel
theorem ad_Md_doLine_274 : decode prog_14_method_59_code 274 = .ok (.getfield 292, 3) := by decide +kernel
theorem ad_Md_doLine_277 : decode prog_14_method_59_code 277 = .ok (.if_icmp .lt 7, 3) := by decide +kernel
theorem ad_Md_doLine_280 : decode prog_14_method_59_code 280 = .ok (.iconst 1, 1) := by decide +kernel
theorem ad_Md_doLine_281 : decode prog_14_method_59_code 281 = .ok (.goto 4, 3) := by decide +kernel
theorem ad_Md_doLine_284 : decode prog_14_method_59_code 284 = .ok (.iconst 0, 1) := by decide +kernel
theorem ad_Md_doLine_285 : decode prog_14_method_59_code 285 = .ok (.bastore, 1) := by decide +kernel
theorem ad_Md_doLine_286 : decode prog_14_method_59_code 286 = .ok (.aload_n 0, 1) := by decide +kernel
theorem ad_Md_doLine_287 : decode prog_14_method_59_code 287 = .ok (.getfield 39, 3) := by decide +kernel
theorem ad_Md_doLine_290 : decode prog_14_method_59_code 290 = .ok (.iload 6, 2) := by decide +kernel
theorem ad_Md_doLine_292 : decode prog_14_method_59_code 292 = .ok (.aload_n 0, 1) := by decide +kernel
theorem ad_Md_doLine_293 : decode prog_14_method_59_code 293 = .ok (.getfield 292, 3) := by decide +kernel
theorem ad_Md_doLine_296 : decode prog_14_method_59_code 296 = .ok (.iconst 1, 1) := by decide +kernel
theorem ad_Md_doLine_297 : decode prog_14_method_59_code 297 = .ok (.iadd, 1) := by decide +kernel
theorem ad_Md_doLine_298 : decode prog_14_method_59_code 298 = .ok (.iastore, 1) := by decide +kernel
theorem ad_Md_doLine_299 : decode prog_14_method_59_code 299 = .ok (.aload_n 0, 1) := by decide +kernel
theorem ad_Md_doLine_300 : decode prog_14_method_59_code 300 = .ok (.getfield 42, 3) := by decide +kernel
theorem ad_Md_doLine_303 : decode prog_14_method_59_code 303 = .ok (.iload 6, 2) := by decide +kernel
theorem ad_Md_doLine_305 : decode prog_14_method_59_code 305 = .ok (.aload_n 0, 1) := by decide +kernel
theorem ad_Md_doLine_306 : decode prog_14_method_59_code 306 = .ok (.getfield 292, 3) := by decide +kernel
theorem ad_Md_doLine_309 : decode prog_14_method_59_code 309 = .ok (.aload_n 0, 1) := by decide +kernel
theorem ad_Md_doLine_310 : decode prog_14_method_59_code 310 = .ok (.getfield 13, 3) := by decide +kernel
theorem ad_Md_doLine_313 : decode prog_14_method_59_code 313 = .ok (.iconst 3, 1) := by decide +kernel
theorem ad_Md_doLine_314 : decode prog_14_method_59_code 314 = .ok (.iaload, 1) := by decide +kernel
theorem ad_Md_doLine_315 : decode prog_14_method_59_code 315 = .ok (.iadd, 1) := by decide +kernel
theorem ad_Md_doLine_316 : decode prog_14_method_59_code 316 = .ok (.iastore, 1) := by decide +kernel
theorem ad_Md_doLine_317 : decode prog_14_method_59_code 317 = .ok (.aload_n 0, 1) := by decide +kernel
theorem ad_Md_doLine_318 : decode prog_14_method_59_code 318 = .ok (.dup, 1) := by decide +kernel
theorem ad_Md_doLine_319 : decode prog_14_method_59_code 319 = .ok (.getfield 310, 3) := by decide +kernel
theorem ad_Md_doLine_322 : decode prog_14_method_59_code 322 = .ok (.iconst 1, 1) := by decide +kernel
theorem ad_Md_doLine_323 : decode prog_14_method_59_code 323 = .ok (.iload_n 3, 1) := by decide +kernel
theorem ad_Md_doLine_324 : decode prog_14_method_59_code 324 = .ok (.ishl, 1) := by decide +kernel
theorem ad_Md_doLine_325 : decode prog_14_method_59_code 325 = .ok (.ior, 1) := by decide +kernel
theorem ad_Md_doLine_326 : decode prog_14_method_59_code 326 = .ok (.putfield 310, 3) := by decide +kernel
theorem ad_Md_doLine_329 : decode prog_14_method_59_code 329 = .ok (.iconst 0, 1) := by decide +kernel
theorem ad_Md_doLine_330 : decode prog_14_method_59_code 330 = .ok (.ireturn, 1) := by decide +kernel
theorem ad_Md_doLine_331 : decode prog_14_method_59_code 331 = .ok (.iload_n 2, 1) := by decide +kernel
theorem ad_Md_doLine_332 : decode prog_14_method_59_code 332 = .ok (.iload_n 3, 1) := by decide +kernel
theorem ad_Md_doLine_333 : decode prog_14_method_59_code 333 = .ok (.iload 4, 2) := by decide +kernel
theorem ad_Md_doLine_335 : decode prog_14_method_59_code 335 = .ok (.invokestatic 288, 3) := by decide +kernel
theorem ad_Md_doLine_338 : decode prog_14_method_59_code 338 = .ok (.istore 6, 2) := by decide +kernel
theorem ad_Md_doLine_340 : decode prog_14_method_59_code 340 = .ok (.aload_n 0, 1) := by decide +kernel
theorem ad_Md_doLine_341 : decode prog_14_method_59_code 341 = .ok (.getfield 42, 3) := by decide +kernel
theorem ad_Md_doLine_344 : decode prog_14_method_59_code 344 = .ok (.iload 6, 2) := by decide +kernel
theorem ad_Md_doLine_346 : decode prog_14_method_59_code 346 = .ok (.iaload, 1) := by decide +kernel
theorem ad_Md_doLine_347 : decode prog_14_method_59_code 347 = .ok (.aload_n 0, 1) := by decide +kernel
theorem ad_Md_doLine_348 : decode prog_14_method_59_code 348 = .ok (.getfield 292, 3) := by decide +kernel
theorem ad_Md_doLine_351 : decode prog_14_method_59_code 351 = .ok (.if_icmp .ge 6, 3) := by decide +kernel
theorem ad_Md_doLine_354 : decode prog_14_method_59_code 354 = .ok (.bipush 6, 2) := by decide +kernel
theorem ad_Md_doLine_356 : decode prog_14_method_59_code 356 = .ok (.ireturn, 1) := by decide +kernel
theorem ad_Md_doLine_357 : decode prog_14_method_59_code 357 = .ok (.aload_n 0, 1) := by decide +kernel
theorem ad_Md_doLine_358 : decode prog_14_method_59_code 358 = .ok (.getfield 42, 3) := by decide +kernel
theorem ad_Md_doLine_361 : decode prog_14_method_59_code 361 = .ok (.iload 6, 2) := by decide +kernel
theorem ad_Md_doLine_363 : decode prog_14_method_59_code 363 = .ok (.iconst (-1), 1) := by decide +kernel
theorem ad_Md_doLine_364 : decode prog_14_method_59_code 364 = .ok (.iastore, 1) := by decide +kernel
theorem ad_Md_doLine_365 : decode prog_14_method_59_code 365 = .ok (.aload_n 0, 1) := by decide +kernel
theorem ad_Md_doLine_366 : decode prog_14_method_59_code 366 = .ok (.getfield 39, 3) := by decide +kernel
theorem ad_Md_doLine_369 : decode prog_14_method_59_code 369 = .ok (.iload 6, 2) := by decide +kernel
theorem ad_Md_doLine_371 : decode prog_14_method_59_code 371 = .ok (.iconst 0, 1) := by decide +kernel
theorem ad_Md_doLine_372 : decode prog_14_method_59_code 372 = .ok (.iastore, 1) := by decide +kernel
theorem ad_Md_doLine_373 : decode prog_14_method_59_code 373 = .ok (.aload_n 0, 1) := by decide +kernel
theorem ad_Md_doLine_374 : decode prog_14_method_59_code 374 = .ok (.getfield 60, 3) := by decide +kernel
theorem ad_Md_doLine_377 : decode prog_14_method_59_code 377 = .ok (.iload 6, 2) := by decide +kernel
theorem ad_Md_doLine_379 : decode prog_14_method_59_code 379 = .ok (.iconst 0, 1) := by decide +kernel
theorem ad_Md_doLine_380 : decode prog_14_method_59_code 380 = .ok (.bastore, 1) := by decide +kernel
theorem ad_Md_doLine_381 : decode prog_14_method_59_code 381 = .ok (.aload_n 0, 1) := by decide +kernel
theorem ad_Md_doLine_382 : decode prog_14_method_59_code 382 = .ok (.getfield 48, 3) := by decide +kernel
theorem ad_Md_doLine_385 : decode prog_14_method_59_code 385 = .ok (.iload_n 2, 1) := by decide +kernel
theorem ad_Md_doLine_386 : decode prog_14_method_59_code 386 = .ok (.dup2, 1) := by decide +kernel
theorem ad_Md_doLine_387 : decode prog_14_method_59_code 387 = .ok (.iaload, 1) := by decide +kernel
theorem ad_Md_doLine_388 : decode prog_14_method_59_code 388 = .ok (.aload_n 0, 1) := by decide +kernel
theorem ad_Md_doLine_389 : decode prog_14_method_59_code 389 = .ok (.getfield 13, 3) := by decide +kernel
theorem ad_Md_doLine_392 : decode prog_14_method_59_code 392 = .ok (.iconst 4, 1) := by decide +kernel
theorem ad_Md_doLine_393 : decode prog_14_method_59_code 393 = .ok (.iaload, 1) := by decide +kernel
theorem ad_Md_doLine_394 : decode prog_14_method_59_code 394 = .ok (.isub, 1) := by decide +kernel
theorem ad_Md_doLine_395 : decode prog_14_method_59_code 395 = .ok (.iastore, 1) := by decide +kernel
theorem ad_Md_doLine_396 : decode prog_14_method_59_code 396 = .ok (.iconst 0, 1) := by decide +kernel
theorem ad_Md_doLine_397 : decode prog_14_method_59_code 397 = .ok (.ireturn, 1) := by decide +kernel
theorem ad_Md_clearBonds_0 : decode prog_14_method_60_code 0 = .ok (.iconst 0, 1) := by decide +kernel
theorem ad_Md_clearBonds_1 : decode prog_14_method_60_code 1 = .ok (.istore_n 1, 1) := by decide +kernel
theorem ad_Md_clearBonds_2 : decode prog_14_method_60_code 2 = .ok (.iload_n 1, 1) := by decide +kernel
theorem ad_Md_clearBonds_3 : decode prog_14_method_60_code 3 = .ok (.sipush 384, 3) := by decide +kernel
theorem ad_Md_clearBonds_6 : decode prog_14_method_60_code 6 = .ok (.if_icmp .ge 30, 3) := by decide +kernel
theorem ad_Md_clearBonds_9 : decode prog_14_method_60_code 9 = .ok (.aload_n 0, 1) := by decide +kernel
theorem ad_Md_clearBonds_10 : decode prog_14_method_60_code 10 = .ok (.getfield 39, 3) := by decide +kernel
theorem ad_Md_clearBonds_13 : decode prog_14_method_60_code 13 = .ok (.iload_n 1, 1) := by decide +kernel
theorem ad_Md_clearBonds_14 : decode prog_14_method_60_code 14 = .ok (.iconst 0, 1) := by decide +kernel
theorem ad_Md_clearBonds_15 : decode prog_14_method_60_code 15 = .ok (.iastore, 1) := by decide +kernel
theorem ad_Md_clearBonds_16 : decode prog_14_method_60_code 16 = .ok (.aload_n 0, 1) := by decide +kernel
theorem ad_Md_clearBonds_17 : decode prog_14_method_60_code 17 = .ok (.getfield 42, 3) := by decide +kernel
theorem ad_Md_clearBonds_20 : decode prog_14_method_60_code 20 = .ok (.iload_n 1, 1) := by decide +kernel
theorem ad_Md_clearBonds_21 : decode prog_14_method_60_code 21 = .ok (.iconst (-1), 1) := by decide +kernel
theorem ad_Md_clearBonds_22 : decode prog_14_method_60_code 22 = .ok (.iastore, 1) := by decide +kernel
theorem ad_Md_clearBonds_23 : decode prog_14_method_60_code 23 = .ok (.aload_n 0, 1) := by decide +kernel
theorem ad_Md_clearBonds_24 : decode prog_14_method_60_code 24 = .ok (.getfield 60, 3) := by decide +kernel
theorem ad_Md_clearBonds_27 : decode prog_14_method_60_code 27 = .ok (.iload_n 1, 1) := by decide +kernel
theorem ad_Md_clearBonds_28 : decode prog_14_method_60_code 28 = .ok (.iconst 0, 1) := by decide +kernel
theorem ad_Md_clearBonds_29 : decode prog_14_method_60_code 29 = .ok (.bastore, 1) := by decide +kernel
theorem ad_Md_clearBonds_30 : decode prog_14_method_60_code 30 = .ok (.iinc 1 1, 3) := by decide +kernel
theorem ad_Md_clearBonds_33 : decode prog_14_method_60_code 33 = .ok (.goto (-31), 3) := by decide +kernel
theorem ad_Md_clearBonds_36 : decode prog_14_method_60_code 36 = .ok (.iconst 0, 1) := by decide +kernel
theorem ad_Md_clearBonds_37 : decode prog_14_method_60_code 37 = .ok (.istore_n 1, 1) := by decide +kernel
theorem ad_Md_clearBonds_38 : decode prog_14_method_60_code 38 = .ok (.iload_n 1, 1) := by decide +kernel
theorem ad_Md_clearBonds_39 : decode prog_14_method_60_code 39 = .ok (.bipush 48, 2) := by decide +kernel
theorem ad_Md_clearBonds_41 : decode prog_14_method_60_code 41 = .ok (.if_icmp .ge 16, 3) := by decide +kernel
theorem ad_Md_clearBonds_44 : decode prog_14_method_60_code 44 = .ok (.aload_n 0, 1) := by decide +kernel
theorem ad_Md_clearBonds_45 : decode prog_14_method_60_code 45 = .ok (.getfield 45, 3) := by decide +kernel
theorem ad_Md_clearBonds_48 : decode prog_14_method_60_code 48 = .ok (.iload_n 1, 1) := by decide +kernel
theorem ad_Md_clearBonds_49 : decode prog_14_method_60_code 49 = .ok (.iconst 0, 1) := by decide +kernel
theorem ad_Md_clearBonds_50 : decode prog_14_method_60_code 50 = .ok (.iastore, 1) := by decide +kernel
theorem ad_Md_clearBonds_51 : decode prog_14_method_60_code 51 = .ok (.iinc 1 1, 3) := by decide +kernel
theorem ad_Md_clearBonds_54 : decode prog_14_method_60_code 54 = .ok (.goto (-16), 3) := by decide +kernel
theorem ad_Md_clearBonds_57 : decode prog_14_method_60_code 57 = .ok (.iconst 0, 1) := by decide +kernel
theorem ad_Md_clearBonds_58 : decode prog_14_method_60_code 58 = .ok (.istore_n 1, 1) := by decide +kernel
theorem ad_Md_clearBonds_59 : decode prog_14_method_60_code 59 = .ok (.iload_n 1, 1) := by decide +kernel
theorem ad_Md_clearBonds_60 : decode prog_14_method_60_code 60 = .ok (.bipush 8, 2) := by decide +kernel
theorem ad_Md_clearBonds_62 : decode prog_14_method_60_code 62 = .ok (.if_icmp .ge 30, 3) := by decide +kernel
theorem ad_Md_clearBonds_65 : decode prog_14_method_60_code 65 = .ok (.aload_n 0, 1) := by decide +kernel
theorem ad_Md_clearBonds_66 : decode prog_14_method_60_code 66 = .ok (.getfield 48, 3) := by decide +kernel
theorem ad_Md_clearBonds_69 : decode prog_14_method_60_code 69 = .ok (.iload_n 1, 1) := by decide +kernel
theorem ad_Md_clearBonds_70 : decode prog_14_method_60_code 70 = .ok (.iconst 0, 1) := by decide +kernel
theorem ad_Md_clearBonds_71 : decode prog_14_method_60_code 71 = .ok (.iastore, 1) := by decide +kernel
theorem ad_Md_clearBonds_72 : decode prog_14_method_60_code 72 = .ok (.aload_n 0, 1) := by decide +kernel
theorem ad_Md_clearBonds_73 : decode prog_14_method_60_code 73 = .ok (.getfield 51, 3) := by decide +kernel
theorem ad_Md_clearBonds_76 : decode prog_14_method_60_code 76 = .ok (.iload_n 1, 1) := by decide +kernel
theorem ad_Md_clearBonds_77 : decode prog_14_method_60_code 77 = .ok (.iconst 0, 1) := by decide +kernel
theorem ad_Md_clearBonds_78 : decode prog_14_method_60_code 78 = .ok (.iastore, 1) := by decide +kernel
theorem ad_Md_clearBonds_79 : decode prog_14_method_60_code 79 = .ok (.aload_n 0, 1) := by decide +kernel
theorem ad_Md_clearBonds_80 : decode prog_14_method_60_code 80 = .ok (.getfield 54, 3) := by decide +kernel
theorem ad_Md_clearBonds_83 : decode prog_14_method_60_code 83 = .ok (.iload_n 1, 1) := by decide +kernel
theorem ad_Md_clearBonds_84 : decode prog_14_method_60_code 84 = .ok (.iconst 0, 1) := by decide +kernel
theorem ad_Md_clearBonds_85 : decode prog_14_method_60_code 85 = .ok (.iastore, 1) := by decide +kernel
theorem ad_Md_clearBonds_86 : decode prog_14_method_60_code 86 = .ok (.iinc 1 1, 3) := by decide +kernel
theorem ad_Md_clearBonds_89 : decode prog_14_method_60_code 89 = .ok (.goto (-30), 3) := by decide +kernel
theorem ad_Md_clearBonds_92 : decode prog_14_method_60_code 92 = .ok (.aload_n 0, 1) := by decide +kernel
theorem ad_Md_clearBonds_93 : decode prog_14_method_60_code 93 = .ok (.iconst 0, 1) := by decide +kernel
theorem ad_Md_clearBonds_94 : decode prog_14_method_60_code 94 = .ok (.putfield 313, 3) := by decide +kernel
theorem ad_Md_clearBonds_97 : decode prog_14_method_60_code 97 = .ok (.aload_n 0, 1) := by decide +kernel
theorem ad_Md_clearBonds_98 : decode prog_14_method_60_code 98 = .ok (.iconst 0, 1) := by decide +kernel
theorem ad_Md_clearBonds_99 : decode prog_14_method_60_code 99 = .ok (.putfield 307, 3) := by decide +kernel
theorem ad_Md_clearBonds_102 : decode prog_14_method_60_code 102 = .ok (.aload_n 0, 1) := by decide +kernel
theorem ad_Md_clearBonds_103 : decode prog_14_method_60_code 103 = .ok (.iconst 0, 1) := by decide +kernel
theorem ad_Md_clearBonds_104 : decode prog_14_method_60_code 104 = .ok (.putfield 295, 3) := by decide +kernel
theorem ad_Md_clearBonds_107 : decode prog_14_method_60_code 107 = .ok (.aload_n 0, 1) := by decide +kernel
theorem ad_Md_clearBonds_108 : decode prog_14_method_60_code 108 = .ok (.iconst 0, 1) := by decide +kernel
theorem ad_Md_clearBonds_109 : decode prog_14_method_60_code 109 = .ok (.putfield 310, 3) := by decide +kernel
theorem ad_Md_clearBonds_112 : decode prog_14_method_60_code 112 = .ok (.aload_n 0, 1) := by decide +kernel
theorem ad_Md_clearBonds_113 : decode prog_14_method_60_code 113 = .ok (.iconst 0, 1) := by decide +kernel
theorem ad_Md_clearBonds_114 : decode prog_14_method_60_code 114 = .ok (.putfield 292, 3) := by decide +kernel
theorem ad_Md_clearBonds_117 : decode prog_14_method_60_code 117 = .ok (.return_, 1) := by decide +kernel
theorem ad_Md_doBook_0 : decode prog_14_method_61_code 0 = .ok (.aload_n 0, 1) := by decide +kernel
theorem ad_Md_doBook_1 : decode prog_14_method_61_code 1 = .ok (.invokevirtual 187, 3) := by decide +kernel
theorem ad_Md_doBook_4 : decode prog_14_method_61_code 4 = .ok (.aload_n 0, 1) := by decide +kernel
theorem ad_Md_doBook_5 : decode prog_14_method_61_code 5 = .ok (.invokevirtual 316, 3) := by decide +kernel
theorem ad_Md_doBook_8 : decode prog_14_method_61_code 8 = .ok (.iconst 0, 1) := by decide +kernel
theorem ad_Md_doBook_9 : decode prog_14_method_61_code 9 = .ok (.istore_n 1, 1) := by decide +kernel
theorem ad_Md_doBook_10 : decode prog_14_method_61_code 10 = .ok (.iload_n 1, 1) := by decide +kernel
theorem ad_Md_doBook_11 : decode prog_14_method_61_code 11 = .ok (.aload_n 0, 1) := by decide +kernel
theorem ad_Md_doBook_12 : decode prog_14_method_61_code 12 = .ok (.getfield 13, 3) := by decide +kernel
theorem ad_Md_doBook_15 : decode prog_14_method_61_code 15 = .ok (.sipush 341, 3) := by decide +kernel
theorem ad_Md_doBook_18 : decode prog_14_method_61_code 18 = .ok (.iaload, 1) := by decide +kernel
theorem ad_Md_doBook_19 : decode prog_14_method_61_code 19 = .ok (.if_icmp .ge 114, 3) := by decide +kernel
theorem ad_Md_doBook_22 : decode prog_14_method_61_code 22 = .ok (.sipush 342, 3) := by decide +kernel
theorem ad_Md_doBook_25 : decode prog_14_method_61_code 25 = .ok (.iconst 4, 1) := by decide +kernel
theorem ad_Md_doBook_26 : decode prog_14_method_61_code 26 = .ok (.iload_n 1, 1) := by decide +kernel
theorem ad_Md_doBook_27 : decode prog_14_method_61_code 27 = .ok (.imul, 1) := by decide +kernel
theorem ad_Md_doBook_28 : decode prog_14_method_61_code 28 = .ok (.iadd, 1) := by decide +kernel
theorem ad_Md_doBook_29 : decode prog_14_method_61_code 29 = .ok (.istore_n 2, 1) := by decide +kernel
theorem ad_Md_doBook_30 : decode prog_14_method_61_code 30 = .ok (.aload_n 0, 1) := by decide +kernel
theorem ad_Md_doBook_31 : decode prog_14_method_61_code 31 = .ok (.getfield 57, 3) := by decide +kernel
theorem ad_Md_doBook_34 : decode prog_14_method_61_code 34 = .ok (.iload_n 1, 1) := by decide +kernel
theorem ad_Md_doBook_35 : decode prog_14_method_61_code 35 = .ok (.iconst 0, 1) := by decide +kernel
theorem ad_Md_doBook_36 : decode prog_14_method_61_code 36 = .ok (.iastore, 1) := by decide +kernel
theorem ad_Md_doBook_37 : decode prog_14_method_61_code 37 = .ok (.aload_n 0, 1) := by decide +kernel
theorem ad_Md_doBook_38 : decode prog_14_method_61_code 38 = .ok (.getfield 13, 3) := by decide +kernel
theorem ad_Md_doBook_41 : decode prog_14_method_61_code 41 = .ok (.iload_n 2, 1) := by decide +kernel
theorem ad_Md_doBook_42 : decode prog_14_method_61_code 42 = .ok (.iaload, 1) := by decide +kernel
theorem ad_Md_doBook_43 : decode prog_14_method_61_code 43 = .ok (.ifCond .ne 25, 3) := by decide +kernel
theorem ad_Md_doBook_46 : decode prog_14_method_61_code 46 = .ok (.aload_n 0, 1) := by decide +kernel
theorem ad_Md_doBook_47 : decode prog_14_method_61_code 47 = .ok (.getfield 292, 3) := by decide +kernel
theorem ad_Md_doBook_50 : decode prog_14_method_61_code 50 = .ok (.aload_n 0, 1) := by decide +kernel
theorem ad_Md_doBook_51 : decode prog_14_method_61_code 51 = .ok (.getfield 13, 3) := by decide +kernel
theorem ad_Md_doBook_54 : decode prog_14_method_61_code 54 = .ok (.iload_n 2, 1) := by decide +kernel
theorem ad_Md_doBook_55 : decode prog_14_method_61_code 55 = .ok (.iconst 1, 1) := by decide +kernel
theorem ad_Md_doBook_56 : decode prog_14_method_61_code 56 = .ok (.iadd, 1) := by decide +kernel
theorem ad_Md_doBook_57 : decode prog_14_method_61_code 57 = .ok (.iaload, 1) := by decide +kernel
theorem ad_Md_doBook_58 : decode prog_14_method_61_code 58 = .ok (.if_icmp .ge 69, 3) := by decide +kernel
theorem ad_Md_doBook_61 : decode prog_14_method_61_code 61 = .ok (.aload_n 0, 1) := by decide +kernel
theorem ad_Md_doBook_62 : decode prog_14_method_61_code 62 = .ok (.invokevirtual 319, 3) := by decide +kernel
theorem ad_Md_doBook_65 : decode prog_14_method_61_code 65 = .ok (.goto (-19), 3) := by decide +kernel
theorem ad_Md_doBook_68 : decode prog_14_method_61_code 68 = .ok (.aload_n 0, 1) := by decide +kernel
theorem ad_Md_doBook_69 : decode prog_14_method_61_code 69 = .ok (.getfield 57, 3) := by decide +kernel
theorem ad_Md_doBook_72 : decode prog_14_method_61_code 72 = .ok (.iload_n 1, 1) := by decide +kernel
theorem ad_Md_doBook_73 : decode prog_14_method_61_code 73 = .ok (.aload_n 0, 1) := by decide +kernel
theorem ad_Md_doBook_74 : decode prog_14_method_61_code 74 = .ok (.aload_n 0, 1) := by decide +kernel
theorem ad_Md_doBook_75 : decode prog_14_method_61_code 75 = .ok (.getfield 13, 3) := by decide +kernel
theorem ad_Md_doBook_78 : decode prog_14_method_61_code 78 = .ok (.iload_n 2, 1) := by decide +kernel
theorem ad_Md_doBook_79 : decode prog_14_method_61_code 79 = .ok (.iaload, 1) := by decide +kernel
theorem ad_Md_doBook_80 : decode prog_14_method_61_code 80 = .ok (.aload_n 0, 1) := by decide +kernel
theorem ad_Md_doBook_81 : decode prog_14_method_61_code 81 = .ok (.getfield 13, 3) := by decide +kernel
theorem ad_Md_doBook_84 : decode prog_14_method_61_code 84 = .ok (.iload_n 2, 1) := by decide +kernel
theorem ad_Md_doBook_85 : decode prog_14_method_61_code 85 = .ok (.iconst 1, 1) := by decide +kernel
theorem ad_Md_doBook_86 : decode prog_14_method_61_code 86 = .ok (.iadd, 1) := by decide +kernel
theorem ad_Md_doBook_87 : decode prog_14_method_61_code 87 = .ok (.iaload, 1) := by decide +kernel
theorem ad_Md_doBook_88 : decode prog_14_method_61_code 88 = .ok (.aload_n 0, 1) := by decide +kernel
theorem ad_Md_doBook_89 : decode prog_14_method_61_code 89 = .ok (.getfield 13, 3) := by decide +kernel
theorem ad_Md_doBook_92 : decode prog_14_method_61_code 92 = .ok (.iload_n 2, 1) := by decide +kernel
theorem ad_Md_doBook_93 : decode prog_14_method_61_code 93 = .ok (.iconst 2, 1) := by decide +kernel
theorem ad_Md_doBook_94 : decode prog_14_method_61_code 94 = .ok (.iadd, 1) := by decide +kernel
theorem ad_Md_doBook_95 : decode prog_14_method_61_code 95 = .ok (.iaload, 1) := by decide +kernel
theorem ad_Md_doBook_96 : decode prog_14_method_61_code 96 = .ok (.aload_n 0, 1) := by decide +kernel
theorem ad_Md_doBook_97 : decode prog_14_method_61_code 97 = .ok (.getfield 13, 3) := by decide +kernel
theorem ad_Md_doBook_100 : decode prog_14_method_61_code 100 = .ok (.iload_n 2, 1) := by decide +kernel
theorem ad_Md_doBook_101 : decode prog_14_method_61_code 101 = .ok (.iconst 3, 1) := by decide +kernel
theorem ad_Md_doBook_102 : decode prog_14_method_61_code 102 = .ok (.iadd, 1) := by decide +kernel
theorem ad_Md_doBook_103 : decode prog_14_method_61_code 103 = .ok (.iaload, 1) := by decide +kernel
theorem ad_Md_doBook_104 : decode prog_14_method_61_code 104 = .ok (.invokevirtual 322, 3) := by decide +kernel
theorem ad_Md_doBook_107 : decode prog_14_method_61_code 107 = .ok (.iastore, 1) := by decide +kernel
theorem ad_Md_doBook_108 : decode prog_14_method_61_code 108 = .ok (.aload_n 0, 1) := by decide +kernel
theorem ad_Md_doBook_109 : decode prog_14_method_61_code 109 = .ok (.getfield 57, 3) := by decide +kernel
theorem ad_Md_doBook_112 : decode prog_14_method_61_code 112 = .ok (.iload_n 1, 1) := by decide +kernel
theorem ad_Md_doBook_113 : decode prog_14_method_61_code 113 = .ok (.iaload, 1) := by decide +kernel
theorem ad_Md_doBook_114 : decode prog_14_method_61_code 114 = .ok (.ifCond .eq 13, 3) := by decide +kernel
theorem ad_Md_doBook_117 : decode prog_14_method_61_code 117 = .ok (.aload_n 0, 1) := by decide +kernel
theorem ad_Md_doBook_118 : decode prog_14_method_61_code 118 = .ok (.dup, 1) := by decide +kernel
theorem ad_Md_doBook_119 : decode prog_14_method_61_code 119 = .ok (.getfield 313, 3) := by decide +kernel
theorem ad_Md_doBook_122 : decode prog_14_method_61_code 122 = .ok (.iconst 1, 1) := by decide +kernel
theorem ad_Md_doBook_123 : decode prog_14_method_61_code 123 = .ok (.iadd, 1) := by decide +kernel
theorem ad_Md_doBook_124 : decode prog_14_method_61_code 124 = .ok (.putfield 313, 3) := by decide +kernel
theorem ad_Md_doBook_127 : decode prog_14_method_61_code 127 = .ok (.iinc 1 1, 3) := by decide +kernel
theorem ad_Md_doBook_130 : decode prog_14_method_61_code 130 = .ok (.goto (-120), 3) := by decide +kernel
theorem ad_Md_doBook_133 : decode prog_14_method_61_code 133 = .ok (.aload_n 0, 1) := by decide +kernel
theorem ad_Md_doBook_134 : decode prog_14_method_61_code 134 = .ok (.invokevirtual 319, 3) := by decide +kernel
theorem ad_Md_doBook_137 : decode prog_14_method_61_code 137 = .ok (.return_, 1) := by decide +kernel
