theorem dMo_lies_0 : decode prog_10_method_1_code 0 = .ok (.iload_n 0, 1) := by decide +kernel
theorem dMo_lies_1 : decode prog_10_method_1_code 1 = .ok (.iload_n 1, 1) := by decide +kernel
theorem dMo_lies_2 : decode prog_10_method_1_code 2 = .ok (.if_icmp .lt 12, 3) := by decide +kernel
theorem dMo_lies_5 : decode prog_10_method_1_code 5 = .ok (.iload_n 0, 1) := by decide +kernel
theorem dMo_lies_6 : decode prog_10_method_1_code 6 = .ok (.iload_n 2, 1) := by decide +kernel
theorem dMo_lies_7 : decode prog_10_method_1_code 7 = .ok (.if_icmp .gt 7, 3) := by decide +kernel
theorem dMo_lies_10 : decode prog_10_method_1_code 10 = .ok (.iconst 1, 1) := by decide +kernel
theorem dMo_lies_11 : decode prog_10_method_1_code 11 = .ok (.goto 4, 3) := by decide +kernel
theorem dMo_lies_14 : decode prog_10_method_1_code 14 = .ok (.iconst 0, 1) := by decide +kernel
theorem dMo_lies_15 : decode prog_10_method_1_code 15 = .ok (.ireturn, 1) := by decide +kernel
theorem dMo_lesser_0 : decode prog_10_method_2_code 0 = .ok (.iload_n 0, 1) := by decide +kernel
theorem dMo_lesser_1 : decode prog_10_method_2_code 1 = .ok (.iload_n 1, 1) := by decide +kernel
theorem dMo_lesser_2 : decode prog_10_method_2_code 2 = .ok (.if_icmp .ge 7, 3) := by decide +kernel
theorem dMo_lesser_5 : decode prog_10_method_2_code 5 = .ok (.iload_n 0, 1) := by decide +kernel
theorem dMo_lesser_6 : decode prog_10_method_2_code 6 = .ok (.goto 4, 3) := by decide +kernel
theorem dMo_lesser_9 : decode prog_10_method_2_code 9 = .ok (.iload_n 1, 1) := by decide +kernel
theorem dMo_lesser_10 : decode prog_10_method_2_code 10 = .ok (.ireturn, 1) := by decide +kernel
theorem dMo_greater_0 : decode prog_10_method_3_code 0 = .ok (.iload_n 0, 1) := by decide +kernel
theorem dMo_greater_1 : decode prog_10_method_3_code 1 = .ok (.iload_n 1, 1) := by decide +kernel
theorem dMo_greater_2 : decode prog_10_method_3_code 2 = .ok (.if_icmp .le 7, 3) := by decide +kernel
theorem dMo_greater_5 : decode prog_10_method_3_code 5 = .ok (.iload_n 0, 1) := by decide +kernel
theorem dMo_greater_6 : decode prog_10_method_3_code 6 = .ok (.goto 4, 3) := by decide +kernel
theorem dMo_greater_9 : decode prog_10_method_3_code 9 = .ok (.iload_n 1, 1) := by decide +kernel
theorem dMo_greater_10 : decode prog_10_method_3_code 10 = .ok (.ireturn, 1) := by decide +kernel
theorem dMo_either_0 : decode prog_10_method_4_code 0 = .ok (.iload_n 0, 1) := by decide +kernel
theorem dMo_either_1 : decode prog_10_method_4_code 1 = .ok (.ifCond .ge 8, 3) := by decide +kernel
theorem dMo_either_4 : decode prog_10_method_4_code 4 = .ok (.iload_n 0, 1) := by decide +kernel
theorem dMo_either_5 : decode prog_10_method_4_code 5 = .ok (.ineg, 1) := by decide +kernel
theorem dMo_either_6 : decode prog_10_method_4_code 6 = .ok (.goto 4, 3) := by decide +kernel
theorem dMo_either_9 : decode prog_10_method_4_code 9 = .ok (.iload_n 0, 1) := by decide +kernel
theorem dMo_either_10 : decode prog_10_method_4_code 10 = .ok (.ireturn, 1) := by decide +kernel
theorem dMo_refuses_0 : decode prog_10_method_5_code 0 = .ok (.aload_n 0, 1) := by decide +kernel
theorem dMo_refuses_1 : decode prog_10_method_5_code 1 = .ok (.iload_n 1, 1) := by decide +kernel
theorem dMo_refuses_2 : decode prog_10_method_5_code 2 = .ok (.putfield 3, 3) := by decide +kernel
theorem dMo_refuses_5 : decode prog_10_method_5_code 5 = .ok (.aload_n 0, 1) := by decide +kernel
theorem dMo_refuses_6 : decode prog_10_method_5_code 6 = .ok (.getfield 7, 3) := by decide +kernel
theorem dMo_refuses_9 : decode prog_10_method_5_code 9 = .ok (.iload_n 1, 1) := by decide +kernel
theorem dMo_refuses_10 : decode prog_10_method_5_code 10 = .ok (.ineg, 1) := by decide +kernel
theorem dMo_refuses_11 : decode prog_10_method_5_code 11 = .ok (.dup2, 1) := by decide +kernel
theorem dMo_refuses_12 : decode prog_10_method_5_code 12 = .ok (.iaload, 1) := by decide +kernel
theorem dMo_refuses_13 : decode prog_10_method_5_code 13 = .ok (.iconst 1, 1) := by decide +kernel
theorem dMo_refuses_14 : decode prog_10_method_5_code 14 = .ok (.iadd, 1) := by decide +kernel
theorem dMo_refuses_15 : decode prog_10_method_5_code 15 = .ok (.iastore, 1) := by decide +kernel
theorem dMo_refuses_16 : decode prog_10_method_5_code 16 = .ok (.iload_n 1, 1) := by decide +kernel
theorem dMo_refuses_17 : decode prog_10_method_5_code 17 = .ok (.ireturn, 1) := by decide +kernel
theorem dMo_good_0 : decode prog_10_method_6_code 0 = .ok (.aload_n 0, 1) := by decide +kernel
theorem dMo_good_1 : decode prog_10_method_6_code 1 = .ok (.iconst 0, 1) := by decide +kernel
theorem dMo_good_2 : decode prog_10_method_6_code 2 = .ok (.putfield 3, 3) := by decide +kernel
theorem dMo_good_5 : decode prog_10_method_6_code 5 = .ok (.iload_n 1, 1) := by decide +kernel
theorem dMo_good_6 : decode prog_10_method_6_code 6 = .ok (.ireturn, 1) := by decide +kernel
theorem dMo_settled_0 : decode prog_10_method_7_code 0 = .ok (.aload_n 0, 1) := by decide +kernel
theorem dMo_settled_1 : decode prog_10_method_7_code 1 = .ok (.iconst 0, 1) := by decide +kernel
theorem dMo_settled_2 : decode prog_10_method_7_code 2 = .ok (.putfield 11, 3) := by decide +kernel
theorem dMo_settled_5 : decode prog_10_method_7_code 5 = .ok (.aload_n 0, 1) := by decide +kernel
theorem dMo_settled_6 : decode prog_10_method_7_code 6 = .ok (.iload_n 1, 1) := by decide +kernel
theorem dMo_settled_7 : decode prog_10_method_7_code 7 = .ok (.invokevirtual 14, 3) := by decide +kernel
theorem dMo_settled_10 : decode prog_10_method_7_code 10 = .ok (.ireturn, 1) := by decide +kernel
theorem dMo_isIn_0 : decode prog_10_method_8_code 0 = .ok (.iload_n 0, 1) := by decide +kernel
theorem dMo_isIn_1 : decode prog_10_method_8_code 1 = .ok (.iload_n 1, 1) := by decide +kernel
theorem dMo_isIn_2 : decode prog_10_method_8_code 2 = .ok (.ishr, 1) := by decide +kernel
theorem dMo_isIn_3 : decode prog_10_method_8_code 3 = .ok (.iconst 1, 1) := by decide +kernel
theorem dMo_isIn_4 : decode prog_10_method_8_code 4 = .ok (.iand, 1) := by decide +kernel
theorem dMo_isIn_5 : decode prog_10_method_8_code 5 = .ok (.iconst 1, 1) := by decide +kernel
theorem dMo_isIn_6 : decode prog_10_method_8_code 6 = .ok (.if_icmp .ne 7, 3) := by decide +kernel
theorem dMo_isIn_9 : decode prog_10_method_8_code 9 = .ok (.iconst 1, 1) := by decide +kernel
theorem dMo_isIn_10 : decode prog_10_method_8_code 10 = .ok (.goto 4, 3) := by decide +kernel
theorem dMo_isIn_13 : decode prog_10_method_8_code 13 = .ok (.iconst 0, 1) := by decide +kernel
theorem dMo_isIn_14 : decode prog_10_method_8_code 14 = .ok (.ireturn, 1) := by decide +kernel
theorem dMo_isPlace_0 : decode prog_10_method_9_code 0 = .ok (.iload_n 0, 1) := by decide +kernel
theorem dMo_isPlace_1 : decode prog_10_method_9_code 1 = .ok (.iconst 0, 1) := by decide +kernel
theorem dMo_isPlace_2 : decode prog_10_method_9_code 2 = .ok (.bipush 6, 2) := by decide +kernel
theorem dMo_isPlace_4 : decode prog_10_method_9_code 4 = .ok (.invokestatic 18, 3) := by decide +kernel
theorem dMo_isPlace_7 : decode prog_10_method_9_code 7 = .ok (.ireturn, 1) := by decide +kernel
theorem dMo_isHeavy_0 : decode prog_10_method_10_code 0 = .ok (.iload_n 0, 1) := by decide +kernel
theorem dMo_isHeavy_1 : decode prog_10_method_10_code 1 = .ok (.iconst 1, 1) := by decide +kernel
theorem dMo_isHeavy_2 : decode prog_10_method_10_code 2 = .ok (.bipush 30, 2) := by decide +kernel
theorem dMo_isHeavy_4 : decode prog_10_method_10_code 4 = .ok (.invokestatic 18, 3) := by decide +kernel
theorem dMo_isHeavy_7 : decode prog_10_method_10_code 7 = .ok (.ireturn, 1) := by decide +kernel
theorem dMo_armOf_0 : decode prog_10_method_11_code 0 = .ok (.iload_n 0, 1) := by decide +kernel
theorem dMo_armOf_1 : decode prog_10_method_11_code 1 = .ok (.iconst 3, 1) := by decide +kernel
theorem dMo_armOf_2 : decode prog_10_method_11_code 2 = .ok (.isub, 1) := by decide +kernel
theorem dMo_armOf_3 : decode prog_10_method_11_code 3 = .ok (.ireturn, 1) := by decide +kernel
theorem dMo_laysAside_0 : decode prog_10_method_13_code 0 = .ok (.iconst 0, 1) := by decide +kernel
theorem dMo_laysAside_1 : decode prog_10_method_13_code 1 = .ok (.istore_n 2, 1) := by decide +kernel
theorem dMo_laysAside_2 : decode prog_10_method_13_code 2 = .ok (.iload_n 2, 1) := by decide +kernel
theorem dMo_laysAside_3 : decode prog_10_method_13_code 3 = .ok (.bipush 15, 2) := by decide +kernel
theorem dMo_laysAside_5 : decode prog_10_method_13_code 5 = .ok (.if_icmp .ge 26, 3) := by decide +kernel
theorem dMo_laysAside_8 : decode prog_10_method_13_code 8 = .ok (.aload_n 0, 1) := by decide +kernel
theorem dMo_laysAside_9 : decode prog_10_method_13_code 9 = .ok (.getfield 38, 3) := by decide +kernel
theorem dMo_laysAside_12 : decode prog_10_method_13_code 12 = .ok (.bipush 15, 2) := by decide +kernel
theorem dMo_laysAside_14 : decode prog_10_method_13_code 14 = .ok (.iload_n 1, 1) := by decide +kernel
theorem dMo_laysAside_15 : decode prog_10_method_13_code 15 = .ok (.imul, 1) := by decide +kernel
theorem dMo_laysAside_16 : decode prog_10_method_13_code 16 = .ok (.iload_n 2, 1) := by decide +kernel
theorem dMo_laysAside_17 : decode prog_10_method_13_code 17 = .ok (.iadd, 1) := by decide +kernel
theorem dMo_laysAside_18 : decode prog_10_method_13_code 18 = .ok (.aload_n 0, 1) := by decide +kernel
theorem dMo_laysAside_19 : decode prog_10_method_13_code 19 = .ok (.getfield 28, 3) := by decide +kernel
theorem dMo_laysAside_22 : decode prog_10_method_13_code 22 = .ok (.iload_n 2, 1) := by decide +kernel
theorem dMo_laysAside_23 : decode prog_10_method_13_code 23 = .ok (.iaload, 1) := by decide +kernel
theorem dMo_laysAside_24 : decode prog_10_method_13_code 24 = .ok (.iastore, 1) := by decide +kernel
theorem dMo_laysAside_25 : decode prog_10_method_13_code 25 = .ok (.iinc 2 1, 3) := by decide +kernel
theorem dMo_laysAside_28 : decode prog_10_method_13_code 28 = .ok (.goto (-26), 3) := by decide +kernel
theorem dMo_laysAside_31 : decode prog_10_method_13_code 31 = .ok (.return_, 1) := by decide +kernel
theorem dMo_takesBack_0 : decode prog_10_method_14_code 0 = .ok (.iconst 0, 1) := by decide +kernel
theorem dMo_takesBack_1 : decode prog_10_method_14_code 1 = .ok (.istore_n 2, 1) := by decide +kernel
theorem dMo_takesBack_2 : decode prog_10_method_14_code 2 = .ok (.iload_n 2, 1) := by decide +kernel
theorem dMo_takesBack_3 : decode prog_10_method_14_code 3 = .ok (.bipush 15, 2) := by decide +kernel
theorem dMo_takesBack_5 : decode prog_10_method_14_code 5 = .ok (.if_icmp .ge 26, 3) := by decide +kernel
theorem dMo_takesBack_8 : decode prog_10_method_14_code 8 = .ok (.aload_n 0, 1) := by decide +kernel
theorem dMo_takesBack_9 : decode prog_10_method_14_code 9 = .ok (.getfield 28, 3) := by decide +kernel
theorem dMo_takesBack_12 : decode prog_10_method_14_code 12 = .ok (.iload_n 2, 1) := by decide +kernel
theorem dMo_takesBack_13 : decode prog_10_method_14_code 13 = .ok (.aload_n 0, 1) := by decide +kernel
theorem dMo_takesBack_14 : decode prog_10_method_14_code 14 = .ok (.getfield 38, 3) := by decide +kernel
theorem dMo_takesBack_17 : decode prog_10_method_14_code 17 = .ok (.bipush 15, 2) := by decide +kernel
theorem dMo_takesBack_19 : decode prog_10_method_14_code 19 = .ok (.iload_n 1, 1) := by decide +kernel
theorem dMo_takesBack_20 : decode prog_10_method_14_code 20 = .ok (.imul, 1) := by decide +kernel
theorem dMo_takesBack_21 : decode prog_10_method_14_code 21 = .ok (.iload_n 2, 1) := by decide +kernel
theorem dMo_takesBack_22 : decode prog_10_method_14_code 22 = .ok (.iadd, 1) := by decide +kernel
theorem dMo_takesBack_23 : decode prog_10_method_14_code 23 = .ok (.iaload, 1) := by decide +kernel
theorem dMo_takesBack_24 : decode prog_10_method_14_code 24 = .ok (.iastore, 1) := by decide +kernel
theorem dMo_takesBack_25 : decode prog_10_method_14_code 25 = .ok (.iinc 2 1, 3) := by decide +kernel
theorem dMo_takesBack_28 : decode prog_10_method_14_code 28 = .ok (.goto (-26), 3) := by decide +kernel
theorem dMo_takesBack_31 : decode prog_10_method_14_code 31 = .ok (.return_, 1) := by decide +kernel
theorem dMo_image_0 : decode prog_10_method_15_code 0 = .ok (.iload_n 1, 1) := by decide +kernel
theorem dMo_image_1 : decode prog_10_method_15_code 1 = .ok (.iconst 0, 1) := by decide +kernel
theorem dMo_image_2 : decode prog_10_method_15_code 2 = .ok (.iconst 1, 1) := by decide +kernel
theorem dMo_image_3 : decode prog_10_method_15_code 3 = .ok (.invokestatic 18, 3) := by decide +kernel
theorem dMo_image_6 : decode prog_10_method_15_code 6 = .ok (.ifCond .ne 9, 3) := by decide +kernel
theorem dMo_image_9 : decode prog_10_method_15_code 9 = .ok (.aload_n 0, 1) := by decide +kernel
theorem dMo_image_10 : decode prog_10_method_15_code 10 = .ok (.iconst (-1), 1) := by decide +kernel
theorem dMo_image_11 : decode prog_10_method_15_code 11 = .ok (.invokevirtual 113, 3) := by decide +kernel
theorem dMo_image_14 : decode prog_10_method_15_code 14 = .ok (.ireturn, 1) := by decide +kernel
theorem dMo_image_15 : decode prog_10_method_15_code 15 = .ok (.iconst 0, 1) := by decide +kernel
theorem dMo_image_16 : decode prog_10_method_15_code 16 = .ok (.istore_n 2, 1) := by decide +kernel
theorem dMo_image_17 : decode prog_10_method_15_code 17 = .ok (.iload_n 2, 1) := by decide +kernel
theorem dMo_image_18 : decode prog_10_method_15_code 18 = .ok (.sipush 5654, 3) := by decide +kernel
theorem dMo_image_21 : decode prog_10_method_15_code 21 = .ok (.if_icmp .ge 27, 3) := by decide +kernel
theorem dMo_image_24 : decode prog_10_method_15_code 24 = .ok (.aload_n 0, 1) := by decide +kernel
theorem dMo_image_25 : decode prog_10_method_15_code 25 = .ok (.getfield 31, 3) := by decide +kernel
theorem dMo_image_28 : decode prog_10_method_15_code 28 = .ok (.sipush 5654, 3) := by decide +kernel
theorem dMo_image_31 : decode prog_10_method_15_code 31 = .ok (.iload_n 1, 1) := by decide +kernel
theorem dMo_image_32 : decode prog_10_method_15_code 32 = .ok (.imul, 1) := by decide +kernel
theorem dMo_image_33 : decode prog_10_method_15_code 33 = .ok (.iload_n 2, 1) := by decide +kernel
theorem dMo_image_34 : decode prog_10_method_15_code 34 = .ok (.iadd, 1) := by decide +kernel
theorem dMo_image_35 : decode prog_10_method_15_code 35 = .ok (.aload_n 0, 1) := by decide +kernel
theorem dMo_image_36 : decode prog_10_method_15_code 36 = .ok (.getfield 28, 3) := by decide +kernel
theorem dMo_image_39 : decode prog_10_method_15_code 39 = .ok (.iload_n 2, 1) := by decide +kernel
theorem dMo_image_40 : decode prog_10_method_15_code 40 = .ok (.iaload, 1) := by decide +kernel
theorem dMo_image_41 : decode prog_10_method_15_code 41 = .ok (.iastore, 1) := by decide +kernel
theorem dMo_image_42 : decode prog_10_method_15_code 42 = .ok (.iinc 2 1, 3) := by decide +kernel
theorem dMo_image_45 : decode prog_10_method_15_code 45 = .ok (.goto (-28), 3) := by decide +kernel
theorem dMo_image_48 : decode prog_10_method_15_code 48 = .ok (.aload_n 0, 1) := by decide +kernel
theorem dMo_image_49 : decode prog_10_method_15_code 49 = .ok (.getfield 34, 3) := by decide +kernel
theorem dMo_image_52 : decode prog_10_method_15_code 52 = .ok (.iload_n 1, 1) := by decide +kernel
theorem dMo_image_53 : decode prog_10_method_15_code 53 = .ok (.iconst 1, 1) := by decide +kernel
theorem dMo_image_54 : decode prog_10_method_15_code 54 = .ok (.bastore, 1) := by decide +kernel
theorem dMo_image_55 : decode prog_10_method_15_code 55 = .ok (.aload_n 0, 1) := by decide +kernel
theorem dMo_image_56 : decode prog_10_method_15_code 56 = .ok (.iconst 0, 1) := by decide +kernel
theorem dMo_image_57 : decode prog_10_method_15_code 57 = .ok (.invokevirtual 14, 3) := by decide +kernel
theorem dMo_image_60 : decode prog_10_method_15_code 60 = .ok (.ireturn, 1) := by decide +kernel
theorem dMo_back_0 : decode prog_10_method_16_code 0 = .ok (.iload_n 1, 1) := by decide +kernel
theorem dMo_back_1 : decode prog_10_method_16_code 1 = .ok (.iconst 0, 1) := by decide +kernel
theorem dMo_back_2 : decode prog_10_method_16_code 2 = .ok (.iconst 1, 1) := by decide +kernel
theorem dMo_back_3 : decode prog_10_method_16_code 3 = .ok (.invokestatic 18, 3) := by decide +kernel
theorem dMo_back_6 : decode prog_10_method_16_code 6 = .ok (.ifCond .ne 9, 3) := by decide +kernel
theorem dMo_back_9 : decode prog_10_method_16_code 9 = .ok (.aload_n 0, 1) := by decide +kernel
theorem dMo_back_10 : decode prog_10_method_16_code 10 = .ok (.iconst (-1), 1) := by decide +kernel
theorem dMo_back_11 : decode prog_10_method_16_code 11 = .ok (.invokevirtual 113, 3) := by decide +kernel
theorem dMo_back_14 : decode prog_10_method_16_code 14 = .ok (.ireturn, 1) := by decide +kernel
theorem dMo_back_15 : decode prog_10_method_16_code 15 = .ok (.aload_n 0, 1) := by decide +kernel
theorem dMo_back_16 : decode prog_10_method_16_code 16 = .ok (.getfield 34, 3) := by decide +kernel
theorem dMo_back_19 : decode prog_10_method_16_code 19 = .ok (.iload_n 1, 1) := by decide +kernel
theorem dMo_back_20 : decode prog_10_method_16_code 20 = .ok (.baload, 1) := by decide +kernel
theorem dMo_back_21 : decode prog_10_method_16_code 21 = .ok (.ifCond .ne 10, 3) := by decide +kernel
theorem dMo_back_24 : decode prog_10_method_16_code 24 = .ok (.aload_n 0, 1) := by decide +kernel
theorem dMo_back_25 : decode prog_10_method_16_code 25 = .ok (.bipush (-2), 2) := by decide +kernel
theorem dMo_back_27 : decode prog_10_method_16_code 27 = .ok (.invokevirtual 113, 3) := by decide +kernel
theorem dMo_back_30 : decode prog_10_method_16_code 30 = .ok (.ireturn, 1) := by decide +kernel
theorem dMo_back_31 : decode prog_10_method_16_code 31 = .ok (.iconst 0, 1) := by decide +kernel
theorem dMo_back_32 : decode prog_10_method_16_code 32 = .ok (.istore_n 2, 1) := by decide +kernel
theorem dMo_back_33 : decode prog_10_method_16_code 33 = .ok (.iload_n 2, 1) := by decide +kernel
theorem dMo_back_34 : decode prog_10_method_16_code 34 = .ok (.sipush 5654, 3) := by decide +kernel
theorem dMo_back_37 : decode prog_10_method_16_code 37 = .ok (.if_icmp .ge 27, 3) := by decide +kernel
theorem dMo_back_40 : decode prog_10_method_16_code 40 = .ok (.aload_n 0, 1) := by decide +kernel
theorem dMo_back_41 : decode prog_10_method_16_code 41 = .ok (.getfield 28, 3) := by decide +kernel
theorem dMo_back_44 : decode prog_10_method_16_code 44 = .ok (.iload_n 2, 1) := by decide +kernel
theorem dMo_back_45 : decode prog_10_method_16_code 45 = .ok (.aload_n 0, 1) := by decide +kernel
theorem dMo_back_46 : decode prog_10_method_16_code 46 = .ok (.getfield 31, 3) := by decide +kernel
theorem dMo_back_49 : decode prog_10_method_16_code 49 = .ok (.sipush 5654, 3) := by decide +kernel
theorem dMo_back_52 : decode prog_10_method_16_code 52 = .ok (.iload_n 1, 1) := by decide +kernel
theorem dMo_back_53 : decode prog_10_method_16_code 53 = .ok (.imul, 1) := by decide +kernel
theorem dMo_back_54 : decode prog_10_method_16_code 54 = .ok (.iload_n 2, 1) := by decide +kernel
theorem dMo_back_55 : decode prog_10_method_16_code 55 = .ok (.iadd, 1) := by decide +kernel
theorem dMo_back_56 : decode prog_10_method_16_code 56 = .ok (.iaload, 1) := by decide +kernel
theorem dMo_back_57 : decode prog_10_method_16_code 57 = .ok (.iastore, 1) := by decide +kernel
theorem dMo_back_58 : decode prog_10_method_16_code 58 = .ok (.iinc 2 1, 3) := by decide +kernel
theorem dMo_back_61 : decode prog_10_method_16_code 61 = .ok (.goto (-28), 3) := by decide +kernel
theorem dMo_back_64 : decode prog_10_method_16_code 64 = .ok (.aload_n 0, 1) := by decide +kernel
theorem dMo_back_65 : decode prog_10_method_16_code 65 = .ok (.iconst 0, 1) := by decide +kernel
theorem dMo_back_66 : decode prog_10_method_16_code 66 = .ok (.invokevirtual 116, 3) := by decide +kernel
theorem dMo_back_69 : decode prog_10_method_16_code 69 = .ok (.ireturn, 1) := by decide +kernel
theorem dMo_many_0 : decode prog_10_method_17_code 0 = .ok (.aload_n 0, 1) := by decide +kernel
theorem dMo_many_1 : decode prog_10_method_17_code 1 = .ok (.getfield 28, 3) := by decide +kernel
theorem dMo_many_4 : decode prog_10_method_17_code 4 = .ok (.bipush 43, 2) := by decide +kernel
theorem dMo_many_6 : decode prog_10_method_17_code 6 = .ok (.iaload, 1) := by decide +kernel
theorem dMo_many_7 : decode prog_10_method_17_code 7 = .ok (.ireturn, 1) := by decide +kernel
theorem dMo_everything_0 : decode prog_10_method_18_code 0 = .ok (.iconst 1, 1) := by decide +kernel
theorem dMo_everything_1 : decode prog_10_method_18_code 1 = .ok (.aload_n 0, 1) := by decide +kernel
theorem dMo_everything_2 : decode prog_10_method_18_code 2 = .ok (.invokevirtual 119, 3) := by decide +kernel
theorem dMo_everything_5 : decode prog_10_method_18_code 5 = .ok (.ishl, 1) := by decide +kernel
theorem dMo_everything_6 : decode prog_10_method_18_code 6 = .ok (.iconst 1, 1) := by decide +kernel
theorem dMo_everything_7 : decode prog_10_method_18_code 7 = .ok (.isub, 1) := by decide +kernel
theorem dMo_everything_8 : decode prog_10_method_18_code 8 = .ok (.ireturn, 1) := by decide +kernel
theorem dMo_isClaim_0 : decode prog_10_method_19_code 0 = .ok (.iload_n 1, 1) := by decide +kernel
theorem dMo_isClaim_1 : decode prog_10_method_19_code 1 = .ok (.iconst 0, 1) := by decide +kernel
theorem dMo_isClaim_2 : decode prog_10_method_19_code 2 = .ok (.aload_n 0, 1) := by decide +kernel
theorem dMo_isClaim_3 : decode prog_10_method_19_code 3 = .ok (.invokevirtual 119, 3) := by decide +kernel
theorem dMo_isClaim_6 : decode prog_10_method_19_code 6 = .ok (.iconst 1, 1) := by decide +kernel
theorem dMo_isClaim_7 : decode prog_10_method_19_code 7 = .ok (.isub, 1) := by decide +kernel
theorem dMo_isClaim_8 : decode prog_10_method_19_code 8 = .ok (.invokestatic 18, 3) := by decide +kernel
theorem dMo_isClaim_11 : decode prog_10_method_19_code 11 = .ok (.ireturn, 1) := by decide +kernel
theorem dMo_isOn_0 : decode prog_10_method_20_code 0 = .ok (.aload_n 0, 1) := by decide +kernel
theorem dMo_isOn_1 : decode prog_10_method_20_code 1 = .ok (.getfield 28, 3) := by decide +kernel
theorem dMo_isOn_4 : decode prog_10_method_20_code 4 = .ok (.bipush 7, 2) := by decide +kernel
theorem dMo_isOn_6 : decode prog_10_method_20_code 6 = .ok (.iload_n 1, 1) := by decide +kernel
theorem dMo_isOn_7 : decode prog_10_method_20_code 7 = .ok (.iadd, 1) := by decide +kernel
theorem dMo_isOn_8 : decode prog_10_method_20_code 8 = .ok (.iaload, 1) := by decide +kernel
theorem dMo_isOn_9 : decode prog_10_method_20_code 9 = .ok (.iconst (-1), 1) := by decide +kernel
theorem dMo_isOn_10 : decode prog_10_method_20_code 10 = .ok (.if_icmp .eq 7, 3) := by decide +kernel
theorem dMo_isOn_13 : decode prog_10_method_20_code 13 = .ok (.iconst 1, 1) := by decide +kernel
theorem dMo_isOn_14 : decode prog_10_method_20_code 14 = .ok (.goto 4, 3) := by decide +kernel
theorem dMo_isOn_17 : decode prog_10_method_20_code 17 = .ok (.iconst 0, 1) := by decide +kernel
theorem dMo_isOn_18 : decode prog_10_method_20_code 18 = .ok (.ireturn, 1) := by decide +kernel
theorem dMo_canBe0_0 : decode prog_10_method_21_code 0 = .ok (.iload_n 0, 1) := by decide +kernel
theorem dMo_canBe0_1 : decode prog_10_method_21_code 1 = .ok (.invokestatic 123, 3) := by decide +kernel
theorem dMo_canBe0_4 : decode prog_10_method_21_code 4 = .ok (.ifCond .eq 16, 3) := by decide +kernel
theorem dMo_canBe0_7 : decode prog_10_method_21_code 7 = .ok (.iload_n 1, 1) := by decide +kernel
theorem dMo_canBe0_8 : decode prog_10_method_21_code 8 = .ok (.iconst 0, 1) := by decide +kernel
theorem dMo_canBe0_9 : decode prog_10_method_21_code 9 = .ok (.iconst 3, 1) := by decide +kernel
theorem dMo_canBe0_10 : decode prog_10_method_21_code 10 = .ok (.invokestatic 18, 3) := by decide +kernel
theorem dMo_canBe0_13 : decode prog_10_method_21_code 13 = .ok (.ifCond .eq 7, 3) := by decide +kernel
theorem dMo_canBe0_16 : decode prog_10_method_21_code 16 = .ok (.iconst 1, 1) := by decide +kernel
theorem dMo_canBe0_17 : decode prog_10_method_21_code 17 = .ok (.goto 4, 3) := by decide +kernel
theorem dMo_canBe0_20 : decode prog_10_method_21_code 20 = .ok (.iconst 0, 1) := by decide +kernel
theorem dMo_canBe0_21 : decode prog_10_method_21_code 21 = .ok (.ireturn, 1) := by decide +kernel
theorem dMo_adds_0 : decode prog_10_method_22_code 0 = .ok (.aload_n 0, 1) := by decide +kernel
theorem dMo_adds_1 : decode prog_10_method_22_code 1 = .ok (.invokevirtual 119, 3) := by decide +kernel
theorem dMo_adds_4 : decode prog_10_method_22_code 4 = .ok (.istore_n 3, 1) := by decide +kernel
theorem dMo_adds_5 : decode prog_10_method_22_code 5 = .ok (.aload_n 0, 1) := by decide +kernel
theorem dMo_adds_6 : decode prog_10_method_22_code 6 = .ok (.getfield 28, 3) := by decide +kernel
theorem dMo_adds_9 : decode prog_10_method_22_code 9 = .ok (.iconst 0, 1) := by decide +kernel
theorem dMo_adds_10 : decode prog_10_method_22_code 10 = .ok (.iload_n 3, 1) := by decide +kernel
theorem dMo_adds_11 : decode prog_10_method_22_code 11 = .ok (.iadd, 1) := by decide +kernel
theorem dMo_adds_12 : decode prog_10_method_22_code 12 = .ok (.iload_n 1, 1) := by decide +kernel
theorem dMo_adds_13 : decode prog_10_method_22_code 13 = .ok (.iastore, 1) := by decide +kernel
theorem dMo_adds_14 : decode prog_10_method_22_code 14 = .ok (.aload_n 0, 1) := by decide +kernel
theorem dMo_adds_15 : decode prog_10_method_22_code 15 = .ok (.getfield 28, 3) := by decide +kernel
theorem dMo_adds_18 : decode prog_10_method_22_code 18 = .ok (.bipush 15, 2) := by decide +kernel
theorem dMo_adds_20 : decode prog_10_method_22_code 20 = .ok (.iload_n 3, 1) := by decide +kernel
theorem dMo_adds_21 : decode prog_10_method_22_code 21 = .ok (.iadd, 1) := by decide +kernel
theorem dMo_adds_22 : decode prog_10_method_22_code 22 = .ok (.iload_n 2, 1) := by decide +kernel
theorem dMo_adds_23 : decode prog_10_method_22_code 23 = .ok (.iastore, 1) := by decide +kernel
theorem dMo_adds_24 : decode prog_10_method_22_code 24 = .ok (.aload_n 0, 1) := by decide +kernel
theorem dMo_adds_25 : decode prog_10_method_22_code 25 = .ok (.getfield 28, 3) := by decide +kernel
theorem dMo_adds_28 : decode prog_10_method_22_code 28 = .ok (.bipush 7, 2) := by decide +kernel
theorem dMo_adds_30 : decode prog_10_method_22_code 30 = .ok (.iload_n 3, 1) := by decide +kernel
theorem dMo_adds_31 : decode prog_10_method_22_code 31 = .ok (.iadd, 1) := by decide +kernel
theorem dMo_adds_32 : decode prog_10_method_22_code 32 = .ok (.iconst (-1), 1) := by decide +kernel
theorem dMo_adds_33 : decode prog_10_method_22_code 33 = .ok (.iastore, 1) := by decide +kernel
theorem dMo_adds_34 : decode prog_10_method_22_code 34 = .ok (.aload_n 0, 1) := by decide +kernel
theorem dMo_adds_35 : decode prog_10_method_22_code 35 = .ok (.getfield 28, 3) := by decide +kernel
theorem dMo_adds_38 : decode prog_10_method_22_code 38 = .ok (.bipush 43, 2) := by decide +kernel
theorem dMo_adds_40 : decode prog_10_method_22_code 40 = .ok (.dup2, 1) := by decide +kernel
theorem dMo_adds_41 : decode prog_10_method_22_code 41 = .ok (.iaload, 1) := by decide +kernel
theorem dMo_adds_42 : decode prog_10_method_22_code 42 = .ok (.iconst 1, 1) := by decide +kernel
theorem dMo_adds_43 : decode prog_10_method_22_code 43 = .ok (.iadd, 1) := by decide +kernel
theorem dMo_adds_44 : decode prog_10_method_22_code 44 = .ok (.iastore, 1) := by decide +kernel
theorem dMo_adds_45 : decode prog_10_method_22_code 45 = .ok (.return_, 1) := by decide +kernel
theorem dMo_claim_0 : decode prog_10_method_23_code 0 = .ok (.iload_n 1, 1) := by decide +kernel
theorem dMo_claim_1 : decode prog_10_method_23_code 1 = .ok (.iload_n 2, 1) := by decide +kernel
theorem dMo_claim_2 : decode prog_10_method_23_code 2 = .ok (.invokestatic 127, 3) := by decide +kernel
theorem dMo_claim_5 : decode prog_10_method_23_code 5 = .ok (.ifCond .ne 9, 3) := by decide +kernel
theorem dMo_claim_8 : decode prog_10_method_23_code 8 = .ok (.aload_n 0, 1) := by decide +kernel
theorem dMo_claim_9 : decode prog_10_method_23_code 9 = .ok (.iconst (-1), 1) := by decide +kernel
theorem dMo_claim_10 : decode prog_10_method_23_code 10 = .ok (.invokevirtual 113, 3) := by decide +kernel
theorem dMo_claim_13 : decode prog_10_method_23_code 13 = .ok (.ireturn, 1) := by decide +kernel
theorem dMo_claim_14 : decode prog_10_method_23_code 14 = .ok (.aload_n 0, 1) := by decide +kernel
theorem dMo_claim_15 : decode prog_10_method_23_code 15 = .ok (.invokevirtual 119, 3) := by decide +kernel
theorem dMo_claim_18 : decode prog_10_method_23_code 18 = .ok (.bipush 7, 2) := by decide +kernel
theorem dMo_claim_20 : decode prog_10_method_23_code 20 = .ok (.if_icmp .ne 10, 3) := by decide +kernel
theorem dMo_claim_23 : decode prog_10_method_23_code 23 = .ok (.aload_n 0, 1) := by decide +kernel
theorem dMo_claim_24 : decode prog_10_method_23_code 24 = .ok (.bipush (-5), 2) := by decide +kernel
theorem dMo_claim_26 : decode prog_10_method_23_code 26 = .ok (.invokevirtual 113, 3) := by decide +kernel
theorem dMo_claim_29 : decode prog_10_method_23_code 29 = .ok (.ireturn, 1) := by decide +kernel
theorem dMo_claim_30 : decode prog_10_method_23_code 30 = .ok (.aload_n 0, 1) := by decide +kernel
theorem dMo_claim_31 : decode prog_10_method_23_code 31 = .ok (.iload_n 1, 1) := by decide +kernel
theorem dMo_claim_32 : decode prog_10_method_23_code 32 = .ok (.iload_n 2, 1) := by decide +kernel
theorem dMo_claim_33 : decode prog_10_method_23_code 33 = .ok (.invokevirtual 131, 3) := by decide +kernel
theorem dMo_claim_36 : decode prog_10_method_23_code 36 = .ok (.aload_n 0, 1) := by decide +kernel
theorem dMo_claim_37 : decode prog_10_method_23_code 37 = .ok (.aload_n 0, 1) := by decide +kernel
theorem dMo_claim_38 : decode prog_10_method_23_code 38 = .ok (.invokevirtual 119, 3) := by decide +kernel
theorem dMo_claim_41 : decode prog_10_method_23_code 41 = .ok (.iconst 1, 1) := by decide +kernel
theorem dMo_claim_42 : decode prog_10_method_23_code 42 = .ok (.isub, 1) := by decide +kernel
theorem dMo_claim_43 : decode prog_10_method_23_code 43 = .ok (.invokevirtual 116, 3) := by decide +kernel
theorem dMo_claim_46 : decode prog_10_method_23_code 46 = .ok (.ireturn, 1) := by decide +kernel
theorem dMo_isTerm_0 : decode prog_10_method_27_code 0 = .ok (.iload_n 0, 1) := by decide +kernel
theorem dMo_isTerm_1 : decode prog_10_method_27_code 1 = .ok (.tableswitch 56 0 3 #[31, 40, 48, 48], 31) := by decide +kernel
theorem dMo_isTerm_32 : decode prog_10_method_27_code 32 = .ok (.iload_n 1, 1) := by decide +kernel
theorem dMo_isTerm_33 : decode prog_10_method_27_code 33 = .ok (.iconst 0, 1) := by decide +kernel
theorem dMo_isTerm_34 : decode prog_10_method_27_code 34 = .ok (.sipush 999, 3) := by decide +kernel
theorem dMo_isTerm_37 : decode prog_10_method_27_code 37 = .ok (.invokestatic 18, 3) := by decide +kernel
theorem dMo_isTerm_40 : decode prog_10_method_27_code 40 = .ok (.ireturn, 1) := by decide +kernel
theorem dMo_isTerm_41 : decode prog_10_method_27_code 41 = .ok (.iload_n 1, 1) := by decide +kernel
theorem dMo_isTerm_42 : decode prog_10_method_27_code 42 = .ok (.iconst 0, 1) := by decide +kernel
theorem dMo_isTerm_43 : decode prog_10_method_27_code 43 = .ok (.bipush 10, 2) := by decide +kernel
theorem dMo_isTerm_45 : decode prog_10_method_27_code 45 = .ok (.invokestatic 18, 3) := by decide +kernel
theorem dMo_isTerm_48 : decode prog_10_method_27_code 48 = .ok (.ireturn, 1) := by decide +kernel
theorem dMo_isTerm_49 : decode prog_10_method_27_code 49 = .ok (.iload_n 1, 1) := by decide +kernel
theorem dMo_isTerm_50 : decode prog_10_method_27_code 50 = .ok (.iconst 0, 1) := by decide +kernel
theorem dMo_isTerm_51 : decode prog_10_method_27_code 51 = .ok (.bipush 9, 2) := by decide +kernel
theorem dMo_isTerm_53 : decode prog_10_method_27_code 53 = .ok (.invokestatic 18, 3) := by decide +kernel
theorem dMo_isTerm_56 : decode prog_10_method_27_code 56 = .ok (.ireturn, 1) := by decide +kernel
theorem dMo_isTerm_57 : decode prog_10_method_27_code 57 = .ok (.iconst 0, 1) := by decide +kernel
theorem dMo_isTerm_58 : decode prog_10_method_27_code 58 = .ok (.ireturn, 1) := by decide +kernel
theorem dMo_termAt_0 : decode prog_10_method_28_code 0 = .ok (.iload_n 0, 1) := by decide +kernel
theorem dMo_termAt_1 : decode prog_10_method_28_code 1 = .ok (.ifCond .ne 8, 3) := by decide +kernel
theorem dMo_termAt_4 : decode prog_10_method_28_code 4 = .ok (.bipush 14, 2) := by decide +kernel
theorem dMo_termAt_6 : decode prog_10_method_28_code 6 = .ok (.goto 25, 3) := by decide +kernel
theorem dMo_termAt_9 : decode prog_10_method_28_code 9 = .ok (.iload_n 0, 1) := by decide +kernel
theorem dMo_termAt_10 : decode prog_10_method_28_code 10 = .ok (.iconst 1, 1) := by decide +kernel
theorem dMo_termAt_11 : decode prog_10_method_28_code 11 = .ok (.if_icmp .ne 8, 3) := by decide +kernel
theorem dMo_termAt_14 : decode prog_10_method_28_code 14 = .ok (.bipush 40, 2) := by decide +kernel
theorem dMo_termAt_16 : decode prog_10_method_28_code 16 = .ok (.goto 15, 3) := by decide +kernel
theorem dMo_termAt_19 : decode prog_10_method_28_code 19 = .ok (.iload_n 0, 1) := by decide +kernel
theorem dMo_termAt_20 : decode prog_10_method_28_code 20 = .ok (.iconst 2, 1) := by decide +kernel
theorem dMo_termAt_21 : decode prog_10_method_28_code 21 = .ok (.if_icmp .ne 8, 3) := by decide +kernel
theorem dMo_termAt_24 : decode prog_10_method_28_code 24 = .ok (.bipush 41, 2) := by decide +kernel
theorem dMo_termAt_26 : decode prog_10_method_28_code 26 = .ok (.goto 5, 3) := by decide +kernel
theorem dMo_termAt_29 : decode prog_10_method_28_code 29 = .ok (.bipush 42, 2) := by decide +kernel
theorem dMo_termAt_31 : decode prog_10_method_28_code 31 = .ok (.ireturn, 1) := by decide +kernel
theorem dMo_terms_0 : decode prog_10_method_29_code 0 = .ok (.iload_n 1, 1) := by decide +kernel
theorem dMo_terms_1 : decode prog_10_method_29_code 1 = .ok (.iload_n 2, 1) := by decide +kernel
theorem dMo_terms_2 : decode prog_10_method_29_code 2 = .ok (.invokestatic 169, 3) := by decide +kernel
theorem dMo_terms_5 : decode prog_10_method_29_code 5 = .ok (.ifCond .ne 9, 3) := by decide +kernel
theorem dMo_terms_8 : decode prog_10_method_29_code 8 = .ok (.aload_n 0, 1) := by decide +kernel
theorem dMo_terms_9 : decode prog_10_method_29_code 9 = .ok (.iconst (-1), 1) := by decide +kernel
theorem dMo_terms_10 : decode prog_10_method_29_code 10 = .ok (.invokevirtual 113, 3) := by decide +kernel
theorem dMo_terms_13 : decode prog_10_method_29_code 13 = .ok (.ireturn, 1) := by decide +kernel
theorem dMo_terms_14 : decode prog_10_method_29_code 14 = .ok (.aload_n 0, 1) := by decide +kernel
theorem dMo_terms_15 : decode prog_10_method_29_code 15 = .ok (.getfield 28, 3) := by decide +kernel
theorem dMo_terms_18 : decode prog_10_method_29_code 18 = .ok (.iload_n 1, 1) := by decide +kernel
theorem dMo_terms_19 : decode prog_10_method_29_code 19 = .ok (.invokestatic 172, 3) := by decide +kernel
theorem dMo_terms_22 : decode prog_10_method_29_code 22 = .ok (.iaload, 1) := by decide +kernel
theorem dMo_terms_23 : decode prog_10_method_29_code 23 = .ok (.istore_n 3, 1) := by decide +kernel
theorem dMo_terms_24 : decode prog_10_method_29_code 24 = .ok (.aload_n 0, 1) := by decide +kernel
theorem dMo_terms_25 : decode prog_10_method_29_code 25 = .ok (.getfield 28, 3) := by decide +kernel
theorem dMo_terms_28 : decode prog_10_method_29_code 28 = .ok (.iload_n 1, 1) := by decide +kernel
theorem dMo_terms_29 : decode prog_10_method_29_code 29 = .ok (.invokestatic 172, 3) := by decide +kernel
theorem dMo_terms_32 : decode prog_10_method_29_code 32 = .ok (.iload_n 2, 1) := by decide +kernel
theorem dMo_terms_33 : decode prog_10_method_29_code 33 = .ok (.iastore, 1) := by decide +kernel
theorem dMo_terms_34 : decode prog_10_method_29_code 34 = .ok (.aload_n 0, 1) := by decide +kernel
theorem dMo_terms_35 : decode prog_10_method_29_code 35 = .ok (.iload_n 3, 1) := by decide +kernel
theorem dMo_terms_36 : decode prog_10_method_29_code 36 = .ok (.invokevirtual 116, 3) := by decide +kernel
theorem dMo_terms_39 : decode prog_10_method_29_code 39 = .ok (.ireturn, 1) := by decide +kernel
theorem dMo_row_0 : decode prog_10_method_30_code 0 = .ok (.aload_n 0, 1) := by decide +kernel
theorem dMo_row_1 : decode prog_10_method_30_code 1 = .ok (.getfield 175, 3) := by decide +kernel
theorem dMo_row_4 : decode prog_10_method_30_code 4 = .ok (.istore_n 1, 1) := by decide +kernel
theorem dMo_row_5 : decode prog_10_method_30_code 5 = .ok (.aload_n 0, 1) := by decide +kernel
theorem dMo_row_6 : decode prog_10_method_30_code 6 = .ok (.iconst 0, 1) := by decide +kernel
theorem dMo_row_7 : decode prog_10_method_30_code 7 = .ok (.putfield 175, 3) := by decide +kernel
theorem dMo_row_10 : decode prog_10_method_30_code 10 = .ok (.iload_n 1, 1) := by decide +kernel
theorem dMo_row_11 : decode prog_10_method_30_code 11 = .ok (.ifCond .ne 10, 3) := by decide +kernel
theorem dMo_row_14 : decode prog_10_method_30_code 14 = .ok (.aload_n 0, 1) := by decide +kernel
theorem dMo_row_15 : decode prog_10_method_30_code 15 = .ok (.bipush (-6), 2) := by decide +kernel
theorem dMo_row_17 : decode prog_10_method_30_code 17 = .ok (.invokevirtual 113, 3) := by decide +kernel
theorem dMo_row_20 : decode prog_10_method_30_code 20 = .ok (.ireturn, 1) := by decide +kernel
theorem dMo_row_21 : decode prog_10_method_30_code 21 = .ok (.iconst 0, 1) := by decide +kernel
theorem dMo_row_22 : decode prog_10_method_30_code 22 = .ok (.istore_n 2, 1) := by decide +kernel
theorem dMo_row_23 : decode prog_10_method_30_code 23 = .ok (.aload_n 0, 1) := by decide +kernel
theorem dMo_row_24 : decode prog_10_method_30_code 24 = .ok (.iload_n 1, 1) := by decide +kernel
theorem dMo_row_25 : decode prog_10_method_30_code 25 = .ok (.iconst 2, 1) := by decide +kernel
theorem dMo_row_26 : decode prog_10_method_30_code 26 = .ok (.irem, 1) := by decide +kernel
theorem dMo_row_27 : decode prog_10_method_30_code 27 = .ok (.putfield 178, 3) := by decide +kernel
theorem dMo_row_30 : decode prog_10_method_30_code 30 = .ok (.iconst 0, 1) := by decide +kernel
theorem dMo_row_31 : decode prog_10_method_30_code 31 = .ok (.istore_n 3, 1) := by decide +kernel
theorem dMo_row_32 : decode prog_10_method_30_code 32 = .ok (.iload_n 3, 1) := by decide +kernel
theorem dMo_row_33 : decode prog_10_method_30_code 33 = .ok (.iconst 2, 1) := by decide +kernel
theorem dMo_row_34 : decode prog_10_method_30_code 34 = .ok (.iadd, 1) := by decide +kernel
theorem dMo_row_35 : decode prog_10_method_30_code 35 = .ok (.iload_n 1, 1) := by decide +kernel
theorem dMo_row_36 : decode prog_10_method_30_code 36 = .ok (.if_icmp .gt 100, 3) := by decide +kernel
theorem dMo_row_39 : decode prog_10_method_30_code 39 = .ok (.aload_n 0, 1) := by decide +kernel
theorem dMo_row_40 : decode prog_10_method_30_code 40 = .ok (.invokevirtual 119, 3) := by decide +kernel
theorem dMo_row_43 : decode prog_10_method_30_code 43 = .ok (.bipush 7, 2) := by decide +kernel
theorem dMo_row_45 : decode prog_10_method_30_code 45 = .ok (.if_icmp .ge 27, 3) := by decide +kernel
theorem dMo_row_48 : decode prog_10_method_30_code 48 = .ok (.aload_n 0, 1) := by decide +kernel
theorem dMo_row_49 : decode prog_10_method_30_code 49 = .ok (.getfield 45, 3) := by decide +kernel
theorem dMo_row_52 : decode prog_10_method_30_code 52 = .ok (.iload_n 3, 1) := by decide +kernel
theorem dMo_row_53 : decode prog_10_method_30_code 53 = .ok (.baload, 1) := by decide +kernel
theorem dMo_row_54 : decode prog_10_method_30_code 54 = .ok (.aload_n 0, 1) := by decide +kernel
theorem dMo_row_55 : decode prog_10_method_30_code 55 = .ok (.getfield 45, 3) := by decide +kernel
theorem dMo_row_58 : decode prog_10_method_30_code 58 = .ok (.iload_n 3, 1) := by decide +kernel
theorem dMo_row_59 : decode prog_10_method_30_code 59 = .ok (.iconst 1, 1) := by decide +kernel
theorem dMo_row_60 : decode prog_10_method_30_code 60 = .ok (.iadd, 1) := by decide +kernel
theorem dMo_row_61 : decode prog_10_method_30_code 61 = .ok (.baload, 1) := by decide +kernel
theorem dMo_row_62 : decode prog_10_method_30_code 62 = .ok (.invokestatic 127, 3) := by decide +kernel
theorem dMo_row_65 : decode prog_10_method_30_code 65 = .ok (.ifCond .eq 7, 3) := by decide +kernel
theorem dMo_row_68 : decode prog_10_method_30_code 68 = .ok (.iconst 1, 1) := by decide +kernel
theorem dMo_row_69 : decode prog_10_method_30_code 69 = .ok (.goto 4, 3) := by decide +kernel
theorem dMo_row_72 : decode prog_10_method_30_code 72 = .ok (.iconst 0, 1) := by decide +kernel
theorem dMo_row_73 : decode prog_10_method_30_code 73 = .ok (.istore 4, 2) := by decide +kernel
theorem dMo_row_75 : decode prog_10_method_30_code 75 = .ok (.iload 4, 2) := by decide +kernel
theorem dMo_row_77 : decode prog_10_method_30_code 77 = .ok (.ifCond .eq 21, 3) := by decide +kernel
theorem dMo_row_80 : decode prog_10_method_30_code 80 = .ok (.aload_n 0, 1) := by decide +kernel
theorem dMo_row_81 : decode prog_10_method_30_code 81 = .ok (.aload_n 0, 1) := by decide +kernel
theorem dMo_row_82 : decode prog_10_method_30_code 82 = .ok (.getfield 45, 3) := by decide +kernel
theorem dMo_row_85 : decode prog_10_method_30_code 85 = .ok (.iload_n 3, 1) := by decide +kernel
theorem dMo_row_86 : decode prog_10_method_30_code 86 = .ok (.baload, 1) := by decide +kernel
theorem dMo_row_87 : decode prog_10_method_30_code 87 = .ok (.aload_n 0, 1) := by decide +kernel
theorem dMo_row_88 : decode prog_10_method_30_code 88 = .ok (.getfield 45, 3) := by decide +kernel
theorem dMo_row_91 : decode prog_10_method_30_code 91 = .ok (.iload_n 3, 1) := by decide +kernel
theorem dMo_row_92 : decode prog_10_method_30_code 92 = .ok (.iconst 1, 1) := by decide +kernel
theorem dMo_row_93 : decode prog_10_method_30_code 93 = .ok (.iadd, 1) := by decide +kernel
theorem dMo_row_94 : decode prog_10_method_30_code 94 = .ok (.baload, 1) := by decide +kernel
theorem dMo_row_95 : decode prog_10_method_30_code 95 = .ok (.invokevirtual 131, 3) := by decide +kernel
theorem dMo_row_98 : decode prog_10_method_30_code 98 = .ok (.iload_n 2, 1) := by decide +kernel
theorem dMo_row_99 : decode prog_10_method_30_code 99 = .ok (.iload 4, 2) := by decide +kernel
theorem dMo_row_101 : decode prog_10_method_30_code 101 = .ok (.ifCond .eq 7, 3) := by decide +kernel
theorem dMo_row_104 : decode prog_10_method_30_code 104 = .ok (.iconst 1, 1) := by decide +kernel
theorem dMo_row_105 : decode prog_10_method_30_code 105 = .ok (.goto 4, 3) := by decide +kernel
theorem dMo_row_108 : decode prog_10_method_30_code 108 = .ok (.iconst 0, 1) := by decide +kernel
theorem dMo_row_109 : decode prog_10_method_30_code 109 = .ok (.iadd, 1) := by decide +kernel
theorem dMo_row_110 : decode prog_10_method_30_code 110 = .ok (.istore_n 2, 1) := by decide +kernel
theorem dMo_row_111 : decode prog_10_method_30_code 111 = .ok (.aload_n 0, 1) := by decide +kernel
theorem dMo_row_112 : decode prog_10_method_30_code 112 = .ok (.dup, 1) := by decide +kernel
theorem dMo_row_113 : decode prog_10_method_30_code 113 = .ok (.getfield 178, 3) := by decide +kernel
theorem dMo_row_116 : decode prog_10_method_30_code 116 = .ok (.iload 4, 2) := by decide +kernel
theorem dMo_row_118 : decode prog_10_method_30_code 118 = .ok (.ifCond .eq 7, 3) := by decide +kernel
theorem dMo_row_121 : decode prog_10_method_30_code 121 = .ok (.iconst 0, 1) := by decide +kernel
theorem dMo_row_122 : decode prog_10_method_30_code 122 = .ok (.goto 4, 3) := by decide +kernel
theorem dMo_row_125 : decode prog_10_method_30_code 125 = .ok (.iconst 1, 1) := by decide +kernel
theorem dMo_row_126 : decode prog_10_method_30_code 126 = .ok (.iadd, 1) := by decide +kernel
theorem dMo_row_127 : decode prog_10_method_30_code 127 = .ok (.putfield 178, 3) := by decide +kernel
theorem dMo_row_130 : decode prog_10_method_30_code 130 = .ok (.iinc 3 2, 3) := by decide +kernel
theorem dMo_row_133 : decode prog_10_method_30_code 133 = .ok (.goto (-101), 3) := by decide +kernel
theorem dMo_row_136 : decode prog_10_method_30_code 136 = .ok (.aload_n 0, 1) := by decide +kernel
theorem dMo_row_137 : decode prog_10_method_30_code 137 = .ok (.iload_n 2, 1) := by decide +kernel
theorem dMo_row_138 : decode prog_10_method_30_code 138 = .ok (.invokevirtual 116, 3) := by decide +kernel
theorem dMo_row_141 : decode prog_10_method_30_code 141 = .ok (.ireturn, 1) := by decide +kernel
theorem dMo_sawdust_0 : decode prog_10_method_31_code 0 = .ok (.aload_n 0, 1) := by decide +kernel
theorem dMo_sawdust_1 : decode prog_10_method_31_code 1 = .ok (.getfield 178, 3) := by decide +kernel
theorem dMo_sawdust_4 : decode prog_10_method_31_code 4 = .ok (.ireturn, 1) := by decide +kernel
theorem dMo_feed_0 : decode prog_10_method_32_code 0 = .ok (.aload_n 0, 1) := by decide +kernel
theorem dMo_feed_1 : decode prog_10_method_32_code 1 = .ok (.getfield 175, 3) := by decide +kernel
theorem dMo_feed_4 : decode prog_10_method_32_code 4 = .ok (.bipush 20, 2) := by decide +kernel
theorem dMo_feed_6 : decode prog_10_method_32_code 6 = .ok (.iadd, 1) := by decide +kernel
theorem dMo_feed_7 : decode prog_10_method_32_code 7 = .ok (.sipush 400, 3) := by decide +kernel
theorem dMo_feed_10 : decode prog_10_method_32_code 10 = .ok (.if_icmp .le 5, 3) := by decide +kernel
theorem dMo_feed_13 : decode prog_10_method_32_code 13 = .ok (.iconst (-1), 1) := by decide +kernel
theorem dMo_feed_14 : decode prog_10_method_32_code 14 = .ok (.ireturn, 1) := by decide +kernel
theorem dMo_feed_15 : decode prog_10_method_32_code 15 = .ok (.aload_n 0, 1) := by decide +kernel
theorem dMo_feed_16 : decode prog_10_method_32_code 16 = .ok (.getfield 48, 3) := by decide +kernel
theorem dMo_feed_19 : decode prog_10_method_32_code 19 = .ok (.iconst 0, 1) := by decide +kernel
theorem dMo_feed_20 : decode prog_10_method_32_code 20 = .ok (.iload_n 1, 1) := by decide +kernel
theorem dMo_feed_21 : decode prog_10_method_32_code 21 = .ok (.iastore, 1) := by decide +kernel
theorem dMo_feed_22 : decode prog_10_method_32_code 22 = .ok (.aload_n 0, 1) := by decide +kernel
theorem dMo_feed_23 : decode prog_10_method_32_code 23 = .ok (.getfield 48, 3) := by decide +kernel
theorem dMo_feed_26 : decode prog_10_method_32_code 26 = .ok (.iconst 1, 1) := by decide +kernel
theorem dMo_feed_27 : decode prog_10_method_32_code 27 = .ok (.iload_n 2, 1) := by decide +kernel
theorem dMo_feed_28 : decode prog_10_method_32_code 28 = .ok (.iastore, 1) := by decide +kernel
theorem dMo_feed_29 : decode prog_10_method_32_code 29 = .ok (.aload_n 0, 1) := by decide +kernel
theorem dMo_feed_30 : decode prog_10_method_32_code 30 = .ok (.getfield 48, 3) := by decide +kernel
theorem dMo_feed_33 : decode prog_10_method_32_code 33 = .ok (.iconst 2, 1) := by decide +kernel
theorem dMo_feed_34 : decode prog_10_method_32_code 34 = .ok (.iload_n 3, 1) := by decide +kernel
theorem dMo_feed_35 : decode prog_10_method_32_code 35 = .ok (.iastore, 1) := by decide +kernel
theorem dMo_feed_36 : decode prog_10_method_32_code 36 = .ok (.aload_n 0, 1) := by decide +kernel
theorem dMo_feed_37 : decode prog_10_method_32_code 37 = .ok (.getfield 48, 3) := by decide +kernel
theorem dMo_feed_40 : decode prog_10_method_32_code 40 = .ok (.iconst 3, 1) := by decide +kernel
theorem dMo_feed_41 : decode prog_10_method_32_code 41 = .ok (.iload 4, 2) := by decide +kernel
theorem dMo_feed_43 : decode prog_10_method_32_code 43 = .ok (.iastore, 1) := by decide +kernel
theorem dMo_feed_44 : decode prog_10_method_32_code 44 = .ok (.aload_n 0, 1) := by decide +kernel
theorem dMo_feed_45 : decode prog_10_method_32_code 45 = .ok (.getfield 48, 3) := by decide +kernel
theorem dMo_feed_48 : decode prog_10_method_32_code 48 = .ok (.iconst 4, 1) := by decide +kernel
theorem dMo_feed_49 : decode prog_10_method_32_code 49 = .ok (.iload 5, 2) := by decide +kernel
theorem dMo_feed_51 : decode prog_10_method_32_code 51 = .ok (.iastore, 1) := by decide +kernel
theorem dMo_feed_52 : decode prog_10_method_32_code 52 = .ok (.iconst 0, 1) := by decide +kernel
theorem dMo_feed_53 : decode prog_10_method_32_code 53 = .ok (.istore 6, 2) := by decide +kernel
theorem dMo_feed_55 : decode prog_10_method_32_code 55 = .ok (.iload 6, 2) := by decide +kernel
theorem dMo_feed_57 : decode prog_10_method_32_code 57 = .ok (.bipush 20, 2) := by decide +kernel
theorem dMo_feed_59 : decode prog_10_method_32_code 59 = .ok (.if_icmp .ge 42, 3) := by decide +kernel
theorem dMo_feed_62 : decode prog_10_method_32_code 62 = .ok (.aload_n 0, 1) := by decide +kernel
theorem dMo_feed_63 : decode prog_10_method_32_code 63 = .ok (.getfield 45, 3) := by decide +kernel
theorem dMo_feed_66 : decode prog_10_method_32_code 66 = .ok (.aload_n 0, 1) := by decide +kernel
theorem dMo_feed_67 : decode prog_10_method_32_code 67 = .ok (.getfield 175, 3) := by decide +kernel
theorem dMo_feed_70 : decode prog_10_method_32_code 70 = .ok (.iload 6, 2) := by decide +kernel
theorem dMo_feed_72 : decode prog_10_method_32_code 72 = .ok (.iadd, 1) := by decide +kernel
theorem dMo_feed_73 : decode prog_10_method_32_code 73 = .ok (.aload_n 0, 1) := by decide +kernel
theorem dMo_feed_74 : decode prog_10_method_32_code 74 = .ok (.getfield 48, 3) := by decide +kernel
theorem dMo_feed_77 : decode prog_10_method_32_code 77 = .ok (.iload 6, 2) := by decide +kernel
theorem dMo_feed_79 : decode prog_10_method_32_code 79 = .ok (.iconst 4, 1) := by decide +kernel
theorem dMo_feed_80 : decode prog_10_method_32_code 80 = .ok (.idiv, 1) := by decide +kernel
theorem dMo_feed_81 : decode prog_10_method_32_code 81 = .ok (.iaload, 1) := by decide +kernel
theorem dMo_feed_82 : decode prog_10_method_32_code 82 = .ok (.bipush 24, 2) := by decide +kernel
theorem dMo_feed_84 : decode prog_10_method_32_code 84 = .ok (.bipush 8, 2) := by decide +kernel
theorem dMo_feed_86 : decode prog_10_method_32_code 86 = .ok (.iload 6, 2) := by decide +kernel
theorem dMo_feed_88 : decode prog_10_method_32_code 88 = .ok (.iconst 4, 1) := by decide +kernel
theorem dMo_feed_89 : decode prog_10_method_32_code 89 = .ok (.irem, 1) := by decide +kernel
theorem dMo_feed_90 : decode prog_10_method_32_code 90 = .ok (.imul, 1) := by decide +kernel
theorem dMo_feed_91 : decode prog_10_method_32_code 91 = .ok (.isub, 1) := by decide +kernel
theorem dMo_feed_92 : decode prog_10_method_32_code 92 = .ok (.ishr, 1) := by decide +kernel
theorem dMo_feed_93 : decode prog_10_method_32_code 93 = .ok (.i2b, 1) := by decide +kernel
theorem dMo_feed_94 : decode prog_10_method_32_code 94 = .ok (.bastore, 1) := by decide +kernel
theorem dMo_feed_95 : decode prog_10_method_32_code 95 = .ok (.iinc 6 1, 3) := by decide +kernel
theorem dMo_feed_98 : decode prog_10_method_32_code 98 = .ok (.goto (-43), 3) := by decide +kernel
theorem dMo_feed_101 : decode prog_10_method_32_code 101 = .ok (.aload_n 0, 1) := by decide +kernel
theorem dMo_feed_102 : decode prog_10_method_32_code 102 = .ok (.dup, 1) := by decide +kernel
theorem dMo_feed_103 : decode prog_10_method_32_code 103 = .ok (.getfield 175, 3) := by decide +kernel
theorem dMo_feed_106 : decode prog_10_method_32_code 106 = .ok (.bipush 20, 2) := by decide +kernel
theorem dMo_feed_108 : decode prog_10_method_32_code 108 = .ok (.iadd, 1) := by decide +kernel
theorem dMo_feed_109 : decode prog_10_method_32_code 109 = .ok (.putfield 175, 3) := by decide +kernel
theorem dMo_feed_112 : decode prog_10_method_32_code 112 = .ok (.aload_n 0, 1) := by decide +kernel
theorem dMo_feed_113 : decode prog_10_method_32_code 113 = .ok (.getfield 175, 3) := by decide +kernel
theorem dMo_feed_116 : decode prog_10_method_32_code 116 = .ok (.ireturn, 1) := by decide +kernel
theorem dMo_end_0 : decode prog_10_method_33_code 0 = .ok (.iload_n 1, 1) := by decide +kernel
theorem dMo_end_1 : decode prog_10_method_33_code 1 = .ok (.iconst 0, 1) := by decide +kernel
theorem dMo_end_2 : decode prog_10_method_33_code 2 = .ok (.aload_n 0, 1) := by decide +kernel
theorem dMo_end_3 : decode prog_10_method_33_code 3 = .ok (.getfield 175, 3) := by decide +kernel
theorem dMo_end_6 : decode prog_10_method_33_code 6 = .ok (.invokestatic 18, 3) := by decide +kernel
theorem dMo_end_9 : decode prog_10_method_33_code 9 = .ok (.ifCond .ne 5, 3) := by decide +kernel
theorem dMo_end_12 : decode prog_10_method_33_code 12 = .ok (.iconst (-1), 1) := by decide +kernel
theorem dMo_end_13 : decode prog_10_method_33_code 13 = .ok (.ireturn, 1) := by decide +kernel
theorem dMo_end_14 : decode prog_10_method_33_code 14 = .ok (.aload_n 0, 1) := by decide +kernel
theorem dMo_end_15 : decode prog_10_method_33_code 15 = .ok (.iload_n 1, 1) := by decide +kernel
theorem dMo_end_16 : decode prog_10_method_33_code 16 = .ok (.putfield 175, 3) := by decide +kernel
theorem dMo_end_19 : decode prog_10_method_33_code 19 = .ok (.iload_n 1, 1) := by decide +kernel
theorem dMo_end_20 : decode prog_10_method_33_code 20 = .ok (.ireturn, 1) := by decide +kernel
theorem dMo_isSmall_0 : decode prog_10_method_34_code 0 = .ok (.iload_n 0, 1) := by decide +kernel
theorem dMo_isSmall_1 : decode prog_10_method_34_code 1 = .ok (.bipush 97, 2) := by decide +kernel
theorem dMo_isSmall_3 : decode prog_10_method_34_code 3 = .ok (.if_icmp .lt 13, 3) := by decide +kernel
theorem dMo_isSmall_6 : decode prog_10_method_34_code 6 = .ok (.iload_n 0, 1) := by decide +kernel
theorem dMo_isSmall_7 : decode prog_10_method_34_code 7 = .ok (.bipush 122, 2) := by decide +kernel
theorem dMo_isSmall_9 : decode prog_10_method_34_code 9 = .ok (.if_icmp .gt 7, 3) := by decide +kernel
theorem dMo_isSmall_12 : decode prog_10_method_34_code 12 = .ok (.iconst 1, 1) := by decide +kernel
theorem dMo_isSmall_13 : decode prog_10_method_34_code 13 = .ok (.goto 4, 3) := by decide +kernel
theorem dMo_isSmall_16 : decode prog_10_method_34_code 16 = .ok (.iconst 0, 1) := by decide +kernel
theorem dMo_isSmall_17 : decode prog_10_method_34_code 17 = .ok (.ireturn, 1) := by decide +kernel
theorem dMo_isDigit_0 : decode prog_10_method_35_code 0 = .ok (.iload_n 0, 1) := by decide +kernel
theorem dMo_isDigit_1 : decode prog_10_method_35_code 1 = .ok (.bipush 48, 2) := by decide +kernel
theorem dMo_isDigit_3 : decode prog_10_method_35_code 3 = .ok (.if_icmp .lt 13, 3) := by decide +kernel
theorem dMo_isDigit_6 : decode prog_10_method_35_code 6 = .ok (.iload_n 0, 1) := by decide +kernel
theorem dMo_isDigit_7 : decode prog_10_method_35_code 7 = .ok (.bipush 57, 2) := by decide +kernel
theorem dMo_isDigit_9 : decode prog_10_method_35_code 9 = .ok (.if_icmp .gt 7, 3) := by decide +kernel
theorem dMo_isDigit_12 : decode prog_10_method_35_code 12 = .ok (.iconst 1, 1) := by decide +kernel
theorem dMo_isDigit_13 : decode prog_10_method_35_code 13 = .ok (.goto 4, 3) := by decide +kernel
theorem dMo_isDigit_16 : decode prog_10_method_35_code 16 = .ok (.iconst 0, 1) := by decide +kernel
theorem dMo_isDigit_17 : decode prog_10_method_35_code 17 = .ok (.ireturn, 1) := by decide +kernel
theorem dMo_wordOf_0 : decode prog_10_method_36_code 0 = .ok (.iconst 1, 1) := by decide +kernel
theorem dMo_wordOf_1 : decode prog_10_method_36_code 1 = .ok (.istore_n 3, 1) := by decide +kernel
theorem dMo_wordOf_2 : decode prog_10_method_36_code 2 = .ok (.iconst 0, 1) := by decide +kernel
theorem dMo_wordOf_3 : decode prog_10_method_36_code 3 = .ok (.istore 4, 2) := by decide +kernel
theorem dMo_wordOf_5 : decode prog_10_method_36_code 5 = .ok (.iload 4, 2) := by decide +kernel
theorem dMo_wordOf_7 : decode prog_10_method_36_code 7 = .ok (.aload_n 0, 1) := by decide +kernel
theorem dMo_wordOf_8 : decode prog_10_method_36_code 8 = .ok (.getfield 41, 3) := by decide +kernel
theorem dMo_wordOf_11 : decode prog_10_method_36_code 11 = .ok (.arraylength, 1) := by decide +kernel
theorem dMo_wordOf_12 : decode prog_10_method_36_code 12 = .ok (.if_icmp .ge 114, 3) := by decide +kernel
theorem dMo_wordOf_15 : decode prog_10_method_36_code 15 = .ok (.iconst 0, 1) := by decide +kernel
theorem dMo_wordOf_16 : decode prog_10_method_36_code 16 = .ok (.istore 5, 2) := by decide +kernel
theorem dMo_wordOf_18 : decode prog_10_method_36_code 18 = .ok (.aload_n 0, 1) := by decide +kernel
theorem dMo_wordOf_19 : decode prog_10_method_36_code 19 = .ok (.getfield 41, 3) := by decide +kernel
theorem dMo_wordOf_22 : decode prog_10_method_36_code 22 = .ok (.iload 4, 2) := by decide +kernel
theorem dMo_wordOf_24 : decode prog_10_method_36_code 24 = .ok (.iload 5, 2) := by decide +kernel
theorem dMo_wordOf_26 : decode prog_10_method_36_code 26 = .ok (.iadd, 1) := by decide +kernel
theorem dMo_wordOf_27 : decode prog_10_method_36_code 27 = .ok (.baload, 1) := by decide +kernel
theorem dMo_wordOf_28 : decode prog_10_method_36_code 28 = .ok (.bipush 32, 2) := by decide +kernel
theorem dMo_wordOf_30 : decode prog_10_method_36_code 30 = .ok (.if_icmp .eq 9, 3) := by decide +kernel
theorem dMo_wordOf_33 : decode prog_10_method_36_code 33 = .ok (.iinc 5 1, 3) := by decide +kernel
theorem dMo_wordOf_36 : decode prog_10_method_36_code 36 = .ok (.goto (-18), 3) := by decide +kernel
theorem dMo_wordOf_39 : decode prog_10_method_36_code 39 = .ok (.iload 5, 2) := by decide +kernel
theorem dMo_wordOf_41 : decode prog_10_method_36_code 41 = .ok (.iload_n 2, 1) := by decide +kernel
theorem dMo_wordOf_42 : decode prog_10_method_36_code 42 = .ok (.iload_n 1, 1) := by decide +kernel
theorem dMo_wordOf_43 : decode prog_10_method_36_code 43 = .ok (.isub, 1) := by decide +kernel
theorem dMo_wordOf_44 : decode prog_10_method_36_code 44 = .ok (.if_icmp .ne 7, 3) := by decide +kernel
theorem dMo_wordOf_47 : decode prog_10_method_36_code 47 = .ok (.iconst 1, 1) := by decide +kernel
theorem dMo_wordOf_48 : decode prog_10_method_36_code 48 = .ok (.goto 4, 3) := by decide +kernel
theorem dMo_wordOf_51 : decode prog_10_method_36_code 51 = .ok (.iconst 0, 1) := by decide +kernel
theorem dMo_wordOf_52 : decode prog_10_method_36_code 52 = .ok (.istore 6, 2) := by decide +kernel
theorem dMo_wordOf_54 : decode prog_10_method_36_code 54 = .ok (.iconst 0, 1) := by decide +kernel
theorem dMo_wordOf_55 : decode prog_10_method_36_code 55 = .ok (.istore 7, 2) := by decide +kernel
theorem dMo_wordOf_57 : decode prog_10_method_36_code 57 = .ok (.iload 7, 2) := by decide +kernel
theorem dMo_wordOf_59 : decode prog_10_method_36_code 59 = .ok (.iload 5, 2) := by decide +kernel
theorem dMo_wordOf_61 : decode prog_10_method_36_code 61 = .ok (.if_icmp .ge 43, 3) := by decide +kernel
theorem dMo_wordOf_64 : decode prog_10_method_36_code 64 = .ok (.iload 6, 2) := by decide +kernel
theorem dMo_wordOf_66 : decode prog_10_method_36_code 66 = .ok (.ifCond .eq 38, 3) := by decide +kernel
theorem dMo_wordOf_69 : decode prog_10_method_36_code 69 = .ok (.aload_n 0, 1) := by decide +kernel
theorem dMo_wordOf_70 : decode prog_10_method_36_code 70 = .ok (.getfield 41, 3) := by decide +kernel
theorem dMo_wordOf_73 : decode prog_10_method_36_code 73 = .ok (.iload 4, 2) := by decide +kernel
theorem dMo_wordOf_75 : decode prog_10_method_36_code 75 = .ok (.iload 7, 2) := by decide +kernel
theorem dMo_wordOf_77 : decode prog_10_method_36_code 77 = .ok (.iadd, 1) := by decide +kernel
theorem dMo_wordOf_78 : decode prog_10_method_36_code 78 = .ok (.baload, 1) := by decide +kernel
theorem dMo_wordOf_79 : decode prog_10_method_36_code 79 = .ok (.aload_n 0, 1) := by decide +kernel
theorem dMo_wordOf_80 : decode prog_10_method_36_code 80 = .ok (.getfield 45, 3) := by decide +kernel
theorem dMo_wordOf_83 : decode prog_10_method_36_code 83 = .ok (.iload_n 1, 1) := by decide +kernel
theorem dMo_wordOf_84 : decode prog_10_method_36_code 84 = .ok (.iload 7, 2) := by decide +kernel
theorem dMo_wordOf_86 : decode prog_10_method_36_code 86 = .ok (.iadd, 1) := by decide +kernel
theorem dMo_wordOf_87 : decode prog_10_method_36_code 87 = .ok (.baload, 1) := by decide +kernel
theorem dMo_wordOf_88 : decode prog_10_method_36_code 88 = .ok (.if_icmp .ne 7, 3) := by decide +kernel
theorem dMo_wordOf_91 : decode prog_10_method_36_code 91 = .ok (.iconst 1, 1) := by decide +kernel
theorem dMo_wordOf_92 : decode prog_10_method_36_code 92 = .ok (.goto 4, 3) := by decide +kernel
theorem dMo_wordOf_95 : decode prog_10_method_36_code 95 = .ok (.iconst 0, 1) := by decide +kernel
theorem dMo_wordOf_96 : decode prog_10_method_36_code 96 = .ok (.istore 6, 2) := by decide +kernel
theorem dMo_wordOf_98 : decode prog_10_method_36_code 98 = .ok (.iinc 7 1, 3) := by decide +kernel
theorem dMo_wordOf_101 : decode prog_10_method_36_code 101 = .ok (.goto (-44), 3) := by decide +kernel
theorem dMo_wordOf_104 : decode prog_10_method_36_code 104 = .ok (.iload 6, 2) := by decide +kernel
theorem dMo_wordOf_106 : decode prog_10_method_36_code 106 = .ok (.ifCond .eq 5, 3) := by decide +kernel
theorem dMo_wordOf_109 : decode prog_10_method_36_code 109 = .ok (.iload_n 3, 1) := by decide +kernel
theorem dMo_wordOf_110 : decode prog_10_method_36_code 110 = .ok (.ireturn, 1) := by decide +kernel
theorem dMo_wordOf_111 : decode prog_10_method_36_code 111 = .ok (.iload 4, 2) := by decide +kernel
theorem dMo_wordOf_113 : decode prog_10_method_36_code 113 = .ok (.iload 5, 2) := by decide +kernel
theorem dMo_wordOf_115 : decode prog_10_method_36_code 115 = .ok (.iconst 1, 1) := by decide +kernel
theorem dMo_wordOf_116 : decode prog_10_method_36_code 116 = .ok (.iadd, 1) := by decide +kernel
theorem dMo_wordOf_117 : decode prog_10_method_36_code 117 = .ok (.iadd, 1) := by decide +kernel
theorem dMo_wordOf_118 : decode prog_10_method_36_code 118 = .ok (.istore 4, 2) := by decide +kernel
theorem dMo_wordOf_120 : decode prog_10_method_36_code 120 = .ok (.iinc 3 1, 3) := by decide +kernel
theorem dMo_wordOf_123 : decode prog_10_method_36_code 123 = .ok (.goto (-118), 3) := by decide +kernel
theorem dMo_wordOf_126 : decode prog_10_method_36_code 126 = .ok (.iconst 0, 1) := by decide +kernel
theorem dMo_wordOf_127 : decode prog_10_method_36_code 127 = .ok (.ireturn, 1) := by decide +kernel
theorem dMo_splits_0 : decode prog_10_method_37_code 0 = .ok (.aload_n 0, 1) := by decide +kernel
theorem dMo_splits_1 : decode prog_10_method_37_code 1 = .ok (.iconst 0, 1) := by decide +kernel
theorem dMo_splits_2 : decode prog_10_method_37_code 2 = .ok (.putfield 181, 3) := by decide +kernel
theorem dMo_splits_5 : decode prog_10_method_37_code 5 = .ok (.iconst 0, 1) := by decide +kernel
theorem dMo_splits_6 : decode prog_10_method_37_code 6 = .ok (.istore_n 2, 1) := by decide +kernel
theorem dMo_splits_7 : decode prog_10_method_37_code 7 = .ok (.iload_n 2, 1) := by decide +kernel
theorem dMo_splits_8 : decode prog_10_method_37_code 8 = .ok (.iload_n 1, 1) := by decide +kernel
theorem dMo_splits_9 : decode prog_10_method_37_code 9 = .ok (.if_icmp .ge 254, 3) := by decide +kernel
theorem dMo_splits_12 : decode prog_10_method_37_code 12 = .ok (.aload_n 0, 1) := by decide +kernel
theorem dMo_splits_13 : decode prog_10_method_37_code 13 = .ok (.getfield 45, 3) := by decide +kernel
theorem dMo_splits_16 : decode prog_10_method_37_code 16 = .ok (.iload_n 2, 1) := by decide +kernel
theorem dMo_splits_17 : decode prog_10_method_37_code 17 = .ok (.baload, 1) := by decide +kernel
theorem dMo_splits_18 : decode prog_10_method_37_code 18 = .ok (.istore_n 3, 1) := by decide +kernel
theorem dMo_splits_19 : decode prog_10_method_37_code 19 = .ok (.iload_n 3, 1) := by decide +kernel
theorem dMo_splits_20 : decode prog_10_method_37_code 20 = .ok (.bipush 32, 2) := by decide +kernel
theorem dMo_splits_22 : decode prog_10_method_37_code 22 = .ok (.if_icmp .ne 9, 3) := by decide +kernel
theorem dMo_splits_25 : decode prog_10_method_37_code 25 = .ok (.iinc 2 1, 3) := by decide +kernel
theorem dMo_splits_28 : decode prog_10_method_37_code 28 = .ok (.goto (-21), 3) := by decide +kernel
theorem dMo_splits_31 : decode prog_10_method_37_code 31 = .ok (.iload_n 2, 1) := by decide +kernel
theorem dMo_splits_32 : decode prog_10_method_37_code 32 = .ok (.iconst 1, 1) := by decide +kernel
theorem dMo_splits_33 : decode prog_10_method_37_code 33 = .ok (.iadd, 1) := by decide +kernel
theorem dMo_splits_34 : decode prog_10_method_37_code 34 = .ok (.istore 4, 2) := by decide +kernel
theorem dMo_splits_36 : decode prog_10_method_37_code 36 = .ok (.iload_n 3, 1) := by decide +kernel
theorem dMo_splits_37 : decode prog_10_method_37_code 37 = .ok (.invokestatic 184, 3) := by decide +kernel
theorem dMo_splits_40 : decode prog_10_method_37_code 40 = .ok (.ifCond .eq 28, 3) := by decide +kernel
theorem dMo_splits_43 : decode prog_10_method_37_code 43 = .ok (.iload 4, 2) := by decide +kernel
theorem dMo_splits_45 : decode prog_10_method_37_code 45 = .ok (.iload_n 1, 1) := by decide +kernel
theorem dMo_splits_46 : decode prog_10_method_37_code 46 = .ok (.if_icmp .ge 22, 3) := by decide +kernel
theorem dMo_splits_49 : decode prog_10_method_37_code 49 = .ok (.aload_n 0, 1) := by decide +kernel
theorem dMo_splits_50 : decode prog_10_method_37_code 50 = .ok (.getfield 45, 3) := by decide +kernel
theorem dMo_splits_53 : decode prog_10_method_37_code 53 = .ok (.iload 4, 2) := by decide +kernel
theorem dMo_splits_55 : decode prog_10_method_37_code 55 = .ok (.baload, 1) := by decide +kernel
theorem dMo_splits_56 : decode prog_10_method_37_code 56 = .ok (.invokestatic 184, 3) := by decide +kernel
theorem dMo_splits_59 : decode prog_10_method_37_code 59 = .ok (.ifCond .eq 9, 3) := by decide +kernel
theorem dMo_splits_62 : decode prog_10_method_37_code 62 = .ok (.iinc 4 1, 3) := by decide +kernel
theorem dMo_splits_65 : decode prog_10_method_37_code 65 = .ok (.goto (-22), 3) := by decide +kernel
theorem dMo_splits_68 : decode prog_10_method_37_code 68 = .ok (.iload_n 3, 1) := by decide +kernel
theorem dMo_splits_69 : decode prog_10_method_37_code 69 = .ok (.invokestatic 187, 3) := by decide +kernel
theorem dMo_splits_72 : decode prog_10_method_37_code 72 = .ok (.ifCond .eq 28, 3) := by decide +kernel
theorem dMo_splits_75 : decode prog_10_method_37_code 75 = .ok (.iload 4, 2) := by decide +kernel
theorem dMo_splits_77 : decode prog_10_method_37_code 77 = .ok (.iload_n 1, 1) := by decide +kernel
theorem dMo_splits_78 : decode prog_10_method_37_code 78 = .ok (.if_icmp .ge 22, 3) := by decide +kernel
theorem dMo_splits_81 : decode prog_10_method_37_code 81 = .ok (.aload_n 0, 1) := by decide +kernel
theorem dMo_splits_82 : decode prog_10_method_37_code 82 = .ok (.getfield 45, 3) := by decide +kernel
theorem dMo_splits_85 : decode prog_10_method_37_code 85 = .ok (.iload 4, 2) := by decide +kernel
theorem dMo_splits_87 : decode prog_10_method_37_code 87 = .ok (.baload, 1) := by decide +kernel
theorem dMo_splits_88 : decode prog_10_method_37_code 88 = .ok (.invokestatic 187, 3) := by decide +kernel
theorem dMo_splits_91 : decode prog_10_method_37_code 91 = .ok (.ifCond .eq 9, 3) := by decide +kernel
theorem dMo_splits_94 : decode prog_10_method_37_code 94 = .ok (.iinc 4 1, 3) := by decide +kernel
theorem dMo_splits_97 : decode prog_10_method_37_code 97 = .ok (.goto (-22), 3) := by decide +kernel
theorem dMo_splits_100 : decode prog_10_method_37_code 100 = .ok (.aload_n 0, 1) := by decide +kernel
theorem dMo_splits_101 : decode prog_10_method_37_code 101 = .ok (.getfield 60, 3) := by decide +kernel
theorem dMo_splits_104 : decode prog_10_method_37_code 104 = .ok (.aload_n 0, 1) := by decide +kernel
theorem dMo_splits_105 : decode prog_10_method_37_code 105 = .ok (.getfield 181, 3) := by decide +kernel
theorem dMo_splits_108 : decode prog_10_method_37_code 108 = .ok (.iload_n 2, 1) := by decide +kernel
theorem dMo_splits_109 : decode prog_10_method_37_code 109 = .ok (.iastore, 1) := by decide +kernel
theorem dMo_splits_110 : decode prog_10_method_37_code 110 = .ok (.aload_n 0, 1) := by decide +kernel
theorem dMo_splits_111 : decode prog_10_method_37_code 111 = .ok (.getfield 57, 3) := by decide +kernel
theorem dMo_splits_114 : decode prog_10_method_37_code 114 = .ok (.aload_n 0, 1) := by decide +kernel
theorem dMo_splits_115 : decode prog_10_method_37_code 115 = .ok (.getfield 181, 3) := by decide +kernel
theorem dMo_splits_118 : decode prog_10_method_37_code 118 = .ok (.iconst 0, 1) := by decide +kernel
theorem dMo_splits_119 : decode prog_10_method_37_code 119 = .ok (.iastore, 1) := by decide +kernel
theorem dMo_splits_120 : decode prog_10_method_37_code 120 = .ok (.aload_n 0, 1) := by decide +kernel
theorem dMo_splits_121 : decode prog_10_method_37_code 121 = .ok (.getfield 54, 3) := by decide +kernel
theorem dMo_splits_124 : decode prog_10_method_37_code 124 = .ok (.aload_n 0, 1) := by decide +kernel
theorem dMo_splits_125 : decode prog_10_method_37_code 125 = .ok (.getfield 181, 3) := by decide +kernel
theorem dMo_splits_128 : decode prog_10_method_37_code 128 = .ok (.iload_n 3, 1) := by decide +kernel
theorem dMo_splits_129 : decode prog_10_method_37_code 129 = .ok (.invokestatic 184, 3) := by decide +kernel
theorem dMo_splits_132 : decode prog_10_method_37_code 132 = .ok (.ifCond .eq 13, 3) := by decide +kernel
theorem dMo_splits_135 : decode prog_10_method_37_code 135 = .ok (.aload_n 0, 1) := by decide +kernel
theorem dMo_splits_136 : decode prog_10_method_37_code 136 = .ok (.iload_n 2, 1) := by decide +kernel
theorem dMo_splits_137 : decode prog_10_method_37_code 137 = .ok (.iload 4, 2) := by decide +kernel
theorem dMo_splits_139 : decode prog_10_method_37_code 139 = .ok (.invokevirtual 190, 3) := by decide +kernel
theorem dMo_splits_142 : decode prog_10_method_37_code 142 = .ok (.goto 23, 3) := by decide +kernel
theorem dMo_splits_145 : decode prog_10_method_37_code 145 = .ok (.iload_n 3, 1) := by decide +kernel
theorem dMo_splits_146 : decode prog_10_method_37_code 146 = .ok (.invokestatic 187, 3) := by decide +kernel
theorem dMo_splits_149 : decode prog_10_method_37_code 149 = .ok (.ifCond .eq 8, 3) := by decide +kernel
theorem dMo_splits_152 : decode prog_10_method_37_code 152 = .ok (.bipush 50, 2) := by decide +kernel
theorem dMo_splits_154 : decode prog_10_method_37_code 154 = .ok (.goto 11, 3) := by decide +kernel
theorem dMo_splits_157 : decode prog_10_method_37_code 157 = .ok (.bipush 100, 2) := by decide +kernel
theorem dMo_splits_159 : decode prog_10_method_37_code 159 = .ok (.iload_n 3, 1) := by decide +kernel
theorem dMo_splits_160 : decode prog_10_method_37_code 160 = .ok (.sipush 255, 3) := by decide +kernel
theorem dMo_splits_163 : decode prog_10_method_37_code 163 = .ok (.iand, 1) := by decide +kernel
theorem dMo_splits_164 : decode prog_10_method_37_code 164 = .ok (.iadd, 1) := by decide +kernel
theorem dMo_splits_165 : decode prog_10_method_37_code 165 = .ok (.iastore, 1) := by decide +kernel
theorem dMo_splits_166 : decode prog_10_method_37_code 166 = .ok (.iload_n 2, 1) := by decide +kernel
theorem dMo_splits_167 : decode prog_10_method_37_code 167 = .ok (.istore 5, 2) := by decide +kernel
theorem dMo_splits_169 : decode prog_10_method_37_code 169 = .ok (.iload 5, 2) := by decide +kernel
theorem dMo_splits_171 : decode prog_10_method_37_code 171 = .ok (.iload 4, 2) := by decide +kernel
theorem dMo_splits_173 : decode prog_10_method_37_code 173 = .ok (.if_icmp .ge 74, 3) := by decide +kernel
theorem dMo_splits_176 : decode prog_10_method_37_code 176 = .ok (.iload_n 3, 1) := by decide +kernel
theorem dMo_splits_177 : decode prog_10_method_37_code 177 = .ok (.invokestatic 187, 3) := by decide +kernel
theorem dMo_splits_180 : decode prog_10_method_37_code 180 = .ok (.ifCond .eq 67, 3) := by decide +kernel
theorem dMo_splits_183 : decode prog_10_method_37_code 183 = .ok (.aload_n 0, 1) := by decide +kernel
theorem dMo_splits_184 : decode prog_10_method_37_code 184 = .ok (.getfield 57, 3) := by decide +kernel
theorem dMo_splits_187 : decode prog_10_method_37_code 187 = .ok (.aload_n 0, 1) := by decide +kernel
theorem dMo_splits_188 : decode prog_10_method_37_code 188 = .ok (.getfield 181, 3) := by decide +kernel
theorem dMo_splits_191 : decode prog_10_method_37_code 191 = .ok (.aload_n 0, 1) := by decide +kernel
theorem dMo_splits_192 : decode prog_10_method_37_code 192 = .ok (.getfield 57, 3) := by decide +kernel
theorem dMo_splits_195 : decode prog_10_method_37_code 195 = .ok (.aload_n 0, 1) := by decide +kernel
theorem dMo_splits_196 : decode prog_10_method_37_code 196 = .ok (.getfield 181, 3) := by decide +kernel
theorem dMo_splits_199 : decode prog_10_method_37_code 199 = .ok (.iaload, 1) := by decide +kernel
theorem dMo_splits_200 : decode prog_10_method_37_code 200 = .ok (.ldc 193, 2) := by decide +kernel
theorem dMo_splits_202 : decode prog_10_method_37_code 202 = .ok (.if_icmp .le 15, 3) := by decide +kernel
theorem dMo_splits_205 : decode prog_10_method_37_code 205 = .ok (.aload_n 0, 1) := by decide +kernel
theorem dMo_splits_206 : decode prog_10_method_37_code 206 = .ok (.getfield 57, 3) := by decide +kernel
theorem dMo_splits_209 : decode prog_10_method_37_code 209 = .ok (.aload_n 0, 1) := by decide +kernel
theorem dMo_splits_210 : decode prog_10_method_37_code 210 = .ok (.getfield 181, 3) := by decide +kernel
theorem dMo_splits_213 : decode prog_10_method_37_code 213 = .ok (.iaload, 1) := by decide +kernel
theorem dMo_splits_214 : decode prog_10_method_37_code 214 = .ok (.goto 26, 3) := by decide +kernel
theorem dMo_splits_217 : decode prog_10_method_37_code 217 = .ok (.bipush 10, 2) := by decide +kernel
theorem dMo_splits_219 : decode prog_10_method_37_code 219 = .ok (.aload_n 0, 1) := by decide +kernel
theorem dMo_splits_220 : decode prog_10_method_37_code 220 = .ok (.getfield 57, 3) := by decide +kernel
theorem dMo_splits_223 : decode prog_10_method_37_code 223 = .ok (.aload_n 0, 1) := by decide +kernel
theorem dMo_splits_224 : decode prog_10_method_37_code 224 = .ok (.getfield 181, 3) := by decide +kernel
theorem dMo_splits_227 : decode prog_10_method_37_code 227 = .ok (.iaload, 1) := by decide +kernel
theorem dMo_splits_228 : decode prog_10_method_37_code 228 = .ok (.imul, 1) := by decide +kernel
theorem dMo_splits_229 : decode prog_10_method_37_code 229 = .ok (.aload_n 0, 1) := by decide +kernel
theorem dMo_splits_230 : decode prog_10_method_37_code 230 = .ok (.getfield 45, 3) := by decide +kernel
theorem dMo_splits_233 : decode prog_10_method_37_code 233 = .ok (.iload 5, 2) := by decide +kernel
theorem dMo_splits_235 : decode prog_10_method_37_code 235 = .ok (.baload, 1) := by decide +kernel
theorem dMo_splits_236 : decode prog_10_method_37_code 236 = .ok (.iadd, 1) := by decide +kernel
theorem dMo_splits_237 : decode prog_10_method_37_code 237 = .ok (.bipush 48, 2) := by decide +kernel
theorem dMo_splits_239 : decode prog_10_method_37_code 239 = .ok (.isub, 1) := by decide +kernel
theorem dMo_splits_240 : decode prog_10_method_37_code 240 = .ok (.iastore, 1) := by decide +kernel
theorem dMo_splits_241 : decode prog_10_method_37_code 241 = .ok (.iinc 5 1, 3) := by decide +kernel
theorem dMo_splits_244 : decode prog_10_method_37_code 244 = .ok (.goto (-75), 3) := by decide +kernel
theorem dMo_splits_247 : decode prog_10_method_37_code 247 = .ok (.aload_n 0, 1) := by decide +kernel
theorem dMo_splits_248 : decode prog_10_method_37_code 248 = .ok (.dup, 1) := by decide +kernel
theorem dMo_splits_249 : decode prog_10_method_37_code 249 = .ok (.getfield 181, 3) := by decide +kernel
theorem dMo_splits_252 : decode prog_10_method_37_code 252 = .ok (.iconst 1, 1) := by decide +kernel
theorem dMo_splits_253 : decode prog_10_method_37_code 253 = .ok (.iadd, 1) := by decide +kernel
theorem dMo_splits_254 : decode prog_10_method_37_code 254 = .ok (.putfield 181, 3) := by decide +kernel
theorem dMo_splits_257 : decode prog_10_method_37_code 257 = .ok (.iload 4, 2) := by decide +kernel
theorem dMo_splits_259 : decode prog_10_method_37_code 259 = .ok (.istore_n 2, 1) := by decide +kernel
theorem dMo_splits_260 : decode prog_10_method_37_code 260 = .ok (.goto (-253), 3) := by decide +kernel
theorem dMo_splits_263 : decode prog_10_method_37_code 263 = .ok (.aload_n 0, 1) := by decide +kernel
theorem dMo_splits_264 : decode prog_10_method_37_code 264 = .ok (.getfield 60, 3) := by decide +kernel
theorem dMo_splits_267 : decode prog_10_method_37_code 267 = .ok (.aload_n 0, 1) := by decide +kernel
theorem dMo_splits_268 : decode prog_10_method_37_code 268 = .ok (.getfield 181, 3) := by decide +kernel
theorem dMo_splits_271 : decode prog_10_method_37_code 271 = .ok (.iload_n 1, 1) := by decide +kernel
theorem dMo_splits_272 : decode prog_10_method_37_code 272 = .ok (.iastore, 1) := by decide +kernel
theorem dMo_splits_273 : decode prog_10_method_37_code 273 = .ok (.aload_n 0, 1) := by decide +kernel
theorem dMo_splits_274 : decode prog_10_method_37_code 274 = .ok (.getfield 54, 3) := by decide +kernel
theorem dMo_splits_277 : decode prog_10_method_37_code 277 = .ok (.aload_n 0, 1) := by decide +kernel
theorem dMo_splits_278 : decode prog_10_method_37_code 278 = .ok (.getfield 181, 3) := by decide +kernel
theorem dMo_splits_281 : decode prog_10_method_37_code 281 = .ok (.iconst 0, 1) := by decide +kernel
theorem dMo_splits_282 : decode prog_10_method_37_code 282 = .ok (.iastore, 1) := by decide +kernel
theorem dMo_splits_283 : decode prog_10_method_37_code 283 = .ok (.aload_n 0, 1) := by decide +kernel
theorem dMo_splits_284 : decode prog_10_method_37_code 284 = .ok (.getfield 57, 3) := by decide +kernel
theorem dMo_splits_287 : decode prog_10_method_37_code 287 = .ok (.aload_n 0, 1) := by decide +kernel
theorem dMo_splits_288 : decode prog_10_method_37_code 288 = .ok (.getfield 181, 3) := by decide +kernel
theorem dMo_splits_291 : decode prog_10_method_37_code 291 = .ok (.iconst 0, 1) := by decide +kernel
theorem dMo_splits_292 : decode prog_10_method_37_code 292 = .ok (.iastore, 1) := by decide +kernel
theorem dMo_splits_293 : decode prog_10_method_37_code 293 = .ok (.return_, 1) := by decide +kernel
theorem dMo_fine_0 : decode prog_10_method_38_code 0 = .ok (.aload_n 0, 1) := by decide +kernel
theorem dMo_fine_1 : decode prog_10_method_38_code 1 = .ok (.getfield 194, 3) := by decide +kernel
theorem dMo_fine_4 : decode prog_10_method_38_code 4 = .ok (.iconst (-1), 1) := by decide +kernel
theorem dMo_fine_5 : decode prog_10_method_38_code 5 = .ok (.if_icmp .ne 7, 3) := by decide +kernel
theorem dMo_fine_8 : decode prog_10_method_38_code 8 = .ok (.iconst 1, 1) := by decide +kernel
theorem dMo_fine_9 : decode prog_10_method_38_code 9 = .ok (.goto 4, 3) := by decide +kernel
theorem dMo_fine_12 : decode prog_10_method_38_code 12 = .ok (.iconst 0, 1) := by decide +kernel
theorem dMo_fine_13 : decode prog_10_method_38_code 13 = .ok (.ireturn, 1) := by decide +kernel
theorem dMo_faults_0 : decode prog_10_method_39_code 0 = .ok (.aload_n 0, 1) := by decide +kernel
theorem dMo_faults_1 : decode prog_10_method_39_code 1 = .ok (.invokevirtual 197, 3) := by decide +kernel
theorem dMo_faults_4 : decode prog_10_method_39_code 4 = .ok (.ifCond .eq 16, 3) := by decide +kernel
theorem dMo_faults_7 : decode prog_10_method_39_code 7 = .ok (.aload_n 0, 1) := by decide +kernel
theorem dMo_faults_8 : decode prog_10_method_39_code 8 = .ok (.aload_n 0, 1) := by decide +kernel
theorem dMo_faults_9 : decode prog_10_method_39_code 9 = .ok (.getfield 60, 3) := by decide +kernel
theorem dMo_faults_12 : decode prog_10_method_39_code 12 = .ok (.aload_n 0, 1) := by decide +kernel
theorem dMo_faults_13 : decode prog_10_method_39_code 13 = .ok (.getfield 201, 3) := by decide +kernel
theorem dMo_faults_16 : decode prog_10_method_39_code 16 = .ok (.iaload, 1) := by decide +kernel
theorem dMo_faults_17 : decode prog_10_method_39_code 17 = .ok (.putfield 194, 3) := by decide +kernel
theorem dMo_faults_20 : decode prog_10_method_39_code 20 = .ok (.return_, 1) := by decide +kernel
theorem dMo_takes0_0 : decode prog_10_method_40_code 0 = .ok (.aload_n 0, 1) := by decide +kernel
theorem dMo_takes0_1 : decode prog_10_method_40_code 1 = .ok (.invokevirtual 197, 3) := by decide +kernel
theorem dMo_takes0_4 : decode prog_10_method_40_code 4 = .ok (.ifCond .eq 20, 3) := by decide +kernel
theorem dMo_takes0_7 : decode prog_10_method_40_code 7 = .ok (.aload_n 0, 1) := by decide +kernel
theorem dMo_takes0_8 : decode prog_10_method_40_code 8 = .ok (.getfield 54, 3) := by decide +kernel
theorem dMo_takes0_11 : decode prog_10_method_40_code 11 = .ok (.aload_n 0, 1) := by decide +kernel
theorem dMo_takes0_12 : decode prog_10_method_40_code 12 = .ok (.getfield 201, 3) := by decide +kernel
theorem dMo_takes0_15 : decode prog_10_method_40_code 15 = .ok (.iaload, 1) := by decide +kernel
theorem dMo_takes0_16 : decode prog_10_method_40_code 16 = .ok (.iload_n 1, 1) := by decide +kernel
theorem dMo_takes0_17 : decode prog_10_method_40_code 17 = .ok (.if_icmp .ne 7, 3) := by decide +kernel
theorem dMo_takes0_20 : decode prog_10_method_40_code 20 = .ok (.iconst 1, 1) := by decide +kernel
theorem dMo_takes0_21 : decode prog_10_method_40_code 21 = .ok (.goto 4, 3) := by decide +kernel
theorem dMo_takes0_24 : decode prog_10_method_40_code 24 = .ok (.iconst 0, 1) := by decide +kernel
theorem dMo_takes0_25 : decode prog_10_method_40_code 25 = .ok (.istore_n 2, 1) := by decide +kernel
theorem dMo_takes0_26 : decode prog_10_method_40_code 26 = .ok (.iload_n 2, 1) := by decide +kernel
theorem dMo_takes0_27 : decode prog_10_method_40_code 27 = .ok (.ifCond .eq 13, 3) := by decide +kernel
theorem dMo_takes0_30 : decode prog_10_method_40_code 30 = .ok (.aload_n 0, 1) := by decide +kernel
theorem dMo_takes0_31 : decode prog_10_method_40_code 31 = .ok (.dup, 1) := by decide +kernel
theorem dMo_takes0_32 : decode prog_10_method_40_code 32 = .ok (.getfield 201, 3) := by decide +kernel
theorem dMo_takes0_35 : decode prog_10_method_40_code 35 = .ok (.iconst 1, 1) := by decide +kernel
theorem dMo_takes0_36 : decode prog_10_method_40_code 36 = .ok (.iadd, 1) := by decide +kernel
theorem dMo_takes0_37 : decode prog_10_method_40_code 37 = .ok (.putfield 201, 3) := by decide +kernel
theorem dMo_takes0_40 : decode prog_10_method_40_code 40 = .ok (.iload_n 2, 1) := by decide +kernel
theorem dMo_takes0_41 : decode prog_10_method_40_code 41 = .ok (.ireturn, 1) := by decide +kernel
theorem dMo_must_0 : decode prog_10_method_41_code 0 = .ok (.aload_n 0, 1) := by decide +kernel
theorem dMo_must_1 : decode prog_10_method_41_code 1 = .ok (.iload_n 1, 1) := by decide +kernel
theorem dMo_must_2 : decode prog_10_method_41_code 2 = .ok (.invokevirtual 204, 3) := by decide +kernel
theorem dMo_must_5 : decode prog_10_method_41_code 5 = .ok (.ifCond .ne 7, 3) := by decide +kernel
theorem dMo_must_8 : decode prog_10_method_41_code 8 = .ok (.aload_n 0, 1) := by decide +kernel
theorem dMo_must_9 : decode prog_10_method_41_code 9 = .ok (.invokevirtual 207, 3) := by decide +kernel
theorem dMo_must_12 : decode prog_10_method_41_code 12 = .ok (.return_, 1) := by decide +kernel
theorem dMo_leaf_0 : decode prog_10_method_42_code 0 = .ok (.aload_n 0, 1) := by decide +kernel
theorem dMo_leaf_1 : decode prog_10_method_42_code 1 = .ok (.getfield 210, 3) := by decide +kernel
theorem dMo_leaf_4 : decode prog_10_method_42_code 4 = .ok (.bipush 50, 2) := by decide +kernel
theorem dMo_leaf_6 : decode prog_10_method_42_code 6 = .ok (.if_icmp .ne 7, 3) := by decide +kernel
theorem dMo_leaf_9 : decode prog_10_method_42_code 9 = .ok (.aload_n 0, 1) := by decide +kernel
theorem dMo_leaf_10 : decode prog_10_method_42_code 10 = .ok (.invokevirtual 207, 3) := by decide +kernel
theorem dMo_leaf_13 : decode prog_10_method_42_code 13 = .ok (.aload_n 0, 1) := by decide +kernel
theorem dMo_leaf_14 : decode prog_10_method_42_code 14 = .ok (.dup, 1) := by decide +kernel
theorem dMo_leaf_15 : decode prog_10_method_42_code 15 = .ok (.getfield 210, 3) := by decide +kernel
theorem dMo_leaf_18 : decode prog_10_method_42_code 18 = .ok (.iconst 1, 1) := by decide +kernel
theorem dMo_leaf_19 : decode prog_10_method_42_code 19 = .ok (.iadd, 1) := by decide +kernel
theorem dMo_leaf_20 : decode prog_10_method_42_code 20 = .ok (.putfield 210, 3) := by decide +kernel
theorem dMo_leaf_23 : decode prog_10_method_42_code 23 = .ok (.aload_n 0, 1) := by decide +kernel
theorem dMo_leaf_24 : decode prog_10_method_42_code 24 = .ok (.invokevirtual 197, 3) := by decide +kernel
theorem dMo_leaf_27 : decode prog_10_method_42_code 27 = .ok (.ifCond .eq 13, 3) := by decide +kernel
theorem dMo_leaf_30 : decode prog_10_method_42_code 30 = .ok (.aload_n 0, 1) := by decide +kernel
theorem dMo_leaf_31 : decode prog_10_method_42_code 31 = .ok (.dup, 1) := by decide +kernel
theorem dMo_leaf_32 : decode prog_10_method_42_code 32 = .ok (.getfield 201, 3) := by decide +kernel
theorem dMo_leaf_35 : decode prog_10_method_42_code 35 = .ok (.iconst 1, 1) := by decide +kernel
theorem dMo_leaf_36 : decode prog_10_method_42_code 36 = .ok (.iadd, 1) := by decide +kernel
theorem dMo_leaf_37 : decode prog_10_method_42_code 37 = .ok (.putfield 201, 3) := by decide +kernel
theorem dMo_leaf_40 : decode prog_10_method_42_code 40 = .ok (.return_, 1) := by decide +kernel
theorem dMo_sign_0 : decode prog_10_method_43_code 0 = .ok (.bipush 100, 2) := by decide +kernel
theorem dMo_sign_2 : decode prog_10_method_43_code 2 = .ok (.iload_n 0, 1) := by decide +kernel
theorem dMo_sign_3 : decode prog_10_method_43_code 3 = .ok (.iadd, 1) := by decide +kernel
theorem dMo_sign_4 : decode prog_10_method_43_code 4 = .ok (.ireturn, 1) := by decide +kernel
theorem dMo_mustNumber_0 : decode prog_10_method_44_code 0 = .ok (.aload_n 0, 1) := by decide +kernel
theorem dMo_mustNumber_1 : decode prog_10_method_44_code 1 = .ok (.invokevirtual 197, 3) := by decide +kernel
theorem dMo_mustNumber_4 : decode prog_10_method_44_code 4 = .ok (.ifCond .eq 38, 3) := by decide +kernel
theorem dMo_mustNumber_7 : decode prog_10_method_44_code 7 = .ok (.aload_n 0, 1) := by decide +kernel
theorem dMo_mustNumber_8 : decode prog_10_method_44_code 8 = .ok (.getfield 54, 3) := by decide +kernel
theorem dMo_mustNumber_11 : decode prog_10_method_44_code 11 = .ok (.aload_n 0, 1) := by decide +kernel
theorem dMo_mustNumber_12 : decode prog_10_method_44_code 12 = .ok (.getfield 201, 3) := by decide +kernel
theorem dMo_mustNumber_15 : decode prog_10_method_44_code 15 = .ok (.iaload, 1) := by decide +kernel
theorem dMo_mustNumber_16 : decode prog_10_method_44_code 16 = .ok (.bipush 50, 2) := by decide +kernel
theorem dMo_mustNumber_18 : decode prog_10_method_44_code 18 = .ok (.if_icmp .ne 20, 3) := by decide +kernel
theorem dMo_mustNumber_21 : decode prog_10_method_44_code 21 = .ok (.aload_n 0, 1) := by decide +kernel
theorem dMo_mustNumber_22 : decode prog_10_method_44_code 22 = .ok (.getfield 57, 3) := by decide +kernel
theorem dMo_mustNumber_25 : decode prog_10_method_44_code 25 = .ok (.aload_n 0, 1) := by decide +kernel
theorem dMo_mustNumber_26 : decode prog_10_method_44_code 26 = .ok (.getfield 201, 3) := by decide +kernel
theorem dMo_mustNumber_29 : decode prog_10_method_44_code 29 = .ok (.iaload, 1) := by decide +kernel
theorem dMo_mustNumber_30 : decode prog_10_method_44_code 30 = .ok (.iload_n 1, 1) := by decide +kernel
theorem dMo_mustNumber_31 : decode prog_10_method_44_code 31 = .ok (.iload_n 2, 1) := by decide +kernel
theorem dMo_mustNumber_32 : decode prog_10_method_44_code 32 = .ok (.invokestatic 18, 3) := by decide +kernel
theorem dMo_mustNumber_35 : decode prog_10_method_44_code 35 = .ok (.ifCond .ne 7, 3) := by decide +kernel
theorem dMo_mustNumber_38 : decode prog_10_method_44_code 38 = .ok (.aload_n 0, 1) := by decide +kernel
theorem dMo_mustNumber_39 : decode prog_10_method_44_code 39 = .ok (.invokevirtual 207, 3) := by decide +kernel
theorem dMo_mustNumber_42 : decode prog_10_method_44_code 42 = .ok (.aload_n 0, 1) := by decide +kernel
theorem dMo_mustNumber_43 : decode prog_10_method_44_code 43 = .ok (.invokevirtual 197, 3) := by decide +kernel
theorem dMo_mustNumber_46 : decode prog_10_method_44_code 46 = .ok (.ifCond .eq 13, 3) := by decide +kernel
theorem dMo_mustNumber_49 : decode prog_10_method_44_code 49 = .ok (.aload_n 0, 1) := by decide +kernel
theorem dMo_mustNumber_50 : decode prog_10_method_44_code 50 = .ok (.dup, 1) := by decide +kernel
theorem dMo_mustNumber_51 : decode prog_10_method_44_code 51 = .ok (.getfield 201, 3) := by decide +kernel
theorem dMo_mustNumber_54 : decode prog_10_method_44_code 54 = .ok (.iconst 1, 1) := by decide +kernel
theorem dMo_mustNumber_55 : decode prog_10_method_44_code 55 = .ok (.iadd, 1) := by decide +kernel
theorem dMo_mustNumber_56 : decode prog_10_method_44_code 56 = .ok (.putfield 201, 3) := by decide +kernel
theorem dMo_mustNumber_59 : decode prog_10_method_44_code 59 = .ok (.return_, 1) := by decide +kernel
theorem dMo_lays_0 : decode prog_10_method_57_code 0 = .ok (.aload_n 0, 1) := by decide +kernel
theorem dMo_lays_1 : decode prog_10_method_57_code 1 = .ok (.getfield 28, 3) := by decide +kernel
theorem dMo_lays_4 : decode prog_10_method_57_code 4 = .ok (.bipush 47, 2) := by decide +kernel
theorem dMo_lays_6 : decode prog_10_method_57_code 6 = .ok (.iload_n 1, 1) := by decide +kernel
theorem dMo_lays_7 : decode prog_10_method_57_code 7 = .ok (.iadd, 1) := by decide +kernel
theorem dMo_lays_8 : decode prog_10_method_57_code 8 = .ok (.aload_n 0, 1) := by decide +kernel
theorem dMo_lays_9 : decode prog_10_method_57_code 9 = .ok (.getfield 181, 3) := by decide +kernel
theorem dMo_lays_12 : decode prog_10_method_57_code 12 = .ok (.iastore, 1) := by decide +kernel
theorem dMo_lays_13 : decode prog_10_method_57_code 13 = .ok (.iconst 0, 1) := by decide +kernel
theorem dMo_lays_14 : decode prog_10_method_57_code 14 = .ok (.istore_n 2, 1) := by decide +kernel
theorem dMo_lays_15 : decode prog_10_method_57_code 15 = .ok (.iload_n 2, 1) := by decide +kernel
theorem dMo_lays_16 : decode prog_10_method_57_code 16 = .ok (.aload_n 0, 1) := by decide +kernel
theorem dMo_lays_17 : decode prog_10_method_57_code 17 = .ok (.getfield 181, 3) := by decide +kernel
theorem dMo_lays_20 : decode prog_10_method_57_code 20 = .ok (.if_icmp .ge 52, 3) := by decide +kernel
theorem dMo_lays_23 : decode prog_10_method_57_code 23 = .ok (.aload_n 0, 1) := by decide +kernel
theorem dMo_lays_24 : decode prog_10_method_57_code 24 = .ok (.getfield 28, 3) := by decide +kernel
theorem dMo_lays_27 : decode prog_10_method_57_code 27 = .ok (.bipush 54, 2) := by decide +kernel
theorem dMo_lays_29 : decode prog_10_method_57_code 29 = .ok (.sipush 400, 3) := by decide +kernel
theorem dMo_lays_32 : decode prog_10_method_57_code 32 = .ok (.iload_n 1, 1) := by decide +kernel
theorem dMo_lays_33 : decode prog_10_method_57_code 33 = .ok (.imul, 1) := by decide +kernel
theorem dMo_lays_34 : decode prog_10_method_57_code 34 = .ok (.iadd, 1) := by decide +kernel
theorem dMo_lays_35 : decode prog_10_method_57_code 35 = .ok (.iload_n 2, 1) := by decide +kernel
theorem dMo_lays_36 : decode prog_10_method_57_code 36 = .ok (.iadd, 1) := by decide +kernel
theorem dMo_lays_37 : decode prog_10_method_57_code 37 = .ok (.aload_n 0, 1) := by decide +kernel
theorem dMo_lays_38 : decode prog_10_method_57_code 38 = .ok (.getfield 54, 3) := by decide +kernel
theorem dMo_lays_41 : decode prog_10_method_57_code 41 = .ok (.iload_n 2, 1) := by decide +kernel
theorem dMo_lays_42 : decode prog_10_method_57_code 42 = .ok (.iaload, 1) := by decide +kernel
theorem dMo_lays_43 : decode prog_10_method_57_code 43 = .ok (.iastore, 1) := by decide +kernel
theorem dMo_lays_44 : decode prog_10_method_57_code 44 = .ok (.aload_n 0, 1) := by decide +kernel
theorem dMo_lays_45 : decode prog_10_method_57_code 45 = .ok (.getfield 28, 3) := by decide +kernel
theorem dMo_lays_48 : decode prog_10_method_57_code 48 = .ok (.sipush 2854, 3) := by decide +kernel
theorem dMo_lays_51 : decode prog_10_method_57_code 51 = .ok (.sipush 400, 3) := by decide +kernel
theorem dMo_lays_54 : decode prog_10_method_57_code 54 = .ok (.iload_n 1, 1) := by decide +kernel
theorem dMo_lays_55 : decode prog_10_method_57_code 55 = .ok (.imul, 1) := by decide +kernel
theorem dMo_lays_56 : decode prog_10_method_57_code 56 = .ok (.iadd, 1) := by decide +kernel
theorem dMo_lays_57 : decode prog_10_method_57_code 57 = .ok (.iload_n 2, 1) := by decide +kernel
theorem dMo_lays_58 : decode prog_10_method_57_code 58 = .ok (.iadd, 1) := by decide +kernel
theorem dMo_lays_59 : decode prog_10_method_57_code 59 = .ok (.aload_n 0, 1) := by decide +kernel
theorem dMo_lays_60 : decode prog_10_method_57_code 60 = .ok (.getfield 57, 3) := by decide +kernel
theorem dMo_lays_63 : decode prog_10_method_57_code 63 = .ok (.iload_n 2, 1) := by decide +kernel
theorem dMo_lays_64 : decode prog_10_method_57_code 64 = .ok (.iaload, 1) := by decide +kernel
theorem dMo_lays_65 : decode prog_10_method_57_code 65 = .ok (.iastore, 1) := by decide +kernel
theorem dMo_lays_66 : decode prog_10_method_57_code 66 = .ok (.iinc 2 1, 3) := by decide +kernel
theorem dMo_lays_69 : decode prog_10_method_57_code 69 = .ok (.goto (-54), 3) := by decide +kernel
theorem dMo_lays_72 : decode prog_10_method_57_code 72 = .ok (.return_, 1) := by decide +kernel
theorem dMo_fault_0 : decode prog_10_method_59_code 0 = .ok (.aload_n 0, 1) := by decide +kernel
theorem dMo_fault_1 : decode prog_10_method_59_code 1 = .ok (.getfield 51, 3) := by decide +kernel
theorem dMo_fault_4 : decode prog_10_method_59_code 4 = .ok (.ireturn, 1) := by decide +kernel
theorem dMo_isLaw_0 : decode prog_10_method_60_code 0 = .ok (.iload_n 1, 1) := by decide +kernel
theorem dMo_isLaw_1 : decode prog_10_method_60_code 1 = .ok (.iconst (-1), 1) := by decide +kernel
theorem dMo_isLaw_2 : decode prog_10_method_60_code 2 = .ok (.aload_n 0, 1) := by decide +kernel
theorem dMo_isLaw_3 : decode prog_10_method_60_code 3 = .ok (.getfield 28, 3) := by decide +kernel
theorem dMo_isLaw_6 : decode prog_10_method_60_code 6 = .ok (.bipush 45, 2) := by decide +kernel
theorem dMo_isLaw_8 : decode prog_10_method_60_code 8 = .ok (.iaload, 1) := by decide +kernel
theorem dMo_isLaw_9 : decode prog_10_method_60_code 9 = .ok (.iconst 1, 1) := by decide +kernel
theorem dMo_isLaw_10 : decode prog_10_method_60_code 10 = .ok (.isub, 1) := by decide +kernel
theorem dMo_isLaw_11 : decode prog_10_method_60_code 11 = .ok (.invokestatic 18, 3) := by decide +kernel
theorem dMo_isLaw_14 : decode prog_10_method_60_code 14 = .ok (.ireturn, 1) := by decide +kernel
theorem dMo_force_0 : decode prog_10_method_61_code 0 = .ok (.aload_n 0, 1) := by decide +kernel
theorem dMo_force_1 : decode prog_10_method_61_code 1 = .ok (.iload_n 1, 1) := by decide +kernel
theorem dMo_force_2 : decode prog_10_method_61_code 2 = .ok (.invokevirtual 280, 3) := by decide +kernel
theorem dMo_force_5 : decode prog_10_method_61_code 5 = .ok (.ifCond .ne 10, 3) := by decide +kernel
theorem dMo_force_8 : decode prog_10_method_61_code 8 = .ok (.aload_n 0, 1) := by decide +kernel
theorem dMo_force_9 : decode prog_10_method_61_code 9 = .ok (.bipush (-2), 2) := by decide +kernel
theorem dMo_force_11 : decode prog_10_method_61_code 11 = .ok (.invokevirtual 113, 3) := by decide +kernel
theorem dMo_force_14 : decode prog_10_method_61_code 14 = .ok (.ireturn, 1) := by decide +kernel
theorem dMo_force_15 : decode prog_10_method_61_code 15 = .ok (.aload_n 0, 1) := by decide +kernel
theorem dMo_force_16 : decode prog_10_method_61_code 16 = .ok (.getfield 28, 3) := by decide +kernel
theorem dMo_force_19 : decode prog_10_method_61_code 19 = .ok (.bipush 46, 2) := by decide +kernel
theorem dMo_force_21 : decode prog_10_method_61_code 21 = .ok (.iaload, 1) := by decide +kernel
theorem dMo_force_22 : decode prog_10_method_61_code 22 = .ok (.istore_n 2, 1) := by decide +kernel
theorem dMo_force_23 : decode prog_10_method_61_code 23 = .ok (.aload_n 0, 1) := by decide +kernel
theorem dMo_force_24 : decode prog_10_method_61_code 24 = .ok (.getfield 28, 3) := by decide +kernel
theorem dMo_force_27 : decode prog_10_method_61_code 27 = .ok (.bipush 46, 2) := by decide +kernel
theorem dMo_force_29 : decode prog_10_method_61_code 29 = .ok (.iload_n 1, 1) := by decide +kernel
theorem dMo_force_30 : decode prog_10_method_61_code 30 = .ok (.iastore, 1) := by decide +kernel
theorem dMo_force_31 : decode prog_10_method_61_code 31 = .ok (.aload_n 0, 1) := by decide +kernel
theorem dMo_force_32 : decode prog_10_method_61_code 32 = .ok (.iload_n 2, 1) := by decide +kernel
theorem dMo_force_33 : decode prog_10_method_61_code 33 = .ok (.invokevirtual 14, 3) := by decide +kernel
theorem dMo_force_36 : decode prog_10_method_61_code 36 = .ok (.ireturn, 1) := by decide +kernel
theorem dMo_codeAt_0 : decode prog_10_method_62_code 0 = .ok (.iload_n 1, 1) := by decide +kernel
theorem dMo_codeAt_1 : decode prog_10_method_62_code 1 = .ok (.aload_n 0, 1) := by decide +kernel
theorem dMo_codeAt_2 : decode prog_10_method_62_code 2 = .ok (.getfield 283, 3) := by decide +kernel
theorem dMo_codeAt_5 : decode prog_10_method_62_code 5 = .ok (.if_icmp .ge 15, 3) := by decide +kernel
theorem dMo_codeAt_8 : decode prog_10_method_62_code 8 = .ok (.aload_n 0, 1) := by decide +kernel
theorem dMo_codeAt_9 : decode prog_10_method_62_code 9 = .ok (.getfield 28, 3) := by decide +kernel
theorem dMo_codeAt_12 : decode prog_10_method_62_code 12 = .ok (.bipush 54, 2) := by decide +kernel
theorem dMo_codeAt_14 : decode prog_10_method_62_code 14 = .ok (.iload_n 1, 1) := by decide +kernel
theorem dMo_codeAt_15 : decode prog_10_method_62_code 15 = .ok (.iadd, 1) := by decide +kernel
theorem dMo_codeAt_16 : decode prog_10_method_62_code 16 = .ok (.iaload, 1) := by decide +kernel
theorem dMo_codeAt_17 : decode prog_10_method_62_code 17 = .ok (.goto 4, 3) := by decide +kernel
theorem dMo_codeAt_20 : decode prog_10_method_62_code 20 = .ok (.iconst 0, 1) := by decide +kernel
theorem dMo_codeAt_21 : decode prog_10_method_62_code 21 = .ok (.ireturn, 1) := by decide +kernel
theorem dMo_passes0_0 : decode prog_10_method_63_code 0 = .ok (.aload_n 0, 1) := by decide +kernel
theorem dMo_passes0_1 : decode prog_10_method_63_code 1 = .ok (.aload_n 0, 1) := by decide +kernel
theorem dMo_passes0_2 : decode prog_10_method_63_code 2 = .ok (.getfield 286, 3) := by decide +kernel
theorem dMo_passes0_5 : decode prog_10_method_63_code 5 = .ok (.invokevirtual 289, 3) := by decide +kernel
theorem dMo_passes0_8 : decode prog_10_method_63_code 8 = .ok (.iload_n 1, 1) := by decide +kernel
theorem dMo_passes0_9 : decode prog_10_method_63_code 9 = .ok (.if_icmp .ne 7, 3) := by decide +kernel
theorem dMo_passes0_12 : decode prog_10_method_63_code 12 = .ok (.iconst 1, 1) := by decide +kernel
theorem dMo_passes0_13 : decode prog_10_method_63_code 13 = .ok (.goto 4, 3) := by decide +kernel
theorem dMo_passes0_16 : decode prog_10_method_63_code 16 = .ok (.iconst 0, 1) := by decide +kernel
theorem dMo_passes0_17 : decode prog_10_method_63_code 17 = .ok (.istore_n 2, 1) := by decide +kernel
theorem dMo_passes0_18 : decode prog_10_method_63_code 18 = .ok (.iload_n 2, 1) := by decide +kernel
theorem dMo_passes0_19 : decode prog_10_method_63_code 19 = .ok (.ifCond .eq 13, 3) := by decide +kernel
theorem dMo_passes0_22 : decode prog_10_method_63_code 22 = .ok (.aload_n 0, 1) := by decide +kernel
theorem dMo_passes0_23 : decode prog_10_method_63_code 23 = .ok (.dup, 1) := by decide +kernel
theorem dMo_passes0_24 : decode prog_10_method_63_code 24 = .ok (.getfield 286, 3) := by decide +kernel
theorem dMo_passes0_27 : decode prog_10_method_63_code 27 = .ok (.iconst 1, 1) := by decide +kernel
theorem dMo_passes0_28 : decode prog_10_method_63_code 28 = .ok (.iadd, 1) := by decide +kernel
theorem dMo_passes0_29 : decode prog_10_method_63_code 29 = .ok (.putfield 286, 3) := by decide +kernel
theorem dMo_passes0_32 : decode prog_10_method_63_code 32 = .ok (.iload_n 2, 1) := by decide +kernel
theorem dMo_passes0_33 : decode prog_10_method_63_code 33 = .ok (.ireturn, 1) := by decide +kernel
theorem dMo_bounded_0 : decode prog_10_method_64_code 0 = .ok (.iload_n 3, 1) := by decide +kernel
theorem dMo_bounded_1 : decode prog_10_method_64_code 1 = .ok (.ifCond .eq 24, 3) := by decide +kernel
theorem dMo_bounded_4 : decode prog_10_method_64_code 4 = .ok (.lload_n 1, 1) := by decide +kernel
theorem dMo_bounded_5 : decode prog_10_method_64_code 5 = .ok (.ldc2_w 292, 3) := by decide +kernel
theorem dMo_bounded_8 : decode prog_10_method_64_code 8 = .ok (.lcmp, 1) := by decide +kernel
theorem dMo_bounded_9 : decode prog_10_method_64_code 9 = .ok (.ifCond .gt 11, 3) := by decide +kernel
theorem dMo_bounded_12 : decode prog_10_method_64_code 12 = .ok (.lload_n 1, 1) := by decide +kernel
theorem dMo_bounded_13 : decode prog_10_method_64_code 13 = .ok (.ldc2_w 294, 3) := by decide +kernel
theorem dMo_bounded_16 : decode prog_10_method_64_code 16 = .ok (.lcmp, 1) := by decide +kernel
theorem dMo_bounded_17 : decode prog_10_method_64_code 17 = .ok (.ifCond .ge 8, 3) := by decide +kernel
theorem dMo_bounded_20 : decode prog_10_method_64_code 20 = .ok (.aload_n 0, 1) := by decide +kernel
theorem dMo_bounded_21 : decode prog_10_method_64_code 21 = .ok (.iconst 1, 1) := by decide +kernel
theorem dMo_bounded_22 : decode prog_10_method_64_code 22 = .ok (.putfield 296, 3) := by decide +kernel
theorem dMo_bounded_25 : decode prog_10_method_64_code 25 = .ok (.aload_n 0, 1) := by decide +kernel
theorem dMo_bounded_26 : decode prog_10_method_64_code 26 = .ok (.getfield 296, 3) := by decide +kernel
theorem dMo_bounded_29 : decode prog_10_method_64_code 29 = .ok (.ifCond .eq 7, 3) := by decide +kernel
theorem dMo_bounded_32 : decode prog_10_method_64_code 32 = .ok (.lconst 0, 1) := by decide +kernel
theorem dMo_bounded_33 : decode prog_10_method_64_code 33 = .ok (.goto 4, 3) := by decide +kernel
theorem dMo_bounded_36 : decode prog_10_method_64_code 36 = .ok (.lload_n 1, 1) := by decide +kernel
theorem dMo_bounded_37 : decode prog_10_method_64_code 37 = .ok (.lreturn, 1) := by decide +kernel
theorem dMo_onMany_0 : decode prog_10_method_68_code 0 = .ok (.iconst 0, 1) := by decide +kernel
theorem dMo_onMany_1 : decode prog_10_method_68_code 1 = .ok (.istore_n 1, 1) := by decide +kernel
theorem dMo_onMany_2 : decode prog_10_method_68_code 2 = .ok (.iconst 0, 1) := by decide +kernel
theorem dMo_onMany_3 : decode prog_10_method_68_code 3 = .ok (.istore_n 2, 1) := by decide +kernel
theorem dMo_onMany_4 : decode prog_10_method_68_code 4 = .ok (.iload_n 2, 1) := by decide +kernel
theorem dMo_onMany_5 : decode prog_10_method_68_code 5 = .ok (.aload_n 0, 1) := by decide +kernel
theorem dMo_onMany_6 : decode prog_10_method_68_code 6 = .ok (.invokevirtual 119, 3) := by decide +kernel
theorem dMo_onMany_9 : decode prog_10_method_68_code 9 = .ok (.if_icmp .ge 25, 3) := by decide +kernel
theorem dMo_onMany_12 : decode prog_10_method_68_code 12 = .ok (.iload_n 1, 1) := by decide +kernel
theorem dMo_onMany_13 : decode prog_10_method_68_code 13 = .ok (.aload_n 0, 1) := by decide +kernel
theorem dMo_onMany_14 : decode prog_10_method_68_code 14 = .ok (.iload_n 2, 1) := by decide +kernel
theorem dMo_onMany_15 : decode prog_10_method_68_code 15 = .ok (.invokevirtual 138, 3) := by decide +kernel
theorem dMo_onMany_18 : decode prog_10_method_68_code 18 = .ok (.ifCond .eq 7, 3) := by decide +kernel
theorem dMo_onMany_21 : decode prog_10_method_68_code 21 = .ok (.iconst 1, 1) := by decide +kernel
theorem dMo_onMany_22 : decode prog_10_method_68_code 22 = .ok (.goto 4, 3) := by decide +kernel
theorem dMo_onMany_25 : decode prog_10_method_68_code 25 = .ok (.iconst 0, 1) := by decide +kernel
theorem dMo_onMany_26 : decode prog_10_method_68_code 26 = .ok (.iadd, 1) := by decide +kernel
theorem dMo_onMany_27 : decode prog_10_method_68_code 27 = .ok (.istore_n 1, 1) := by decide +kernel
theorem dMo_onMany_28 : decode prog_10_method_68_code 28 = .ok (.iinc 2 1, 3) := by decide +kernel
theorem dMo_onMany_31 : decode prog_10_method_68_code 31 = .ok (.goto (-27), 3) := by decide +kernel
theorem dMo_onMany_34 : decode prog_10_method_68_code 34 = .ok (.iload_n 1, 1) := by decide +kernel
theorem dMo_onMany_35 : decode prog_10_method_68_code 35 = .ok (.ireturn, 1) := by decide +kernel
theorem dMo_orderValue_0 : decode prog_10_method_69_code 0 = .ok (.iload_n 1, 1) := by decide +kernel
theorem dMo_orderValue_1 : decode prog_10_method_69_code 1 = .ok (.tableswitch 109 14 20 #[43, 86, 94, 99, 104, 109, 64], 43) := by decide +kernel
theorem dMo_orderValue_44 : decode prog_10_method_69_code 44 = .ok (.aload_n 0, 1) := by decide +kernel
theorem dMo_orderValue_45 : decode prog_10_method_69_code 45 = .ok (.iload_n 2, 1) := by decide +kernel
theorem dMo_orderValue_46 : decode prog_10_method_69_code 46 = .ok (.invokevirtual 135, 3) := by decide +kernel
theorem dMo_orderValue_49 : decode prog_10_method_69_code 49 = .ok (.ifCond .eq 14, 3) := by decide +kernel
theorem dMo_orderValue_52 : decode prog_10_method_69_code 52 = .ok (.aload_n 0, 1) := by decide +kernel
theorem dMo_orderValue_53 : decode prog_10_method_69_code 53 = .ok (.getfield 28, 3) := by decide +kernel
theorem dMo_orderValue_56 : decode prog_10_method_69_code 56 = .ok (.iconst 0, 1) := by decide +kernel
theorem dMo_orderValue_57 : decode prog_10_method_69_code 57 = .ok (.iload_n 2, 1) := by decide +kernel
theorem dMo_orderValue_58 : decode prog_10_method_69_code 58 = .ok (.iadd, 1) := by decide +kernel
theorem dMo_orderValue_59 : decode prog_10_method_69_code 59 = .ok (.iaload, 1) := by decide +kernel
theorem dMo_orderValue_60 : decode prog_10_method_69_code 60 = .ok (.goto 4, 3) := by decide +kernel
theorem dMo_orderValue_63 : decode prog_10_method_69_code 63 = .ok (.iconst (-1), 1) := by decide +kernel
theorem dMo_orderValue_64 : decode prog_10_method_69_code 64 = .ok (.ireturn, 1) := by decide +kernel
theorem dMo_orderValue_65 : decode prog_10_method_69_code 65 = .ok (.aload_n 0, 1) := by decide +kernel
theorem dMo_orderValue_66 : decode prog_10_method_69_code 66 = .ok (.iload_n 2, 1) := by decide +kernel
theorem dMo_orderValue_67 : decode prog_10_method_69_code 67 = .ok (.invokevirtual 135, 3) := by decide +kernel
theorem dMo_orderValue_70 : decode prog_10_method_69_code 70 = .ok (.ifCond .eq 15, 3) := by decide +kernel
theorem dMo_orderValue_73 : decode prog_10_method_69_code 73 = .ok (.aload_n 0, 1) := by decide +kernel
theorem dMo_orderValue_74 : decode prog_10_method_69_code 74 = .ok (.getfield 28, 3) := by decide +kernel
theorem dMo_orderValue_77 : decode prog_10_method_69_code 77 = .ok (.bipush 7, 2) := by decide +kernel
theorem dMo_orderValue_79 : decode prog_10_method_69_code 79 = .ok (.iload_n 2, 1) := by decide +kernel
theorem dMo_orderValue_80 : decode prog_10_method_69_code 80 = .ok (.iadd, 1) := by decide +kernel
theorem dMo_orderValue_81 : decode prog_10_method_69_code 81 = .ok (.iaload, 1) := by decide +kernel
theorem dMo_orderValue_82 : decode prog_10_method_69_code 82 = .ok (.goto 4, 3) := by decide +kernel
theorem dMo_orderValue_85 : decode prog_10_method_69_code 85 = .ok (.iconst (-1), 1) := by decide +kernel
theorem dMo_orderValue_86 : decode prog_10_method_69_code 86 = .ok (.ireturn, 1) := by decide +kernel
theorem dMo_orderValue_87 : decode prog_10_method_69_code 87 = .ok (.aload_n 0, 1) := by decide +kernel
theorem dMo_orderValue_88 : decode prog_10_method_69_code 88 = .ok (.getfield 28, 3) := by decide +kernel
theorem dMo_orderValue_91 : decode prog_10_method_69_code 91 = .ok (.bipush 14, 2) := by decide +kernel
theorem dMo_orderValue_93 : decode prog_10_method_69_code 93 = .ok (.iaload, 1) := by decide +kernel
theorem dMo_orderValue_94 : decode prog_10_method_69_code 94 = .ok (.ireturn, 1) := by decide +kernel
theorem dMo_orderValue_95 : decode prog_10_method_69_code 95 = .ok (.aload_n 0, 1) := by decide +kernel
theorem dMo_orderValue_96 : decode prog_10_method_69_code 96 = .ok (.getfield 322, 3) := by decide +kernel
theorem dMo_orderValue_99 : decode prog_10_method_69_code 99 = .ok (.ireturn, 1) := by decide +kernel
theorem dMo_orderValue_100 : decode prog_10_method_69_code 100 = .ok (.aload_n 0, 1) := by decide +kernel
theorem dMo_orderValue_101 : decode prog_10_method_69_code 101 = .ok (.getfield 325, 3) := by decide +kernel
theorem dMo_orderValue_104 : decode prog_10_method_69_code 104 = .ok (.ireturn, 1) := by decide +kernel
theorem dMo_orderValue_105 : decode prog_10_method_69_code 105 = .ok (.aload_n 0, 1) := by decide +kernel
theorem dMo_orderValue_106 : decode prog_10_method_69_code 106 = .ok (.getfield 328, 3) := by decide +kernel
theorem dMo_orderValue_109 : decode prog_10_method_69_code 109 = .ok (.ireturn, 1) := by decide +kernel
theorem dMo_orderValue_110 : decode prog_10_method_69_code 110 = .ok (.aload_n 0, 1) := by decide +kernel
theorem dMo_orderValue_111 : decode prog_10_method_69_code 111 = .ok (.invokevirtual 331, 3) := by decide +kernel
theorem dMo_orderValue_114 : decode prog_10_method_69_code 114 = .ok (.ireturn, 1) := by decide +kernel
theorem dMo_setsAsked_0 : decode prog_10_method_74_code 0 = .ok (.aload_n 0, 1) := by decide +kernel
theorem dMo_setsAsked_1 : decode prog_10_method_74_code 1 = .ok (.getfield 63, 3) := by decide +kernel
theorem dMo_setsAsked_4 : decode prog_10_method_74_code 4 = .ok (.iconst 0, 1) := by decide +kernel
theorem dMo_setsAsked_5 : decode prog_10_method_74_code 5 = .ok (.iload_n 1, 1) := by decide +kernel
theorem dMo_setsAsked_6 : decode prog_10_method_74_code 6 = .ok (.iastore, 1) := by decide +kernel
theorem dMo_setsAsked_7 : decode prog_10_method_74_code 7 = .ok (.aload_n 0, 1) := by decide +kernel
theorem dMo_setsAsked_8 : decode prog_10_method_74_code 8 = .ok (.getfield 63, 3) := by decide +kernel
theorem dMo_setsAsked_11 : decode prog_10_method_74_code 11 = .ok (.iconst 1, 1) := by decide +kernel
theorem dMo_setsAsked_12 : decode prog_10_method_74_code 12 = .ok (.aload_n 0, 1) := by decide +kernel
theorem dMo_setsAsked_13 : decode prog_10_method_74_code 13 = .ok (.getfield 28, 3) := by decide +kernel
theorem dMo_setsAsked_16 : decode prog_10_method_74_code 16 = .ok (.bipush 15, 2) := by decide +kernel
theorem dMo_setsAsked_18 : decode prog_10_method_74_code 18 = .ok (.iload_n 1, 1) := by decide +kernel
theorem dMo_setsAsked_19 : decode prog_10_method_74_code 19 = .ok (.iadd, 1) := by decide +kernel
theorem dMo_setsAsked_20 : decode prog_10_method_74_code 20 = .ok (.iaload, 1) := by decide +kernel
theorem dMo_setsAsked_21 : decode prog_10_method_74_code 21 = .ok (.iastore, 1) := by decide +kernel
theorem dMo_setsAsked_22 : decode prog_10_method_74_code 22 = .ok (.aload_n 0, 1) := by decide +kernel
theorem dMo_setsAsked_23 : decode prog_10_method_74_code 23 = .ok (.getfield 63, 3) := by decide +kernel
theorem dMo_setsAsked_26 : decode prog_10_method_74_code 26 = .ok (.iconst 2, 1) := by decide +kernel
theorem dMo_setsAsked_27 : decode prog_10_method_74_code 27 = .ok (.iload_n 2, 1) := by decide +kernel
theorem dMo_setsAsked_28 : decode prog_10_method_74_code 28 = .ok (.iastore, 1) := by decide +kernel
theorem dMo_setsAsked_29 : decode prog_10_method_74_code 29 = .ok (.aload_n 0, 1) := by decide +kernel
theorem dMo_setsAsked_30 : decode prog_10_method_74_code 30 = .ok (.getfield 63, 3) := by decide +kernel
theorem dMo_setsAsked_33 : decode prog_10_method_74_code 33 = .ok (.iconst 3, 1) := by decide +kernel
theorem dMo_setsAsked_34 : decode prog_10_method_74_code 34 = .ok (.iload_n 2, 1) := by decide +kernel
theorem dMo_setsAsked_35 : decode prog_10_method_74_code 35 = .ok (.invokestatic 160, 3) := by decide +kernel
theorem dMo_setsAsked_38 : decode prog_10_method_74_code 38 = .ok (.iastore, 1) := by decide +kernel
theorem dMo_setsAsked_39 : decode prog_10_method_74_code 39 = .ok (.aload_n 0, 1) := by decide +kernel
theorem dMo_setsAsked_40 : decode prog_10_method_74_code 40 = .ok (.getfield 63, 3) := by decide +kernel
theorem dMo_setsAsked_43 : decode prog_10_method_74_code 43 = .ok (.iconst 4, 1) := by decide +kernel
theorem dMo_setsAsked_44 : decode prog_10_method_74_code 44 = .ok (.aload_n 0, 1) := by decide +kernel
theorem dMo_setsAsked_45 : decode prog_10_method_74_code 45 = .ok (.getfield 28, 3) := by decide +kernel
theorem dMo_setsAsked_48 : decode prog_10_method_74_code 48 = .ok (.bipush 41, 2) := by decide +kernel
theorem dMo_setsAsked_50 : decode prog_10_method_74_code 50 = .ok (.iaload, 1) := by decide +kernel
theorem dMo_setsAsked_51 : decode prog_10_method_74_code 51 = .ok (.iastore, 1) := by decide +kernel
theorem dMo_setsAsked_52 : decode prog_10_method_74_code 52 = .ok (.aload_n 0, 1) := by decide +kernel
theorem dMo_setsAsked_53 : decode prog_10_method_74_code 53 = .ok (.getfield 63, 3) := by decide +kernel
theorem dMo_setsAsked_56 : decode prog_10_method_74_code 56 = .ok (.iconst 5, 1) := by decide +kernel
theorem dMo_setsAsked_57 : decode prog_10_method_74_code 57 = .ok (.aload_n 0, 1) := by decide +kernel
theorem dMo_setsAsked_58 : decode prog_10_method_74_code 58 = .ok (.getfield 28, 3) := by decide +kernel
theorem dMo_setsAsked_61 : decode prog_10_method_74_code 61 = .ok (.bipush 42, 2) := by decide +kernel
theorem dMo_setsAsked_63 : decode prog_10_method_74_code 63 = .ok (.iaload, 1) := by decide +kernel
theorem dMo_setsAsked_64 : decode prog_10_method_74_code 64 = .ok (.iastore, 1) := by decide +kernel
theorem dMo_setsAsked_65 : decode prog_10_method_74_code 65 = .ok (.aload_n 0, 1) := by decide +kernel
theorem dMo_setsAsked_66 : decode prog_10_method_74_code 66 = .ok (.getfield 63, 3) := by decide +kernel
theorem dMo_setsAsked_69 : decode prog_10_method_74_code 69 = .ok (.bipush 6, 2) := by decide +kernel
theorem dMo_setsAsked_71 : decode prog_10_method_74_code 71 = .ok (.aload_n 0, 1) := by decide +kernel
theorem dMo_setsAsked_72 : decode prog_10_method_74_code 72 = .ok (.getfield 28, 3) := by decide +kernel
theorem dMo_setsAsked_75 : decode prog_10_method_74_code 75 = .ok (.iconst 0, 1) := by decide +kernel
theorem dMo_setsAsked_76 : decode prog_10_method_74_code 76 = .ok (.iload_n 1, 1) := by decide +kernel
theorem dMo_setsAsked_77 : decode prog_10_method_74_code 77 = .ok (.iadd, 1) := by decide +kernel
theorem dMo_setsAsked_78 : decode prog_10_method_74_code 78 = .ok (.iaload, 1) := by decide +kernel
theorem dMo_setsAsked_79 : decode prog_10_method_74_code 79 = .ok (.iastore, 1) := by decide +kernel
theorem dMo_setsAsked_80 : decode prog_10_method_74_code 80 = .ok (.aload_n 0, 1) := by decide +kernel
theorem dMo_setsAsked_81 : decode prog_10_method_74_code 81 = .ok (.getfield 63, 3) := by decide +kernel
theorem dMo_setsAsked_84 : decode prog_10_method_74_code 84 = .ok (.bipush 7, 2) := by decide +kernel
theorem dMo_setsAsked_86 : decode prog_10_method_74_code 86 = .ok (.aload_n 0, 1) := by decide +kernel
theorem dMo_setsAsked_87 : decode prog_10_method_74_code 87 = .ok (.getfield 28, 3) := by decide +kernel
theorem dMo_setsAsked_90 : decode prog_10_method_74_code 90 = .ok (.bipush 14, 2) := by decide +kernel
theorem dMo_setsAsked_92 : decode prog_10_method_74_code 92 = .ok (.iaload, 1) := by decide +kernel
theorem dMo_setsAsked_93 : decode prog_10_method_74_code 93 = .ok (.iastore, 1) := by decide +kernel
theorem dMo_setsAsked_94 : decode prog_10_method_74_code 94 = .ok (.return_, 1) := by decide +kernel
theorem dMo_isLevel_0 : decode prog_10_method_81_code 0 = .ok (.iload_n 1, 1) := by decide +kernel
theorem dMo_isLevel_1 : decode prog_10_method_81_code 1 = .ok (.invokestatic 163, 3) := by decide +kernel
theorem dMo_isLevel_4 : decode prog_10_method_81_code 4 = .ok (.aload_n 0, 1) := by decide +kernel
theorem dMo_isLevel_5 : decode prog_10_method_81_code 5 = .ok (.getfield 28, 3) := by decide +kernel
theorem dMo_isLevel_8 : decode prog_10_method_81_code 8 = .ok (.bipush 42, 2) := by decide +kernel
theorem dMo_isLevel_10 : decode prog_10_method_81_code 10 = .ok (.iaload, 1) := by decide +kernel
theorem dMo_isLevel_11 : decode prog_10_method_81_code 11 = .ok (.if_icmp .gt 7, 3) := by decide +kernel
theorem dMo_isLevel_14 : decode prog_10_method_81_code 14 = .ok (.iconst 1, 1) := by decide +kernel
theorem dMo_isLevel_15 : decode prog_10_method_81_code 15 = .ok (.goto 4, 3) := by decide +kernel
theorem dMo_isLevel_18 : decode prog_10_method_81_code 18 = .ok (.iconst 0, 1) := by decide +kernel
theorem dMo_isLevel_19 : decode prog_10_method_81_code 19 = .ok (.ireturn, 1) := by decide +kernel
theorem dMo_keeps_0 : decode prog_10_method_83_code 0 = .ok (.bipush 16, 2) := by decide +kernel
theorem dMo_keeps_2 : decode prog_10_method_83_code 2 = .ok (.istore_n 2, 1) := by decide +kernel
theorem dMo_keeps_3 : decode prog_10_method_83_code 3 = .ok (.aload_n 0, 1) := by decide +kernel
theorem dMo_keeps_4 : decode prog_10_method_83_code 4 = .ok (.getfield 11, 3) := by decide +kernel
theorem dMo_keeps_7 : decode prog_10_method_83_code 7 = .ok (.bipush 16, 2) := by decide +kernel
theorem dMo_keeps_9 : decode prog_10_method_83_code 9 = .ok (.if_icmp .ne 43, 3) := by decide +kernel
theorem dMo_keeps_12 : decode prog_10_method_83_code 12 = .ok (.iconst 0, 1) := by decide +kernel
theorem dMo_keeps_13 : decode prog_10_method_83_code 13 = .ok (.istore_n 3, 1) := by decide +kernel
theorem dMo_keeps_14 : decode prog_10_method_83_code 14 = .ok (.iload_n 3, 1) := by decide +kernel
theorem dMo_keeps_15 : decode prog_10_method_83_code 15 = .ok (.bipush 15, 2) := by decide +kernel
theorem dMo_keeps_17 : decode prog_10_method_83_code 17 = .ok (.iload_n 2, 1) := by decide +kernel
theorem dMo_keeps_18 : decode prog_10_method_83_code 18 = .ok (.imul, 1) := by decide +kernel
theorem dMo_keeps_19 : decode prog_10_method_83_code 19 = .ok (.if_icmp .ge 23, 3) := by decide +kernel
theorem dMo_keeps_22 : decode prog_10_method_83_code 22 = .ok (.aload_n 0, 1) := by decide +kernel
theorem dMo_keeps_23 : decode prog_10_method_83_code 23 = .ok (.getfield 69, 3) := by decide +kernel
theorem dMo_keeps_26 : decode prog_10_method_83_code 26 = .ok (.iload_n 3, 1) := by decide +kernel
theorem dMo_keeps_27 : decode prog_10_method_83_code 27 = .ok (.aload_n 0, 1) := by decide +kernel
theorem dMo_keeps_28 : decode prog_10_method_83_code 28 = .ok (.getfield 69, 3) := by decide +kernel
theorem dMo_keeps_31 : decode prog_10_method_83_code 31 = .ok (.iload_n 3, 1) := by decide +kernel
theorem dMo_keeps_32 : decode prog_10_method_83_code 32 = .ok (.iload_n 2, 1) := by decide +kernel
theorem dMo_keeps_33 : decode prog_10_method_83_code 33 = .ok (.iadd, 1) := by decide +kernel
theorem dMo_keeps_34 : decode prog_10_method_83_code 34 = .ok (.iaload, 1) := by decide +kernel
theorem dMo_keeps_35 : decode prog_10_method_83_code 35 = .ok (.iastore, 1) := by decide +kernel
theorem dMo_keeps_36 : decode prog_10_method_83_code 36 = .ok (.iinc 3 1, 3) := by decide +kernel
theorem dMo_keeps_39 : decode prog_10_method_83_code 39 = .ok (.goto (-25), 3) := by decide +kernel
theorem dMo_keeps_42 : decode prog_10_method_83_code 42 = .ok (.aload_n 0, 1) := by decide +kernel
theorem dMo_keeps_43 : decode prog_10_method_83_code 43 = .ok (.dup, 1) := by decide +kernel
theorem dMo_keeps_44 : decode prog_10_method_83_code 44 = .ok (.getfield 11, 3) := by decide +kernel
theorem dMo_keeps_47 : decode prog_10_method_83_code 47 = .ok (.iconst 1, 1) := by decide +kernel
theorem dMo_keeps_48 : decode prog_10_method_83_code 48 = .ok (.isub, 1) := by decide +kernel
theorem dMo_keeps_49 : decode prog_10_method_83_code 49 = .ok (.putfield 11, 3) := by decide +kernel
theorem dMo_keeps_52 : decode prog_10_method_83_code 52 = .ok (.iconst 0, 1) := by decide +kernel
theorem dMo_keeps_53 : decode prog_10_method_83_code 53 = .ok (.istore_n 3, 1) := by decide +kernel
theorem dMo_keeps_54 : decode prog_10_method_83_code 54 = .ok (.iload_n 3, 1) := by decide +kernel
theorem dMo_keeps_55 : decode prog_10_method_83_code 55 = .ok (.bipush 15, 2) := by decide +kernel
theorem dMo_keeps_57 : decode prog_10_method_83_code 57 = .ok (.if_icmp .ge 28, 3) := by decide +kernel
theorem dMo_keeps_60 : decode prog_10_method_83_code 60 = .ok (.aload_n 0, 1) := by decide +kernel
theorem dMo_keeps_61 : decode prog_10_method_83_code 61 = .ok (.getfield 69, 3) := by decide +kernel
theorem dMo_keeps_64 : decode prog_10_method_83_code 64 = .ok (.iload_n 2, 1) := by decide +kernel
theorem dMo_keeps_65 : decode prog_10_method_83_code 65 = .ok (.aload_n 0, 1) := by decide +kernel
theorem dMo_keeps_66 : decode prog_10_method_83_code 66 = .ok (.getfield 11, 3) := by decide +kernel
theorem dMo_keeps_69 : decode prog_10_method_83_code 69 = .ok (.imul, 1) := by decide +kernel
theorem dMo_keeps_70 : decode prog_10_method_83_code 70 = .ok (.iload_n 3, 1) := by decide +kernel
theorem dMo_keeps_71 : decode prog_10_method_83_code 71 = .ok (.iadd, 1) := by decide +kernel
theorem dMo_keeps_72 : decode prog_10_method_83_code 72 = .ok (.aload_n 0, 1) := by decide +kernel
theorem dMo_keeps_73 : decode prog_10_method_83_code 73 = .ok (.getfield 28, 3) := by decide +kernel
theorem dMo_keeps_76 : decode prog_10_method_83_code 76 = .ok (.iload_n 3, 1) := by decide +kernel
theorem dMo_keeps_77 : decode prog_10_method_83_code 77 = .ok (.iaload, 1) := by decide +kernel
theorem dMo_keeps_78 : decode prog_10_method_83_code 78 = .ok (.iastore, 1) := by decide +kernel
theorem dMo_keeps_79 : decode prog_10_method_83_code 79 = .ok (.iinc 3 1, 3) := by decide +kernel
theorem dMo_keeps_82 : decode prog_10_method_83_code 82 = .ok (.goto (-28), 3) := by decide +kernel
theorem dMo_keeps_85 : decode prog_10_method_83_code 85 = .ok (.aload_n 0, 1) := by decide +kernel
theorem dMo_keeps_86 : decode prog_10_method_83_code 86 = .ok (.getfield 69, 3) := by decide +kernel
theorem dMo_keeps_89 : decode prog_10_method_83_code 89 = .ok (.iload_n 2, 1) := by decide +kernel
theorem dMo_keeps_90 : decode prog_10_method_83_code 90 = .ok (.aload_n 0, 1) := by decide +kernel
theorem dMo_keeps_91 : decode prog_10_method_83_code 91 = .ok (.getfield 11, 3) := by decide +kernel
theorem dMo_keeps_94 : decode prog_10_method_83_code 94 = .ok (.imul, 1) := by decide +kernel
theorem dMo_keeps_95 : decode prog_10_method_83_code 95 = .ok (.bipush 15, 2) := by decide +kernel
theorem dMo_keeps_97 : decode prog_10_method_83_code 97 = .ok (.iadd, 1) := by decide +kernel
theorem dMo_keeps_98 : decode prog_10_method_83_code 98 = .ok (.iload_n 1, 1) := by decide +kernel
theorem dMo_keeps_99 : decode prog_10_method_83_code 99 = .ok (.iastore, 1) := by decide +kernel
theorem dMo_keeps_100 : decode prog_10_method_83_code 100 = .ok (.aload_n 0, 1) := by decide +kernel
theorem dMo_keeps_101 : decode prog_10_method_83_code 101 = .ok (.dup, 1) := by decide +kernel
theorem dMo_keeps_102 : decode prog_10_method_83_code 102 = .ok (.getfield 11, 3) := by decide +kernel
theorem dMo_keeps_105 : decode prog_10_method_83_code 105 = .ok (.iconst 1, 1) := by decide +kernel
theorem dMo_keeps_106 : decode prog_10_method_83_code 106 = .ok (.iadd, 1) := by decide +kernel
theorem dMo_keeps_107 : decode prog_10_method_83_code 107 = .ok (.putfield 11, 3) := by decide +kernel
theorem dMo_keeps_110 : decode prog_10_method_83_code 110 = .ok (.return_, 1) := by decide +kernel
theorem dMo_undo_0 : decode prog_10_method_84_code 0 = .ok (.aload_n 0, 1) := by decide +kernel
theorem dMo_undo_1 : decode prog_10_method_84_code 1 = .ok (.getfield 11, 3) := by decide +kernel
theorem dMo_undo_4 : decode prog_10_method_84_code 4 = .ok (.ifCond .ne 10, 3) := by decide +kernel
theorem dMo_undo_7 : decode prog_10_method_84_code 7 = .ok (.aload_n 0, 1) := by decide +kernel
theorem dMo_undo_8 : decode prog_10_method_84_code 8 = .ok (.bipush (-3), 2) := by decide +kernel
theorem dMo_undo_10 : decode prog_10_method_84_code 10 = .ok (.invokevirtual 113, 3) := by decide +kernel
theorem dMo_undo_13 : decode prog_10_method_84_code 13 = .ok (.ireturn, 1) := by decide +kernel
theorem dMo_undo_14 : decode prog_10_method_84_code 14 = .ok (.aload_n 0, 1) := by decide +kernel
theorem dMo_undo_15 : decode prog_10_method_84_code 15 = .ok (.dup, 1) := by decide +kernel
theorem dMo_undo_16 : decode prog_10_method_84_code 16 = .ok (.getfield 11, 3) := by decide +kernel
theorem dMo_undo_19 : decode prog_10_method_84_code 19 = .ok (.iconst 1, 1) := by decide +kernel
theorem dMo_undo_20 : decode prog_10_method_84_code 20 = .ok (.isub, 1) := by decide +kernel
theorem dMo_undo_21 : decode prog_10_method_84_code 21 = .ok (.putfield 11, 3) := by decide +kernel
theorem dMo_undo_24 : decode prog_10_method_84_code 24 = .ok (.bipush 16, 2) := by decide +kernel
theorem dMo_undo_26 : decode prog_10_method_84_code 26 = .ok (.aload_n 0, 1) := by decide +kernel
theorem dMo_undo_27 : decode prog_10_method_84_code 27 = .ok (.getfield 11, 3) := by decide +kernel
theorem dMo_undo_30 : decode prog_10_method_84_code 30 = .ok (.imul, 1) := by decide +kernel
theorem dMo_undo_31 : decode prog_10_method_84_code 31 = .ok (.istore_n 1, 1) := by decide +kernel
theorem dMo_undo_32 : decode prog_10_method_84_code 32 = .ok (.iconst 0, 1) := by decide +kernel
theorem dMo_undo_33 : decode prog_10_method_84_code 33 = .ok (.istore_n 2, 1) := by decide +kernel
theorem dMo_undo_34 : decode prog_10_method_84_code 34 = .ok (.iload_n 2, 1) := by decide +kernel
theorem dMo_undo_35 : decode prog_10_method_84_code 35 = .ok (.bipush 15, 2) := by decide +kernel
theorem dMo_undo_37 : decode prog_10_method_84_code 37 = .ok (.if_icmp .ge 23, 3) := by decide +kernel
theorem dMo_undo_40 : decode prog_10_method_84_code 40 = .ok (.aload_n 0, 1) := by decide +kernel
theorem dMo_undo_41 : decode prog_10_method_84_code 41 = .ok (.getfield 28, 3) := by decide +kernel
theorem dMo_undo_44 : decode prog_10_method_84_code 44 = .ok (.iload_n 2, 1) := by decide +kernel
theorem dMo_undo_45 : decode prog_10_method_84_code 45 = .ok (.aload_n 0, 1) := by decide +kernel
theorem dMo_undo_46 : decode prog_10_method_84_code 46 = .ok (.getfield 69, 3) := by decide +kernel
theorem dMo_undo_49 : decode prog_10_method_84_code 49 = .ok (.iload_n 1, 1) := by decide +kernel
theorem dMo_undo_50 : decode prog_10_method_84_code 50 = .ok (.iload_n 2, 1) := by decide +kernel
theorem dMo_undo_51 : decode prog_10_method_84_code 51 = .ok (.iadd, 1) := by decide +kernel
theorem dMo_undo_52 : decode prog_10_method_84_code 52 = .ok (.iaload, 1) := by decide +kernel
theorem dMo_undo_53 : decode prog_10_method_84_code 53 = .ok (.iastore, 1) := by decide +kernel
theorem dMo_undo_54 : decode prog_10_method_84_code 54 = .ok (.iinc 2 1, 3) := by decide +kernel
theorem dMo_undo_57 : decode prog_10_method_84_code 57 = .ok (.goto (-23), 3) := by decide +kernel
theorem dMo_undo_60 : decode prog_10_method_84_code 60 = .ok (.aload_n 0, 1) := by decide +kernel
theorem dMo_undo_61 : decode prog_10_method_84_code 61 = .ok (.aload_n 0, 1) := by decide +kernel
theorem dMo_undo_62 : decode prog_10_method_84_code 62 = .ok (.getfield 69, 3) := by decide +kernel
theorem dMo_undo_65 : decode prog_10_method_84_code 65 = .ok (.iload_n 1, 1) := by decide +kernel
theorem dMo_undo_66 : decode prog_10_method_84_code 66 = .ok (.bipush 15, 2) := by decide +kernel
theorem dMo_undo_68 : decode prog_10_method_84_code 68 = .ok (.iadd, 1) := by decide +kernel
theorem dMo_undo_69 : decode prog_10_method_84_code 69 = .ok (.iaload, 1) := by decide +kernel
theorem dMo_undo_70 : decode prog_10_method_84_code 70 = .ok (.invokevirtual 14, 3) := by decide +kernel
theorem dMo_undo_73 : decode prog_10_method_84_code 73 = .ok (.ireturn, 1) := by decide +kernel
theorem dMo_goodOr_0 : decode prog_10_method_85_code 0 = .ok (.iload_n 1, 1) := by decide +kernel
theorem dMo_goodOr_1 : decode prog_10_method_85_code 1 = .ok (.ifCond .ge 11, 3) := by decide +kernel
theorem dMo_goodOr_4 : decode prog_10_method_85_code 4 = .ok (.aload_n 0, 1) := by decide +kernel
theorem dMo_goodOr_5 : decode prog_10_method_85_code 5 = .ok (.iload_n 1, 1) := by decide +kernel
theorem dMo_goodOr_6 : decode prog_10_method_85_code 6 = .ok (.invokevirtual 113, 3) := by decide +kernel
theorem dMo_goodOr_9 : decode prog_10_method_85_code 9 = .ok (.goto 8, 3) := by decide +kernel
theorem dMo_goodOr_12 : decode prog_10_method_85_code 12 = .ok (.aload_n 0, 1) := by decide +kernel
theorem dMo_goodOr_13 : decode prog_10_method_85_code 13 = .ok (.iload_n 1, 1) := by decide +kernel
theorem dMo_goodOr_14 : decode prog_10_method_85_code 14 = .ok (.invokevirtual 14, 3) := by decide +kernel
theorem dMo_goodOr_17 : decode prog_10_method_85_code 17 = .ok (.ireturn, 1) := by decide +kernel
theorem dMo_padsKept_0 : decode prog_10_method_89_code 0 = .ok (.iload_n 2, 1) := by decide +kernel
theorem dMo_padsKept_1 : decode prog_10_method_89_code 1 = .ok (.invokestatic 123, 3) := by decide +kernel
theorem dMo_padsKept_4 : decode prog_10_method_89_code 4 = .ok (.ifCond .ne 5, 3) := by decide +kernel
theorem dMo_padsKept_7 : decode prog_10_method_89_code 7 = .ok (.iconst (-1), 1) := by decide +kernel
theorem dMo_padsKept_8 : decode prog_10_method_89_code 8 = .ok (.ireturn, 1) := by decide +kernel
theorem dMo_padsKept_9 : decode prog_10_method_89_code 9 = .ok (.aload_n 0, 1) := by decide +kernel
theorem dMo_padsKept_10 : decode prog_10_method_89_code 10 = .ok (.iload_n 1, 1) := by decide +kernel
theorem dMo_padsKept_11 : decode prog_10_method_89_code 11 = .ok (.invokevirtual 135, 3) := by decide +kernel
theorem dMo_padsKept_14 : decode prog_10_method_89_code 14 = .ok (.ifCond .ne 6, 3) := by decide +kernel
theorem dMo_padsKept_17 : decode prog_10_method_89_code 17 = .ok (.bipush (-2), 2) := by decide +kernel
theorem dMo_padsKept_19 : decode prog_10_method_89_code 19 = .ok (.ireturn, 1) := by decide +kernel
theorem dMo_padsKept_20 : decode prog_10_method_89_code 20 = .ok (.aload_n 0, 1) := by decide +kernel
theorem dMo_padsKept_21 : decode prog_10_method_89_code 21 = .ok (.getfield 28, 3) := by decide +kernel
theorem dMo_padsKept_24 : decode prog_10_method_89_code 24 = .ok (.iconst 0, 1) := by decide +kernel
theorem dMo_padsKept_25 : decode prog_10_method_89_code 25 = .ok (.iload_n 1, 1) := by decide +kernel
theorem dMo_padsKept_26 : decode prog_10_method_89_code 26 = .ok (.iadd, 1) := by decide +kernel
theorem dMo_padsKept_27 : decode prog_10_method_89_code 27 = .ok (.iaload, 1) := by decide +kernel
theorem dMo_padsKept_28 : decode prog_10_method_89_code 28 = .ok (.istore_n 3, 1) := by decide +kernel
theorem dMo_padsKept_29 : decode prog_10_method_89_code 29 = .ok (.iload_n 3, 1) := by decide +kernel
theorem dMo_padsKept_30 : decode prog_10_method_89_code 30 = .ok (.iload_n 2, 1) := by decide +kernel
theorem dMo_padsKept_31 : decode prog_10_method_89_code 31 = .ok (.if_icmp .ne 6, 3) := by decide +kernel
theorem dMo_padsKept_34 : decode prog_10_method_89_code 34 = .ok (.bipush (-3), 2) := by decide +kernel
theorem dMo_padsKept_36 : decode prog_10_method_89_code 36 = .ok (.ireturn, 1) := by decide +kernel
theorem dMo_padsKept_37 : decode prog_10_method_89_code 37 = .ok (.aload_n 0, 1) := by decide +kernel
theorem dMo_padsKept_38 : decode prog_10_method_89_code 38 = .ok (.iconst 2, 1) := by decide +kernel
theorem dMo_padsKept_39 : decode prog_10_method_89_code 39 = .ok (.invokevirtual 359, 3) := by decide +kernel
theorem dMo_padsKept_42 : decode prog_10_method_89_code 42 = .ok (.aload_n 0, 1) := by decide +kernel
theorem dMo_padsKept_43 : decode prog_10_method_89_code 43 = .ok (.getfield 28, 3) := by decide +kernel
theorem dMo_padsKept_46 : decode prog_10_method_89_code 46 = .ok (.iconst 0, 1) := by decide +kernel
theorem dMo_padsKept_47 : decode prog_10_method_89_code 47 = .ok (.iload_n 1, 1) := by decide +kernel
theorem dMo_padsKept_48 : decode prog_10_method_89_code 48 = .ok (.iadd, 1) := by decide +kernel
theorem dMo_padsKept_49 : decode prog_10_method_89_code 49 = .ok (.iload_n 2, 1) := by decide +kernel
theorem dMo_padsKept_50 : decode prog_10_method_89_code 50 = .ok (.iastore, 1) := by decide +kernel
theorem dMo_padsKept_51 : decode prog_10_method_89_code 51 = .ok (.iload_n 3, 1) := by decide +kernel
theorem dMo_padsKept_52 : decode prog_10_method_89_code 52 = .ok (.ireturn, 1) := by decide +kernel
theorem dMo_pad_0 : decode prog_10_method_93_code 0 = .ok (.aload_n 0, 1) := by decide +kernel
theorem dMo_pad_1 : decode prog_10_method_93_code 1 = .ok (.aload_n 0, 1) := by decide +kernel
theorem dMo_pad_2 : decode prog_10_method_93_code 2 = .ok (.iload_n 1, 1) := by decide +kernel
theorem dMo_pad_3 : decode prog_10_method_93_code 3 = .ok (.iload_n 2, 1) := by decide +kernel
theorem dMo_pad_4 : decode prog_10_method_93_code 4 = .ok (.invokevirtual 374, 3) := by decide +kernel
theorem dMo_pad_7 : decode prog_10_method_93_code 7 = .ok (.invokevirtual 368, 3) := by decide +kernel
theorem dMo_pad_10 : decode prog_10_method_93_code 10 = .ok (.ireturn, 1) := by decide +kernel
theorem dMo_canRow_0 : decode prog_10_method_96_code 0 = .ok (.aload_n 0, 1) := by decide +kernel
theorem dMo_canRow_1 : decode prog_10_method_96_code 1 = .ok (.getfield 28, 3) := by decide +kernel
theorem dMo_canRow_4 : decode prog_10_method_96_code 4 = .ok (.bipush 7, 2) := by decide +kernel
theorem dMo_canRow_6 : decode prog_10_method_96_code 6 = .ok (.iload_n 1, 1) := by decide +kernel
theorem dMo_canRow_7 : decode prog_10_method_96_code 7 = .ok (.iadd, 1) := by decide +kernel
theorem dMo_canRow_8 : decode prog_10_method_96_code 8 = .ok (.iaload, 1) := by decide +kernel
theorem dMo_canRow_9 : decode prog_10_method_96_code 9 = .ok (.iload_n 2, 1) := by decide +kernel
theorem dMo_canRow_10 : decode prog_10_method_96_code 10 = .ok (.if_icmp .ne 7, 3) := by decide +kernel
theorem dMo_canRow_13 : decode prog_10_method_96_code 13 = .ok (.iconst 1, 1) := by decide +kernel
theorem dMo_canRow_14 : decode prog_10_method_96_code 14 = .ok (.goto 4, 3) := by decide +kernel
theorem dMo_canRow_17 : decode prog_10_method_96_code 17 = .ok (.iconst 0, 1) := by decide +kernel
theorem dMo_canRow_18 : decode prog_10_method_96_code 18 = .ok (.istore_n 3, 1) := by decide +kernel
theorem dMo_canRow_19 : decode prog_10_method_96_code 19 = .ok (.aload_n 0, 1) := by decide +kernel
theorem dMo_canRow_20 : decode prog_10_method_96_code 20 = .ok (.getfield 380, 3) := by decide +kernel
theorem dMo_canRow_23 : decode prog_10_method_96_code 23 = .ok (.iconst 2, 1) := by decide +kernel
theorem dMo_canRow_24 : decode prog_10_method_96_code 24 = .ok (.if_icmp .ne 11, 3) := by decide +kernel
theorem dMo_canRow_27 : decode prog_10_method_96_code 27 = .ok (.aload_n 0, 1) := by decide +kernel
theorem dMo_canRow_28 : decode prog_10_method_96_code 28 = .ok (.iload_n 1, 1) := by decide +kernel
theorem dMo_canRow_29 : decode prog_10_method_96_code 29 = .ok (.invokevirtual 138, 3) := by decide +kernel
theorem dMo_canRow_32 : decode prog_10_method_96_code 32 = .ok (.goto 16, 3) := by decide +kernel
theorem dMo_canRow_35 : decode prog_10_method_96_code 35 = .ok (.aload_n 0, 1) := by decide +kernel
theorem dMo_canRow_36 : decode prog_10_method_96_code 36 = .ok (.iload_n 1, 1) := by decide +kernel
theorem dMo_canRow_37 : decode prog_10_method_96_code 37 = .ok (.invokevirtual 138, 3) := by decide +kernel
theorem dMo_canRow_40 : decode prog_10_method_96_code 40 = .ok (.ifCond .ne 7, 3) := by decide +kernel
theorem dMo_canRow_43 : decode prog_10_method_96_code 43 = .ok (.iconst 1, 1) := by decide +kernel
theorem dMo_canRow_44 : decode prog_10_method_96_code 44 = .ok (.goto 4, 3) := by decide +kernel
theorem dMo_canRow_47 : decode prog_10_method_96_code 47 = .ok (.iconst 0, 1) := by decide +kernel
theorem dMo_canRow_48 : decode prog_10_method_96_code 48 = .ok (.istore 4, 2) := by decide +kernel
theorem dMo_canRow_50 : decode prog_10_method_96_code 50 = .ok (.iload_n 3, 1) := by decide +kernel
theorem dMo_canRow_51 : decode prog_10_method_96_code 51 = .ok (.ifCond .ne 22, 3) := by decide +kernel
theorem dMo_canRow_54 : decode prog_10_method_96_code 54 = .ok (.iload 4, 2) := by decide +kernel
theorem dMo_canRow_56 : decode prog_10_method_96_code 56 = .ok (.ifCond .eq 21, 3) := by decide +kernel
theorem dMo_canRow_59 : decode prog_10_method_96_code 59 = .ok (.aload_n 0, 1) := by decide +kernel
theorem dMo_canRow_60 : decode prog_10_method_96_code 60 = .ok (.getfield 78, 3) := by decide +kernel
theorem dMo_canRow_63 : decode prog_10_method_96_code 63 = .ok (.bipush 7, 2) := by decide +kernel
theorem dMo_canRow_65 : decode prog_10_method_96_code 65 = .ok (.iload_n 1, 1) := by decide +kernel
theorem dMo_canRow_66 : decode prog_10_method_96_code 66 = .ok (.imul, 1) := by decide +kernel
theorem dMo_canRow_67 : decode prog_10_method_96_code 67 = .ok (.iload_n 2, 1) := by decide +kernel
theorem dMo_canRow_68 : decode prog_10_method_96_code 68 = .ok (.iadd, 1) := by decide +kernel
theorem dMo_canRow_69 : decode prog_10_method_96_code 69 = .ok (.baload, 1) := by decide +kernel
theorem dMo_canRow_70 : decode prog_10_method_96_code 70 = .ok (.ifCond .ne 7, 3) := by decide +kernel
theorem dMo_canRow_73 : decode prog_10_method_96_code 73 = .ok (.iconst 1, 1) := by decide +kernel
theorem dMo_canRow_74 : decode prog_10_method_96_code 74 = .ok (.goto 4, 3) := by decide +kernel
theorem dMo_canRow_77 : decode prog_10_method_96_code 77 = .ok (.iconst 0, 1) := by decide +kernel
theorem dMo_canRow_78 : decode prog_10_method_96_code 78 = .ok (.ireturn, 1) := by decide +kernel
theorem dMo_endsAt_0 : decode prog_10_method_97_code 0 = .ok (.aload_n 0, 1) := by decide +kernel
theorem dMo_endsAt_1 : decode prog_10_method_97_code 1 = .ok (.getfield 380, 3) := by decide +kernel
theorem dMo_endsAt_4 : decode prog_10_method_97_code 4 = .ok (.tableswitch 48 0 2 #[28, 43, 28], 28) := by decide +kernel
theorem dMo_endsAt_32 : decode prog_10_method_97_code 32 = .ok (.aload_n 0, 1) := by decide +kernel
theorem dMo_endsAt_33 : decode prog_10_method_97_code 33 = .ok (.iload_n 1, 1) := by decide +kernel
theorem dMo_endsAt_34 : decode prog_10_method_97_code 34 = .ok (.invokevirtual 166, 3) := by decide +kernel
theorem dMo_endsAt_37 : decode prog_10_method_97_code 37 = .ok (.ifCond .eq 7, 3) := by decide +kernel
theorem dMo_endsAt_40 : decode prog_10_method_97_code 40 = .ok (.iconst 0, 1) := by decide +kernel
theorem dMo_endsAt_41 : decode prog_10_method_97_code 41 = .ok (.goto 5, 3) := by decide +kernel
theorem dMo_endsAt_44 : decode prog_10_method_97_code 44 = .ok (.ldc 193, 2) := by decide +kernel
theorem dMo_endsAt_46 : decode prog_10_method_97_code 46 = .ok (.ireturn, 1) := by decide +kernel
theorem dMo_endsAt_47 : decode prog_10_method_97_code 47 = .ok (.iload_n 1, 1) := by decide +kernel
theorem dMo_endsAt_48 : decode prog_10_method_97_code 48 = .ok (.invokestatic 163, 3) := by decide +kernel
theorem dMo_endsAt_51 : decode prog_10_method_97_code 51 = .ok (.ireturn, 1) := by decide +kernel
theorem dMo_endsAt_52 : decode prog_10_method_97_code 52 = .ok (.aload_n 0, 1) := by decide +kernel
theorem dMo_endsAt_53 : decode prog_10_method_97_code 53 = .ok (.iload_n 1, 1) := by decide +kernel
theorem dMo_endsAt_54 : decode prog_10_method_97_code 54 = .ok (.invokevirtual 166, 3) := by decide +kernel
theorem dMo_endsAt_57 : decode prog_10_method_97_code 57 = .ok (.ifCond .eq 7, 3) := by decide +kernel
theorem dMo_endsAt_60 : decode prog_10_method_97_code 60 = .ok (.iconst 1, 1) := by decide +kernel
theorem dMo_endsAt_61 : decode prog_10_method_97_code 61 = .ok (.goto 4, 3) := by decide +kernel
theorem dMo_endsAt_64 : decode prog_10_method_97_code 64 = .ok (.iconst 0, 1) := by decide +kernel
theorem dMo_endsAt_65 : decode prog_10_method_97_code 65 = .ok (.ireturn, 1) := by decide +kernel
theorem dMo_bestAt_0 : decode prog_10_method_98_code 0 = .ok (.aload_n 0, 1) := by decide +kernel
theorem dMo_bestAt_1 : decode prog_10_method_98_code 1 = .ok (.getfield 82, 3) := by decide +kernel
theorem dMo_bestAt_4 : decode prog_10_method_98_code 4 = .ok (.sipush 4201, 3) := by decide +kernel
theorem dMo_bestAt_7 : decode prog_10_method_98_code 7 = .ok (.iload_n 1, 1) := by decide +kernel
theorem dMo_bestAt_8 : decode prog_10_method_98_code 8 = .ok (.imul, 1) := by decide +kernel
theorem dMo_bestAt_9 : decode prog_10_method_98_code 9 = .ok (.sipush 2100, 3) := by decide +kernel
theorem dMo_bestAt_12 : decode prog_10_method_98_code 12 = .ok (.iadd, 1) := by decide +kernel
theorem dMo_bestAt_13 : decode prog_10_method_98_code 13 = .ok (.iload_n 2, 1) := by decide +kernel
theorem dMo_bestAt_14 : decode prog_10_method_98_code 14 = .ok (.iadd, 1) := by decide +kernel
theorem dMo_bestAt_15 : decode prog_10_method_98_code 15 = .ok (.iaload, 1) := by decide +kernel
theorem dMo_bestAt_16 : decode prog_10_method_98_code 16 = .ok (.ireturn, 1) := by decide +kernel
theorem dMo_bestBy_0 : decode prog_10_method_99_code 0 = .ok (.aload_n 0, 1) := by decide +kernel
theorem dMo_bestBy_1 : decode prog_10_method_99_code 1 = .ok (.iload_n 1, 1) := by decide +kernel
theorem dMo_bestBy_2 : decode prog_10_method_99_code 2 = .ok (.iconst 1, 1) := by decide +kernel
theorem dMo_bestBy_3 : decode prog_10_method_99_code 3 = .ok (.iadd, 1) := by decide +kernel
theorem dMo_bestBy_4 : decode prog_10_method_99_code 4 = .ok (.iload_n 3, 1) := by decide +kernel
theorem dMo_bestBy_5 : decode prog_10_method_99_code 5 = .ok (.aload_n 0, 1) := by decide +kernel
theorem dMo_bestBy_6 : decode prog_10_method_99_code 6 = .ok (.getfield 75, 3) := by decide +kernel
theorem dMo_bestBy_9 : decode prog_10_method_99_code 9 = .ok (.bipush 7, 2) := by decide +kernel
theorem dMo_bestBy_11 : decode prog_10_method_99_code 11 = .ok (.iload_n 1, 1) := by decide +kernel
theorem dMo_bestBy_12 : decode prog_10_method_99_code 12 = .ok (.imul, 1) := by decide +kernel
theorem dMo_bestBy_13 : decode prog_10_method_99_code 13 = .ok (.iload_n 2, 1) := by decide +kernel
theorem dMo_bestBy_14 : decode prog_10_method_99_code 14 = .ok (.iadd, 1) := by decide +kernel
theorem dMo_bestBy_15 : decode prog_10_method_99_code 15 = .ok (.iaload, 1) := by decide +kernel
theorem dMo_bestBy_16 : decode prog_10_method_99_code 16 = .ok (.iadd, 1) := by decide +kernel
theorem dMo_bestBy_17 : decode prog_10_method_99_code 17 = .ok (.invokevirtual 383, 3) := by decide +kernel
theorem dMo_bestBy_20 : decode prog_10_method_99_code 20 = .ok (.istore 4, 2) := by decide +kernel
theorem dMo_bestBy_22 : decode prog_10_method_99_code 22 = .ok (.aload_n 0, 1) := by decide +kernel
theorem dMo_bestBy_23 : decode prog_10_method_99_code 23 = .ok (.getfield 380, 3) := by decide +kernel
theorem dMo_bestBy_26 : decode prog_10_method_99_code 26 = .ok (.iconst 2, 1) := by decide +kernel
theorem dMo_bestBy_27 : decode prog_10_method_99_code 27 = .ok (.if_icmp .ne 28, 3) := by decide +kernel
theorem dMo_bestBy_30 : decode prog_10_method_99_code 30 = .ok (.aload_n 0, 1) := by decide +kernel
theorem dMo_bestBy_31 : decode prog_10_method_99_code 31 = .ok (.getfield 28, 3) := by decide +kernel
theorem dMo_bestBy_34 : decode prog_10_method_99_code 34 = .ok (.bipush 7, 2) := by decide +kernel
theorem dMo_bestBy_36 : decode prog_10_method_99_code 36 = .ok (.iload_n 1, 1) := by decide +kernel
theorem dMo_bestBy_37 : decode prog_10_method_99_code 37 = .ok (.iadd, 1) := by decide +kernel
theorem dMo_bestBy_38 : decode prog_10_method_99_code 38 = .ok (.iaload, 1) := by decide +kernel
theorem dMo_bestBy_39 : decode prog_10_method_99_code 39 = .ok (.iload_n 2, 1) := by decide +kernel
theorem dMo_bestBy_40 : decode prog_10_method_99_code 40 = .ok (.if_icmp .eq 15, 3) := by decide +kernel
theorem dMo_bestBy_43 : decode prog_10_method_99_code 43 = .ok (.ldc 193, 2) := by decide +kernel
theorem dMo_bestBy_45 : decode prog_10_method_99_code 45 = .ok (.iload 4, 2) := by decide +kernel
theorem dMo_bestBy_47 : decode prog_10_method_99_code 47 = .ok (.iconst 1, 1) := by decide +kernel
theorem dMo_bestBy_48 : decode prog_10_method_99_code 48 = .ok (.iadd, 1) := by decide +kernel
theorem dMo_bestBy_49 : decode prog_10_method_99_code 49 = .ok (.invokestatic 386, 3) := by decide +kernel
theorem dMo_bestBy_52 : decode prog_10_method_99_code 52 = .ok (.goto 5, 3) := by decide +kernel
theorem dMo_bestBy_55 : decode prog_10_method_99_code 55 = .ok (.iload 4, 2) := by decide +kernel
theorem dMo_bestBy_57 : decode prog_10_method_99_code 57 = .ok (.ireturn, 1) := by decide +kernel
theorem dMo_staysOff_0 : decode prog_10_method_100_code 0 = .ok (.aload_n 0, 1) := by decide +kernel
theorem dMo_staysOff_1 : decode prog_10_method_100_code 1 = .ok (.getfield 380, 3) := by decide +kernel
theorem dMo_staysOff_4 : decode prog_10_method_100_code 4 = .ok (.iconst 2, 1) := by decide +kernel
theorem dMo_staysOff_5 : decode prog_10_method_100_code 5 = .ok (.if_icmp .ne 15, 3) := by decide +kernel
theorem dMo_staysOff_8 : decode prog_10_method_100_code 8 = .ok (.aload_n 0, 1) := by decide +kernel
theorem dMo_staysOff_9 : decode prog_10_method_100_code 9 = .ok (.iload_n 1, 1) := by decide +kernel
theorem dMo_staysOff_10 : decode prog_10_method_100_code 10 = .ok (.invokevirtual 138, 3) := by decide +kernel
theorem dMo_staysOff_13 : decode prog_10_method_100_code 13 = .ok (.ifCond .ne 7, 3) := by decide +kernel
theorem dMo_staysOff_16 : decode prog_10_method_100_code 16 = .ok (.iconst 1, 1) := by decide +kernel
theorem dMo_staysOff_17 : decode prog_10_method_100_code 17 = .ok (.goto 4, 3) := by decide +kernel
theorem dMo_staysOff_20 : decode prog_10_method_100_code 20 = .ok (.iconst 0, 1) := by decide +kernel
theorem dMo_staysOff_21 : decode prog_10_method_100_code 21 = .ok (.ireturn, 1) := by decide +kernel
theorem dMo_bestOf_0 : decode prog_10_method_101_code 0 = .ok (.aload_n 0, 1) := by decide +kernel
theorem dMo_bestOf_1 : decode prog_10_method_101_code 1 = .ok (.iload_n 1, 1) := by decide +kernel
theorem dMo_bestOf_2 : decode prog_10_method_101_code 2 = .ok (.invokevirtual 389, 3) := by decide +kernel
theorem dMo_bestOf_5 : decode prog_10_method_101_code 5 = .ok (.ifCond .eq 12, 3) := by decide +kernel
theorem dMo_bestOf_8 : decode prog_10_method_101_code 8 = .ok (.aload_n 0, 1) := by decide +kernel
theorem dMo_bestOf_9 : decode prog_10_method_101_code 9 = .ok (.iload_n 1, 1) := by decide +kernel
theorem dMo_bestOf_10 : decode prog_10_method_101_code 10 = .ok (.iconst 1, 1) := by decide +kernel
theorem dMo_bestOf_11 : decode prog_10_method_101_code 11 = .ok (.iadd, 1) := by decide +kernel
theorem dMo_bestOf_12 : decode prog_10_method_101_code 12 = .ok (.iload_n 2, 1) := by decide +kernel
theorem dMo_bestOf_13 : decode prog_10_method_101_code 13 = .ok (.invokevirtual 383, 3) := by decide +kernel
theorem dMo_bestOf_16 : decode prog_10_method_101_code 16 = .ok (.ireturn, 1) := by decide +kernel
theorem dMo_bestOf_17 : decode prog_10_method_101_code 17 = .ok (.aload_n 0, 1) := by decide +kernel
theorem dMo_bestOf_18 : decode prog_10_method_101_code 18 = .ok (.getfield 380, 3) := by decide +kernel
theorem dMo_bestOf_21 : decode prog_10_method_101_code 21 = .ok (.iconst 3, 1) := by decide +kernel
theorem dMo_bestOf_22 : decode prog_10_method_101_code 22 = .ok (.if_icmp .ne 7, 3) := by decide +kernel
theorem dMo_bestOf_25 : decode prog_10_method_101_code 25 = .ok (.iconst 0, 1) := by decide +kernel
theorem dMo_bestOf_26 : decode prog_10_method_101_code 26 = .ok (.goto 5, 3) := by decide +kernel
theorem dMo_bestOf_29 : decode prog_10_method_101_code 29 = .ok (.ldc 193, 2) := by decide +kernel
theorem dMo_bestOf_31 : decode prog_10_method_101_code 31 = .ok (.istore_n 3, 1) := by decide +kernel
theorem dMo_bestOf_32 : decode prog_10_method_101_code 32 = .ok (.iconst 0, 1) := by decide +kernel
theorem dMo_bestOf_33 : decode prog_10_method_101_code 33 = .ok (.istore 4, 2) := by decide +kernel
theorem dMo_bestOf_35 : decode prog_10_method_101_code 35 = .ok (.iload 4, 2) := by decide +kernel
theorem dMo_bestOf_37 : decode prog_10_method_101_code 37 = .ok (.bipush 7, 2) := by decide +kernel
theorem dMo_bestOf_39 : decode prog_10_method_101_code 39 = .ok (.if_icmp .ge 54, 3) := by decide +kernel
theorem dMo_bestOf_42 : decode prog_10_method_101_code 42 = .ok (.aload_n 0, 1) := by decide +kernel
theorem dMo_bestOf_43 : decode prog_10_method_101_code 43 = .ok (.iload_n 1, 1) := by decide +kernel
theorem dMo_bestOf_44 : decode prog_10_method_101_code 44 = .ok (.iload 4, 2) := by decide +kernel
theorem dMo_bestOf_46 : decode prog_10_method_101_code 46 = .ok (.invokevirtual 392, 3) := by decide +kernel
theorem dMo_bestOf_49 : decode prog_10_method_101_code 49 = .ok (.ifCond .ne 6, 3) := by decide +kernel
theorem dMo_bestOf_52 : decode prog_10_method_101_code 52 = .ok (.goto 35, 3) := by decide +kernel
theorem dMo_bestOf_55 : decode prog_10_method_101_code 55 = .ok (.aload_n 0, 1) := by decide +kernel
theorem dMo_bestOf_56 : decode prog_10_method_101_code 56 = .ok (.iload_n 1, 1) := by decide +kernel
theorem dMo_bestOf_57 : decode prog_10_method_101_code 57 = .ok (.iload 4, 2) := by decide +kernel
theorem dMo_bestOf_59 : decode prog_10_method_101_code 59 = .ok (.iload_n 2, 1) := by decide +kernel
theorem dMo_bestOf_60 : decode prog_10_method_101_code 60 = .ok (.invokevirtual 395, 3) := by decide +kernel
theorem dMo_bestOf_63 : decode prog_10_method_101_code 63 = .ok (.istore 5, 2) := by decide +kernel
theorem dMo_bestOf_65 : decode prog_10_method_101_code 65 = .ok (.aload_n 0, 1) := by decide +kernel
theorem dMo_bestOf_66 : decode prog_10_method_101_code 66 = .ok (.getfield 380, 3) := by decide +kernel
theorem dMo_bestOf_69 : decode prog_10_method_101_code 69 = .ok (.iconst 3, 1) := by decide +kernel
theorem dMo_bestOf_70 : decode prog_10_method_101_code 70 = .ok (.if_icmp .ne 10, 3) := by decide +kernel
theorem dMo_bestOf_73 : decode prog_10_method_101_code 73 = .ok (.iload_n 3, 1) := by decide +kernel
theorem dMo_bestOf_74 : decode prog_10_method_101_code 74 = .ok (.iload 5, 2) := by decide +kernel
theorem dMo_bestOf_76 : decode prog_10_method_101_code 76 = .ok (.iadd, 1) := by decide +kernel
theorem dMo_bestOf_77 : decode prog_10_method_101_code 77 = .ok (.goto 9, 3) := by decide +kernel
theorem dMo_bestOf_80 : decode prog_10_method_101_code 80 = .ok (.iload_n 3, 1) := by decide +kernel
theorem dMo_bestOf_81 : decode prog_10_method_101_code 81 = .ok (.iload 5, 2) := by decide +kernel
theorem dMo_bestOf_83 : decode prog_10_method_101_code 83 = .ok (.invokestatic 386, 3) := by decide +kernel
theorem dMo_bestOf_86 : decode prog_10_method_101_code 86 = .ok (.istore_n 3, 1) := by decide +kernel
theorem dMo_bestOf_87 : decode prog_10_method_101_code 87 = .ok (.iinc 4 1, 3) := by decide +kernel
theorem dMo_bestOf_90 : decode prog_10_method_101_code 90 = .ok (.goto (-55), 3) := by decide +kernel
theorem dMo_bestOf_93 : decode prog_10_method_101_code 93 = .ok (.iload_n 3, 1) := by decide +kernel
theorem dMo_bestOf_94 : decode prog_10_method_101_code 94 = .ok (.ireturn, 1) := by decide +kernel
theorem dMo_placeIn_0 : decode prog_10_method_103_code 0 = .ok (.iconst 0, 1) := by decide +kernel
theorem dMo_placeIn_1 : decode prog_10_method_103_code 1 = .ok (.istore_n 2, 1) := by decide +kernel
theorem dMo_placeIn_2 : decode prog_10_method_103_code 2 = .ok (.iconst (-1), 1) := by decide +kernel
theorem dMo_placeIn_3 : decode prog_10_method_103_code 3 = .ok (.istore_n 3, 1) := by decide +kernel
theorem dMo_placeIn_4 : decode prog_10_method_103_code 4 = .ok (.iconst 0, 1) := by decide +kernel
theorem dMo_placeIn_5 : decode prog_10_method_103_code 5 = .ok (.istore 4, 2) := by decide +kernel
theorem dMo_placeIn_7 : decode prog_10_method_103_code 7 = .ok (.iload 4, 2) := by decide +kernel
theorem dMo_placeIn_9 : decode prog_10_method_103_code 9 = .ok (.iload_n 1, 1) := by decide +kernel
theorem dMo_placeIn_10 : decode prog_10_method_103_code 10 = .ok (.if_icmp .gt 75, 3) := by decide +kernel
theorem dMo_placeIn_13 : decode prog_10_method_103_code 13 = .ok (.bipush 7, 2) := by decide +kernel
theorem dMo_placeIn_15 : decode prog_10_method_103_code 15 = .ok (.istore_n 3, 1) := by decide +kernel
theorem dMo_placeIn_16 : decode prog_10_method_103_code 16 = .ok (.aload_n 0, 1) := by decide +kernel
theorem dMo_placeIn_17 : decode prog_10_method_103_code 17 = .ok (.iload 4, 2) := by decide +kernel
theorem dMo_placeIn_19 : decode prog_10_method_103_code 19 = .ok (.invokevirtual 389, 3) := by decide +kernel
theorem dMo_placeIn_22 : decode prog_10_method_103_code 22 = .ok (.ifCond .eq 6, 3) := by decide +kernel
theorem dMo_placeIn_25 : decode prog_10_method_103_code 25 = .ok (.goto 54, 3) := by decide +kernel
theorem dMo_placeIn_28 : decode prog_10_method_103_code 28 = .ok (.iconst 0, 1) := by decide +kernel
theorem dMo_placeIn_29 : decode prog_10_method_103_code 29 = .ok (.istore_n 3, 1) := by decide +kernel
theorem dMo_placeIn_30 : decode prog_10_method_103_code 30 = .ok (.aload_n 0, 1) := by decide +kernel
theorem dMo_placeIn_31 : decode prog_10_method_103_code 31 = .ok (.iload 4, 2) := by decide +kernel
theorem dMo_placeIn_33 : decode prog_10_method_103_code 33 = .ok (.iload_n 3, 1) := by decide +kernel
theorem dMo_placeIn_34 : decode prog_10_method_103_code 34 = .ok (.invokevirtual 392, 3) := by decide +kernel
theorem dMo_placeIn_37 : decode prog_10_method_103_code 37 = .ok (.ifCond .eq 21, 3) := by decide +kernel
theorem dMo_placeIn_40 : decode prog_10_method_103_code 40 = .ok (.aload_n 0, 1) := by decide +kernel
theorem dMo_placeIn_41 : decode prog_10_method_103_code 41 = .ok (.iload 4, 2) := by decide +kernel
theorem dMo_placeIn_43 : decode prog_10_method_103_code 43 = .ok (.iload_n 3, 1) := by decide +kernel
theorem dMo_placeIn_44 : decode prog_10_method_103_code 44 = .ok (.iload_n 2, 1) := by decide +kernel
theorem dMo_placeIn_45 : decode prog_10_method_103_code 45 = .ok (.invokevirtual 395, 3) := by decide +kernel
theorem dMo_placeIn_48 : decode prog_10_method_103_code 48 = .ok (.aload_n 0, 1) := by decide +kernel
theorem dMo_placeIn_49 : decode prog_10_method_103_code 49 = .ok (.iload 4, 2) := by decide +kernel
theorem dMo_placeIn_51 : decode prog_10_method_103_code 51 = .ok (.iload_n 2, 1) := by decide +kernel
theorem dMo_placeIn_52 : decode prog_10_method_103_code 52 = .ok (.invokevirtual 383, 3) := by decide +kernel
theorem dMo_placeIn_55 : decode prog_10_method_103_code 55 = .ok (.if_icmp .eq 9, 3) := by decide +kernel
theorem dMo_placeIn_58 : decode prog_10_method_103_code 58 = .ok (.iinc 3 1, 3) := by decide +kernel
theorem dMo_placeIn_61 : decode prog_10_method_103_code 61 = .ok (.goto (-31), 3) := by decide +kernel
theorem dMo_placeIn_64 : decode prog_10_method_103_code 64 = .ok (.iload_n 2, 1) := by decide +kernel
theorem dMo_placeIn_65 : decode prog_10_method_103_code 65 = .ok (.aload_n 0, 1) := by decide +kernel
theorem dMo_placeIn_66 : decode prog_10_method_103_code 66 = .ok (.getfield 75, 3) := by decide +kernel
theorem dMo_placeIn_69 : decode prog_10_method_103_code 69 = .ok (.bipush 7, 2) := by decide +kernel
theorem dMo_placeIn_71 : decode prog_10_method_103_code 71 = .ok (.iload 4, 2) := by decide +kernel
theorem dMo_placeIn_73 : decode prog_10_method_103_code 73 = .ok (.imul, 1) := by decide +kernel
theorem dMo_placeIn_74 : decode prog_10_method_103_code 74 = .ok (.iload_n 3, 1) := by decide +kernel
theorem dMo_placeIn_75 : decode prog_10_method_103_code 75 = .ok (.iadd, 1) := by decide +kernel
theorem dMo_placeIn_76 : decode prog_10_method_103_code 76 = .ok (.iaload, 1) := by decide +kernel
theorem dMo_placeIn_77 : decode prog_10_method_103_code 77 = .ok (.iadd, 1) := by decide +kernel
theorem dMo_placeIn_78 : decode prog_10_method_103_code 78 = .ok (.istore_n 2, 1) := by decide +kernel
theorem dMo_placeIn_79 : decode prog_10_method_103_code 79 = .ok (.iinc 4 1, 3) := by decide +kernel
theorem dMo_placeIn_82 : decode prog_10_method_103_code 82 = .ok (.goto (-75), 3) := by decide +kernel
theorem dMo_placeIn_85 : decode prog_10_method_103_code 85 = .ok (.iload_n 3, 1) := by decide +kernel
theorem dMo_placeIn_86 : decode prog_10_method_103_code 86 = .ok (.ireturn, 1) := by decide +kernel
theorem dMo_heavyOf_0 : decode prog_10_method_113_code 0 = .ok (.iconst 0, 1) := by decide +kernel
theorem dMo_heavyOf_1 : decode prog_10_method_113_code 1 = .ok (.istore_n 2, 1) := by decide +kernel
theorem dMo_heavyOf_2 : decode prog_10_method_113_code 2 = .ok (.iconst 0, 1) := by decide +kernel
theorem dMo_heavyOf_3 : decode prog_10_method_113_code 3 = .ok (.istore_n 3, 1) := by decide +kernel
theorem dMo_heavyOf_4 : decode prog_10_method_113_code 4 = .ok (.iload_n 3, 1) := by decide +kernel
theorem dMo_heavyOf_5 : decode prog_10_method_113_code 5 = .ok (.aload_n 0, 1) := by decide +kernel
theorem dMo_heavyOf_6 : decode prog_10_method_113_code 6 = .ok (.invokevirtual 119, 3) := by decide +kernel
theorem dMo_heavyOf_9 : decode prog_10_method_113_code 9 = .ok (.if_icmp .ge 32, 3) := by decide +kernel
theorem dMo_heavyOf_12 : decode prog_10_method_113_code 12 = .ok (.iload_n 2, 1) := by decide +kernel
theorem dMo_heavyOf_13 : decode prog_10_method_113_code 13 = .ok (.iload_n 1, 1) := by decide +kernel
theorem dMo_heavyOf_14 : decode prog_10_method_113_code 14 = .ok (.iload_n 3, 1) := by decide +kernel
theorem dMo_heavyOf_15 : decode prog_10_method_113_code 15 = .ok (.invokestatic 423, 3) := by decide +kernel
theorem dMo_heavyOf_18 : decode prog_10_method_113_code 18 = .ok (.ifCond .eq 14, 3) := by decide +kernel
theorem dMo_heavyOf_21 : decode prog_10_method_113_code 21 = .ok (.aload_n 0, 1) := by decide +kernel
theorem dMo_heavyOf_22 : decode prog_10_method_113_code 22 = .ok (.getfield 28, 3) := by decide +kernel
theorem dMo_heavyOf_25 : decode prog_10_method_113_code 25 = .ok (.iconst 0, 1) := by decide +kernel
theorem dMo_heavyOf_26 : decode prog_10_method_113_code 26 = .ok (.iload_n 3, 1) := by decide +kernel
theorem dMo_heavyOf_27 : decode prog_10_method_113_code 27 = .ok (.iadd, 1) := by decide +kernel
theorem dMo_heavyOf_28 : decode prog_10_method_113_code 28 = .ok (.iaload, 1) := by decide +kernel
theorem dMo_heavyOf_29 : decode prog_10_method_113_code 29 = .ok (.goto 4, 3) := by decide +kernel
theorem dMo_heavyOf_32 : decode prog_10_method_113_code 32 = .ok (.iconst 0, 1) := by decide +kernel
theorem dMo_heavyOf_33 : decode prog_10_method_113_code 33 = .ok (.iadd, 1) := by decide +kernel
theorem dMo_heavyOf_34 : decode prog_10_method_113_code 34 = .ok (.istore_n 2, 1) := by decide +kernel
theorem dMo_heavyOf_35 : decode prog_10_method_113_code 35 = .ok (.iinc 3 1, 3) := by decide +kernel
theorem dMo_heavyOf_38 : decode prog_10_method_113_code 38 = .ok (.goto (-34), 3) := by decide +kernel
theorem dMo_heavyOf_41 : decode prog_10_method_113_code 41 = .ok (.iload_n 2, 1) := by decide +kernel
theorem dMo_heavyOf_42 : decode prog_10_method_113_code 42 = .ok (.ireturn, 1) := by decide +kernel
theorem dMo_shares_0 : decode prog_10_method_114_code 0 = .ok (.iload_n 1, 1) := by decide +kernel
theorem dMo_shares_1 : decode prog_10_method_114_code 1 = .ok (.iconst 0, 1) := by decide +kernel
theorem dMo_shares_2 : decode prog_10_method_114_code 2 = .ok (.iconst 2, 1) := by decide +kernel
theorem dMo_shares_3 : decode prog_10_method_114_code 3 = .ok (.invokestatic 18, 3) := by decide +kernel
theorem dMo_shares_6 : decode prog_10_method_114_code 6 = .ok (.ifCond .eq 10, 3) := by decide +kernel
theorem dMo_shares_9 : decode prog_10_method_114_code 9 = .ok (.aload_n 0, 1) := by decide +kernel
theorem dMo_shares_10 : decode prog_10_method_114_code 10 = .ok (.invokevirtual 119, 3) := by decide +kernel
theorem dMo_shares_13 : decode prog_10_method_114_code 13 = .ok (.ifCond .ne 5, 3) := by decide +kernel
theorem dMo_shares_16 : decode prog_10_method_114_code 16 = .ok (.iconst (-1), 1) := by decide +kernel
theorem dMo_shares_17 : decode prog_10_method_114_code 17 = .ok (.ireturn, 1) := by decide +kernel
theorem dMo_shares_18 : decode prog_10_method_114_code 18 = .ok (.ldc 193, 2) := by decide +kernel
theorem dMo_shares_20 : decode prog_10_method_114_code 20 = .ok (.istore_n 2, 1) := by decide +kernel
theorem dMo_shares_21 : decode prog_10_method_114_code 21 = .ok (.iconst (-1), 1) := by decide +kernel
theorem dMo_shares_22 : decode prog_10_method_114_code 22 = .ok (.istore_n 3, 1) := by decide +kernel
theorem dMo_shares_23 : decode prog_10_method_114_code 23 = .ok (.iconst 0, 1) := by decide +kernel
theorem dMo_shares_24 : decode prog_10_method_114_code 24 = .ok (.istore 4, 2) := by decide +kernel
theorem dMo_shares_26 : decode prog_10_method_114_code 26 = .ok (.iconst 1, 1) := by decide +kernel
theorem dMo_shares_27 : decode prog_10_method_114_code 27 = .ok (.istore 5, 2) := by decide +kernel
theorem dMo_shares_29 : decode prog_10_method_114_code 29 = .ok (.iload 5, 2) := by decide +kernel
theorem dMo_shares_31 : decode prog_10_method_114_code 31 = .ok (.aload_n 0, 1) := by decide +kernel
theorem dMo_shares_32 : decode prog_10_method_114_code 32 = .ok (.invokevirtual 426, 3) := by decide +kernel
theorem dMo_shares_35 : decode prog_10_method_114_code 35 = .ok (.if_icmp .gt 63, 3) := by decide +kernel
theorem dMo_shares_38 : decode prog_10_method_114_code 38 = .ok (.aload_n 0, 1) := by decide +kernel
theorem dMo_shares_39 : decode prog_10_method_114_code 39 = .ok (.iload 5, 2) := by decide +kernel
theorem dMo_shares_41 : decode prog_10_method_114_code 41 = .ok (.invokevirtual 429, 3) := by decide +kernel
theorem dMo_shares_44 : decode prog_10_method_114_code 44 = .ok (.aload_n 0, 1) := by decide +kernel
theorem dMo_shares_45 : decode prog_10_method_114_code 45 = .ok (.aload_n 0, 1) := by decide +kernel
theorem dMo_shares_46 : decode prog_10_method_114_code 46 = .ok (.invokevirtual 426, 3) := by decide +kernel
theorem dMo_shares_49 : decode prog_10_method_114_code 49 = .ok (.iload 5, 2) := by decide +kernel
theorem dMo_shares_51 : decode prog_10_method_114_code 51 = .ok (.ixor, 1) := by decide +kernel
theorem dMo_shares_52 : decode prog_10_method_114_code 52 = .ok (.invokevirtual 429, 3) := by decide +kernel
theorem dMo_shares_55 : decode prog_10_method_114_code 55 = .ok (.isub, 1) := by decide +kernel
theorem dMo_shares_56 : decode prog_10_method_114_code 56 = .ok (.invokestatic 163, 3) := by decide +kernel
theorem dMo_shares_59 : decode prog_10_method_114_code 59 = .ok (.istore 6, 2) := by decide +kernel
theorem dMo_shares_61 : decode prog_10_method_114_code 61 = .ok (.iload 6, 2) := by decide +kernel
theorem dMo_shares_63 : decode prog_10_method_114_code 63 = .ok (.iload_n 2, 1) := by decide +kernel
theorem dMo_shares_64 : decode prog_10_method_114_code 64 = .ok (.if_icmp .ge 12, 3) := by decide +kernel
theorem dMo_shares_67 : decode prog_10_method_114_code 67 = .ok (.iload 6, 2) := by decide +kernel
theorem dMo_shares_69 : decode prog_10_method_114_code 69 = .ok (.istore_n 2, 1) := by decide +kernel
theorem dMo_shares_70 : decode prog_10_method_114_code 70 = .ok (.iload 5, 2) := by decide +kernel
theorem dMo_shares_72 : decode prog_10_method_114_code 72 = .ok (.istore_n 3, 1) := by decide +kernel
theorem dMo_shares_73 : decode prog_10_method_114_code 73 = .ok (.iconst 0, 1) := by decide +kernel
theorem dMo_shares_74 : decode prog_10_method_114_code 74 = .ok (.istore 4, 2) := by decide +kernel
theorem dMo_shares_76 : decode prog_10_method_114_code 76 = .ok (.iload 4, 2) := by decide +kernel
theorem dMo_shares_78 : decode prog_10_method_114_code 78 = .ok (.iload 6, 2) := by decide +kernel
theorem dMo_shares_80 : decode prog_10_method_114_code 80 = .ok (.iload_n 2, 1) := by decide +kernel
theorem dMo_shares_81 : decode prog_10_method_114_code 81 = .ok (.if_icmp .ne 7, 3) := by decide +kernel
theorem dMo_shares_84 : decode prog_10_method_114_code 84 = .ok (.iconst 1, 1) := by decide +kernel
theorem dMo_shares_85 : decode prog_10_method_114_code 85 = .ok (.goto 4, 3) := by decide +kernel
theorem dMo_shares_88 : decode prog_10_method_114_code 88 = .ok (.iconst 0, 1) := by decide +kernel
theorem dMo_shares_89 : decode prog_10_method_114_code 89 = .ok (.iadd, 1) := by decide +kernel
theorem dMo_shares_90 : decode prog_10_method_114_code 90 = .ok (.istore 4, 2) := by decide +kernel
theorem dMo_shares_92 : decode prog_10_method_114_code 92 = .ok (.iinc 5 2, 3) := by decide +kernel
theorem dMo_shares_95 : decode prog_10_method_114_code 95 = .ok (.goto (-66), 3) := by decide +kernel
theorem dMo_shares_98 : decode prog_10_method_114_code 98 = .ok (.iload_n 1, 1) := by decide +kernel
theorem dMo_shares_99 : decode prog_10_method_114_code 99 = .ok (.ifCond .ne 7, 3) := by decide +kernel
theorem dMo_shares_102 : decode prog_10_method_114_code 102 = .ok (.iload_n 2, 1) := by decide +kernel
theorem dMo_shares_103 : decode prog_10_method_114_code 103 = .ok (.goto 14, 3) := by decide +kernel
theorem dMo_shares_106 : decode prog_10_method_114_code 106 = .ok (.iload_n 1, 1) := by decide +kernel
theorem dMo_shares_107 : decode prog_10_method_114_code 107 = .ok (.iconst 1, 1) := by decide +kernel
theorem dMo_shares_108 : decode prog_10_method_114_code 108 = .ok (.if_icmp .ne 7, 3) := by decide +kernel
theorem dMo_shares_111 : decode prog_10_method_114_code 111 = .ok (.iload_n 3, 1) := by decide +kernel
theorem dMo_shares_112 : decode prog_10_method_114_code 112 = .ok (.goto 5, 3) := by decide +kernel
theorem dMo_shares_115 : decode prog_10_method_114_code 115 = .ok (.iload 4, 2) := by decide +kernel
theorem dMo_shares_117 : decode prog_10_method_114_code 117 = .ok (.ireturn, 1) := by decide +kernel
theorem dMo_onNow_0 : decode prog_10_method_115_code 0 = .ok (.iconst 0, 1) := by decide +kernel
theorem dMo_onNow_1 : decode prog_10_method_115_code 1 = .ok (.istore_n 1, 1) := by decide +kernel
theorem dMo_onNow_2 : decode prog_10_method_115_code 2 = .ok (.iconst 0, 1) := by decide +kernel
theorem dMo_onNow_3 : decode prog_10_method_115_code 3 = .ok (.istore_n 2, 1) := by decide +kernel
theorem dMo_onNow_4 : decode prog_10_method_115_code 4 = .ok (.iload_n 2, 1) := by decide +kernel
theorem dMo_onNow_5 : decode prog_10_method_115_code 5 = .ok (.aload_n 0, 1) := by decide +kernel
theorem dMo_onNow_6 : decode prog_10_method_115_code 6 = .ok (.invokevirtual 119, 3) := by decide +kernel
theorem dMo_onNow_9 : decode prog_10_method_115_code 9 = .ok (.if_icmp .ge 27, 3) := by decide +kernel
theorem dMo_onNow_12 : decode prog_10_method_115_code 12 = .ok (.iload_n 1, 1) := by decide +kernel
theorem dMo_onNow_13 : decode prog_10_method_115_code 13 = .ok (.aload_n 0, 1) := by decide +kernel
theorem dMo_onNow_14 : decode prog_10_method_115_code 14 = .ok (.iload_n 2, 1) := by decide +kernel
theorem dMo_onNow_15 : decode prog_10_method_115_code 15 = .ok (.invokevirtual 138, 3) := by decide +kernel
theorem dMo_onNow_18 : decode prog_10_method_115_code 18 = .ok (.ifCond .eq 9, 3) := by decide +kernel
theorem dMo_onNow_21 : decode prog_10_method_115_code 21 = .ok (.iconst 1, 1) := by decide +kernel
theorem dMo_onNow_22 : decode prog_10_method_115_code 22 = .ok (.iload_n 2, 1) := by decide +kernel
theorem dMo_onNow_23 : decode prog_10_method_115_code 23 = .ok (.ishl, 1) := by decide +kernel
theorem dMo_onNow_24 : decode prog_10_method_115_code 24 = .ok (.goto 4, 3) := by decide +kernel
theorem dMo_onNow_27 : decode prog_10_method_115_code 27 = .ok (.iconst 0, 1) := by decide +kernel
theorem dMo_onNow_28 : decode prog_10_method_115_code 28 = .ok (.ior, 1) := by decide +kernel
theorem dMo_onNow_29 : decode prog_10_method_115_code 29 = .ok (.istore_n 1, 1) := by decide +kernel
theorem dMo_onNow_30 : decode prog_10_method_115_code 30 = .ok (.iinc 2 1, 3) := by decide +kernel
theorem dMo_onNow_33 : decode prog_10_method_115_code 33 = .ok (.goto (-29), 3) := by decide +kernel
theorem dMo_onNow_36 : decode prog_10_method_115_code 36 = .ok (.iload_n 1, 1) := by decide +kernel
theorem dMo_onNow_37 : decode prog_10_method_115_code 37 = .ok (.ireturn, 1) := by decide +kernel
theorem dMo_canOff_0 : decode prog_10_method_117_code 0 = .ok (.iload_n 1, 1) := by decide +kernel
theorem dMo_canOff_1 : decode prog_10_method_117_code 1 = .ok (.iload_n 2, 1) := by decide +kernel
theorem dMo_canOff_2 : decode prog_10_method_117_code 2 = .ok (.invokestatic 423, 3) := by decide +kernel
theorem dMo_canOff_5 : decode prog_10_method_117_code 5 = .ok (.ifCond .eq 24, 3) := by decide +kernel
theorem dMo_canOff_8 : decode prog_10_method_117_code 8 = .ok (.aload_n 0, 1) := by decide +kernel
theorem dMo_canOff_9 : decode prog_10_method_117_code 9 = .ok (.aload_n 0, 1) := by decide +kernel
theorem dMo_canOff_10 : decode prog_10_method_117_code 10 = .ok (.getfield 85, 3) := by decide +kernel
theorem dMo_canOff_13 : decode prog_10_method_117_code 13 = .ok (.iload_n 1, 1) := by decide +kernel
theorem dMo_canOff_14 : decode prog_10_method_117_code 14 = .ok (.iconst 1, 1) := by decide +kernel
theorem dMo_canOff_15 : decode prog_10_method_117_code 15 = .ok (.iload_n 2, 1) := by decide +kernel
theorem dMo_canOff_16 : decode prog_10_method_117_code 16 = .ok (.ishl, 1) := by decide +kernel
theorem dMo_canOff_17 : decode prog_10_method_117_code 17 = .ok (.ixor, 1) := by decide +kernel
theorem dMo_canOff_18 : decode prog_10_method_117_code 18 = .ok (.iaload, 1) := by decide +kernel
theorem dMo_canOff_19 : decode prog_10_method_117_code 19 = .ok (.invokevirtual 166, 3) := by decide +kernel
theorem dMo_canOff_22 : decode prog_10_method_117_code 22 = .ok (.ifCond .eq 7, 3) := by decide +kernel
theorem dMo_canOff_25 : decode prog_10_method_117_code 25 = .ok (.iconst 1, 1) := by decide +kernel
theorem dMo_canOff_26 : decode prog_10_method_117_code 26 = .ok (.goto 4, 3) := by decide +kernel
theorem dMo_canOff_29 : decode prog_10_method_117_code 29 = .ok (.iconst 0, 1) := by decide +kernel
theorem dMo_canOff_30 : decode prog_10_method_117_code 30 = .ok (.ireturn, 1) := by decide +kernel
theorem dMo_winsBy_0 : decode prog_10_method_120_code 0 = .ok (.iconst (-1), 1) := by decide +kernel
theorem dMo_winsBy_1 : decode prog_10_method_120_code 1 = .ok (.istore_n 2, 1) := by decide +kernel
theorem dMo_winsBy_2 : decode prog_10_method_120_code 2 = .ok (.aload_n 0, 1) := by decide +kernel
theorem dMo_winsBy_3 : decode prog_10_method_120_code 3 = .ok (.invokevirtual 119, 3) := by decide +kernel
theorem dMo_winsBy_6 : decode prog_10_method_120_code 6 = .ok (.iconst 1, 1) := by decide +kernel
theorem dMo_winsBy_7 : decode prog_10_method_120_code 7 = .ok (.isub, 1) := by decide +kernel
theorem dMo_winsBy_8 : decode prog_10_method_120_code 8 = .ok (.istore_n 3, 1) := by decide +kernel
theorem dMo_winsBy_9 : decode prog_10_method_120_code 9 = .ok (.iload_n 3, 1) := by decide +kernel
theorem dMo_winsBy_10 : decode prog_10_method_120_code 10 = .ok (.ifCond .lt 37, 3) := by decide +kernel
theorem dMo_winsBy_13 : decode prog_10_method_120_code 13 = .ok (.aload_n 0, 1) := by decide +kernel
theorem dMo_winsBy_14 : decode prog_10_method_120_code 14 = .ok (.iload_n 1, 1) := by decide +kernel
theorem dMo_winsBy_15 : decode prog_10_method_120_code 15 = .ok (.iload_n 3, 1) := by decide +kernel
theorem dMo_winsBy_16 : decode prog_10_method_120_code 16 = .ok (.invokevirtual 438, 3) := by decide +kernel
theorem dMo_winsBy_19 : decode prog_10_method_120_code 19 = .ok (.ifCond .eq 20, 3) := by decide +kernel
theorem dMo_winsBy_22 : decode prog_10_method_120_code 22 = .ok (.aload_n 0, 1) := by decide +kernel
theorem dMo_winsBy_23 : decode prog_10_method_120_code 23 = .ok (.getfield 91, 3) := by decide +kernel
theorem dMo_winsBy_26 : decode prog_10_method_120_code 26 = .ok (.iload_n 1, 1) := by decide +kernel
theorem dMo_winsBy_27 : decode prog_10_method_120_code 27 = .ok (.iconst 1, 1) := by decide +kernel
theorem dMo_winsBy_28 : decode prog_10_method_120_code 28 = .ok (.iload_n 3, 1) := by decide +kernel
theorem dMo_winsBy_29 : decode prog_10_method_120_code 29 = .ok (.ishl, 1) := by decide +kernel
theorem dMo_winsBy_30 : decode prog_10_method_120_code 30 = .ok (.ixor, 1) := by decide +kernel
theorem dMo_winsBy_31 : decode prog_10_method_120_code 31 = .ok (.baload, 1) := by decide +kernel
theorem dMo_winsBy_32 : decode prog_10_method_120_code 32 = .ok (.ifCond .ne 7, 3) := by decide +kernel
theorem dMo_winsBy_35 : decode prog_10_method_120_code 35 = .ok (.iload_n 3, 1) := by decide +kernel
theorem dMo_winsBy_36 : decode prog_10_method_120_code 36 = .ok (.goto 4, 3) := by decide +kernel
theorem dMo_winsBy_39 : decode prog_10_method_120_code 39 = .ok (.iload_n 2, 1) := by decide +kernel
theorem dMo_winsBy_40 : decode prog_10_method_120_code 40 = .ok (.istore_n 2, 1) := by decide +kernel
theorem dMo_winsBy_41 : decode prog_10_method_120_code 41 = .ok (.iinc 3 (-1), 3) := by decide +kernel
theorem dMo_winsBy_44 : decode prog_10_method_120_code 44 = .ok (.goto (-35), 3) := by decide +kernel
theorem dMo_winsBy_47 : decode prog_10_method_120_code 47 = .ok (.iload_n 2, 1) := by decide +kernel
theorem dMo_winsBy_48 : decode prog_10_method_120_code 48 = .ok (.ireturn, 1) := by decide +kernel
theorem dMo_weighed_0 : decode prog_10_method_122_code 0 = .ok (.iload_n 1, 1) := by decide +kernel
theorem dMo_weighed_1 : decode prog_10_method_122_code 1 = .ok (.iconst 0, 1) := by decide +kernel
theorem dMo_weighed_2 : decode prog_10_method_122_code 2 = .ok (.bipush 127, 2) := by decide +kernel
theorem dMo_weighed_4 : decode prog_10_method_122_code 4 = .ok (.invokestatic 18, 3) := by decide +kernel
theorem dMo_weighed_7 : decode prog_10_method_122_code 7 = .ok (.ifCond .eq 28, 3) := by decide +kernel
theorem dMo_weighed_10 : decode prog_10_method_122_code 10 = .ok (.iload_n 2, 1) := by decide +kernel
theorem dMo_weighed_11 : decode prog_10_method_122_code 11 = .ok (.iconst 0, 1) := by decide +kernel
theorem dMo_weighed_12 : decode prog_10_method_122_code 12 = .ok (.bipush 127, 2) := by decide +kernel
theorem dMo_weighed_14 : decode prog_10_method_122_code 14 = .ok (.invokestatic 18, 3) := by decide +kernel
theorem dMo_weighed_17 : decode prog_10_method_122_code 17 = .ok (.ifCond .eq 18, 3) := by decide +kernel
theorem dMo_weighed_20 : decode prog_10_method_122_code 20 = .ok (.iload_n 1, 1) := by decide +kernel
theorem dMo_weighed_21 : decode prog_10_method_122_code 21 = .ok (.iload_n 2, 1) := by decide +kernel
theorem dMo_weighed_22 : decode prog_10_method_122_code 22 = .ok (.iand, 1) := by decide +kernel
theorem dMo_weighed_23 : decode prog_10_method_122_code 23 = .ok (.ifCond .ne 12, 3) := by decide +kernel
theorem dMo_weighed_26 : decode prog_10_method_122_code 26 = .ok (.iload_n 3, 1) := by decide +kernel
theorem dMo_weighed_27 : decode prog_10_method_122_code 27 = .ok (.iconst 0, 1) := by decide +kernel
theorem dMo_weighed_28 : decode prog_10_method_122_code 28 = .ok (.iconst 2, 1) := by decide +kernel
theorem dMo_weighed_29 : decode prog_10_method_122_code 29 = .ok (.invokestatic 18, 3) := by decide +kernel
theorem dMo_weighed_32 : decode prog_10_method_122_code 32 = .ok (.ifCond .ne 9, 3) := by decide +kernel
theorem dMo_weighed_35 : decode prog_10_method_122_code 35 = .ok (.aload_n 0, 1) := by decide +kernel
theorem dMo_weighed_36 : decode prog_10_method_122_code 36 = .ok (.iconst (-1), 1) := by decide +kernel
theorem dMo_weighed_37 : decode prog_10_method_122_code 37 = .ok (.invokevirtual 113, 3) := by decide +kernel
theorem dMo_weighed_40 : decode prog_10_method_122_code 40 = .ok (.ireturn, 1) := by decide +kernel
theorem dMo_weighed_41 : decode prog_10_method_122_code 41 = .ok (.iload_n 1, 1) := by decide +kernel
theorem dMo_weighed_42 : decode prog_10_method_122_code 42 = .ok (.iload_n 2, 1) := by decide +kernel
theorem dMo_weighed_43 : decode prog_10_method_122_code 43 = .ok (.ior, 1) := by decide +kernel
theorem dMo_weighed_44 : decode prog_10_method_122_code 44 = .ok (.aload_n 0, 1) := by decide +kernel
theorem dMo_weighed_45 : decode prog_10_method_122_code 45 = .ok (.invokevirtual 426, 3) := by decide +kernel
theorem dMo_weighed_48 : decode prog_10_method_122_code 48 = .ok (.iconst (-1), 1) := by decide +kernel
theorem dMo_weighed_49 : decode prog_10_method_122_code 49 = .ok (.ixor, 1) := by decide +kernel
theorem dMo_weighed_50 : decode prog_10_method_122_code 50 = .ok (.iand, 1) := by decide +kernel
theorem dMo_weighed_51 : decode prog_10_method_122_code 51 = .ok (.ifCond .eq 10, 3) := by decide +kernel
theorem dMo_weighed_54 : decode prog_10_method_122_code 54 = .ok (.aload_n 0, 1) := by decide +kernel
theorem dMo_weighed_55 : decode prog_10_method_122_code 55 = .ok (.bipush (-2), 2) := by decide +kernel
theorem dMo_weighed_57 : decode prog_10_method_122_code 57 = .ok (.invokevirtual 113, 3) := by decide +kernel
theorem dMo_weighed_60 : decode prog_10_method_122_code 60 = .ok (.ireturn, 1) := by decide +kernel
theorem dMo_weighed_61 : decode prog_10_method_122_code 61 = .ok (.bipush 22, 2) := by decide +kernel
theorem dMo_weighed_63 : decode prog_10_method_122_code 63 = .ok (.iconst 3, 1) := by decide +kernel
theorem dMo_weighed_64 : decode prog_10_method_122_code 64 = .ok (.aload_n 0, 1) := by decide +kernel
theorem dMo_weighed_65 : decode prog_10_method_122_code 65 = .ok (.getfield 28, 3) := by decide +kernel
theorem dMo_weighed_68 : decode prog_10_method_122_code 68 = .ok (.bipush 44, 2) := by decide +kernel
theorem dMo_weighed_70 : decode prog_10_method_122_code 70 = .ok (.iaload, 1) := by decide +kernel
theorem dMo_weighed_71 : decode prog_10_method_122_code 71 = .ok (.imul, 1) := by decide +kernel
theorem dMo_weighed_72 : decode prog_10_method_122_code 72 = .ok (.iadd, 1) := by decide +kernel
theorem dMo_weighed_73 : decode prog_10_method_122_code 73 = .ok (.istore 4, 2) := by decide +kernel
theorem dMo_weighed_75 : decode prog_10_method_122_code 75 = .ok (.aload_n 0, 1) := by decide +kernel
theorem dMo_weighed_76 : decode prog_10_method_122_code 76 = .ok (.getfield 28, 3) := by decide +kernel
theorem dMo_weighed_79 : decode prog_10_method_122_code 79 = .ok (.bipush 44, 2) := by decide +kernel
theorem dMo_weighed_81 : decode prog_10_method_122_code 81 = .ok (.iaload, 1) := by decide +kernel
theorem dMo_weighed_82 : decode prog_10_method_122_code 82 = .ok (.bipush 6, 2) := by decide +kernel
theorem dMo_weighed_84 : decode prog_10_method_122_code 84 = .ok (.if_icmp .ne 10, 3) := by decide +kernel
theorem dMo_weighed_87 : decode prog_10_method_122_code 87 = .ok (.aload_n 0, 1) := by decide +kernel
theorem dMo_weighed_88 : decode prog_10_method_122_code 88 = .ok (.bipush (-5), 2) := by decide +kernel
theorem dMo_weighed_90 : decode prog_10_method_122_code 90 = .ok (.invokevirtual 113, 3) := by decide +kernel
theorem dMo_weighed_93 : decode prog_10_method_122_code 93 = .ok (.ireturn, 1) := by decide +kernel
theorem dMo_weighed_94 : decode prog_10_method_122_code 94 = .ok (.aload_n 0, 1) := by decide +kernel
theorem dMo_weighed_95 : decode prog_10_method_122_code 95 = .ok (.getfield 28, 3) := by decide +kernel
theorem dMo_weighed_98 : decode prog_10_method_122_code 98 = .ok (.iload 4, 2) := by decide +kernel
theorem dMo_weighed_100 : decode prog_10_method_122_code 100 = .ok (.iload_n 1, 1) := by decide +kernel
theorem dMo_weighed_101 : decode prog_10_method_122_code 101 = .ok (.iastore, 1) := by decide +kernel
theorem dMo_weighed_102 : decode prog_10_method_122_code 102 = .ok (.aload_n 0, 1) := by decide +kernel
theorem dMo_weighed_103 : decode prog_10_method_122_code 103 = .ok (.getfield 28, 3) := by decide +kernel
theorem dMo_weighed_106 : decode prog_10_method_122_code 106 = .ok (.iload 4, 2) := by decide +kernel
theorem dMo_weighed_108 : decode prog_10_method_122_code 108 = .ok (.iconst 1, 1) := by decide +kernel
theorem dMo_weighed_109 : decode prog_10_method_122_code 109 = .ok (.iadd, 1) := by decide +kernel
theorem dMo_weighed_110 : decode prog_10_method_122_code 110 = .ok (.iload_n 2, 1) := by decide +kernel
theorem dMo_weighed_111 : decode prog_10_method_122_code 111 = .ok (.iastore, 1) := by decide +kernel
theorem dMo_weighed_112 : decode prog_10_method_122_code 112 = .ok (.aload_n 0, 1) := by decide +kernel
theorem dMo_weighed_113 : decode prog_10_method_122_code 113 = .ok (.getfield 28, 3) := by decide +kernel
theorem dMo_weighed_116 : decode prog_10_method_122_code 116 = .ok (.iload 4, 2) := by decide +kernel
theorem dMo_weighed_118 : decode prog_10_method_122_code 118 = .ok (.iconst 2, 1) := by decide +kernel
theorem dMo_weighed_119 : decode prog_10_method_122_code 119 = .ok (.iadd, 1) := by decide +kernel
theorem dMo_weighed_120 : decode prog_10_method_122_code 120 = .ok (.iload_n 3, 1) := by decide +kernel
theorem dMo_weighed_121 : decode prog_10_method_122_code 121 = .ok (.iastore, 1) := by decide +kernel
theorem dMo_weighed_122 : decode prog_10_method_122_code 122 = .ok (.aload_n 0, 1) := by decide +kernel
theorem dMo_weighed_123 : decode prog_10_method_122_code 123 = .ok (.getfield 28, 3) := by decide +kernel
theorem dMo_weighed_126 : decode prog_10_method_122_code 126 = .ok (.bipush 44, 2) := by decide +kernel
theorem dMo_weighed_128 : decode prog_10_method_122_code 128 = .ok (.dup2, 1) := by decide +kernel
theorem dMo_weighed_129 : decode prog_10_method_122_code 129 = .ok (.iaload, 1) := by decide +kernel
theorem dMo_weighed_130 : decode prog_10_method_122_code 130 = .ok (.iconst 1, 1) := by decide +kernel
theorem dMo_weighed_131 : decode prog_10_method_122_code 131 = .ok (.iadd, 1) := by decide +kernel
theorem dMo_weighed_132 : decode prog_10_method_122_code 132 = .ok (.iastore, 1) := by decide +kernel
theorem dMo_weighed_133 : decode prog_10_method_122_code 133 = .ok (.aload_n 0, 1) := by decide +kernel
theorem dMo_weighed_134 : decode prog_10_method_122_code 134 = .ok (.aload_n 0, 1) := by decide +kernel
theorem dMo_weighed_135 : decode prog_10_method_122_code 135 = .ok (.getfield 28, 3) := by decide +kernel
theorem dMo_weighed_138 : decode prog_10_method_122_code 138 = .ok (.bipush 44, 2) := by decide +kernel
theorem dMo_weighed_140 : decode prog_10_method_122_code 140 = .ok (.iaload, 1) := by decide +kernel
theorem dMo_weighed_141 : decode prog_10_method_122_code 141 = .ok (.invokevirtual 14, 3) := by decide +kernel
theorem dMo_weighed_144 : decode prog_10_method_122_code 144 = .ok (.ireturn, 1) := by decide +kernel
theorem dMo_forget_0 : decode prog_10_method_123_code 0 = .ok (.aload_n 0, 1) := by decide +kernel
theorem dMo_forget_1 : decode prog_10_method_123_code 1 = .ok (.getfield 28, 3) := by decide +kernel
theorem dMo_forget_4 : decode prog_10_method_123_code 4 = .ok (.bipush 44, 2) := by decide +kernel
theorem dMo_forget_6 : decode prog_10_method_123_code 6 = .ok (.iaload, 1) := by decide +kernel
theorem dMo_forget_7 : decode prog_10_method_123_code 7 = .ok (.istore_n 1, 1) := by decide +kernel
theorem dMo_forget_8 : decode prog_10_method_123_code 8 = .ok (.aload_n 0, 1) := by decide +kernel
theorem dMo_forget_9 : decode prog_10_method_123_code 9 = .ok (.getfield 28, 3) := by decide +kernel
theorem dMo_forget_12 : decode prog_10_method_123_code 12 = .ok (.bipush 44, 2) := by decide +kernel
theorem dMo_forget_14 : decode prog_10_method_123_code 14 = .ok (.iconst 0, 1) := by decide +kernel
theorem dMo_forget_15 : decode prog_10_method_123_code 15 = .ok (.iastore, 1) := by decide +kernel
theorem dMo_forget_16 : decode prog_10_method_123_code 16 = .ok (.iload_n 1, 1) := by decide +kernel
theorem dMo_forget_17 : decode prog_10_method_123_code 17 = .ok (.ireturn, 1) := by decide +kernel
theorem dMo_heavyBy_0 : decode prog_10_method_124_code 0 = .ok (.iload_n 2, 1) := by decide +kernel
theorem dMo_heavyBy_1 : decode prog_10_method_124_code 1 = .ok (.bipush 14, 2) := by decide +kernel
theorem dMo_heavyBy_3 : decode prog_10_method_124_code 3 = .ok (.if_icmp .ge 23, 3) := by decide +kernel
theorem dMo_heavyBy_6 : decode prog_10_method_124_code 6 = .ok (.iload_n 1, 1) := by decide +kernel
theorem dMo_heavyBy_7 : decode prog_10_method_124_code 7 = .ok (.iload_n 2, 1) := by decide +kernel
theorem dMo_heavyBy_8 : decode prog_10_method_124_code 8 = .ok (.iconst 2, 1) := by decide +kernel
theorem dMo_heavyBy_9 : decode prog_10_method_124_code 9 = .ok (.idiv, 1) := by decide +kernel
theorem dMo_heavyBy_10 : decode prog_10_method_124_code 10 = .ok (.invokestatic 423, 3) := by decide +kernel
theorem dMo_heavyBy_13 : decode prog_10_method_124_code 13 = .ok (.ifCond .eq 13, 3) := by decide +kernel
theorem dMo_heavyBy_16 : decode prog_10_method_124_code 16 = .ok (.iconst 1, 1) := by decide +kernel
theorem dMo_heavyBy_17 : decode prog_10_method_124_code 17 = .ok (.iload_n 2, 1) := by decide +kernel
theorem dMo_heavyBy_18 : decode prog_10_method_124_code 18 = .ok (.iconst 2, 1) := by decide +kernel
theorem dMo_heavyBy_19 : decode prog_10_method_124_code 19 = .ok (.irem, 1) := by decide +kernel
theorem dMo_heavyBy_20 : decode prog_10_method_124_code 20 = .ok (.iconst 2, 1) := by decide +kernel
theorem dMo_heavyBy_21 : decode prog_10_method_124_code 21 = .ok (.imul, 1) := by decide +kernel
theorem dMo_heavyBy_22 : decode prog_10_method_124_code 22 = .ok (.isub, 1) := by decide +kernel
theorem dMo_heavyBy_23 : decode prog_10_method_124_code 23 = .ok (.goto 4, 3) := by decide +kernel
theorem dMo_heavyBy_26 : decode prog_10_method_124_code 26 = .ok (.iconst 0, 1) := by decide +kernel
theorem dMo_heavyBy_27 : decode prog_10_method_124_code 27 = .ok (.istore_n 3, 1) := by decide +kernel
theorem dMo_heavyBy_28 : decode prog_10_method_124_code 28 = .ok (.aload_n 0, 1) := by decide +kernel
theorem dMo_heavyBy_29 : decode prog_10_method_124_code 29 = .ok (.iload_n 1, 1) := by decide +kernel
theorem dMo_heavyBy_30 : decode prog_10_method_124_code 30 = .ok (.invokevirtual 429, 3) := by decide +kernel
theorem dMo_heavyBy_33 : decode prog_10_method_124_code 33 = .ok (.iload_n 3, 1) := by decide +kernel
theorem dMo_heavyBy_34 : decode prog_10_method_124_code 34 = .ok (.iadd, 1) := by decide +kernel
theorem dMo_heavyBy_35 : decode prog_10_method_124_code 35 = .ok (.ireturn, 1) := by decide +kernel
theorem dMo_comesOf_0 : decode prog_10_method_125_code 0 = .ok (.aload_n 0, 1) := by decide +kernel
theorem dMo_comesOf_1 : decode prog_10_method_125_code 1 = .ok (.iload_n 1, 1) := by decide +kernel
theorem dMo_comesOf_2 : decode prog_10_method_125_code 2 = .ok (.iload_n 3, 1) := by decide +kernel
theorem dMo_comesOf_3 : decode prog_10_method_125_code 3 = .ok (.invokevirtual 447, 3) := by decide +kernel
theorem dMo_comesOf_6 : decode prog_10_method_125_code 6 = .ok (.aload_n 0, 1) := by decide +kernel
theorem dMo_comesOf_7 : decode prog_10_method_125_code 7 = .ok (.iload_n 2, 1) := by decide +kernel
theorem dMo_comesOf_8 : decode prog_10_method_125_code 8 = .ok (.iload_n 3, 1) := by decide +kernel
theorem dMo_comesOf_9 : decode prog_10_method_125_code 9 = .ok (.invokevirtual 447, 3) := by decide +kernel
theorem dMo_comesOf_12 : decode prog_10_method_125_code 12 = .ok (.isub, 1) := by decide +kernel
theorem dMo_comesOf_13 : decode prog_10_method_125_code 13 = .ok (.istore 4, 2) := by decide +kernel
theorem dMo_comesOf_15 : decode prog_10_method_125_code 15 = .ok (.iload 4, 2) := by decide +kernel
theorem dMo_comesOf_17 : decode prog_10_method_125_code 17 = .ok (.ifCond .ne 7, 3) := by decide +kernel
theorem dMo_comesOf_20 : decode prog_10_method_125_code 20 = .ok (.iconst 0, 1) := by decide +kernel
theorem dMo_comesOf_21 : decode prog_10_method_125_code 21 = .ok (.goto 13, 3) := by decide +kernel
theorem dMo_comesOf_24 : decode prog_10_method_125_code 24 = .ok (.iload 4, 2) := by decide +kernel
theorem dMo_comesOf_26 : decode prog_10_method_125_code 26 = .ok (.ifCond .le 7, 3) := by decide +kernel
theorem dMo_comesOf_29 : decode prog_10_method_125_code 29 = .ok (.iconst 1, 1) := by decide +kernel
theorem dMo_comesOf_30 : decode prog_10_method_125_code 30 = .ok (.goto 4, 3) := by decide +kernel
theorem dMo_comesOf_33 : decode prog_10_method_125_code 33 = .ok (.iconst 2, 1) := by decide +kernel
theorem dMo_comesOf_34 : decode prog_10_method_125_code 34 = .ok (.ireturn, 1) := by decide +kernel
theorem dMo_isSo_0 : decode prog_10_method_126_code 0 = .ok (.iload_n 1, 1) := by decide +kernel
theorem dMo_isSo_1 : decode prog_10_method_126_code 1 = .ok (.bipush 14, 2) := by decide +kernel
theorem dMo_isSo_3 : decode prog_10_method_126_code 3 = .ok (.if_icmp .eq 13, 3) := by decide +kernel
theorem dMo_isSo_6 : decode prog_10_method_126_code 6 = .ok (.iload_n 1, 1) := by decide +kernel
theorem dMo_isSo_7 : decode prog_10_method_126_code 7 = .ok (.iconst 2, 1) := by decide +kernel
theorem dMo_isSo_8 : decode prog_10_method_126_code 8 = .ok (.idiv, 1) := by decide +kernel
theorem dMo_isSo_9 : decode prog_10_method_126_code 9 = .ok (.aload_n 0, 1) := by decide +kernel
theorem dMo_isSo_10 : decode prog_10_method_126_code 10 = .ok (.invokevirtual 119, 3) := by decide +kernel
theorem dMo_isSo_13 : decode prog_10_method_126_code 13 = .ok (.if_icmp .ge 7, 3) := by decide +kernel
theorem dMo_isSo_16 : decode prog_10_method_126_code 16 = .ok (.iconst 1, 1) := by decide +kernel
theorem dMo_isSo_17 : decode prog_10_method_126_code 17 = .ok (.goto 4, 3) := by decide +kernel
theorem dMo_isSo_20 : decode prog_10_method_126_code 20 = .ok (.iconst 0, 1) := by decide +kernel
theorem dMo_isSo_21 : decode prog_10_method_126_code 21 = .ok (.istore_n 2, 1) := by decide +kernel
theorem dMo_isSo_22 : decode prog_10_method_126_code 22 = .ok (.iconst 0, 1) := by decide +kernel
theorem dMo_isSo_23 : decode prog_10_method_126_code 23 = .ok (.istore_n 3, 1) := by decide +kernel
theorem dMo_isSo_24 : decode prog_10_method_126_code 24 = .ok (.iload_n 3, 1) := by decide +kernel
theorem dMo_isSo_25 : decode prog_10_method_126_code 25 = .ok (.aload_n 0, 1) := by decide +kernel
theorem dMo_isSo_26 : decode prog_10_method_126_code 26 = .ok (.getfield 28, 3) := by decide +kernel
theorem dMo_isSo_29 : decode prog_10_method_126_code 29 = .ok (.bipush 44, 2) := by decide +kernel
theorem dMo_isSo_31 : decode prog_10_method_126_code 31 = .ok (.iaload, 1) := by decide +kernel
theorem dMo_isSo_32 : decode prog_10_method_126_code 32 = .ok (.if_icmp .ge 60, 3) := by decide +kernel
theorem dMo_isSo_35 : decode prog_10_method_126_code 35 = .ok (.iload_n 2, 1) := by decide +kernel
theorem dMo_isSo_36 : decode prog_10_method_126_code 36 = .ok (.ifCond .eq 56, 3) := by decide +kernel
theorem dMo_isSo_39 : decode prog_10_method_126_code 39 = .ok (.bipush 22, 2) := by decide +kernel
theorem dMo_isSo_41 : decode prog_10_method_126_code 41 = .ok (.iconst 3, 1) := by decide +kernel
theorem dMo_isSo_42 : decode prog_10_method_126_code 42 = .ok (.iload_n 3, 1) := by decide +kernel
theorem dMo_isSo_43 : decode prog_10_method_126_code 43 = .ok (.imul, 1) := by decide +kernel
theorem dMo_isSo_44 : decode prog_10_method_126_code 44 = .ok (.iadd, 1) := by decide +kernel
theorem dMo_isSo_45 : decode prog_10_method_126_code 45 = .ok (.istore 4, 2) := by decide +kernel
theorem dMo_isSo_47 : decode prog_10_method_126_code 47 = .ok (.aload_n 0, 1) := by decide +kernel
theorem dMo_isSo_48 : decode prog_10_method_126_code 48 = .ok (.aload_n 0, 1) := by decide +kernel
theorem dMo_isSo_49 : decode prog_10_method_126_code 49 = .ok (.getfield 28, 3) := by decide +kernel
theorem dMo_isSo_52 : decode prog_10_method_126_code 52 = .ok (.iload 4, 2) := by decide +kernel
theorem dMo_isSo_54 : decode prog_10_method_126_code 54 = .ok (.iaload, 1) := by decide +kernel
theorem dMo_isSo_55 : decode prog_10_method_126_code 55 = .ok (.aload_n 0, 1) := by decide +kernel
theorem dMo_isSo_56 : decode prog_10_method_126_code 56 = .ok (.getfield 28, 3) := by decide +kernel
theorem dMo_isSo_59 : decode prog_10_method_126_code 59 = .ok (.iload 4, 2) := by decide +kernel
theorem dMo_isSo_61 : decode prog_10_method_126_code 61 = .ok (.iconst 1, 1) := by decide +kernel
theorem dMo_isSo_62 : decode prog_10_method_126_code 62 = .ok (.iadd, 1) := by decide +kernel
theorem dMo_isSo_63 : decode prog_10_method_126_code 63 = .ok (.iaload, 1) := by decide +kernel
theorem dMo_isSo_64 : decode prog_10_method_126_code 64 = .ok (.iload_n 1, 1) := by decide +kernel
theorem dMo_isSo_65 : decode prog_10_method_126_code 65 = .ok (.invokevirtual 450, 3) := by decide +kernel
theorem dMo_isSo_68 : decode prog_10_method_126_code 68 = .ok (.aload_n 0, 1) := by decide +kernel
theorem dMo_isSo_69 : decode prog_10_method_126_code 69 = .ok (.getfield 28, 3) := by decide +kernel
theorem dMo_isSo_72 : decode prog_10_method_126_code 72 = .ok (.iload 4, 2) := by decide +kernel
theorem dMo_isSo_74 : decode prog_10_method_126_code 74 = .ok (.iconst 2, 1) := by decide +kernel
theorem dMo_isSo_75 : decode prog_10_method_126_code 75 = .ok (.iadd, 1) := by decide +kernel
theorem dMo_isSo_76 : decode prog_10_method_126_code 76 = .ok (.iaload, 1) := by decide +kernel
theorem dMo_isSo_77 : decode prog_10_method_126_code 77 = .ok (.if_icmp .ne 7, 3) := by decide +kernel
theorem dMo_isSo_80 : decode prog_10_method_126_code 80 = .ok (.iconst 1, 1) := by decide +kernel
theorem dMo_isSo_81 : decode prog_10_method_126_code 81 = .ok (.goto 4, 3) := by decide +kernel
theorem dMo_isSo_84 : decode prog_10_method_126_code 84 = .ok (.iconst 0, 1) := by decide +kernel
theorem dMo_isSo_85 : decode prog_10_method_126_code 85 = .ok (.istore_n 2, 1) := by decide +kernel
theorem dMo_isSo_86 : decode prog_10_method_126_code 86 = .ok (.iinc 3 1, 3) := by decide +kernel
theorem dMo_isSo_89 : decode prog_10_method_126_code 89 = .ok (.goto (-65), 3) := by decide +kernel
theorem dMo_isSo_92 : decode prog_10_method_126_code 92 = .ok (.iload_n 2, 1) := by decide +kernel
theorem dMo_isSo_93 : decode prog_10_method_126_code 93 = .ok (.ireturn, 1) := by decide +kernel
theorem dMo_canBe_0 : decode prog_10_method_127_code 0 = .ok (.iconst 0, 1) := by decide +kernel
theorem dMo_canBe_1 : decode prog_10_method_127_code 1 = .ok (.istore_n 1, 1) := by decide +kernel
theorem dMo_canBe_2 : decode prog_10_method_127_code 2 = .ok (.iconst 0, 1) := by decide +kernel
theorem dMo_canBe_3 : decode prog_10_method_127_code 3 = .ok (.istore_n 2, 1) := by decide +kernel
theorem dMo_canBe_4 : decode prog_10_method_127_code 4 = .ok (.iload_n 2, 1) := by decide +kernel
theorem dMo_canBe_5 : decode prog_10_method_127_code 5 = .ok (.bipush 14, 2) := by decide +kernel
theorem dMo_canBe_7 : decode prog_10_method_127_code 7 = .ok (.if_icmp .gt 27, 3) := by decide +kernel
theorem dMo_canBe_10 : decode prog_10_method_127_code 10 = .ok (.iload_n 1, 1) := by decide +kernel
theorem dMo_canBe_11 : decode prog_10_method_127_code 11 = .ok (.aload_n 0, 1) := by decide +kernel
theorem dMo_canBe_12 : decode prog_10_method_127_code 12 = .ok (.iload_n 2, 1) := by decide +kernel
theorem dMo_canBe_13 : decode prog_10_method_127_code 13 = .ok (.invokevirtual 453, 3) := by decide +kernel
theorem dMo_canBe_16 : decode prog_10_method_127_code 16 = .ok (.ifCond .eq 9, 3) := by decide +kernel
theorem dMo_canBe_19 : decode prog_10_method_127_code 19 = .ok (.iconst 1, 1) := by decide +kernel
theorem dMo_canBe_20 : decode prog_10_method_127_code 20 = .ok (.iload_n 2, 1) := by decide +kernel
theorem dMo_canBe_21 : decode prog_10_method_127_code 21 = .ok (.ishl, 1) := by decide +kernel
theorem dMo_canBe_22 : decode prog_10_method_127_code 22 = .ok (.goto 4, 3) := by decide +kernel
theorem dMo_canBe_25 : decode prog_10_method_127_code 25 = .ok (.iconst 0, 1) := by decide +kernel
theorem dMo_canBe_26 : decode prog_10_method_127_code 26 = .ok (.ior, 1) := by decide +kernel
theorem dMo_canBe_27 : decode prog_10_method_127_code 27 = .ok (.istore_n 1, 1) := by decide +kernel
theorem dMo_canBe_28 : decode prog_10_method_127_code 28 = .ok (.iinc 2 1, 3) := by decide +kernel
theorem dMo_canBe_31 : decode prog_10_method_127_code 31 = .ok (.goto (-27), 3) := by decide +kernel
theorem dMo_canBe_34 : decode prog_10_method_127_code 34 = .ok (.iload_n 1, 1) := by decide +kernel
theorem dMo_canBe_35 : decode prog_10_method_127_code 35 = .ok (.ireturn, 1) := by decide +kernel
theorem dMo_mostAlike_0 : decode prog_10_method_128_code 0 = .ok (.iconst 0, 1) := by decide +kernel
theorem dMo_mostAlike_1 : decode prog_10_method_128_code 1 = .ok (.istore 4, 2) := by decide +kernel
theorem dMo_mostAlike_3 : decode prog_10_method_128_code 3 = .ok (.iload 4, 2) := by decide +kernel
theorem dMo_mostAlike_5 : decode prog_10_method_128_code 5 = .ok (.iconst 3, 1) := by decide +kernel
theorem dMo_mostAlike_6 : decode prog_10_method_128_code 6 = .ok (.if_icmp .ge 17, 3) := by decide +kernel
theorem dMo_mostAlike_9 : decode prog_10_method_128_code 9 = .ok (.aload_n 0, 1) := by decide +kernel
theorem dMo_mostAlike_10 : decode prog_10_method_128_code 10 = .ok (.getfield 94, 3) := by decide +kernel
theorem dMo_mostAlike_13 : decode prog_10_method_128_code 13 = .ok (.iload 4, 2) := by decide +kernel
theorem dMo_mostAlike_15 : decode prog_10_method_128_code 15 = .ok (.iconst 0, 1) := by decide +kernel
theorem dMo_mostAlike_16 : decode prog_10_method_128_code 16 = .ok (.iastore, 1) := by decide +kernel
theorem dMo_mostAlike_17 : decode prog_10_method_128_code 17 = .ok (.iinc 4 1, 3) := by decide +kernel
theorem dMo_mostAlike_20 : decode prog_10_method_128_code 20 = .ok (.goto (-17), 3) := by decide +kernel
theorem dMo_mostAlike_23 : decode prog_10_method_128_code 23 = .ok (.iconst 0, 1) := by decide +kernel
theorem dMo_mostAlike_24 : decode prog_10_method_128_code 24 = .ok (.istore 4, 2) := by decide +kernel
theorem dMo_mostAlike_26 : decode prog_10_method_128_code 26 = .ok (.iconst 0, 1) := by decide +kernel
theorem dMo_mostAlike_27 : decode prog_10_method_128_code 27 = .ok (.istore 5, 2) := by decide +kernel
theorem dMo_mostAlike_29 : decode prog_10_method_128_code 29 = .ok (.iload 5, 2) := by decide +kernel
theorem dMo_mostAlike_31 : decode prog_10_method_128_code 31 = .ok (.bipush 14, 2) := by decide +kernel
theorem dMo_mostAlike_33 : decode prog_10_method_128_code 33 = .ok (.if_icmp .gt 56, 3) := by decide +kernel
theorem dMo_mostAlike_36 : decode prog_10_method_128_code 36 = .ok (.iload_n 3, 1) := by decide +kernel
theorem dMo_mostAlike_37 : decode prog_10_method_128_code 37 = .ok (.iload 5, 2) := by decide +kernel
theorem dMo_mostAlike_39 : decode prog_10_method_128_code 39 = .ok (.invokestatic 423, 3) := by decide +kernel
theorem dMo_mostAlike_42 : decode prog_10_method_128_code 42 = .ok (.ifCond .ne 6, 3) := by decide +kernel
theorem dMo_mostAlike_45 : decode prog_10_method_128_code 45 = .ok (.goto 38, 3) := by decide +kernel
theorem dMo_mostAlike_48 : decode prog_10_method_128_code 48 = .ok (.aload_n 0, 1) := by decide +kernel
theorem dMo_mostAlike_49 : decode prog_10_method_128_code 49 = .ok (.iload_n 1, 1) := by decide +kernel
theorem dMo_mostAlike_50 : decode prog_10_method_128_code 50 = .ok (.iload_n 2, 1) := by decide +kernel
theorem dMo_mostAlike_51 : decode prog_10_method_128_code 51 = .ok (.iload 5, 2) := by decide +kernel
theorem dMo_mostAlike_53 : decode prog_10_method_128_code 53 = .ok (.invokevirtual 450, 3) := by decide +kernel
theorem dMo_mostAlike_56 : decode prog_10_method_128_code 56 = .ok (.istore 6, 2) := by decide +kernel
theorem dMo_mostAlike_58 : decode prog_10_method_128_code 58 = .ok (.aload_n 0, 1) := by decide +kernel
theorem dMo_mostAlike_59 : decode prog_10_method_128_code 59 = .ok (.getfield 94, 3) := by decide +kernel
theorem dMo_mostAlike_62 : decode prog_10_method_128_code 62 = .ok (.iload 6, 2) := by decide +kernel
theorem dMo_mostAlike_64 : decode prog_10_method_128_code 64 = .ok (.dup2, 1) := by decide +kernel
theorem dMo_mostAlike_65 : decode prog_10_method_128_code 65 = .ok (.iaload, 1) := by decide +kernel
theorem dMo_mostAlike_66 : decode prog_10_method_128_code 66 = .ok (.iconst 1, 1) := by decide +kernel
theorem dMo_mostAlike_67 : decode prog_10_method_128_code 67 = .ok (.iadd, 1) := by decide +kernel
theorem dMo_mostAlike_68 : decode prog_10_method_128_code 68 = .ok (.iastore, 1) := by decide +kernel
theorem dMo_mostAlike_69 : decode prog_10_method_128_code 69 = .ok (.iload 4, 2) := by decide +kernel
theorem dMo_mostAlike_71 : decode prog_10_method_128_code 71 = .ok (.aload_n 0, 1) := by decide +kernel
theorem dMo_mostAlike_72 : decode prog_10_method_128_code 72 = .ok (.getfield 94, 3) := by decide +kernel
theorem dMo_mostAlike_75 : decode prog_10_method_128_code 75 = .ok (.iload 6, 2) := by decide +kernel
theorem dMo_mostAlike_77 : decode prog_10_method_128_code 77 = .ok (.iaload, 1) := by decide +kernel
theorem dMo_mostAlike_78 : decode prog_10_method_128_code 78 = .ok (.invokestatic 353, 3) := by decide +kernel
theorem dMo_mostAlike_81 : decode prog_10_method_128_code 81 = .ok (.istore 4, 2) := by decide +kernel
theorem dMo_mostAlike_83 : decode prog_10_method_128_code 83 = .ok (.iinc 5 1, 3) := by decide +kernel
theorem dMo_mostAlike_86 : decode prog_10_method_128_code 86 = .ok (.goto (-57), 3) := by decide +kernel
theorem dMo_mostAlike_89 : decode prog_10_method_128_code 89 = .ok (.iload 4, 2) := by decide +kernel
theorem dMo_mostAlike_91 : decode prog_10_method_128_code 91 = .ok (.ireturn, 1) := by decide +kernel
theorem dMo_weigh_0 : decode prog_10_method_129_code 0 = .ok (.iload_n 1, 1) := by decide +kernel
theorem dMo_weigh_1 : decode prog_10_method_129_code 1 = .ok (.iconst 0, 1) := by decide +kernel
theorem dMo_weigh_2 : decode prog_10_method_129_code 2 = .ok (.iconst 2, 1) := by decide +kernel
theorem dMo_weigh_3 : decode prog_10_method_129_code 3 = .ok (.invokestatic 18, 3) := by decide +kernel
theorem dMo_weigh_6 : decode prog_10_method_129_code 6 = .ok (.ifCond .ne 5, 3) := by decide +kernel
theorem dMo_weigh_9 : decode prog_10_method_129_code 9 = .ok (.iconst (-1), 1) := by decide +kernel
theorem dMo_weigh_10 : decode prog_10_method_129_code 10 = .ok (.ireturn, 1) := by decide +kernel
theorem dMo_weigh_11 : decode prog_10_method_129_code 11 = .ok (.aload_n 0, 1) := by decide +kernel
theorem dMo_weigh_12 : decode prog_10_method_129_code 12 = .ok (.invokevirtual 456, 3) := by decide +kernel
theorem dMo_weigh_15 : decode prog_10_method_129_code 15 = .ok (.istore_n 2, 1) := by decide +kernel
theorem dMo_weigh_16 : decode prog_10_method_129_code 16 = .ok (.ldc 193, 2) := by decide +kernel
theorem dMo_weigh_18 : decode prog_10_method_129_code 18 = .ok (.istore_n 3, 1) := by decide +kernel
theorem dMo_weigh_19 : decode prog_10_method_129_code 19 = .ok (.iconst (-1), 1) := by decide +kernel
theorem dMo_weigh_20 : decode prog_10_method_129_code 20 = .ok (.istore 4, 2) := by decide +kernel
theorem dMo_weigh_22 : decode prog_10_method_129_code 22 = .ok (.iconst (-1), 1) := by decide +kernel
theorem dMo_weigh_23 : decode prog_10_method_129_code 23 = .ok (.istore 5, 2) := by decide +kernel
theorem dMo_weigh_25 : decode prog_10_method_129_code 25 = .ok (.iconst 0, 1) := by decide +kernel
theorem dMo_weigh_26 : decode prog_10_method_129_code 26 = .ok (.istore 6, 2) := by decide +kernel
theorem dMo_weigh_28 : decode prog_10_method_129_code 28 = .ok (.iload 6, 2) := by decide +kernel
theorem dMo_weigh_30 : decode prog_10_method_129_code 30 = .ok (.aload_n 0, 1) := by decide +kernel
theorem dMo_weigh_31 : decode prog_10_method_129_code 31 = .ok (.invokevirtual 426, 3) := by decide +kernel
theorem dMo_weigh_34 : decode prog_10_method_129_code 34 = .ok (.if_icmp .gt 73, 3) := by decide +kernel
theorem dMo_weigh_37 : decode prog_10_method_129_code 37 = .ok (.iload_n 2, 1) := by decide +kernel
theorem dMo_weigh_38 : decode prog_10_method_129_code 38 = .ok (.ifCond .eq 69, 3) := by decide +kernel
theorem dMo_weigh_41 : decode prog_10_method_129_code 41 = .ok (.iconst 0, 1) := by decide +kernel
theorem dMo_weigh_42 : decode prog_10_method_129_code 42 = .ok (.istore 7, 2) := by decide +kernel
theorem dMo_weigh_44 : decode prog_10_method_129_code 44 = .ok (.iload 7, 2) := by decide +kernel
theorem dMo_weigh_46 : decode prog_10_method_129_code 46 = .ok (.aload_n 0, 1) := by decide +kernel
theorem dMo_weigh_47 : decode prog_10_method_129_code 47 = .ok (.invokevirtual 426, 3) := by decide +kernel
theorem dMo_weigh_50 : decode prog_10_method_129_code 50 = .ok (.if_icmp .gt 51, 3) := by decide +kernel
theorem dMo_weigh_53 : decode prog_10_method_129_code 53 = .ok (.iload 6, 2) := by decide +kernel
theorem dMo_weigh_55 : decode prog_10_method_129_code 55 = .ok (.iload 7, 2) := by decide +kernel
theorem dMo_weigh_57 : decode prog_10_method_129_code 57 = .ok (.iand, 1) := by decide +kernel
theorem dMo_weigh_58 : decode prog_10_method_129_code 58 = .ok (.ifCond .eq 6, 3) := by decide +kernel
theorem dMo_weigh_61 : decode prog_10_method_129_code 61 = .ok (.goto 34, 3) := by decide +kernel
theorem dMo_weigh_64 : decode prog_10_method_129_code 64 = .ok (.aload_n 0, 1) := by decide +kernel
theorem dMo_weigh_65 : decode prog_10_method_129_code 65 = .ok (.iload 6, 2) := by decide +kernel
theorem dMo_weigh_67 : decode prog_10_method_129_code 67 = .ok (.iload 7, 2) := by decide +kernel
theorem dMo_weigh_69 : decode prog_10_method_129_code 69 = .ok (.iload_n 2, 1) := by decide +kernel
theorem dMo_weigh_70 : decode prog_10_method_129_code 70 = .ok (.invokevirtual 459, 3) := by decide +kernel
theorem dMo_weigh_73 : decode prog_10_method_129_code 73 = .ok (.istore 8, 2) := by decide +kernel
theorem dMo_weigh_75 : decode prog_10_method_129_code 75 = .ok (.iload 8, 2) := by decide +kernel
theorem dMo_weigh_77 : decode prog_10_method_129_code 77 = .ok (.iload_n 3, 1) := by decide +kernel
theorem dMo_weigh_78 : decode prog_10_method_129_code 78 = .ok (.if_icmp .lt 6, 3) := by decide +kernel
theorem dMo_weigh_81 : decode prog_10_method_129_code 81 = .ok (.goto 14, 3) := by decide +kernel
theorem dMo_weigh_84 : decode prog_10_method_129_code 84 = .ok (.iload 8, 2) := by decide +kernel
theorem dMo_weigh_86 : decode prog_10_method_129_code 86 = .ok (.istore_n 3, 1) := by decide +kernel
theorem dMo_weigh_87 : decode prog_10_method_129_code 87 = .ok (.iload 6, 2) := by decide +kernel
theorem dMo_weigh_89 : decode prog_10_method_129_code 89 = .ok (.istore 4, 2) := by decide +kernel
theorem dMo_weigh_91 : decode prog_10_method_129_code 91 = .ok (.iload 7, 2) := by decide +kernel
theorem dMo_weigh_93 : decode prog_10_method_129_code 93 = .ok (.istore 5, 2) := by decide +kernel
theorem dMo_weigh_95 : decode prog_10_method_129_code 95 = .ok (.iinc 7 1, 3) := by decide +kernel
theorem dMo_weigh_98 : decode prog_10_method_129_code 98 = .ok (.goto (-54), 3) := by decide +kernel
theorem dMo_weigh_101 : decode prog_10_method_129_code 101 = .ok (.iinc 6 1, 3) := by decide +kernel
theorem dMo_weigh_104 : decode prog_10_method_129_code 104 = .ok (.goto (-76), 3) := by decide +kernel
theorem dMo_weigh_107 : decode prog_10_method_129_code 107 = .ok (.iload_n 2, 1) := by decide +kernel
theorem dMo_weigh_108 : decode prog_10_method_129_code 108 = .ok (.ifCond .ne 7, 3) := by decide +kernel
theorem dMo_weigh_111 : decode prog_10_method_129_code 111 = .ok (.iconst (-1), 1) := by decide +kernel
theorem dMo_weigh_112 : decode prog_10_method_129_code 112 = .ok (.goto 23, 3) := by decide +kernel
theorem dMo_weigh_115 : decode prog_10_method_129_code 115 = .ok (.iload_n 1, 1) := by decide +kernel
theorem dMo_weigh_116 : decode prog_10_method_129_code 116 = .ok (.ifCond .ne 8, 3) := by decide +kernel
theorem dMo_weigh_119 : decode prog_10_method_129_code 119 = .ok (.iload 4, 2) := by decide +kernel
theorem dMo_weigh_121 : decode prog_10_method_129_code 121 = .ok (.goto 14, 3) := by decide +kernel
theorem dMo_weigh_124 : decode prog_10_method_129_code 124 = .ok (.iload_n 1, 1) := by decide +kernel
theorem dMo_weigh_125 : decode prog_10_method_129_code 125 = .ok (.iconst 1, 1) := by decide +kernel
theorem dMo_weigh_126 : decode prog_10_method_129_code 126 = .ok (.if_icmp .ne 8, 3) := by decide +kernel
theorem dMo_weigh_129 : decode prog_10_method_129_code 129 = .ok (.iload 5, 2) := by decide +kernel
theorem dMo_weigh_131 : decode prog_10_method_129_code 131 = .ok (.goto 4, 3) := by decide +kernel
theorem dMo_weigh_134 : decode prog_10_method_129_code 134 = .ok (.iload_n 3, 1) := by decide +kernel
theorem dMo_weigh_135 : decode prog_10_method_129_code 135 = .ok (.ireturn, 1) := by decide +kernel
theorem dMo_few_0 : decode prog_10_method_130_code 0 = .ok (.iload_n 1, 1) := by decide +kernel
theorem dMo_few_1 : decode prog_10_method_130_code 1 = .ok (.iconst 1, 1) := by decide +kernel
theorem dMo_few_2 : decode prog_10_method_130_code 2 = .ok (.bipush 20, 2) := by decide +kernel
theorem dMo_few_4 : decode prog_10_method_130_code 4 = .ok (.invokestatic 18, 3) := by decide +kernel
theorem dMo_few_7 : decode prog_10_method_130_code 7 = .ok (.ifCond .eq 13, 3) := by decide +kernel
theorem dMo_few_10 : decode prog_10_method_130_code 10 = .ok (.iload_n 2, 1) := by decide +kernel
theorem dMo_few_11 : decode prog_10_method_130_code 11 = .ok (.iconst 0, 1) := by decide +kernel
theorem dMo_few_12 : decode prog_10_method_130_code 12 = .ok (.bipush 99, 2) := by decide +kernel
theorem dMo_few_14 : decode prog_10_method_130_code 14 = .ok (.invokestatic 18, 3) := by decide +kernel
theorem dMo_few_17 : decode prog_10_method_130_code 17 = .ok (.ifCond .ne 7, 3) := by decide +kernel
theorem dMo_few_20 : decode prog_10_method_130_code 20 = .ok (.ldc2_w 462, 3) := by decide +kernel
theorem dMo_few_23 : decode prog_10_method_130_code 23 = .ok (.lreturn, 1) := by decide +kernel
theorem dMo_few_24 : decode prog_10_method_130_code 24 = .ok (.iconst 0, 1) := by decide +kernel
theorem dMo_few_25 : decode prog_10_method_130_code 25 = .ok (.istore_n 3, 1) := by decide +kernel
theorem dMo_few_26 : decode prog_10_method_130_code 26 = .ok (.iload_n 3, 1) := by decide +kernel
theorem dMo_few_27 : decode prog_10_method_130_code 27 = .ok (.bipush 20, 2) := by decide +kernel
theorem dMo_few_29 : decode prog_10_method_130_code 29 = .ok (.if_icmp .gt 26, 3) := by decide +kernel
theorem dMo_few_32 : decode prog_10_method_130_code 32 = .ok (.aload_n 0, 1) := by decide +kernel
theorem dMo_few_33 : decode prog_10_method_130_code 33 = .ok (.getfield 97, 3) := by decide +kernel
theorem dMo_few_36 : decode prog_10_method_130_code 36 = .ok (.iload_n 3, 1) := by decide +kernel
theorem dMo_few_37 : decode prog_10_method_130_code 37 = .ok (.iload_n 3, 1) := by decide +kernel
theorem dMo_few_38 : decode prog_10_method_130_code 38 = .ok (.ifCond .ne 9, 3) := by decide +kernel
theorem dMo_few_41 : decode prog_10_method_130_code 41 = .ok (.ldc2_w 464, 3) := by decide +kernel
theorem dMo_few_44 : decode prog_10_method_130_code 44 = .ok (.goto 4, 3) := by decide +kernel
theorem dMo_few_47 : decode prog_10_method_130_code 47 = .ok (.lconst 0, 1) := by decide +kernel
theorem dMo_few_48 : decode prog_10_method_130_code 48 = .ok (.lastore, 1) := by decide +kernel
theorem dMo_few_49 : decode prog_10_method_130_code 49 = .ok (.iinc 3 1, 3) := by decide +kernel
theorem dMo_few_52 : decode prog_10_method_130_code 52 = .ok (.goto (-26), 3) := by decide +kernel
theorem dMo_few_55 : decode prog_10_method_130_code 55 = .ok (.iconst 0, 1) := by decide +kernel
theorem dMo_few_56 : decode prog_10_method_130_code 56 = .ok (.istore_n 3, 1) := by decide +kernel
theorem dMo_few_57 : decode prog_10_method_130_code 57 = .ok (.iload_n 3, 1) := by decide +kernel
theorem dMo_few_58 : decode prog_10_method_130_code 58 = .ok (.iload_n 2, 1) := by decide +kernel
theorem dMo_few_59 : decode prog_10_method_130_code 59 = .ok (.if_icmp .ge 87, 3) := by decide +kernel
theorem dMo_few_62 : decode prog_10_method_130_code 62 = .ok (.iload_n 1, 1) := by decide +kernel
theorem dMo_few_63 : decode prog_10_method_130_code 63 = .ok (.iconst 1, 1) := by decide +kernel
theorem dMo_few_64 : decode prog_10_method_130_code 64 = .ok (.isub, 1) := by decide +kernel
theorem dMo_few_65 : decode prog_10_method_130_code 65 = .ok (.istore 4, 2) := by decide +kernel
theorem dMo_few_67 : decode prog_10_method_130_code 67 = .ok (.iload 4, 2) := by decide +kernel
theorem dMo_few_69 : decode prog_10_method_130_code 69 = .ok (.ifCond .lt 71, 3) := by decide +kernel
theorem dMo_few_72 : decode prog_10_method_130_code 72 = .ok (.aload_n 0, 1) := by decide +kernel
theorem dMo_few_73 : decode prog_10_method_130_code 73 = .ok (.getfield 97, 3) := by decide +kernel
theorem dMo_few_76 : decode prog_10_method_130_code 76 = .ok (.iload 4, 2) := by decide +kernel
theorem dMo_few_78 : decode prog_10_method_130_code 78 = .ok (.iconst 1, 1) := by decide +kernel
theorem dMo_few_79 : decode prog_10_method_130_code 79 = .ok (.iadd, 1) := by decide +kernel
theorem dMo_few_80 : decode prog_10_method_130_code 80 = .ok (.dup2, 1) := by decide +kernel
theorem dMo_few_81 : decode prog_10_method_130_code 81 = .ok (.laload, 1) := by decide +kernel
theorem dMo_few_82 : decode prog_10_method_130_code 82 = .ok (.aload_n 0, 1) := by decide +kernel
theorem dMo_few_83 : decode prog_10_method_130_code 83 = .ok (.getfield 97, 3) := by decide +kernel
theorem dMo_few_86 : decode prog_10_method_130_code 86 = .ok (.iload 4, 2) := by decide +kernel
theorem dMo_few_88 : decode prog_10_method_130_code 88 = .ok (.laload, 1) := by decide +kernel
theorem dMo_few_89 : decode prog_10_method_130_code 89 = .ok (.aload_n 0, 1) := by decide +kernel
theorem dMo_few_90 : decode prog_10_method_130_code 90 = .ok (.getfield 28, 3) := by decide +kernel
theorem dMo_few_93 : decode prog_10_method_130_code 93 = .ok (.bipush 40, 2) := by decide +kernel
theorem dMo_few_95 : decode prog_10_method_130_code 95 = .ok (.iaload, 1) := by decide +kernel
theorem dMo_few_96 : decode prog_10_method_130_code 96 = .ok (.i2l, 1) := by decide +kernel
theorem dMo_few_97 : decode prog_10_method_130_code 97 = .ok (.lmul, 1) := by decide +kernel
theorem dMo_few_98 : decode prog_10_method_130_code 98 = .ok (.ldc2_w 466, 3) := by decide +kernel
theorem dMo_few_101 : decode prog_10_method_130_code 101 = .ok (.ldiv, 1) := by decide +kernel
theorem dMo_few_102 : decode prog_10_method_130_code 102 = .ok (.ladd, 1) := by decide +kernel
theorem dMo_few_103 : decode prog_10_method_130_code 103 = .ok (.lastore, 1) := by decide +kernel
theorem dMo_few_104 : decode prog_10_method_130_code 104 = .ok (.aload_n 0, 1) := by decide +kernel
theorem dMo_few_105 : decode prog_10_method_130_code 105 = .ok (.getfield 97, 3) := by decide +kernel
theorem dMo_few_108 : decode prog_10_method_130_code 108 = .ok (.iload 4, 2) := by decide +kernel
theorem dMo_few_110 : decode prog_10_method_130_code 110 = .ok (.aload_n 0, 1) := by decide +kernel
theorem dMo_few_111 : decode prog_10_method_130_code 111 = .ok (.getfield 97, 3) := by decide +kernel
theorem dMo_few_114 : decode prog_10_method_130_code 114 = .ok (.iload 4, 2) := by decide +kernel
theorem dMo_few_116 : decode prog_10_method_130_code 116 = .ok (.laload, 1) := by decide +kernel
theorem dMo_few_117 : decode prog_10_method_130_code 117 = .ok (.bipush 10, 2) := by decide +kernel
theorem dMo_few_119 : decode prog_10_method_130_code 119 = .ok (.aload_n 0, 1) := by decide +kernel
theorem dMo_few_120 : decode prog_10_method_130_code 120 = .ok (.getfield 28, 3) := by decide +kernel
theorem dMo_few_123 : decode prog_10_method_130_code 123 = .ok (.bipush 40, 2) := by decide +kernel
theorem dMo_few_125 : decode prog_10_method_130_code 125 = .ok (.iaload, 1) := by decide +kernel
theorem dMo_few_126 : decode prog_10_method_130_code 126 = .ok (.isub, 1) := by decide +kernel
theorem dMo_few_127 : decode prog_10_method_130_code 127 = .ok (.i2l, 1) := by decide +kernel
theorem dMo_few_128 : decode prog_10_method_130_code 128 = .ok (.lmul, 1) := by decide +kernel
theorem dMo_few_129 : decode prog_10_method_130_code 129 = .ok (.ldc2_w 466, 3) := by decide +kernel
theorem dMo_few_132 : decode prog_10_method_130_code 132 = .ok (.ldiv, 1) := by decide +kernel
theorem dMo_few_133 : decode prog_10_method_130_code 133 = .ok (.lastore, 1) := by decide +kernel
theorem dMo_few_134 : decode prog_10_method_130_code 134 = .ok (.iinc 4 (-1), 3) := by decide +kernel
theorem dMo_few_137 : decode prog_10_method_130_code 137 = .ok (.goto (-70), 3) := by decide +kernel
theorem dMo_few_140 : decode prog_10_method_130_code 140 = .ok (.iinc 3 1, 3) := by decide +kernel
theorem dMo_few_143 : decode prog_10_method_130_code 143 = .ok (.goto (-86), 3) := by decide +kernel
theorem dMo_few_146 : decode prog_10_method_130_code 146 = .ok (.lconst 0, 1) := by decide +kernel
theorem dMo_few_147 : decode prog_10_method_130_code 147 = .ok (.lstore_n 3, 1) := by decide +kernel
theorem dMo_few_148 : decode prog_10_method_130_code 148 = .ok (.iconst 0, 1) := by decide +kernel
theorem dMo_few_149 : decode prog_10_method_130_code 149 = .ok (.istore 5, 2) := by decide +kernel
theorem dMo_few_151 : decode prog_10_method_130_code 151 = .ok (.iload 5, 2) := by decide +kernel
theorem dMo_few_153 : decode prog_10_method_130_code 153 = .ok (.iload_n 1, 1) := by decide +kernel
theorem dMo_few_154 : decode prog_10_method_130_code 154 = .ok (.if_icmp .ge 19, 3) := by decide +kernel
theorem dMo_few_157 : decode prog_10_method_130_code 157 = .ok (.lload_n 3, 1) := by decide +kernel
theorem dMo_few_158 : decode prog_10_method_130_code 158 = .ok (.aload_n 0, 1) := by decide +kernel
theorem dMo_few_159 : decode prog_10_method_130_code 159 = .ok (.getfield 97, 3) := by decide +kernel
theorem dMo_few_162 : decode prog_10_method_130_code 162 = .ok (.iload 5, 2) := by decide +kernel
theorem dMo_few_164 : decode prog_10_method_130_code 164 = .ok (.laload, 1) := by decide +kernel
theorem dMo_few_165 : decode prog_10_method_130_code 165 = .ok (.ladd, 1) := by decide +kernel
theorem dMo_few_166 : decode prog_10_method_130_code 166 = .ok (.lstore_n 3, 1) := by decide +kernel
theorem dMo_few_167 : decode prog_10_method_130_code 167 = .ok (.iinc 5 1, 3) := by decide +kernel
theorem dMo_few_170 : decode prog_10_method_130_code 170 = .ok (.goto (-19), 3) := by decide +kernel
theorem dMo_few_173 : decode prog_10_method_130_code 173 = .ok (.lload_n 3, 1) := by decide +kernel
theorem dMo_few_174 : decode prog_10_method_130_code 174 = .ok (.lreturn, 1) := by decide +kernel
theorem dMo_stopped_0 : decode prog_10_method_131_code 0 = .ok (.aload_n 0, 1) := by decide +kernel
theorem dMo_stopped_1 : decode prog_10_method_131_code 1 = .ok (.getfield 101, 3) := by decide +kernel
theorem dMo_stopped_4 : decode prog_10_method_131_code 4 = .ok (.ireturn, 1) := by decide +kernel
theorem dMo_small_0 : decode prog_10_method_134_code 0 = .ok (.lload_n 0, 1) := by decide +kernel
theorem dMo_small_1 : decode prog_10_method_134_code 1 = .ok (.lconst 0, 1) := by decide +kernel
theorem dMo_small_2 : decode prog_10_method_134_code 2 = .ok (.lcmp, 1) := by decide +kernel
theorem dMo_small_3 : decode prog_10_method_134_code 3 = .ok (.ifCond .lt 11, 3) := by decide +kernel
theorem dMo_small_6 : decode prog_10_method_134_code 6 = .ok (.lload_n 0, 1) := by decide +kernel
theorem dMo_small_7 : decode prog_10_method_134_code 7 = .ok (.ldc2_w 492, 3) := by decide +kernel
theorem dMo_small_10 : decode prog_10_method_134_code 10 = .ok (.lcmp, 1) := by decide +kernel
theorem dMo_small_11 : decode prog_10_method_134_code 11 = .ok (.ifCond .le 7, 3) := by decide +kernel
theorem dMo_small_14 : decode prog_10_method_134_code 14 = .ok (.iconst (-1), 1) := by decide +kernel
theorem dMo_small_15 : decode prog_10_method_134_code 15 = .ok (.goto 5, 3) := by decide +kernel
theorem dMo_small_18 : decode prog_10_method_134_code 18 = .ok (.lload_n 0, 1) := by decide +kernel
theorem dMo_small_19 : decode prog_10_method_134_code 19 = .ok (.l2i, 1) := by decide +kernel
theorem dMo_small_20 : decode prog_10_method_134_code 20 = .ok (.ireturn, 1) := by decide +kernel
theorem dMo_draws_0 : decode prog_10_method_137_code 0 = .ok (.aload_n 0, 1) := by decide +kernel
theorem dMo_draws_1 : decode prog_10_method_137_code 1 = .ok (.ldc2_w 505, 3) := by decide +kernel
theorem dMo_draws_4 : decode prog_10_method_137_code 4 = .ok (.aload_n 0, 1) := by decide +kernel
theorem dMo_draws_5 : decode prog_10_method_137_code 5 = .ok (.getfield 507, 3) := by decide +kernel
theorem dMo_draws_8 : decode prog_10_method_137_code 8 = .ok (.i2l, 1) := by decide +kernel
theorem dMo_draws_9 : decode prog_10_method_137_code 9 = .ok (.lmul, 1) := by decide +kernel
theorem dMo_draws_10 : decode prog_10_method_137_code 10 = .ok (.ldc2_w 510, 3) := by decide +kernel
theorem dMo_draws_13 : decode prog_10_method_137_code 13 = .ok (.ladd, 1) := by decide +kernel
theorem dMo_draws_14 : decode prog_10_method_137_code 14 = .ok (.ldc2_w 512, 3) := by decide +kernel
theorem dMo_draws_17 : decode prog_10_method_137_code 17 = .ok (.lrem, 1) := by decide +kernel
theorem dMo_draws_18 : decode prog_10_method_137_code 18 = .ok (.l2i, 1) := by decide +kernel
theorem dMo_draws_19 : decode prog_10_method_137_code 19 = .ok (.putfield 507, 3) := by decide +kernel
theorem dMo_draws_22 : decode prog_10_method_137_code 22 = .ok (.aload_n 0, 1) := by decide +kernel
theorem dMo_draws_23 : decode prog_10_method_137_code 23 = .ok (.getfield 507, 3) := by decide +kernel
theorem dMo_draws_26 : decode prog_10_method_137_code 26 = .ok (.iload_n 1, 1) := by decide +kernel
theorem dMo_draws_27 : decode prog_10_method_137_code 27 = .ok (.irem, 1) := by decide +kernel
theorem dMo_draws_28 : decode prog_10_method_137_code 28 = .ok (.ireturn, 1) := by decide +kernel
theorem dMo_drawn_0 : decode prog_10_method_139_code 0 = .ok (.iload_n 1, 1) := by decide +kernel
theorem dMo_drawn_1 : decode prog_10_method_139_code 1 = .ok (.iconst 0, 1) := by decide +kernel
theorem dMo_drawn_2 : decode prog_10_method_139_code 2 = .ok (.aload_n 0, 1) := by decide +kernel
theorem dMo_drawn_3 : decode prog_10_method_139_code 3 = .ok (.getfield 110, 3) := by decide +kernel
theorem dMo_drawn_6 : decode prog_10_method_139_code 6 = .ok (.iconst 1, 1) := by decide +kernel
theorem dMo_drawn_7 : decode prog_10_method_139_code 7 = .ok (.isub, 1) := by decide +kernel
theorem dMo_drawn_8 : decode prog_10_method_139_code 8 = .ok (.invokestatic 18, 3) := by decide +kernel
theorem dMo_drawn_11 : decode prog_10_method_139_code 11 = .ok (.ifCond .eq 12, 3) := by decide +kernel
theorem dMo_drawn_14 : decode prog_10_method_139_code 14 = .ok (.iload_n 2, 1) := by decide +kernel
theorem dMo_drawn_15 : decode prog_10_method_139_code 15 = .ok (.iconst 0, 1) := by decide +kernel
theorem dMo_drawn_16 : decode prog_10_method_139_code 16 = .ok (.iconst 1, 1) := by decide +kernel
theorem dMo_drawn_17 : decode prog_10_method_139_code 17 = .ok (.invokestatic 18, 3) := by decide +kernel
theorem dMo_drawn_20 : decode prog_10_method_139_code 20 = .ok (.ifCond .ne 5, 3) := by decide +kernel
theorem dMo_drawn_23 : decode prog_10_method_139_code 23 = .ok (.iconst (-1), 1) := by decide +kernel
theorem dMo_drawn_24 : decode prog_10_method_139_code 24 = .ok (.ireturn, 1) := by decide +kernel
theorem dMo_drawn_25 : decode prog_10_method_139_code 25 = .ok (.aload_n 0, 1) := by decide +kernel
theorem dMo_drawn_26 : decode prog_10_method_139_code 26 = .ok (.getfield 107, 3) := by decide +kernel
theorem dMo_drawn_29 : decode prog_10_method_139_code 29 = .ok (.iload_n 2, 1) := by decide +kernel
theorem dMo_drawn_30 : decode prog_10_method_139_code 30 = .ok (.ifCond .ne 7, 3) := by decide +kernel
theorem dMo_drawn_33 : decode prog_10_method_139_code 33 = .ok (.iconst 0, 1) := by decide +kernel
theorem dMo_drawn_34 : decode prog_10_method_139_code 34 = .ok (.goto 5, 3) := by decide +kernel
theorem dMo_drawn_37 : decode prog_10_method_139_code 37 = .ok (.bipush 7, 2) := by decide +kernel
theorem dMo_drawn_39 : decode prog_10_method_139_code 39 = .ok (.iload_n 1, 1) := by decide +kernel
theorem dMo_drawn_40 : decode prog_10_method_139_code 40 = .ok (.iadd, 1) := by decide +kernel
theorem dMo_drawn_41 : decode prog_10_method_139_code 41 = .ok (.iaload, 1) := by decide +kernel
theorem dMo_drawn_42 : decode prog_10_method_139_code 42 = .ok (.ireturn, 1) := by decide +kernel
theorem dMo_count_0 : decode prog_10_method_140_code 0 = .ok (.iload_n 1, 1) := by decide +kernel
theorem dMo_count_1 : decode prog_10_method_140_code 1 = .ok (.tableswitch 174 0 16 #[83, 88, 93, 102, 110, 118, 123, 128, 128, 128, 138, 145, 153, 161, 161, 161, 161], 83) := by decide +kernel
theorem dMo_count_84 : decode prog_10_method_140_code 84 = .ok (.aload_n 0, 1) := by decide +kernel
theorem dMo_count_85 : decode prog_10_method_140_code 85 = .ok (.invokevirtual 119, 3) := by decide +kernel
theorem dMo_count_88 : decode prog_10_method_140_code 88 = .ok (.ireturn, 1) := by decide +kernel
theorem dMo_count_89 : decode prog_10_method_140_code 89 = .ok (.aload_n 0, 1) := by decide +kernel
theorem dMo_count_90 : decode prog_10_method_140_code 90 = .ok (.invokevirtual 331, 3) := by decide +kernel
theorem dMo_count_93 : decode prog_10_method_140_code 93 = .ok (.ireturn, 1) := by decide +kernel
theorem dMo_count_94 : decode prog_10_method_140_code 94 = .ok (.aload_n 0, 1) := by decide +kernel
theorem dMo_count_95 : decode prog_10_method_140_code 95 = .ok (.aload_n 0, 1) := by decide +kernel
theorem dMo_count_96 : decode prog_10_method_140_code 96 = .ok (.invokevirtual 426, 3) := by decide +kernel
theorem dMo_count_99 : decode prog_10_method_140_code 99 = .ok (.invokevirtual 429, 3) := by decide +kernel
theorem dMo_count_102 : decode prog_10_method_140_code 102 = .ok (.ireturn, 1) := by decide +kernel
theorem dMo_count_103 : decode prog_10_method_140_code 103 = .ok (.aload_n 0, 1) := by decide +kernel
theorem dMo_count_104 : decode prog_10_method_140_code 104 = .ok (.getfield 28, 3) := by decide +kernel
theorem dMo_count_107 : decode prog_10_method_140_code 107 = .ok (.bipush 44, 2) := by decide +kernel
theorem dMo_count_109 : decode prog_10_method_140_code 109 = .ok (.iaload, 1) := by decide +kernel
theorem dMo_count_110 : decode prog_10_method_140_code 110 = .ok (.ireturn, 1) := by decide +kernel
theorem dMo_count_111 : decode prog_10_method_140_code 111 = .ok (.aload_n 0, 1) := by decide +kernel
theorem dMo_count_112 : decode prog_10_method_140_code 112 = .ok (.getfield 28, 3) := by decide +kernel
theorem dMo_count_115 : decode prog_10_method_140_code 115 = .ok (.bipush 45, 2) := by decide +kernel
theorem dMo_count_117 : decode prog_10_method_140_code 117 = .ok (.iaload, 1) := by decide +kernel
theorem dMo_count_118 : decode prog_10_method_140_code 118 = .ok (.ireturn, 1) := by decide +kernel
theorem dMo_count_119 : decode prog_10_method_140_code 119 = .ok (.aload_n 0, 1) := by decide +kernel
theorem dMo_count_120 : decode prog_10_method_140_code 120 = .ok (.getfield 11, 3) := by decide +kernel
theorem dMo_count_123 : decode prog_10_method_140_code 123 = .ok (.ireturn, 1) := by decide +kernel
theorem dMo_count_124 : decode prog_10_method_140_code 124 = .ok (.aload_n 0, 1) := by decide +kernel
theorem dMo_count_125 : decode prog_10_method_140_code 125 = .ok (.getfield 175, 3) := by decide +kernel
theorem dMo_count_128 : decode prog_10_method_140_code 128 = .ok (.ireturn, 1) := by decide +kernel
theorem dMo_count_129 : decode prog_10_method_140_code 129 = .ok (.aload_n 0, 1) := by decide +kernel
theorem dMo_count_130 : decode prog_10_method_140_code 130 = .ok (.getfield 7, 3) := by decide +kernel
theorem dMo_count_133 : decode prog_10_method_140_code 133 = .ok (.iload_n 1, 1) := by decide +kernel
theorem dMo_count_134 : decode prog_10_method_140_code 134 = .ok (.bipush 6, 2) := by decide +kernel
theorem dMo_count_136 : decode prog_10_method_140_code 136 = .ok (.isub, 1) := by decide +kernel
theorem dMo_count_137 : decode prog_10_method_140_code 137 = .ok (.iaload, 1) := by decide +kernel
theorem dMo_count_138 : decode prog_10_method_140_code 138 = .ok (.ireturn, 1) := by decide +kernel
theorem dMo_count_139 : decode prog_10_method_140_code 139 = .ok (.aload_n 0, 1) := by decide +kernel
theorem dMo_count_140 : decode prog_10_method_140_code 140 = .ok (.getfield 7, 3) := by decide +kernel
theorem dMo_count_143 : decode prog_10_method_140_code 143 = .ok (.iconst 5, 1) := by decide +kernel
theorem dMo_count_144 : decode prog_10_method_140_code 144 = .ok (.iaload, 1) := by decide +kernel
theorem dMo_count_145 : decode prog_10_method_140_code 145 = .ok (.ireturn, 1) := by decide +kernel
theorem dMo_count_146 : decode prog_10_method_140_code 146 = .ok (.aload_n 0, 1) := by decide +kernel
theorem dMo_count_147 : decode prog_10_method_140_code 147 = .ok (.getfield 7, 3) := by decide +kernel
theorem dMo_count_150 : decode prog_10_method_140_code 150 = .ok (.bipush 6, 2) := by decide +kernel
theorem dMo_count_152 : decode prog_10_method_140_code 152 = .ok (.iaload, 1) := by decide +kernel
theorem dMo_count_153 : decode prog_10_method_140_code 153 = .ok (.ireturn, 1) := by decide +kernel
theorem dMo_count_154 : decode prog_10_method_140_code 154 = .ok (.aload_n 0, 1) := by decide +kernel
theorem dMo_count_155 : decode prog_10_method_140_code 155 = .ok (.getfield 28, 3) := by decide +kernel
theorem dMo_count_158 : decode prog_10_method_140_code 158 = .ok (.bipush 46, 2) := by decide +kernel
theorem dMo_count_160 : decode prog_10_method_140_code 160 = .ok (.iaload, 1) := by decide +kernel
theorem dMo_count_161 : decode prog_10_method_140_code 161 = .ok (.ireturn, 1) := by decide +kernel
theorem dMo_count_162 : decode prog_10_method_140_code 162 = .ok (.aload_n 0, 1) := by decide +kernel
theorem dMo_count_163 : decode prog_10_method_140_code 163 = .ok (.getfield 28, 3) := by decide +kernel
theorem dMo_count_166 : decode prog_10_method_140_code 166 = .ok (.iload_n 1, 1) := by decide +kernel
theorem dMo_count_167 : decode prog_10_method_140_code 167 = .ok (.bipush 13, 2) := by decide +kernel
theorem dMo_count_169 : decode prog_10_method_140_code 169 = .ok (.isub, 1) := by decide +kernel
theorem dMo_count_170 : decode prog_10_method_140_code 170 = .ok (.invokestatic 172, 3) := by decide +kernel
theorem dMo_count_173 : decode prog_10_method_140_code 173 = .ok (.iaload, 1) := by decide +kernel
theorem dMo_count_174 : decode prog_10_method_140_code 174 = .ok (.ireturn, 1) := by decide +kernel
theorem dMo_count_175 : decode prog_10_method_140_code 175 = .ok (.iconst (-1), 1) := by decide +kernel
theorem dMo_count_176 : decode prog_10_method_140_code 176 = .ok (.ireturn, 1) := by decide +kernel
theorem dMo_status_0 : decode prog_10_method_141_code 0 = .ok (.aload_n 0, 1) := by decide +kernel
theorem dMo_status_1 : decode prog_10_method_141_code 1 = .ok (.getfield 3, 3) := by decide +kernel
theorem dMo_status_4 : decode prog_10_method_141_code 4 = .ok (.ireturn, 1) := by decide +kernel
