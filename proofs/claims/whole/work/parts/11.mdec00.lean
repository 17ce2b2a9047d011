theorem dMo_lies_0 : decode prog_10_method_1_code 0 = .ok (.iload_n 0, 1) := by decide +kernel
theorem dMo_lies_1 : decode prog_10_method_1_code 1 = .ok (.iload_n 1, 1) := by decide +kernel
theorem dMo_lies_2 : decode prog_10_method_1_code 2 = .ok (.if_icmp .lt 12, 3) := by decide +kernel
theorem dMo_lies_5 : decode prog_10_method_1_code 5 = .ok (.iload_n 0, 1) := by decide +kernel
theorem dMo_lies_6 : decode prog_10_method_1_code 6 = .ok (.iload_n 2, 1) := by decide +kernel
theorem dMo_lies_7 : decode prog_10_method_1_code 7 = .ok (.if_icmp .gt 7, 3) := by decide +kernel
theorem dMo_lies_10 : decode prog_10_method_1_code 10 = .ok (.iconst 1, 1) := by decide +kernel
theorem dMo_lies_11 : decode prog_10_method_1_code 11 = .ok (.goto 4, 3) := by decide +kernel
theorem dMo_lies_14 : decode prog_10_method_1_code 14 = .ok (.iconst 0, 1) := by decide +kernel
theorem dMo_lies_15 : decode prog_10_method_1_code 15 = .ok (.ireturn, 1) := by decide +kernel
theorem dMo_lesser_0 : decode prog_10_method_2_code 0 = .ok (.iload_n 0, 1) := by decide +kernel
theorem dMo_lesser_1 : decode prog_10_method_2_code 1 = .ok (.iload_n 1, 1) := by decide +kernel
theorem dMo_lesser_2 : decode prog_10_method_2_code 2 = .ok (.if_icmp .ge 7, 3) := by decide +kernel
theorem dMo_lesser_5 : decode prog_10_method_2_code 5 = .ok (.iload_n 0, 1) := by decide +kernel
theorem dMo_lesser_6 : decode prog_10_method_2_code 6 = .ok (.goto 4, 3) := by decide +kernel
theorem dMo_lesser_9 : decode prog_10_method_2_code 9 = .ok (.iload_n 1, 1) := by decide +kernel
theorem dMo_lesser_10 : decode prog_10_method_2_code 10 = .ok (.ireturn, 1) := by decide +kernel
theorem dMo_greater_0 : decode prog_10_method_3_code 0 = .ok (.iload_n 0, 1) := by decide +kernel
theorem dMo_greater_1 : decode prog_10_method_3_code 1 = .ok (.iload_n 1, 1) := by decide +kernel
theorem dMo_greater_2 : decode prog_10_method_3_code 2 = .ok (.if_icmp .le 7, 3) := by decide +kernel
theorem dMo_greater_5 : decode prog_10_method_3_code 5 = .ok (.iload_n 0, 1) := by decide +kernel
theorem dMo_greater_6 : decode prog_10_method_3_code 6 = .ok (.goto 4, 3) := by decide +kernel
theorem dMo_greater_9 : decode prog_10_method_3_code 9 = .ok (.iload_n 1, 1) := by decide +kernel
theorem dMo_greater_10 : decode prog_10_method_3_code 10 = .ok (.ireturn, 1) := by decide +kernel
theorem dMo_either_0 : decode prog_10_method_4_code 0 = .ok (.iload_n 0, 1) := by decide +kernel
theorem dMo_either_1 : decode prog_10_method_4_code 1 = .ok (.ifCond .ge 8, 3) := by decide +kernel
theorem dMo_either_4 : decode prog_10_method_4_code 4 = .ok (.iload_n 0, 1) := by decide +kernel
theorem dMo_either_5 : decode prog_10_method_4_code 5 = .ok (.ineg, 1) := by decide +kernel
theorem dMo_either_6 : decode prog_10_method_4_code 6 = .ok (.goto 4, 3) := by decide +kernel
theorem dMo_either_9 : decode prog_10_method_4_code 9 = .ok (.iload_n 0, 1) := by decide +kernel
theorem dMo_either_10 : decode prog_10_method_4_code 10 = .ok (.ireturn, 1) := by decide +kernel
theorem dMo_refuses_0 : decode prog_10_method_5_code 0 = .ok (.aload_n 0, 1) := by decide +kernel
theorem dMo_refuses_1 : decode prog_10_method_5_code 1 = .ok (.iload_n 1, 1) := by decide +kernel
theorem dMo_refuses_2 : decode prog_10_method_5_code 2 = .ok (.putfield 3, 3) := by decide +kernel
theorem dMo_refuses_5 : decode prog_10_method_5_code 5 = .ok (.aload_n 0, 1) := by decide +kernel
theorem dMo_refuses_6 : decode prog_10_method_5_code 6 = .ok (.getfield 7, 3) := by decide +kernel
theorem dMo_refuses_9 : decode prog_10_method_5_code 9 = .ok (.iload_n 1, 1) := by decide +kernel
theorem dMo_refuses_10 : decode prog_10_method_5_code 10 = .ok (.ineg, 1) := by decide +kernel
theorem dMo_refuses_11 : decode prog_10_method_5_code 11 = .ok (.dup2, 1) := by decide +kernel
theorem dMo_refuses_12 : decode prog_10_method_5_code 12 = .ok (.iaload, 1) := by decide +kernel
theorem dMo_refuses_13 : decode prog_10_method_5_code 13 = .ok (.iconst 1, 1) := by decide +kernel
theorem dMo_refuses_14 : decode prog_10_method_5_code 14 = .ok (.iadd, 1) := by decide +kernel
theorem dMo_refuses_15 : decode prog_10_method_5_code 15 = .ok (.iastore, 1) := by decide +kernel
theorem dMo_refuses_16 : decode prog_10_method_5_code 16 = .ok (.iload_n 1, 1) := by decide +kernel
theorem dMo_refuses_17 : decode prog_10_method_5_code 17 = .ok (.ireturn, 1) := by decide +kernel
theorem dMo_good_0 : decode prog_10_method_6_code 0 = .ok (.aload_n 0, 1) := by decide +kernel
theorem dMo_good_1 : decode prog_10_method_6_code 1 = .ok (.iconst 0, 1) := by decide +kernel
theorem dMo_good_2 : decode prog_10_method_6_code 2 = .ok (.putfield 3, 3) := by decide +kernel
theorem dMo_good_5 : decode prog_10_method_6_code 5 = .ok (.iload_n 1, 1) := by decide +kernel
theorem dMo_good_6 : decode prog_10_method_6_code 6 = .ok (.ireturn, 1) := by decide +kernel
theorem dMo_settled_0 : decode prog_10_method_7_code 0 = .ok (.aload_n 0, 1) := by decide +kernel
theorem dMo_settled_1 : decode prog_10_method_7_code 1 = .ok (.iconst 0, 1) := by decide +kernel
theorem dMo_settled_2 : decode prog_10_method_7_code 2 = .ok (.putfield 11, 3) := by decide +kernel
theorem dMo_settled_5 : decode prog_10_method_7_code 5 = .ok (.aload_n 0, 1) := by decide +kernel
theorem dMo_settled_6 : decode prog_10_method_7_code 6 = .ok (.iload_n 1, 1) := by decide +kernel
theorem dMo_settled_7 : decode prog_10_method_7_code 7 = .ok (.invokevirtual 14, 3) := by decide +kernel
theorem dMo_settled_10 : decode prog_10_method_7_code 10 = .ok (.ireturn, 1) := by decide +kernel
theorem dMo_isIn_0 : decode prog_10_method_8_code 0 = .ok (.iload_n 0, 1) := by decide +kernel
theorem dMo_isIn_1 : decode prog_10_method_8_code 1 = .ok (.iload_n 1, 1) := by decide +kernel
theorem dMo_isIn_2 : decode prog_10_method_8_code 2 = .ok (.ishr, 1) := by decide +kernel
theorem dMo_isIn_3 : decode prog_10_method_8_code 3 = .ok (.iconst 1, 1) := by decide +kernel
theorem dMo_isIn_4 : decode prog_10_method_8_code 4 = .ok (.iand, 1) := by decide +kernel
theorem dMo_isIn_5 : decode prog_10_method_8_code 5 = .ok (.iconst 1, 1) := by decide +kernel
theorem dMo_isIn_6 : decode prog_10_method_8_code 6 = .ok (.if_icmp .ne 7, 3) := by decide +kernel
theorem dMo_isIn_9 : decode prog_10_method_8_code 9 = .ok (.iconst 1, 1) := by decide +kernel
theorem dMo_isIn_10 : decode prog_10_method_8_code 10 = .ok (.goto 4, 3) := by decide +kernel
theorem dMo_isIn_13 : decode prog_10_method_8_code 13 = .ok (.iconst 0, 1) := by decide +kernel
theorem dMo_isIn_14 : decode prog_10_method_8_code 14 = .ok (.ireturn, 1) := by decide +kernel
theorem dMo_isPlace_0 : decode prog_10_method_9_code 0 = .ok (.iload_n 0, 1) := by decide +kernel
theorem dMo_isPlace_1 : decode prog_10_method_9_code 1 = .ok (.iconst 0, 1) := by decide +kernel
theorem dMo_isPlace_2 : decode prog_10_method_9_code 2 = .ok (.bipush 6, 2) := by decide +kernel
theorem dMo_isPlace_4 : decode prog_10_method_9_code 4 = .ok (.invokestatic 18, 3) := by decide +kernel
theorem dMo_isPlace_7 : decode prog_10_method_9_code 7 = .ok (.ireturn, 1) := by decide +kernel
theorem dMo_isHeavy_0 : decode prog_10_method_10_code 0 = .ok (.iload_n 0, 1) := by decide +kernel
theorem dMo_isHeavy_1 : decode prog_10_method_10_code 1 = .ok (.iconst 1, 1) := by decide +kernel
theorem dMo_isHeavy_2 : decode prog_10_method_10_code 2 = .ok (.bipush 30, 2) := by decide +kernel
theorem dMo_isHeavy_4 : decode prog_10_method_10_code 4 = .ok (.invokestatic 18, 3) := by decide +kernel
theorem dMo_isHeavy_7 : decode prog_10_method_10_code 7 = .ok (.ireturn, 1) := by decide +kernel
theorem dMo_armOf_0 : decode prog_10_method_11_code 0 = .ok (.iload_n 0, 1) := by decide +kernel
theorem dMo_armOf_1 : decode prog_10_method_11_code 1 = .ok (.iconst 3, 1) := by decide +kernel
theorem dMo_armOf_2 : decode prog_10_method_11_code 2 = .ok (.isub, 1) := by decide +kernel
theorem dMo_armOf_3 : decode prog_10_method_11_code 3 = .ok (.ireturn, 1) := by decide +kernel
theorem dMo_laysAside_0 : decode prog_10_method_13_code 0 = .ok (.iconst 0, 1) := by decide +kernel
theorem dMo_laysAside_1 : decode prog_10_method_13_code 1 = .ok (.istore_n 2, 1) := by decide +kernel
theorem dMo_laysAside_2 : decode prog_10_method_13_code 2 = .ok (.iload_n 2, 1) := by decide +kernel
theorem dMo_laysAside_3 : decode prog_10_method_13_code 3 = .ok (.bipush 15, 2) := by decide +kernel
theorem dMo_laysAside_5 : decode prog_10_method_13_code 5 = .ok (.if_icmp .ge 26, 3) := by decide +kernel
theorem dMo_laysAside_8 : decode prog_10_method_13_code 8 = .ok (.aload_n 0, 1) := by decide +kernel
theorem dMo_laysAside_9 : decode prog_10_method_13_code 9 = .ok (.getfield 38, 3) := by decide +kernel
theorem dMo_laysAside_12 : decode prog_10_method_13_code 12 = .ok (.bipush 15, 2) := by decide +kernel
theorem dMo_laysAside_14 : decode prog_10_method_13_code 14 = .ok (.iload_n 1, 1) := by decide +kernel
theorem dMo_laysAside_15 : decode prog_10_method_13_code 15 = .ok (.imul, 1) := by decide +kernel
theorem dMo_laysAside_16 : decode prog_10_method_13_code 16 = .ok (.iload_n 2, 1) := by decide +kernel
theorem dMo_laysAside_17 : decode prog_10_method_13_code 17 = .ok (.iadd, 1) := by decide +kernel
theorem dMo_laysAside_18 : decode prog_10_method_13_code 18 = .ok (.aload_n 0, 1) := by decide +kernel
theorem dMo_laysAside_19 : decode prog_10_method_13_code 19 = .ok (.getfield 28, 3) := by decide +kernel
theorem dMo_laysAside_22 : decode prog_10_method_13_code 22 = .ok (.iload_n 2, 1) := by decide +kernel
theorem dMo_laysAside_23 : decode prog_10_method_13_code 23 = .ok (.iaload, 1) := by decide +kernel
theorem dMo_laysAside_24 : decode prog_10_method_13_code 24 = .ok (.iastore, 1) := by decide +kernel
theorem dMo_laysAside_25 : decode prog_10_method_13_code 25 = .ok (.iinc 2 1, 3) := by decide +kernel
theorem dMo_laysAside_28 : decode prog_10_method_13_code 28 = .ok (.goto (-26), 3) := by decide +kernel
theorem dMo_laysAside_31 : decode prog_10_method_13_code 31 = .ok (.return_, 1) := by decide +kernel
theorem dMo_takesBack_0 : decode prog_10_method_14_code 0 = .ok (.iconst 0, 1) := by decide +kernel
theorem dMo_takesBack_1 : decode prog_10_method_14_code 1 = .ok (.istore_n 2, 1) := by decide +kernel
theorem dMo_takesBack_2 : decode prog_10_method_14_code 2 = .ok (.iload_n 2, 1) := by decide +kernel
theorem dMo_takesBack_3 : decode prog_10_method_14_code 3 = .ok (.bipush 15, 2) := by decide +kernel
theorem dMo_takesBack_5 : decode prog_10_method_14_code 5 = .ok (.if_icmp .ge 26, 3) := by decide +kernel
theorem dMo_takesBack_8 : decode prog_10_method_14_code 8 = .ok (.aload_n 0, 1) := by decide +kernel
theorem dMo_takesBack_9 : decode prog_10_method_14_code 9 = .ok (.getfield 28, 3) := by decide +kernel
theorem dMo_takesBack_12 : decode prog_10_method_14_code 12 = .ok (.iload_n 2, 1) := by decide +kernel
theorem dMo_takesBack_13 : decode prog_10_method_14_code 13 = .ok (.aload_n 0, 1) := by decide +kernel
theorem dMo_takesBack_14 : decode prog_10_method_14_code 14 = .ok (.getfield 38, 3) := by decide +kernel
theorem dMo_takesBack_17 : decode prog_10_method_14_code 17 = .ok (.bipush 15, 2) := by decide +kernel
theorem dMo_takesBack_19 : decode prog_10_method_14_code 19 = .ok (.iload_n 1, 1) := by decide +kernel
theorem dMo_takesBack_20 : decode prog_10_method_14_code 20 = .ok (.imul, 1) := by decide +kernel
theorem dMo_takesBack_21 : decode prog_10_method_14_code 21 = .ok (.iload_n 2, 1) := by decide +kernel
theorem dMo_takesBack_22 : decode prog_10_method_14_code 22 = .ok (.iadd, 1) := by decide +kernel
theorem dMo_takesBack_23 : decode prog_10_method_14_code 23 = .ok (.iaload, 1) := by decide +kernel
theorem dMo_takesBack_24 : decode prog_10_method_14_code 24 = .ok (.iastore, 1) := by decide +kernel
theorem dMo_takesBack_25 : decode prog_10_method_14_code 25 = .ok (.iinc 2 1, 3) := by decide +kernel
theorem dMo_takesBack_28 : decode prog_10_method_14_code 28 = .ok (.goto (-26), 3) := by decide +kernel
theorem dMo_takesBack_31 : decode prog_10_method_14_code 31 = .ok (.return_, 1) := by decide +kernel
theorem dMo_image_0 : decode prog_10_method_15_code 0 = .ok (.iload_n 1, 1) := by decide +kernel
theorem dMo_image_1 : decode prog_10_method_15_code 1 = .ok (.iconst 0, 1) := by decide +kernel
theorem dMo_image_2 : decode prog_10_method_15_code 2 = .ok (.iconst 1, 1) := by decide +kernel
theorem dMo_image_3 : decode prog_10_method_15_code 3 = .ok (.invokestatic 18, 3) := by decide +kernel
theorem dMo_image_6 : decode prog_10_method_15_code 6 = .ok (.ifCond .ne 9, 3) := by decide +kernel
theorem dMo_image_9 : decode prog_10_method_15_code 9 = .ok (.aload_n 0, 1) := by decide +kernel
theorem dMo_image_10 : decode prog_10_method_15_code 10 = .ok (.iconst (-1), 1) := by decide +kernel
theorem dMo_image_11 : decode prog_10_method_15_code 11 = .ok (.invokevirtual 113, 3) := by decide +kernel
theorem dMo_image_14 : decode prog_10_method_15_code 14 = .ok (.ireturn, 1) := by decide +kernel
theorem dMo_image_15 : decode prog_10_method_15_code 15 = .ok (.iconst 0, 1) := by decide +kernel
theorem dMo_image_16 : decode prog_10_method_15_code 16 = .ok (.istore_n 2, 1) := by decide +kernel
theorem dMo_image_17 : decode prog_10_method_15_code 17 = .ok (.iload_n 2, 1) := by decide +kernel
theorem dMo_image_18 : decode prog_10_method_15_code 18 = .ok (.sipush 5654, 3) := by decide +kernel
theorem dMo_image_21 : decode prog_10_method_15_code 21 = .ok (.if_icmp .ge 27, 3) := by decide +kernel
theorem dMo_image_24 : decode prog_10_method_15_code 24 = .ok (.aload_n 0, 1) := by decide +kernel
theorem dMo_image_25 : decode prog_10_method_15_code 25 = .ok (.getfield 31, 3) := by decide +kernel
theorem dMo_image_28 : decode prog_10_method_15_code 28 = .ok (.sipush 5654, 3) := by decide +kernel
theorem dMo_image_31 : decode prog_10_method_15_code 31 = .ok (.iload_n 1, 1) := by decide +kernel
theorem dMo_image_32 : decode prog_10_method_15_code 32 = .ok (.imul, 1) := by decide +kernel
theorem dMo_image_33 : decode prog_10_method_15_code 33 = .ok (.iload_n 2, 1) := by decide +kernel
theorem dMo_image_34 : decode prog_10_method_15_code 34 = .ok (.iadd, 1) := by decide +kernel
theorem dMo_image_35 : decode prog_10_method_15_code 35 = .ok (.aload_n 0, 1) := by decide +kernel
theorem dMo_image_36 : decode prog_10_method_15_code 36 = .ok (.getfield 28, 3) := by decide +kernel
theorem dMo_image_39 : decode prog_10_method_15_code 39 = .ok (.iload_n 2, 1) := by decide +kernel
theorem dMo_image_40 : decode prog_10_method_15_code 40 = .ok (.iaload, 1) := by decide +kernel
theorem dMo_image_41 : decode prog_10_method_15_code 41 = .ok (.iastore, 1) := by decide +kernel
theorem dMo_image_42 : decode prog_10_method_15_code 42 = .ok (.iinc 2 1, 3) := by decide +kernel
theorem dMo_image_45 : decode prog_10_method_15_code 45 = .ok (.goto (-28), 3) := by decide +kernel
theorem dMo_image_48 : decode prog_10_method_15_code 48 = .ok (.aload_n 0, 1) := by decide +kernel
theorem dMo_image_49 : decode prog_10_method_15_code 49 = .ok (.getfield 34, 3) := by decide +kernel
theorem dMo_image_52 : decode prog_10_method_15_code 52 = .ok (.iload_n 1, 1) := by decide +kernel
theorem dMo_image_53 : decode prog_10_method_15_code 53 = .ok (.iconst 1, 1) := by decide +kernel
theorem dMo_image_54 : decode prog_10_method_15_code 54 = .ok (.bastore, 1) := by decide +kernel
theorem dMo_image_55 : decode prog_10_method_15_code 55 = .ok (.aload_n 0, 1) := by decide +kernel
theorem dMo_image_56 : decode prog_10_method_15_code 56 = .ok (.iconst 0, 1) := by decide +kernel
theorem dMo_image_57 : decode prog_10_method_15_code 57 = .ok (.invokevirtual 14, 3) := by decide +kernel
theorem dMo_image_60 : decode prog_10_method_15_code 60 = .ok (.ireturn, 1) := by decide +kernel
theorem dMo_back_0 : decode prog_10_method_16_code 0 = .ok (.iload_n 1, 1) := by decide +kernel
theorem dMo_back_1 : decode prog_10_method_16_code 1 = .ok (.iconst 0, 1) := by decide +kernel
theorem dMo_back_2 : decode prog_10_method_16_code 2 = .ok (.iconst 1, 1) := by decide +kernel
theorem dMo_back_3 : decode prog_10_method_16_code 3 = .ok (.invokestatic 18, 3) := by decide +kernel
theorem dMo_back_6 : decode prog_10_method_16_code 6 = .ok (.ifCond .ne 9, 3) := by decide +kernel
theorem dMo_back_9 : decode prog_10_method_16_code 9 = .ok (.aload_n 0, 1) := by decide +kernel
theorem dMo_back_10 : decode prog_10_method_16_code 10 = .ok (.iconst (-1), 1) := by decide +kernel
theorem dMo_back_11 : decode prog_10_method_16_code 11 = .ok (.invokevirtual 113, 3) := by decide +kernel
theorem dMo_back_14 : decode prog_10_method_16_code 14 = .ok (.ireturn, 1) := by decide +kernel
theorem dMo_back_15 : decode prog_10_method_16_code 15 = .ok (.aload_n 0, 1) := by decide +kernel
theorem dMo_back_16 : decode prog_10_method_16_code 16 = .ok (.getfield 34, 3) := by decide +kernel
theorem dMo_back_19 : decode prog_10_method_16_code 19 = .ok (.iload_n 1, 1) := by decide +kernel
theorem dMo_back_20 : decode prog_10_method_16_code 20 = .ok (.baload, 1) := by decide +kernel
theorem dMo_back_21 : decode prog_10_method_16_code 21 = .ok (.ifCond .ne 10, 3) := by decide +kernel
theorem dMo_back_24 : decode prog_10_method_16_code 24 = .ok (.aload_n 0, 1) := by decide +kernel
theorem dMo_back_25 : decode prog_10_method_16_code 25 = .ok (.bipush (-2), 2) := by decide +kernel
theorem dMo_back_27 : decode prog_10_method_16_code 27 = .ok (.invokevirtual 113, 3) := by decide +kernel
theorem dMo_back_30 : decode prog_10_method_16_code 30 = .ok (.ireturn, 1) := by decide +kernel
theorem dMo_back_31 : decode prog_10_method_16_code 31 = .ok (.iconst 0, 1) := by decide +kernel
theorem dMo_back_32 : decode prog_10_method_16_code 32 = .ok (.istore_n 2, 1) := by decide +kernel
theorem dMo_back_33 : decode prog_10_method_16_code 33 = .ok (.iload_n 2, 1) := by decide +kernel
theorem dMo_back_34 : decode prog_10_method_16_code 34 = .ok (.sipush 5654, 3) := by decide +kernel
theorem dMo_back_37 : decode prog_10_method_16_code 37 = .ok (.if_icmp .ge 27, 3) := by decide +kernel
theorem dMo_back_40 : decode prog_10_method_16_code 40 = .ok (.aload_n 0, 1) := by decide +kernel
theorem dMo_back_41 : decode prog_10_method_16_code 41 = .ok (.getfield 28, 3) := by decide +kernel
theorem dMo_back_44 : decode prog_10_method_16_code 44 = .ok (.iload_n 2, 1) := by decide +kernel
theorem dMo_back_45 : decode prog_10_method_16_code 45 = .ok (.aload_n 0, 1) := by decide +kernel
theorem dMo_back_46 : decode prog_10_method_16_code 46 = .ok (.getfield 31, 3) := by decide +kernel
theorem dMo_back_49 : decode prog_10_method_16_code 49 = .ok (.sipush 5654, 3) := by decide +kernel
theorem dMo_back_52 : decode prog_10_method_16_code 52 = .ok (.iload_n 1, 1) := by decide +kernel
theorem dMo_back_53 : decode prog_10_method_16_code 53 = .ok (.imul, 1) := by decide +kernel
theorem dMo_back_54 : decode prog_10_method_16_code 54 = .ok (.iload_n 2, 1) := by decide +kernel
theorem dMo_back_55 : decode prog_10_method_16_code 55 = .ok (.iadd, 1) := by decide +kernel
theorem dMo_back_56 : decode prog_10_method_16_code 56 = .ok (.iaload, 1) := by decide +kernel
theorem dMo_back_57 : decode prog_10_method_16_code 57 = .ok (.iastore, 1) := by decide +kernel
theorem dMo_back_58 : decode prog_10_method_16_code 58 = .ok (.iinc 2 1, 3) := by decide +kernel
theorem dMo_back_61 : decode prog_10_method_16_code 61 = .ok (.goto (-28), 3) := by decide +kernel
theorem dMo_back_64 : decode prog_10_method_16_code 64 = .ok (.aload_n 0, 1) := by decide +kernel
theorem dMo_back_65 : decode prog_10_method_16_code 65 = .ok (.iconst 0, 1) := by decide +kernel
theorem dMo_back_66 : decode prog_10_method_16_code 66 = .ok (.invokevirtual 116, 3) := by decide +kernel
theorem dMo_back_69 : decode prog_10_method_16_code 69 = .ok (.ireturn, 1) := by decide +kernel
theorem dMo_many_0 : decode prog_10_method_17_code 0 = .ok (.aload_n 0, 1) := by decide +kernel
theorem dMo_many_1 : decode prog_10_method_17_code 1 = .ok (.getfield 28, 3) := by decide +kernel
theorem dMo_many_4 : decode prog_10_method_17_code 4 = .ok (.bipush 43, 2) := by decide +kernel
theorem dMo_many_6 : decode prog_10_method_17_code 6 = .ok (.iaload, 1) := by decide +kernel
theorem dMo_many_7 : decode prog_10_method_17_code 7 = .ok (.ireturn, 1) := by decide +kernel
theorem dMo_everything_0 : decode prog_10_method_18_code 0 = .ok (.iconst 1, 1) := by decide +kernel
theorem dMo_everything_1 : decode prog_10_method_18_code 1 = .ok (.aload_n 0, 1) := by decide +kernel
theorem dMo_everything_2 : decode prog_10_method_18_code 2 = .ok (.invokevirtual 119, 3) := by decide +kernel
theorem dMo_everything_5 : decode prog_10_method_18_code 5 = .ok (.ishl, 1) := by decide +kernel
theorem dMo_everything_6 : decode prog_10_method_18_code 6 = .ok (.iconst 1, 1) := by decide +kernel
theorem dMo_everything_7 : decode prog_10_method_18_code 7 = .ok (.isub, 1) := by decide +kernel
theorem dMo_everything_8 : decode prog_10_method_18_code 8 = .ok (.ireturn, 1) := by decide +kernel
theorem dMo_isClaim_0 : decode prog_10_method_19_code 0 = .ok (.iload_n 1, 1) := by decide +kernel
theorem dMo_isClaim_1 : decode prog_10_method_19_code 1 = .ok (.iconst 0, 1) := by decide +kernel
theorem dMo_isClaim_2 : decode prog_10_method_19_code 2 = .ok (.aload_n 0, 1) := by decide +kernel
theorem dMo_isClaim_3 : decode prog_10_method_19_code 3 = .ok (.invokevirtual 119, 3) := by decide +kernel
theorem dMo_isClaim_6 : decode prog_10_method_19_code 6 = .ok (.iconst 1, 1) := by decide +kernel
theorem dMo_isClaim_7 : decode prog_10_method_19_code 7 = .ok (.isub, 1) := by decide +kernel
theorem dMo_isClaim_8 : decode prog_10_method_19_code 8 = .ok (.invokestatic 18, 3) := by decide +kernel
theorem dMo_isClaim_11 : decode prog_10_method_19_code 11 = .ok (.ireturn, 1) := by decide +kernel
theorem dMo_isOn_0 : decode prog_10_method_20_code 0 = .ok (.aload_n 0, 1) := by decide +kernel
theorem dMo_isOn_1 : decode prog_10_method_20_code 1 = .ok (.getfield 28, 3) := by decide +kernel
theorem dMo_isOn_4 : decode prog_10_method_20_code 4 = .ok (.bipush 7, 2) := by decide +kernel
theorem dMo_isOn_6 : decode prog_10_method_20_code 6 = .ok (.iload_n 1, 1) := by decide +kernel
theorem dMo_isOn_7 : decode prog_10_method_20_code 7 = .ok (.iadd, 1) := by decide +kernel
theorem dMo_isOn_8 : decode prog_10_method_20_code 8 = .ok (.iaload, 1) := by decide +kernel
theorem dMo_isOn_9 : decode prog_10_method_20_code 9 = .ok (.iconst (-1), 1) := by decide +kernel
theorem dMo_isOn_10 : decode prog_10_method_20_code 10 = .ok (.if_icmp .eq 7, 3) := by decide +kernel
theorem dMo_isOn_13 : decode prog_10_method_20_code 13 = .ok (.iconst 1, 1) := by decide +kernel
theorem dMo_isOn_14 : decode prog_10_method_20_code 14 = .ok (.goto 4, 3) := by decide +kernel
theorem dMo_isOn_17 : decode prog_10_method_20_code 17 = .ok (.iconst 0, 1) := by decide +kernel
theorem dMo_isOn_18 : decode prog_10_method_20_code 18 = .ok (.ireturn, 1) := by decide +kernel
theorem dMo_canBe0_0 : decode prog_10_method_21_code 0 = .ok (.iload_n 0, 1) := by decide +kernel
theorem dMo_canBe0_1 : decode prog_10_method_21_code 1 = .ok (.invokestatic 123, 3) := by decide +kernel
theorem dMo_canBe0_4 : decode prog_10_method_21_code 4 = .ok (.ifCond .eq 16, 3) := by decide +kernel
theorem dMo_canBe0_7 : decode prog_10_method_21_code 7 = .ok (.iload_n 1, 1) := by decide +kernel
theorem dMo_canBe0_8 : decode prog_10_method_21_code 8 = .ok (.iconst 0, 1) := by decide +kernel
theorem dMo_canBe0_9 : decode prog_10_method_21_code 9 = .ok (.iconst 3, 1) := by decide +kernel
theorem dMo_canBe0_10 : decode prog_10_method_21_code 10 = .ok (.invokestatic 18, 3) := by decide +kernel
theorem dMo_canBe0_13 : decode prog_10_method_21_code 13 = .ok (.ifCond .eq 7, 3) := by decide +kernel
theorem dMo_canBe0_16 : decode prog_10_method_21_code 16 = .ok (.iconst 1, 1) := by decide +kernel
theorem dMo_canBe0_17 : decode prog_10_method_21_code 17 = .ok (.goto 4, 3) := by decide +kernel
theorem dMo_canBe0_20 : decode prog_10_method_21_code 20 = .ok (.iconst 0, 1) := by decide +kernel
theorem dMo_canBe0_21 : decode prog_10_method_21_code 21 = .ok (.ireturn, 1) := by decide +kernel
theorem dMo_adds_0 : decode prog_10_method_22_code 0 = .ok (.aload_n 0, 1) := by decide +kernel
theorem dMo_adds_1 : decode prog_10_method_22_code 1 = .ok (.invokevirtual 119, 3) := by decide +kernel
theorem dMo_adds_4 : decode prog_10_method_22_code 4 = .ok (.istore_n 3, 1) := by decide +kernel
theorem dMo_adds_5 : decode prog_10_method_22_code 5 = .ok (.aload_n 0, 1) := by decide +kernel
theorem dMo_adds_6 : decode prog_10_method_22_code 6 = .ok (.getfield 28, 3) := by decide +kernel
theorem dMo_adds_9 : decode prog_10_method_22_code 9 = .ok (.iconst 0, 1) := by decide +kernel
theorem dMo_adds_10 : decode prog_10_method_22_code 10 = .ok (.iload_n 3, 1) := by decide +kernel
theorem dMo_adds_11 : decode prog_10_method_22_code 11 = .ok (.iadd, 1) := by decide +kernel
theorem dMo_adds_12 : decode prog_10_method_22_code 12 = .ok (.iload_n 1, 1) := by decide +kernel
theorem dMo_adds_13 : decode prog_10_method_22_code 13 = .ok (.iastore, 1) := by decide +kernel
theorem dMo_adds_14 : decode prog_10_method_22_code 14 = .ok (.aload_n 0, 1) := by decide +kernel
theorem dMo_adds_15 : decode prog_10_method_22_code 15 = .ok (.getfield 28, 3) := by decide +kernel
theorem dMo_adds_18 : decode prog_10_method_22_code 18 = .ok (.bipush 15, 2) := by decide +kernel
theorem dMo_adds_20 : decode prog_10_method_22_code 20 = .ok (.iload_n 3, 1) := by decide +kernel
theorem dMo_adds_21 : decode prog_10_method_22_code 21 = .ok (.iadd, 1) := by decide +kernel
theorem dMo_adds_22 : decode prog_10_method_22_code 22 = .ok (.iload_n 2, 1) := by decide +kernel
theorem dMo_adds_23 : decode prog_10_method_22_code 23 = .ok (.iastore, 1) := by decide +kernel
theorem dMo_adds_24 : decode prog_10_method_22_code 24 = .ok (.aload_n 0, 1) := by decide +kernel
theorem dMo_adds_25 : decode prog_10_method_22_code 25 = .ok (.getfield 28, 3) := by decide +kernel
theorem dMo_adds_28 : decode prog_10_method_22_code 28 = .ok (.bipush 7, 2) := by decide +kernel
theorem dMo_adds_30 : decode prog_10_method_22_code 30 = .ok (.iload_n 3, 1) := by decide +kernel
theorem dMo_adds_31 : decode prog_10_method_22_code 31 = .ok (.iadd, 1) := by decide +kernel
theorem dMo_adds_32 : decode prog_10_method_22_code 32 = .ok (.iconst (-1), 1) := by decide +kernel
theorem dMo_adds_33 : decode prog_10_method_22_code 33 = .ok (.iastore, 1) := by decide +kernel
theorem dMo_adds_34 : decode prog_10_method_22_code 34 = .ok (.aload_n 0, 1) := by decide +kernel
theorem dMo_adds_35 : decode prog_10_method_22_code 35 = .ok (.getfield 28, 3) := by decide +kernel
theorem dMo_adds_38 : decode prog_10_method_22_code 38 = .ok (.bipush 43, 2) := by decide +kernel
theorem dMo_adds_40 : decode prog_10_method_22_code 40 = .ok (.dup2, 1) := by decide +kernel
theorem dMo_adds_41 : decode prog_10_method_22_code 41 = .ok (.iaload, 1) := by decide +kernel
theorem dMo_adds_42 : decode prog_10_method_22_code 42 = .ok (.iconst 1, 1) := by decide +kernel
theorem dMo_adds_43 : decode prog_10_method_22_code 43 = .ok (.iadd, 1) := by decide +kernel
theorem dMo_adds_44 : decode prog_10_method_22_code 44 = .ok (.iastore, 1) := by decide +kernel
theorem dMo_adds_45 : decode prog_10_method_22_code 45 = .ok (.return_, 1) := by decide +kernel
theorem dMo_claim_0 : decode prog_10_method_23_code 0 = .ok (.iload_n 1, 1) := by decide +kernel
theorem dMo_claim_1 : decode prog_10_method_23_code 1 = .ok (.iload_n 2, 1) := by decide +kernel
theorem dMo_claim_2 : decode prog_10_method_23_code 2 = .ok (.invokestatic 127, 3) := by decide +kernel
theorem dMo_claim_5 : decode prog_10_method_23_code 5 = .ok (.ifCond .ne 9, 3) := by decide +kernel
theorem dMo_claim_8 : decode prog_10_method_23_code 8 = .ok (.aload_n 0, 1) := by decide +kernel
theorem dMo_claim_9 : decode prog_10_method_23_code 9 = .ok (.iconst (-1), 1) := by decide +kernel
theorem dMo_claim_10 : decode prog_10_method_23_code 10 = .ok (.invokevirtual 113, 3) := by decide +kernel
theorem dMo_claim_13 : decode prog_10_method_23_code 13 = .ok (.ireturn, 1) := by decide +kernel
theorem dMo_claim_14 : decode prog_10_method_23_code 14 = .ok (.aload_n 0, 1) := by decide +kernel
theorem dMo_claim_15 : decode prog_10_method_23_code 15 = .ok (.invokevirtual 119, 3) := by decide +kernel
theorem dMo_claim_18 : decode prog_10_method_23_code 18 = .ok (.bipush 7, 2) := by decide +kernel
theorem dMo_claim_20 : decode prog_10_method_23_code 20 = .ok (.if_icmp .ne 10, 3) := by decide +kernel
theorem dMo_claim_23 : decode prog_10_method_23_code 23 = .ok (.aload_n 0, 1) := by decide +kernel
theorem dMo_claim_24 : decode prog_10_method_23_code 24 = .ok (.bipush (-5), 2) := by decide +kernel
theorem dMo_claim_26 : decode prog_10_method_23_code 26 = .ok (.invokevirtual 113, 3) := by decide +kernel
theorem dMo_claim_29 : decode prog_10_method_23_code 29 = .ok (.ireturn, 1) := by decide +kernel
theorem dMo_claim_30 : decode prog_10_method_23_code 30 = .ok (.aload_n 0, 1) := by decide +kernel
theorem dMo_claim_31 : decode prog_10_method_23_code 31 = .ok (.iload_n 1, 1) := by decide +kernel
theorem dMo_claim_32 : decode prog_10_method_23_code 32 = .ok (.iload_n 2, 1) := by decide +kernel
theorem dMo_claim_33 : decode prog_10_method_23_code 33 = .ok (.invokevirtual 131, 3) := by decide +kernel
theorem dMo_claim_36 : decode prog_10_method_23_code 36 = .ok (.aload_n 0, 1) := by decide +kernel
theorem dMo_claim_37 : decode prog_10_method_23_code 37 = .ok (.aload_n 0, 1) := by decide +kernel
theorem dMo_claim_38 : decode prog_10_method_23_code 38 = .ok (.invokevirtual 119, 3) := by decide +kernel
theorem dMo_claim_41 : decode prog_10_method_23_code 41 = .ok (.iconst 1, 1) := by decide +kernel
theorem dMo_claim_42 : decode prog_10_method_23_code 42 = .ok (.isub, 1) := by decide +kernel
theorem dMo_claim_43 : decode prog_10_method_23_code 43 = .ok (.invokevirtual 116, 3) := by decide +kernel
theorem dMo_claim_46 : decode prog_10_method_23_code 46 = .ok (.ireturn, 1) := by decide +kernel
theorem dMo_isTerm_0 : decode prog_10_method_27_code 0 = .ok (.iload_n 0, 1) := by decide +kernel
theorem dMo_isTerm_1 : decode prog_10_method_27_code 1 = .ok (.tableswitch 56 0 3 #[31, 40, 48, 48], 31) := by decide +kernel
theorem dMo_isTerm_32 : decode prog_10_method_27_code 32 = .ok (.iload_n 1, 1) := by decide +kernel
theorem dMo_isTerm_33 : decode prog_10_method_27_code 33 = .ok (.iconst 0, 1) := by decide +kernel
theorem dMo_isTerm_34 : decode prog_10_method_27_code 34 = .ok (.sipush 999, 3) := by decide +kernel
theorem dMo_isTerm_37 : decode prog_10_method_27_code 37 = .ok (.invokestatic 18, 3) := by decide +kernel
theorem dMo_isTerm_40 : decode prog_10_method_27_code 40 = .ok (.ireturn, 1) := by decide +kernel
theorem dMo_isTerm_41 : decode prog_10_method_27_code 41 = .ok (.iload_n 1, 1) := by decide +kernel
theorem dMo_isTerm_42 : decode prog_10_method_27_code 42 = .ok (.iconst 0, 1) := by decide +kernel
theorem dMo_isTerm_43 : decode prog_10_method_27_code 43 = .ok (.bipush 10, 2) := by decide +kernel
theorem dMo_isTerm_45 : decode prog_10_method_27_code 45 = .ok (.invokestatic 18, 3) := by decide +kernel
theorem dMo_isTerm_48 : decode prog_10_method_27_code 48 = .ok (.ireturn, 1) := by decide +kernel
theorem dMo_isTerm_49 : decode prog_10_method_27_code 49 = .ok (.iload_n 1, 1) := by decide +kernel
theorem dMo_isTerm_50 : decode prog_10_method_27_code 50 = .ok (.iconst 0, 1) := by decide +kernel
theorem dMo_isTerm_51 : decode prog_10_method_27_code 51 = .ok (.bipush 9, 2) := by decide +kernel
theorem dMo_isTerm_53 : decode prog_10_method_27_code 53 = .ok (.invokestatic 18, 3) := by decide +kernel
theorem dMo_isTerm_56 : decode prog_10_method_27_code 56 = .ok (.ireturn, 1) := by decide +kernel
theorem dMo_isTerm_57 : decode prog_10_method_27_code 57 = .ok (.iconst 0, 1) := by decide +kernel
theorem dMo_isTerm_58 : decode prog_10_method_27_code 58 = .ok (.ireturn, 1) := by decide +kernel
theorem dMo_termAt_0 : decode prog_10_method_28_code 0 = .ok (.iload_n 0, 1) := by decide +kernel
theorem dMo_termAt_1 : decode prog_10_method_28_code 1 = .ok (.ifCond .ne 8, 3) := by decide +kernel
theorem dMo_termAt_4 : decode prog_10_method_28_code 4 = .ok (.bipush 14, 2) := by decide +kernel
theorem dMo_termAt_6 : decode prog_10_method_28_code 6 = .ok (.goto 25, 3) := by decide +kernel
theorem dMo_termAt_9 : decode prog_10_method_28_code 9 = .ok (.iload_n 0, 1) := by decide +kernel
theorem dMo_termAt_10 : decode prog_10_method_28_code 10 = .ok (.iconst 1, 1) := by decide +kernel
theorem dMo_termAt_11 : decode prog_10_method_28_code 11 = .ok (.if_icmp .ne 8, 3) := by decide +kernel
theorem dMo_termAt_14 : decode prog_10_method_28_code 14 = .ok (.bipush 40, 2) := by decide +kernel
theorem dMo_termAt_16 : decode prog_10_method_28_code 16 = .ok (.goto 15, 3) := by decide +kernel
theorem dMo_termAt_19 : decode prog_10_method_28_code 19 = .ok (.iload_n 0, 1) := by decide +kernel
theorem dMo_termAt_20 : decode prog_10_method_28_code 20 = .ok (.iconst 2, 1) := by decide +kernel
theorem dMo_termAt_21 : decode prog_10_method_28_code 21 = .ok (.if_icmp .ne 8, 3) := by decide +kernel
theorem dMo_termAt_24 : decode prog_10_method_28_code 24 = .ok (.bipush 41, 2) := by decide +kernel
theorem dMo_termAt_26 : decode prog_10_method_28_code 26 = .ok (.goto 5, 3) := by decide +kernel
theorem dMo_termAt_29 : decode prog_10_method_28_code 29 = .ok (.bipush 42, 2) := by decide +kernel
theorem dMo_termAt_31 : decode prog_10_method_28_code 31 = .ok (.ireturn, 1) := by decide +kernel
theorem dMo_terms_0 : decode prog_10_method_29_code 0 = .ok (.iload_n 1, 1) := by decide +kernel
theorem dMo_terms_1 : decode prog_10_method_29_code 1 = .ok (.iload_n 2, 1) := by decide +kernel
theorem dMo_terms_2 : decode prog_10_method_29_code 2 = .ok (.invokestatic 169, 3) := by decide +kernel
theorem dMo_terms_5 : decode prog_10_method_29_code 5 = .ok (.ifCond .ne 9, 3) := by decide +kernel
theorem dMo_terms_8 : decode prog_10_method_29_code 8 = .ok (.aload_n 0, 1) := by decide +kernel
theorem dMo_terms_9 : decode prog_10_method_29_code 9 = .ok (.iconst (-1), 1) := by decide +kernel
theorem dMo_terms_10 : decode prog_10_method_29_code 10 = .ok (.invokevirtual 113, 3) := by decide +kernel
theorem dMo_terms_13 : decode prog_10_method_29_code 13 = .ok (.ireturn, 1) := by decide +kernel
theorem dMo_terms_14 : decode prog_10_method_29_code 14 = .ok (.aload_n 0, 1) := by decide +kernel
theorem dMo_terms_15 : decode prog_10_method_29_code 15 = .ok (.getfield 28, 3) := by decide +kernel
theorem dMo_terms_18 : decode prog_10_method_29_code 18 = .ok (.iload_n 1, 1) := by decide +kernel
theorem dMo_terms_19 : decode prog_10_method_29_code 19 = .ok (.invokestatic 172, 3) := by decide +kernel
theorem dMo_terms_22 : decode prog_10_method_29_code 22 = .ok (.iaload, 1) := by decide +kernel
theorem dMo_terms_23 : decode prog_10_method_29_code 23 = .ok (.istore_n 3, 1) := by decide +kernel
theorem dMo_terms_24 : decode prog_10_method_29_code 24 = .ok (.aload_n 0, 1) := by decide +kernel
theorem dMo_terms_25 : decode prog_10_method_29_code 25 = .ok (.getfield 28, 3) := by decide +kernel
theorem dMo_terms_28 : decode prog_10_method_29_code 28 = .ok (.iload_n 1, 1) := by decide +kernel
theorem dMo_terms_29 : decode prog_10_method_29_code 29 = .ok (.invokestatic 172, 3) := by decide +kernel
theorem dMo_terms_32 : decode prog_10_method_29_code 32 = .ok (.iload_n 2, 1) := by decide +kernel
theorem dMo_terms_33 : decode prog_10_method_29_code 33 = .ok (.iastore, 1) := by decide +kernel
theorem dMo_terms_34 : decode prog_10_method_29_code 34 = .ok (.aload_n 0, 1) := by decide +kernel
theorem dMo_terms_35 : decode prog_10_method_29_code 35 = .ok (.iload_n 3, 1) := by decide +kernel
theorem dMo_terms_36 : decode prog_10_method_29_code 36 = .ok (.invokevirtual 116, 3) := by decide +kernel
theorem dMo_terms_39 : decode prog_10_method_29_code 39 = .ok (.ireturn, 1) := by decide +kernel
theorem dMo_row_0 : decode prog_10_method_30_code 0 = .ok (.aload_n 0, 1) := by decide +kernel
theorem dMo_row_1 : decode prog_10_method_30_code 1 = .ok (.getfield 175, 3) := by decide +kernel
theorem dMo_row_4 : decode prog_10_method_30_code 4 = .ok (.istore_n 1, 1) := by decide +kernel
theorem dMo_row_5 : decode prog_10_method_30_code 5 = .ok (.aload_n 0, 1) := by decide +kernel
theorem dMo_row_6 : decode prog_10_method_30_code 6 = .ok (.iconst 0, 1) := by decide +kernel
theorem dMo_row_7 : decode prog_10_method_30_code 7 = .ok (.putfield 175, 3) := by decide +kernel
theorem dMo_row_10 : decode prog_10_method_30_code 10 = .ok (.iload_n 1, 1) := by decide +kernel
theorem dMo_row_11 : decode prog_10_method_30_code 11 = .ok (.ifCond .ne 10, 3) := by decide +kernel
theorem dMo_row_14 : decode prog_10_method_30_code 14 = .ok (.aload_n 0, 1) := by decide +kernel
theorem dMo_row_15 : decode prog_10_method_30_code 15 = .ok (.bipush (-6), 2) := by decide +kernel
theorem dMo_row_17 : decode prog_10_method_30_code 17 = .ok (.invokevirtual 113, 3) := by decide +kernel
theorem dMo_row_20 : decode prog_10_method_30_code 20 = .ok (.ireturn, 1) := by decide +kernel
theorem dMo_row_21 : decode prog_10_method_30_code 21 = .ok (.iconst 0, 1) := by decide +kernel
theorem dMo_row_22 : decode prog_10_method_30_code 22 = .ok (.istore_n 2, 1) := by decide +kernel
theorem dMo_row_23 : decode prog_10_method_30_code 23 = .ok (.aload_n 0, 1) := by decide +kernel
theorem dMo_row_24 : decode prog_10_method_30_code 24 = .ok (.iload_n 1, 1) := by decide +kernel
theorem dMo_row_25 : decode prog_10_method_30_code 25 = .ok (.iconst 2, 1) := by decide +kernel
theorem dMo_row_26 : decode prog_10_method_30_code 26 = .ok (.irem, 1) := by decide +kernel
theorem dMo_row_27 : decode prog_10_method_30_code 27 = .ok (.putfield 178, 3) := by decide +kernel
theorem dMo_row_30 : decode prog_10_method_30_code 30 = .ok (.iconst 0, 1) := by decide +kernel
theorem dMo_row_31 : decode prog_10_method_30_code 31 = .ok (.istore_n 3, 1) := by decide +kernel
theorem dMo_row_32 : decode prog_10_method_30_code 32 = .ok (.iload_n 3, 1) := by decide +kernel
theorem dMo_row_33 : decode prog_10_method_30_code 33 = .ok (.iconst 2, 1) := by decide +kernel
theorem dMo_row_34 : decode prog_10_method_30_code 34 = .ok (.iadd, 1) := by decide +kernel
theorem dMo_row_35 : decode prog_10_method_30_code 35 = .ok (.iload_n 1, 1) := by decide +kernel
theorem dMo_row_36 : decode prog_10_method_30_code 36 = .ok (.if_icmp .gt 100, 3) := by decide +kernel
theorem dMo_row_39 : decode prog_10_method_30_code 39 = .ok (.aload_n 0, 1) := by decide +kernel
theorem dMo_row_40 : decode prog_10_method_30_code 40 = .ok (.invokevirtual 119, 3) := by decide +kernel
theorem dMo_row_43 : decode prog_10_method_30_code 43 = .ok (.bipush 7, 2) := by decide +kernel
theorem dMo_row_45 : decode prog_10_method_30_code 45 = .ok (.if_icmp .ge 27, 3) := by decide +kernel
theorem dMo_row_48 : decode prog_10_method_30_code 48 = .ok (.aload_n 0, 1) := by decide +kernel
theorem dMo_row_49 : decode prog_10_method_30_code 49 = .ok (.getfield 45, 3) := by decide +kernel
theorem dMo_row_52 : decode prog_10_method_30_code 52 = .ok (.iload_n 3, 1) := by decide +kernel
theorem dMo_row_53 : decode prog_10_method_30_code 53 = .ok (.baload, 1) := by decide +kernel
theorem dMo_row_54 : decode prog_10_method_30_code 54 = .ok (.aload_n 0, 1) := by decide +kernel
theorem dMo_row_55 : decode prog_10_method_30_code 55 = .ok (.getfield 45, 3) := by decide +kernel
theorem dMo_row_58 : decode prog_10_method_30_code 58 = .ok (.iload_n 3, 1) := by decide +kernel
theorem dMo_row_59 : decode prog_10_method_30_code 59 = .ok (.iconst 1, 1) := by decide +kernel
theorem dMo_row_60 : decode prog_10_method_30_code 60 = .ok (.iadd, 1) := by decide +kernel
theorem dMo_row_61 : decode prog_10_method_30_code 61 = .ok (.baload, 1) := by decide +kernel
theorem dMo_row_62 : decode prog_10_method_30_code 62 = .ok (.invokestatic 127, 3) := by decide +kernel
theorem dMo_row_65 : decode prog_10_method_30_code 65 = .ok (.ifCond .eq 7, 3) := by decide +kernel
theorem dMo_row_68 : decode prog_10_method_30_code 68 = .ok (.iconst 1, 1) := by decide +kernel
theorem dMo_row_69 : decode prog_10_method_30_code 69 = .ok (.goto 4, 3) := by decide +kernel
theorem dMo_row_72 : decode prog_10_method_30_code 72 = .ok (.iconst 0, 1) := by decide +kernel
theorem dMo_row_73 : decode prog_10_method_30_code 73 = .ok (.istore 4, 2) := by decide +kernel
theorem dMo_row_75 : decode prog_10_method_30_code 75 = .ok (.iload 4, 2) := by decide +kernel
theorem dMo_row_77 : decode prog_10_method_30_code 77 = .ok (.ifCond .eq 21, 3) := by decide +kernel
theorem dMo_row_80 : decode prog_10_method_30_code 80 = .ok (.aload_n 0, 1) := by decide +kernel
theorem dMo_row_81 : decode prog_10_method_30_code 81 = .ok (.aload_n 0, 1) := by decide +kernel
theorem dMo_row_82 : decode prog_10_method_30_code 82 = .ok (.getfield 45, 3) := by decide +kernel
theorem dMo_row_85 : decode prog_10_method_30_code 85 = .ok (.iload_n 3, 1) := by decide +kernel
theorem dMo_row_86 : decode prog_10_method_30_code 86 = .ok (.baload, 1) := by decide +kernel
theorem dMo_row_87 : decode prog_10_method_30_code 87 = .ok (.aload_n 0, 1) := by decide +kernel
theorem dMo_row_88 : decode prog_10_method_30_code 88 = .ok (.getfield 45, 3) := by decide +kernel
theorem dMo_row_91 : decode prog_10_method_30_code 91 = .ok (.iload_n 3, 1) := by decide +kernel
theorem dMo_row_92 : decode prog_10_method_30_code 92 = .ok (.iconst 1, 1) := by decide +kernel
theorem dMo_row_93 : decode prog_10_method_30_code 93 = .ok (.iadd, 1) := by decide +kernel
theorem dMo_row_94 : decode prog_10_method_30_code 94 = .ok (.baload, 1) := by decide +kernel
theorem dMo_row_95 : decode prog_10_method_30_code 95 = .ok (.invokevirtual 131, 3) := by decide +kernel
theorem dMo_row_98 : decode prog_10_method_30_code 98 = .ok (.iload_n 2, 1) := by decide +kernel
theorem dMo_row_99 : decode prog_10_method_30_code 99 = .ok (.iload 4, 2) := by decide +kernel
theorem dMo_row_101 : decode prog_10_method_30_code 101 = .ok (.ifCond .eq 7, 3) := by decide +kernel
theorem dMo_row_104 : decode prog_10_method_30_code 104 = .ok (.iconst 1, 1) := by decide +kernel
theorem dMo_row_105 : decode prog_10_method_30_code 105 = .ok (.goto 4, 3) := by decide +kernel
theorem dMo_row_108 : decode prog_10_method_30_code 108 = .ok (.iconst 0, 1) := by decide +kernel
theorem dMo_row_109 : decode prog_10_method_30_code 109 = .ok (.iadd, 1) := by decide +kernel
theorem dMo_row_110 : decode prog_10_method_30_code 110 = .ok (.istore_n 2, 1) := by decide +kernel
theorem dMo_row_111 : decode prog_10_method_30_code 111 = .ok (.aload_n 0, 1) := by decide +kernel
theorem dMo_row_112 : decode prog_10_method_30_code 112 = .ok (.dup, 1) := by decide +kernel
theorem dMo_row_113 : decode prog_10_method_30_code 113 = .ok (.getfield 178, 3) := by decide +kernel
theorem dMo_row_116 : decode prog_10_method_30_code 116 = .ok (.iload 4, 2) := by decide +kernel
theorem dMo_row_118 : decode prog_10_method_30_code 118 = .ok (.ifCond .eq 7, 3) := by decide +kernel
theorem dMo_row_121 : decode prog_10_method_30_code 121 = .ok (.iconst 0, 1) := by decide +kernel
theorem dMo_row_122 : decode prog_10_method_30_code 122 = .ok (.goto 4, 3) := by decide +kernel
theorem dMo_row_125 : decode prog_10_method_30_code 125 = .ok (.iconst 1, 1) := by decide +kernel
theorem dMo_row_126 : decode prog_10_method_30_code 126 = .ok (.iadd, 1) := by decide +kernel
theorem dMo_row_127 : decode prog_10_method_30_code 127 = .ok (.putfield 178, 3) := by decide +kernel
theorem dMo_row_130 : decode prog_10_method_30_code 130 = .ok (.iinc 3 2, 3) := by decide +kernel
theorem dMo_row_133 : decode prog_10_method_30_code 133 = .ok (.goto (-101), 3) := by decide +kernel
theorem dMo_row_136 : decode prog_10_method_30_code 136 = .ok (.aload_n 0, 1) := by decide +kernel
theorem dMo_row_137 : decode prog_10_method_30_code 137 = .ok (.iload_n 2, 1) := by decide +kernel
theorem dMo_row_138 : decode prog_10_method_30_code 138 = .ok (.invokevirtual 116, 3) := by decide +kernel
theorem dMo_row_141 : decode prog_10_method_30_code 141 = .ok (.ireturn, 1) := by decide +kernel
theorem dMo_sawdust_0 : decode prog_10_method_31_code 0 = .ok (.aload_n 0, 1) := by decide +kernel
theorem dMo_sawdust_1 : decode prog_10_method_31_code 1 = .ok (.getfield 178, 3) := by decide +kernel
theorem dMo_sawdust_4 : decode prog_10_method_31_code 4 = .ok (.ireturn, 1) := by decide +kernel
theorem dMo_feed_0 : decode prog_10_method_32_code 0 = .ok (.aload_n 0, 1) := by decide +kernel
theorem dMo_feed_1 : decode prog_10_method_32_code 1 = .ok (.getfield 175, 3) := by decide +kernel
theorem dMo_feed_4 : decode prog_10_method_32_code 4 = .ok (.bipush 20, 2) := by decide +kernel
theorem dMo_feed_6 : decode prog_10_method_32_code 6 = .ok (.iadd, 1) := by decide +kernel
theorem dMo_feed_7 : decode prog_10_method_32_code 7 = .ok (.sipush 400, 3) := by decide +kernel
theorem dMo_feed_10 : decode prog_10_method_32_code 10 = .ok (.if_icmp .le 5, 3) := by decide +kernel
theorem dMo_feed_13 : decode prog_10_method_32_code 13 = .ok (.iconst (-1), 1) := by decide +kernel
theorem dMo_feed_14 : decode prog_10_method_32_code 14 = .ok (.ireturn, 1) := by decide +kernel
theorem dMo_feed_15 : decode prog_10_method_32_code 15 = .ok (.aload_n 0, 1) := by decide +kernel
theorem dMo_feed_16 : decode prog_10_method_32_code 16 = .ok (.getfield 48, 3) := by decide +kernel
theorem dMo_feed_19 : decode prog_10_method_32_code 19 = .ok (.iconst 0, 1) := by decide +kernel
theorem dMo_feed_20 : decode prog_10_method_32_code 20 = .ok (.iload_n 1, 1) := by decide +kernel
theorem dMo_feed_21 : decode prog_10_method_32_code 21 = .ok (.iastore, 1) := by decide +kernel
theorem dMo_feed_22 : decode prog_10_method_32_code 22 = .ok (.aload_n 0, 1) := by decide +kernel
theorem dMo_feed_23 : decode prog_10_method_32_code 23 = .ok (.getfield 48, 3) := by decide +kernel
theorem dMo_feed_26 : decode prog_10_method_32_code 26 = .ok (.iconst 1, 1) := by decide +kernel
theorem dMo_feed_27 : decode prog_10_method_32_code 27 = .ok (.iload_n 2, 1) := by decide +kernel
theorem dMo_feed_28 : decode prog_10_method_32_code 28 = .ok (.iastore, 1) := by decide +kernel
theorem dMo_feed_29 : decode prog_10_method_32_code 29 = .ok (.aload_n 0, 1) := by decide +kernel
theorem dMo_feed_30 : decode prog_10_method_32_code 30 = .ok (.getfield 48, 3) := by decide +kernel
theorem dMo_feed_33 : decode prog_10_method_32_code 33 = .ok (.iconst 2, 1) := by decide +kernel
theorem dMo_feed_34 : decode prog_10_method_32_code 34 = .ok (.iload_n 3, 1) := by decide +kernel
theorem dMo_feed_35 : decode prog_10_method_32_code 35 = .ok (.iastore, 1) := by decide +kernel
theorem dMo_feed_36 : decode prog_10_method_32_code 36 = .ok (.aload_n 0, 1) := by decide +kernel
theorem dMo_feed_37 : decode prog_10_method_32_code 37 = .ok (.getfield 48, 3) := by decide +kernel
theorem dMo_feed_40 : decode prog_10_method_32_code 40 = .ok (.iconst 3, 1) := by decide +kernel
theorem dMo_feed_41 : decode prog_10_method_32_code 41 = .ok (.iload 4, 2) := by decide +kernel
theorem dMo_feed_43 : decode prog_10_method_32_code 43 = .ok (.iastore, 1) := by decide +kernel
theorem dMo_feed_44 : decode prog_10_method_32_code 44 = .ok (.aload_n 0, 1) := by decide +kernel
theorem dMo_feed_45 : decode prog_10_method_32_code 45 = .ok (.getfield 48, 3) := by decide +kernel
theorem dMo_feed_48 : decode prog_10_method_32_code 48 = .ok (.iconst 4, 1) := by decide +kernel
theorem dMo_feed_49 : decode prog_10_method_32_code 49 = .ok (.iload 5, 2) := by decide +kernel
theorem dMo_feed_51 : decode prog_10_method_32_code 51 = .ok (.iastore, 1) := by decide +kernel
theorem dMo_feed_52 : decode prog_10_method_32_code 52 = .ok (.iconst 0, 1) := by decide +kernel
theorem dMo_feed_53 : decode prog_10_method_32_code 53 = .ok (.istore 6, 2) := by decide +kernel
theorem dMo_feed_55 : decode prog_10_method_32_code 55 = .ok (.iload 6, 2) := by decide +kernel
theorem dMo_feed_57 : decode prog_10_method_32_code 57 = .ok (.bipush 20, 2) := by decide +kernel
theorem dMo_feed_59 : decode prog_10_method_32_code 59 = .ok (.if_icmp .ge 42, 3) := by decide +kernel
theorem dMo_feed_62 : decode prog_10_method_32_code 62 = .ok (.aload_n 0, 1) := by decide +kernel
theorem dMo_feed_63 : decode prog_10_method_32_code 63 = .ok (.getfield 45, 3) := by decide +kernel
theorem dMo_feed_66 : decode prog_10_method_32_code 66 = .ok (.aload_n 0, 1) := by decide +kernel
theorem dMo_feed_67 : decode prog_10_method_32_code 67 = .ok (.getfield 175, 3) := by decide +kernel
theorem dMo_feed_70 : decode prog_10_method_32_code 70 = .ok (.iload 6, 2) := by decide +kernel
theorem dMo_feed_72 : decode prog_10_method_32_code 72 = .ok (.iadd, 1) := by decide +kernel
theorem dMo_feed_73 : decode prog_10_method_32_code 73 = .ok (.aload_n 0, 1) := by decide +kernel
theorem dMo_feed_74 : decode prog_10_method_32_code 74 = .ok (.getfield 48, 3) := by decide +kernel
theorem dMo_feed_77 : decode prog_10_method_32_code 77 = .ok (.iload 6, 2) := by decide +kernel
theorem dMo_feed_79 : decode prog_10_method_32_code 79 = .ok (.iconst 4, 1) := by decide +kernel
theorem dMo_feed_80 : decode prog_10_method_32_code 80 = .ok (.idiv, 1) := by decide +kernel
theorem dMo_feed_81 : decode prog_10_method_32_code 81 = .ok (.iaload, 1) := by decide +kernel
theorem dMo_feed_82 : decode prog_10_method_32_code 82 = .ok (.bipush 24, 2) := by decide +kernel
theorem dMo_feed_84 : decode prog_10_method_32_code 84 = .ok (.bipush 8, 2) := by decide +kernel
theorem dMo_feed_86 : decode prog_10_method_32_code 86 = .ok (.iload 6, 2) := by decide +kernel
theorem dMo_feed_88 : decode prog_10_method_32_code 88 = .ok (.iconst 4, 1) := by decide +kernel
theorem dMo_feed_89 : decode prog_10_method_32_code 89 = .ok (.irem, 1) := by decide +kernel
theorem dMo_feed_90 : decode prog_10_method_32_code 90 = .ok (.imul, 1) := by decide +kernel
theorem dMo_feed_91 : decode prog_10_method_32_code 91 = .ok (.isub, 1) := by decide +kernel
theorem dMo_feed_92 : decode prog_10_method_32_code 92 = .ok (.ishr, 1) := by decide +kernel
theorem dMo_feed_93 : decode prog_10_method_32_code 93 = .ok (.i2b, 1) := by decide +kernel
theorem dMo_feed_94 : decode prog_10_method_32_code 94 = .ok (.bastore, 1) := by decide +kernel
theorem dMo_feed_95 : decode prog_10_method_32_code 95 = .ok (.iinc 6 1, 3) := by decide +kernel
theorem dMo_feed_98 : decode prog_10_method_32_code 98 = .ok (.goto (-43), 3) := by decide +kernel
theorem dMo_feed_101 : decode prog_10_method_32_code 101 = .ok (.aload_n 0, 1) := by decide +kernel
theorem dMo_feed_102 : decode prog_10_method_32_code 102 = .ok (.dup, 1) := by decide +kernel
theorem dMo_feed_103 : decode prog_10_method_32_code 103 = .ok (.getfield 175, 3) := by decide +kernel
theorem dMo_feed_106 : decode prog_10_method_32_code 106 = .ok (.bipush 20, 2) := by decide +kernel
theorem dMo_feed_108 : decode prog_10_method_32_code 108 = .ok (.iadd, 1) := by decide +kernel
theorem dMo_feed_109 : decode prog_10_method_32_code 109 = .ok (.putfield 175, 3) := by decide +kernel
theorem dMo_feed_112 : decode prog_10_method_32_code 112 = .ok (.aload_n 0, 1) := by decide +kernel
theorem dMo_feed_113 : decode prog_10_method_32_code 113 = .ok (.getfield 175, 3) := by decide +kernel
theorem dMo_feed_116 : decode prog_10_method_32_code 116 = .ok (.ireturn, 1) := by decide +kernel
theorem dMo_end_0 : decode prog_10_method_33_code 0 = .ok (.iload_n 1, 1) := by decide +kernel
theorem dMo_end_1 : decode prog_10_method_33_code 1 = .ok (.iconst 0, 1) := by decide +kernel
theorem dMo_end_2 : decode prog_10_method_33_code 2 = .ok (.aload_n 0, 1) := by decide +kernel
theorem dMo_end_3 : decode prog_10_method_33_code 3 = .ok (.getfield 175, 3) := by decide +kernel
theorem dMo_end_6 : decode prog_10_method_33_code 6 = .ok (.invokestatic 18, 3) := by decide +kernel
theorem dMo_end_9 : decode prog_10_method_33_code 9 = .ok (.ifCond .ne 5, 3) := by decide +kernel
theorem dMo_end_12 : decode prog_10_method_33_code 12 = .ok (.iconst (-1), 1) := by decide +kernel
theorem dMo_end_13 : decode prog_10_method_33_code 13 = .ok (.ireturn, 1) := by decide +kernel
theorem dMo_end_14 : decode prog_10_method_33_code 14 = .ok (.aload_n 0, 1) := by decide +kernel
theorem dMo_end_15 : decode prog_10_method_33_code 15 = .ok (.iload_n 1, 1) := by decide +kernel
theorem dMo_end_16 : decode prog_10_method_33_code 16 = .ok (.putfield 175, 3) := by decide +kernel
theorem dMo_end_19 : decode prog_10_method_33_code 19 = .ok (.iload_n 1, 1) := by decide +kernel
theorem dMo_end_20 : decode prog_10_method_33_code 20 = .ok (.ireturn, 1) := by decide +kernel
theorem dMo_isSmall_0 : decode prog_10_method_34_code 0 = .ok (.iload_n 0, 1) := by decide +kernel
theorem dMo_isSmall_1 : decode prog_10_method_34_code 1 = .ok (.bipush 97, 2) := by decide +kernel
theorem dMo_isSmall_3 : decode prog_10_method_34_code 3 = .ok (.if_icmp .lt 13, 3) := by decide +kernel
theorem dMo_isSmall_6 : decode prog_10_method_34_code 6 = .ok (.iload_n 0, 1) := by decide +kernel
theorem dMo_isSmall_7 : decode prog_10_method_34_code 7 = .ok (.bipush 122, 2) := by decide +kernel
theorem dMo_isSmall_9 : decode prog_10_method_34_code 9 = .ok (.if_icmp .gt 7, 3) := by decide +kernel
theorem dMo_isSmall_12 : decode prog_10_method_34_code 12 = .ok (.iconst 1, 1) := by decide +kernel
theorem dMo_isSmall_13 : decode prog_10_method_34_code 13 = .ok (.goto 4, 3) := by decide +kernel
theorem dMo_isSmall_16 : decode prog_10_method_34_code 16 = .ok (.iconst 0, 1) := by decide +kernel
theorem dMo_isSmall_17 : decode prog_10_method_34_code 17 = .ok (.ireturn, 1) := by decide +kernel
theorem dMo_isDigit_0 : decode prog_10_method_35_code 0 = .ok (.iload_n 0, 1) := by decide +kernel
theorem dMo_isDigit_1 : decode prog_10_method_35_code 1 = .ok (.bipush 48, 2) := by decide +kernel
theorem dMo_isDigit_3 : decode prog_10_method_35_code 3 = .ok (.if_icmp .lt 13, 3) := by decide +kernel
theorem dMo_isDigit_6 : decode prog_10_method_35_code 6 = .ok (.iload_n 0, 1) := by decide +kernel
theorem dMo_isDigit_7 : decode prog_10_method_35_code 7 = .ok (.bipush 57, 2) := by decide +kernel
theorem dMo_isDigit_9 : decode prog_10_method_35_code 9 = .ok (.if_icmp .gt 7, 3) := by decide +kernel
theorem dMo_isDigit_12 : decode prog_10_method_35_code 12 = .ok (.iconst 1, 1) := by decide +kernel
theorem dMo_isDigit_13 : decode prog_10_method_35_code 13 = .ok (.goto 4, 3) := by decide +kernel
theorem dMo_isDigit_16 : decode prog_10_method_35_code 16 = .ok (.iconst 0, 1) := by decide +kernel
theorem dMo_isDigit_17 : decode prog_10_method_35_code 17 = .ok (.ireturn, 1) := by decide +kernel
theorem dMo_wordOf_0 : decode prog_10_method_36_code 0 = .ok (.iconst 1, 1) := by decide +kernel
theorem dMo_wordOf_1 : decode prog_10_method_36_code 1 = .ok (.istore_n 3, 1) := by decide +kernel
theorem dMo_wordOf_2 : decode prog_10_method_36_code 2 = .ok (.iconst 0, 1) := by decide +kernel
theorem dMo_wordOf_3 : decode prog_10_method_36_code 3 = .ok (.istore 4, 2) := by decide +kernel
theorem dMo_wordOf_5 : decode prog_10_method_36_code 5 = .ok (.iload 4, 2) := by decide +kernel
theorem dMo_wordOf_7 : decode prog_10_method_36_code 7 = .ok (.aload_n 0, 1) := by decide +kernel
theorem dMo_wordOf_8 : decode prog_10_method_36_code 8 = .ok (.getfield 41, 3) := by decide +kernel
theorem dMo_wordOf_11 : decode prog_10_method_36_code 11 = .ok (.arraylength, 1) := by decide +kernel
theorem dMo_wordOf_12 : decode prog_10_method_36_code 12 = .ok (.if_icmp .ge 114, 3) := by decide +kernel
theorem dMo_wordOf_15 : decode prog_10_method_36_code 15 = .ok (.iconst 0, 1) := by decide +kernel
theorem dMo_wordOf_16 : decode prog_10_method_36_code 16 = .ok (.istore 5, 2) := by decide +kernel
theorem dMo_wordOf_18 : decode prog_10_method_36_code 18 = .ok (.aload_n 0, 1) := by decide +kernel
theorem dMo_wordOf_19 : decode prog_10_method_36_code 19 = .ok (.getfield 41, 3) := by decide +kernel
theorem dMo_wordOf_22 : decode prog_10_method_36_code 22 = .ok (.iload 4, 2) := by decide +kernel
theorem dMo_wordOf_24 : decode prog_10_method_36_code 24 = .ok (.iload 5, 2) := by decide +kernel
theorem dMo_wordOf_26 : decode prog_10_method_36_code 26 = .ok (.iadd, 1) := by decide +kernel
theorem dMo_wordOf_27 : decode prog_10_method_36_code 27 = .ok (.baload, 1) := by decide +kernel
theorem dMo_wordOf_28 : decode prog_10_method_36_code 28 = .ok (.bipush 32, 2) := by decide +kernel
theorem dMo_wordOf_30 : decode prog_10_method_36_code 30 = .ok (.if_icmp .eq 9, 3) := by decide +kernel
theorem dMo_wordOf_33 : decode prog_10_method_36_code 33 = .ok (.iinc 5 1, 3) := by decide +kernel
theorem dMo_wordOf_36 : decode prog_10_method_36_code 36 = .ok (.goto (-18), 3) := by decide +kernel
theorem dMo_wordOf_39 : decode prog_10_method_36_code 39 = .ok (.iload 5, 2) := by decide +kernel
theorem dMo_wordOf_41 : decode prog_10_method_36_code 41 = .ok (.iload_n 2, 1) := by decide +kernel
theorem dMo_wordOf_42 : decode prog_10_method_36_code 42 = .ok (.iload_n 1, 1) := by decide +kernel
theorem dMo_wordOf_43 : decode prog_10_method_36_code 43 = .ok (.isub, 1) := by decide +kernel
theorem dMo_wordOf_44 : decode prog_10_method_36_code 44 = .ok (.if_icmp .ne 7, 3) := by decide +kernel
theorem dMo_wordOf_47 : decode prog_10_method_36_code 47 = .ok (.iconst 1, 1) := by decide +kernel
theorem dMo_wordOf_48 : decode prog_10_method_36_code 48 = .ok (.goto 4, 3) := by decide +kernel
theorem dMo_wordOf_51 : decode prog_10_method_36_code 51 = .ok (.iconst 0, 1) := by decide +kernel
theorem dMo_wordOf_52 : decode prog_10_method_36_code 52 = .ok (.istore 6, 2) := by decide +kernel
theorem dMo_wordOf_54 : decode prog_10_method_36_code 54 = .ok (.iconst 0, 1) := by decide +kernel
theorem dMo_wordOf_55 : decode prog_10_method_36_code 55 = .ok (.istore 7, 2) := by decide +kernel
theorem dMo_wordOf_57 : decode prog_10_method_36_code 57 = .ok (.iload 7, 2) := by decide +kernel
theorem dMo_wordOf_59 : decode prog_10_method_36_code 59 = .ok (.iload 5, 2) := by decide +kernel
theorem dMo_wordOf_61 : decode prog_10_method_36_code 61 = .ok (.if_icmp .ge 43, 3) := by decide +kernel
theorem dMo_wordOf_64 : decode prog_10_method_36_code 64 = .ok (.iload 6, 2) := by decide +kernel
theorem dMo_wordOf_66 : decode prog_10_method_36_code 66 = .ok (.ifCond .eq 38, 3) := by decide +kernel
theorem dMo_wordOf_69 : decode prog_10_method_36_code 69 = .ok (.aload_n 0, 1) := by decide +kernel
theorem dMo_wordOf_70 : decode prog_10_method_36_code 70 = .ok (.getfield 41, 3) := by decide +kernel
theorem dMo_wordOf_73 : decode prog_10_method_36_code 73 = .ok (.iload 4, 2) := by decide +kernel
theorem dMo_wordOf_75 : decode prog_10_method_36_code 75 = .ok (.iload 7, 2) := by decide +kernel
theorem dMo_wordOf_77 : decode prog_10_method_36_code 77 = .ok (.iadd, 1) := by decide +kernel
theorem dMo_wordOf_78 : decode prog_10_method_36_code 78 = .ok (.baload, 1) := by decide +kernel
theorem dMo_wordOf_79 : decode prog_10_method_36_code 79 = .ok (.aload_n 0, 1) := by decide +kernel
theorem dMo_wordOf_80 : decode prog_10_method_36_code 80 = .ok (.getfield 45, 3) := by decide +kernel
theorem dMo_wordOf_83 : decode prog_10_method_36_code 83 = .ok (.iload_n 1, 1) := by decide +kernel
theorem dMo_wordOf_84 : decode prog_10_method_36_code 84 = .ok (.iload 7, 2) := by decide +kernel
theorem dMo_wordOf_86 : decode prog_10_method_36_code 86 = .ok (.iadd, 1) := by decide +kernel
theorem dMo_wordOf_87 : decode prog_10_method_36_code 87 = .ok (.baload, 1) := by decide +kernel
theorem dMo_wordOf_88 : decode prog_10_method_36_code 88 = .ok (.if_icmp .ne 7, 3) := by decide +kernel
theorem dMo_wordOf_91 : decode prog_10_method_36_code 91 = .ok (.iconst 1, 1) := by decide +kernel
theorem dMo_wordOf_92 : decode prog_10_method_36_code 92 = .ok (.goto 4, 3) := by decide +kernel
theorem dMo_wordOf_95 : decode prog_10_method_36_code 95 = .ok (.iconst 0, 1) := by decide +kernel
theorem dMo_wordOf_96 : decode prog_10_method_36_code 96 = .ok (.istore 6, 2) := by decide +kernel
theorem dMo_wordOf_98 : decode prog_10_method_36_code 98 = .ok (.iinc 7 1, 3) := by decide +kernel
theorem dMo_wordOf_101 : decode prog_10_method_36_code 101 = .ok (.goto (-44), 3) := by decide +kernel
theorem dMo_wordOf_104 : decode prog_10_method_36_code 104 = .ok (.iload 6, 2) := by decide +kernel
theorem dMo_wordOf_106 : decode prog_10_method_36_code 106 = .ok (.ifCond .eq 5, 3) := by decide +kernel
theorem dMo_wordOf_109 : decode prog_10_method_36_code 109 = .ok (.iload_n 3, 1) := by decide +kernel
theorem dMo_wordOf_110 : decode prog_10_method_36_code 110 = .ok (.ireturn, 1) := by decide +kernel
theorem dMo_wordOf_111 : decode prog_10_method_36_code 111 = .ok (.iload 4, 2) := by decide +kernel
theorem dMo_wordOf_113 : decode prog_10_method_36_code 113 = .ok (.iload 5, 2) := by decide +kernel
theorem dMo_wordOf_115 : decode prog_10_method_36_code 115 = .ok (.iconst 1, 1) := by decide +kernel
theorem dMo_wordOf_116 : decode prog_10_method_36_code 116 = .ok (.iadd, 1) := by decide +kernel
theorem dMo_wordOf_117 : decode prog_10_method_36_code 117 = .ok (.iadd, 1) := by decide +kernel
theorem dMo_wordOf_118 : decode prog_10_method_36_code 118 = .ok (.istore 4, 2) := by decide +kernel
theorem dMo_wordOf_120 : decode prog_10_method_36_code 120 = .ok (.iinc 3 1, 3) := by decide +kernel
theorem dMo_wordOf_123 : decode prog_10_method_36_code 123 = .ok (.goto (-118), 3) := by decide +kernel
theorem dMo_wordOf_126 : decode prog_10_method_36_code 126 = .ok (.iconst 0, 1) := by decide +kernel
theorem dMo_wordOf_127 : decode prog_10_method_36_code 127 = .ok (.ireturn, 1) := by decide +kernel
theorem dMo_splits_0 : decode prog_10_method_37_code 0 = .ok (.aload_n 0, 1) := by decide +kernel
theorem dMo_splits_1 : decode prog_10_method_37_code 1 = .ok (.iconst 0, 1) := by decide +kernel
theorem dMo_splits_2 : decode prog_10_method_37_code 2 = .ok (.putfield 181, 3) := by decide +kernel
theorem dMo_splits_5 : decode prog_10_method_37_code 5 = .ok (.iconst 0, 1) := by decide +kernel
theorem dMo_splits_6 : decode prog_10_method_37_code 6 = .ok (.istore_n 2, 1) := by decide +kernel
theorem dMo_splits_7 : decode prog_10_method_37_code 7 = .ok (.iload_n 2, 1) := by decide +kernel
theorem dMo_splits_8 : decode prog_10_method_37_code 8 = .ok (.iload_n 1, 1) := by decide +kernel
theorem dMo_splits_9 : decode prog_10_method_37_code 9 = .ok (.if_icmp .ge 254, 3) := by decide +kernel
theorem dMo_splits_12 : decode prog_10_method_37_code 12 = .ok (.aload_n 0, 1) := by decide +kernel
theorem dMo_splits_13 : decode prog_10_method_37_code 13 = .ok (.getfield 45, 3) := by decide +kernel
theorem dMo_splits_16 : decode prog_10_method_37_code 16 = .ok (.iload_n 2, 1) := by decide +kernel
theorem dMo_splits_17 : decode prog_10_method_37_code 17 = .ok (.baload, 1) := by decide +kernel
theorem dMo_splits_18 : decode prog_10_method_37_code 18 = .ok (.istore_n 3, 1) := by decide +kernel
theorem dMo_splits_19 : decode prog_10_method_37_code 19 = .ok (.iload_n 3, 1) := by decide +kernel
theorem dMo_splits_20 : decode prog_10_method_37_code 20 = .ok (.bipush 32, 2) := by decide +kernel
theorem dMo_splits_22 : decode prog_10_method_37_code 22 = .ok (.if_icmp .ne 9, 3) := by decide +kernel
theorem dMo_splits_25 : decode prog_10_method_37_code 25 = .ok (.iinc 2 1, 3) := by decide +kernel
theorem dMo_splits_28 : decode prog_10_method_37_code 28 = .ok (.goto (-21), 3) := by decide +kernel
theorem dMo_splits_31 : decode prog_10_method_37_code 31 = .ok (.iload_n 2, 1) := by decide +kernel
theorem dMo_splits_32 : decode prog_10_method_37_code 32 = .ok (.iconst 1, 1) := by decide +kernel
theorem dMo_splits_33 : decode prog_10_method_37_code 33 = .ok (.iadd, 1) := by decide +kernel
theorem dMo_splits_34 : decode prog_10_method_37_code 34 = .ok (.istore 4, 2) := by decide +kernel
theorem dMo_splits_36 : decode prog_10_method_37_code 36 = .ok (.iload_n 3, 1) := by decide +kernel
theorem dMo_splits_37 : decode prog_10_method_37_code 37 = .ok (.invokestatic 184, 3) := by decide +kernel
theorem dMo_splits_40 : decode prog_10_method_37_code 40 = .ok (.ifCond .eq 28, 3) := by decide +kernel
theorem dMo_splits_43 : decode prog_10_method_37_code 43 = .ok (.iload 4, 2) := by decide +kernel
theorem dMo_splits_45 : decode prog_10_method_37_code 45 = .ok (.iload_n 1, 1) := by decide +kernel
theorem dMo_splits_46 : decode prog_10_method_37_code 46 = .ok (.if_icmp .ge 22, 3) := by decide +kernel
theorem dMo_splits_49 : decode prog_10_method_37_code 49 = .ok (.aload_n 0, 1) := by decide +kernel
theorem dMo_splits_50 : decode prog_10_method_37_code 50 = .ok (.getfield 45, 3) := by decide +kernel
theorem dMo_splits_53 : decode prog_10_method_37_code 53 = .ok (.iload 4, 2) := by decide +kernel
theorem dMo_splits_55 : decode prog_10_method_37_code 55 = .ok (.baload, 1) := by decide +kernel
theorem dMo_splits_56 : decode prog_10_method_37_code 56 = .ok (.invokestatic 184, 3) := by decide +kernel
theorem dMo_splits_59 : decode prog_10_method_37_code 59 = .ok (.ifCond .eq 9, 3) := by decide +kernel
theorem dMo_splits_62 : decode prog_10_method_37_code 62 = .ok (.iinc 4 1, 3) := by decide +kernel
theorem dMo_splits_65 : decode prog_10_method_37_code 65 = .ok (.goto (-22), 3) := by decide +kernel
theorem dMo_splits_68 : decode prog_10_method_37_code 68 = .ok (.iload_n 3, 1) := by decide +kernel
theorem dMo_splits_69 : decode prog_10_method_37_code 69 = .ok (.invokestatic 187, 3) := by decide +kernel
theorem dMo_splits_72 : decode prog_10_method_37_code 72 = .ok (.ifCond .eq 28, 3) := by decide +kernel
theorem dMo_splits_75 : decode prog_10_method_37_code 75 = .ok (.iload 4, 2) := by decide +kernel
theorem dMo_splits_77 : decode prog_10_method_37_code 77 = .ok (.iload_n 1, 1) := by decide +kernel
theorem dMo_splits_78 : decode prog_10_method_37_code 78 = .ok (.if_icmp .ge 22, 3) := by decide +kernel
theorem dMo_splits_81 : decode prog_10_method_37_code 81 = .ok (.aload_n 0, 1) := by decide +kernel
theorem dMo_splits_82 : decode prog_10_method_37_code 82 = .ok (.getfield 45, 3) := by decide +kernel
theorem dMo_splits_85 : decode prog_10_method_37_code 85 = .ok (.iload 4, 2) := by decide +kernel
theorem dMo_splits_87 : decode prog_10_method_37_code 87 = .ok (.baload, 1) := by decide +kernel
theorem dMo_splits_88 : decode prog_10_method_37_code 88 = .ok (.invokestatic 187, 3) := by decide +kernel
theorem dMo_splits_91 : decode prog_10_method_37_code 91 = .ok (.ifCond .eq 9, 3) := by decide +kernel
theorem dMo_splits_94 : decode prog_10_method_37_code 94 = .ok (.iinc 4 1, 3) := by decide +kernel
theorem dMo_splits_97 : decode prog_10_method_37_code 97 = .ok (.goto (-22), 3) := by decide +kernel
theorem dMo_splits_100 : decode prog_10_method_37_code 100 = .ok (.aload_n 0, 1) := by decide +kernel
theorem dMo_splits_101 : decode prog_10_method_37_code 101 = .ok (.getfield 60, 3) := by decide +kernel
theorem dMo_splits_104 : decode prog_10_method_37_code 104 = .ok (.aload_n 0, 1) := by decide +kernel
theorem dMo_splits_105 : decode prog_10_method_37_code 105 = .ok (.getfield 181, 3) := by decide +kernel
theorem dMo_splits_108 : decode prog_10_method_37_code 108 = .ok (.iload_n 2, 1) := by decide +kernel
theorem dMo_splits_109 : decode prog_10_method_37_code 109 = .ok (.iastore, 1) := by decide +kernel
theorem dMo_splits_110 : decode prog_10_method_37_code 110 = .ok (.aload_n 0, 1) := by decide +kernel
theorem dMo_splits_111 : decode prog_10_method_37_code 111 = .ok (.getfield 57, 3) := by decide +kernel
theorem dMo_splits_114 : decode prog_10_method_37_code 114 = .ok (.aload_n 0, 1) := by decide +kernel
theorem dMo_splits_115 : decode prog_10_method_37_code 115 = .ok (.getfield 181, 3) := by decide +kernel
theorem dMo_splits_118 : decode prog_10_method_37_code 118 = .ok (.iconst 0, 1) := by decide +kernel
theorem dMo_splits_119 : decode prog_10_method_37_code 119 = .ok (.iastore, 1) := by decide +kernel
theorem dMo_splits_120 : decode prog_10_method_37_code 120 = .ok (.aload_n 0, 1) := by decide +kernel
theorem dMo_splits_121 : decode prog_10_method_37_code 121 = .ok (.getfield 54, 3) := by decide +kernel
theorem dMo_splits_124 : decode prog_10_method_37_code 124 = .ok (.aload_n 0, 1) := by decide +kernel
theorem dMo_splits_125 : decode prog_10_method_37_code 125 = .ok (.getfield 181, 3) := by decide +kernel
theorem dMo_splits_128 : decode prog_10_method_37_code 128 = .ok (.iload_n 3, 1) := by decide +kernel
theorem dMo_splits_129 : decode prog_10_method_37_code 129 = .ok (.invokestatic 184, 3) := by decide +kernel
theorem dMo_splits_132 : decode prog_10_method_37_code 132 = .ok (.ifCond .eq 13, 3) := by decide +kernel
theorem dMo_splits_135 : decode prog_10_method_37_code 135 = .ok (.aload_n 0, 1) := by decide +kernel
theorem dMo_splits_136 : decode prog_10_method_37_code 136 = .ok (.iload_n 2, 1) := by decide +kernel
theorem dMo_splits_137 : decode prog_10_method_37_code 137 = .ok (.iload 4, 2) := by decide +kernel
theorem dMo_splits_139 : decode prog_10_method_37_code 139 = .ok (.invokevirtual 190, 3) := by decide +kernel
theorem dMo_splits_142 : decode prog_10_method_37_code 142 = .ok (.goto 23, 3) := by decide +kernel
theorem dMo_splits_145 : decode prog_10_method_37_code 145 = .ok (.iload_n 3, 1) := by decide +kernel
theorem dMo_splits_146 : decode prog_10_method_37_code 146 = .ok (.invokestatic 187, 3) := by decide +kernel
theorem dMo_splits_149 : decode prog_10_method_37_code 149 = .ok (.ifCond .eq 8, 3) := by decide +kernel
theorem dMo_splits_152 : decode prog_10_method_37_code 152 = .ok (.bipush 50, 2) := by decide +kernel
theorem dMo_splits_154 : decode prog_10_method_37_code 154 = .ok (.goto 11, 3) := by decide +kernel
theorem dMo_splits_157 : decode prog_10_method_37_code 157 = .ok (.bipush 100, 2) := by decide +kernel
theorem dMo_splits_159 : decode prog_10_method_37_code 159 = .ok (.iload_n 3, 1) := by decide +kernel
theorem dMo_splits_160 : decode prog_10_method_37_code 160 = .ok (.sipush 255, 3) := by decide +kernel
theorem dMo_splits_163 : decode prog_10_method_37_code 163 = .ok (.iand, 1) := by decide +kernel
theorem dMo_splits_164 : decode prog_10_method_37_code 164 = .ok (.iadd, 1) := by decide +kernel
theorem dMo_splits_165 : decode prog_10_method_37_code 165 = .ok (.iastore, 1) := by decide +kernel
theorem dMo_splits_166 : decode prog_10_method_37_code 166 = .ok (.iload_n 2, 1) := by decide +kernel
theorem dMo_splits_167 : decode prog_10_method_37_code 167 = .ok (.istore 5, 2) := by decide +kernel
theorem dMo_splits_169 : decode prog_10_method_37_code 169 = .ok (.iload 5, 2) := by decide +kernel
theorem dMo_splits_171 : decode prog_10_method_37_code 171 = .ok (.iload 4, 2) := by decide +kernel
theorem dMo_splits_173 : decode prog_10_method_37_code 173 = .ok (.if_icmp .ge 74, 3) := by decide +kernel
theorem dMo_splits_176 : decode prog_10_method_37_code 176 = .ok (.iload_n 3, 1) := by decide +kernel
theorem dMo_splits_177 : decode prog_10_method_37_code 177 = .ok (.invokestatic 187, 3) := by decide +kernel
theorem dMo_splits_180 : decode prog_10_method_37_code 180 = .ok (.ifCond .eq 67, 3) := by decide +kernel
theorem dMo_splits_183 : decode prog_10_method_37_code 183 = .ok (.aload_n 0, 1) := by decide +kernel
theorem dMo_splits_184 : decode prog_10_method_37_code 184 = .ok (.getfield 57, 3) := by decide +kernel
theorem dMo_splits_187 : decode prog_10_method_37_code 187 = .ok (.aload_n 0, 1) := by decide +kernel
theorem dMo_splits_188 : decode prog_10_method_37_code 188 = .ok (.getfield 181, 3) := by decide +kernel
theorem dMo_splits_191 : decode prog_10_method_37_code 191 = .ok (.aload_n 0, 1) := by decide +kernel
theorem dMo_splits_192 : decode prog_10_method_37_code 192 = .ok (.getfield 57, 3) := by decide +kernel
theorem dMo_splits_195 : decode prog_10_method_37_code 195 = .ok (.aload_n 0, 1) := by decide +kernel
theorem dMo_splits_196 : decode prog_10_method_37_code 196 = .ok (.getfield 181, 3) := by decide +kernel
theorem dMo_splits_199 : decode prog_10_method_37_code 199 = .ok (.iaload, 1) := by decide +kernel
theorem dMo_splits_200 : decode prog_10_method_37_code 200 = .ok (.ldc 193, 2) := by decide +kernel
theorem dMo_splits_202 : decode prog_10_method_37_code 202 = .ok (.if_icmp .le 15, 3) := by decide +kernel
theorem dMo_splits_205 : decode prog_10_method_37_code 205 = .ok (.aload_n 0, 1) := by decide +kernel
theorem dMo_splits_206 : decode prog_10_method_37_code 206 = .ok (.getfield 57, 3) := by decide +kernel
theorem dMo_splits_209 : decode prog_10_method_37_code 209 = .ok (.aload_n 0, 1) := by decide +kernel
theorem dMo_splits_210 : decode prog_10_method_37_code 210 = .ok (.getfield 181, 3) := by decide +kernel
theorem dMo_splits_213 : decode prog_10_method_37_code 213 = .ok (.iaload, 1) := by decide +kernel
theorem dMo_splits_214 : decode prog_10_method_37_code 214 = .ok (.goto 26, 3) := by decide +kernel
theorem dMo_splits_217 : decode prog_10_method_37_code 217 = .ok (.bipush 10, 2) := by decide +kernel
theorem dMo_splits_219 : decode prog_10_method_37_code 219 = .ok (.aload_n 0, 1) := by decide +kernel
theorem dMo_splits_220 : decode prog_10_method_37_code 220 = .ok (.getfield 57, 3) := by decide +kernel
theorem dMo_splits_223 : decode prog_10_method_37_code 223 = .ok (.aload_n 0, 1) := by decide +kernel
theorem dMo_splits_224 : decode prog_10_method_37_code 224 = .ok (.getfield 181, 3) := by decide +kernel
theorem dMo_splits_227 : decode prog_10_method_37_code 227 = .ok (.iaload, 1) := by decide +kernel
theorem dMo_splits_228 : decode prog_10_method_37_code 228 = .ok (.imul, 1) := by decide +kernel
theorem dMo_splits_229 : decode prog_10_method_37_code 229 = .ok (.aload_n 0, 1) := by decide +kernel
theorem dMo_splits_230 : decode prog_10_method_37_code 230 = .ok (.getfield 45, 3) := by decide +kernel
theorem dMo_splits_233 : decode prog_10_method_37_code 233 = .ok (.iload 5, 2) := by decide +kernel
theorem dMo_splits_235 : decode prog_10_method_37_code 235 = .ok (.baload, 1) := by decide +kernel
theorem dMo_splits_236 : decode prog_10_method_37_code 236 = .ok (.iadd, 1) := by decide +kernel
theorem dMo_splits_237 : decode prog_10_method_37_code 237 = .ok (.bipush 48, 2) := by decide +kernel
theorem dMo_splits_239 : decode prog_10_method_37_code 239 = .ok (.isub, 1) := by decide +kernel
theorem dMo_splits_240 : decode prog_10_method_37_code 240 = .ok (.iastore, 1) := by decide +kernel
theorem dMo_splits_241 : decode prog_10_method_37_code 241 = .ok (.iinc 5 1, 3) := by decide +kernel
theorem dMo_splits_244 : decode prog_10_method_37_code 244 = .ok (.goto (-75), 3) := by decide +kernel
theorem dMo_splits_247 : decode prog_10_method_37_code 247 = .ok (.aload_n 0, 1) := by decide +kernel
theorem dMo_splits_248 : decode prog_10_method_37_code 248 = .ok (.dup, 1) := by decide +kernel
theorem dMo_splits_249 : decode prog_10_method_37_code 249 = .ok (.getfield 181, 3) := by decide +kernel
theorem dMo_splits_252 : decode prog_10_method_37_code 252 = .ok (.iconst 1, 1) := by decide +kernel
theorem dMo_splits_253 : decode prog_10_method_37_code 253 = .ok (.iadd, 1) := by decide +kernel
theorem dMo_splits_254 : decode prog_10_method_37_code 254 = .ok (.putfield 181, 3) := by decide +kernel
theorem dMo_splits_257 : decode prog_10_method_37_code 257 = .ok (.iload 4, 2) := by decide +kernel
theorem dMo_splits_259 : decode prog_10_method_37_code 259 = .ok (.istore_n 2, 1) := by decide +kernel
theorem dMo_splits_260 : decode prog_10_method_37_code 260 = .ok (.goto (-253), 3) := by decide +kernel
theorem dMo_splits_263 : decode prog_10_method_37_code 263 = .ok (.aload_n 0, 1) := by decide +kernel
theorem dMo_splits_264 : decode prog_10_method_37_code 264 = .ok (.getfield 60, 3) := by decide +kernel
theorem dMo_splits_267 : decode prog_10_method_37_code 267 = .ok (.aload_n 0, 1) := by decide +kernel
theorem dMo_splits_268 : decode prog_10_method_37_code 268 = .ok (.getfield 181, 3) := by decide +kernel
theorem dMo_splits_271 : decode prog_10_method_37_code 271 = .ok (.iload_n 1, 1) := by decide +kernel
theorem dMo_splits_272 : decode prog_10_method_37_code 272 = .ok (.iastore, 1) := by decide +kernel
theorem dMo_splits_273 : decode prog_10_method_37_code 273 = .ok (.aload_n 0, 1) := by decide +kernel
theorem dMo_splits_274 : decode prog_10_method_37_code 274 = .ok (.getfield 54, 3) := by decide +kernel
theorem dMo_splits_277 : decode prog_10_method_37_code 277 = .ok (.aload_n 0, 1) := by decide +kernel
theorem dMo_splits_278 : decode prog_10_method_37_code 278 = .ok (.getfield 181, 3) := by decide +kernel
theorem dMo_splits_281 : decode prog_10_method_37_code 281 = .ok (.iconst 0, 1) := by decide +kernel
theorem dMo_splits_282 : decode prog_10_method_37_code 282 = .ok (.iastore, 1) := by decide +kernel
theorem dMo_splits_283 : decode prog_10_method_37_code 283 = .ok (.aload_n 0, 1) := by decide +kernel
theorem dMo_splits_284 : decode prog_10_method_37_code 284 = .ok (.getfield 57, 3) := by decide +kernel
theorem dMo_splits_287 : decode prog_10_method_37_code 287 = .ok (.aload_n 0, 1) := by decide +kernel
theorem dMo_splits_288 : decode prog_10_method_37_code 288 = .ok (.getfield 181, 3) := by decide +kernel
theorem dMo_splits_291 : decode prog_10_method_37_code 291 = .ok (.iconst 0, 1) := by decide +kernel
theorem dMo_splits_292 : decode prog_10_method_37_code 292 = .ok (.iastore, 1) := by decide +kernel
theorem dMo_splits_293 : decode prog_10_method_37_code 293 = .ok (.return_, 1) := by decide +kernel
theorem dMo_fine_0 : decode prog_10_method_38_code 0 = .ok (.aload_n 0, 1) := by decide +kernel
theorem dMo_fine_1 : decode prog_10_method_38_code 1 = .ok (.getfield 194, 3) := by decide +kernel
theorem dMo_fine_4 : decode prog_10_method_38_code 4 = .ok (.iconst (-1), 1) := by decide +kernel
theorem dMo_fine_5 : decode prog_10_method_38_code 5 = .ok (.if_icmp .ne 7, 3) := by decide +kernel
theorem dMo_fine_8 : decode prog_10_method_38_code 8 = .ok (.iconst 1, 1) := by decide +kernel
theorem dMo_fine_9 : decode prog_10_method_38_code 9 = .ok (.goto 4, 3) := by decide +kernel
theorem dMo_fine_12 : decode prog_10_method_38_code 12 = .ok (.iconst 0, 1) := by decide +kernel
theorem dMo_fine_13 : decode prog_10_method_38_code 13 = .ok (.ireturn, 1) := by decide +kernel
theorem dMo_faults_0 : decode prog_10_method_39_code 0 = .ok (.aload_n 0, 1) := by decide +kernel
theorem dMo_faults_1 : decode prog_10_method_39_code 1 = .ok (.invokevirtual 197, 3) := by decide +kernel
theorem dMo_faults_4 : decode prog_10_method_39_code 4 = .ok (.ifCond .eq 16, 3) := by decide +kernel
theorem dMo_faults_7 : decode prog_10_method_39_code 7 = .ok (.aload_n 0, 1) := by decide +kernel
theorem dMo_faults_8 : decode prog_10_method_39_code 8 = .ok (.aload_n 0, 1) := by decide +kernel
theorem dMo_faults_9 : decode prog_10_method_39_code 9 = .ok (.getfield 60, 3) := by decide +kernel
theorem dMo_faults_12 : decode prog_10_method_39_code 12 = .ok (.aload_n 0, 1) := by decide +kernel
theorem dMo_faults_13 : decode prog_10_method_39_code 13 = .ok (.getfield 201, 3) := by decide +kernel
theorem dMo_faults_16 : decode prog_10_method_39_code 16 = .ok (.iaload, 1) := by decide +kernel
theorem dMo_faults_17 : decode prog_10_method_39_code 17 = .ok (.putfield 194, 3) := by decide +kernel
theorem dMo_faults_20 : decode prog_10_method_39_code 20 = .ok (.return_, 1) := by decide +kernel
theorem dMo_takes0_0 : decode prog_10_method_40_code 0 = .ok (.aload_n 0, 1) := by decide +kernel
theorem dMo_takes0_1 : decode prog_10_method_40_code 1 = .ok (.invokevirtual 197, 3) := by decide +kernel
theorem dMo_takes0_4 : decode prog_10_method_40_code 4 = .ok (.ifCond .eq 20, 3) := by decide +kernel
theorem dMo_takes0_7 : decode prog_10_method_40_code 7 = .ok (.aload_n 0, 1) := by decide +kernel
theorem dMo_takes0_8 : decode prog_10_method_40_code 8 = .ok (.getfield 54, 3) := by decide +kernel
theorem dMo_takes0_11 : decode prog_10_method_40_code 11 = .ok (.aload_n 0, 1) := by decide +kernel
theorem dMo_takes0_12 : decode prog_10_method_40_code 12 = .ok (.getfield 201, 3) := by decide +kernel
theorem dMo_takes0_15 : decode prog_10_method_40_code 15 = .ok (.iaload, 1) := by decide +kernel
theorem dMo_takes0_16 : decode prog_10_method_40_code 16 = .ok (.iload_n 1, 1) := by decide +kernel
theorem dMo_takes0_17 : decode prog_10_method_40_code 17 = .ok (.if_icmp .ne 7, 3) := by decide +kernel
theorem dMo_takes0_20 : decode prog_10_method_40_code 20 = .ok (.iconst 1, 1) := by decide +kernel
theorem dMo_takes0_21 : decode prog_10_method_40_code 21 = .ok (.goto 4, 3) := by decide +kernel
theorem dMo_takes0_24 : decode prog_10_method_40_code 24 = .ok (.iconst 0, 1) := by decide +kernel
theorem dMo_takes0_25 : decode prog_10_method_40_code 25 = .ok (.istore_n 2, 1) := by decide +kernel
theorem dMo_takes0_26 : decode prog_10_method_40_code 26 = .ok (.iload_n 2, 1) := by decide +kernel
theorem dMo_takes0_27 : decode prog_10_method_40_code 27 = .ok (.ifCond .eq 13, 3) := by decide +kernel
theorem dMo_takes0_30 : decode prog_10_method_40_code 30 = .ok (.aload_n 0, 1) := by decide +kernel
theorem dMo_takes0_31 : decode prog_10_method_40_code 31 = .ok (.dup, 1) := by decide +kernel
theorem dMo_takes0_32 : decode prog_10_method_40_code 32 = .ok (.getfield 201, 3) := by decide +kernel
theorem dMo_takes0_35 : decode prog_10_method_40_code 35 = .ok (.iconst 1, 1) := by decide +kernel
theorem dMo_takes0_36 : decode prog_10_method_40_code 36 = .ok (.iadd, 1) := by decide +kernel
theorem dMo_takes0_37 : decode prog_10_method_40_code 37 = .ok (.putfield 201, 3) := by decide +kernel
theorem dMo_takes0_40 : decode prog_10_method_40_code 40 = .ok (.iload_n 2, 1) := by decide +kernel
theorem dMo_takes0_41 : decode prog_10_method_40_code 41 = .ok (.ireturn, 1) := by decide +kernel
theorem dMo_must_0 : decode prog_10_method_41_code 0 = .ok (.aload_n 0, 1) := by decide +kernel
theorem dMo_must_1 : decode prog_10_method_41_code 1 = .ok (.iload_n 1, 1) := by decide +kernel
theorem dMo_must_2 : decode prog_10_method_41_code 2 = .ok (.invokevirtual 204, 3) := by decide +kernel
theorem dMo_must_5 : decode prog_10_method_41_code 5 = .ok (.ifCond .ne 7, 3) := by decide +kernel
theorem dMo_must_8 : decode prog_10_method_41_code 8 = .ok (.aload_n 0, 1) := by decide +kernel
theorem dMo_must_9 : decode prog_10_method_41_code 9 = .ok (.invokevirtual 207, 3) := by decide +kernel
theorem dMo_must_12 : decode prog_10_method_41_code 12 = .ok (.return_, 1) := by decide +kernel
theorem dMo_leaf_0 : decode prog_10_method_42_code 0 = .ok (.aload_n 0, 1) := by decide +kernel
theorem dMo_leaf_1 : decode prog_10_method_42_code 1 = .ok (.getfield 210, 3) := by decide +kernel
theorem dMo_leaf_4 : decode prog_10_method_42_code 4 = .ok (.bipush 50, 2) := by decide +kernel
theorem dMo_leaf_6 : decode prog_10_method_42_code 6 = .ok (.if_icmp .ne 7, 3) := by decide +kernel
theorem dMo_leaf_9 : decode prog_10_method_42_code 9 = .ok (.aload_n 0, 1) := by decide +kernel
theorem dMo_leaf_10 : decode prog_10_method_42_code 10 = .ok (.invokevirtual 207, 3) := by decide +kernel
theorem dMo_leaf_13 : decode prog_10_method_42_code 13 = .ok (.aload_n 0, 1) := by decide +kernel
theorem dMo_leaf_14 : decode prog_10_method_42_code 14 = .ok (.dup, 1) := by decide +kernel
theorem dMo_leaf_15 : decode prog_10_method_42_code 15 = .ok (.getfield 210, 3) := by decide +kernel
theorem dMo_leaf_18 : decode prog_10_method_42_code 18 = .ok (.iconst 1, 1) := by decide +kernel
theorem dMo_leaf_19 : decode prog_10_method_42_code 19 = .ok (.iadd, 1) := by decide +kernel
theorem dMo_leaf_20 : decode prog_10_method_42_code 20 = .ok (.putfield 210, 3) := by decide +kernel
theorem dMo_leaf_23 : decode prog_10_method_42_code 23 = .ok (.aload_n 0, 1) := by decide +kernel
theorem dMo_leaf_24 : decode prog_10_method_42_code 24 = .ok (.invokevirtual 197, 3) := by decide +kernel
theorem dMo_leaf_27 : decode prog_10_method_42_code 27 = .ok (.ifCond .eq 13, 3) := by decide +kernel
theorem dMo_leaf_30 : decode prog_10_method_42_code 30 = .ok (.aload_n 0, 1) := by decide +kernel
theorem dMo_leaf_31 : decode prog_10_method_42_code 31 = .ok (.dup, 1) := by decide +kernel
theorem dMo_leaf_32 : decode prog_10_method_42_code 32 = .ok (.getfield 201, 3) := by decide +kernel
theorem dMo_leaf_35 : decode prog_10_method_42_code 35 = .ok (.iconst 1, 1) := by decide +kernel
theorem dMo_leaf_36 : decode prog_10_method_42_code 36 = .ok (.iadd, 1) := by decide +kernel
theorem dMo_leaf_37 : decode prog_10_method_42_code 37 = .ok (.putfield 201, 3) := by decide +kernel
theorem dMo_leaf_40 : decode prog_10_method_42_code 40 = .ok (.return_, 1) := by decide +kernel
theorem dMo_sign_0 : decode prog_10_method_43_code 0 = .ok (.bipush 100, 2) := by decide +kernel
theorem dMo_sign_2 : decode prog_10_method_43_code 2 = .ok (.iload_n 0, 1) := by decide +kernel
theorem dMo_sign_3 : decode prog_10_method_43_code 3 = .ok (.iadd, 1) := by decide +kernel
theorem dMo_sign_4 : decode prog_10_method_43_code 4 = .ok (.ireturn, 1) := by decide +kernel
theorem dMo_mustNumber_0 : decode prog_10_method_44_code 0 = .ok (.aload_n 0, 1) := by decide +kernel
theorem dMo_mustNumber_1 : decode prog_10_method_44_code 1 = .ok (.invokevirtual 197, 3) := by decide +kernel
theorem dMo_mustNumber_4 : decode prog_10_method_44_code 4 = .ok (.ifCond .eq 38, 3) := by decide +kernel
theorem dMo_mustNumber_7 : decode prog_10_method_44_code 7 = .ok (.aload_n 0, 1) := by decide +kernel
theorem dMo_mustNumber_8 : decode prog_10_method_44_code 8 = .ok (.getfield 54, 3) := by decide +kernel
theorem dMo_mustNumber_11 : decode prog_10_method_44_code 11 = .ok (.aload_n 0, 1) := by decide +kernel
theorem dMo_mustNumber_12 : decode prog_10_method_44_code 12 = .ok (.getfield 201, 3) := by decide +kernel
theorem dMo_mustNumber_15 : decode prog_10_method_44_code 15 = .ok (.iaload, 1) := by decide +kernel
theorem dMo_mustNumber_16 : decode prog_10_method_44_code 16 = .ok (.bipush 50, 2) := by decide +kernel
theorem dMo_mustNumber_18 : decode prog_10_method_44_code 18 = .ok (.if_icmp .ne 20, 3) := by decide +kernel
theorem dMo_mustNumber_21 : decode prog_10_method_44_code 21 = .ok (.aload_n 0, 1) := by decide +kernel
theorem dMo_mustNumber_22 : decode prog_10_method_44_code 22 = .ok (.getfield 57, 3) := by decide +kernel
theorem dMo_mustNumber_25 : decode prog_10_method_44_code 25 = .ok (.aload_n 0, 1) := by decide +kernel
theorem dMo_mustNumber_26 : decode prog_10_method_44_code 26 = .ok (.getfield 201, 3) := by decide +kernel
theorem dMo_mustNumber_29 : decode prog_10_method_44_code 29 = .ok (.iaload, 1) := by decide +kernel
theorem dMo_mustNumber_30 : decode prog_10_method_44_code 30 = .ok (.iload_n 1, 1) := by decide +kernel
theorem dMo_mustNumber_31 : decode prog_10_method_44_code 31 = .ok (.iload_n 2, 1) := by decide +kernel
theorem dMo_mustNumber_32 : decode prog_10_method_44_code 32 = .ok (.invokestatic 18, 3) := by decide +kernel
theorem dMo_mustNumber_35 : decode prog_10_method_44_code 35 = .ok (.ifCond .ne 7, 3) := by decide +kernel
theorem dMo_mustNumber_38 : decode prog_10_method_44_code 38 = .ok (.aload_n 0, 1) := by decide +kernel
theorem dMo_mustNumber_39 : decode prog_10_method_44_code 39 = .ok (.invokevirtual 207, 3) := by decide +kernel
theorem dMo_mustNumber_42 : decode prog_10_method_44_code 42 = .ok (.aload_n 0, 1) := by decide +kernel
theorem dMo_mustNumber_43 : decode prog_10_method_44_code 43 = .ok (.invokevirtual 197, 3) := by decide +kernel
theorem dMo_mustNumber_46 : decode prog_10_method_44_code 46 = .ok (.ifCond .eq 13, 3) := by decide +kernel
theorem dMo_mustNumber_49 : decode prog_10_method_44_code 49 = .ok (.aload_n 0, 1) := by decide +kernel
theorem dMo_mustNumber_50 : decode prog_10_method_44_code 50 = .ok (.dup, 1) := by decide +kernel
theorem dMo_mustNumber_51 : decode prog_10_method_44_code 51 = .ok (.getfield 201, 3) := by decide +kernel
theorem dMo_mustNumber_54 : decode prog_10_method_44_code 54 = .ok (.iconst 1, 1) := by decide +kernel
theorem dMo_mustNumber_55 : decode prog_10_method_44_code 55 = .ok (.iadd, 1) := by decide +kernel
theorem dMo_mustNumber_56 : decode prog_10_method_44_code 56 = .ok (.putfield 201, 3) := by decide +kernel
theorem dMo_mustNumber_59 : decode prog_10_method_44_code 59 = .ok (.return_, 1) := by decide +kernel
theorem dMo_readPart_0 : decode prog_10_method_54_code 0 = .ok (.aload_n 0, 1) := by decide +kernel
theorem dMo_readPart_1 : decode prog_10_method_54_code 1 = .ok (.invokevirtual 197, 3) := by decide +kernel
theorem dMo_readPart_4 : decode prog_10_method_54_code 4 = .ok (.ifCond .ne 4, 3) := by decide +kernel
theorem dMo_readPart_7 : decode prog_10_method_54_code 7 = .ok (.return_, 1) := by decide +kernel
theorem dMo_readPart_8 : decode prog_10_method_54_code 8 = .ok (.aload_n 0, 1) := by decide +kernel
theorem dMo_readPart_9 : decode prog_10_method_54_code 9 = .ok (.getfield 54, 3) := by decide +kernel
theorem dMo_readPart_12 : decode prog_10_method_54_code 12 = .ok (.aload_n 0, 1) := by decide +kernel
theorem dMo_readPart_13 : decode prog_10_method_54_code 13 = .ok (.getfield 201, 3) := by decide +kernel
theorem dMo_readPart_16 : decode prog_10_method_54_code 16 = .ok (.iaload, 1) := by decide +kernel
theorem dMo_readPart_17 : decode prog_10_method_54_code 17 = .ok (.istore_n 2, 1) := by decide +kernel
theorem dMo_readPart_18 : decode prog_10_method_54_code 18 = .ok (.iload_n 2, 1) := by decide +kernel
theorem dMo_readPart_19 : decode prog_10_method_54_code 19 = .ok (.bipush 91, 2) := by decide +kernel
theorem dMo_readPart_21 : decode prog_10_method_54_code 21 = .ok (.invokestatic 245, 3) := by decide +kernel
theorem dMo_readPart_24 : decode prog_10_method_54_code 24 = .ok (.if_icmp .ne 50, 3) := by decide +kernel
theorem dMo_readPart_27 : decode prog_10_method_54_code 27 = .ok (.iload_n 1, 1) := by decide +kernel
theorem dMo_readPart_28 : decode prog_10_method_54_code 28 = .ok (.bipush 8, 2) := by decide +kernel
theorem dMo_readPart_30 : decode prog_10_method_54_code 30 = .ok (.if_icmp .ne 7, 3) := by decide +kernel
theorem dMo_readPart_33 : decode prog_10_method_54_code 33 = .ok (.aload_n 0, 1) := by decide +kernel
theorem dMo_readPart_34 : decode prog_10_method_54_code 34 = .ok (.invokevirtual 207, 3) := by decide +kernel
theorem dMo_readPart_37 : decode prog_10_method_54_code 37 = .ok (.aload_n 0, 1) := by decide +kernel
theorem dMo_readPart_38 : decode prog_10_method_54_code 38 = .ok (.invokevirtual 197, 3) := by decide +kernel
theorem dMo_readPart_41 : decode prog_10_method_54_code 41 = .ok (.ifCond .ne 4, 3) := by decide +kernel
theorem dMo_readPart_44 : decode prog_10_method_54_code 44 = .ok (.return_, 1) := by decide +kernel
theorem dMo_readPart_45 : decode prog_10_method_54_code 45 = .ok (.aload_n 0, 1) := by decide +kernel
theorem dMo_readPart_46 : decode prog_10_method_54_code 46 = .ok (.dup, 1) := by decide +kernel
theorem dMo_readPart_47 : decode prog_10_method_54_code 47 = .ok (.getfield 201, 3) := by decide +kernel
theorem dMo_readPart_50 : decode prog_10_method_54_code 50 = .ok (.iconst 1, 1) := by decide +kernel
theorem dMo_readPart_51 : decode prog_10_method_54_code 51 = .ok (.iadd, 1) := by decide +kernel
theorem dMo_readPart_52 : decode prog_10_method_54_code 52 = .ok (.putfield 201, 3) := by decide +kernel
theorem dMo_readPart_55 : decode prog_10_method_54_code 55 = .ok (.aload_n 0, 1) := by decide +kernel
theorem dMo_readPart_56 : decode prog_10_method_54_code 56 = .ok (.iload_n 1, 1) := by decide +kernel
theorem dMo_readPart_57 : decode prog_10_method_54_code 57 = .ok (.iconst 1, 1) := by decide +kernel
theorem dMo_readPart_58 : decode prog_10_method_54_code 58 = .ok (.iadd, 1) := by decide +kernel
theorem dMo_readPart_59 : decode prog_10_method_54_code 59 = .ok (.invokevirtual 213, 3) := by decide +kernel
theorem dMo_readPart_62 : decode prog_10_method_54_code 62 = .ok (.aload_n 0, 1) := by decide +kernel
theorem dMo_readPart_63 : decode prog_10_method_54_code 63 = .ok (.bipush 93, 2) := by decide +kernel
theorem dMo_readPart_65 : decode prog_10_method_54_code 65 = .ok (.invokestatic 245, 3) := by decide +kernel
theorem dMo_readPart_68 : decode prog_10_method_54_code 68 = .ok (.invokevirtual 217, 3) := by decide +kernel
theorem dMo_readPart_71 : decode prog_10_method_54_code 71 = .ok (.goto 77, 3) := by decide +kernel
theorem dMo_readPart_74 : decode prog_10_method_54_code 74 = .ok (.iload_n 2, 1) := by decide +kernel
theorem dMo_readPart_75 : decode prog_10_method_54_code 75 = .ok (.bipush 50, 2) := by decide +kernel
theorem dMo_readPart_77 : decode prog_10_method_54_code 77 = .ok (.if_icmp .ne 18, 3) := by decide +kernel
theorem dMo_readPart_80 : decode prog_10_method_54_code 80 = .ok (.aload_n 0, 1) := by decide +kernel
theorem dMo_readPart_81 : decode prog_10_method_54_code 81 = .ok (.getfield 57, 3) := by decide +kernel
theorem dMo_readPart_84 : decode prog_10_method_54_code 84 = .ok (.aload_n 0, 1) := by decide +kernel
theorem dMo_readPart_85 : decode prog_10_method_54_code 85 = .ok (.getfield 201, 3) := by decide +kernel
theorem dMo_readPart_88 : decode prog_10_method_54_code 88 = .ok (.iaload, 1) := by decide +kernel
theorem dMo_readPart_89 : decode prog_10_method_54_code 89 = .ok (.sipush 1000, 3) := by decide +kernel
theorem dMo_readPart_92 : decode prog_10_method_54_code 92 = .ok (.if_icmp .le 19, 3) := by decide +kernel
theorem dMo_readPart_95 : decode prog_10_method_54_code 95 = .ok (.iload_n 2, 1) := by decide +kernel
theorem dMo_readPart_96 : decode prog_10_method_54_code 96 = .ok (.aload_n 0, 1) := by decide +kernel
theorem dMo_readPart_97 : decode prog_10_method_54_code 97 = .ok (.getfield 255, 3) := by decide +kernel
theorem dMo_readPart_100 : decode prog_10_method_54_code 100 = .ok (.if_icmp .lt 44, 3) := by decide +kernel
theorem dMo_readPart_103 : decode prog_10_method_54_code 103 = .ok (.iload_n 2, 1) := by decide +kernel
theorem dMo_readPart_104 : decode prog_10_method_54_code 104 = .ok (.aload_n 0, 1) := by decide +kernel
theorem dMo_readPart_105 : decode prog_10_method_54_code 105 = .ok (.getfield 258, 3) := by decide +kernel
theorem dMo_readPart_108 : decode prog_10_method_54_code 108 = .ok (.if_icmp .gt 36, 3) := by decide +kernel
theorem dMo_readPart_111 : decode prog_10_method_54_code 111 = .ok (.aload_n 0, 1) := by decide +kernel
theorem dMo_readPart_112 : decode prog_10_method_54_code 112 = .ok (.invokevirtual 261, 3) := by decide +kernel
theorem dMo_readPart_115 : decode prog_10_method_54_code 115 = .ok (.aload_n 0, 1) := by decide +kernel
theorem dMo_readPart_116 : decode prog_10_method_54_code 116 = .ok (.getfield 229, 3) := by decide +kernel
theorem dMo_readPart_119 : decode prog_10_method_54_code 119 = .ok (.ifCond .eq 29, 3) := by decide +kernel
theorem dMo_readPart_122 : decode prog_10_method_54_code 122 = .ok (.iload_n 2, 1) := by decide +kernel
theorem dMo_readPart_123 : decode prog_10_method_54_code 123 = .ok (.bipush 14, 2) := by decide +kernel
theorem dMo_readPart_125 : decode prog_10_method_54_code 125 = .ok (.if_icmp .eq 9, 3) := by decide +kernel
theorem dMo_readPart_128 : decode prog_10_method_54_code 128 = .ok (.iload_n 2, 1) := by decide +kernel
theorem dMo_readPart_129 : decode prog_10_method_54_code 129 = .ok (.bipush 20, 2) := by decide +kernel
theorem dMo_readPart_131 : decode prog_10_method_54_code 131 = .ok (.if_icmp .ne 17, 3) := by decide +kernel
theorem dMo_readPart_134 : decode prog_10_method_54_code 134 = .ok (.aload_n 0, 1) := by decide +kernel
theorem dMo_readPart_135 : decode prog_10_method_54_code 135 = .ok (.iconst 0, 1) := by decide +kernel
theorem dMo_readPart_136 : decode prog_10_method_54_code 136 = .ok (.bipush 6, 2) := by decide +kernel
theorem dMo_readPart_138 : decode prog_10_method_54_code 138 = .ok (.invokevirtual 226, 3) := by decide +kernel
theorem dMo_readPart_141 : decode prog_10_method_54_code 141 = .ok (.goto 7, 3) := by decide +kernel
theorem dMo_readPart_144 : decode prog_10_method_54_code 144 = .ok (.aload_n 0, 1) := by decide +kernel
theorem dMo_readPart_145 : decode prog_10_method_54_code 145 = .ok (.invokevirtual 207, 3) := by decide +kernel
theorem dMo_readPart_148 : decode prog_10_method_54_code 148 = .ok (.return_, 1) := by decide +kernel
theorem dMo_lays_0 : decode prog_10_method_57_code 0 = .ok (.aload_n 0, 1) := by decide +kernel
theorem dMo_lays_1 : decode prog_10_method_57_code 1 = .ok (.getfield 28, 3) := by decide +kernel
theorem dMo_lays_4 : decode prog_10_method_57_code 4 = .ok (.bipush 47, 2) := by decide +kernel
theorem dMo_lays_6 : decode prog_10_method_57_code 6 = .ok (.iload_n 1, 1) := by decide +kernel
theorem dMo_lays_7 : decode prog_10_method_57_code 7 = .ok (.iadd, 1) := by decide +kernel
theorem dMo_lays_8 : decode prog_10_method_57_code 8 = .ok (.aload_n 0, 1) := by decide +kernel
theorem dMo_lays_9 : decode prog_10_method_57_code 9 = .ok (.getfield 181, 3) := by decide +kernel
theorem dMo_lays_12 : decode prog_10_method_57_code 12 = .ok (.iastore, 1) := by decide +kernel
theorem dMo_lays_13 : decode prog_10_method_57_code 13 = .ok (.iconst 0, 1) := by decide +kernel
theorem dMo_lays_14 : decode prog_10_method_57_code 14 = .ok (.istore_n 2, 1) := by decide +kernel
theorem dMo_lays_15 : decode prog_10_method_57_code 15 = .ok (.iload_n 2, 1) := by decide +kernel
theorem dMo_lays_16 : decode prog_10_method_57_code 16 = .ok (.aload_n 0, 1) := by decide +kernel
theorem dMo_lays_17 : decode prog_10_method_57_code 17 = .ok (.getfield 181, 3) := by decide +kernel
theorem dMo_lays_20 : decode prog_10_method_57_code 20 = .ok (.if_icmp .ge 52, 3) := by decide +kernel
theorem dMo_lays_23 : decode prog_10_method_57_code 23 = .ok (.aload_n 0, 1) := by decide +kernel
theorem dMo_lays_24 : decode prog_10_method_57_code 24 = .ok (.getfield 28, 3) := by decide +kernel
theorem dMo_lays_27 : decode prog_10_method_57_code 27 = .ok (.bipush 54, 2) := by decide +kernel
theorem dMo_lays_29 : decode prog_10_method_57_code 29 = .ok (.sipush 400, 3) := by decide +kernel
theorem dMo_lays_32 : decode prog_10_method_57_code 32 = .ok (.iload_n 1, 1) := by decide +kernel
theorem dMo_lays_33 : decode prog_10_method_57_code 33 = .ok (.imul, 1) := by decide +kernel
theorem dMo_lays_34 : decode prog_10_method_57_code 34 = .ok (.iadd, 1) := by decide +kernel
theorem dMo_lays_35 : decode prog_10_method_57_code 35 = .ok (.iload_n 2, 1) := by decide +kernel
theorem dMo_lays_36 : decode prog_10_method_57_code 36 = .ok (.iadd, 1) := by decide +kernel
theorem dMo_lays_37 : decode prog_10_method_57_code 37 = .ok (.aload_n 0, 1) := by decide +kernel
theorem dMo_lays_38 : decode prog_10_method_57_code 38 = .ok (.getfield 54, 3) := by decide +kernel
theorem dMo_lays_41 : decode prog_10_method_57_code 41 = .ok (.iload_n 2, 1) := by decide +kernel
theorem dMo_lays_42 : decode prog_10_method_57_code 42 = .ok (.iaload, 1) := by decide +kernel
theorem dMo_lays_43 : decode prog_10_method_57_code 43 = .ok (.iastore, 1) := by decide +kernel
theorem dMo_lays_44 : decode prog_10_method_57_code 44 = .ok (.aload_n 0, 1) := by decide +kernel
theorem dMo_lays_45 : decode prog_10_method_57_code 45 = .ok (.getfield 28, 3) := by decide +kernel
theorem dMo_lays_48 : decode prog_10_method_57_code 48 = .ok (.sipush 2854, 3) := by decide +kernel
theorem dMo_lays_51 : decode prog_10_method_57_code 51 = .ok (.sipush 400, 3) := by decide +kernel
theorem dMo_lays_54 : decode prog_10_method_57_code 54 = .ok (.iload_n 1, 1) := by decide +kernel
theorem dMo_lays_55 : decode prog_10_method_57_code 55 = .ok (.imul, 1) := by decide +kernel
theorem dMo_lays_56 : decode prog_10_method_57_code 56 = .ok (.iadd, 1) := by decide +kernel
theorem dMo_lays_57 : decode prog_10_method_57_code 57 = .ok (.iload_n 2, 1) := by decide +kernel
theorem dMo_lays_58 : decode prog_10_method_57_code 58 = .ok (.iadd, 1) := by decide +kernel
theorem dMo_lays_59 : decode prog_10_method_57_code 59 = .ok (.aload_n 0, 1) := by decide +kernel
theorem dMo_lays_60 : decode prog_10_method_57_code 60 = .ok (.getfield 57, 3) := by decide +kernel
theorem dMo_lays_63 : decode prog_10_method_57_code 63 = .ok (.iload_n 2, 1) := by decide +kernel
theorem dMo_lays_64 : decode prog_10_method_57_code 64 = .ok (.iaload, 1) := by decide +kernel
theorem dMo_lays_65 : decode prog_10_method_57_code 65 = .ok (.iastore, 1) := by decide +kernel
theorem dMo_lays_66 : decode prog_10_method_57_code 66 = .ok (.iinc 2 1, 3) := by decide +kernel
theorem dMo_lays_69 : decode prog_10_method_57_code 69 = .ok (.goto (-54), 3) := by decide +kernel
theorem dMo_lays_72 : decode prog_10_method_57_code 72 = .ok (.return_, 1) := by decide +kernel
theorem dMo_fault_0 : decode prog_10_method_59_code 0 = .ok (.aload_n 0, 1) := by decide +kernel
theorem dMo_fault_1 : decode prog_10_method_59_code 1 = .ok (.getfield 51, 3) := by decide +kernel
theorem dMo_fault_4 : decode prog_10_method_59_code 4 = .ok (.ireturn, 1) := by decide +kernel
theorem dMo_isLaw_0 : decode prog_10_method_60_code 0 = .ok (.iload_n 1, 1) := by decide +kernel
theorem dMo_isLaw_1 : decode prog_10_method_60_code 1 = .ok (.iconst (-1), 1) := by decide +kernel
theorem dMo_isLaw_2 : decode prog_10_method_60_code 2 = .ok (.aload_n 0, 1) := by decide +kernel
theorem dMo_isLaw_3 : decode prog_10_method_60_code 3 = .ok (.getfield 28, 3) := by decide +kernel
theorem dMo_isLaw_6 : decode prog_10_method_60_code 6 = .ok (.bipush 45, 2) := by decide +kernel
theorem dMo_isLaw_8 : decode prog_10_method_60_code 8 = .ok (.iaload, 1) := by decide +kernel
theorem dMo_isLaw_9 : decode prog_10_method_60_code 9 = .ok (.iconst 1, 1) := by decide +kernel
theorem dMo_isLaw_10 : decode prog_10_method_60_code 10 = .ok (.isub, 1) := by decide +kernel
theorem dMo_isLaw_11 : decode prog_10_method_60_code 11 = .ok (.invokestatic 18, 3) := by decide +kernel
theorem dMo_isLaw_14 : decode prog_10_method_60_code 14 = .ok (.ireturn, 1) := by decide +kernel
theorem dMo_force_0 : decode prog_10_method_61_code 0 = .ok (.aload_n 0, 1) := by decide +kernel
theorem dMo_force_1 : decode prog_10_method_61_code 1 = .ok (.iload_n 1, 1) := by decide +kernel
theorem dMo_force_2 : decode prog_10_method_61_code 2 = .ok (.invokevirtual 280, 3) := by decide +kernel
theorem dMo_force_5 : decode prog_10_method_61_code 5 = .ok (.ifCond .ne 10, 3) := by decide +kernel
theorem dMo_force_8 : decode prog_10_method_61_code 8 = .ok (.aload_n 0, 1) := by decide +kernel
theorem dMo_force_9 : decode prog_10_method_61_code 9 = .ok (.bipush (-2), 2) := by decide +kernel
theorem dMo_force_11 : decode prog_10_method_61_code 11 = .ok (.invokevirtual 113, 3) := by decide +kernel
theorem dMo_force_14 : decode prog_10_method_61_code 14 = .ok (.ireturn, 1) := by decide +kernel
theorem dMo_force_15 : decode prog_10_method_61_code 15 = .ok (.aload_n 0, 1) := by decide +kernel
theorem dMo_force_16 : decode prog_10_method_61_code 16 = .ok (.getfield 28, 3) := by decide +kernel
theorem dMo_force_19 : decode prog_10_method_61_code 19 = .ok (.bipush 46, 2) := by decide +kernel
theorem dMo_force_21 : decode prog_10_method_61_code 21 = .ok (.iaload, 1) := by decide +kernel
theorem dMo_force_22 : decode prog_10_method_61_code 22 = .ok (.istore_n 2, 1) := by decide +kernel
theorem dMo_force_23 : decode prog_10_method_61_code 23 = .ok (.aload_n 0, 1) := by decide +kernel
theorem dMo_force_24 : decode prog_10_method_61_code 24 = .ok (.getfield 28, 3) := by decide +kernel
theorem dMo_force_27 : decode prog_10_method_61_code 27 = .ok (.bipush 46, 2) := by decide +kernel
theorem dMo_force_29 : decode prog_10_method_61_code 29 = .ok (.iload_n 1, 1) := by decide +kernel
theorem dMo_force_30 : decode prog_10_method_61_code 30 = .ok (.iastore, 1) := by decide +kernel
theorem dMo_force_31 : decode prog_10_method_61_code 31 = .ok (.aload_n 0, 1) := by decide +kernel
theorem dMo_force_32 : decode prog_10_method_61_code 32 = .ok (.iload_n 2, 1) := by decide +kernel
theorem dMo_force_33 : decode prog_10_method_61_code 33 = .ok (.invokevirtual 14, 3) := by decide +kernel
theorem dMo_force_36 : decode prog_10_method_61_code 36 = .ok (.ireturn, 1) := by decide +kernel
theorem dMo_codeAt_0 : decode prog_10_method_62_code 0 = .ok (.iload_n 1, 1) := by decide +kernel
theorem dMo_codeAt_1 : decode prog_10_method_62_code 1 = .ok (.aload_n 0, 1) := by decide +kernel
theorem dMo_codeAt_2 : decode prog_10_method_62_code 2 = .ok (.getfield 283, 3) := by decide +kernel
theorem dMo_codeAt_5 : decode prog_10_method_62_code 5 = .ok (.if_icmp .ge 15, 3) := by decide +kernel
theorem dMo_codeAt_8 : decode prog_10_method_62_code 8 = .ok (.aload_n 0, 1) := by decide +kernel
theorem dMo_codeAt_9 : decode prog_10_method_62_code 9 = .ok (.getfield 28, 3) := by decide +kernel
theorem dMo_codeAt_12 : decode prog_10_method_62_code 12 = .ok (.bipush 54, 2) := by decide +kernel
theorem dMo_codeAt_14 : decode prog_10_method_62_code 14 = .ok (.iload_n 1, 1) := by decide +kernel
theorem dMo_codeAt_15 : decode prog_10_method_62_code 15 = .ok (.iadd, 1) := by decide +kernel
theorem dMo_codeAt_16 : decode prog_10_method_62_code 16 = .ok (.iaload, 1) := by decide +kernel
theorem dMo_codeAt_17 : decode prog_10_method_62_code 17 = .ok (.goto 4, 3) := by decide +kernel
theorem dMo_codeAt_20 : decode prog_10_method_62_code 20 = .ok (.iconst 0, 1) := by decide +kernel
theorem dMo_codeAt_21 : decode prog_10_method_62_code 21 = .ok (.ireturn, 1) := by decide +kernel
theorem dMo_passes0_0 : decode prog_10_method_63_code 0 = .ok (.aload_n 0, 1) := by decide +kernel
theorem dMo_passes0_1 : decode prog_10_method_63_code 1 = .ok (.aload_n 0, 1) := by decide +kernel
theorem dMo_passes0_2 : decode prog_10_method_63_code 2 = .ok (.getfield 286, 3) := by decide +kernel
theorem dMo_passes0_5 : decode prog_10_method_63_code 5 = .ok (.invokevirtual 289, 3) := by decide +kernel
theorem dMo_passes0_8 : decode prog_10_method_63_code 8 = .ok (.iload_n 1, 1) := by decide +kernel
theorem dMo_passes0_9 : decode prog_10_method_63_code 9 = .ok (.if_icmp .ne 7, 3) := by decide +kernel
theorem dMo_passes0_12 : decode prog_10_method_63_code 12 = .ok (.iconst 1, 1) := by decide +kernel
theorem dMo_passes0_13 : decode prog_10_method_63_code 13 = .ok (.goto 4, 3) := by decide +kernel
theorem dMo_passes0_16 : decode prog_10_method_63_code 16 = .ok (.iconst 0, 1) := by decide +kernel
theorem dMo_passes0_17 : decode prog_10_method_63_code 17 = .ok (.istore_n 2, 1) := by decide +kernel
theorem dMo_passes0_18 : decode prog_10_method_63_code 18 = .ok (.iload_n 2, 1) := by decide +kernel
theorem dMo_passes0_19 : decode prog_10_method_63_code 19 = .ok (.ifCond .eq 13, 3) := by decide +kernel
theorem dMo_passes0_22 : decode prog_10_method_63_code 22 = .ok (.aload_n 0, 1) := by decide +kernel
theorem dMo_passes0_23 : decode prog_10_method_63_code 23 = .ok (.dup, 1) := by decide +kernel
theorem dMo_passes0_24 : decode prog_10_method_63_code 24 = .ok (.getfield 286, 3) := by decide +kernel
theorem dMo_passes0_27 : decode prog_10_method_63_code 27 = .ok (.iconst 1, 1) := by decide +kernel
theorem dMo_passes0_28 : decode prog_10_method_63_code 28 = .ok (.iadd, 1) := by decide +kernel
theorem dMo_passes0_29 : decode prog_10_method_63_code 29 = .ok (.putfield 286, 3) := by decide +kernel
theorem dMo_passes0_32 : decode prog_10_method_63_code 32 = .ok (.iload_n 2, 1) := by decide +kernel
theorem dMo_passes0_33 : decode prog_10_method_63_code 33 = .ok (.ireturn, 1) := by decide +kernel
theorem dMo_bounded_0 : decode prog_10_method_64_code 0 = .ok (.iload_n 3, 1) := by decide +kernel
theorem dMo_bounded_1 : decode prog_10_method_64_code 1 = .ok (.ifCond .eq 24, 3) := by decide +kernel
theorem dMo_bounded_4 : decode prog_10_method_64_code 4 = .ok (.lload_n 1, 1) := by decide +kernel
theorem dMo_bounded_5 : decode prog_10_method_64_code 5 = .ok (.ldc2_w 292, 3) := by decide +kernel
theorem dMo_bounded_8 : decode prog_10_method_64_code 8 = .ok (.lcmp, 1) := by decide +kernel
theorem dMo_bounded_9 : decode prog_10_method_64_code 9 = .ok (.ifCond .gt 11, 3) := by decide +kernel
theorem dMo_bounded_12 : decode prog_10_method_64_code 12 = .ok (.lload_n 1, 1) := by decide +kernel
theorem dMo_bounded_13 : decode prog_10_method_64_code 13 = .ok (.ldc2_w 294, 3) := by decide +kernel
theorem dMo_bounded_16 : decode prog_10_method_64_code 16 = .ok (.lcmp, 1) := by decide +kernel
theorem dMo_bounded_17 : decode prog_10_method_64_code 17 = .ok (.ifCond .ge 8, 3) := by decide +kernel
theorem dMo_bounded_20 : decode prog_10_method_64_code 20 = .ok (.aload_n 0, 1) := by decide +kernel
theorem dMo_bounded_21 : decode prog_10_method_64_code 21 = .ok (.iconst 1, 1) := by decide +kernel
theorem dMo_bounded_22 : decode prog_10_method_64_code 22 = .ok (.putfield 296, 3) := by decide +kernel
theorem dMo_bounded_25 : decode prog_10_method_64_code 25 = .ok (.aload_n 0, 1) := by decide +kernel
theorem dMo_bounded_26 : decode prog_10_method_64_code 26 = .ok (.getfield 296, 3) := by decide +kernel
theorem dMo_bounded_29 : decode prog_10_method_64_code 29 = .ok (.ifCond .eq 7, 3) := by decide +kernel
theorem dMo_bounded_32 : decode prog_10_method_64_code 32 = .ok (.lconst 0, 1) := by decide +kernel
theorem dMo_bounded_33 : decode prog_10_method_64_code 33 = .ok (.goto 4, 3) := by decide +kernel
theorem dMo_bounded_36 : decode prog_10_method_64_code 36 = .ok (.lload_n 1, 1) := by decide +kernel
theorem dMo_bounded_37 : decode prog_10_method_64_code 37 = .ok (.lreturn, 1) := by decide +kernel
theorem dMo_onMany_0 : decode prog_10_method_68_code 0 = .ok (.iconst 0, 1) := by decide +kernel
theorem dMo_onMany_1 : decode prog_10_method_68_code 1 = .ok (.istore_n 1, 1) := by decide +kernel
theorem dMo_onMany_2 : decode prog_10_method_68_code 2 = .ok (.iconst 0, 1) := by decide +kernel
theorem dMo_onMany_3 : decode prog_10_method_68_code 3 = .ok (.istore_n 2, 1) := by decide +kernel
theorem dMo_onMany_4 : decode prog_10_method_68_code 4 = .ok (.iload_n 2, 1) := by decide +kernel
theorem dMo_onMany_5 : decode prog_10_method_68_code 5 = .ok (.aload_n 0, 1) := by decide +kernel
theorem dMo_onMany_6 : decode prog_10_method_68_code 6 = .ok (.invokevirtual 119, 3) := by decide +kernel
theorem dMo_onMany_9 : decode prog_10_method_68_code 9 = .ok (.if_icmp .ge 25, 3) := by decide +kernel
theorem dMo_onMany_12 : decode prog_10_method_68_code 12 = .ok (.iload_n 1, 1) := by decide +kernel
theorem dMo_onMany_13 : decode prog_10_method_68_code 13 = .ok (.aload_n 0, 1) := by decide +kernel
theorem dMo_onMany_14 : decode prog_10_method_68_code 14 = .ok (.iload_n 2, 1) := by decide +kernel
theorem dMo_onMany_15 : decode prog_10_method_68_code 15 = .ok (.invokevirtual 138, 3) := by decide +kernel
theorem dMo_onMany_18 : decode prog_10_method_68_code 18 = .ok (.ifCond .eq 7, 3) := by decide +kernel
theorem dMo_onMany_21 : decode prog_10_method_68_code 21 = .ok (.iconst 1, 1) := by decide +kernel
theorem dMo_onMany_22 : decode prog_10_method_68_code 22 = .ok (.goto 4, 3) := by decide +kernel
theorem dMo_onMany_25 : decode prog_10_method_68_code 25 = .ok (.iconst 0, 1) := by decide +kernel
theorem dMo_onMany_26 : decode prog_10_method_68_code 26 = .ok (.iadd, 1) := by decide +kernel
theorem dMo_onMany_27 : decode prog_10_method_68_code 27 = .ok (.istore_n 1, 1) := by decide +kernel
theorem dMo_onMany_28 : decode prog_10_method_68_code 28 = .ok (.iinc 2 1, 3) := by decide +kernel
theorem dMo_onMany_31 : decode prog_10_method_68_code 31 = .ok (.goto (-27), 3) := by decide +kernel
theorem dMo_onMany_34 : decode prog_10_method_68_code 34 = .ok (.iload_n 1, 1) := by decide +kernel
theorem dMo_onMany_35 : decode prog_10_method_68_code 35 = .ok (.ireturn, 1) := by decide +kernel
theorem dMo_orderValue_0 : decode prog_10_method_69_code 0 = .ok (.iload_n 1, 1) := by decide +kernel
theorem dMo_orderValue_1 : decode prog_10_method_69_code 1 = .ok (.tableswitch 109 14 20 #[43, 86, 94, 99, 104, 109, 64], 43) := by decide +kernel
theorem dMo_orderValue_44 : decode prog_10_method_69_code 44 = .ok (.aload_n 0, 1) := by decide +kernel
theorem dMo_orderValue_45 : decode prog_10_method_69_code 45 = .ok (.iload_n 2, 1) := by decide +kernel
theorem dMo_orderValue_46 : decode prog_10_method_69_code 46 = .ok (.invokevirtual 135, 3) := by decide +kernel
theorem dMo_orderValue_49 : decode prog_10_method_69_code 49 = .ok (.ifCond .eq 14, 3) := by decide +kernel
theorem dMo_orderValue_52 : decode prog_10_method_69_code 52 = .ok (.aload_n 0, 1) := by decide +kernel
theorem dMo_orderValue_53 : decode prog_10_method_69_code 53 = .ok (.getfield 28, 3) := by decide +kernel
theorem dMo_orderValue_56 : decode prog_10_method_69_code 56 = .ok (.iconst 0, 1) := by decide +kernel
theorem dMo_orderValue_57 : decode prog_10_method_69_code 57 = .ok (.iload_n 2, 1) := by decide +kernel
theorem dMo_orderValue_58 : decode prog_10_method_69_code 58 = .ok (.iadd, 1) := by decide +kernel
theorem dMo_orderValue_59 : decode prog_10_method_69_code 59 = .ok (.iaload, 1) := by decide +kernel
theorem dMo_orderValue_60 : decode prog_10_method_69_code 60 = .ok (.goto 4, 3) := by decide +kernel
theorem dMo_orderValue_63 : decode prog_10_method_69_code 63 = .ok (.iconst (-1), 1) := by decide +kernel
theorem dMo_orderValue_64 : decode prog_10_method_69_code 64 = .ok (.ireturn, 1) := by decide +kernel
theorem dMo_orderValue_65 : decode prog_10_method_69_code 65 = .ok (.aload_n 0, 1) := by decide +kernel
theorem dMo_orderValue_66 : decode prog_10_method_69_code 66 = .ok (.iload_n 2, 1) := by decide +kernel
theorem dMo_orderValue_67 : decode prog_10_method_69_code 67 = .ok (.invokevirtual 135, 3) := by decide +kernel
theorem dMo_orderValue_70 : decode prog_10_method_69_code 70 = .ok (.ifCond .eq 15, 3) := by decide +kernel
theorem dMo_orderValue_73 : decode prog_10_method_69_code 73 = .ok (.aload_n 0, 1) := by decide +kernel
theorem dMo_orderValue_74 : decode prog_10_method_69_code 74 = .ok (.getfield 28, 3) := by decide +kernel
theorem dMo_orderValue_77 : decode prog_10_method_69_code 77 = .ok (.bipush 7, 2) := by decide +kernel
theorem dMo_orderValue_79 : decode prog_10_method_69_code 79 = .ok (.iload_n 2, 1) := by decide +kernel
theorem dMo_orderValue_80 : decode prog_10_method_69_code 80 = .ok (.iadd, 1) := by decide +kernel
theorem dMo_orderValue_81 : decode prog_10_method_69_code 81 = .ok (.iaload, 1) := by decide +kernel
theorem dMo_orderValue_82 : decode prog_10_method_69_code 82 = .ok (.goto 4, 3) := by decide +kernel
theorem dMo_orderValue_85 : decode prog_10_method_69_code 85 = .ok (.iconst (-1), 1) := by decide +kernel
theorem dMo_orderValue_86 : decode prog_10_method_69_code 86 = .ok (.ireturn, 1) := by decide +kernel
theorem dMo_orderValue_87 : decode prog_10_method_69_code 87 = .ok (.aload_n 0, 1) := by decide +kernel
theorem dMo_orderValue_88 : decode prog_10_method_69_code 88 = .ok (.getfield 28, 3) := by decide +kernel
theorem dMo_orderValue_91 : decode prog_10_method_69_code 91 = .ok (.bipush 14, 2) := by decide +kernel
theorem dMo_orderValue_93 : decode prog_10_method_69_code 93 = .ok (.iaload, 1) := by decide +kernel
theorem dMo_orderValue_94 : decode prog_10_method_69_code 94 = .ok (.ireturn, 1) := by decide +kernel
theorem dMo_orderValue_95 : decode prog_10_method_69_code 95 = .ok (.aload_n 0, 1) := by decide +kernel
theorem dMo_orderValue_96 : decode prog_10_method_69_code 96 = .ok (.getfield 322, 3) := by decide +kernel
theorem dMo_orderValue_99 : decode prog_10_method_69_code 99 = .ok (.ireturn, 1) := by decide +kernel
theorem dMo_orderValue_100 : decode prog_10_method_69_code 100 = .ok (.aload_n 0, 1) := by decide +kernel
theorem dMo_orderValue_101 : decode prog_10_method_69_code 101 = .ok (.getfield 325, 3) := by decide +kernel
theorem dMo_orderValue_104 : decode prog_10_method_69_code 104 = .ok (.ireturn, 1) := by decide +kernel
theorem dMo_orderValue_105 : decode prog_10_method_69_code 105 = .ok (.aload_n 0, 1) := by decide +kernel
theorem dMo_orderValue_106 : decode prog_10_method_69_code 106 = .ok (.getfield 328, 3) := by decide +kernel
theorem dMo_orderValue_109 : decode prog_10_method_69_code 109 = .ok (.ireturn, 1) := by decide +kernel
theorem dMo_orderValue_110 : decode prog_10_method_69_code 110 = .ok (.aload_n 0, 1) := by decide +kernel
theorem dMo_orderValue_111 : decode prog_10_method_69_code 111 = .ok (.invokevirtual 331, 3) := by decide +kernel
theorem dMo_orderValue_114 : decode prog_10_method_69_code 114 = .ok (.ireturn, 1) := by decide +kernel
theorem dMo_setsAsked_0 : decode prog_10_method_74_code 0 = .ok (.aload_n 0, 1) := by decide +kernel
theorem dMo_setsAsked_1 : decode prog_10_method_74_code 1 = .ok (.getfield 63, 3) := by decide +kernel
theorem dMo_setsAsked_4 : decode prog_10_method_74_code 4 = .ok (.iconst 0, 1) := by decide +kernel
theorem dMo_setsAsked_5 : decode prog_10_method_74_code 5 = .ok (.iload_n 1, 1) := by decide +kernel
theorem dMo_setsAsked_6 : decode prog_10_method_74_code 6 = .ok (.iastore, 1) := by decide +kernel
theorem dMo_setsAsked_7 : decode prog_10_method_74_code 7 = .ok (.aload_n 0, 1) := by decide +kernel
theorem dMo_setsAsked_8 : decode prog_10_method_74_code 8 = .ok (.getfield 63, 3) := by decide +kernel
theorem dMo_setsAsked_11 : decode prog_10_method_74_code 11 = .ok (.iconst 1, 1) := by decide +kernel
theorem dMo_setsAsked_12 : decode prog_10_method_74_code 12 = .ok (.aload_n 0, 1) := by decide +kernel
theorem dMo_setsAsked_13 : decode prog_10_method_74_code 13 = .ok (.getfield 28, 3) := by decide +kernel
theorem dMo_setsAsked_16 : decode prog_10_method_74_code 16 = .ok (.bipush 15, 2) := by decide +kernel
theorem dMo_setsAsked_18 : decode prog_10_method_74_code 18 = .ok (.iload_n 1, 1) := by decide +kernel
theorem dMo_setsAsked_19 : decode prog_10_method_74_code 19 = .ok (.iadd, 1) := by decide +kernel
theorem dMo_setsAsked_20 : decode prog_10_method_74_code 20 = .ok (.iaload, 1) := by decide +kernel
theorem dMo_setsAsked_21 : decode prog_10_method_74_code 21 = .ok (.iastore, 1) := by decide +kernel
theorem dMo_setsAsked_22 : decode prog_10_method_74_code 22 = .ok (.aload_n 0, 1) := by decide +kernel
theorem dMo_setsAsked_23 : decode prog_10_method_74_code 23 = .ok (.getfield 63, 3) := by decide +kernel
theorem dMo_setsAsked_26 : decode prog_10_method_74_code 26 = .ok (.iconst 2, 1) := by decide +kernel
theorem dMo_setsAsked_27 : decode prog_10_method_74_code 27 = .ok (.iload_n 2, 1) := by decide +kernel
theorem dMo_setsAsked_28 : decode prog_10_method_74_code 28 = .ok (.iastore, 1) := by decide +kernel
theorem dMo_setsAsked_29 : decode prog_10_method_74_code 29 = .ok (.aload_n 0, 1) := by decide +kernel
theorem dMo_setsAsked_30 : decode prog_10_method_74_code 30 = .ok (.getfield 63, 3) := by decide +kernel
theorem dMo_setsAsked_33 : decode prog_10_method_74_code 33 = .ok (.iconst 3, 1) := by decide +kernel
theorem dMo_setsAsked_34 : decode prog_10_method_74_code 34 = .ok (.iload_n 2, 1) := by decide +kernel
theorem dMo_setsAsked_35 : decode prog_10_method_74_code 35 = .ok (.invokestatic 160, 3) := by decide +kernel
theorem dMo_setsAsked_38 : decode prog_10_method_74_code 38 = .ok (.iastore, 1) := by decide +kernel
theorem dMo_setsAsked_39 : decode prog_10_method_74_code 39 = .ok (.aload_n 0, 1) := by decide +kernel
theorem dMo_setsAsked_40 : decode prog_10_method_74_code 40 = .ok (.getfield 63, 3) := by decide +kernel
theorem dMo_setsAsked_43 : decode prog_10_method_74_code 43 = .ok (.iconst 4, 1) := by decide +kernel
theorem dMo_setsAsked_44 : decode prog_10_method_74_code 44 = .ok (.aload_n 0, 1) := by decide +kernel
theorem dMo_setsAsked_45 : decode prog_10_method_74_code 45 = .ok (.getfield 28, 3) := by decide +kernel
theorem dMo_setsAsked_48 : decode prog_10_method_74_code 48 = .ok (.bipush 41, 2) := by decide +kernel
theorem dMo_setsAsked_50 : decode prog_10_method_74_code 50 = .ok (.iaload, 1) := by decide +kernel
theorem dMo_setsAsked_51 : decode prog_10_method_74_code 51 = .ok (.iastore, 1) := by decide +kernel
theorem dMo_setsAsked_52 : decode prog_10_method_74_code 52 = .ok (.aload_n 0, 1) := by decide +kernel
theorem dMo_setsAsked_53 : decode prog_10_method_74_code 53 = .ok (.getfield 63, 3) := by decide +kernel
theorem dMo_setsAsked_56 : decode prog_10_method_74_code 56 = .ok (.iconst 5, 1) := by decide +kernel
theorem dMo_setsAsked_57 : decode prog_10_method_74_code 57 = .ok (.aload_n 0, 1) := by decide +kernel
theorem dMo_setsAsked_58 : decode prog_10_method_74_code 58 = .ok (.getfield 28, 3) := by decide +kernel
theorem dMo_setsAsked_61 : decode prog_10_method_74_code 61 = .ok (.bipush 42, 2) := by decide +kernel
theorem dMo_setsAsked_63 : decode prog_10_method_74_code 63 = .ok (.iaload, 1) := by decide +kernel
theorem dMo_setsAsked_64 : decode prog_10_method_74_code 64 = .ok (.iastore, 1) := by decide +kernel
theorem dMo_setsAsked_65 : decode prog_10_method_74_code 65 = .ok (.aload_n 0, 1) := by decide +kernel
theorem dMo_setsAsked_66 : decode prog_10_method_74_code 66 = .ok (.getfield 63, 3) := by decide +kernel
theorem dMo_setsAsked_69 : decode prog_10_method_74_code 69 = .ok (.bipush 6, 2) := by decide +kernel
theorem dMo_setsAsked_71 : decode prog_10_method_74_code 71 = .ok (.aload_n 0, 1) := by decide +kernel
theorem dMo_setsAsked_72 : decode prog_10_method_74_code 72 = .ok (.getfield 28, 3) := by decide +kernel
theorem dMo_setsAsked_75 : decode prog_10_method_74_code 75 = .ok (.iconst 0, 1) := by decide +kernel
theorem dMo_setsAsked_76 : decode prog_10_method_74_code 76 = .ok (.iload_n 1, 1) := by decide +kernel
theorem dMo_setsAsked_77 : decode prog_10_method_74_code 77 = .ok (.iadd, 1) := by decide +kernel
theorem dMo_setsAsked_78 : decode prog_10_method_74_code 78 = .ok (.iaload, 1) := by decide +kernel
theorem dMo_setsAsked_79 : decode prog_10_method_74_code 79 = .ok (.iastore, 1) := by decide +kernel
theorem dMo_setsAsked_80 : decode prog_10_method_74_code 80 = .ok (.aload_n 0, 1) := by decide +kernel
theorem dMo_setsAsked_81 : decode prog_10_method_74_code 81 = .ok (.getfield 63, 3) := by decide +kernel
theorem dMo_setsAsked_84 : decode prog_10_method_74_code 84 = .ok (.bipush 7, 2) := by decide +kernel
theorem dMo_setsAsked_86 : decode prog_10_method_74_code 86 = .ok (.aload_n 0, 1) := by decide +kernel
theorem dMo_setsAsked_87 : decode prog_10_method_74_code 87 = .ok (.getfield 28, 3) := by decide +kernel
theorem dMo_setsAsked_90 : decode prog_10_method_74_code 90 = .ok (.bipush 14, 2) := by decide +kernel
theorem dMo_setsAsked_92 : decode prog_10_method_74_code 92 = .ok (.iaload, 1) := by decide +kernel
theorem dMo_setsAsked_93 : decode prog_10_method_74_code 93 = .ok (.iastore, 1) := by decide +kernel
theorem dMo_setsAsked_94 : decode prog_10_method_74_code 94 = .ok (.return_, 1) := by decide +kernel
theorem dMo_isLevel_0 : decode prog_10_method_81_code 0 = .ok (.iload_n 1, 1) := by decide +kernel
theorem dMo_isLevel_1 : decode prog_10_method_81_code 1 = .ok (.invokestatic 163, 3) := by decide +kernel
theorem dMo_isLevel_4 : decode prog_10_method_81_code 4 = .ok (.aload_n 0, 1) := by decide +kernel
theorem dMo_isLevel_5 : decode prog_10_method_81_code 5 = .ok (.getfield 28, 3) := by decide +kernel
theorem dMo_isLevel_8 : decode prog_10_method_81_code 8 = .ok (.bipush 42, 2) := by decide +kernel
theorem dMo_isLevel_10 : decode prog_10_method_81_code 10 = .ok (.iaload, 1) := by decide +kernel
theorem dMo_isLevel_11 : decode prog_10_method_81_code 11 = .ok (.if_icmp .gt 7, 3) := by decide +kernel
theorem dMo_isLevel_14 : decode prog_10_method_81_code 14 = .ok (.iconst 1, 1) := by decide +kernel
theorem dMo_isLevel_15 : decode prog_10_method_81_code 15 = .ok (.goto 4, 3) := by decide +kernel
theorem dMo_isLevel_18 : decode prog_10_method_81_code 18 = .ok (.iconst 0, 1) := by decide +kernel
theorem dMo_isLevel_19 : decode prog_10_method_81_code 19 = .ok (.ireturn, 1) := by decide +kernel
theorem dMo_keeps_0 : decode prog_10_method_83_code 0 = .ok (.bipush 16, 2) := by decide +kernel
theorem dMo_keeps_2 : decode prog_10_method_83_code 2 = .ok (.istore_n 2, 1) := by decide +kernel
theorem dMo_keeps_3 : decode prog_10_method_83_code 3 = .ok (.aload_n 0, 1) := by decide +kernel
theorem dMo_keeps_4 : decode prog_10_method_83_code 4 = .ok (.getfield 11, 3) := by decide +kernel
theorem dMo_keeps_7 : decode prog_10_method_83_code 7 = .ok (.bipush 16, 2) := by decide +kernel
theorem dMo_keeps_9 : decode prog_10_method_83_code 9 = .ok (.if_icmp .ne 43, 3) := by decide +kernel
theorem dMo_keeps_12 : decode prog_10_method_83_code 12 = .ok (.iconst 0, 1) := by decide +kernel
theorem dMo_keeps_13 : decode prog_10_method_83_code 13 = .ok (.istore_n 3, 1) := by decide +kernel
theorem dMo_keeps_14 : decode prog_10_method_83_code 14 = .ok (.iload_n 3, 1) := by decide +kernel
theorem dMo_keeps_15 : decode prog_10_method_83_code 15 = .ok (.bipush 15, 2) := by decide +kernel
theorem dMo_keeps_17 : decode prog_10_method_83_code 17 = .ok (.iload_n 2, 1) := by decide +kernel
theorem dMo_keeps_18 : decode prog_10_method_83_code 18 = .ok (.imul, 1) := by decide +kernel
theorem dMo_keeps_19 : decode prog_10_method_83_code 19 = .ok (.if_icmp .ge 23, 3) := by decide +kernel
theorem dMo_keeps_22 : decode prog_10_method_83_code 22 = .ok (.aload_n 0, 1) := by decide +kernel
theorem dMo_keeps_23 : decode prog_10_method_83_code 23 = .ok (.getfield 69, 3) := by decide +kernel
theorem dMo_keeps_26 : decode prog_10_method_83_code 26 = .ok (.iload_n 3, 1) := by decide +kernel
theorem dMo_keeps_27 : decode prog_10_method_83_code 27 = .ok (.aload_n 0, 1) := by decide +kernel
theorem dMo_keeps_28 : decode prog_10_method_83_code 28 = .ok (.getfield 69, 3) := by decide +kernel
theorem dMo_keeps_31 : decode prog_10_method_83_code 31 = .ok (.iload_n 3, 1) := by decide +kernel
theorem dMo_keeps_32 : decode prog_10_method_83_code 32 = .ok (.iload_n 2, 1) := by decide +kernel
theorem dMo_keeps_33 : decode prog_10_method_83_code 33 = .ok (.iadd, 1) := by decide +kernel
theorem dMo_keeps_34 : decode prog_10_method_83_code 34 = .ok (.iaload, 1) := by decide +kernel
theorem dMo_keeps_35 : decode prog_10_method_83_code 35 = .ok (.iastore, 1) := by decide +kernel
theorem dMo_keeps_36 : decode prog_10_method_83_code 36 = .ok (.iinc 3 1, 3) := by decide +kernel
theorem dMo_keeps_39 : decode prog_10_method_83_code 39 = .ok (.goto (-25), 3) := by decide +kernel
theorem dMo_keeps_42 : decode prog_10_method_83_code 42 = .ok (.aload_n 0, 1) := by decide +kernel
theorem dMo_keeps_43 : decode prog_10_method_83_code 43 = .ok (.dup, 1) := by decide +kernel
theorem dMo_keeps_44 : decode prog_10_method_83_code 44 = .ok (.getfield 11, 3) := by decide +kernel
theorem dMo_keeps_47 : decode prog_10_method_83_code 47 = .ok (.iconst 1, 1) := by decide +kernel
theorem dMo_keeps_48 : decode prog_10_method_83_code 48 = .ok (.isub, 1) := by decide +kernel
theorem dMo_keeps_49 : decode prog_10_method_83_code 49 = .ok (.putfield 11, 3) := by decide +kernel
theorem dMo_keeps_52 : decode prog_10_method_83_code 52 = .ok (.iconst 0, 1) := by decide +kernel
theorem dMo_keeps_53 : decode prog_10_method_83_code 53 = .ok (.istore_n 3, 1) := by decide +kernel
theorem dMo_keeps_54 : decode prog_10_method_83_code 54 = .ok (.iload_n 3, 1) := by decide +kernel
theorem dMo_keeps_55 : decode prog_10_method_83_code 55 = .ok (.bipush 15, 2) := by decide +kernel
theorem dMo_keeps_57 : decode prog_10_method_83_code 57 = .ok (.if_icmp .ge 28, 3) := by decide +kernel
theorem dMo_keeps_60 : decode prog_10_method_83_code 60 = .ok (.aload_n 0, 1) := by decide +kernel
theorem dMo_keeps_61 : decode prog_10_method_83_code 61 = .ok (.getfield 69, 3) := by decide +kernel
theorem dMo_keeps_64 : decode prog_10_method_83_code 64 = .ok (.iload_n 2, 1) := by decide +kernel
theorem dMo_keeps_65 : decode prog_10_method_83_code 65 = .ok (.aload_n 0, 1) := by decide +kernel
theorem dMo_keeps_66 : decode prog_10_method_83_code 66 = .ok (.getfield 11, 3) := by decide +kernel
theorem dMo_keeps_69 : decode prog_10_method_83_code 69 = .ok (.imul, 1) := by decide +kernel
theorem dMo_keeps_70 : decode prog_10_method_83_code 70 = .ok (.iload_n 3, 1) := by decide +kernel
theorem dMo_keeps_71 : decode prog_10_method_83_code 71 = .ok (.iadd, 1) := by decide +kernel
theorem dMo_keeps_72 : decode prog_10_method_83_code 72 = .ok (.aload_n 0, 1) := by decide +kernel
theorem dMo_keeps_73 : decode prog_10_method_83_code 73 = .ok (.getfield 28, 3) := by decide +kernel
theorem dMo_keeps_76 : decode prog_10_method_83_code 76 = .ok (.iload_n 3, 1) := by decide +kernel
theorem dMo_keeps_77 : decode prog_10_method_83_code 77 = .ok (.iaload, 1) := by decide +kernel
theorem dMo_keeps_78 : decode prog_10_method_83_code 78 = .ok (.iastore, 1) := by decide +kernel
theorem dMo_keeps_79 : decode prog_10_method_83_code 79 = .ok (.iinc 3 1, 3) := by decide +kernel
theorem dMo_keeps_82 : decode prog_10_method_83_code 82 = .ok (.goto (-28), 3) := by decide +kernel
theorem dMo_keeps_85 : decode prog_10_method_83_code 85 = .ok (.aload_n 0, 1) := by decide +kernel
theorem dMo_keeps_86 : decode prog_10_method_83_code 86 = .ok (.getfield 69, 3) := by decide +kernel
theorem dMo_keeps_89 : decode prog_10_method_83_code 89 = .ok (.iload_n 2, 1) := by decide +kernel
theorem dMo_keeps_90 : decode prog_10_method_83_code 90 = .ok (.aload_n 0, 1) := by decide +kernel
theorem dMo_keeps_91 : decode prog_10_method_83_code 91 = .ok (.getfield 11, 3) := by decide +kernel
theorem dMo_keeps_94 : decode prog_10_method_83_code 94 = .ok (.imul, 1) := by decide +kernel
theorem dMo_keeps_95 : decode prog_10_method_83_code 95 = .ok (.bipush 15, 2) := by decide +kernel
theorem dMo_keeps_97 : decode prog_10_method_83_code 97 = .ok (.iadd, 1) := by decide +kernel
theorem dMo_keeps_98 : decode prog_10_method_83_code 98 = .ok (.iload_n 1, 1) := by decide +kernel
theorem dMo_keeps_99 : decode prog_10_method_83_code 99 = .ok (.iastore, 1) := by decide +kernel
theorem dMo_keeps_100 : decode prog_10_method_83_code 100 = .ok (.aload_n 0, 1) := by decide +kernel
theorem dMo_keeps_101 : decode prog_10_method_83_code 101 = .ok (.dup, 1) := by decide +kernel
theorem dMo_keeps_102 : decode prog_10_method_83_code 102 = .ok (.getfield 11, 3) := by decide +kernel
theorem dMo_keeps_105 : decode prog_10_method_83_code 105 = .ok (.iconst 1, 1) := by decide +kernel
theorem dMo_keeps_106 : decode prog_10_method_83_code 106 = .ok (.iadd, 1) := by decide +kernel
theorem dMo_keeps_107 : decode prog_10_method_83_code 107 = .ok (.putfield 11, 3) := by decide +kernel
theorem dMo_keeps_110 : decode prog_10_method_83_code 110 = .ok (.return_, 1) := by decide +kernel
theorem dMo_undo_0 : decode prog_10_method_84_code 0 = .ok (.aload_n 0, 1) := by decide +kernel
theorem dMo_undo_1 : decode prog_10_method_84_code 1 = .ok (.getfield 11, 3) := by decide +kernel
theorem dMo_undo_4 : decode prog_10_method_84_code 4 = .ok (.ifCond .ne 10, 3) := by decide +kernel
theorem dMo_undo_7 : decode prog_10_method_84_code 7 = .ok (.aload_n 0, 1) := by decide +kernel
theorem dMo_undo_8 : decode prog_10_method_84_code 8 = .ok (.bipush (-3), 2) := by decide +kernel
theorem dMo_undo_10 : decode prog_10_method_84_code 10 = .ok (.invokevirtual 113, 3) := by decide +kernel
theorem dMo_undo_13 : decode prog_10_method_84_code 13 = .ok (.ireturn, 1) := by decide +kernel
theorem dMo_undo_14 : decode prog_10_method_84_code 14 = .ok (.aload_n 0, 1) := by decide +kernel
theorem dMo_undo_15 : decode prog_10_method_84_code 15 = .ok (.dup, 1) := by decide +kernel
theorem dMo_undo_16 : decode prog_10_method_84_code 16 = .ok (.getfield 11, 3) := by decide +kernel
theorem dMo_undo_19 : decode prog_10_method_84_code 19 = .ok (.iconst 1, 1) := by decide +kernel
theorem dMo_undo_20 : decode prog_10_method_84_code 20 = .ok (.isub, 1) := by decide +kernel
theorem dMo_undo_21 : decode prog_10_method_84_code 21 = .ok (.putfield 11, 3) := by decide +kernel
theorem dMo_undo_24 : decode prog_10_method_84_code 24 = .ok (.bipush 16, 2) := by decide +kernel
theorem dMo_undo_26 : decode prog_10_method_84_code 26 = .ok (.aload_n 0, 1) := by decide +kernel
theorem dMo_undo_27 : decode prog_10_method_84_code 27 = .ok (.getfield 11, 3) := by decide +kernel
theorem dMo_undo_30 : decode prog_10_method_84_code 30 = .ok (.imul, 1) := by decide +kernel
theorem dMo_undo_31 : decode prog_10_method_84_code 31 = .ok (.istore_n 1, 1) := by decide +kernel
theorem dMo_undo_32 : decode prog_10_method_84_code 32 = .ok (.iconst 0, 1) := by decide +kernel
theorem dMo_undo_33 : decode prog_10_method_84_code 33 = .ok (.istore_n 2, 1) := by decide +kernel
theorem dMo_undo_34 : decode prog_10_method_84_code 34 = .ok (.iload_n 2, 1) := by decide +kernel
theorem dMo_undo_35 : decode prog_10_method_84_code 35 = .ok (.bipush 15, 2) := by decide +kernel
theorem dMo_undo_37 : decode prog_10_method_84_code 37 = .ok (.if_icmp .ge 23, 3) := by decide +kernel
theorem dMo_undo_40 : decode prog_10_method_84_code 40 = .ok (.aload_n 0, 1) := by decide +kernel
theorem dMo_undo_41 : decode prog_10_method_84_code 41 = .ok (.getfield 28, 3) := by decide +kernel
theorem dMo_undo_44 : decode prog_10_method_84_code 44 = .ok (.iload_n 2, 1) := by decide +kernel
theorem dMo_undo_45 : decode prog_10_method_84_code 45 = .ok (.aload_n 0, 1) := by decide +kernel
theorem dMo_undo_46 : decode prog_10_method_84_code 46 = .ok (.getfield 69, 3) := by decide +kernel
theorem dMo_undo_49 : decode prog_10_method_84_code 49 = .ok (.iload_n 1, 1) := by decide +kernel
theorem dMo_undo_50 : decode prog_10_method_84_code 50 = .ok (.iload_n 2, 1) := by decide +kernel
theorem dMo_undo_51 : decode prog_10_method_84_code 51 = .ok (.iadd, 1) := by decide +kernel
theorem dMo_undo_52 : decode prog_10_method_84_code 52 = .ok (.iaload, 1) := by decide +kernel
theorem dMo_undo_53 : decode prog_10_method_84_code 53 = .ok (.iastore, 1) := by decide +kernel
theorem dMo_undo_54 : decode prog_10_method_84_code 54 = .ok (.iinc 2 1, 3) := by decide +kernel
theorem dMo_undo_57 : decode prog_10_method_84_code 57 = .ok (.goto (-23), 3) := by decide +kernel
theorem dMo_undo_60 : decode prog_10_method_84_code 60 = .ok (.aload_n 0, 1) := by decide +kernel
theorem dMo_undo_61 : decode prog_10_method_84_code 61 = .ok (.aload_n 0, 1) := by decide +kernel
theorem dMo_undo_62 : decode prog_10_method_84_code 62 = .ok (.getfield 69, 3) := by decide +kernel
theorem dMo_undo_65 : decode prog_10_method_84_code 65 = .ok (.iload_n 1, 1) := by decide +kernel
theorem dMo_undo_66 : decode prog_10_method_84_code 66 = .ok (.bipush 15, 2) := by decide +kernel
theorem dMo_undo_68 : decode prog_10_method_84_code 68 = .ok (.iadd, 1) := by decide +kernel
theorem dMo_undo_69 : decode prog_10_method_84_code 69 = .ok (.iaload, 1) := by decide +kernel
theorem dMo_undo_70 : decode prog_10_method_84_code 70 = .ok (.invokevirtual 14, 3) := by decide +kernel
theorem dMo_undo_73 : decode prog_10_method_84_code 73 = .ok (.ireturn, 1) := by decide +kernel
theorem dMo_goodOr_0 : decode prog_10_method_85_code 0 = .ok (.iload_n 1, 1) := by decide +kernel
theorem dMo_goodOr_1 : decode prog_10_method_85_code 1 = .ok (.ifCond .ge 11, 3) := by decide +kernel
theorem dMo_goodOr_4 : decode prog_10_method_85_code 4 = .ok (.aload_n 0, 1) := by decide +kernel
theorem dMo_goodOr_5 : decode prog_10_method_85_code 5 = .ok (.iload_n 1, 1) := by decide +kernel
theorem dMo_goodOr_6 : decode prog_10_method_85_code 6 = .ok (.invokevirtual 113, 3) := by decide +kernel
theorem dMo_goodOr_9 : decode prog_10_method_85_code 9 = .ok (.goto 8, 3) := by decide +kernel
theorem dMo_goodOr_12 : decode prog_10_method_85_code 12 = .ok (.aload_n 0, 1) := by decide +kernel
theorem dMo_goodOr_13 : decode prog_10_method_85_code 13 = .ok (.iload_n 1, 1) := by decide +kernel
theorem dMo_goodOr_14 : decode prog_10_method_85_code 14 = .ok (.invokevirtual 14, 3) := by decide +kernel
theorem dMo_goodOr_17 : decode prog_10_method_85_code 17 = .ok (.ireturn, 1) := by decide +kernel
theorem dMo_padsKept_0 : decode prog_10_method_89_code 0 = .ok (.iload_n 2, 1) := by decide +kernel
theorem dMo_padsKept_1 : decode prog_10_method_89_code 1 = .ok (.invokestatic 123, 3) := by decide +kernel
theorem dMo_padsKept_4 : decode prog_10_method_89_code 4 = .ok (.ifCond .ne 5, 3) := by decide +kernel
theorem dMo_padsKept_7 : decode prog_10_method_89_code 7 = .ok (.iconst (-1), 1) := by decide +kernel
theorem dMo_padsKept_8 : decode prog_10_method_89_code 8 = .ok (.ireturn, 1) := by decide +kernel
theorem dMo_padsKept_9 : decode prog_10_method_89_code 9 = .ok (.aload_n 0, 1) := by decide +kernel
theorem dMo_padsKept_10 : decode prog_10_method_89_code 10 = .ok (.iload_n 1, 1) := by decide +kernel
theorem dMo_padsKept_11 : decode prog_10_method_89_code 11 = .ok (.invokevirtual 135, 3) := by decide +kernel
theorem dMo_padsKept_14 : decode prog_10_method_89_code 14 = .ok (.ifCond .ne 6, 3) := by decide +kernel
theorem dMo_padsKept_17 : decode prog_10_method_89_code 17 = .ok (.bipush (-2), 2) := by decide +kernel
theorem dMo_padsKept_19 : decode prog_10_method_89_code 19 = .ok (.ireturn, 1) := by decide +kernel
theorem dMo_padsKept_20 : decode prog_10_method_89_code 20 = .ok (.aload_n 0, 1) := by decide +kernel
theorem dMo_padsKept_21 : decode prog_10_method_89_code 21 = .ok (.getfield 28, 3) := by decide +kernel
theorem dMo_padsKept_24 : decode prog_10_method_89_code 24 = .ok (.iconst 0, 1) := by decide +kernel
theorem dMo_padsKept_25 : decode prog_10_method_89_code 25 = .ok (.iload_n 1, 1) := by decide +kernel
theorem dMo_padsKept_26 : decode prog_10_method_89_code 26 = .ok (.iadd, 1) := by decide +kernel
theorem dMo_padsKept_27 : decode prog_10_method_89_code 27 = .ok (.iaload, 1) := by decide +kernel
theorem dMo_padsKept_28 : decode prog_10_method_89_code 28 = .ok (.istore_n 3, 1) := by decide +kernel
theorem dMo_padsKept_29 : decode prog_10_method_89_code 29 = .ok (.iload_n 3, 1) := by decide +kernel
theorem dMo_padsKept_30 : decode prog_10_method_89_code 30 = .ok (.iload_n 2, 1) := by decide +kernel
theorem dMo_padsKept_31 : decode prog_10_method_89_code 31 = .ok (.if_icmp .ne 6, 3) := by decide +kernel
theorem dMo_padsKept_34 : decode prog_10_method_89_code 34 = .ok (.bipush (-3), 2) := by decide +kernel
theorem dMo_padsKept_36 : decode prog_10_method_89_code 36 = .ok (.ireturn, 1) := by decide +kernel
theorem dMo_padsKept_37 : decode prog_10_method_89_code 37 = .ok (.aload_n 0, 1) := by decide +kernel
theorem dMo_padsKept_38 : decode prog_10_method_89_code 38 = .ok (.iconst 2, 1) := by decide +kernel
theorem dMo_padsKept_39 : decode prog_10_method_89_code 39 = .ok (.invokevirtual 359, 3) := by decide +kernel
theorem dMo_padsKept_42 : decode prog_10_method_89_code 42 = .ok (.aload_n 0, 1) := by decide +kernel
theorem dMo_padsKept_43 : decode prog_10_method_89_code 43 = .ok (.getfield 28, 3) := by decide +kernel
theorem dMo_padsKept_46 : decode prog_10_method_89_code 46 = .ok (.iconst 0, 1) := by decide +kernel
theorem dMo_padsKept_47 : decode prog_10_method_89_code 47 = .ok (.iload_n 1, 1) := by decide +kernel
theorem dMo_padsKept_48 : decode prog_10_method_89_code 48 = .ok (.iadd, 1) := by decide +kernel
theorem dMo_padsKept_49 : decode prog_10_method_89_code 49 = .ok (.iload_n 2, 1) := by decide +kernel
theorem dMo_padsKept_50 : decode prog_10_method_89_code 50 = .ok (.iastore, 1) := by decide +kernel
theorem dMo_padsKept_51 : decode prog_10_method_89_code 51 = .ok (.iload_n 3, 1) := by decide +kernel
theorem dMo_padsKept_52 : decode prog_10_method_89_code 52 = .ok (.ireturn, 1) := by decide +kernel
theorem dMo_pad_0 : decode prog_10_method_93_code 0 = .ok (.aload_n 0, 1) := by decide +kernel
theorem dMo_pad_1 : decode prog_10_method_93_code 1 = .ok (.aload_n 0, 1) := by decide +kernel
theorem dMo_pad_2 : decode prog_10_method_93_code 2 = .ok (.iload_n 1, 1) := by decide +kernel
theorem dMo_pad_3 : decode prog_10_method_93_code 3 = .ok (.iload_n 2, 1) := by decide +kernel
theorem dMo_pad_4 : decode prog_10_method_93_code 4 = .ok (.invokevirtual 374, 3) := by decide +kernel
theorem dMo_pad_7 : decode prog_10_method_93_code 7 = .ok (.invokevirtual 368, 3) := by decide +kernel
theorem dMo_pad_10 : decode prog_10_method_93_code 10 = .ok (.ireturn, 1) := by decide +kernel
theorem dMo_canRow_0 : decode prog_10_method_96_code 0 = .ok (.aload_n 0, 1) := by decide +kernel
theorem dMo_canRow_1 : decode prog_10_method_96_code 1 = .ok (.getfield 28, 3) := by decide +kernel
theorem dMo_canRow_4 : decode prog_10_method_96_code 4 = .ok (.bipush 7, 2) := by decide +kernel
theorem dMo_canRow_6 : decode prog_10_method_96_code 6 = .ok (.iload_n 1, 1) := by decide +kernel
theorem dMo_canRow_7 : decode prog_10_method_96_code 7 = .ok (.iadd, 1) := by decide +kernel
theorem dMo_canRow_8 : decode prog_10_method_96_code 8 = .ok (.iaload, 1) := by decide +kernel
theorem dMo_canRow_9 : decode prog_10_method_96_code 9 = .ok (.iload_n 2, 1) := by decide +kernel
theorem dMo_canRow_10 : decode prog_10_method_96_code 10 = .ok (.if_icmp .ne 7, 3) := by decide +kernel
theorem dMo_canRow_13 : decode prog_10_method_96_code 13 = .ok (.iconst 1, 1) := by decide +kernel
theorem dMo_canRow_14 : decode prog_10_method_96_code 14 = .ok (.goto 4, 3) := by decide +kernel
theorem dMo_canRow_17 : decode prog_10_method_96_code 17 = .ok (.iconst 0, 1) := by decide +kernel
theorem dMo_canRow_18 : decode prog_10_method_96_code 18 = .ok (.istore_n 3, 1) := by decide +kernel
theorem dMo_canRow_19 : decode prog_10_method_96_code 19 = .ok (.aload_n 0, 1) := by decide +kernel
theorem dMo_canRow_20 : decode prog_10_method_96_code 20 = .ok (.getfield 380, 3) := by decide +kernel
theorem dMo_canRow_23 : decode prog_10_method_96_code 23 = .ok (.iconst 2, 1) := by decide +kernel
theorem dMo_canRow_24 : decode prog_10_method_96_code 24 = .ok (.if_icmp .ne 11, 3) := by decide +kernel
theorem dMo_canRow_27 : decode prog_10_method_96_code 27 = .ok (.aload_n 0, 1) := by decide +kernel
theorem dMo_canRow_28 : decode prog_10_method_96_code 28 = .ok (.iload_n 1, 1) := by decide +kernel
theorem dMo_canRow_29 : decode prog_10_method_96_code 29 = .ok (.invokevirtual 138, 3) := by decide +kernel
theorem dMo_canRow_32 : decode prog_10_method_96_code 32 = .ok (.goto 16, 3) := by decide +kernel
theorem dMo_canRow_35 : decode prog_10_method_96_code 35 = .ok (.aload_n 0, 1) := by decide +kernel
theorem dMo_canRow_36 : decode prog_10_method_96_code 36 = .ok (.iload_n 1, 1) := by decide +kernel
theorem dMo_canRow_37 : decode prog_10_method_96_code 37 = .ok (.invokevirtual 138, 3) := by decide +kernel
theorem dMo_canRow_40 : decode prog_10_method_96_code 40 = .ok (.ifCond .ne 7, 3) := by decide +kernel
theorem dMo_canRow_43 : decode prog_10_method_96_code 43 = .ok (.iconst 1, 1) := by decide +kernel
theorem dMo_canRow_44 : decode prog_10_method_96_code 44 = .ok (.goto 4, 3) := by decide +kernel
theorem dMo_canRow_47 : decode prog_10_method_96_code 47 = .ok (.iconst 0, 1) := by decide +kernel
theorem dMo_canRow_48 : decode prog_10_method_96_code 48 = .ok (.istore 4, 2) := by decide +kernel
theorem dMo_canRow_50 : decode prog_10_method_96_code 50 = .ok (.iload_n 3, 1) := by decide +kernel
theorem dMo_canRow_51 : decode prog_10_method_96_code 51 = .ok (.ifCond .ne 22, 3) := by decide +kernel
theorem dMo_canRow_54 : decode prog_10_method_96_code 54 = .ok (.iload 4, 2) := by decide +kernel
theorem dMo_canRow_56 : decode prog_10_method_96_code 56 = .ok (.ifCond .eq 21, 3) := by decide +kernel
theorem dMo_canRow_59 : decode prog_10_method_96_code 59 = .ok (.aload_n 0, 1) := by decide +kernel
theorem dMo_canRow_60 : decode prog_10_method_96_code 60 = .ok (.getfield 78, 3) := by decide +kernel
theorem dMo_canRow_63 : decode prog_10_method_96_code 63 = .ok (.bipush 7, 2) := by decide +kernel
theorem dMo_canRow_65 : decode prog_10_method_96_code 65 = .ok (.iload_n 1, 1) := by decide +kernel
theorem dMo_canRow_66 : decode prog_10_method_96_code 66 = .ok (.imul, 1) := by decide +kernel
theorem dMo_canRow_67 : decode prog_10_method_96_code 67 = .ok (.iload_n 2, 1) := by decide +kernel
theorem dMo_canRow_68 : decode prog_10_method_96_code 68 = .ok (.iadd, 1) := by decide +kernel
theorem dMo_canRow_69 : decode prog_10_method_96_code 69 = .ok (.baload, 1) := by decide +kernel
theorem dMo_canRow_70 : decode prog_10_method_96_code 70 = .ok (.ifCond .ne 7, 3) := by decide +kernel
theorem dMo_canRow_73 : decode prog_10_method_96_code 73 = .ok (.iconst 1, 1) := by decide +kernel
theorem dMo_canRow_74 : decode prog_10_method_96_code 74 = .ok (.goto 4, 3) := by decide +kernel
theorem dMo_canRow_77 : decode prog_10_method_96_code 77 = .ok (.iconst 0, 1) := by decide +kernel
theorem dMo_canRow_78 : decode prog_10_method_96_code 78 = .ok (.ireturn, 1) := by decide +kernel
theorem dMo_endsAt_0 : decode prog_10_method_97_code 0 = .ok (.aload_n 0, 1) := by decide +kernel
theorem dMo_endsAt_1 : decode prog_10_method_97_code 1 = .ok (.getfield 380, 3) := by decide +kernel
theorem dMo_endsAt_4 : decode prog_10_method_97_code 4 = .ok (.tableswitch 48 0 2 #[28, 43, 28], 28) := by decide +kernel
theorem dMo_endsAt_32 : decode prog_10_method_97_code 32 = .ok (.aload_n 0, 1) := by decide +kernel
theorem dMo_endsAt_33 : decode prog_10_method_97_code 33 = .ok (.iload_n 1, 1) := by decide +kernel
theorem dMo_endsAt_34 : decode prog_10_method_97_code 34 = .ok (.invokevirtual 166, 3) := by decide +kernel
theorem dMo_endsAt_37 : decode prog_10_method_97_code 37 = .ok (.ifCond .eq 7, 3) := by decide +kernel
theorem dMo_endsAt_40 : decode prog_10_method_97_code 40 = .ok (.iconst 0, 1) := by decide +kernel
theorem dMo_endsAt_41 : decode prog_10_method_97_code 41 = .ok (.goto 5, 3) := by decide +kernel
theorem dMo_endsAt_44 : decode prog_10_method_97_code 44 = .ok (.ldc 193, 2) := by decide +kernel
theorem dMo_endsAt_46 : decode prog_10_method_97_code 46 = .ok (.ireturn, 1) := by decide +kernel
theorem dMo_endsAt_47 : decode prog_10_method_97_code 47 = .ok (.iload_n 1, 1) := by decide +kernel
theorem dMo_endsAt_48 : decode prog_10_method_97_code 48 = .ok (.invokestatic 163, 3) := by decide +kernel
theorem dMo_endsAt_51 : decode prog_10_method_97_code 51 = .ok (.ireturn, 1) := by decide +kernel
theorem dMo_endsAt_52 : decode prog_10_method_97_code 52 = .ok (.aload_n 0, 1) := by decide +kernel
theorem dMo_endsAt_53 : decode prog_10_method_97_code 53 = .ok (.iload_n 1, 1) := by decide +kernel
theorem dMo_endsAt_54 : decode prog_10_method_97_code 54 = .ok (.invokevirtual 166, 3) := by decide +kernel
theorem dMo_endsAt_57 : decode prog_10_method_97_code 57 = .ok (.ifCond .eq 7, 3) := by decide +kernel
theorem dMo_endsAt_60 : decode prog_10_method_97_code 60 = .ok (.iconst 1, 1) := by decide +kernel
theorem dMo_endsAt_61 : decode prog_10_method_97_code 61 = .ok (.goto 4, 3) := by decide +kernel
theorem dMo_endsAt_64 : decode prog_10_method_97_code 64 = .ok (.iconst 0, 1) := by decide +kernel
theorem dMo_endsAt_65 : decode prog_10_method_97_code 65 = .ok (.ireturn, 1) := by decide +kernel
theorem dMo_bestAt_0 : decode prog_10_method_98_code 0 = .ok (.aload_n 0, 1) := by decide +kernel
theorem dMo_bestAt_1 : decode prog_10_method_98_code 1 = .ok (.getfield 82, 3) := by decide +kernel
theorem dMo_bestAt_4 : decode prog_10_method_98_code 4 = .ok (.sipush 4201, 3) := by decide +kernel
theorem dMo_bestAt_7 : decode prog_10_method_98_code 7 = .ok (.iload_n 1, 1) := by decide +kernel
theorem dMo_bestAt_8 : decode prog_10_method_98_code 8 = .ok (.imul, 1) := by decide +kernel
theorem dMo_bestAt_9 : decode prog_10_method_98_code 9 = .ok (.sipush 2100, 3) := by decide +kernel
theorem dMo_bestAt_12 : decode prog_10_method_98_code 12 = .ok (.iadd, 1) := by decide +kernel
theorem dMo_bestAt_13 : decode prog_10_method_98_code 13 = .ok (.iload_n 2, 1) := by decide +kernel
theorem dMo_bestAt_14 : decode prog_10_method_98_code 14 = .ok (.iadd, 1) := by decide +kernel
theorem dMo_bestAt_15 : decode prog_10_method_98_code 15 = .ok (.iaload, 1) := by decide +kernel
theorem dMo_bestAt_16 : decode prog_10_method_98_code 16 = .ok (.ireturn, 1) := by decide +kernel
theorem dMo_bestBy_0 : decode prog_10_method_99_code 0 = .ok (.aload_n 0, 1) := by decide +kernel
theorem dMo_bestBy_1 : decode prog_10_method_99_code 1 = .ok (.iload_n 1, 1) := by decide +kernel
theorem dMo_bestBy_2 : decode prog_10_method_99_code 2 = .ok (.iconst 1, 1) := by decide +kernel
theorem dMo_bestBy_3 : decode prog_10_method_99_code 3 = .ok (.iadd, 1) := by decide +kernel
theorem dMo_bestBy_4 : decode prog_10_method_99_code 4 = .ok (.iload_n 3, 1) := by decide +kernel
theorem dMo_bestBy_5 : decode prog_10_method_99_code 5 = .ok (.aload_n 0, 1) := by decide +kernel
theorem dMo_bestBy_6 : decode prog_10_method_99_code 6 = .ok (.getfield 75, 3) := by decide +kernel
theorem dMo_bestBy_9 : decode prog_10_method_99_code 9 = .ok (.bipush 7, 2) := by decide +kernel
theorem dMo_bestBy_11 : decode prog_10_method_99_code 11 = .ok (.iload_n 1, 1) := by decide +kernel
theorem dMo_bestBy_12 : decode prog_10_method_99_code 12 = .ok (.imul, 1) := by decide +kernel
theorem dMo_bestBy_13 : decode prog_10_method_99_code 13 = .ok (.iload_n 2, 1) := by decide +kernel
theorem dMo_bestBy_14 : decode prog_10_method_99_code 14 = .ok (.iadd, 1) := by decide +kernel
theorem dMo_bestBy_15 : decode prog_10_method_99_code 15 = .ok (.iaload, 1) := by decide +kernel
theorem dMo_bestBy_16 : decode prog_10_method_99_code 16 = .ok (.iadd, 1) := by decide +kernel
theorem dMo_bestBy_17 : decode prog_10_method_99_code 17 = .ok (.invokevirtual 383, 3) := by decide +kernel
theorem dMo_bestBy_20 : decode prog_10_method_99_code 20 = .ok (.istore 4, 2) := by decide +kernel
theorem dMo_bestBy_22 : decode prog_10_method_99_code 22 = .ok (.aload_n 0, 1) := by decide +kernel
theorem dMo_bestBy_23 : decode prog_10_method_99_code 23 = .ok (.getfield 380, 3) := by decide +kernel
theorem dMo_bestBy_26 : decode prog_10_method_99_code 26 = .ok (.iconst 2, 1) := by decide +kernel
theorem dMo_bestBy_27 : decode prog_10_method_99_code 27 = .ok (.if_icmp .ne 28, 3) := by decide +kernel
theorem dMo_bestBy_30 : decode prog_10_method_99_code 30 = .ok (.aload_n 0, 1) := by decide +kernel
theorem dMo_bestBy_31 : decode prog_10_method_99_code 31 = .ok (.getfield 28, 3) := by decide +kernel
theorem dMo_bestBy_34 : decode prog_10_method_99_code 34 = .ok (.bipush 7, 2) := by decide +kernel
theorem dMo_bestBy_36 : decode prog_10_method_99_code 36 = .ok (.iload_n 1, 1) := by decide +kernel
theorem dMo_bestBy_37 : decode prog_10_method_99_code 37 = .ok (.iadd, 1) := by decide +kernel
theorem dMo_bestBy_38 : decode prog_10_method_99_code 38 = .ok (.iaload, 1) := by decide +kernel
theorem dMo_bestBy_39 : decode prog_10_method_99_code 39 = .ok (.iload_n 2, 1) := by decide +kernel
theorem dMo_bestBy_40 : decode prog_10_method_99_code 40 = .ok (.if_icmp .eq 15, 3) := by decide +kernel
theorem dMo_bestBy_43 : decode prog_10_method_99_code 43 = .ok (.ldc 193, 2) := by decide +kernel
theorem dMo_bestBy_45 : decode prog_10_method_99_code 45 = .ok (.iload 4, 2) := by decide +kernel
theorem dMo_bestBy_47 : decode prog_10_method_99_code 47 = .ok (.iconst 1, 1) := by decide +kernel
theorem dMo_bestBy_48 : decode prog_10_method_99_code 48 = .ok (.iadd, 1) := by decide +kernel
theorem dMo_bestBy_49 : decode prog_10_method_99_code 49 = .ok (.invokestatic 386, 3) := by decide +kernel
theorem dMo_bestBy_52 : decode prog_10_method_99_code 52 = .ok (.goto 5, 3) := by decide +kernel
theorem dMo_bestBy_55 : decode prog_10_method_99_code 55 = .ok (.iload 4, 2) := by decide +kernel
theorem dMo_bestBy_57 : decode prog_10_method_99_code 57 = .ok (.ireturn, 1) := by decide +kernel
