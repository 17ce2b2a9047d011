theorem dIn_bitCount_0 : decode prog_11_method_49_code 0 = .ok (.iload_n 0, 1) := by decide +kernel
theorem dIn_bitCount_1 : decode prog_11_method_49_code 1 = .ok (.iload_n 0, 1) := by decide +kernel
theorem dIn_bitCount_2 : decode prog_11_method_49_code 2 = .ok (.iconst 1, 1) := by decide +kernel
theorem dIn_bitCount_3 : decode prog_11_method_49_code 3 = .ok (.iushr, 1) := by decide +kernel
theorem dIn_bitCount_4 : decode prog_11_method_49_code 4 = .ok (.ldc_w 265, 3) := by decide +kernel
theorem dIn_bitCount_7 : decode prog_11_method_49_code 7 = .ok (.iand, 1) := by decide +kernel
theorem dIn_bitCount_8 : decode prog_11_method_49_code 8 = .ok (.isub, 1) := by decide +kernel
theorem dIn_bitCount_9 : decode prog_11_method_49_code 9 = .ok (.istore_n 0, 1) := by decide +kernel
theorem dIn_bitCount_10 : decode prog_11_method_49_code 10 = .ok (.iload_n 0, 1) := by decide +kernel
theorem dIn_bitCount_11 : decode prog_11_method_49_code 11 = .ok (.ldc_w 266, 3) := by decide +kernel
theorem dIn_bitCount_14 : decode prog_11_method_49_code 14 = .ok (.iand, 1) := by decide +kernel
theorem dIn_bitCount_15 : decode prog_11_method_49_code 15 = .ok (.iload_n 0, 1) := by decide +kernel
theorem dIn_bitCount_16 : decode prog_11_method_49_code 16 = .ok (.iconst 2, 1) := by decide +kernel
theorem dIn_bitCount_17 : decode prog_11_method_49_code 17 = .ok (.iushr, 1) := by decide +kernel
theorem dIn_bitCount_18 : decode prog_11_method_49_code 18 = .ok (.ldc_w 266, 3) := by decide +kernel
theorem dIn_bitCount_21 : decode prog_11_method_49_code 21 = .ok (.iand, 1) := by decide +kernel
theorem dIn_bitCount_22 : decode prog_11_method_49_code 22 = .ok (.iadd, 1) := by decide +kernel
theorem dIn_bitCount_23 : decode prog_11_method_49_code 23 = .ok (.istore_n 0, 1) := by decide +kernel
theorem dIn_bitCount_24 : decode prog_11_method_49_code 24 = .ok (.iload_n 0, 1) := by decide +kernel
theorem dIn_bitCount_25 : decode prog_11_method_49_code 25 = .ok (.iload_n 0, 1) := by decide +kernel
theorem dIn_bitCount_26 : decode prog_11_method_49_code 26 = .ok (.iconst 4, 1) := by decide +kernel
theorem dIn_bitCount_27 : decode prog_11_method_49_code 27 = .ok (.iushr, 1) := by decide +kernel
theorem dIn_bitCount_28 : decode prog_11_method_49_code 28 = .ok (.iadd, 1) := by decide +kernel
theorem dIn_bitCount_29 : decode prog_11_method_49_code 29 = .ok (.ldc_w 267, 3) := by decide +kernel
theorem dIn_bitCount_32 : decode prog_11_method_49_code 32 = .ok (.iand, 1) := by decide +kernel
theorem dIn_bitCount_33 : decode prog_11_method_49_code 33 = .ok (.istore_n 0, 1) := by decide +kernel
theorem dIn_bitCount_34 : decode prog_11_method_49_code 34 = .ok (.iload_n 0, 1) := by decide +kernel
theorem dIn_bitCount_35 : decode prog_11_method_49_code 35 = .ok (.iload_n 0, 1) := by decide +kernel
theorem dIn_bitCount_36 : decode prog_11_method_49_code 36 = .ok (.bipush 8, 2) := by decide +kernel
theorem dIn_bitCount_38 : decode prog_11_method_49_code 38 = .ok (.iushr, 1) := by decide +kernel
theorem dIn_bitCount_39 : decode prog_11_method_49_code 39 = .ok (.iadd, 1) := by decide +kernel
theorem dIn_bitCount_40 : decode prog_11_method_49_code 40 = .ok (.istore_n 0, 1) := by decide +kernel
theorem dIn_bitCount_41 : decode prog_11_method_49_code 41 = .ok (.iload_n 0, 1) := by decide +kernel
theorem dIn_bitCount_42 : decode prog_11_method_49_code 42 = .ok (.iload_n 0, 1) := by decide +kernel
theorem dIn_bitCount_43 : decode prog_11_method_49_code 43 = .ok (.bipush 16, 2) := by decide +kernel
theorem dIn_bitCount_45 : decode prog_11_method_49_code 45 = .ok (.iushr, 1) := by decide +kernel
theorem dIn_bitCount_46 : decode prog_11_method_49_code 46 = .ok (.iadd, 1) := by decide +kernel
theorem dIn_bitCount_47 : decode prog_11_method_49_code 47 = .ok (.istore_n 0, 1) := by decide +kernel
theorem dIn_bitCount_48 : decode prog_11_method_49_code 48 = .ok (.iload_n 0, 1) := by decide +kernel
theorem dIn_bitCount_49 : decode prog_11_method_49_code 49 = .ok (.bipush 63, 2) := by decide +kernel
theorem dIn_bitCount_51 : decode prog_11_method_49_code 51 = .ok (.iand, 1) := by decide +kernel
theorem dIn_bitCount_52 : decode prog_11_method_49_code 52 = .ok (.ireturn, 1) := by decide +kernel
theorem dAr_fill_0 : decode prog_17_method_103_code 0 = .ok (.iconst 0, 1) := by decide +kernel
theorem dAr_fill_1 : decode prog_17_method_103_code 1 = .ok (.istore_n 2, 1) := by decide +kernel
theorem dAr_fill_2 : decode prog_17_method_103_code 2 = .ok (.aload_n 0, 1) := by decide +kernel
theorem dAr_fill_3 : decode prog_17_method_103_code 3 = .ok (.arraylength, 1) := by decide +kernel
theorem dAr_fill_4 : decode prog_17_method_103_code 4 = .ok (.istore_n 3, 1) := by decide +kernel
theorem dAr_fill_5 : decode prog_17_method_103_code 5 = .ok (.iload_n 2, 1) := by decide +kernel
theorem dAr_fill_6 : decode prog_17_method_103_code 6 = .ok (.iload_n 3, 1) := by decide +kernel
theorem dAr_fill_7 : decode prog_17_method_103_code 7 = .ok (.if_icmp .ge 13, 3) := by decide +kernel
theorem dAr_fill_10 : decode prog_17_method_103_code 10 = .ok (.aload_n 0, 1) := by decide +kernel
theorem dAr_fill_11 : decode prog_17_method_103_code 11 = .ok (.iload_n 2, 1) := by decide +kernel
theorem dAr_fill_12 : decode prog_17_method_103_code 12 = .ok (.iload_n 1, 1) := by decide +kernel
theorem dAr_fill_13 : decode prog_17_method_103_code 13 = .ok (.iastore, 1) := by decide +kernel
theorem dAr_fill_14 : decode prog_17_method_103_code 14 = .ok (.iinc 2 1, 3) := by decide +kernel
theorem dAr_fill_17 : decode prog_17_method_103_code 17 = .ok (.goto (-12), 3) := by decide +kernel
theorem dAr_fill_20 : decode prog_17_method_103_code 20 = .ok (.return_, 1) := by decide +kernel
theorem dPl_hasClaim_0 : decode prog_4_method_2_code 0 = .ok (.iload_n 1, 1) := by decide +kernel
theorem dPl_hasClaim_1 : decode prog_4_method_2_code 1 = .ok (.ifCond .lt 21, 3) := by decide +kernel
theorem dPl_hasClaim_4 : decode prog_4_method_2_code 4 = .ok (.iload_n 1, 1) := by decide +kernel
theorem dPl_hasClaim_5 : decode prog_4_method_2_code 5 = .ok (.aload_n 0, 1) := by decide +kernel
theorem dPl_hasClaim_6 : decode prog_4_method_2_code 6 = .ok (.getfield 43, 3) := by decide +kernel
theorem dPl_hasClaim_9 : decode prog_4_method_2_code 9 = .ok (.if_icmp .ge 13, 3) := by decide +kernel
theorem dPl_hasClaim_12 : decode prog_4_method_2_code 12 = .ok (.iload_n 1, 1) := by decide +kernel
theorem dPl_hasClaim_13 : decode prog_4_method_2_code 13 = .ok (.bipush 7, 2) := by decide +kernel
theorem dPl_hasClaim_15 : decode prog_4_method_2_code 15 = .ok (.if_icmp .ge 7, 3) := by decide +kernel
theorem dPl_hasClaim_18 : decode prog_4_method_2_code 18 = .ok (.iconst 1, 1) := by decide +kernel
theorem dPl_hasClaim_19 : decode prog_4_method_2_code 19 = .ok (.goto 4, 3) := by decide +kernel
theorem dPl_hasClaim_22 : decode prog_4_method_2_code 22 = .ok (.iconst 0, 1) := by decide +kernel
theorem dPl_hasClaim_23 : decode prog_4_method_2_code 23 = .ok (.ireturn, 1) := by decide +kernel
theorem dPl_isOn_0 : decode prog_4_method_3_code 0 = .ok (.aload_n 0, 1) := by decide +kernel
theorem dPl_isOn_1 : decode prog_4_method_3_code 1 = .ok (.iload_n 1, 1) := by decide +kernel
theorem dPl_isOn_2 : decode prog_4_method_3_code 2 = .ok (.invokevirtual 46, 3) := by decide +kernel
theorem dPl_isOn_5 : decode prog_4_method_3_code 5 = .ok (.ifCond .eq 17, 3) := by decide +kernel
theorem dPl_isOn_8 : decode prog_4_method_3_code 8 = .ok (.aload_n 0, 1) := by decide +kernel
theorem dPl_isOn_9 : decode prog_4_method_3_code 9 = .ok (.getfield 18, 3) := by decide +kernel
theorem dPl_isOn_12 : decode prog_4_method_3_code 12 = .ok (.iload_n 1, 1) := by decide +kernel
theorem dPl_isOn_13 : decode prog_4_method_3_code 13 = .ok (.iaload, 1) := by decide +kernel
theorem dPl_isOn_14 : decode prog_4_method_3_code 14 = .ok (.iconst (-1), 1) := by decide +kernel
theorem dPl_isOn_15 : decode prog_4_method_3_code 15 = .ok (.if_icmp .eq 7, 3) := by decide +kernel
theorem dPl_isOn_18 : decode prog_4_method_3_code 18 = .ok (.iconst 1, 1) := by decide +kernel
theorem dPl_isOn_19 : decode prog_4_method_3_code 19 = .ok (.goto 4, 3) := by decide +kernel
theorem dPl_isOn_22 : decode prog_4_method_3_code 22 = .ok (.iconst 0, 1) := by decide +kernel
theorem dPl_isOn_23 : decode prog_4_method_3_code 23 = .ok (.ireturn, 1) := by decide +kernel
theorem dPl_hasLaw_0 : decode prog_4_method_4_code 0 = .ok (.iload_n 1, 1) := by decide +kernel
theorem dPl_hasLaw_1 : decode prog_4_method_4_code 1 = .ok (.ifCond .lt 21, 3) := by decide +kernel
theorem dPl_hasLaw_4 : decode prog_4_method_4_code 4 = .ok (.iload_n 1, 1) := by decide +kernel
theorem dPl_hasLaw_5 : decode prog_4_method_4_code 5 = .ok (.aload_n 0, 1) := by decide +kernel
theorem dPl_hasLaw_6 : decode prog_4_method_4_code 6 = .ok (.getfield 50, 3) := by decide +kernel
theorem dPl_hasLaw_9 : decode prog_4_method_4_code 9 = .ok (.if_icmp .ge 13, 3) := by decide +kernel
theorem dPl_hasLaw_12 : decode prog_4_method_4_code 12 = .ok (.iload_n 1, 1) := by decide +kernel
theorem dPl_hasLaw_13 : decode prog_4_method_4_code 13 = .ok (.bipush 6, 2) := by decide +kernel
theorem dPl_hasLaw_15 : decode prog_4_method_4_code 15 = .ok (.if_icmp .ge 7, 3) := by decide +kernel
theorem dPl_hasLaw_18 : decode prog_4_method_4_code 18 = .ok (.iconst 1, 1) := by decide +kernel
theorem dPl_hasLaw_19 : decode prog_4_method_4_code 19 = .ok (.goto 4, 3) := by decide +kernel
theorem dPl_hasLaw_22 : decode prog_4_method_4_code 22 = .ok (.iconst 0, 1) := by decide +kernel
theorem dPl_hasLaw_23 : decode prog_4_method_4_code 23 = .ok (.ireturn, 1) := by decide +kernel
theorem dPl_textOf_0 : decode prog_4_method_5_code 0 = .ok (.aload_n 0, 1) := by decide +kernel
theorem dPl_textOf_1 : decode prog_4_method_5_code 1 = .ok (.iload_n 1, 1) := by decide +kernel
theorem dPl_textOf_2 : decode prog_4_method_5_code 2 = .ok (.invokevirtual 53, 3) := by decide +kernel
theorem dPl_textOf_5 : decode prog_4_method_5_code 5 = .ok (.ifCond .eq 12, 3) := by decide +kernel
theorem dPl_textOf_8 : decode prog_4_method_5_code 8 = .ok (.aload_n 0, 1) := by decide +kernel
theorem dPl_textOf_9 : decode prog_4_method_5_code 9 = .ok (.getfield 35, 3) := by decide +kernel
theorem dPl_textOf_12 : decode prog_4_method_5_code 12 = .ok (.iload_n 1, 1) := by decide +kernel
theorem dPl_textOf_13 : decode prog_4_method_5_code 13 = .ok (.aaload, 1) := by decide +kernel
theorem dPl_textOf_14 : decode prog_4_method_5_code 14 = .ok (.goto 4, 3) := by decide +kernel
theorem dPl_textOf_17 : decode prog_4_method_5_code 17 = .ok (.aconst_null, 1) := by decide +kernel
theorem dPl_textOf_18 : decode prog_4_method_5_code 18 = .ok (.areturn, 1) := by decide +kernel
theorem dPl_onBits_0 : decode prog_4_method_6_code 0 = .ok (.iconst 0, 1) := by decide +kernel
theorem dPl_onBits_1 : decode prog_4_method_6_code 1 = .ok (.istore_n 1, 1) := by decide +kernel
theorem dPl_onBits_2 : decode prog_4_method_6_code 2 = .ok (.iconst 0, 1) := by decide +kernel
theorem dPl_onBits_3 : decode prog_4_method_6_code 3 = .ok (.istore_n 2, 1) := by decide +kernel
theorem dPl_onBits_4 : decode prog_4_method_6_code 4 = .ok (.iload_n 2, 1) := by decide +kernel
theorem dPl_onBits_5 : decode prog_4_method_6_code 5 = .ok (.bipush 7, 2) := by decide +kernel
theorem dPl_onBits_7 : decode prog_4_method_6_code 7 = .ok (.if_icmp .ge 23, 3) := by decide +kernel
theorem dPl_onBits_10 : decode prog_4_method_6_code 10 = .ok (.aload_n 0, 1) := by decide +kernel
theorem dPl_onBits_11 : decode prog_4_method_6_code 11 = .ok (.iload_n 2, 1) := by decide +kernel
theorem dPl_onBits_12 : decode prog_4_method_6_code 12 = .ok (.invokevirtual 56, 3) := by decide +kernel
theorem dPl_onBits_15 : decode prog_4_method_6_code 15 = .ok (.ifCond .eq 9, 3) := by decide +kernel
theorem dPl_onBits_18 : decode prog_4_method_6_code 18 = .ok (.iload_n 1, 1) := by decide +kernel
theorem dPl_onBits_19 : decode prog_4_method_6_code 19 = .ok (.iconst 1, 1) := by decide +kernel
theorem dPl_onBits_20 : decode prog_4_method_6_code 20 = .ok (.iload_n 2, 1) := by decide +kernel
theorem dPl_onBits_21 : decode prog_4_method_6_code 21 = .ok (.ishl, 1) := by decide +kernel
theorem dPl_onBits_22 : decode prog_4_method_6_code 22 = .ok (.ior, 1) := by decide +kernel
theorem dPl_onBits_23 : decode prog_4_method_6_code 23 = .ok (.istore_n 1, 1) := by decide +kernel
theorem dPl_onBits_24 : decode prog_4_method_6_code 24 = .ok (.iinc 2 1, 3) := by decide +kernel
theorem dPl_onBits_27 : decode prog_4_method_6_code 27 = .ok (.goto (-23), 3) := by decide +kernel
theorem dPl_onBits_30 : decode prog_4_method_6_code 30 = .ok (.iload_n 1, 1) := by decide +kernel
theorem dPl_onBits_31 : decode prog_4_method_6_code 31 = .ok (.ireturn, 1) := by decide +kernel
theorem dPl_heavyOfAll_0 : decode prog_4_method_7_code 0 = .ok (.iconst 0, 1) := by decide +kernel
theorem dPl_heavyOfAll_1 : decode prog_4_method_7_code 1 = .ok (.istore_n 1, 1) := by decide +kernel
theorem dPl_heavyOfAll_2 : decode prog_4_method_7_code 2 = .ok (.iconst 0, 1) := by decide +kernel
theorem dPl_heavyOfAll_3 : decode prog_4_method_7_code 3 = .ok (.istore_n 2, 1) := by decide +kernel
theorem dPl_heavyOfAll_4 : decode prog_4_method_7_code 4 = .ok (.iload_n 2, 1) := by decide +kernel
theorem dPl_heavyOfAll_5 : decode prog_4_method_7_code 5 = .ok (.bipush 7, 2) := by decide +kernel
theorem dPl_heavyOfAll_7 : decode prog_4_method_7_code 7 = .ok (.if_icmp .ge 30, 3) := by decide +kernel
theorem dPl_heavyOfAll_10 : decode prog_4_method_7_code 10 = .ok (.iload_n 1, 1) := by decide +kernel
theorem dPl_heavyOfAll_11 : decode prog_4_method_7_code 11 = .ok (.aload_n 0, 1) := by decide +kernel
theorem dPl_heavyOfAll_12 : decode prog_4_method_7_code 12 = .ok (.iload_n 2, 1) := by decide +kernel
theorem dPl_heavyOfAll_13 : decode prog_4_method_7_code 13 = .ok (.invokevirtual 46, 3) := by decide +kernel
theorem dPl_heavyOfAll_16 : decode prog_4_method_7_code 16 = .ok (.ifCond .eq 12, 3) := by decide +kernel
theorem dPl_heavyOfAll_19 : decode prog_4_method_7_code 19 = .ok (.aload_n 0, 1) := by decide +kernel
theorem dPl_heavyOfAll_20 : decode prog_4_method_7_code 20 = .ok (.getfield 9, 3) := by decide +kernel
theorem dPl_heavyOfAll_23 : decode prog_4_method_7_code 23 = .ok (.iload_n 2, 1) := by decide +kernel
theorem dPl_heavyOfAll_24 : decode prog_4_method_7_code 24 = .ok (.iaload, 1) := by decide +kernel
theorem dPl_heavyOfAll_25 : decode prog_4_method_7_code 25 = .ok (.goto 4, 3) := by decide +kernel
theorem dPl_heavyOfAll_28 : decode prog_4_method_7_code 28 = .ok (.iconst 0, 1) := by decide +kernel
theorem dPl_heavyOfAll_29 : decode prog_4_method_7_code 29 = .ok (.iadd, 1) := by decide +kernel
theorem dPl_heavyOfAll_30 : decode prog_4_method_7_code 30 = .ok (.istore_n 1, 1) := by decide +kernel
theorem dPl_heavyOfAll_31 : decode prog_4_method_7_code 31 = .ok (.iinc 2 1, 3) := by decide +kernel
theorem dPl_heavyOfAll_34 : decode prog_4_method_7_code 34 = .ok (.goto (-30), 3) := by decide +kernel
theorem dPl_heavyOfAll_37 : decode prog_4_method_7_code 37 = .ok (.iload_n 1, 1) := by decide +kernel
theorem dPl_heavyOfAll_38 : decode prog_4_method_7_code 38 = .ok (.ireturn, 1) := by decide +kernel
theorem dPl_addClaim_0 : decode prog_4_method_8_code 0 = .ok (.aload_n 0, 1) := by decide +kernel
theorem dPl_addClaim_1 : decode prog_4_method_8_code 1 = .ok (.getfield 43, 3) := by decide +kernel
theorem dPl_addClaim_4 : decode prog_4_method_8_code 4 = .ok (.bipush 7, 2) := by decide +kernel
theorem dPl_addClaim_6 : decode prog_4_method_8_code 6 = .ok (.if_icmp .lt 5, 3) := by decide +kernel
theorem dPl_addClaim_9 : decode prog_4_method_8_code 9 = .ok (.iconst (-1), 1) := by decide +kernel
theorem dPl_addClaim_10 : decode prog_4_method_8_code 10 = .ok (.ireturn, 1) := by decide +kernel
theorem dPl_addClaim_11 : decode prog_4_method_8_code 11 = .ok (.aload_n 0, 1) := by decide +kernel
theorem dPl_addClaim_12 : decode prog_4_method_8_code 12 = .ok (.getfield 9, 3) := by decide +kernel
theorem dPl_addClaim_15 : decode prog_4_method_8_code 15 = .ok (.aload_n 0, 1) := by decide +kernel
theorem dPl_addClaim_16 : decode prog_4_method_8_code 16 = .ok (.getfield 43, 3) := by decide +kernel
theorem dPl_addClaim_19 : decode prog_4_method_8_code 19 = .ok (.iload_n 1, 1) := by decide +kernel
theorem dPl_addClaim_20 : decode prog_4_method_8_code 20 = .ok (.iastore, 1) := by decide +kernel
theorem dPl_addClaim_21 : decode prog_4_method_8_code 21 = .ok (.aload_n 0, 1) := by decide +kernel
theorem dPl_addClaim_22 : decode prog_4_method_8_code 22 = .ok (.getfield 15, 3) := by decide +kernel
theorem dPl_addClaim_25 : decode prog_4_method_8_code 25 = .ok (.aload_n 0, 1) := by decide +kernel
theorem dPl_addClaim_26 : decode prog_4_method_8_code 26 = .ok (.getfield 43, 3) := by decide +kernel
theorem dPl_addClaim_29 : decode prog_4_method_8_code 29 = .ok (.iload_n 2, 1) := by decide +kernel
theorem dPl_addClaim_30 : decode prog_4_method_8_code 30 = .ok (.iastore, 1) := by decide +kernel
theorem dPl_addClaim_31 : decode prog_4_method_8_code 31 = .ok (.aload_n 0, 1) := by decide +kernel
theorem dPl_addClaim_32 : decode prog_4_method_8_code 32 = .ok (.getfield 18, 3) := by decide +kernel
theorem dPl_addClaim_35 : decode prog_4_method_8_code 35 = .ok (.aload_n 0, 1) := by decide +kernel
theorem dPl_addClaim_36 : decode prog_4_method_8_code 36 = .ok (.getfield 43, 3) := by decide +kernel
theorem dPl_addClaim_39 : decode prog_4_method_8_code 39 = .ok (.iconst (-1), 1) := by decide +kernel
theorem dPl_addClaim_40 : decode prog_4_method_8_code 40 = .ok (.iastore, 1) := by decide +kernel
theorem dPl_addClaim_41 : decode prog_4_method_8_code 41 = .ok (.aload_n 0, 1) := by decide +kernel
theorem dPl_addClaim_42 : decode prog_4_method_8_code 42 = .ok (.dup, 1) := by decide +kernel
theorem dPl_addClaim_43 : decode prog_4_method_8_code 43 = .ok (.getfield 43, 3) := by decide +kernel
theorem dPl_addClaim_46 : decode prog_4_method_8_code 46 = .ok (.iconst 1, 1) := by decide +kernel
theorem dPl_addClaim_47 : decode prog_4_method_8_code 47 = .ok (.iadd, 1) := by decide +kernel
theorem dPl_addClaim_48 : decode prog_4_method_8_code 48 = .ok (.putfield 43, 3) := by decide +kernel
theorem dPl_addClaim_51 : decode prog_4_method_8_code 51 = .ok (.aload_n 0, 1) := by decide +kernel
theorem dPl_addClaim_52 : decode prog_4_method_8_code 52 = .ok (.getfield 43, 3) := by decide +kernel
theorem dPl_addClaim_55 : decode prog_4_method_8_code 55 = .ok (.iconst 1, 1) := by decide +kernel
theorem dPl_addClaim_56 : decode prog_4_method_8_code 56 = .ok (.isub, 1) := by decide +kernel
theorem dPl_addClaim_57 : decode prog_4_method_8_code 57 = .ok (.ireturn, 1) := by decide +kernel
theorem dPl_addLaw_0 : decode prog_4_method_9_code 0 = .ok (.aload_n 0, 1) := by decide +kernel
theorem dPl_addLaw_1 : decode prog_4_method_9_code 1 = .ok (.getfield 50, 3) := by decide +kernel
theorem dPl_addLaw_4 : decode prog_4_method_9_code 4 = .ok (.bipush 6, 2) := by decide +kernel
theorem dPl_addLaw_6 : decode prog_4_method_9_code 6 = .ok (.if_icmp .lt 5, 3) := by decide +kernel
theorem dPl_addLaw_9 : decode prog_4_method_9_code 9 = .ok (.iconst (-1), 1) := by decide +kernel
theorem dPl_addLaw_10 : decode prog_4_method_9_code 10 = .ok (.ireturn, 1) := by decide +kernel
theorem dPl_addLaw_11 : decode prog_4_method_9_code 11 = .ok (.aload_n 0, 1) := by decide +kernel
theorem dPl_addLaw_12 : decode prog_4_method_9_code 12 = .ok (.getfield 35, 3) := by decide +kernel
theorem dPl_addLaw_15 : decode prog_4_method_9_code 15 = .ok (.aload_n 0, 1) := by decide +kernel
theorem dPl_addLaw_16 : decode prog_4_method_9_code 16 = .ok (.getfield 50, 3) := by decide +kernel
theorem dPl_addLaw_19 : decode prog_4_method_9_code 19 = .ok (.aload_n 1, 1) := by decide +kernel
theorem dPl_addLaw_20 : decode prog_4_method_9_code 20 = .ok (.aastore, 1) := by decide +kernel
theorem dPl_addLaw_21 : decode prog_4_method_9_code 21 = .ok (.aload_n 0, 1) := by decide +kernel
theorem dPl_addLaw_22 : decode prog_4_method_9_code 22 = .ok (.dup, 1) := by decide +kernel
theorem dPl_addLaw_23 : decode prog_4_method_9_code 23 = .ok (.getfield 50, 3) := by decide +kernel
theorem dPl_addLaw_26 : decode prog_4_method_9_code 26 = .ok (.iconst 1, 1) := by decide +kernel
theorem dPl_addLaw_27 : decode prog_4_method_9_code 27 = .ok (.iadd, 1) := by decide +kernel
theorem dPl_addLaw_28 : decode prog_4_method_9_code 28 = .ok (.putfield 50, 3) := by decide +kernel
theorem dPl_addLaw_31 : decode prog_4_method_9_code 31 = .ok (.aload_n 0, 1) := by decide +kernel
theorem dPl_addLaw_32 : decode prog_4_method_9_code 32 = .ok (.getfield 50, 3) := by decide +kernel
theorem dPl_addLaw_35 : decode prog_4_method_9_code 35 = .ok (.iconst 1, 1) := by decide +kernel
theorem dPl_addLaw_36 : decode prog_4_method_9_code 36 = .ok (.isub, 1) := by decide +kernel
theorem dPl_addLaw_37 : decode prog_4_method_9_code 37 = .ok (.ireturn, 1) := by decide +kernel
theorem dPl_addWeighing_0 : decode prog_4_method_10_code 0 = .ok (.aload_n 0, 1) := by decide +kernel
theorem dPl_addWeighing_1 : decode prog_4_method_10_code 1 = .ok (.getfield 59, 3) := by decide +kernel
theorem dPl_addWeighing_4 : decode prog_4_method_10_code 4 = .ok (.bipush 6, 2) := by decide +kernel
theorem dPl_addWeighing_6 : decode prog_4_method_10_code 6 = .ok (.if_icmp .ge 43, 3) := by decide +kernel
theorem dPl_addWeighing_9 : decode prog_4_method_10_code 9 = .ok (.aload_n 0, 1) := by decide +kernel
theorem dPl_addWeighing_10 : decode prog_4_method_10_code 10 = .ok (.getfield 24, 3) := by decide +kernel
theorem dPl_addWeighing_13 : decode prog_4_method_10_code 13 = .ok (.aload_n 0, 1) := by decide +kernel
theorem dPl_addWeighing_14 : decode prog_4_method_10_code 14 = .ok (.getfield 59, 3) := by decide +kernel
theorem dPl_addWeighing_17 : decode prog_4_method_10_code 17 = .ok (.iload_n 1, 1) := by decide +kernel
theorem dPl_addWeighing_18 : decode prog_4_method_10_code 18 = .ok (.iastore, 1) := by decide +kernel
theorem dPl_addWeighing_19 : decode prog_4_method_10_code 19 = .ok (.aload_n 0, 1) := by decide +kernel
theorem dPl_addWeighing_20 : decode prog_4_method_10_code 20 = .ok (.getfield 27, 3) := by decide +kernel
theorem dPl_addWeighing_23 : decode prog_4_method_10_code 23 = .ok (.aload_n 0, 1) := by decide +kernel
theorem dPl_addWeighing_24 : decode prog_4_method_10_code 24 = .ok (.getfield 59, 3) := by decide +kernel
theorem dPl_addWeighing_27 : decode prog_4_method_10_code 27 = .ok (.iload_n 2, 1) := by decide +kernel
theorem dPl_addWeighing_28 : decode prog_4_method_10_code 28 = .ok (.iastore, 1) := by decide +kernel
theorem dPl_addWeighing_29 : decode prog_4_method_10_code 29 = .ok (.aload_n 0, 1) := by decide +kernel
theorem dPl_addWeighing_30 : decode prog_4_method_10_code 30 = .ok (.getfield 30, 3) := by decide +kernel
theorem dPl_addWeighing_33 : decode prog_4_method_10_code 33 = .ok (.aload_n 0, 1) := by decide +kernel
theorem dPl_addWeighing_34 : decode prog_4_method_10_code 34 = .ok (.getfield 59, 3) := by decide +kernel
theorem dPl_addWeighing_37 : decode prog_4_method_10_code 37 = .ok (.iload_n 3, 1) := by decide +kernel
theorem dPl_addWeighing_38 : decode prog_4_method_10_code 38 = .ok (.iastore, 1) := by decide +kernel
theorem dPl_addWeighing_39 : decode prog_4_method_10_code 39 = .ok (.aload_n 0, 1) := by decide +kernel
theorem dPl_addWeighing_40 : decode prog_4_method_10_code 40 = .ok (.dup, 1) := by decide +kernel
theorem dPl_addWeighing_41 : decode prog_4_method_10_code 41 = .ok (.getfield 59, 3) := by decide +kernel
theorem dPl_addWeighing_44 : decode prog_4_method_10_code 44 = .ok (.iconst 1, 1) := by decide +kernel
theorem dPl_addWeighing_45 : decode prog_4_method_10_code 45 = .ok (.iadd, 1) := by decide +kernel
theorem dPl_addWeighing_46 : decode prog_4_method_10_code 46 = .ok (.putfield 59, 3) := by decide +kernel
theorem dPl_addWeighing_49 : decode prog_4_method_10_code 49 = .ok (.aload_n 0, 1) := by decide +kernel
theorem dPl_addWeighing_50 : decode prog_4_method_10_code 50 = .ok (.getfield 59, 3) := by decide +kernel
theorem dPl_addWeighing_53 : decode prog_4_method_10_code 53 = .ok (.ireturn, 1) := by decide +kernel
theorem dPl_become_0 : decode prog_4_method_11_code 0 = .ok (.aload_n 0, 1) := by decide +kernel
theorem dPl_become_1 : decode prog_4_method_11_code 1 = .ok (.aload_n 1, 1) := by decide +kernel
theorem dPl_become_2 : decode prog_4_method_11_code 2 = .ok (.getfield 43, 3) := by decide +kernel
theorem dPl_become_5 : decode prog_4_method_11_code 5 = .ok (.putfield 43, 3) := by decide +kernel
theorem dPl_become_8 : decode prog_4_method_11_code 8 = .ok (.aload_n 1, 1) := by decide +kernel
theorem dPl_become_9 : decode prog_4_method_11_code 9 = .ok (.getfield 9, 3) := by decide +kernel
theorem dPl_become_12 : decode prog_4_method_11_code 12 = .ok (.iconst 0, 1) := by decide +kernel
theorem dPl_become_13 : decode prog_4_method_11_code 13 = .ok (.aload_n 0, 1) := by decide +kernel
theorem dPl_become_14 : decode prog_4_method_11_code 14 = .ok (.getfield 9, 3) := by decide +kernel
theorem dPl_become_17 : decode prog_4_method_11_code 17 = .ok (.iconst 0, 1) := by decide +kernel
theorem dPl_become_18 : decode prog_4_method_11_code 18 = .ok (.bipush 7, 2) := by decide +kernel
theorem dPl_become_20 : decode prog_4_method_11_code 20 = .ok (.invokestatic 62, 3) := by decide +kernel
theorem dPl_become_23 : decode prog_4_method_11_code 23 = .ok (.aload_n 1, 1) := by decide +kernel
theorem dPl_become_24 : decode prog_4_method_11_code 24 = .ok (.getfield 15, 3) := by decide +kernel
theorem dPl_become_27 : decode prog_4_method_11_code 27 = .ok (.iconst 0, 1) := by decide +kernel
theorem dPl_become_28 : decode prog_4_method_11_code 28 = .ok (.aload_n 0, 1) := by decide +kernel
theorem dPl_become_29 : decode prog_4_method_11_code 29 = .ok (.getfield 15, 3) := by decide +kernel
theorem dPl_become_32 : decode prog_4_method_11_code 32 = .ok (.iconst 0, 1) := by decide +kernel
theorem dPl_become_33 : decode prog_4_method_11_code 33 = .ok (.bipush 7, 2) := by decide +kernel
theorem dPl_become_35 : decode prog_4_method_11_code 35 = .ok (.invokestatic 62, 3) := by decide +kernel
theorem dPl_become_38 : decode prog_4_method_11_code 38 = .ok (.aload_n 1, 1) := by decide +kernel
theorem dPl_become_39 : decode prog_4_method_11_code 39 = .ok (.getfield 18, 3) := by decide +kernel
theorem dPl_become_42 : decode prog_4_method_11_code 42 = .ok (.iconst 0, 1) := by decide +kernel
theorem dPl_become_43 : decode prog_4_method_11_code 43 = .ok (.aload_n 0, 1) := by decide +kernel
theorem dPl_become_44 : decode prog_4_method_11_code 44 = .ok (.getfield 18, 3) := by decide +kernel
theorem dPl_become_47 : decode prog_4_method_11_code 47 = .ok (.iconst 0, 1) := by decide +kernel
theorem dPl_become_48 : decode prog_4_method_11_code 48 = .ok (.bipush 7, 2) := by decide +kernel
theorem dPl_become_50 : decode prog_4_method_11_code 50 = .ok (.invokestatic 62, 3) := by decide +kernel
theorem dPl_become_53 : decode prog_4_method_11_code 53 = .ok (.aload_n 1, 1) := by decide +kernel
theorem dPl_become_54 : decode prog_4_method_11_code 54 = .ok (.getfield 21, 3) := by decide +kernel
theorem dPl_become_57 : decode prog_4_method_11_code 57 = .ok (.iconst 0, 1) := by decide +kernel
theorem dPl_become_58 : decode prog_4_method_11_code 58 = .ok (.aload_n 0, 1) := by decide +kernel
theorem dPl_become_59 : decode prog_4_method_11_code 59 = .ok (.getfield 21, 3) := by decide +kernel
theorem dPl_become_62 : decode prog_4_method_11_code 62 = .ok (.iconst 0, 1) := by decide +kernel
theorem dPl_become_63 : decode prog_4_method_11_code 63 = .ok (.iconst 4, 1) := by decide +kernel
theorem dPl_become_64 : decode prog_4_method_11_code 64 = .ok (.invokestatic 62, 3) := by decide +kernel
theorem dPl_become_67 : decode prog_4_method_11_code 67 = .ok (.aload_n 0, 1) := by decide +kernel
theorem dPl_become_68 : decode prog_4_method_11_code 68 = .ok (.aload_n 1, 1) := by decide +kernel
theorem dPl_become_69 : decode prog_4_method_11_code 69 = .ok (.getfield 59, 3) := by decide +kernel
theorem dPl_become_72 : decode prog_4_method_11_code 72 = .ok (.putfield 59, 3) := by decide +kernel
theorem dPl_become_75 : decode prog_4_method_11_code 75 = .ok (.aload_n 1, 1) := by decide +kernel
theorem dPl_become_76 : decode prog_4_method_11_code 76 = .ok (.getfield 24, 3) := by decide +kernel
theorem dPl_become_79 : decode prog_4_method_11_code 79 = .ok (.iconst 0, 1) := by decide +kernel
theorem dPl_become_80 : decode prog_4_method_11_code 80 = .ok (.aload_n 0, 1) := by decide +kernel
theorem dPl_become_81 : decode prog_4_method_11_code 81 = .ok (.getfield 24, 3) := by decide +kernel
theorem dPl_become_84 : decode prog_4_method_11_code 84 = .ok (.iconst 0, 1) := by decide +kernel
theorem dPl_become_85 : decode prog_4_method_11_code 85 = .ok (.bipush 6, 2) := by decide +kernel
theorem dPl_become_87 : decode prog_4_method_11_code 87 = .ok (.invokestatic 62, 3) := by decide +kernel
theorem dPl_become_90 : decode prog_4_method_11_code 90 = .ok (.aload_n 1, 1) := by decide +kernel
theorem dPl_become_91 : decode prog_4_method_11_code 91 = .ok (.getfield 27, 3) := by decide +kernel
theorem dPl_become_94 : decode prog_4_method_11_code 94 = .ok (.iconst 0, 1) := by decide +kernel
theorem dPl_become_95 : decode prog_4_method_11_code 95 = .ok (.aload_n 0, 1) := by decide +kernel
theorem dPl_become_96 : decode prog_4_method_11_code 96 = .ok (.getfield 27, 3) := by decide +kernel
theorem dPl_become_99 : decode prog_4_method_11_code 99 = .ok (.iconst 0, 1) := by decide +kernel
theorem dPl_become_100 : decode prog_4_method_11_code 100 = .ok (.bipush 6, 2) := by decide +kernel
theorem dPl_become_102 : decode prog_4_method_11_code 102 = .ok (.invokestatic 62, 3) := by decide +kernel
theorem dPl_become_105 : decode prog_4_method_11_code 105 = .ok (.aload_n 1, 1) := by decide +kernel
theorem dPl_become_106 : decode prog_4_method_11_code 106 = .ok (.getfield 30, 3) := by decide +kernel
theorem dPl_become_109 : decode prog_4_method_11_code 109 = .ok (.iconst 0, 1) := by decide +kernel
theorem dPl_become_110 : decode prog_4_method_11_code 110 = .ok (.aload_n 0, 1) := by decide +kernel
theorem dPl_become_111 : decode prog_4_method_11_code 111 = .ok (.getfield 30, 3) := by decide +kernel
theorem dPl_become_114 : decode prog_4_method_11_code 114 = .ok (.iconst 0, 1) := by decide +kernel
theorem dPl_become_115 : decode prog_4_method_11_code 115 = .ok (.bipush 6, 2) := by decide +kernel
theorem dPl_become_117 : decode prog_4_method_11_code 117 = .ok (.invokestatic 62, 3) := by decide +kernel
theorem dPl_become_120 : decode prog_4_method_11_code 120 = .ok (.aload_n 0, 1) := by decide +kernel
theorem dPl_become_121 : decode prog_4_method_11_code 121 = .ok (.aload_n 1, 1) := by decide +kernel
theorem dPl_become_122 : decode prog_4_method_11_code 122 = .ok (.getfield 50, 3) := by decide +kernel
theorem dPl_become_125 : decode prog_4_method_11_code 125 = .ok (.putfield 50, 3) := by decide +kernel
theorem dPl_become_128 : decode prog_4_method_11_code 128 = .ok (.iconst 0, 1) := by decide +kernel
theorem dPl_become_129 : decode prog_4_method_11_code 129 = .ok (.istore_n 2, 1) := by decide +kernel
theorem dPl_become_130 : decode prog_4_method_11_code 130 = .ok (.iload_n 2, 1) := by decide +kernel
theorem dPl_become_131 : decode prog_4_method_11_code 131 = .ok (.bipush 6, 2) := by decide +kernel
theorem dPl_become_133 : decode prog_4_method_11_code 133 = .ok (.if_icmp .ge 21, 3) := by decide +kernel
theorem dPl_become_136 : decode prog_4_method_11_code 136 = .ok (.aload_n 0, 1) := by decide +kernel
theorem dPl_become_137 : decode prog_4_method_11_code 137 = .ok (.getfield 35, 3) := by decide +kernel
theorem dPl_become_140 : decode prog_4_method_11_code 140 = .ok (.iload_n 2, 1) := by decide +kernel
theorem dPl_become_141 : decode prog_4_method_11_code 141 = .ok (.aload_n 1, 1) := by decide +kernel
theorem dPl_become_142 : decode prog_4_method_11_code 142 = .ok (.getfield 35, 3) := by decide +kernel
theorem dPl_become_145 : decode prog_4_method_11_code 145 = .ok (.iload_n 2, 1) := by decide +kernel
theorem dPl_become_146 : decode prog_4_method_11_code 146 = .ok (.aaload, 1) := by decide +kernel
theorem dPl_become_147 : decode prog_4_method_11_code 147 = .ok (.aastore, 1) := by decide +kernel
theorem dPl_become_148 : decode prog_4_method_11_code 148 = .ok (.iinc 2 1, 3) := by decide +kernel
theorem dPl_become_151 : decode prog_4_method_11_code 151 = .ok (.goto (-21), 3) := by decide +kernel
theorem dPl_become_154 : decode prog_4_method_11_code 154 = .ok (.aload_n 0, 1) := by decide +kernel
theorem dPl_become_155 : decode prog_4_method_11_code 155 = .ok (.aload_n 1, 1) := by decide +kernel
theorem dPl_become_156 : decode prog_4_method_11_code 156 = .ok (.getfield 39, 3) := by decide +kernel
theorem dPl_become_159 : decode prog_4_method_11_code 159 = .ok (.putfield 39, 3) := by decide +kernel
theorem dPl_become_162 : decode prog_4_method_11_code 162 = .ok (.return_, 1) := by decide +kernel
theorem dHi_clear_0 : decode prog_2_method_2_code 0 = .ok (.aload_n 0, 1) := by decide +kernel
theorem dHi_clear_1 : decode prog_2_method_2_code 1 = .ok (.iconst 0, 1) := by decide +kernel
theorem dHi_clear_2 : decode prog_2_method_2_code 2 = .ok (.putfield 15, 3) := by decide +kernel
theorem dHi_clear_5 : decode prog_2_method_2_code 5 = .ok (.return_, 1) := by decide +kernel
theorem dHi_keep_0 : decode prog_2_method_3_code 0 = .ok (.aload_n 0, 1) := by decide +kernel
theorem dHi_keep_1 : decode prog_2_method_3_code 1 = .ok (.getfield 19, 3) := by decide +kernel
theorem dHi_keep_4 : decode prog_2_method_3_code 4 = .ok (.bipush 16, 2) := by decide +kernel
theorem dHi_keep_6 : decode prog_2_method_3_code 6 = .ok (.imul, 1) := by decide +kernel
theorem dHi_keep_7 : decode prog_2_method_3_code 7 = .ok (.istore_n 3, 1) := by decide +kernel
theorem dHi_keep_8 : decode prog_2_method_3_code 8 = .ok (.aload_n 2, 1) := by decide +kernel
theorem dHi_keep_9 : decode prog_2_method_3_code 9 = .ok (.getfield 22, 3) := by decide +kernel
theorem dHi_keep_12 : decode prog_2_method_3_code 12 = .ok (.iconst 0, 1) := by decide +kernel
theorem dHi_keep_13 : decode prog_2_method_3_code 13 = .ok (.aload_n 0, 1) := by decide +kernel
theorem dHi_keep_14 : decode prog_2_method_3_code 14 = .ok (.getfield 11, 3) := by decide +kernel
theorem dHi_keep_17 : decode prog_2_method_3_code 17 = .ok (.iload_n 3, 1) := by decide +kernel
theorem dHi_keep_18 : decode prog_2_method_3_code 18 = .ok (.bipush 7, 2) := by decide +kernel
theorem dHi_keep_20 : decode prog_2_method_3_code 20 = .ok (.invokestatic 27, 3) := by decide +kernel
theorem dHi_keep_23 : decode prog_2_method_3_code 23 = .ok (.aload_n 2, 1) := by decide +kernel
theorem dHi_keep_24 : decode prog_2_method_3_code 24 = .ok (.getfield 33, 3) := by decide +kernel
theorem dHi_keep_27 : decode prog_2_method_3_code 27 = .ok (.iconst 0, 1) := by decide +kernel
theorem dHi_keep_28 : decode prog_2_method_3_code 28 = .ok (.aload_n 0, 1) := by decide +kernel
theorem dHi_keep_29 : decode prog_2_method_3_code 29 = .ok (.getfield 11, 3) := by decide +kernel
theorem dHi_keep_32 : decode prog_2_method_3_code 32 = .ok (.iload_n 3, 1) := by decide +kernel
theorem dHi_keep_33 : decode prog_2_method_3_code 33 = .ok (.bipush 7, 2) := by decide +kernel
theorem dHi_keep_35 : decode prog_2_method_3_code 35 = .ok (.iadd, 1) := by decide +kernel
theorem dHi_keep_36 : decode prog_2_method_3_code 36 = .ok (.bipush 7, 2) := by decide +kernel
theorem dHi_keep_38 : decode prog_2_method_3_code 38 = .ok (.invokestatic 27, 3) := by decide +kernel
theorem dHi_keep_41 : decode prog_2_method_3_code 41 = .ok (.aload_n 0, 1) := by decide +kernel
theorem dHi_keep_42 : decode prog_2_method_3_code 42 = .ok (.getfield 11, 3) := by decide +kernel
theorem dHi_keep_45 : decode prog_2_method_3_code 45 = .ok (.iload_n 3, 1) := by decide +kernel
theorem dHi_keep_46 : decode prog_2_method_3_code 46 = .ok (.bipush 14, 2) := by decide +kernel
theorem dHi_keep_48 : decode prog_2_method_3_code 48 = .ok (.iadd, 1) := by decide +kernel
theorem dHi_keep_49 : decode prog_2_method_3_code 49 = .ok (.aload_n 2, 1) := by decide +kernel
theorem dHi_keep_50 : decode prog_2_method_3_code 50 = .ok (.getfield 36, 3) := by decide +kernel
theorem dHi_keep_53 : decode prog_2_method_3_code 53 = .ok (.iconst 0, 1) := by decide +kernel
theorem dHi_keep_54 : decode prog_2_method_3_code 54 = .ok (.iaload, 1) := by decide +kernel
theorem dHi_keep_55 : decode prog_2_method_3_code 55 = .ok (.iastore, 1) := by decide +kernel
theorem dHi_keep_56 : decode prog_2_method_3_code 56 = .ok (.aload_n 0, 1) := by decide +kernel
theorem dHi_keep_57 : decode prog_2_method_3_code 57 = .ok (.getfield 11, 3) := by decide +kernel
theorem dHi_keep_60 : decode prog_2_method_3_code 60 = .ok (.iload_n 3, 1) := by decide +kernel
theorem dHi_keep_61 : decode prog_2_method_3_code 61 = .ok (.bipush 15, 2) := by decide +kernel
theorem dHi_keep_63 : decode prog_2_method_3_code 63 = .ok (.iadd, 1) := by decide +kernel
theorem dHi_keep_64 : decode prog_2_method_3_code 64 = .ok (.iload_n 1, 1) := by decide +kernel
theorem dHi_keep_65 : decode prog_2_method_3_code 65 = .ok (.iastore, 1) := by decide +kernel
theorem dHi_keep_66 : decode prog_2_method_3_code 66 = .ok (.aload_n 0, 1) := by decide +kernel
theorem dHi_keep_67 : decode prog_2_method_3_code 67 = .ok (.aload_n 0, 1) := by decide +kernel
theorem dHi_keep_68 : decode prog_2_method_3_code 68 = .ok (.getfield 19, 3) := by decide +kernel
theorem dHi_keep_71 : decode prog_2_method_3_code 71 = .ok (.iconst 1, 1) := by decide +kernel
theorem dHi_keep_72 : decode prog_2_method_3_code 72 = .ok (.iadd, 1) := by decide +kernel
theorem dHi_keep_73 : decode prog_2_method_3_code 73 = .ok (.bipush 16, 2) := by decide +kernel
theorem dHi_keep_75 : decode prog_2_method_3_code 75 = .ok (.irem, 1) := by decide +kernel
theorem dHi_keep_76 : decode prog_2_method_3_code 76 = .ok (.putfield 19, 3) := by decide +kernel
theorem dHi_keep_79 : decode prog_2_method_3_code 79 = .ok (.aload_n 0, 1) := by decide +kernel
theorem dHi_keep_80 : decode prog_2_method_3_code 80 = .ok (.aload_n 0, 1) := by decide +kernel
theorem dHi_keep_81 : decode prog_2_method_3_code 81 = .ok (.getfield 15, 3) := by decide +kernel
theorem dHi_keep_84 : decode prog_2_method_3_code 84 = .ok (.iconst 1, 1) := by decide +kernel
theorem dHi_keep_85 : decode prog_2_method_3_code 85 = .ok (.iadd, 1) := by decide +kernel
theorem dHi_keep_86 : decode prog_2_method_3_code 86 = .ok (.bipush 16, 2) := by decide +kernel
theorem dHi_keep_88 : decode prog_2_method_3_code 88 = .ok (.invokestatic 39, 3) := by decide +kernel
theorem dHi_keep_91 : decode prog_2_method_3_code 91 = .ok (.putfield 15, 3) := by decide +kernel
theorem dHi_keep_94 : decode prog_2_method_3_code 94 = .ok (.return_, 1) := by decide +kernel
theorem dHi_giveBack_0 : decode prog_2_method_4_code 0 = .ok (.aload_n 0, 1) := by decide +kernel
theorem dHi_giveBack_1 : decode prog_2_method_4_code 1 = .ok (.getfield 15, 3) := by decide +kernel
theorem dHi_giveBack_4 : decode prog_2_method_4_code 4 = .ok (.ifCond .ne 5, 3) := by decide +kernel
theorem dHi_giveBack_7 : decode prog_2_method_4_code 7 = .ok (.iconst (-1), 1) := by decide +kernel
theorem dHi_giveBack_8 : decode prog_2_method_4_code 8 = .ok (.ireturn, 1) := by decide +kernel
theorem dHi_giveBack_9 : decode prog_2_method_4_code 9 = .ok (.aload_n 0, 1) := by decide +kernel
theorem dHi_giveBack_10 : decode prog_2_method_4_code 10 = .ok (.dup, 1) := by decide +kernel
theorem dHi_giveBack_11 : decode prog_2_method_4_code 11 = .ok (.getfield 15, 3) := by decide +kernel
theorem dHi_giveBack_14 : decode prog_2_method_4_code 14 = .ok (.iconst 1, 1) := by decide +kernel
theorem dHi_giveBack_15 : decode prog_2_method_4_code 15 = .ok (.isub, 1) := by decide +kernel
theorem dHi_giveBack_16 : decode prog_2_method_4_code 16 = .ok (.putfield 15, 3) := by decide +kernel
theorem dHi_giveBack_19 : decode prog_2_method_4_code 19 = .ok (.aload_n 0, 1) := by decide +kernel
theorem dHi_giveBack_20 : decode prog_2_method_4_code 20 = .ok (.aload_n 0, 1) := by decide +kernel
theorem dHi_giveBack_21 : decode prog_2_method_4_code 21 = .ok (.getfield 19, 3) := by decide +kernel
theorem dHi_giveBack_24 : decode prog_2_method_4_code 24 = .ok (.bipush 16, 2) := by decide +kernel
theorem dHi_giveBack_26 : decode prog_2_method_4_code 26 = .ok (.iadd, 1) := by decide +kernel
theorem dHi_giveBack_27 : decode prog_2_method_4_code 27 = .ok (.iconst 1, 1) := by decide +kernel
theorem dHi_giveBack_28 : decode prog_2_method_4_code 28 = .ok (.isub, 1) := by decide +kernel
theorem dHi_giveBack_29 : decode prog_2_method_4_code 29 = .ok (.bipush 16, 2) := by decide +kernel
theorem dHi_giveBack_31 : decode prog_2_method_4_code 31 = .ok (.irem, 1) := by decide +kernel
theorem dHi_giveBack_32 : decode prog_2_method_4_code 32 = .ok (.putfield 19, 3) := by decide +kernel
theorem dHi_giveBack_35 : decode prog_2_method_4_code 35 = .ok (.aload_n 0, 1) := by decide +kernel
theorem dHi_giveBack_36 : decode prog_2_method_4_code 36 = .ok (.getfield 19, 3) := by decide +kernel
theorem dHi_giveBack_39 : decode prog_2_method_4_code 39 = .ok (.bipush 16, 2) := by decide +kernel
theorem dHi_giveBack_41 : decode prog_2_method_4_code 41 = .ok (.imul, 1) := by decide +kernel
theorem dHi_giveBack_42 : decode prog_2_method_4_code 42 = .ok (.istore_n 2, 1) := by decide +kernel
theorem dHi_giveBack_43 : decode prog_2_method_4_code 43 = .ok (.aload_n 0, 1) := by decide +kernel
theorem dHi_giveBack_44 : decode prog_2_method_4_code 44 = .ok (.getfield 11, 3) := by decide +kernel
theorem dHi_giveBack_47 : decode prog_2_method_4_code 47 = .ok (.iload_n 2, 1) := by decide +kernel
theorem dHi_giveBack_48 : decode prog_2_method_4_code 48 = .ok (.aload_n 1, 1) := by decide +kernel
theorem dHi_giveBack_49 : decode prog_2_method_4_code 49 = .ok (.getfield 22, 3) := by decide +kernel
theorem dHi_giveBack_52 : decode prog_2_method_4_code 52 = .ok (.iconst 0, 1) := by decide +kernel
theorem dHi_giveBack_53 : decode prog_2_method_4_code 53 = .ok (.bipush 7, 2) := by decide +kernel
theorem dHi_giveBack_55 : decode prog_2_method_4_code 55 = .ok (.invokestatic 27, 3) := by decide +kernel
theorem dHi_giveBack_58 : decode prog_2_method_4_code 58 = .ok (.aload_n 0, 1) := by decide +kernel
theorem dHi_giveBack_59 : decode prog_2_method_4_code 59 = .ok (.getfield 11, 3) := by decide +kernel
theorem dHi_giveBack_62 : decode prog_2_method_4_code 62 = .ok (.iload_n 2, 1) := by decide +kernel
theorem dHi_giveBack_63 : decode prog_2_method_4_code 63 = .ok (.bipush 7, 2) := by decide +kernel
theorem dHi_giveBack_65 : decode prog_2_method_4_code 65 = .ok (.iadd, 1) := by decide +kernel
theorem dHi_giveBack_66 : decode prog_2_method_4_code 66 = .ok (.aload_n 1, 1) := by decide +kernel
theorem dHi_giveBack_67 : decode prog_2_method_4_code 67 = .ok (.getfield 33, 3) := by decide +kernel
theorem dHi_giveBack_70 : decode prog_2_method_4_code 70 = .ok (.iconst 0, 1) := by decide +kernel
theorem dHi_giveBack_71 : decode prog_2_method_4_code 71 = .ok (.bipush 7, 2) := by decide +kernel
theorem dHi_giveBack_73 : decode prog_2_method_4_code 73 = .ok (.invokestatic 27, 3) := by decide +kernel
theorem dHi_giveBack_76 : decode prog_2_method_4_code 76 = .ok (.aload_n 1, 1) := by decide +kernel
theorem dHi_giveBack_77 : decode prog_2_method_4_code 77 = .ok (.getfield 36, 3) := by decide +kernel
theorem dHi_giveBack_80 : decode prog_2_method_4_code 80 = .ok (.iconst 0, 1) := by decide +kernel
theorem dHi_giveBack_81 : decode prog_2_method_4_code 81 = .ok (.aload_n 0, 1) := by decide +kernel
theorem dHi_giveBack_82 : decode prog_2_method_4_code 82 = .ok (.getfield 11, 3) := by decide +kernel
theorem dHi_giveBack_85 : decode prog_2_method_4_code 85 = .ok (.iload_n 2, 1) := by decide +kernel
theorem dHi_giveBack_86 : decode prog_2_method_4_code 86 = .ok (.bipush 14, 2) := by decide +kernel
theorem dHi_giveBack_88 : decode prog_2_method_4_code 88 = .ok (.iadd, 1) := by decide +kernel
theorem dHi_giveBack_89 : decode prog_2_method_4_code 89 = .ok (.iaload, 1) := by decide +kernel
theorem dHi_giveBack_90 : decode prog_2_method_4_code 90 = .ok (.iastore, 1) := by decide +kernel
theorem dHi_giveBack_91 : decode prog_2_method_4_code 91 = .ok (.aload_n 0, 1) := by decide +kernel
theorem dHi_giveBack_92 : decode prog_2_method_4_code 92 = .ok (.getfield 11, 3) := by decide +kernel
theorem dHi_giveBack_95 : decode prog_2_method_4_code 95 = .ok (.iload_n 2, 1) := by decide +kernel
theorem dHi_giveBack_96 : decode prog_2_method_4_code 96 = .ok (.bipush 15, 2) := by decide +kernel
theorem dHi_giveBack_98 : decode prog_2_method_4_code 98 = .ok (.iadd, 1) := by decide +kernel
theorem dHi_giveBack_99 : decode prog_2_method_4_code 99 = .ok (.iaload, 1) := by decide +kernel
theorem dHi_giveBack_100 : decode prog_2_method_4_code 100 = .ok (.ireturn, 1) := by decide +kernel
theorem dHi_become_0 : decode prog_2_method_5_code 0 = .ok (.aload_n 0, 1) := by decide +kernel
theorem dHi_become_1 : decode prog_2_method_5_code 1 = .ok (.aload_n 1, 1) := by decide +kernel
theorem dHi_become_2 : decode prog_2_method_5_code 2 = .ok (.getfield 15, 3) := by decide +kernel
theorem dHi_become_5 : decode prog_2_method_5_code 5 = .ok (.putfield 15, 3) := by decide +kernel
theorem dHi_become_8 : decode prog_2_method_5_code 8 = .ok (.aload_n 0, 1) := by decide +kernel
theorem dHi_become_9 : decode prog_2_method_5_code 9 = .ok (.aload_n 1, 1) := by decide +kernel
theorem dHi_become_10 : decode prog_2_method_5_code 10 = .ok (.getfield 19, 3) := by decide +kernel
theorem dHi_become_13 : decode prog_2_method_5_code 13 = .ok (.putfield 19, 3) := by decide +kernel
theorem dHi_become_16 : decode prog_2_method_5_code 16 = .ok (.aload_n 1, 1) := by decide +kernel
theorem dHi_become_17 : decode prog_2_method_5_code 17 = .ok (.getfield 11, 3) := by decide +kernel
theorem dHi_become_20 : decode prog_2_method_5_code 20 = .ok (.iconst 0, 1) := by decide +kernel
theorem dHi_become_21 : decode prog_2_method_5_code 21 = .ok (.aload_n 0, 1) := by decide +kernel
theorem dHi_become_22 : decode prog_2_method_5_code 22 = .ok (.getfield 11, 3) := by decide +kernel
theorem dHi_become_25 : decode prog_2_method_5_code 25 = .ok (.iconst 0, 1) := by decide +kernel
theorem dHi_become_26 : decode prog_2_method_5_code 26 = .ok (.sipush 256, 3) := by decide +kernel
theorem dHi_become_29 : decode prog_2_method_5_code 29 = .ok (.invokestatic 27, 3) := by decide +kernel
theorem dHi_become_32 : decode prog_2_method_5_code 32 = .ok (.return_, 1) := by decide +kernel
theorem dRk_combine_0 : decode prog_6_method_3_code 0 = .ok (.iload_n 0, 1) := by decide +kernel
theorem dRk_combine_1 : decode prog_6_method_3_code 1 = .ok (.tableswitch 111 6 12 #[43, 47, 51, 55, 71, 87, 99], 43) := by decide +kernel
theorem dRk_combine_44 : decode prog_6_method_3_code 44 = .ok (.lload_n 1, 1) := by decide +kernel
theorem dRk_combine_45 : decode prog_6_method_3_code 45 = .ok (.lload_n 3, 1) := by decide +kernel
theorem dRk_combine_46 : decode prog_6_method_3_code 46 = .ok (.ladd, 1) := by decide +kernel
theorem dRk_combine_47 : decode prog_6_method_3_code 47 = .ok (.lreturn, 1) := by decide +kernel
theorem dRk_combine_48 : decode prog_6_method_3_code 48 = .ok (.lload_n 1, 1) := by decide +kernel
theorem dRk_combine_49 : decode prog_6_method_3_code 49 = .ok (.lload_n 3, 1) := by decide +kernel
theorem dRk_combine_50 : decode prog_6_method_3_code 50 = .ok (.lsub, 1) := by decide +kernel
theorem dRk_combine_51 : decode prog_6_method_3_code 51 = .ok (.lreturn, 1) := by decide +kernel
theorem dRk_combine_52 : decode prog_6_method_3_code 52 = .ok (.lload_n 1, 1) := by decide +kernel
theorem dRk_combine_53 : decode prog_6_method_3_code 53 = .ok (.lload_n 3, 1) := by decide +kernel
theorem dRk_combine_54 : decode prog_6_method_3_code 54 = .ok (.lmul, 1) := by decide +kernel
theorem dRk_combine_55 : decode prog_6_method_3_code 55 = .ok (.lreturn, 1) := by decide +kernel
theorem dRk_combine_56 : decode prog_6_method_3_code 56 = .ok (.lload_n 3, 1) := by decide +kernel
theorem dRk_combine_57 : decode prog_6_method_3_code 57 = .ok (.lconst 0, 1) := by decide +kernel
theorem dRk_combine_58 : decode prog_6_method_3_code 58 = .ok (.lcmp, 1) := by decide +kernel
theorem dRk_combine_59 : decode prog_6_method_3_code 59 = .ok (.ifCond .ne 9, 3) := by decide +kernel
theorem dRk_combine_62 : decode prog_6_method_3_code 62 = .ok (.ldc2_w 36, 3) := by decide +kernel
theorem dRk_combine_65 : decode prog_6_method_3_code 65 = .ok (.goto 6, 3) := by decide +kernel
theorem dRk_combine_68 : decode prog_6_method_3_code 68 = .ok (.lload_n 1, 1) := by decide +kernel
theorem dRk_combine_69 : decode prog_6_method_3_code 69 = .ok (.lload_n 3, 1) := by decide +kernel
theorem dRk_combine_70 : decode prog_6_method_3_code 70 = .ok (.ldiv, 1) := by decide +kernel
theorem dRk_combine_71 : decode prog_6_method_3_code 71 = .ok (.lreturn, 1) := by decide +kernel
theorem dRk_combine_72 : decode prog_6_method_3_code 72 = .ok (.lload_n 3, 1) := by decide +kernel
theorem dRk_combine_73 : decode prog_6_method_3_code 73 = .ok (.lconst 0, 1) := by decide +kernel
theorem dRk_combine_74 : decode prog_6_method_3_code 74 = .ok (.lcmp, 1) := by decide +kernel
theorem dRk_combine_75 : decode prog_6_method_3_code 75 = .ok (.ifCond .ne 9, 3) := by decide +kernel
theorem dRk_combine_78 : decode prog_6_method_3_code 78 = .ok (.ldc2_w 36, 3) := by decide +kernel
theorem dRk_combine_81 : decode prog_6_method_3_code 81 = .ok (.goto 6, 3) := by decide +kernel
theorem dRk_combine_84 : decode prog_6_method_3_code 84 = .ok (.lload_n 1, 1) := by decide +kernel
theorem dRk_combine_85 : decode prog_6_method_3_code 85 = .ok (.lload_n 3, 1) := by decide +kernel
theorem dRk_combine_86 : decode prog_6_method_3_code 86 = .ok (.lrem, 1) := by decide +kernel
theorem dRk_combine_87 : decode prog_6_method_3_code 87 = .ok (.lreturn, 1) := by decide +kernel
theorem dRk_combine_88 : decode prog_6_method_3_code 88 = .ok (.lload_n 1, 1) := by decide +kernel
theorem dRk_combine_89 : decode prog_6_method_3_code 89 = .ok (.lload_n 3, 1) := by decide +kernel
theorem dRk_combine_90 : decode prog_6_method_3_code 90 = .ok (.lcmp, 1) := by decide +kernel
theorem dRk_combine_91 : decode prog_6_method_3_code 91 = .ok (.ifCond .ge 7, 3) := by decide +kernel
theorem dRk_combine_94 : decode prog_6_method_3_code 94 = .ok (.lconst 1, 1) := by decide +kernel
theorem dRk_combine_95 : decode prog_6_method_3_code 95 = .ok (.goto 4, 3) := by decide +kernel
theorem dRk_combine_98 : decode prog_6_method_3_code 98 = .ok (.lconst 0, 1) := by decide +kernel
theorem dRk_combine_99 : decode prog_6_method_3_code 99 = .ok (.lreturn, 1) := by decide +kernel
theorem dRk_combine_100 : decode prog_6_method_3_code 100 = .ok (.lload_n 1, 1) := by decide +kernel
theorem dRk_combine_101 : decode prog_6_method_3_code 101 = .ok (.lload_n 3, 1) := by decide +kernel
theorem dRk_combine_102 : decode prog_6_method_3_code 102 = .ok (.lcmp, 1) := by decide +kernel
theorem dRk_combine_103 : decode prog_6_method_3_code 103 = .ok (.ifCond .le 7, 3) := by decide +kernel
theorem dRk_combine_106 : decode prog_6_method_3_code 106 = .ok (.lconst 1, 1) := by decide +kernel
theorem dRk_combine_107 : decode prog_6_method_3_code 107 = .ok (.goto 4, 3) := by decide +kernel
theorem dRk_combine_110 : decode prog_6_method_3_code 110 = .ok (.lconst 0, 1) := by decide +kernel
theorem dRk_combine_111 : decode prog_6_method_3_code 111 = .ok (.lreturn, 1) := by decide +kernel
theorem dRk_combine_112 : decode prog_6_method_3_code 112 = .ok (.lload_n 1, 1) := by decide +kernel
theorem dRk_combine_113 : decode prog_6_method_3_code 113 = .ok (.lload_n 3, 1) := by decide +kernel
theorem dRk_combine_114 : decode prog_6_method_3_code 114 = .ok (.lcmp, 1) := by decide +kernel
theorem dRk_combine_115 : decode prog_6_method_3_code 115 = .ok (.ifCond .ne 7, 3) := by decide +kernel
theorem dRk_combine_118 : decode prog_6_method_3_code 118 = .ok (.lconst 1, 1) := by decide +kernel
theorem dRk_combine_119 : decode prog_6_method_3_code 119 = .ok (.goto 4, 3) := by decide +kernel
theorem dRk_combine_122 : decode prog_6_method_3_code 122 = .ok (.lconst 0, 1) := by decide +kernel
theorem dRk_combine_123 : decode prog_6_method_3_code 123 = .ok (.lreturn, 1) := by decide +kernel
theorem dJu_ask_0 : decode prog_3_method_7_code 0 = .ok (.aload_n 0, 1) := by decide +kernel
theorem dJu_ask_1 : decode prog_3_method_7_code 1 = .ok (.getfield 18, 3) := by decide +kernel
theorem dJu_ask_4 : decode prog_3_method_7_code 4 = .ok (.iconst 0, 1) := by decide +kernel
theorem dJu_ask_5 : decode prog_3_method_7_code 5 = .ok (.iload_n 2, 1) := by decide +kernel
theorem dJu_ask_6 : decode prog_3_method_7_code 6 = .ok (.iastore, 1) := by decide +kernel
theorem dJu_ask_7 : decode prog_3_method_7_code 7 = .ok (.aload_n 0, 1) := by decide +kernel
theorem dJu_ask_8 : decode prog_3_method_7_code 8 = .ok (.getfield 18, 3) := by decide +kernel
theorem dJu_ask_11 : decode prog_3_method_7_code 11 = .ok (.iconst 1, 1) := by decide +kernel
theorem dJu_ask_12 : decode prog_3_method_7_code 12 = .ok (.aload_n 1, 1) := by decide +kernel
theorem dJu_ask_13 : decode prog_3_method_7_code 13 = .ok (.getfield 36, 3) := by decide +kernel
theorem dJu_ask_16 : decode prog_3_method_7_code 16 = .ok (.iload_n 2, 1) := by decide +kernel
theorem dJu_ask_17 : decode prog_3_method_7_code 17 = .ok (.iaload, 1) := by decide +kernel
theorem dJu_ask_18 : decode prog_3_method_7_code 18 = .ok (.iastore, 1) := by decide +kernel
theorem dJu_ask_19 : decode prog_3_method_7_code 19 = .ok (.aload_n 0, 1) := by decide +kernel
theorem dJu_ask_20 : decode prog_3_method_7_code 20 = .ok (.getfield 18, 3) := by decide +kernel
theorem dJu_ask_23 : decode prog_3_method_7_code 23 = .ok (.iconst 2, 1) := by decide +kernel
theorem dJu_ask_24 : decode prog_3_method_7_code 24 = .ok (.aload_n 1, 1) := by decide +kernel
theorem dJu_ask_25 : decode prog_3_method_7_code 25 = .ok (.getfield 71, 3) := by decide +kernel
theorem dJu_ask_28 : decode prog_3_method_7_code 28 = .ok (.iload_n 2, 1) := by decide +kernel
theorem dJu_ask_29 : decode prog_3_method_7_code 29 = .ok (.iaload, 1) := by decide +kernel
theorem dJu_ask_30 : decode prog_3_method_7_code 30 = .ok (.iastore, 1) := by decide +kernel
theorem dJu_ask_31 : decode prog_3_method_7_code 31 = .ok (.aload_n 0, 1) := by decide +kernel
theorem dJu_ask_32 : decode prog_3_method_7_code 32 = .ok (.getfield 18, 3) := by decide +kernel
theorem dJu_ask_35 : decode prog_3_method_7_code 35 = .ok (.iconst 3, 1) := by decide +kernel
theorem dJu_ask_36 : decode prog_3_method_7_code 36 = .ok (.iload_n 3, 1) := by decide +kernel
theorem dJu_ask_37 : decode prog_3_method_7_code 37 = .ok (.iastore, 1) := by decide +kernel
theorem dJu_ask_38 : decode prog_3_method_7_code 38 = .ok (.aload_n 0, 1) := by decide +kernel
theorem dJu_ask_39 : decode prog_3_method_7_code 39 = .ok (.getfield 18, 3) := by decide +kernel
theorem dJu_ask_42 : decode prog_3_method_7_code 42 = .ok (.iconst 4, 1) := by decide +kernel
theorem dJu_ask_43 : decode prog_3_method_7_code 43 = .ok (.iload_n 3, 1) := by decide +kernel
theorem dJu_ask_44 : decode prog_3_method_7_code 44 = .ok (.iconst 3, 1) := by decide +kernel
theorem dJu_ask_45 : decode prog_3_method_7_code 45 = .ok (.isub, 1) := by decide +kernel
theorem dJu_ask_46 : decode prog_3_method_7_code 46 = .ok (.iastore, 1) := by decide +kernel
theorem dJu_ask_47 : decode prog_3_method_7_code 47 = .ok (.aload_n 0, 1) := by decide +kernel
theorem dJu_ask_48 : decode prog_3_method_7_code 48 = .ok (.getfield 18, 3) := by decide +kernel
theorem dJu_ask_51 : decode prog_3_method_7_code 51 = .ok (.iconst 5, 1) := by decide +kernel
theorem dJu_ask_52 : decode prog_3_method_7_code 52 = .ok (.aload_n 1, 1) := by decide +kernel
theorem dJu_ask_53 : decode prog_3_method_7_code 53 = .ok (.getfield 68, 3) := by decide +kernel
theorem dJu_ask_56 : decode prog_3_method_7_code 56 = .ok (.iconst 0, 1) := by decide +kernel
theorem dJu_ask_57 : decode prog_3_method_7_code 57 = .ok (.iaload, 1) := by decide +kernel
theorem dJu_ask_58 : decode prog_3_method_7_code 58 = .ok (.iastore, 1) := by decide +kernel
theorem dJu_ask_59 : decode prog_3_method_7_code 59 = .ok (.aload_n 0, 1) := by decide +kernel
theorem dJu_ask_60 : decode prog_3_method_7_code 60 = .ok (.getfield 18, 3) := by decide +kernel
theorem dJu_ask_63 : decode prog_3_method_7_code 63 = .ok (.bipush 6, 2) := by decide +kernel
theorem dJu_ask_65 : decode prog_3_method_7_code 65 = .ok (.aload_n 1, 1) := by decide +kernel
theorem dJu_ask_66 : decode prog_3_method_7_code 66 = .ok (.getfield 68, 3) := by decide +kernel
theorem dJu_ask_69 : decode prog_3_method_7_code 69 = .ok (.iconst 2, 1) := by decide +kernel
theorem dJu_ask_70 : decode prog_3_method_7_code 70 = .ok (.iaload, 1) := by decide +kernel
theorem dJu_ask_71 : decode prog_3_method_7_code 71 = .ok (.iastore, 1) := by decide +kernel
theorem dJu_ask_72 : decode prog_3_method_7_code 72 = .ok (.aload_n 0, 1) := by decide +kernel
theorem dJu_ask_73 : decode prog_3_method_7_code 73 = .ok (.getfield 18, 3) := by decide +kernel
theorem dJu_ask_76 : decode prog_3_method_7_code 76 = .ok (.bipush 7, 2) := by decide +kernel
theorem dJu_ask_78 : decode prog_3_method_7_code 78 = .ok (.aload_n 1, 1) := by decide +kernel
theorem dJu_ask_79 : decode prog_3_method_7_code 79 = .ok (.getfield 68, 3) := by decide +kernel
theorem dJu_ask_82 : decode prog_3_method_7_code 82 = .ok (.iconst 3, 1) := by decide +kernel
theorem dJu_ask_83 : decode prog_3_method_7_code 83 = .ok (.iaload, 1) := by decide +kernel
theorem dJu_ask_84 : decode prog_3_method_7_code 84 = .ok (.iastore, 1) := by decide +kernel
theorem dJu_ask_85 : decode prog_3_method_7_code 85 = .ok (.return_, 1) := by decide +kernel
theorem dRe_append_0 : decode prog_5_method_2_code 0 = .ok (.bipush 24, 2) := by decide +kernel
theorem dRe_append_2 : decode prog_5_method_2_code 2 = .ok (.istore_n 2, 1) := by decide +kernel
theorem dRe_append_3 : decode prog_5_method_2_code 3 = .ok (.iload_n 2, 1) := by decide +kernel
theorem dRe_append_4 : decode prog_5_method_2_code 4 = .ok (.ifCond .lt 45, 3) := by decide +kernel
theorem dRe_append_7 : decode prog_5_method_2_code 7 = .ok (.aload_n 0, 1) := by decide +kernel
theorem dRe_append_8 : decode prog_5_method_2_code 8 = .ok (.getfield 28, 3) := by decide +kernel
theorem dRe_append_11 : decode prog_5_method_2_code 11 = .ok (.sipush 400, 3) := by decide +kernel
theorem dRe_append_14 : decode prog_5_method_2_code 14 = .ok (.if_icmp .ge 35, 3) := by decide +kernel
theorem dRe_append_17 : decode prog_5_method_2_code 17 = .ok (.aload_n 0, 1) := by decide +kernel
theorem dRe_append_18 : decode prog_5_method_2_code 18 = .ok (.getfield 9, 3) := by decide +kernel
theorem dRe_append_21 : decode prog_5_method_2_code 21 = .ok (.aload_n 0, 1) := by decide +kernel
theorem dRe_append_22 : decode prog_5_method_2_code 22 = .ok (.getfield 28, 3) := by decide +kernel
theorem dRe_append_25 : decode prog_5_method_2_code 25 = .ok (.iload_n 1, 1) := by decide +kernel
theorem dRe_append_26 : decode prog_5_method_2_code 26 = .ok (.iload_n 2, 1) := by decide +kernel
theorem dRe_append_27 : decode prog_5_method_2_code 27 = .ok (.iushr, 1) := by decide +kernel
theorem dRe_append_28 : decode prog_5_method_2_code 28 = .ok (.sipush 255, 3) := by decide +kernel
theorem dRe_append_31 : decode prog_5_method_2_code 31 = .ok (.iand, 1) := by decide +kernel
theorem dRe_append_32 : decode prog_5_method_2_code 32 = .ok (.iastore, 1) := by decide +kernel
theorem dRe_append_33 : decode prog_5_method_2_code 33 = .ok (.aload_n 0, 1) := by decide +kernel
theorem dRe_append_34 : decode prog_5_method_2_code 34 = .ok (.dup, 1) := by decide +kernel
theorem dRe_append_35 : decode prog_5_method_2_code 35 = .ok (.getfield 28, 3) := by decide +kernel
theorem dRe_append_38 : decode prog_5_method_2_code 38 = .ok (.iconst 1, 1) := by decide +kernel
theorem dRe_append_39 : decode prog_5_method_2_code 39 = .ok (.iadd, 1) := by decide +kernel
theorem dRe_append_40 : decode prog_5_method_2_code 40 = .ok (.putfield 28, 3) := by decide +kernel
theorem dRe_append_43 : decode prog_5_method_2_code 43 = .ok (.iinc 2 (-8), 3) := by decide +kernel
theorem dRe_append_46 : decode prog_5_method_2_code 46 = .ok (.goto (-43), 3) := by decide +kernel
theorem dRe_append_49 : decode prog_5_method_2_code 49 = .ok (.return_, 1) := by decide +kernel
theorem dRe_fail_0 : decode prog_5_method_4_code 0 = .ok (.aload_n 0, 1) := by decide +kernel
theorem dRe_fail_1 : decode prog_5_method_4_code 1 = .ok (.getfield 24, 3) := by decide +kernel
theorem dRe_fail_4 : decode prog_5_method_4_code 4 = .ok (.iconst (-1), 1) := by decide +kernel
theorem dRe_fail_5 : decode prog_5_method_4_code 5 = .ok (.if_icmp .ne 11, 3) := by decide +kernel
theorem dRe_fail_8 : decode prog_5_method_4_code 8 = .ok (.aload_n 0, 1) := by decide +kernel
theorem dRe_fail_9 : decode prog_5_method_4_code 9 = .ok (.aload_n 0, 1) := by decide +kernel
theorem dRe_fail_10 : decode prog_5_method_4_code 10 = .ok (.getfield 71, 3) := by decide +kernel
theorem dRe_fail_13 : decode prog_5_method_4_code 13 = .ok (.putfield 24, 3) := by decide +kernel
theorem dRe_fail_16 : decode prog_5_method_4_code 16 = .ok (.aload_n 0, 1) := by decide +kernel
theorem dRe_fail_17 : decode prog_5_method_4_code 17 = .ok (.aload_n 0, 1) := by decide +kernel
theorem dRe_fail_18 : decode prog_5_method_4_code 18 = .ok (.getfield 28, 3) := by decide +kernel
theorem dRe_fail_21 : decode prog_5_method_4_code 21 = .ok (.putfield 71, 3) := by decide +kernel
theorem dRe_fail_24 : decode prog_5_method_4_code 24 = .ok (.aload_n 0, 1) := by decide +kernel
theorem dRe_fail_25 : decode prog_5_method_4_code 25 = .ok (.aload_n 0, 1) := by decide +kernel
theorem dRe_fail_26 : decode prog_5_method_4_code 26 = .ok (.getfield 28, 3) := by decide +kernel
theorem dRe_fail_29 : decode prog_5_method_4_code 29 = .ok (.putfield 35, 3) := by decide +kernel
theorem dRe_fail_32 : decode prog_5_method_4_code 32 = .ok (.return_, 1) := by decide +kernel
theorem dRe_sortOf_0 : decode prog_5_method_6_code 0 = .ok (.iload_n 0, 1) := by decide +kernel
theorem dRe_sortOf_1 : decode prog_5_method_6_code 1 = .ok (.bipush 97, 2) := by decide +kernel
theorem dRe_sortOf_3 : decode prog_5_method_6_code 3 = .ok (.if_icmp .lt 11, 3) := by decide +kernel
theorem dRe_sortOf_6 : decode prog_5_method_6_code 6 = .ok (.iload_n 0, 1) := by decide +kernel
theorem dRe_sortOf_7 : decode prog_5_method_6_code 7 = .ok (.bipush 122, 2) := by decide +kernel
theorem dRe_sortOf_9 : decode prog_5_method_6_code 9 = .ok (.if_icmp .gt 5, 3) := by decide +kernel
theorem dRe_sortOf_12 : decode prog_5_method_6_code 12 = .ok (.iconst 1, 1) := by decide +kernel
theorem dRe_sortOf_13 : decode prog_5_method_6_code 13 = .ok (.ireturn, 1) := by decide +kernel
theorem dRe_sortOf_14 : decode prog_5_method_6_code 14 = .ok (.iload_n 0, 1) := by decide +kernel
theorem dRe_sortOf_15 : decode prog_5_method_6_code 15 = .ok (.bipush 48, 2) := by decide +kernel
theorem dRe_sortOf_17 : decode prog_5_method_6_code 17 = .ok (.if_icmp .lt 13, 3) := by decide +kernel
theorem dRe_sortOf_20 : decode prog_5_method_6_code 20 = .ok (.iload_n 0, 1) := by decide +kernel
theorem dRe_sortOf_21 : decode prog_5_method_6_code 21 = .ok (.bipush 57, 2) := by decide +kernel
theorem dRe_sortOf_23 : decode prog_5_method_6_code 23 = .ok (.if_icmp .gt 7, 3) := by decide +kernel
theorem dRe_sortOf_26 : decode prog_5_method_6_code 26 = .ok (.iconst 2, 1) := by decide +kernel
theorem dRe_sortOf_27 : decode prog_5_method_6_code 27 = .ok (.goto 4, 3) := by decide +kernel
theorem dRe_sortOf_30 : decode prog_5_method_6_code 30 = .ok (.iconst 0, 1) := by decide +kernel
theorem dRe_sortOf_31 : decode prog_5_method_6_code 31 = .ok (.ireturn, 1) := by decide +kernel
theorem dRe_isToken_0 : decode prog_5_method_7_code 0 = .ok (.aload_n 0, 1) := by decide +kernel
theorem dRe_isToken_1 : decode prog_5_method_7_code 1 = .ok (.getfield 35, 3) := by decide +kernel
theorem dRe_isToken_4 : decode prog_5_method_7_code 4 = .ok (.aload_n 0, 1) := by decide +kernel
theorem dRe_isToken_5 : decode prog_5_method_7_code 5 = .ok (.getfield 71, 3) := by decide +kernel
theorem dRe_isToken_8 : decode prog_5_method_7_code 8 = .ok (.isub, 1) := by decide +kernel
theorem dRe_isToken_9 : decode prog_5_method_7_code 9 = .ok (.aload_n 1, 1) := by decide +kernel
theorem dRe_isToken_10 : decode prog_5_method_7_code 10 = .ok (.invokevirtual 81, 3) := by decide +kernel
theorem dRe_isToken_13 : decode prog_5_method_7_code 13 = .ok (.if_icmp .eq 5, 3) := by decide +kernel
theorem dRe_isToken_16 : decode prog_5_method_7_code 16 = .ok (.iconst 0, 1) := by decide +kernel
theorem dRe_isToken_17 : decode prog_5_method_7_code 17 = .ok (.ireturn, 1) := by decide +kernel
theorem dRe_isToken_18 : decode prog_5_method_7_code 18 = .ok (.iconst 0, 1) := by decide +kernel
theorem dRe_isToken_19 : decode prog_5_method_7_code 19 = .ok (.istore_n 2, 1) := by decide +kernel
theorem dRe_isToken_20 : decode prog_5_method_7_code 20 = .ok (.iload_n 2, 1) := by decide +kernel
theorem dRe_isToken_21 : decode prog_5_method_7_code 21 = .ok (.aload_n 1, 1) := by decide +kernel
theorem dRe_isToken_22 : decode prog_5_method_7_code 22 = .ok (.invokevirtual 81, 3) := by decide +kernel
theorem dRe_isToken_25 : decode prog_5_method_7_code 25 = .ok (.if_icmp .ge 30, 3) := by decide +kernel
theorem dRe_isToken_28 : decode prog_5_method_7_code 28 = .ok (.aload_n 0, 1) := by decide +kernel
theorem dRe_isToken_29 : decode prog_5_method_7_code 29 = .ok (.getfield 9, 3) := by decide +kernel
theorem dRe_isToken_32 : decode prog_5_method_7_code 32 = .ok (.aload_n 0, 1) := by decide +kernel
theorem dRe_isToken_33 : decode prog_5_method_7_code 33 = .ok (.getfield 71, 3) := by decide +kernel
theorem dRe_isToken_36 : decode prog_5_method_7_code 36 = .ok (.iload_n 2, 1) := by decide +kernel
theorem dRe_isToken_37 : decode prog_5_method_7_code 37 = .ok (.iadd, 1) := by decide +kernel
theorem dRe_isToken_38 : decode prog_5_method_7_code 38 = .ok (.iaload, 1) := by decide +kernel
theorem dRe_isToken_39 : decode prog_5_method_7_code 39 = .ok (.aload_n 1, 1) := by decide +kernel
theorem dRe_isToken_40 : decode prog_5_method_7_code 40 = .ok (.iload_n 2, 1) := by decide +kernel
theorem dRe_isToken_41 : decode prog_5_method_7_code 41 = .ok (.invokevirtual 86, 3) := by decide +kernel
theorem dRe_isToken_44 : decode prog_5_method_7_code 44 = .ok (.if_icmp .eq 5, 3) := by decide +kernel
theorem dRe_isToken_47 : decode prog_5_method_7_code 47 = .ok (.iconst 0, 1) := by decide +kernel
theorem dRe_isToken_48 : decode prog_5_method_7_code 48 = .ok (.ireturn, 1) := by decide +kernel
theorem dRe_isToken_49 : decode prog_5_method_7_code 49 = .ok (.iinc 2 1, 3) := by decide +kernel
theorem dRe_isToken_52 : decode prog_5_method_7_code 52 = .ok (.goto (-32), 3) := by decide +kernel
theorem dRe_isToken_55 : decode prog_5_method_7_code 55 = .ok (.iconst 1, 1) := by decide +kernel
theorem dRe_isToken_56 : decode prog_5_method_7_code 56 = .ok (.ireturn, 1) := by decide +kernel
theorem dRe_numberFrom_0 : decode prog_5_method_10_code 0 = .ok (.aload_n 0, 1) := by decide +kernel
theorem dRe_numberFrom_1 : decode prog_5_method_10_code 1 = .ok (.getfield 71, 3) := by decide +kernel
theorem dRe_numberFrom_4 : decode prog_5_method_10_code 4 = .ok (.aload_n 0, 1) := by decide +kernel
theorem dRe_numberFrom_5 : decode prog_5_method_10_code 5 = .ok (.getfield 28, 3) := by decide +kernel
theorem dRe_numberFrom_8 : decode prog_5_method_10_code 8 = .ok (.if_icmp .ge 19, 3) := by decide +kernel
theorem dRe_numberFrom_11 : decode prog_5_method_10_code 11 = .ok (.aload_n 0, 1) := by decide +kernel
theorem dRe_numberFrom_12 : decode prog_5_method_10_code 12 = .ok (.getfield 9, 3) := by decide +kernel
theorem dRe_numberFrom_15 : decode prog_5_method_10_code 15 = .ok (.aload_n 0, 1) := by decide +kernel
theorem dRe_numberFrom_16 : decode prog_5_method_10_code 16 = .ok (.getfield 71, 3) := by decide +kernel
theorem dRe_numberFrom_19 : decode prog_5_method_10_code 19 = .ok (.iaload, 1) := by decide +kernel
theorem dRe_numberFrom_20 : decode prog_5_method_10_code 20 = .ok (.invokestatic 77, 3) := by decide +kernel
theorem dRe_numberFrom_23 : decode prog_5_method_10_code 23 = .ok (.iconst 2, 1) := by decide +kernel
theorem dRe_numberFrom_24 : decode prog_5_method_10_code 24 = .ok (.if_icmp .eq 5, 3) := by decide +kernel
theorem dRe_numberFrom_27 : decode prog_5_method_10_code 27 = .ok (.iconst (-1), 1) := by decide +kernel
theorem dRe_numberFrom_28 : decode prog_5_method_10_code 28 = .ok (.ireturn, 1) := by decide +kernel
theorem dRe_numberFrom_29 : decode prog_5_method_10_code 29 = .ok (.iconst 0, 1) := by decide +kernel
theorem dRe_numberFrom_30 : decode prog_5_method_10_code 30 = .ok (.istore_n 3, 1) := by decide +kernel
theorem dRe_numberFrom_31 : decode prog_5_method_10_code 31 = .ok (.aload_n 0, 1) := by decide +kernel
theorem dRe_numberFrom_32 : decode prog_5_method_10_code 32 = .ok (.getfield 71, 3) := by decide +kernel
theorem dRe_numberFrom_35 : decode prog_5_method_10_code 35 = .ok (.istore 4, 2) := by decide +kernel
theorem dRe_numberFrom_37 : decode prog_5_method_10_code 37 = .ok (.iload 4, 2) := by decide +kernel
theorem dRe_numberFrom_39 : decode prog_5_method_10_code 39 = .ok (.aload_n 0, 1) := by decide +kernel
theorem dRe_numberFrom_40 : decode prog_5_method_10_code 40 = .ok (.getfield 35, 3) := by decide +kernel
theorem dRe_numberFrom_43 : decode prog_5_method_10_code 43 = .ok (.if_icmp .ge 31, 3) := by decide +kernel
theorem dRe_numberFrom_46 : decode prog_5_method_10_code 46 = .ok (.iload_n 3, 1) := by decide +kernel
theorem dRe_numberFrom_47 : decode prog_5_method_10_code 47 = .ok (.bipush 10, 2) := by decide +kernel
theorem dRe_numberFrom_49 : decode prog_5_method_10_code 49 = .ok (.imul, 1) := by decide +kernel
theorem dRe_numberFrom_50 : decode prog_5_method_10_code 50 = .ok (.aload_n 0, 1) := by decide +kernel
theorem dRe_numberFrom_51 : decode prog_5_method_10_code 51 = .ok (.getfield 9, 3) := by decide +kernel
theorem dRe_numberFrom_54 : decode prog_5_method_10_code 54 = .ok (.iload 4, 2) := by decide +kernel
theorem dRe_numberFrom_56 : decode prog_5_method_10_code 56 = .ok (.iaload, 1) := by decide +kernel
theorem dRe_numberFrom_57 : decode prog_5_method_10_code 57 = .ok (.iadd, 1) := by decide +kernel
theorem dRe_numberFrom_58 : decode prog_5_method_10_code 58 = .ok (.bipush 48, 2) := by decide +kernel
theorem dRe_numberFrom_60 : decode prog_5_method_10_code 60 = .ok (.isub, 1) := by decide +kernel
theorem dRe_numberFrom_61 : decode prog_5_method_10_code 61 = .ok (.sipush 1001, 3) := by decide +kernel
theorem dRe_numberFrom_64 : decode prog_5_method_10_code 64 = .ok (.invokestatic 93, 3) := by decide +kernel
theorem dRe_numberFrom_67 : decode prog_5_method_10_code 67 = .ok (.istore_n 3, 1) := by decide +kernel
theorem dRe_numberFrom_68 : decode prog_5_method_10_code 68 = .ok (.iinc 4 1, 3) := by decide +kernel
theorem dRe_numberFrom_71 : decode prog_5_method_10_code 71 = .ok (.goto (-34), 3) := by decide +kernel
theorem dRe_numberFrom_74 : decode prog_5_method_10_code 74 = .ok (.iload_n 3, 1) := by decide +kernel
theorem dRe_numberFrom_75 : decode prog_5_method_10_code 75 = .ok (.iload_n 1, 1) := by decide +kernel
theorem dRe_numberFrom_76 : decode prog_5_method_10_code 76 = .ok (.if_icmp .lt 12, 3) := by decide +kernel
theorem dRe_numberFrom_79 : decode prog_5_method_10_code 79 = .ok (.iload_n 3, 1) := by decide +kernel
theorem dRe_numberFrom_80 : decode prog_5_method_10_code 80 = .ok (.iload_n 2, 1) := by decide +kernel
theorem dRe_numberFrom_81 : decode prog_5_method_10_code 81 = .ok (.if_icmp .gt 7, 3) := by decide +kernel
theorem dRe_numberFrom_84 : decode prog_5_method_10_code 84 = .ok (.iload_n 3, 1) := by decide +kernel
theorem dRe_numberFrom_85 : decode prog_5_method_10_code 85 = .ok (.goto 4, 3) := by decide +kernel
theorem dRe_numberFrom_88 : decode prog_5_method_10_code 88 = .ok (.iconst (-1), 1) := by decide +kernel
theorem dRe_numberFrom_89 : decode prog_5_method_10_code 89 = .ok (.ireturn, 1) := by decide +kernel
theorem dRe_emit_0 : decode prog_5_method_12_code 0 = .ok (.aload_n 0, 1) := by decide +kernel
theorem dRe_emit_1 : decode prog_5_method_12_code 1 = .ok (.getfield 20, 3) := by decide +kernel
theorem dRe_emit_4 : decode prog_5_method_12_code 4 = .ok (.getfield 44, 3) := by decide +kernel
theorem dRe_emit_7 : decode prog_5_method_12_code 7 = .ok (.sipush 512, 3) := by decide +kernel
theorem dRe_emit_10 : decode prog_5_method_12_code 10 = .ok (.if_icmp .ge 41, 3) := by decide +kernel
theorem dRe_emit_13 : decode prog_5_method_12_code 13 = .ok (.aload_n 0, 1) := by decide +kernel
theorem dRe_emit_14 : decode prog_5_method_12_code 14 = .ok (.getfield 20, 3) := by decide +kernel
theorem dRe_emit_17 : decode prog_5_method_12_code 17 = .ok (.getfield 102, 3) := by decide +kernel
theorem dRe_emit_20 : decode prog_5_method_12_code 20 = .ok (.aload_n 0, 1) := by decide +kernel
theorem dRe_emit_21 : decode prog_5_method_12_code 21 = .ok (.getfield 20, 3) := by decide +kernel
theorem dRe_emit_24 : decode prog_5_method_12_code 24 = .ok (.getfield 44, 3) := by decide +kernel
theorem dRe_emit_27 : decode prog_5_method_12_code 27 = .ok (.iload_n 1, 1) := by decide +kernel
theorem dRe_emit_28 : decode prog_5_method_12_code 28 = .ok (.sipush 2048, 3) := by decide +kernel
theorem dRe_emit_31 : decode prog_5_method_12_code 31 = .ok (.imul, 1) := by decide +kernel
theorem dRe_emit_32 : decode prog_5_method_12_code 32 = .ok (.iload_n 2, 1) := by decide +kernel
theorem dRe_emit_33 : decode prog_5_method_12_code 33 = .ok (.iadd, 1) := by decide +kernel
theorem dRe_emit_34 : decode prog_5_method_12_code 34 = .ok (.iastore, 1) := by decide +kernel
theorem dRe_emit_35 : decode prog_5_method_12_code 35 = .ok (.aload_n 0, 1) := by decide +kernel
theorem dRe_emit_36 : decode prog_5_method_12_code 36 = .ok (.getfield 20, 3) := by decide +kernel
theorem dRe_emit_39 : decode prog_5_method_12_code 39 = .ok (.dup, 1) := by decide +kernel
theorem dRe_emit_40 : decode prog_5_method_12_code 40 = .ok (.getfield 44, 3) := by decide +kernel
theorem dRe_emit_43 : decode prog_5_method_12_code 43 = .ok (.iconst 1, 1) := by decide +kernel
theorem dRe_emit_44 : decode prog_5_method_12_code 44 = .ok (.iadd, 1) := by decide +kernel
theorem dRe_emit_45 : decode prog_5_method_12_code 45 = .ok (.putfield 44, 3) := by decide +kernel
theorem dRe_emit_48 : decode prog_5_method_12_code 48 = .ok (.goto 7, 3) := by decide +kernel
theorem dRe_emit_51 : decode prog_5_method_12_code 51 = .ok (.aload_n 0, 1) := by decide +kernel
theorem dRe_emit_52 : decode prog_5_method_12_code 52 = .ok (.invokevirtual 74, 3) := by decide +kernel
theorem dRe_emit_55 : decode prog_5_method_12_code 55 = .ok (.return_, 1) := by decide +kernel
theorem dRe_leadHere_0 : decode prog_5_method_13_code 0 = .ok (.iload_n 1, 1) := by decide +kernel
theorem dRe_leadHere_1 : decode prog_5_method_13_code 1 = .ok (.sipush 512, 3) := by decide +kernel
theorem dRe_leadHere_4 : decode prog_5_method_13_code 4 = .ok (.if_icmp .ge 25, 3) := by decide +kernel
theorem dRe_leadHere_7 : decode prog_5_method_13_code 7 = .ok (.aload_n 0, 1) := by decide +kernel
theorem dRe_leadHere_8 : decode prog_5_method_13_code 8 = .ok (.getfield 20, 3) := by decide +kernel
theorem dRe_leadHere_11 : decode prog_5_method_13_code 11 = .ok (.getfield 102, 3) := by decide +kernel
theorem dRe_leadHere_14 : decode prog_5_method_13_code 14 = .ok (.iload_n 1, 1) := by decide +kernel
theorem dRe_leadHere_15 : decode prog_5_method_13_code 15 = .ok (.iload_n 2, 1) := by decide +kernel
theorem dRe_leadHere_16 : decode prog_5_method_13_code 16 = .ok (.sipush 2048, 3) := by decide +kernel
theorem dRe_leadHere_19 : decode prog_5_method_13_code 19 = .ok (.imul, 1) := by decide +kernel
theorem dRe_leadHere_20 : decode prog_5_method_13_code 20 = .ok (.aload_n 0, 1) := by decide +kernel
theorem dRe_leadHere_21 : decode prog_5_method_13_code 21 = .ok (.getfield 20, 3) := by decide +kernel
theorem dRe_leadHere_24 : decode prog_5_method_13_code 24 = .ok (.getfield 44, 3) := by decide +kernel
theorem dRe_leadHere_27 : decode prog_5_method_13_code 27 = .ok (.iadd, 1) := by decide +kernel
theorem dRe_leadHere_28 : decode prog_5_method_13_code 28 = .ok (.iastore, 1) := by decide +kernel
theorem dRe_leadHere_29 : decode prog_5_method_13_code 29 = .ok (.return_, 1) := by decide +kernel
theorem dRe_lawWord_0 : decode prog_5_method_26_code 0 = .ok (.aload_n 0, 1) := by decide +kernel
theorem dRe_lawWord_1 : decode prog_5_method_26_code 1 = .ok (.ldc 219, 2) := by decide +kernel
theorem dRe_lawWord_3 : decode prog_5_method_26_code 3 = .ok (.invokevirtual 90, 3) := by decide +kernel
theorem dRe_lawWord_6 : decode prog_5_method_26_code 6 = .ok (.ifCond .eq 5, 3) := by decide +kernel
theorem dRe_lawWord_9 : decode prog_5_method_26_code 9 = .ok (.iconst 0, 1) := by decide +kernel
theorem dRe_lawWord_10 : decode prog_5_method_26_code 10 = .ok (.ireturn, 1) := by decide +kernel
theorem dRe_lawWord_11 : decode prog_5_method_26_code 11 = .ok (.aload_n 0, 1) := by decide +kernel
theorem dRe_lawWord_12 : decode prog_5_method_26_code 12 = .ok (.ldc 221, 2) := by decide +kernel
theorem dRe_lawWord_14 : decode prog_5_method_26_code 14 = .ok (.invokevirtual 90, 3) := by decide +kernel
theorem dRe_lawWord_17 : decode prog_5_method_26_code 17 = .ok (.ifCond .eq 5, 3) := by decide +kernel
theorem dRe_lawWord_20 : decode prog_5_method_26_code 20 = .ok (.iconst 1, 1) := by decide +kernel
theorem dRe_lawWord_21 : decode prog_5_method_26_code 21 = .ok (.ireturn, 1) := by decide +kernel
theorem dRe_lawWord_22 : decode prog_5_method_26_code 22 = .ok (.aload_n 0, 1) := by decide +kernel
theorem dRe_lawWord_23 : decode prog_5_method_26_code 23 = .ok (.ldc 223, 2) := by decide +kernel
theorem dRe_lawWord_25 : decode prog_5_method_26_code 25 = .ok (.invokevirtual 90, 3) := by decide +kernel
theorem dRe_lawWord_28 : decode prog_5_method_26_code 28 = .ok (.ifCond .eq 5, 3) := by decide +kernel
theorem dRe_lawWord_31 : decode prog_5_method_26_code 31 = .ok (.iconst 2, 1) := by decide +kernel
theorem dRe_lawWord_32 : decode prog_5_method_26_code 32 = .ok (.ireturn, 1) := by decide +kernel
theorem dRe_lawWord_33 : decode prog_5_method_26_code 33 = .ok (.aload_n 0, 1) := by decide +kernel
theorem dRe_lawWord_34 : decode prog_5_method_26_code 34 = .ok (.ldc 225, 2) := by decide +kernel
theorem dRe_lawWord_36 : decode prog_5_method_26_code 36 = .ok (.invokevirtual 90, 3) := by decide +kernel
theorem dRe_lawWord_39 : decode prog_5_method_26_code 39 = .ok (.ifCond .eq 5, 3) := by decide +kernel
theorem dRe_lawWord_42 : decode prog_5_method_26_code 42 = .ok (.iconst 3, 1) := by decide +kernel
theorem dRe_lawWord_43 : decode prog_5_method_26_code 43 = .ok (.ireturn, 1) := by decide +kernel
theorem dRe_lawWord_44 : decode prog_5_method_26_code 44 = .ok (.aload_n 0, 1) := by decide +kernel
theorem dRe_lawWord_45 : decode prog_5_method_26_code 45 = .ok (.ldc 227, 2) := by decide +kernel
theorem dRe_lawWord_47 : decode prog_5_method_26_code 47 = .ok (.invokevirtual 90, 3) := by decide +kernel
theorem dRe_lawWord_50 : decode prog_5_method_26_code 50 = .ok (.ifCond .eq 5, 3) := by decide +kernel
theorem dRe_lawWord_53 : decode prog_5_method_26_code 53 = .ok (.iconst 4, 1) := by decide +kernel
theorem dRe_lawWord_54 : decode prog_5_method_26_code 54 = .ok (.ireturn, 1) := by decide +kernel
theorem dRe_lawWord_55 : decode prog_5_method_26_code 55 = .ok (.aload_n 0, 1) := by decide +kernel
theorem dRe_lawWord_56 : decode prog_5_method_26_code 56 = .ok (.ldc 229, 2) := by decide +kernel
theorem dRe_lawWord_58 : decode prog_5_method_26_code 58 = .ok (.invokevirtual 90, 3) := by decide +kernel
theorem dRe_lawWord_61 : decode prog_5_method_26_code 61 = .ok (.ifCond .eq 5, 3) := by decide +kernel
theorem dRe_lawWord_64 : decode prog_5_method_26_code 64 = .ok (.iconst 5, 1) := by decide +kernel
theorem dRe_lawWord_65 : decode prog_5_method_26_code 65 = .ok (.ireturn, 1) := by decide +kernel
theorem dRe_lawWord_66 : decode prog_5_method_26_code 66 = .ok (.aload_n 0, 1) := by decide +kernel
theorem dRe_lawWord_67 : decode prog_5_method_26_code 67 = .ok (.ldc 231, 2) := by decide +kernel
theorem dRe_lawWord_69 : decode prog_5_method_26_code 69 = .ok (.invokevirtual 90, 3) := by decide +kernel
theorem dRe_lawWord_72 : decode prog_5_method_26_code 72 = .ok (.ifCond .eq 6, 3) := by decide +kernel
theorem dRe_lawWord_75 : decode prog_5_method_26_code 75 = .ok (.bipush 6, 2) := by decide +kernel
theorem dRe_lawWord_77 : decode prog_5_method_26_code 77 = .ok (.ireturn, 1) := by decide +kernel
theorem dRe_lawWord_78 : decode prog_5_method_26_code 78 = .ok (.aload_n 0, 1) := by decide +kernel
theorem dRe_lawWord_79 : decode prog_5_method_26_code 79 = .ok (.ldc 233, 2) := by decide +kernel
theorem dRe_lawWord_81 : decode prog_5_method_26_code 81 = .ok (.invokevirtual 90, 3) := by decide +kernel
theorem dRe_lawWord_84 : decode prog_5_method_26_code 84 = .ok (.ifCond .eq 8, 3) := by decide +kernel
theorem dRe_lawWord_87 : decode prog_5_method_26_code 87 = .ok (.bipush 7, 2) := by decide +kernel
theorem dRe_lawWord_89 : decode prog_5_method_26_code 89 = .ok (.goto 4, 3) := by decide +kernel
theorem dRe_lawWord_92 : decode prog_5_method_26_code 92 = .ok (.iconst (-1), 1) := by decide +kernel
theorem dRe_lawWord_93 : decode prog_5_method_26_code 93 = .ok (.ireturn, 1) := by decide +kernel
theorem dRe_orderWord_0 : decode prog_5_method_27_code 0 = .ok (.aload_n 0, 1) := by decide +kernel
theorem dRe_orderWord_1 : decode prog_5_method_27_code 1 = .ok (.ldc 229, 2) := by decide +kernel
theorem dRe_orderWord_3 : decode prog_5_method_27_code 3 = .ok (.invokevirtual 90, 3) := by decide +kernel
theorem dRe_orderWord_6 : decode prog_5_method_27_code 6 = .ok (.ifCond .eq 5, 3) := by decide +kernel
theorem dRe_orderWord_9 : decode prog_5_method_27_code 9 = .ok (.iconst 0, 1) := by decide +kernel
theorem dRe_orderWord_10 : decode prog_5_method_27_code 10 = .ok (.ireturn, 1) := by decide +kernel
theorem dRe_orderWord_11 : decode prog_5_method_27_code 11 = .ok (.aload_n 0, 1) := by decide +kernel
theorem dRe_orderWord_12 : decode prog_5_method_27_code 12 = .ok (.ldc 235, 2) := by decide +kernel
theorem dRe_orderWord_14 : decode prog_5_method_27_code 14 = .ok (.invokevirtual 90, 3) := by decide +kernel
theorem dRe_orderWord_17 : decode prog_5_method_27_code 17 = .ok (.ifCond .eq 5, 3) := by decide +kernel
theorem dRe_orderWord_20 : decode prog_5_method_27_code 20 = .ok (.iconst 1, 1) := by decide +kernel
theorem dRe_orderWord_21 : decode prog_5_method_27_code 21 = .ok (.ireturn, 1) := by decide +kernel
theorem dRe_orderWord_22 : decode prog_5_method_27_code 22 = .ok (.aload_n 0, 1) := by decide +kernel
theorem dRe_orderWord_23 : decode prog_5_method_27_code 23 = .ok (.ldc 237, 2) := by decide +kernel
theorem dRe_orderWord_25 : decode prog_5_method_27_code 25 = .ok (.invokevirtual 90, 3) := by decide +kernel
theorem dRe_orderWord_28 : decode prog_5_method_27_code 28 = .ok (.ifCond .eq 5, 3) := by decide +kernel
theorem dRe_orderWord_31 : decode prog_5_method_27_code 31 = .ok (.iconst 2, 1) := by decide +kernel
theorem dRe_orderWord_32 : decode prog_5_method_27_code 32 = .ok (.ireturn, 1) := by decide +kernel
theorem dRe_orderWord_33 : decode prog_5_method_27_code 33 = .ok (.aload_n 0, 1) := by decide +kernel
theorem dRe_orderWord_34 : decode prog_5_method_27_code 34 = .ok (.ldc 239, 2) := by decide +kernel
theorem dRe_orderWord_36 : decode prog_5_method_27_code 36 = .ok (.invokevirtual 90, 3) := by decide +kernel
theorem dRe_orderWord_39 : decode prog_5_method_27_code 39 = .ok (.ifCond .eq 5, 3) := by decide +kernel
theorem dRe_orderWord_42 : decode prog_5_method_27_code 42 = .ok (.iconst 3, 1) := by decide +kernel
theorem dRe_orderWord_43 : decode prog_5_method_27_code 43 = .ok (.ireturn, 1) := by decide +kernel
theorem dRe_orderWord_44 : decode prog_5_method_27_code 44 = .ok (.aload_n 0, 1) := by decide +kernel
theorem dRe_orderWord_45 : decode prog_5_method_27_code 45 = .ok (.ldc 241, 2) := by decide +kernel
theorem dRe_orderWord_47 : decode prog_5_method_27_code 47 = .ok (.invokevirtual 90, 3) := by decide +kernel
theorem dRe_orderWord_50 : decode prog_5_method_27_code 50 = .ok (.ifCond .eq 5, 3) := by decide +kernel
theorem dRe_orderWord_53 : decode prog_5_method_27_code 53 = .ok (.iconst 4, 1) := by decide +kernel
theorem dRe_orderWord_54 : decode prog_5_method_27_code 54 = .ok (.ireturn, 1) := by decide +kernel
theorem dRe_orderWord_55 : decode prog_5_method_27_code 55 = .ok (.aload_n 0, 1) := by decide +kernel
theorem dRe_orderWord_56 : decode prog_5_method_27_code 56 = .ok (.ldc 221, 2) := by decide +kernel
theorem dRe_orderWord_58 : decode prog_5_method_27_code 58 = .ok (.invokevirtual 90, 3) := by decide +kernel
theorem dRe_orderWord_61 : decode prog_5_method_27_code 61 = .ok (.ifCond .eq 5, 3) := by decide +kernel
theorem dRe_orderWord_64 : decode prog_5_method_27_code 64 = .ok (.iconst 5, 1) := by decide +kernel
theorem dRe_orderWord_65 : decode prog_5_method_27_code 65 = .ok (.ireturn, 1) := by decide +kernel
theorem dRe_orderWord_66 : decode prog_5_method_27_code 66 = .ok (.aload_n 0, 1) := by decide +kernel
theorem dRe_orderWord_67 : decode prog_5_method_27_code 67 = .ok (.ldc 126, 2) := by decide +kernel
theorem dRe_orderWord_69 : decode prog_5_method_27_code 69 = .ok (.invokevirtual 90, 3) := by decide +kernel
theorem dRe_orderWord_72 : decode prog_5_method_27_code 72 = .ok (.ifCond .eq 8, 3) := by decide +kernel
theorem dRe_orderWord_75 : decode prog_5_method_27_code 75 = .ok (.bipush 12, 2) := by decide +kernel
theorem dRe_orderWord_77 : decode prog_5_method_27_code 77 = .ok (.goto 4, 3) := by decide +kernel
theorem dRe_orderWord_80 : decode prog_5_method_27_code 80 = .ok (.iconst (-1), 1) := by decide +kernel
theorem dRe_orderWord_81 : decode prog_5_method_27_code 81 = .ok (.ireturn, 1) := by decide +kernel
theorem dRo_clear_0 : decode prog_7_method_2_code 0 = .ok (.aload_n 0, 1) := by decide +kernel
theorem dRo_clear_1 : decode prog_7_method_2_code 1 = .ok (.getfield 15, 3) := by decide +kernel
theorem dRo_clear_4 : decode prog_7_method_2_code 4 = .ok (.iconst 0, 1) := by decide +kernel
theorem dRo_clear_5 : decode prog_7_method_2_code 5 = .ok (.invokestatic 32, 3) := by decide +kernel
theorem dRo_clear_8 : decode prog_7_method_2_code 8 = .ok (.return_, 1) := by decide +kernel
theorem dRo_offer_0 : decode prog_7_method_3_code 0 = .ok (.aload_n 0, 1) := by decide +kernel
theorem dRo_offer_1 : decode prog_7_method_3_code 1 = .ok (.getfield 15, 3) := by decide +kernel
theorem dRo_offer_4 : decode prog_7_method_3_code 4 = .ok (.iload_n 1, 1) := by decide +kernel
theorem dRo_offer_5 : decode prog_7_method_3_code 5 = .ok (.iaload, 1) := by decide +kernel
theorem dRo_offer_6 : decode prog_7_method_3_code 6 = .ok (.istore 5, 2) := by decide +kernel
theorem dRo_offer_8 : decode prog_7_method_3_code 8 = .ok (.iload 5, 2) := by decide +kernel
theorem dRo_offer_10 : decode prog_7_method_3_code 10 = .ok (.bipush 7, 2) := by decide +kernel
theorem dRo_offer_12 : decode prog_7_method_3_code 12 = .ok (.if_icmp .ge 44, 3) := by decide +kernel
theorem dRo_offer_15 : decode prog_7_method_3_code 15 = .ok (.aload_n 0, 1) := by decide +kernel
theorem dRo_offer_16 : decode prog_7_method_3_code 16 = .ok (.getfield 20, 3) := by decide +kernel
theorem dRo_offer_19 : decode prog_7_method_3_code 19 = .ok (.iload_n 1, 1) := by decide +kernel
theorem dRo_offer_20 : decode prog_7_method_3_code 20 = .ok (.aaload, 1) := by decide +kernel
theorem dRo_offer_21 : decode prog_7_method_3_code 21 = .ok (.iload 5, 2) := by decide +kernel
theorem dRo_offer_23 : decode prog_7_method_3_code 23 = .ok (.iload_n 2, 1) := by decide +kernel
theorem dRo_offer_24 : decode prog_7_method_3_code 24 = .ok (.iastore, 1) := by decide +kernel
theorem dRo_offer_25 : decode prog_7_method_3_code 25 = .ok (.aload_n 0, 1) := by decide +kernel
theorem dRo_offer_26 : decode prog_7_method_3_code 26 = .ok (.getfield 23, 3) := by decide +kernel
theorem dRo_offer_29 : decode prog_7_method_3_code 29 = .ok (.iload_n 1, 1) := by decide +kernel
theorem dRo_offer_30 : decode prog_7_method_3_code 30 = .ok (.aaload, 1) := by decide +kernel
theorem dRo_offer_31 : decode prog_7_method_3_code 31 = .ok (.iload 5, 2) := by decide +kernel
theorem dRo_offer_33 : decode prog_7_method_3_code 33 = .ok (.iload_n 3, 1) := by decide +kernel
theorem dRo_offer_34 : decode prog_7_method_3_code 34 = .ok (.iastore, 1) := by decide +kernel
theorem dRo_offer_35 : decode prog_7_method_3_code 35 = .ok (.aload_n 0, 1) := by decide +kernel
theorem dRo_offer_36 : decode prog_7_method_3_code 36 = .ok (.getfield 26, 3) := by decide +kernel
theorem dRo_offer_39 : decode prog_7_method_3_code 39 = .ok (.iload_n 1, 1) := by decide +kernel
theorem dRo_offer_40 : decode prog_7_method_3_code 40 = .ok (.aaload, 1) := by decide +kernel
theorem dRo_offer_41 : decode prog_7_method_3_code 41 = .ok (.iload 5, 2) := by decide +kernel
theorem dRo_offer_43 : decode prog_7_method_3_code 43 = .ok (.iload 4, 2) := by decide +kernel
theorem dRo_offer_45 : decode prog_7_method_3_code 45 = .ok (.iastore, 1) := by decide +kernel
theorem dRo_offer_46 : decode prog_7_method_3_code 46 = .ok (.aload_n 0, 1) := by decide +kernel
theorem dRo_offer_47 : decode prog_7_method_3_code 47 = .ok (.getfield 15, 3) := by decide +kernel
theorem dRo_offer_50 : decode prog_7_method_3_code 50 = .ok (.iload_n 1, 1) := by decide +kernel
theorem dRo_offer_51 : decode prog_7_method_3_code 51 = .ok (.iload 5, 2) := by decide +kernel
theorem dRo_offer_53 : decode prog_7_method_3_code 53 = .ok (.iconst 1, 1) := by decide +kernel
theorem dRo_offer_54 : decode prog_7_method_3_code 54 = .ok (.iadd, 1) := by decide +kernel
theorem dRo_offer_55 : decode prog_7_method_3_code 55 = .ok (.iastore, 1) := by decide +kernel
theorem dRo_offer_56 : decode prog_7_method_3_code 56 = .ok (.return_, 1) := by decide +kernel
theorem dRo_tallyFrom_0 : decode prog_7_method_5_code 0 = .ok (.iload_n 1, 1) := by decide +kernel
theorem dRo_tallyFrom_1 : decode prog_7_method_5_code 1 = .ok (.bipush 7, 2) := by decide +kernel
theorem dRo_tallyFrom_3 : decode prog_7_method_5_code 3 = .ok (.if_icmp .lt 48, 3) := by decide +kernel
theorem dRo_tallyFrom_6 : decode prog_7_method_5_code 6 = .ok (.iload_n 2, 1) := by decide +kernel
theorem dRo_tallyFrom_7 : decode prog_7_method_5_code 7 = .ok (.sipush 891, 3) := by decide +kernel
theorem dRo_tallyFrom_10 : decode prog_7_method_5_code 10 = .ok (.iadd, 1) := by decide +kernel
theorem dRo_tallyFrom_11 : decode prog_7_method_5_code 11 = .ok (.iconst 1, 1) := by decide +kernel
theorem dRo_tallyFrom_12 : decode prog_7_method_5_code 12 = .ok (.iadd, 1) := by decide +kernel
theorem dRo_tallyFrom_13 : decode prog_7_method_5_code 13 = .ok (.istore 4, 2) := by decide +kernel
theorem dRo_tallyFrom_15 : decode prog_7_method_5_code 15 = .ok (.iload 4, 2) := by decide +kernel
theorem dRo_tallyFrom_17 : decode prog_7_method_5_code 17 = .ok (.ifCond .le 33, 3) := by decide +kernel
theorem dRo_tallyFrom_20 : decode prog_7_method_5_code 20 = .ok (.iload 4, 2) := by decide +kernel
theorem dRo_tallyFrom_22 : decode prog_7_method_5_code 22 = .ok (.sipush 1784, 3) := by decide +kernel
theorem dRo_tallyFrom_25 : decode prog_7_method_5_code 25 = .ok (.if_icmp .ge 25, 3) := by decide +kernel
theorem dRo_tallyFrom_28 : decode prog_7_method_5_code 28 = .ok (.iload_n 3, 1) := by decide +kernel
theorem dRo_tallyFrom_29 : decode prog_7_method_5_code 29 = .ok (.ifCond .lt 21, 3) := by decide +kernel
theorem dRo_tallyFrom_32 : decode prog_7_method_5_code 32 = .ok (.iload_n 3, 1) := by decide +kernel
theorem dRo_tallyFrom_33 : decode prog_7_method_5_code 33 = .ok (.iconst 3, 1) := by decide +kernel
theorem dRo_tallyFrom_34 : decode prog_7_method_5_code 34 = .ok (.if_icmp .gt 16, 3) := by decide +kernel
theorem dRo_tallyFrom_37 : decode prog_7_method_5_code 37 = .ok (.aload_n 0, 1) := by decide +kernel
theorem dRo_tallyFrom_38 : decode prog_7_method_5_code 38 = .ok (.getfield 29, 3) := by decide +kernel
theorem dRo_tallyFrom_41 : decode prog_7_method_5_code 41 = .ok (.iload_n 3, 1) := by decide +kernel
theorem dRo_tallyFrom_42 : decode prog_7_method_5_code 42 = .ok (.aaload, 1) := by decide +kernel
theorem dRo_tallyFrom_43 : decode prog_7_method_5_code 43 = .ok (.iload 4, 2) := by decide +kernel
theorem dRo_tallyFrom_45 : decode prog_7_method_5_code 45 = .ok (.dup2, 1) := by decide +kernel
theorem dRo_tallyFrom_46 : decode prog_7_method_5_code 46 = .ok (.iaload, 1) := by decide +kernel
theorem dRo_tallyFrom_47 : decode prog_7_method_5_code 47 = .ok (.iconst 1, 1) := by decide +kernel
theorem dRo_tallyFrom_48 : decode prog_7_method_5_code 48 = .ok (.iadd, 1) := by decide +kernel
theorem dRo_tallyFrom_49 : decode prog_7_method_5_code 49 = .ok (.iastore, 1) := by decide +kernel
theorem dRo_tallyFrom_50 : decode prog_7_method_5_code 50 = .ok (.return_, 1) := by decide +kernel
theorem dRo_tallyFrom_51 : decode prog_7_method_5_code 51 = .ok (.iconst 0, 1) := by decide +kernel
theorem dRo_tallyFrom_52 : decode prog_7_method_5_code 52 = .ok (.istore 4, 2) := by decide +kernel
theorem dRo_tallyFrom_54 : decode prog_7_method_5_code 54 = .ok (.iload 4, 2) := by decide +kernel
theorem dRo_tallyFrom_56 : decode prog_7_method_5_code 56 = .ok (.aload_n 0, 1) := by decide +kernel
theorem dRo_tallyFrom_57 : decode prog_7_method_5_code 57 = .ok (.getfield 15, 3) := by decide +kernel
theorem dRo_tallyFrom_60 : decode prog_7_method_5_code 60 = .ok (.iload_n 1, 1) := by decide +kernel
theorem dRo_tallyFrom_61 : decode prog_7_method_5_code 61 = .ok (.iaload, 1) := by decide +kernel
theorem dRo_tallyFrom_62 : decode prog_7_method_5_code 62 = .ok (.if_icmp .ge 38, 3) := by decide +kernel
theorem dRo_tallyFrom_65 : decode prog_7_method_5_code 65 = .ok (.aload_n 0, 1) := by decide +kernel
theorem dRo_tallyFrom_66 : decode prog_7_method_5_code 66 = .ok (.iload_n 1, 1) := by decide +kernel
theorem dRo_tallyFrom_67 : decode prog_7_method_5_code 67 = .ok (.iconst 1, 1) := by decide +kernel
theorem dRo_tallyFrom_68 : decode prog_7_method_5_code 68 = .ok (.iadd, 1) := by decide +kernel
theorem dRo_tallyFrom_69 : decode prog_7_method_5_code 69 = .ok (.iload_n 2, 1) := by decide +kernel
theorem dRo_tallyFrom_70 : decode prog_7_method_5_code 70 = .ok (.aload_n 0, 1) := by decide +kernel
theorem dRo_tallyFrom_71 : decode prog_7_method_5_code 71 = .ok (.getfield 23, 3) := by decide +kernel
theorem dRo_tallyFrom_74 : decode prog_7_method_5_code 74 = .ok (.iload_n 1, 1) := by decide +kernel
theorem dRo_tallyFrom_75 : decode prog_7_method_5_code 75 = .ok (.aaload, 1) := by decide +kernel
theorem dRo_tallyFrom_76 : decode prog_7_method_5_code 76 = .ok (.iload 4, 2) := by decide +kernel
theorem dRo_tallyFrom_78 : decode prog_7_method_5_code 78 = .ok (.iaload, 1) := by decide +kernel
theorem dRo_tallyFrom_79 : decode prog_7_method_5_code 79 = .ok (.iadd, 1) := by decide +kernel
theorem dRo_tallyFrom_80 : decode prog_7_method_5_code 80 = .ok (.iload_n 3, 1) := by decide +kernel
theorem dRo_tallyFrom_81 : decode prog_7_method_5_code 81 = .ok (.aload_n 0, 1) := by decide +kernel
theorem dRo_tallyFrom_82 : decode prog_7_method_5_code 82 = .ok (.getfield 26, 3) := by decide +kernel
theorem dRo_tallyFrom_85 : decode prog_7_method_5_code 85 = .ok (.iload_n 1, 1) := by decide +kernel
theorem dRo_tallyFrom_86 : decode prog_7_method_5_code 86 = .ok (.aaload, 1) := by decide +kernel
theorem dRo_tallyFrom_87 : decode prog_7_method_5_code 87 = .ok (.iload 4, 2) := by decide +kernel
theorem dRo_tallyFrom_89 : decode prog_7_method_5_code 89 = .ok (.iaload, 1) := by decide +kernel
theorem dRo_tallyFrom_90 : decode prog_7_method_5_code 90 = .ok (.iadd, 1) := by decide +kernel
theorem dRo_tallyFrom_91 : decode prog_7_method_5_code 91 = .ok (.invokevirtual 38, 3) := by decide +kernel
theorem dRo_tallyFrom_94 : decode prog_7_method_5_code 94 = .ok (.iinc 4 1, 3) := by decide +kernel
theorem dRo_tallyFrom_97 : decode prog_7_method_5_code 97 = .ok (.goto (-43), 3) := by decide +kernel
theorem dRo_tallyFrom_100 : decode prog_7_method_5_code 100 = .ok (.return_, 1) := by decide +kernel
theorem dRo_manyTails_0 : decode prog_7_method_8_code 0 = .ok (.aload_n 0, 1) := by decide +kernel
theorem dRo_manyTails_1 : decode prog_7_method_8_code 1 = .ok (.getfield 42, 3) := by decide +kernel
theorem dRo_manyTails_4 : decode prog_7_method_8_code 4 = .ok (.iload_n 2, 1) := by decide +kernel
theorem dRo_manyTails_5 : decode prog_7_method_8_code 5 = .ok (.isub, 1) := by decide +kernel
theorem dRo_manyTails_6 : decode prog_7_method_8_code 6 = .ok (.istore_n 3, 1) := by decide +kernel
theorem dRo_manyTails_7 : decode prog_7_method_8_code 7 = .ok (.aload_n 0, 1) := by decide +kernel
theorem dRo_manyTails_8 : decode prog_7_method_8_code 8 = .ok (.getfield 46, 3) := by decide +kernel
theorem dRo_manyTails_11 : decode prog_7_method_8_code 11 = .ok (.ineg, 1) := by decide +kernel
theorem dRo_manyTails_12 : decode prog_7_method_8_code 12 = .ok (.iload_n 1, 1) := by decide +kernel
theorem dRo_manyTails_13 : decode prog_7_method_8_code 13 = .ok (.isub, 1) := by decide +kernel
theorem dRo_manyTails_14 : decode prog_7_method_8_code 14 = .ok (.sipush (-891), 3) := by decide +kernel
theorem dRo_manyTails_17 : decode prog_7_method_8_code 17 = .ok (.invokestatic 57, 3) := by decide +kernel
theorem dRo_manyTails_20 : decode prog_7_method_8_code 20 = .ok (.sipush 891, 3) := by decide +kernel
theorem dRo_manyTails_23 : decode prog_7_method_8_code 23 = .ok (.iadd, 1) := by decide +kernel
theorem dRo_manyTails_24 : decode prog_7_method_8_code 24 = .ok (.istore 4, 2) := by decide +kernel
theorem dRo_manyTails_26 : decode prog_7_method_8_code 26 = .ok (.aload_n 0, 1) := by decide +kernel
theorem dRo_manyTails_27 : decode prog_7_method_8_code 27 = .ok (.getfield 46, 3) := by decide +kernel
theorem dRo_manyTails_30 : decode prog_7_method_8_code 30 = .ok (.iload_n 1, 1) := by decide +kernel
theorem dRo_manyTails_31 : decode prog_7_method_8_code 31 = .ok (.isub, 1) := by decide +kernel
theorem dRo_manyTails_32 : decode prog_7_method_8_code 32 = .ok (.sipush 891, 3) := by decide +kernel
theorem dRo_manyTails_35 : decode prog_7_method_8_code 35 = .ok (.invokestatic 62, 3) := by decide +kernel
theorem dRo_manyTails_38 : decode prog_7_method_8_code 38 = .ok (.sipush 891, 3) := by decide +kernel
theorem dRo_manyTails_41 : decode prog_7_method_8_code 41 = .ok (.iadd, 1) := by decide +kernel
theorem dRo_manyTails_42 : decode prog_7_method_8_code 42 = .ok (.iconst 1, 1) := by decide +kernel
theorem dRo_manyTails_43 : decode prog_7_method_8_code 43 = .ok (.iadd, 1) := by decide +kernel
theorem dRo_manyTails_44 : decode prog_7_method_8_code 44 = .ok (.istore 5, 2) := by decide +kernel
theorem dRo_manyTails_46 : decode prog_7_method_8_code 46 = .ok (.iload_n 3, 1) := by decide +kernel
theorem dRo_manyTails_47 : decode prog_7_method_8_code 47 = .ok (.ifCond .lt 28, 3) := by decide +kernel
theorem dRo_manyTails_50 : decode prog_7_method_8_code 50 = .ok (.iload_n 3, 1) := by decide +kernel
theorem dRo_manyTails_51 : decode prog_7_method_8_code 51 = .ok (.iconst 3, 1) := by decide +kernel
theorem dRo_manyTails_52 : decode prog_7_method_8_code 52 = .ok (.if_icmp .gt 23, 3) := by decide +kernel
theorem dRo_manyTails_55 : decode prog_7_method_8_code 55 = .ok (.iload 4, 2) := by decide +kernel
theorem dRo_manyTails_57 : decode prog_7_method_8_code 57 = .ok (.ifCond .lt 18, 3) := by decide +kernel
theorem dRo_manyTails_60 : decode prog_7_method_8_code 60 = .ok (.iload 4, 2) := by decide +kernel
theorem dRo_manyTails_62 : decode prog_7_method_8_code 62 = .ok (.iload 5, 2) := by decide +kernel
theorem dRo_manyTails_64 : decode prog_7_method_8_code 64 = .ok (.if_icmp .ge 11, 3) := by decide +kernel
theorem dRo_manyTails_67 : decode prog_7_method_8_code 67 = .ok (.iload 5, 2) := by decide +kernel
theorem dRo_manyTails_69 : decode prog_7_method_8_code 69 = .ok (.sipush 1784, 3) := by decide +kernel
theorem dRo_manyTails_72 : decode prog_7_method_8_code 72 = .ok (.if_icmp .lt 5, 3) := by decide +kernel
theorem dRo_manyTails_75 : decode prog_7_method_8_code 75 = .ok (.iconst 0, 1) := by decide +kernel
theorem dRo_manyTails_76 : decode prog_7_method_8_code 76 = .ok (.ireturn, 1) := by decide +kernel
theorem dRo_manyTails_77 : decode prog_7_method_8_code 77 = .ok (.aload_n 0, 1) := by decide +kernel
theorem dRo_manyTails_78 : decode prog_7_method_8_code 78 = .ok (.getfield 29, 3) := by decide +kernel
theorem dRo_manyTails_81 : decode prog_7_method_8_code 81 = .ok (.iload_n 3, 1) := by decide +kernel
theorem dRo_manyTails_82 : decode prog_7_method_8_code 82 = .ok (.aaload, 1) := by decide +kernel
theorem dRo_manyTails_83 : decode prog_7_method_8_code 83 = .ok (.iload 5, 2) := by decide +kernel
theorem dRo_manyTails_85 : decode prog_7_method_8_code 85 = .ok (.iaload, 1) := by decide +kernel
theorem dRo_manyTails_86 : decode prog_7_method_8_code 86 = .ok (.aload_n 0, 1) := by decide +kernel
theorem dRo_manyTails_87 : decode prog_7_method_8_code 87 = .ok (.getfield 29, 3) := by decide +kernel
theorem dRo_manyTails_90 : decode prog_7_method_8_code 90 = .ok (.iload_n 3, 1) := by decide +kernel
theorem dRo_manyTails_91 : decode prog_7_method_8_code 91 = .ok (.aaload, 1) := by decide +kernel
theorem dRo_manyTails_92 : decode prog_7_method_8_code 92 = .ok (.iload 4, 2) := by decide +kernel
theorem dRo_manyTails_94 : decode prog_7_method_8_code 94 = .ok (.iaload, 1) := by decide +kernel
theorem dRo_manyTails_95 : decode prog_7_method_8_code 95 = .ok (.isub, 1) := by decide +kernel
theorem dRo_manyTails_96 : decode prog_7_method_8_code 96 = .ok (.ireturn, 1) := by decide +kernel
theorem dRo_findsFrom_0 : decode prog_7_method_10_code 0 = .ok (.iload_n 1, 1) := by decide +kernel
theorem dRo_findsFrom_1 : decode prog_7_method_10_code 1 = .ok (.bipush 7, 2) := by decide +kernel
theorem dRo_findsFrom_3 : decode prog_7_method_10_code 3 = .ok (.if_icmp .lt 28, 3) := by decide +kernel
theorem dRo_findsFrom_6 : decode prog_7_method_10_code 6 = .ok (.iload_n 3, 1) := by decide +kernel
theorem dRo_findsFrom_7 : decode prog_7_method_10_code 7 = .ok (.aload_n 0, 1) := by decide +kernel
theorem dRo_findsFrom_8 : decode prog_7_method_10_code 8 = .ok (.getfield 42, 3) := by decide +kernel
theorem dRo_findsFrom_11 : decode prog_7_method_10_code 11 = .ok (.if_icmp .ne 18, 3) := by decide +kernel
theorem dRo_findsFrom_14 : decode prog_7_method_10_code 14 = .ok (.iload_n 2, 1) := by decide +kernel
theorem dRo_findsFrom_15 : decode prog_7_method_10_code 15 = .ok (.invokestatic 69, 3) := by decide +kernel
theorem dRo_findsFrom_18 : decode prog_7_method_10_code 18 = .ok (.aload_n 0, 1) := by decide +kernel
theorem dRo_findsFrom_19 : decode prog_7_method_10_code 19 = .ok (.getfield 46, 3) := by decide +kernel
theorem dRo_findsFrom_22 : decode prog_7_method_10_code 22 = .ok (.if_icmp .gt 7, 3) := by decide +kernel
theorem dRo_findsFrom_25 : decode prog_7_method_10_code 25 = .ok (.iconst 1, 1) := by decide +kernel
theorem dRo_findsFrom_26 : decode prog_7_method_10_code 26 = .ok (.goto 4, 3) := by decide +kernel
theorem dRo_findsFrom_29 : decode prog_7_method_10_code 29 = .ok (.iconst 0, 1) := by decide +kernel
theorem dRo_findsFrom_30 : decode prog_7_method_10_code 30 = .ok (.ireturn, 1) := by decide +kernel
theorem dRo_findsFrom_31 : decode prog_7_method_10_code 31 = .ok (.iload_n 1, 1) := by decide +kernel
theorem dRo_findsFrom_32 : decode prog_7_method_10_code 32 = .ok (.iconst 4, 1) := by decide +kernel
theorem dRo_findsFrom_33 : decode prog_7_method_10_code 33 = .ok (.if_icmp .ne 14, 3) := by decide +kernel
theorem dRo_findsFrom_36 : decode prog_7_method_10_code 36 = .ok (.aload_n 0, 1) := by decide +kernel
theorem dRo_findsFrom_37 : decode prog_7_method_10_code 37 = .ok (.iload_n 2, 1) := by decide +kernel
theorem dRo_findsFrom_38 : decode prog_7_method_10_code 38 = .ok (.iload_n 3, 1) := by decide +kernel
theorem dRo_findsFrom_39 : decode prog_7_method_10_code 39 = .ok (.invokevirtual 53, 3) := by decide +kernel
theorem dRo_findsFrom_42 : decode prog_7_method_10_code 42 = .ok (.ifCond .ne 5, 3) := by decide +kernel
theorem dRo_findsFrom_45 : decode prog_7_method_10_code 45 = .ok (.iconst 0, 1) := by decide +kernel
theorem dRo_findsFrom_46 : decode prog_7_method_10_code 46 = .ok (.ireturn, 1) := by decide +kernel
theorem dRo_findsFrom_47 : decode prog_7_method_10_code 47 = .ok (.iconst 0, 1) := by decide +kernel
theorem dRo_findsFrom_48 : decode prog_7_method_10_code 48 = .ok (.istore 4, 2) := by decide +kernel
theorem dRo_findsFrom_50 : decode prog_7_method_10_code 50 = .ok (.iload 4, 2) := by decide +kernel
theorem dRo_findsFrom_52 : decode prog_7_method_10_code 52 = .ok (.aload_n 0, 1) := by decide +kernel
theorem dRo_findsFrom_53 : decode prog_7_method_10_code 53 = .ok (.getfield 15, 3) := by decide +kernel
theorem dRo_findsFrom_56 : decode prog_7_method_10_code 56 = .ok (.iload_n 1, 1) := by decide +kernel
theorem dRo_findsFrom_57 : decode prog_7_method_10_code 57 = .ok (.iaload, 1) := by decide +kernel
theorem dRo_findsFrom_58 : decode prog_7_method_10_code 58 = .ok (.if_icmp .ge 58, 3) := by decide +kernel
theorem dRo_findsFrom_61 : decode prog_7_method_10_code 61 = .ok (.aload_n 0, 1) := by decide +kernel
theorem dRo_findsFrom_62 : decode prog_7_method_10_code 62 = .ok (.getfield 11, 3) := by decide +kernel
theorem dRo_findsFrom_65 : decode prog_7_method_10_code 65 = .ok (.iload_n 1, 1) := by decide +kernel
theorem dRo_findsFrom_66 : decode prog_7_method_10_code 66 = .ok (.aload_n 0, 1) := by decide +kernel
theorem dRo_findsFrom_67 : decode prog_7_method_10_code 67 = .ok (.getfield 20, 3) := by decide +kernel
theorem dRo_findsFrom_70 : decode prog_7_method_10_code 70 = .ok (.iload_n 1, 1) := by decide +kernel
theorem dRo_findsFrom_71 : decode prog_7_method_10_code 71 = .ok (.aaload, 1) := by decide +kernel
theorem dRo_findsFrom_72 : decode prog_7_method_10_code 72 = .ok (.iload 4, 2) := by decide +kernel
theorem dRo_findsFrom_74 : decode prog_7_method_10_code 74 = .ok (.iaload, 1) := by decide +kernel
theorem dRo_findsFrom_75 : decode prog_7_method_10_code 75 = .ok (.iastore, 1) := by decide +kernel
theorem dRo_findsFrom_76 : decode prog_7_method_10_code 76 = .ok (.aload_n 0, 1) := by decide +kernel
theorem dRo_findsFrom_77 : decode prog_7_method_10_code 77 = .ok (.iload_n 1, 1) := by decide +kernel
theorem dRo_findsFrom_78 : decode prog_7_method_10_code 78 = .ok (.iconst 1, 1) := by decide +kernel
theorem dRo_findsFrom_79 : decode prog_7_method_10_code 79 = .ok (.iadd, 1) := by decide +kernel
theorem dRo_findsFrom_80 : decode prog_7_method_10_code 80 = .ok (.iload_n 2, 1) := by decide +kernel
theorem dRo_findsFrom_81 : decode prog_7_method_10_code 81 = .ok (.aload_n 0, 1) := by decide +kernel
theorem dRo_findsFrom_82 : decode prog_7_method_10_code 82 = .ok (.getfield 23, 3) := by decide +kernel
theorem dRo_findsFrom_85 : decode prog_7_method_10_code 85 = .ok (.iload_n 1, 1) := by decide +kernel
theorem dRo_findsFrom_86 : decode prog_7_method_10_code 86 = .ok (.aaload, 1) := by decide +kernel
theorem dRo_findsFrom_87 : decode prog_7_method_10_code 87 = .ok (.iload 4, 2) := by decide +kernel
theorem dRo_findsFrom_89 : decode prog_7_method_10_code 89 = .ok (.iaload, 1) := by decide +kernel
theorem dRo_findsFrom_90 : decode prog_7_method_10_code 90 = .ok (.iadd, 1) := by decide +kernel
theorem dRo_findsFrom_91 : decode prog_7_method_10_code 91 = .ok (.iload_n 3, 1) := by decide +kernel
theorem dRo_findsFrom_92 : decode prog_7_method_10_code 92 = .ok (.aload_n 0, 1) := by decide +kernel
theorem dRo_findsFrom_93 : decode prog_7_method_10_code 93 = .ok (.getfield 26, 3) := by decide +kernel
theorem dRo_findsFrom_96 : decode prog_7_method_10_code 96 = .ok (.iload_n 1, 1) := by decide +kernel
theorem dRo_findsFrom_97 : decode prog_7_method_10_code 97 = .ok (.aaload, 1) := by decide +kernel
theorem dRo_findsFrom_98 : decode prog_7_method_10_code 98 = .ok (.iload 4, 2) := by decide +kernel
theorem dRo_findsFrom_100 : decode prog_7_method_10_code 100 = .ok (.iaload, 1) := by decide +kernel
theorem dRo_findsFrom_101 : decode prog_7_method_10_code 101 = .ok (.iadd, 1) := by decide +kernel
theorem dRo_findsFrom_102 : decode prog_7_method_10_code 102 = .ok (.invokevirtual 65, 3) := by decide +kernel
theorem dRo_findsFrom_105 : decode prog_7_method_10_code 105 = .ok (.ifCond .eq 5, 3) := by decide +kernel
theorem dRo_findsFrom_108 : decode prog_7_method_10_code 108 = .ok (.iconst 1, 1) := by decide +kernel
theorem dRo_findsFrom_109 : decode prog_7_method_10_code 109 = .ok (.ireturn, 1) := by decide +kernel
theorem dRo_findsFrom_110 : decode prog_7_method_10_code 110 = .ok (.iinc 4 1, 3) := by decide +kernel
theorem dRo_findsFrom_113 : decode prog_7_method_10_code 113 = .ok (.goto (-63), 3) := by decide +kernel
theorem dRo_findsFrom_116 : decode prog_7_method_10_code 116 = .ok (.iconst 0, 1) := by decide +kernel
theorem dRo_findsFrom_117 : decode prog_7_method_10_code 117 = .ok (.ireturn, 1) := by decide +kernel
theorem dSx_feed_0 : decode prog_1_method_7_code 0 = .ok (.aload_n 0, 1) := by decide +kernel
theorem dSx_feed_1 : decode prog_1_method_7_code 1 = .ok (.getfield 39, 3) := by decide +kernel
theorem dSx_feed_4 : decode prog_1_method_7_code 4 = .ok (.getfield 156, 3) := by decide +kernel
theorem dSx_feed_7 : decode prog_1_method_7_code 7 = .ok (.bipush 20, 2) := by decide +kernel
theorem dSx_feed_9 : decode prog_1_method_7_code 9 = .ok (.iadd, 1) := by decide +kernel
theorem dSx_feed_10 : decode prog_1_method_7_code 10 = .ok (.sipush 400, 3) := by decide +kernel
theorem dSx_feed_13 : decode prog_1_method_7_code 13 = .ok (.if_icmp .le 5, 3) := by decide +kernel
theorem dSx_feed_16 : decode prog_1_method_7_code 16 = .ok (.iconst (-1), 1) := by decide +kernel
theorem dSx_feed_17 : decode prog_1_method_7_code 17 = .ok (.ireturn, 1) := by decide +kernel
theorem dSx_feed_18 : decode prog_1_method_7_code 18 = .ok (.aload_n 0, 1) := by decide +kernel
theorem dSx_feed_19 : decode prog_1_method_7_code 19 = .ok (.getfield 39, 3) := by decide +kernel
theorem dSx_feed_22 : decode prog_1_method_7_code 22 = .ok (.iload_n 1, 1) := by decide +kernel
theorem dSx_feed_23 : decode prog_1_method_7_code 23 = .ok (.invokevirtual 159, 3) := by decide +kernel
theorem dSx_feed_26 : decode prog_1_method_7_code 26 = .ok (.aload_n 0, 1) := by decide +kernel
theorem dSx_feed_27 : decode prog_1_method_7_code 27 = .ok (.getfield 39, 3) := by decide +kernel
theorem dSx_feed_30 : decode prog_1_method_7_code 30 = .ok (.iload_n 2, 1) := by decide +kernel
theorem dSx_feed_31 : decode prog_1_method_7_code 31 = .ok (.invokevirtual 159, 3) := by decide +kernel
theorem dSx_feed_34 : decode prog_1_method_7_code 34 = .ok (.aload_n 0, 1) := by decide +kernel
theorem dSx_feed_35 : decode prog_1_method_7_code 35 = .ok (.getfield 39, 3) := by decide +kernel
theorem dSx_feed_38 : decode prog_1_method_7_code 38 = .ok (.iload_n 3, 1) := by decide +kernel
theorem dSx_feed_39 : decode prog_1_method_7_code 39 = .ok (.invokevirtual 159, 3) := by decide +kernel
theorem dSx_feed_42 : decode prog_1_method_7_code 42 = .ok (.aload_n 0, 1) := by decide +kernel
theorem dSx_feed_43 : decode prog_1_method_7_code 43 = .ok (.getfield 39, 3) := by decide +kernel
theorem dSx_feed_46 : decode prog_1_method_7_code 46 = .ok (.iload 4, 2) := by decide +kernel
theorem dSx_feed_48 : decode prog_1_method_7_code 48 = .ok (.invokevirtual 159, 3) := by decide +kernel
theorem dSx_feed_51 : decode prog_1_method_7_code 51 = .ok (.aload_n 0, 1) := by decide +kernel
theorem dSx_feed_52 : decode prog_1_method_7_code 52 = .ok (.getfield 39, 3) := by decide +kernel
theorem dSx_feed_55 : decode prog_1_method_7_code 55 = .ok (.iload 5, 2) := by decide +kernel
theorem dSx_feed_57 : decode prog_1_method_7_code 57 = .ok (.invokevirtual 159, 3) := by decide +kernel
theorem dSx_feed_60 : decode prog_1_method_7_code 60 = .ok (.aload_n 0, 1) := by decide +kernel
theorem dSx_feed_61 : decode prog_1_method_7_code 61 = .ok (.getfield 39, 3) := by decide +kernel
theorem dSx_feed_64 : decode prog_1_method_7_code 64 = .ok (.getfield 156, 3) := by decide +kernel
theorem dSx_feed_67 : decode prog_1_method_7_code 67 = .ok (.ireturn, 1) := by decide +kernel
theorem dSx_end_0 : decode prog_1_method_8_code 0 = .ok (.iload_n 1, 1) := by decide +kernel
theorem dSx_end_1 : decode prog_1_method_8_code 1 = .ok (.ifCond .lt 14, 3) := by decide +kernel
theorem dSx_end_4 : decode prog_1_method_8_code 4 = .ok (.iload_n 1, 1) := by decide +kernel
theorem dSx_end_5 : decode prog_1_method_8_code 5 = .ok (.aload_n 0, 1) := by decide +kernel
theorem dSx_end_6 : decode prog_1_method_8_code 6 = .ok (.getfield 39, 3) := by decide +kernel
theorem dSx_end_9 : decode prog_1_method_8_code 9 = .ok (.getfield 156, 3) := by decide +kernel
theorem dSx_end_12 : decode prog_1_method_8_code 12 = .ok (.if_icmp .le 5, 3) := by decide +kernel
theorem dSx_end_15 : decode prog_1_method_8_code 15 = .ok (.iconst (-1), 1) := by decide +kernel
theorem dSx_end_16 : decode prog_1_method_8_code 16 = .ok (.ireturn, 1) := by decide +kernel
theorem dSx_end_17 : decode prog_1_method_8_code 17 = .ok (.aload_n 0, 1) := by decide +kernel
theorem dSx_end_18 : decode prog_1_method_8_code 18 = .ok (.getfield 39, 3) := by decide +kernel
theorem dSx_end_21 : decode prog_1_method_8_code 21 = .ok (.iload_n 1, 1) := by decide +kernel
theorem dSx_end_22 : decode prog_1_method_8_code 22 = .ok (.putfield 156, 3) := by decide +kernel
theorem dSx_end_25 : decode prog_1_method_8_code 25 = .ok (.iload_n 1, 1) := by decide +kernel
theorem dSx_end_26 : decode prog_1_method_8_code 26 = .ok (.ireturn, 1) := by decide +kernel
theorem dSx_sawdust_0 : decode prog_1_method_10_code 0 = .ok (.aload_n 0, 1) := by decide +kernel
theorem dSx_sawdust_1 : decode prog_1_method_10_code 1 = .ok (.getfield 163, 3) := by decide +kernel
theorem dSx_sawdust_4 : decode prog_1_method_10_code 4 = .ok (.ireturn, 1) := by decide +kernel
theorem dSx_fault_0 : decode prog_1_method_13_code 0 = .ok (.aload_n 0, 1) := by decide +kernel
theorem dSx_fault_1 : decode prog_1_method_13_code 1 = .ok (.getfield 39, 3) := by decide +kernel
theorem dSx_fault_4 : decode prog_1_method_13_code 4 = .ok (.getfield 207, 3) := by decide +kernel
theorem dSx_fault_7 : decode prog_1_method_13_code 7 = .ok (.ireturn, 1) := by decide +kernel
theorem dSx_stopped_0 : decode prog_1_method_14_code 0 = .ok (.aload_n 0, 1) := by decide +kernel
theorem dSx_stopped_1 : decode prog_1_method_14_code 1 = .ok (.getfield 77, 3) := by decide +kernel
theorem dSx_stopped_4 : decode prog_1_method_14_code 4 = .ok (.ireturn, 1) := by decide +kernel
theorem dSx_forget_0 : decode prog_1_method_30_code 0 = .ok (.aload_n 0, 1) := by decide +kernel
theorem dSx_forget_1 : decode prog_1_method_30_code 1 = .ok (.getfield 12, 3) := by decide +kernel
theorem dSx_forget_4 : decode prog_1_method_30_code 4 = .ok (.getfield 289, 3) := by decide +kernel
theorem dSx_forget_7 : decode prog_1_method_30_code 7 = .ok (.istore_n 1, 1) := by decide +kernel
theorem dSx_forget_8 : decode prog_1_method_30_code 8 = .ok (.aload_n 0, 1) := by decide +kernel
theorem dSx_forget_9 : decode prog_1_method_30_code 9 = .ok (.getfield 12, 3) := by decide +kernel
theorem dSx_forget_12 : decode prog_1_method_30_code 12 = .ok (.iconst 0, 1) := by decide +kernel
theorem dSx_forget_13 : decode prog_1_method_30_code 13 = .ok (.putfield 289, 3) := by decide +kernel
theorem dSx_forget_16 : decode prog_1_method_30_code 16 = .ok (.iload_n 1, 1) := by decide +kernel
theorem dSx_forget_17 : decode prog_1_method_30_code 17 = .ok (.ireturn, 1) := by decide +kernel
theorem dSx_drawn_0 : decode prog_1_method_36_code 0 = .ok (.aload_n 0, 1) := by decide +kernel
theorem dSx_drawn_1 : decode prog_1_method_36_code 1 = .ok (.getfield 19, 3) := by decide +kernel
theorem dSx_drawn_4 : decode prog_1_method_36_code 4 = .ok (.iload_n 1, 1) := by decide +kernel
theorem dSx_drawn_5 : decode prog_1_method_36_code 5 = .ok (.invokevirtual 102, 3) := by decide +kernel
theorem dSx_drawn_8 : decode prog_1_method_36_code 8 = .ok (.ifCond .ne 5, 3) := by decide +kernel
theorem dSx_drawn_11 : decode prog_1_method_36_code 11 = .ok (.iconst (-1), 1) := by decide +kernel
theorem dSx_drawn_12 : decode prog_1_method_36_code 12 = .ok (.ireturn, 1) := by decide +kernel
theorem dSx_drawn_13 : decode prog_1_method_36_code 13 = .ok (.iload_n 2, 1) := by decide +kernel
theorem dSx_drawn_14 : decode prog_1_method_36_code 14 = .ok (.lookupswitch 46 #[(0, 26), (1, 36)], 26) := by decide +kernel
theorem dSx_drawn_40 : decode prog_1_method_36_code 40 = .ok (.aload_n 0, 1) := by decide +kernel
theorem dSx_drawn_41 : decode prog_1_method_36_code 41 = .ok (.getfield 19, 3) := by decide +kernel
theorem dSx_drawn_44 : decode prog_1_method_36_code 44 = .ok (.getfield 109, 3) := by decide +kernel
theorem dSx_drawn_47 : decode prog_1_method_36_code 47 = .ok (.iload_n 1, 1) := by decide +kernel
theorem dSx_drawn_48 : decode prog_1_method_36_code 48 = .ok (.iaload, 1) := by decide +kernel
theorem dSx_drawn_49 : decode prog_1_method_36_code 49 = .ok (.ireturn, 1) := by decide +kernel
theorem dSx_drawn_50 : decode prog_1_method_36_code 50 = .ok (.aload_n 0, 1) := by decide +kernel
theorem dSx_drawn_51 : decode prog_1_method_36_code 51 = .ok (.getfield 19, 3) := by decide +kernel
theorem dSx_drawn_54 : decode prog_1_method_36_code 54 = .ok (.getfield 106, 3) := by decide +kernel
theorem dSx_drawn_57 : decode prog_1_method_36_code 57 = .ok (.iload_n 1, 1) := by decide +kernel
theorem dSx_drawn_58 : decode prog_1_method_36_code 58 = .ok (.iaload, 1) := by decide +kernel
theorem dSx_drawn_59 : decode prog_1_method_36_code 59 = .ok (.ireturn, 1) := by decide +kernel
theorem dSx_drawn_60 : decode prog_1_method_36_code 60 = .ok (.iconst (-1), 1) := by decide +kernel
theorem dSx_drawn_61 : decode prog_1_method_36_code 61 = .ok (.ireturn, 1) := by decide +kernel
theorem dSx_count_0 : decode prog_1_method_39_code 0 = .ok (.iload_n 1, 1) := by decide +kernel
theorem dSx_count_1 : decode prog_1_method_39_code 1 = .ok (.bipush 7, 2) := by decide +kernel
theorem dSx_count_3 : decode prog_1_method_39_code 3 = .ok (.if_icmp .lt 19, 3) := by decide +kernel
theorem dSx_count_6 : decode prog_1_method_39_code 6 = .ok (.iload_n 1, 1) := by decide +kernel
theorem dSx_count_7 : decode prog_1_method_39_code 7 = .ok (.bipush 12, 2) := by decide +kernel
theorem dSx_count_9 : decode prog_1_method_39_code 9 = .ok (.if_icmp .ge 13, 3) := by decide +kernel
theorem dSx_count_12 : decode prog_1_method_39_code 12 = .ok (.aload_n 0, 1) := by decide +kernel
theorem dSx_count_13 : decode prog_1_method_39_code 13 = .ok (.getfield 74, 3) := by decide +kernel
theorem dSx_count_16 : decode prog_1_method_39_code 16 = .ok (.iload_n 1, 1) := by decide +kernel
theorem dSx_count_17 : decode prog_1_method_39_code 17 = .ok (.bipush 7, 2) := by decide +kernel
theorem dSx_count_19 : decode prog_1_method_39_code 19 = .ok (.isub, 1) := by decide +kernel
theorem dSx_count_20 : decode prog_1_method_39_code 20 = .ok (.iaload, 1) := by decide +kernel
theorem dSx_count_21 : decode prog_1_method_39_code 21 = .ok (.ireturn, 1) := by decide +kernel
theorem dSx_count_22 : decode prog_1_method_39_code 22 = .ok (.iload_n 1, 1) := by decide +kernel
theorem dSx_count_23 : decode prog_1_method_39_code 23 = .ok (.bipush 13, 2) := by decide +kernel
theorem dSx_count_25 : decode prog_1_method_39_code 25 = .ok (.if_icmp .lt 22, 3) := by decide +kernel
theorem dSx_count_28 : decode prog_1_method_39_code 28 = .ok (.iload_n 1, 1) := by decide +kernel
theorem dSx_count_29 : decode prog_1_method_39_code 29 = .ok (.bipush 17, 2) := by decide +kernel
theorem dSx_count_31 : decode prog_1_method_39_code 31 = .ok (.if_icmp .ge 16, 3) := by decide +kernel
theorem dSx_count_34 : decode prog_1_method_39_code 34 = .ok (.aload_n 0, 1) := by decide +kernel
theorem dSx_count_35 : decode prog_1_method_39_code 35 = .ok (.getfield 12, 3) := by decide +kernel
theorem dSx_count_38 : decode prog_1_method_39_code 38 = .ok (.getfield 153, 3) := by decide +kernel
theorem dSx_count_41 : decode prog_1_method_39_code 41 = .ok (.iload_n 1, 1) := by decide +kernel
theorem dSx_count_42 : decode prog_1_method_39_code 42 = .ok (.bipush 13, 2) := by decide +kernel
theorem dSx_count_44 : decode prog_1_method_39_code 44 = .ok (.isub, 1) := by decide +kernel
theorem dSx_count_45 : decode prog_1_method_39_code 45 = .ok (.iaload, 1) := by decide +kernel
theorem dSx_count_46 : decode prog_1_method_39_code 46 = .ok (.ireturn, 1) := by decide +kernel
theorem dSx_count_47 : decode prog_1_method_39_code 47 = .ok (.iload_n 1, 1) := by decide +kernel
theorem dSx_count_48 : decode prog_1_method_39_code 48 = .ok (.tableswitch 135 0 12 #[68, 76, 87, 95, 103, 111, 119, 135, 135, 135, 135, 135, 127], 68) := by decide +kernel
theorem dSx_count_116 : decode prog_1_method_39_code 116 = .ok (.aload_n 0, 1) := by decide +kernel
theorem dSx_count_117 : decode prog_1_method_39_code 117 = .ok (.getfield 12, 3) := by decide +kernel
theorem dSx_count_120 : decode prog_1_method_39_code 120 = .ok (.getfield 89, 3) := by decide +kernel
theorem dSx_count_123 : decode prog_1_method_39_code 123 = .ok (.ireturn, 1) := by decide +kernel
theorem dSx_count_124 : decode prog_1_method_39_code 124 = .ok (.aload_n 0, 1) := by decide +kernel
theorem dSx_count_125 : decode prog_1_method_39_code 125 = .ok (.getfield 12, 3) := by decide +kernel
theorem dSx_count_128 : decode prog_1_method_39_code 128 = .ok (.invokevirtual 263, 3) := by decide +kernel
theorem dSx_count_131 : decode prog_1_method_39_code 131 = .ok (.invokestatic 272, 3) := by decide +kernel
theorem dSx_count_134 : decode prog_1_method_39_code 134 = .ok (.ireturn, 1) := by decide +kernel
theorem dSx_count_135 : decode prog_1_method_39_code 135 = .ok (.aload_n 0, 1) := by decide +kernel
theorem dSx_count_136 : decode prog_1_method_39_code 136 = .ok (.getfield 12, 3) := by decide +kernel
theorem dSx_count_139 : decode prog_1_method_39_code 139 = .ok (.invokevirtual 330, 3) := by decide +kernel
theorem dSx_count_142 : decode prog_1_method_39_code 142 = .ok (.ireturn, 1) := by decide +kernel
theorem dSx_count_143 : decode prog_1_method_39_code 143 = .ok (.aload_n 0, 1) := by decide +kernel
theorem dSx_count_144 : decode prog_1_method_39_code 144 = .ok (.getfield 12, 3) := by decide +kernel
theorem dSx_count_147 : decode prog_1_method_39_code 147 = .ok (.getfield 289, 3) := by decide +kernel
theorem dSx_count_150 : decode prog_1_method_39_code 150 = .ok (.ireturn, 1) := by decide +kernel
theorem dSx_count_151 : decode prog_1_method_39_code 151 = .ok (.aload_n 0, 1) := by decide +kernel
theorem dSx_count_152 : decode prog_1_method_39_code 152 = .ok (.getfield 12, 3) := by decide +kernel
theorem dSx_count_155 : decode prog_1_method_39_code 155 = .ok (.getfield 169, 3) := by decide +kernel
theorem dSx_count_158 : decode prog_1_method_39_code 158 = .ok (.ireturn, 1) := by decide +kernel
theorem dSx_count_159 : decode prog_1_method_39_code 159 = .ok (.aload_n 0, 1) := by decide +kernel
theorem dSx_count_160 : decode prog_1_method_39_code 160 = .ok (.getfield 29, 3) := by decide +kernel
theorem dSx_count_163 : decode prog_1_method_39_code 163 = .ok (.getfield 228, 3) := by decide +kernel
theorem dSx_count_166 : decode prog_1_method_39_code 166 = .ok (.ireturn, 1) := by decide +kernel
theorem dSx_count_167 : decode prog_1_method_39_code 167 = .ok (.aload_n 0, 1) := by decide +kernel
theorem dSx_count_168 : decode prog_1_method_39_code 168 = .ok (.getfield 39, 3) := by decide +kernel
theorem dSx_count_171 : decode prog_1_method_39_code 171 = .ok (.getfield 156, 3) := by decide +kernel
theorem dSx_count_174 : decode prog_1_method_39_code 174 = .ok (.ireturn, 1) := by decide +kernel
theorem dSx_count_175 : decode prog_1_method_39_code 175 = .ok (.aload_n 0, 1) := by decide +kernel
theorem dSx_count_176 : decode prog_1_method_39_code 176 = .ok (.getfield 12, 3) := by decide +kernel
theorem dSx_count_179 : decode prog_1_method_39_code 179 = .ok (.getfield 213, 3) := by decide +kernel
theorem dSx_count_182 : decode prog_1_method_39_code 182 = .ok (.ireturn, 1) := by decide +kernel
theorem dSx_count_183 : decode prog_1_method_39_code 183 = .ok (.iconst (-1), 1) := by decide +kernel
theorem dSx_count_184 : decode prog_1_method_39_code 184 = .ok (.ireturn, 1) := by decide +kernel
theorem dSx_status_0 : decode prog_1_method_40_code 0 = .ok (.aload_n 0, 1) := by decide +kernel
theorem dSx_status_1 : decode prog_1_method_40_code 1 = .ok (.getfield 333, 3) := by decide +kernel
theorem dSx_status_4 : decode prog_1_method_40_code 4 = .ok (.ireturn, 1) := by decide +kernel
theorem dSx_told_0 : decode prog_1_method_41_code 0 = .ok (.aload_n 0, 1) := by decide +kernel
theorem dSx_told_1 : decode prog_1_method_41_code 1 = .ok (.iconst 0, 1) := by decide +kernel
theorem dSx_told_2 : decode prog_1_method_41_code 2 = .ok (.putfield 333, 3) := by decide +kernel
theorem dSx_told_5 : decode prog_1_method_41_code 5 = .ok (.iload_n 1, 1) := by decide +kernel
theorem dSx_told_6 : decode prog_1_method_41_code 6 = .ok (.ireturn, 1) := by decide +kernel
theorem dSx_refuse_0 : decode prog_1_method_42_code 0 = .ok (.aload_n 0, 1) := by decide +kernel
theorem dSx_refuse_1 : decode prog_1_method_42_code 1 = .ok (.iload_n 1, 1) := by decide +kernel
theorem dSx_refuse_2 : decode prog_1_method_42_code 2 = .ok (.putfield 333, 3) := by decide +kernel
theorem dSx_refuse_5 : decode prog_1_method_42_code 5 = .ok (.iload_n 1, 1) := by decide +kernel
theorem dSx_refuse_6 : decode prog_1_method_42_code 6 = .ok (.bipush (-3), 2) := by decide +kernel
theorem dSx_refuse_8 : decode prog_1_method_42_code 8 = .ok (.if_icmp .lt 10, 3) := by decide +kernel
theorem dSx_refuse_11 : decode prog_1_method_42_code 11 = .ok (.iload_n 1, 1) := by decide +kernel
theorem dSx_refuse_12 : decode prog_1_method_42_code 12 = .ok (.ineg, 1) := by decide +kernel
theorem dSx_refuse_13 : decode prog_1_method_42_code 13 = .ok (.iconst 1, 1) := by decide +kernel
theorem dSx_refuse_14 : decode prog_1_method_42_code 14 = .ok (.isub, 1) := by decide +kernel
theorem dSx_refuse_15 : decode prog_1_method_42_code 15 = .ok (.goto 7, 3) := by decide +kernel
theorem dSx_refuse_18 : decode prog_1_method_42_code 18 = .ok (.iload_n 1, 1) := by decide +kernel
theorem dSx_refuse_19 : decode prog_1_method_42_code 19 = .ok (.ineg, 1) := by decide +kernel
theorem dSx_refuse_20 : decode prog_1_method_42_code 20 = .ok (.iconst 2, 1) := by decide +kernel
theorem dSx_refuse_21 : decode prog_1_method_42_code 21 = .ok (.isub, 1) := by decide +kernel
theorem dSx_refuse_22 : decode prog_1_method_42_code 22 = .ok (.istore_n 2, 1) := by decide +kernel
theorem dSx_refuse_23 : decode prog_1_method_42_code 23 = .ok (.iload_n 2, 1) := by decide +kernel
theorem dSx_refuse_24 : decode prog_1_method_42_code 24 = .ok (.ifCond .lt 18, 3) := by decide +kernel
theorem dSx_refuse_27 : decode prog_1_method_42_code 27 = .ok (.iload_n 2, 1) := by decide +kernel
theorem dSx_refuse_28 : decode prog_1_method_42_code 28 = .ok (.iconst 5, 1) := by decide +kernel
theorem dSx_refuse_29 : decode prog_1_method_42_code 29 = .ok (.if_icmp .ge 13, 3) := by decide +kernel
theorem dSx_refuse_32 : decode prog_1_method_42_code 32 = .ok (.aload_n 0, 1) := by decide +kernel
theorem dSx_refuse_33 : decode prog_1_method_42_code 33 = .ok (.getfield 74, 3) := by decide +kernel
theorem dSx_refuse_36 : decode prog_1_method_42_code 36 = .ok (.iload_n 2, 1) := by decide +kernel
theorem dSx_refuse_37 : decode prog_1_method_42_code 37 = .ok (.dup2, 1) := by decide +kernel
theorem dSx_refuse_38 : decode prog_1_method_42_code 38 = .ok (.iaload, 1) := by decide +kernel
theorem dSx_refuse_39 : decode prog_1_method_42_code 39 = .ok (.iconst 1, 1) := by decide +kernel
theorem dSx_refuse_40 : decode prog_1_method_42_code 40 = .ok (.iadd, 1) := by decide +kernel
theorem dSx_refuse_41 : decode prog_1_method_42_code 41 = .ok (.iastore, 1) := by decide +kernel
theorem dSx_refuse_42 : decode prog_1_method_42_code 42 = .ok (.iload_n 1, 1) := by decide +kernel
theorem dSx_refuse_43 : decode prog_1_method_42_code 43 = .ok (.ireturn, 1) := by decide +kernel
theorem dSx_canBeHeavy_0 : decode prog_1_method_44_code 0 = .ok (.iload_n 0, 1) := by decide +kernel
theorem dSx_canBeHeavy_1 : decode prog_1_method_44_code 1 = .ok (.iconst 1, 1) := by decide +kernel
theorem dSx_canBeHeavy_2 : decode prog_1_method_44_code 2 = .ok (.if_icmp .lt 13, 3) := by decide +kernel
theorem dSx_canBeHeavy_5 : decode prog_1_method_44_code 5 = .ok (.iload_n 0, 1) := by decide +kernel
theorem dSx_canBeHeavy_6 : decode prog_1_method_44_code 6 = .ok (.bipush 30, 2) := by decide +kernel
theorem dSx_canBeHeavy_8 : decode prog_1_method_44_code 8 = .ok (.if_icmp .gt 7, 3) := by decide +kernel
theorem dSx_canBeHeavy_11 : decode prog_1_method_44_code 11 = .ok (.iconst 1, 1) := by decide +kernel
theorem dSx_canBeHeavy_12 : decode prog_1_method_44_code 12 = .ok (.goto 4, 3) := by decide +kernel
theorem dSx_canBeHeavy_15 : decode prog_1_method_44_code 15 = .ok (.iconst 0, 1) := by decide +kernel
theorem dSx_canBeHeavy_16 : decode prog_1_method_44_code 16 = .ok (.ireturn, 1) := by decide +kernel
theorem dSx_isPlace_0 : decode prog_1_method_45_code 0 = .ok (.iload_n 0, 1) := by decide +kernel
theorem dSx_isPlace_1 : decode prog_1_method_45_code 1 = .ok (.ifCond .lt 13, 3) := by decide +kernel
theorem dSx_isPlace_4 : decode prog_1_method_45_code 4 = .ok (.iload_n 0, 1) := by decide +kernel
theorem dSx_isPlace_5 : decode prog_1_method_45_code 5 = .ok (.bipush 7, 2) := by decide +kernel
theorem dSx_isPlace_7 : decode prog_1_method_45_code 7 = .ok (.if_icmp .ge 7, 3) := by decide +kernel
theorem dSx_isPlace_10 : decode prog_1_method_45_code 10 = .ok (.iconst 1, 1) := by decide +kernel
theorem dSx_isPlace_11 : decode prog_1_method_45_code 11 = .ok (.goto 4, 3) := by decide +kernel
theorem dSx_isPlace_14 : decode prog_1_method_45_code 14 = .ok (.iconst 0, 1) := by decide +kernel
theorem dSx_isPlace_15 : decode prog_1_method_45_code 15 = .ok (.ireturn, 1) := by decide +kernel
theorem dSx_areBits_0 : decode prog_1_method_46_code 0 = .ok (.iload_n 0, 1) := by decide +kernel
theorem dSx_areBits_1 : decode prog_1_method_46_code 1 = .ok (.ifCond .lt 14, 3) := by decide +kernel
theorem dSx_areBits_4 : decode prog_1_method_46_code 4 = .ok (.iload_n 0, 1) := by decide +kernel
theorem dSx_areBits_5 : decode prog_1_method_46_code 5 = .ok (.sipush 128, 3) := by decide +kernel
theorem dSx_areBits_8 : decode prog_1_method_46_code 8 = .ok (.if_icmp .ge 7, 3) := by decide +kernel
theorem dSx_areBits_11 : decode prog_1_method_46_code 11 = .ok (.iconst 1, 1) := by decide +kernel
theorem dSx_areBits_12 : decode prog_1_method_46_code 12 = .ok (.goto 4, 3) := by decide +kernel
theorem dSx_areBits_15 : decode prog_1_method_46_code 15 = .ok (.iconst 0, 1) := by decide +kernel
theorem dSx_areBits_16 : decode prog_1_method_46_code 16 = .ok (.ireturn, 1) := by decide +kernel
theorem dSx_takes_0 : decode prog_1_method_48_code 0 = .ok (.aload_n 0, 1) := by decide +kernel
theorem dSx_takes_1 : decode prog_1_method_48_code 1 = .ok (.getfield 12, 3) := by decide +kernel
theorem dSx_takes_4 : decode prog_1_method_48_code 4 = .ok (.iload_n 1, 1) := by decide +kernel
theorem dSx_takes_5 : decode prog_1_method_48_code 5 = .ok (.invokevirtual 102, 3) := by decide +kernel
theorem dSx_takes_8 : decode prog_1_method_48_code 8 = .ok (.ifCond .ne 6, 3) := by decide +kernel
theorem dSx_takes_11 : decode prog_1_method_48_code 11 = .ok (.bipush (-2), 2) := by decide +kernel
theorem dSx_takes_13 : decode prog_1_method_48_code 13 = .ok (.ireturn, 1) := by decide +kernel
theorem dSx_takes_14 : decode prog_1_method_48_code 14 = .ok (.aload_n 0, 1) := by decide +kernel
theorem dSx_takes_15 : decode prog_1_method_48_code 15 = .ok (.getfield 12, 3) := by decide +kernel
theorem dSx_takes_18 : decode prog_1_method_48_code 18 = .ok (.iload_n 1, 1) := by decide +kernel
theorem dSx_takes_19 : decode prog_1_method_48_code 19 = .ok (.invokevirtual 115, 3) := by decide +kernel
theorem dSx_takes_22 : decode prog_1_method_48_code 22 = .ok (.ifCond .ne 6, 3) := by decide +kernel
theorem dSx_takes_25 : decode prog_1_method_48_code 25 = .ok (.bipush (-3), 2) := by decide +kernel
theorem dSx_takes_27 : decode prog_1_method_48_code 27 = .ok (.ireturn, 1) := by decide +kernel
theorem dSx_takes_28 : decode prog_1_method_48_code 28 = .ok (.aload_n 0, 1) := by decide +kernel
theorem dSx_takes_29 : decode prog_1_method_48_code 29 = .ok (.getfield 29, 3) := by decide +kernel
theorem dSx_takes_32 : decode prog_1_method_48_code 32 = .ok (.iconst 1, 1) := by decide +kernel
theorem dSx_takes_33 : decode prog_1_method_48_code 33 = .ok (.aload_n 0, 1) := by decide +kernel
theorem dSx_takes_34 : decode prog_1_method_48_code 34 = .ok (.getfield 12, 3) := by decide +kernel
theorem dSx_takes_37 : decode prog_1_method_48_code 37 = .ok (.invokevirtual 342, 3) := by decide +kernel
theorem dSx_takes_40 : decode prog_1_method_48_code 40 = .ok (.aload_n 0, 1) := by decide +kernel
theorem dSx_takes_41 : decode prog_1_method_48_code 41 = .ok (.getfield 12, 3) := by decide +kernel
theorem dSx_takes_44 : decode prog_1_method_48_code 44 = .ok (.getfield 106, 3) := by decide +kernel
theorem dSx_takes_47 : decode prog_1_method_48_code 47 = .ok (.iload_n 1, 1) := by decide +kernel
theorem dSx_takes_48 : decode prog_1_method_48_code 48 = .ok (.iconst (-1), 1) := by decide +kernel
theorem dSx_takes_49 : decode prog_1_method_48_code 49 = .ok (.iastore, 1) := by decide +kernel
theorem dSx_takes_50 : decode prog_1_method_48_code 50 = .ok (.iconst 0, 1) := by decide +kernel
theorem dSx_takes_51 : decode prog_1_method_48_code 51 = .ok (.ireturn, 1) := by decide +kernel
theorem dSx_pads_0 : decode prog_1_method_49_code 0 = .ok (.iload_n 2, 1) := by decide +kernel
theorem dSx_pads_1 : decode prog_1_method_49_code 1 = .ok (.invokestatic 336, 3) := by decide +kernel
theorem dSx_pads_4 : decode prog_1_method_49_code 4 = .ok (.ifCond .ne 5, 3) := by decide +kernel
theorem dSx_pads_7 : decode prog_1_method_49_code 7 = .ok (.iconst (-1), 1) := by decide +kernel
theorem dSx_pads_8 : decode prog_1_method_49_code 8 = .ok (.ireturn, 1) := by decide +kernel
theorem dSx_pads_9 : decode prog_1_method_49_code 9 = .ok (.aload_n 0, 1) := by decide +kernel
theorem dSx_pads_10 : decode prog_1_method_49_code 10 = .ok (.getfield 12, 3) := by decide +kernel
theorem dSx_pads_13 : decode prog_1_method_49_code 13 = .ok (.iload_n 1, 1) := by decide +kernel
theorem dSx_pads_14 : decode prog_1_method_49_code 14 = .ok (.invokevirtual 102, 3) := by decide +kernel
theorem dSx_pads_17 : decode prog_1_method_49_code 17 = .ok (.ifCond .ne 6, 3) := by decide +kernel
theorem dSx_pads_20 : decode prog_1_method_49_code 20 = .ok (.bipush (-2), 2) := by decide +kernel
theorem dSx_pads_22 : decode prog_1_method_49_code 22 = .ok (.ireturn, 1) := by decide +kernel
theorem dSx_pads_23 : decode prog_1_method_49_code 23 = .ok (.aload_n 0, 1) := by decide +kernel
theorem dSx_pads_24 : decode prog_1_method_49_code 24 = .ok (.getfield 12, 3) := by decide +kernel
theorem dSx_pads_27 : decode prog_1_method_49_code 27 = .ok (.getfield 109, 3) := by decide +kernel
theorem dSx_pads_30 : decode prog_1_method_49_code 30 = .ok (.iload_n 1, 1) := by decide +kernel
theorem dSx_pads_31 : decode prog_1_method_49_code 31 = .ok (.iaload, 1) := by decide +kernel
theorem dSx_pads_32 : decode prog_1_method_49_code 32 = .ok (.istore_n 3, 1) := by decide +kernel
theorem dSx_pads_33 : decode prog_1_method_49_code 33 = .ok (.iload_n 3, 1) := by decide +kernel
theorem dSx_pads_34 : decode prog_1_method_49_code 34 = .ok (.iload_n 2, 1) := by decide +kernel
theorem dSx_pads_35 : decode prog_1_method_49_code 35 = .ok (.if_icmp .ne 6, 3) := by decide +kernel
theorem dSx_pads_38 : decode prog_1_method_49_code 38 = .ok (.bipush (-3), 2) := by decide +kernel
theorem dSx_pads_40 : decode prog_1_method_49_code 40 = .ok (.ireturn, 1) := by decide +kernel
theorem dSx_pads_41 : decode prog_1_method_49_code 41 = .ok (.aload_n 0, 1) := by decide +kernel
theorem dSx_pads_42 : decode prog_1_method_49_code 42 = .ok (.getfield 29, 3) := by decide +kernel
theorem dSx_pads_45 : decode prog_1_method_49_code 45 = .ok (.iconst 2, 1) := by decide +kernel
theorem dSx_pads_46 : decode prog_1_method_49_code 46 = .ok (.aload_n 0, 1) := by decide +kernel
theorem dSx_pads_47 : decode prog_1_method_49_code 47 = .ok (.getfield 12, 3) := by decide +kernel
theorem dSx_pads_50 : decode prog_1_method_49_code 50 = .ok (.invokevirtual 342, 3) := by decide +kernel
theorem dSx_pads_53 : decode prog_1_method_49_code 53 = .ok (.aload_n 0, 1) := by decide +kernel
theorem dSx_pads_54 : decode prog_1_method_49_code 54 = .ok (.getfield 12, 3) := by decide +kernel
theorem dSx_pads_57 : decode prog_1_method_49_code 57 = .ok (.getfield 109, 3) := by decide +kernel
theorem dSx_pads_60 : decode prog_1_method_49_code 60 = .ok (.iload_n 1, 1) := by decide +kernel
theorem dSx_pads_61 : decode prog_1_method_49_code 61 = .ok (.iload_n 2, 1) := by decide +kernel
theorem dSx_pads_62 : decode prog_1_method_49_code 62 = .ok (.iastore, 1) := by decide +kernel
theorem dSx_pads_63 : decode prog_1_method_49_code 63 = .ok (.iload_n 3, 1) := by decide +kernel
theorem dSx_pads_64 : decode prog_1_method_49_code 64 = .ok (.ireturn, 1) := by decide +kernel
theorem dSx_isLevel_0 : decode prog_1_method_55_code 0 = .ok (.iload_n 1, 1) := by decide +kernel
theorem dSx_isLevel_1 : decode prog_1_method_55_code 1 = .ok (.invokestatic 138, 3) := by decide +kernel
theorem dSx_isLevel_4 : decode prog_1_method_55_code 4 = .ok (.aload_n 0, 1) := by decide +kernel
theorem dSx_isLevel_5 : decode prog_1_method_55_code 5 = .ok (.getfield 12, 3) := by decide +kernel
theorem dSx_isLevel_8 : decode prog_1_method_55_code 8 = .ok (.getfield 153, 3) := by decide +kernel
theorem dSx_isLevel_11 : decode prog_1_method_55_code 11 = .ok (.iconst 3, 1) := by decide +kernel
theorem dSx_isLevel_12 : decode prog_1_method_55_code 12 = .ok (.iaload, 1) := by decide +kernel
theorem dSx_isLevel_13 : decode prog_1_method_55_code 13 = .ok (.if_icmp .gt 7, 3) := by decide +kernel
theorem dSx_isLevel_16 : decode prog_1_method_55_code 16 = .ok (.iconst 1, 1) := by decide +kernel
theorem dSx_isLevel_17 : decode prog_1_method_55_code 17 = .ok (.goto 4, 3) := by decide +kernel
theorem dSx_isLevel_20 : decode prog_1_method_55_code 20 = .ok (.iconst 0, 1) := by decide +kernel
theorem dSx_isLevel_21 : decode prog_1_method_55_code 21 = .ok (.ireturn, 1) := by decide +kernel
theorem dSx_sumWith_0 : decode prog_1_method_64_code 0 = .ok (.iconst 1, 1) := by decide +kernel
theorem dSx_sumWith_1 : decode prog_1_method_64_code 1 = .ok (.iload_n 1, 1) := by decide +kernel
theorem dSx_sumWith_2 : decode prog_1_method_64_code 2 = .ok (.ishl, 1) := by decide +kernel
theorem dSx_sumWith_3 : decode prog_1_method_64_code 3 = .ok (.istore_n 3, 1) := by decide +kernel
theorem dSx_sumWith_4 : decode prog_1_method_64_code 4 = .ok (.iconst 0, 1) := by decide +kernel
theorem dSx_sumWith_5 : decode prog_1_method_64_code 5 = .ok (.istore 4, 2) := by decide +kernel
theorem dSx_sumWith_7 : decode prog_1_method_64_code 7 = .ok (.iload 4, 2) := by decide +kernel
theorem dSx_sumWith_9 : decode prog_1_method_64_code 9 = .ok (.iload_n 3, 1) := by decide +kernel
theorem dSx_sumWith_10 : decode prog_1_method_64_code 10 = .ok (.if_icmp .ge 27, 3) := by decide +kernel
theorem dSx_sumWith_13 : decode prog_1_method_64_code 13 = .ok (.aload_n 0, 1) := by decide +kernel
theorem dSx_sumWith_14 : decode prog_1_method_64_code 14 = .ok (.getfield 68, 3) := by decide +kernel
theorem dSx_sumWith_17 : decode prog_1_method_64_code 17 = .ok (.iload_n 3, 1) := by decide +kernel
theorem dSx_sumWith_18 : decode prog_1_method_64_code 18 = .ok (.iload 4, 2) := by decide +kernel
theorem dSx_sumWith_20 : decode prog_1_method_64_code 20 = .ok (.iadd, 1) := by decide +kernel
theorem dSx_sumWith_21 : decode prog_1_method_64_code 21 = .ok (.aload_n 0, 1) := by decide +kernel
theorem dSx_sumWith_22 : decode prog_1_method_64_code 22 = .ok (.getfield 68, 3) := by decide +kernel
theorem dSx_sumWith_25 : decode prog_1_method_64_code 25 = .ok (.iload 4, 2) := by decide +kernel
theorem dSx_sumWith_27 : decode prog_1_method_64_code 27 = .ok (.iaload, 1) := by decide +kernel
theorem dSx_sumWith_28 : decode prog_1_method_64_code 28 = .ok (.iload_n 2, 1) := by decide +kernel
theorem dSx_sumWith_29 : decode prog_1_method_64_code 29 = .ok (.iadd, 1) := by decide +kernel
theorem dSx_sumWith_30 : decode prog_1_method_64_code 30 = .ok (.iastore, 1) := by decide +kernel
theorem dSx_sumWith_31 : decode prog_1_method_64_code 31 = .ok (.iinc 4 1, 3) := by decide +kernel
theorem dSx_sumWith_34 : decode prog_1_method_64_code 34 = .ok (.goto (-27), 3) := by decide +kernel
theorem dSx_sumWith_37 : decode prog_1_method_64_code 37 = .ok (.return_, 1) := by decide +kernel
theorem dSx_canTake_0 : decode prog_1_method_65_code 0 = .ok (.iconst 1, 1) := by decide +kernel
theorem dSx_canTake_1 : decode prog_1_method_65_code 1 = .ok (.iload_n 2, 1) := by decide +kernel
theorem dSx_canTake_2 : decode prog_1_method_65_code 2 = .ok (.ishl, 1) := by decide +kernel
theorem dSx_canTake_3 : decode prog_1_method_65_code 3 = .ok (.istore_n 3, 1) := by decide +kernel
theorem dSx_canTake_4 : decode prog_1_method_65_code 4 = .ok (.iload_n 1, 1) := by decide +kernel
theorem dSx_canTake_5 : decode prog_1_method_65_code 5 = .ok (.iload_n 3, 1) := by decide +kernel
theorem dSx_canTake_6 : decode prog_1_method_65_code 6 = .ok (.iand, 1) := by decide +kernel
theorem dSx_canTake_7 : decode prog_1_method_65_code 7 = .ok (.ifCond .eq 22, 3) := by decide +kernel
theorem dSx_canTake_10 : decode prog_1_method_65_code 10 = .ok (.aload_n 0, 1) := by decide +kernel
theorem dSx_canTake_11 : decode prog_1_method_65_code 11 = .ok (.aload_n 0, 1) := by decide +kernel
theorem dSx_canTake_12 : decode prog_1_method_65_code 12 = .ok (.getfield 68, 3) := by decide +kernel
theorem dSx_canTake_15 : decode prog_1_method_65_code 15 = .ok (.iload_n 1, 1) := by decide +kernel
theorem dSx_canTake_16 : decode prog_1_method_65_code 16 = .ok (.iload_n 3, 1) := by decide +kernel
theorem dSx_canTake_17 : decode prog_1_method_65_code 17 = .ok (.isub, 1) := by decide +kernel
theorem dSx_canTake_18 : decode prog_1_method_65_code 18 = .ok (.iaload, 1) := by decide +kernel
theorem dSx_canTake_19 : decode prog_1_method_65_code 19 = .ok (.invokevirtual 147, 3) := by decide +kernel
theorem dSx_canTake_22 : decode prog_1_method_65_code 22 = .ok (.ifCond .eq 7, 3) := by decide +kernel
theorem dSx_canTake_25 : decode prog_1_method_65_code 25 = .ok (.iconst 1, 1) := by decide +kernel
theorem dSx_canTake_26 : decode prog_1_method_65_code 26 = .ok (.goto 4, 3) := by decide +kernel
theorem dSx_canTake_29 : decode prog_1_method_65_code 29 = .ok (.iconst 0, 1) := by decide +kernel
theorem dSx_canTake_30 : decode prog_1_method_65_code 30 = .ok (.ireturn, 1) := by decide +kernel
theorem dSx_findOrders_0 : decode prog_1_method_66_code 0 = .ok (.aload_n 0, 1) := by decide +kernel
theorem dSx_findOrders_1 : decode prog_1_method_66_code 1 = .ok (.getfield 71, 3) := by decide +kernel
theorem dSx_findOrders_4 : decode prog_1_method_66_code 4 = .ok (.iconst 0, 1) := by decide +kernel
theorem dSx_findOrders_5 : decode prog_1_method_66_code 5 = .ok (.iconst 1, 1) := by decide +kernel
theorem dSx_findOrders_6 : decode prog_1_method_66_code 6 = .ok (.iastore, 1) := by decide +kernel
theorem dSx_findOrders_7 : decode prog_1_method_66_code 7 = .ok (.iconst 1, 1) := by decide +kernel
theorem dSx_findOrders_8 : decode prog_1_method_66_code 8 = .ok (.istore_n 2, 1) := by decide +kernel
theorem dSx_findOrders_9 : decode prog_1_method_66_code 9 = .ok (.iload_n 2, 1) := by decide +kernel
theorem dSx_findOrders_10 : decode prog_1_method_66_code 10 = .ok (.iload_n 1, 1) := by decide +kernel
theorem dSx_findOrders_11 : decode prog_1_method_66_code 11 = .ok (.if_icmp .gt 58, 3) := by decide +kernel
theorem dSx_findOrders_14 : decode prog_1_method_66_code 14 = .ok (.iconst 0, 1) := by decide +kernel
theorem dSx_findOrders_15 : decode prog_1_method_66_code 15 = .ok (.istore_n 3, 1) := by decide +kernel
theorem dSx_findOrders_16 : decode prog_1_method_66_code 16 = .ok (.iconst 0, 1) := by decide +kernel
theorem dSx_findOrders_17 : decode prog_1_method_66_code 17 = .ok (.istore 4, 2) := by decide +kernel
theorem dSx_findOrders_19 : decode prog_1_method_66_code 19 = .ok (.iload 4, 2) := by decide +kernel
theorem dSx_findOrders_21 : decode prog_1_method_66_code 21 = .ok (.bipush 7, 2) := by decide +kernel
theorem dSx_findOrders_23 : decode prog_1_method_66_code 23 = .ok (.if_icmp .ge 33, 3) := by decide +kernel
theorem dSx_findOrders_26 : decode prog_1_method_66_code 26 = .ok (.aload_n 0, 1) := by decide +kernel
theorem dSx_findOrders_27 : decode prog_1_method_66_code 27 = .ok (.iload_n 2, 1) := by decide +kernel
theorem dSx_findOrders_28 : decode prog_1_method_66_code 28 = .ok (.iload 4, 2) := by decide +kernel
theorem dSx_findOrders_30 : decode prog_1_method_66_code 30 = .ok (.invokevirtual 378, 3) := by decide +kernel
theorem dSx_findOrders_33 : decode prog_1_method_66_code 33 = .ok (.ifCond .eq 17, 3) := by decide +kernel
theorem dSx_findOrders_36 : decode prog_1_method_66_code 36 = .ok (.iload_n 3, 1) := by decide +kernel
theorem dSx_findOrders_37 : decode prog_1_method_66_code 37 = .ok (.aload_n 0, 1) := by decide +kernel
theorem dSx_findOrders_38 : decode prog_1_method_66_code 38 = .ok (.getfield 71, 3) := by decide +kernel
theorem dSx_findOrders_41 : decode prog_1_method_66_code 41 = .ok (.iload_n 2, 1) := by decide +kernel
theorem dSx_findOrders_42 : decode prog_1_method_66_code 42 = .ok (.iconst 1, 1) := by decide +kernel
theorem dSx_findOrders_43 : decode prog_1_method_66_code 43 = .ok (.iload 4, 2) := by decide +kernel
theorem dSx_findOrders_45 : decode prog_1_method_66_code 45 = .ok (.ishl, 1) := by decide +kernel
theorem dSx_findOrders_46 : decode prog_1_method_66_code 46 = .ok (.isub, 1) := by decide +kernel
theorem dSx_findOrders_47 : decode prog_1_method_66_code 47 = .ok (.iaload, 1) := by decide +kernel
theorem dSx_findOrders_48 : decode prog_1_method_66_code 48 = .ok (.iadd, 1) := by decide +kernel
theorem dSx_findOrders_49 : decode prog_1_method_66_code 49 = .ok (.istore_n 3, 1) := by decide +kernel
theorem dSx_findOrders_50 : decode prog_1_method_66_code 50 = .ok (.iinc 4 1, 3) := by decide +kernel
theorem dSx_findOrders_53 : decode prog_1_method_66_code 53 = .ok (.goto (-34), 3) := by decide +kernel
theorem dSx_findOrders_56 : decode prog_1_method_66_code 56 = .ok (.aload_n 0, 1) := by decide +kernel
theorem dSx_findOrders_57 : decode prog_1_method_66_code 57 = .ok (.getfield 71, 3) := by decide +kernel
theorem dSx_findOrders_60 : decode prog_1_method_66_code 60 = .ok (.iload_n 2, 1) := by decide +kernel
theorem dSx_findOrders_61 : decode prog_1_method_66_code 61 = .ok (.iload_n 3, 1) := by decide +kernel
theorem dSx_findOrders_62 : decode prog_1_method_66_code 62 = .ok (.iastore, 1) := by decide +kernel
theorem dSx_findOrders_63 : decode prog_1_method_66_code 63 = .ok (.iinc 2 1, 3) := by decide +kernel
theorem dSx_findOrders_66 : decode prog_1_method_66_code 66 = .ok (.goto (-57), 3) := by decide +kernel
theorem dSx_findOrders_69 : decode prog_1_method_66_code 69 = .ok (.return_, 1) := by decide +kernel
theorem dSx_firstWithOrders_0 : decode prog_1_method_67_code 0 = .ok (.iconst 0, 1) := by decide +kernel
theorem dSx_firstWithOrders_1 : decode prog_1_method_67_code 1 = .ok (.istore_n 2, 1) := by decide +kernel
theorem dSx_firstWithOrders_2 : decode prog_1_method_67_code 2 = .ok (.iload_n 2, 1) := by decide +kernel
theorem dSx_firstWithOrders_3 : decode prog_1_method_67_code 3 = .ok (.bipush 7, 2) := by decide +kernel
theorem dSx_firstWithOrders_5 : decode prog_1_method_67_code 5 = .ok (.if_icmp .ge 33, 3) := by decide +kernel
theorem dSx_firstWithOrders_8 : decode prog_1_method_67_code 8 = .ok (.aload_n 0, 1) := by decide +kernel
theorem dSx_firstWithOrders_9 : decode prog_1_method_67_code 9 = .ok (.iload_n 1, 1) := by decide +kernel
theorem dSx_firstWithOrders_10 : decode prog_1_method_67_code 10 = .ok (.iload_n 2, 1) := by decide +kernel
theorem dSx_firstWithOrders_11 : decode prog_1_method_67_code 11 = .ok (.invokevirtual 378, 3) := by decide +kernel
theorem dSx_firstWithOrders_14 : decode prog_1_method_67_code 14 = .ok (.ifCond .eq 18, 3) := by decide +kernel
theorem dSx_firstWithOrders_17 : decode prog_1_method_67_code 17 = .ok (.aload_n 0, 1) := by decide +kernel
theorem dSx_firstWithOrders_18 : decode prog_1_method_67_code 18 = .ok (.getfield 71, 3) := by decide +kernel
theorem dSx_firstWithOrders_21 : decode prog_1_method_67_code 21 = .ok (.iload_n 1, 1) := by decide +kernel
theorem dSx_firstWithOrders_22 : decode prog_1_method_67_code 22 = .ok (.iconst 1, 1) := by decide +kernel
theorem dSx_firstWithOrders_23 : decode prog_1_method_67_code 23 = .ok (.iload_n 2, 1) := by decide +kernel
theorem dSx_firstWithOrders_24 : decode prog_1_method_67_code 24 = .ok (.ishl, 1) := by decide +kernel
theorem dSx_firstWithOrders_25 : decode prog_1_method_67_code 25 = .ok (.isub, 1) := by decide +kernel
theorem dSx_firstWithOrders_26 : decode prog_1_method_67_code 26 = .ok (.iaload, 1) := by decide +kernel
theorem dSx_firstWithOrders_27 : decode prog_1_method_67_code 27 = .ok (.ifCond .le 5, 3) := by decide +kernel
theorem dSx_firstWithOrders_30 : decode prog_1_method_67_code 30 = .ok (.iload_n 2, 1) := by decide +kernel
theorem dSx_firstWithOrders_31 : decode prog_1_method_67_code 31 = .ok (.ireturn, 1) := by decide +kernel
theorem dSx_firstWithOrders_32 : decode prog_1_method_67_code 32 = .ok (.iinc 2 1, 3) := by decide +kernel
theorem dSx_firstWithOrders_35 : decode prog_1_method_67_code 35 = .ok (.goto (-33), 3) := by decide +kernel
theorem dSx_firstWithOrders_38 : decode prog_1_method_67_code 38 = .ok (.iconst (-1), 1) := by decide +kernel
theorem dSx_firstWithOrders_39 : decode prog_1_method_67_code 39 = .ok (.ireturn, 1) := by decide +kernel
