theorem dMo_staysOff_0 : decode prog_10_method_100_code 0 = .ok (.aload_n 0, 1) := by decide +kernel
theorem dMo_staysOff_1 : decode prog_10_method_100_code 1 = .ok (.getfield 380, 3) := by decide +kernel
theorem dMo_staysOff_4 : decode prog_10_method_100_code 4 = .ok (.iconst 2, 1) := by decide +kernel
theorem dMo_staysOff_5 : decode prog_10_method_100_code 5 = .ok (.if_icmp .ne 15, 3) := by decide +kernel
theorem dMo_staysOff_8 : decode prog_10_method_100_code 8 = .ok (.aload_n 0, 1) := by decide +kernel
theorem dMo_staysOff_9 : decode prog_10_method_100_code 9 = .ok (.iload_n 1, 1) := by decide +kernel
theorem dMo_staysOff_10 : decode prog_10_method_100_code 10 = .ok (.invokevirtual 138, 3) := by decide +kernel
theorem dMo_staysOff_13 : decode prog_10_method_100_code 13 = .ok (.ifCond .ne 7, 3) := by decide +kernel
theorem dMo_staysOff_16 : decode prog_10_method_100_code 16 = .ok (.iconst 1, 1) := by decide +kernel
theorem dMo_staysOff_17 : decode prog_10_method_100_code 17 = .ok (.goto 4, 3) := by decide +kernel
theorem dMo_staysOff_20 : decode prog_10_method_100_code 20 = .ok (.iconst 0, 1) := by decide +kernel
theorem dMo_staysOff_21 : decode prog_10_method_100_code 21 = .ok (.ireturn, 1) := by decide +kernel
theorem dMo_bestOf_0 : decode prog_10_method_101_code 0 = .ok (.aload_n 0, 1) := by decide +kernel
theorem dMo_bestOf_1 : decode prog_10_method_101_code 1 = .ok (.iload_n 1, 1) := by decide +kernel
theorem dMo_bestOf_2 : decode prog_10_method_101_code 2 = .ok (.invokevirtual 389, 3) := by decide +kernel
theorem dMo_bestOf_5 : decode prog_10_method_101_code 5 = .ok (.ifCond .eq 12, 3) := by decide +kernel
theorem dMo_bestOf_8 : decode prog_10_method_101_code 8 = .ok (.aload_n 0, 1) := by decide +kernel
theorem dMo_bestOf_9 : decode prog_10_method_101_code 9 = .ok (.iload_n 1, 1) := by decide +kernel
theorem dMo_bestOf_10 : decode prog_10_method_101_code 10 = .ok (.iconst 1, 1) := by decide +kernel
theorem dMo_bestOf_11 : decode prog_10_method_101_code 11 = .ok (.iadd, 1) := by decide +kernel
theorem dMo_bestOf_12 : decode prog_10_method_101_code 12 = .ok (.iload_n 2, 1) := by decide +kernel
theorem dMo_bestOf_13 : decode prog_10_method_101_code 13 = .ok (.invokevirtual 383, 3) := by decide +kernel
theorem dMo_bestOf_16 : decode prog_10_method_101_code 16 = .ok (.ireturn, 1) := by decide +kernel
theorem dMo_bestOf_17 : decode prog_10_method_101_code 17 = .ok (.aload_n 0, 1) := by decide +kernel
theorem dMo_bestOf_18 : decode prog_10_method_101_code 18 = .ok (.getfield 380, 3) := by decide +kernel
theorem dMo_bestOf_21 : decode prog_10_method_101_code 21 = .ok (.iconst 3, 1) := by decide +kernel
theorem dMo_bestOf_22 : decode prog_10_method_101_code 22 = .ok (.if_icmp .ne 7, 3) := by decide +kernel
theorem dMo_bestOf_25 : decode prog_10_method_101_code 25 = .ok (.iconst 0, 1) := by decide +kernel
theorem dMo_bestOf_26 : decode prog_10_method_101_code 26 = .ok (.goto 5, 3) := by decide +kernel
theorem dMo_bestOf_29 : decode prog_10_method_101_code 29 = .ok (.ldc 193, 2) := by decide +kernel
theorem dMo_bestOf_31 : decode prog_10_method_101_code 31 = .ok (.istore_n 3, 1) := by decide +kernel
theorem dMo_bestOf_32 : decode prog_10_method_101_code 32 = .ok (.iconst 0, 1) := by decide +kernel
theorem dMo_bestOf_33 : decode prog_10_method_101_code 33 = .ok (.istore 4, 2) := by decide +kernel
theorem dMo_bestOf_35 : decode prog_10_method_101_code 35 = .ok (.iload 4, 2) := by decide +kernel
theorem dMo_bestOf_37 : decode prog_10_method_101_code 37 = .ok (.bipush 7, 2) := by decide +kernel
theorem dMo_bestOf_39 : decode prog_10_method_101_code 39 = .ok (.if_icmp .ge 54, 3) := by decide +kernel
theorem dMo_bestOf_42 : decode prog_10_method_101_code 42 = .ok (.aload_n 0, 1) := by decide +kernel
theorem dMo_bestOf_43 : decode prog_10_method_101_code 43 = .ok (.iload_n 1, 1) := by decide +kernel
theorem dMo_bestOf_44 : decode prog_10_method_101_code 44 = .ok (.iload 4, 2) := by decide +kernel
theorem dMo_bestOf_46 : decode prog_10_method_101_code 46 = .ok (.invokevirtual 392, 3) := by decide +kernel
theorem dMo_bestOf_49 : decode prog_10_method_101_code 49 = .ok (.ifCond .ne 6, 3) := by decide +kernel
theorem dMo_bestOf_52 : decode prog_10_method_101_code 52 = .ok (.goto 35, 3) := by decide +kernel
theorem dMo_bestOf_55 : decode prog_10_method_101_code 55 = .ok (.aload_n 0, 1) := by decide +kernel
theorem dMo_bestOf_56 : decode prog_10_method_101_code 56 = .ok (.iload_n 1, 1) := by decide +kernel
theorem dMo_bestOf_57 : decode prog_10_method_101_code 57 = .ok (.iload 4, 2) := by decide +kernel
theorem dMo_bestOf_59 : decode prog_10_method_101_code 59 = .ok (.iload_n 2, 1) := by decide +kernel
theorem dMo_bestOf_60 : decode prog_10_method_101_code 60 = .ok (.invokevirtual 395, 3) := by decide +kernel
theorem dMo_bestOf_63 : decode prog_10_method_101_code 63 = .ok (.istore 5, 2) := by decide +kernel
theorem dMo_bestOf_65 : decode prog_10_method_101_code 65 = .ok (.aload_n 0, 1) := by decide +kernel
theorem dMo_bestOf_66 : decode prog_10_method_101_code 66 = .ok (.getfield 380, 3) := by decide +kernel
theorem dMo_bestOf_69 : decode prog_10_method_101_code 69 = .ok (.iconst 3, 1) := by decide +kernel
theorem dMo_bestOf_70 : decode prog_10_method_101_code 70 = .ok (.if_icmp .ne 10, 3) := by decide +kernel
theorem dMo_bestOf_73 : decode prog_10_method_101_code 73 = .ok (.iload_n 3, 1) := by decide +kernel
theorem dMo_bestOf_74 : decode prog_10_method_101_code 74 = .ok (.iload 5, 2) := by decide +kernel
theorem dMo_bestOf_76 : decode prog_10_method_101_code 76 = .ok (.iadd, 1) := by decide +kernel
theorem dMo_bestOf_77 : decode prog_10_method_101_code 77 = .ok (.goto 9, 3) := by decide +kernel
theorem dMo_bestOf_80 : decode prog_10_method_101_code 80 = .ok (.iload_n 3, 1) := by decide +kernel
theorem dMo_bestOf_81 : decode prog_10_method_101_code 81 = .ok (.iload 5, 2) := by decide +kernel
theorem dMo_bestOf_83 : decode prog_10_method_101_code 83 = .ok (.invokestatic 386, 3) := by decide +kernel
theorem dMo_bestOf_86 : decode prog_10_method_101_code 86 = .ok (.istore_n 3, 1) := by decide +kernel
theorem dMo_bestOf_87 : decode prog_10_method_101_code 87 = .ok (.iinc 4 1, 3) := by decide +kernel
theorem dMo_bestOf_90 : decode prog_10_method_101_code 90 = .ok (.goto (-55), 3) := by decide +kernel
theorem dMo_bestOf_93 : decode prog_10_method_101_code 93 = .ok (.iload_n 3, 1) := by decide +kernel
theorem dMo_bestOf_94 : decode prog_10_method_101_code 94 = .ok (.ireturn, 1) := by decide +kernel
theorem dMo_placeIn_0 : decode prog_10_method_103_code 0 = .ok (.iconst 0, 1) := by decide +kernel
theorem dMo_placeIn_1 : decode prog_10_method_103_code 1 = .ok (.istore_n 2, 1) := by decide +kernel
theorem dMo_placeIn_2 : decode prog_10_method_103_code 2 = .ok (.iconst (-1), 1) := by decide +kernel
theorem dMo_placeIn_3 : decode prog_10_method_103_code 3 = .ok (.istore_n 3, 1) := by decide +kernel
theorem dMo_placeIn_4 : decode prog_10_method_103_code 4 = .ok (.iconst 0, 1) := by decide +kernel
theorem dMo_placeIn_5 : decode prog_10_method_103_code 5 = .ok (.istore 4, 2) := by decide +kernel
theorem dMo_placeIn_7 : decode prog_10_method_103_code 7 = .ok (.iload 4, 2) := by decide +kernel
theorem dMo_placeIn_9 : decode prog_10_method_103_code 9 = .ok (.iload_n 1, 1) := by decide +kernel
theorem dMo_placeIn_10 : decode prog_10_method_103_code 10 = .ok (.if_icmp .gt 75, 3) := by decide +kernel
theorem dMo_placeIn_13 : decode prog_10_method_103_code 13 = .ok (.bipush 7, 2) := by decide +kernel
theorem dMo_placeIn_15 : decode prog_10_method_103_code 15 = .ok (.istore_n 3, 1) := by decide +kernel
theorem dMo_placeIn_16 : decode prog_10_method_103_code 16 = .ok (.aload_n 0, 1) := by decide +kernel
theorem dMo_placeIn_17 : decode prog_10_method_103_code 17 = .ok (.iload 4, 2) := by decide +kernel
theorem dMo_placeIn_19 : decode prog_10_method_103_code 19 = .ok (.invokevirtual 389, 3) := by decide +kernel
theorem dMo_placeIn_22 : decode prog_10_method_103_code 22 = .ok (.ifCond .eq 6, 3) := by decide +kernel
theorem dMo_placeIn_25 : decode prog_10_method_103_code 25 = .ok (.goto 54, 3) := by decide +kernel
theorem dMo_placeIn_28 : decode prog_10_method_103_code 28 = .ok (.iconst 0, 1) := by decide +kernel
theorem dMo_placeIn_29 : decode prog_10_method_103_code 29 = .ok (.istore_n 3, 1) := by decide +kernel
theorem dMo_placeIn_30 : decode prog_10_method_103_code 30 = .ok (.aload_n 0, 1) := by decide +kernel
theorem dMo_placeIn_31 : decode prog_10_method_103_code 31 = .ok (.iload 4, 2) := by decide +kernel
theorem dMo_placeIn_33 : decode prog_10_method_103_code 33 = .ok (.iload_n 3, 1) := by decide +kernel
theorem dMo_placeIn_34 : decode prog_10_method_103_code 34 = .ok (.invokevirtual 392, 3) := by decide +kernel
theorem dMo_placeIn_37 : decode prog_10_method_103_code 37 = .ok (.ifCond .eq 21, 3) := by decide +kernel
theorem dMo_placeIn_40 : decode prog_10_method_103_code 40 = .ok (.aload_n 0, 1) := by decide +kernel
theorem dMo_placeIn_41 : decode prog_10_method_103_code 41 = .ok (.iload 4, 2) := by decide +kernel
theorem dMo_placeIn_43 : decode prog_10_method_103_code 43 = .ok (.iload_n 3, 1) := by decide +kernel
theorem dMo_placeIn_44 : decode prog_10_method_103_code 44 = .ok (.iload_n 2, 1) := by decide +kernel
theorem dMo_placeIn_45 : decode prog_10_method_103_code 45 = .ok (.invokevirtual 395, 3) := by decide +kernel
theorem dMo_placeIn_48 : decode prog_10_method_103_code 48 = .ok (.aload_n 0, 1) := by decide +kernel
theorem dMo_placeIn_49 : decode prog_10_method_103_code 49 = .ok (.iload 4, 2) := by decide +kernel
theorem dMo_placeIn_51 : decode prog_10_method_103_code 51 = .ok (.iload_n 2, 1) := by decide +kernel
theorem dMo_placeIn_52 : decode prog_10_method_103_code 52 = .ok (.invokevirtual 383, 3) := by decide +kernel
theorem dMo_placeIn_55 : decode prog_10_method_103_code 55 = .ok (.if_icmp .eq 9, 3) := by decide +kernel
theorem dMo_placeIn_58 : decode prog_10_method_103_code 58 = .ok (.iinc 3 1, 3) := by decide +kernel
theorem dMo_placeIn_61 : decode prog_10_method_103_code 61 = .ok (.goto (-31), 3) := by decide +kernel
theorem dMo_placeIn_64 : decode prog_10_method_103_code 64 = .ok (.iload_n 2, 1) := by decide +kernel
theorem dMo_placeIn_65 : decode prog_10_method_103_code 65 = .ok (.aload_n 0, 1) := by decide +kernel
theorem dMo_placeIn_66 : decode prog_10_method_103_code 66 = .ok (.getfield 75, 3) := by decide +kernel
theorem dMo_placeIn_69 : decode prog_10_method_103_code 69 = .ok (.bipush 7, 2) := by decide +kernel
theorem dMo_placeIn_71 : decode prog_10_method_103_code 71 = .ok (.iload 4, 2) := by decide +kernel
theorem dMo_placeIn_73 : decode prog_10_method_103_code 73 = .ok (.imul, 1) := by decide +kernel
theorem dMo_placeIn_74 : decode prog_10_method_103_code 74 = .ok (.iload_n 3, 1) := by decide +kernel
theorem dMo_placeIn_75 : decode prog_10_method_103_code 75 = .ok (.iadd, 1) := by decide +kernel
theorem dMo_placeIn_76 : decode prog_10_method_103_code 76 = .ok (.iaload, 1) := by decide +kernel
theorem dMo_placeIn_77 : decode prog_10_method_103_code 77 = .ok (.iadd, 1) := by decide +kernel
theorem dMo_placeIn_78 : decode prog_10_method_103_code 78 = .ok (.istore_n 2, 1) := by decide +kernel
theorem dMo_placeIn_79 : decode prog_10_method_103_code 79 = .ok (.iinc 4 1, 3) := by decide +kernel
theorem dMo_placeIn_82 : decode prog_10_method_103_code 82 = .ok (.goto (-75), 3) := by decide +kernel
theorem dMo_placeIn_85 : decode prog_10_method_103_code 85 = .ok (.iload_n 3, 1) := by decide +kernel
theorem dMo_placeIn_86 : decode prog_10_method_103_code 86 = .ok (.ireturn, 1) := by decide +kernel
theorem dMo_heavyOf_0 : decode prog_10_method_113_code 0 = .ok (.iconst 0, 1) := by decide +kernel
theorem dMo_heavyOf_1 : decode prog_10_method_113_code 1 = .ok (.istore_n 2, 1) := by decide +kernel
theorem dMo_heavyOf_2 : decode prog_10_method_113_code 2 = .ok (.iconst 0, 1) := by decide +kernel
theorem dMo_heavyOf_3 : decode prog_10_method_113_code 3 = .ok (.istore_n 3, 1) := by decide +kernel
theorem dMo_heavyOf_4 : decode prog_10_method_113_code 4 = .ok (.iload_n 3, 1) := by decide +kernel
theorem dMo_heavyOf_5 : decode prog_10_method_113_code 5 = .ok (.aload_n 0, 1) := by decide +kernel
theorem dMo_heavyOf_6 : decode prog_10_method_113_code 6 = .ok (.invokevirtual 119, 3) := by decide +kernel
theorem dMo_heavyOf_9 : decode prog_10_method_113_code 9 = .ok (.if_icmp .ge 32, 3) := by decide +kernel
theorem dMo_heavyOf_12 : decode prog_10_method_113_code 12 = .ok (.iload_n 2, 1) := by decide +kernel
theorem dMo_heavyOf_13 : decode prog_10_method_113_code 13 = .ok (.iload_n 1, 1) := by decide +kernel
theorem dMo_heavyOf_14 : decode prog_10_method_113_code 14 = .ok (.iload_n 3, 1) := by decide +kernel
theorem dMo_heavyOf_15 : decode prog_10_method_113_code 15 = .ok (.invokestatic 423, 3) := by decide +kernel
theorem dMo_heavyOf_18 : decode prog_10_method_113_code 18 = .ok (.ifCond .eq 14, 3) := by decide +kernel
theorem dMo_heavyOf_21 : decode prog_10_method_113_code 21 = .ok (.aload_n 0, 1) := by decide +kernel
theorem dMo_heavyOf_22 : decode prog_10_method_113_code 22 = .ok (.getfield 28, 3) := by decide +kernel
theorem dMo_heavyOf_25 : decode prog_10_method_113_code 25 = .ok (.iconst 0, 1) := by decide +kernel
theorem dMo_heavyOf_26 : decode prog_10_method_113_code 26 = .ok (.iload_n 3, 1) := by decide +kernel
theorem dMo_heavyOf_27 : decode prog_10_method_113_code 27 = .ok (.iadd, 1) := by decide +kernel
theorem dMo_heavyOf_28 : decode prog_10_method_113_code 28 = .ok (.iaload, 1) := by decide +kernel
theorem dMo_heavyOf_29 : decode prog_10_method_113_code 29 = .ok (.goto 4, 3) := by decide +kernel
theorem dMo_heavyOf_32 : decode prog_10_method_113_code 32 = .ok (.iconst 0, 1) := by decide +kernel
theorem dMo_heavyOf_33 : decode prog_10_method_113_code 33 = .ok (.iadd, 1) := by decide +kernel
theorem dMo_heavyOf_34 : decode prog_10_method_113_code 34 = .ok (.istore_n 2, 1) := by decide +kernel
theorem dMo_heavyOf_35 : decode prog_10_method_113_code 35 = .ok (.iinc 3 1, 3) := by decide +kernel
theorem dMo_heavyOf_38 : decode prog_10_method_113_code 38 = .ok (.goto (-34), 3) := by decide +kernel
theorem dMo_heavyOf_41 : decode prog_10_method_113_code 41 = .ok (.iload_n 2, 1) := by decide +kernel
theorem dMo_heavyOf_42 : decode prog_10_method_113_code 42 = .ok (.ireturn, 1) := by decide +kernel
theorem dMo_shares_0 : decode prog_10_method_114_code 0 = .ok (.iload_n 1, 1) := by decide +kernel
theorem dMo_shares_1 : decode prog_10_method_114_code 1 = .ok (.iconst 0, 1) := by decide +kernel
theorem dMo_shares_2 : decode prog_10_method_114_code 2 = .ok (.iconst 2, 1) := by decide +kernel
theorem dMo_shares_3 : decode prog_10_method_114_code 3 = .ok (.invokestatic 18, 3) := by decide +kernel
theorem dMo_shares_6 : decode prog_10_method_114_code 6 = .ok (.ifCond .eq 10, 3) := by decide +kernel
theorem dMo_shares_9 : decode prog_10_method_114_code 9 = .ok (.aload_n 0, 1) := by decide +kernel
theorem dMo_shares_10 : decode prog_10_method_114_code 10 = .ok (.invokevirtual 119, 3) := by decide +kernel
theorem dMo_shares_13 : decode prog_10_method_114_code 13 = .ok (.ifCond .ne 5, 3) := by decide +kernel
theorem dMo_shares_16 : decode prog_10_method_114_code 16 = .ok (.iconst (-1), 1) := by decide +kernel
theorem dMo_shares_17 : decode prog_10_method_114_code 17 = .ok (.ireturn, 1) := by decide +kernel
theorem dMo_shares_18 : decode prog_10_method_114_code 18 = .ok (.ldc 193, 2) := by decide +kernel
theorem dMo_shares_20 : decode prog_10_method_114_code 20 = .ok (.istore_n 2, 1) := by decide +kernel
theorem dMo_shares_21 : decode prog_10_method_114_code 21 = .ok (.iconst (-1), 1) := by decide +kernel
theorem dMo_shares_22 : decode prog_10_method_114_code 22 = .ok (.istore_n 3, 1) := by decide +kernel
theorem dMo_shares_23 : decode prog_10_method_114_code 23 = .ok (.iconst 0, 1) := by decide +kernel
theorem dMo_shares_24 : decode prog_10_method_114_code 24 = .ok (.istore 4, 2) := by decide +kernel
theorem dMo_shares_26 : decode prog_10_method_114_code 26 = .ok (.iconst 1, 1) := by decide +kernel
theorem dMo_shares_27 : decode prog_10_method_114_code 27 = .ok (.istore 5, 2) := by decide +kernel
theorem dMo_shares_29 : decode prog_10_method_114_code 29 = .ok (.iload 5, 2) := by decide +kernel
theorem dMo_shares_31 : decode prog_10_method_114_code 31 = .ok (.aload_n 0, 1) := by decide +kernel
theorem dMo_shares_32 : decode prog_10_method_114_code 32 = .ok (.invokevirtual 426, 3) := by decide +kernel
theorem dMo_shares_35 : decode prog_10_method_114_code 35 = .ok (.if_icmp .gt 63, 3) := by decide +kernel
theorem dMo_shares_38 : decode prog_10_method_114_code 38 = .ok (.aload_n 0, 1) := by decide +kernel
theorem dMo_shares_39 : decode prog_10_method_114_code 39 = .ok (.iload 5, 2) := by decide +kernel
theorem dMo_shares_41 : decode prog_10_method_114_code 41 = .ok (.invokevirtual 429, 3) := by decide +kernel
theorem dMo_shares_44 : decode prog_10_method_114_code 44 = .ok (.aload_n 0, 1) := by decide +kernel
theorem dMo_shares_45 : decode prog_10_method_114_code 45 = .ok (.aload_n 0, 1) := by decide +kernel
theorem dMo_shares_46 : decode prog_10_method_114_code 46 = .ok (.invokevirtual 426, 3) := by decide +kernel
theorem dMo_shares_49 : decode prog_10_method_114_code 49 = .ok (.iload 5, 2) := by decide +kernel
theorem dMo_shares_51 : decode prog_10_method_114_code 51 = .ok (.ixor, 1) := by decide +kernel
theorem dMo_shares_52 : decode prog_10_method_114_code 52 = .ok (.invokevirtual 429, 3) := by decide +kernel
theorem dMo_shares_55 : decode prog_10_method_114_code 55 = .ok (.isub, 1) := by decide +kernel
theorem dMo_shares_56 : decode prog_10_method_114_code 56 = .ok (.invokestatic 163, 3) := by decide +kernel
theorem dMo_shares_59 : decode prog_10_method_114_code 59 = .ok (.istore 6, 2) := by decide +kernel
theorem dMo_shares_61 : decode prog_10_method_114_code 61 = .ok (.iload 6, 2) := by decide +kernel
theorem dMo_shares_63 : decode prog_10_method_114_code 63 = .ok (.iload_n 2, 1) := by decide +kernel
theorem dMo_shares_64 : decode prog_10_method_114_code 64 = .ok (.if_icmp .ge 12, 3) := by decide +kernel
theorem dMo_shares_67 : decode prog_10_method_114_code 67 = .ok (.iload 6, 2) := by decide +kernel
theorem dMo_shares_69 : decode prog_10_method_114_code 69 = .ok (.istore_n 2, 1) := by decide +kernel
theorem dMo_shares_70 : decode prog_10_method_114_code 70 = .ok (.iload 5, 2) := by decide +kernel
theorem dMo_shares_72 : decode prog_10_method_114_code 72 = .ok (.istore_n 3, 1) := by decide +kernel
theorem dMo_shares_73 : decode prog_10_method_114_code 73 = .ok (.iconst 0, 1) := by decide +kernel
theorem dMo_shares_74 : decode prog_10_method_114_code 74 = .ok (.istore 4, 2) := by decide +kernel
theorem dMo_shares_76 : decode prog_10_method_114_code 76 = .ok (.iload 4, 2) := by decide +kernel
theorem dMo_shares_78 : decode prog_10_method_114_code 78 = .ok (.iload 6, 2) := by decide +kernel
theorem dMo_shares_80 : decode prog_10_method_114_code 80 = .ok (.iload_n 2, 1) := by decide +kernel
theorem dMo_shares_81 : decode prog_10_method_114_code 81 = .ok (.if_icmp .ne 7, 3) := by decide +kernel
theorem dMo_shares_84 : decode prog_10_method_114_code 84 = .ok (.iconst 1, 1) := by decide +kernel
theorem dMo_shares_85 : decode prog_10_method_114_code 85 = .ok (.goto 4, 3) := by decide +kernel
theorem dMo_shares_88 : decode prog_10_method_114_code 88 = .ok (.iconst 0, 1) := by decide +kernel
theorem dMo_shares_89 : decode prog_10_method_114_code 89 = .ok (.iadd, 1) := by decide +kernel
theorem dMo_shares_90 : decode prog_10_method_114_code 90 = .ok (.istore 4, 2) := by decide +kernel
theorem dMo_shares_92 : decode prog_10_method_114_code 92 = .ok (.iinc 5 2, 3) := by decide +kernel
theorem dMo_shares_95 : decode prog_10_method_114_code 95 = .ok (.goto (-66), 3) := by decide +kernel
theorem dMo_shares_98 : decode prog_10_method_114_code 98 = .ok (.iload_n 1, 1) := by decide +kernel
theorem dMo_shares_99 : decode prog_10_method_114_code 99 = .ok (.ifCond .ne 7, 3) := by decide +kernel
theorem dMo_shares_102 : decode prog_10_method_114_code 102 = .ok (.iload_n 2, 1) := by decide +kernel
theorem dMo_shares_103 : decode prog_10_method_114_code 103 = .ok (.goto 14, 3) := by decide +kernel
theorem dMo_shares_106 : decode prog_10_method_114_code 106 = .ok (.iload_n 1, 1) := by decide +kernel
theorem dMo_shares_107 : decode prog_10_method_114_code 107 = .ok (.iconst 1, 1) := by decide +kernel
theorem dMo_shares_108 : decode prog_10_method_114_code 108 = .ok (.if_icmp .ne 7, 3) := by decide +kernel
theorem dMo_shares_111 : decode prog_10_method_114_code 111 = .ok (.iload_n 3, 1) := by decide +kernel
theorem dMo_shares_112 : decode prog_10_method_114_code 112 = .ok (.goto 5, 3) := by decide +kernel
theorem dMo_shares_115 : decode prog_10_method_114_code 115 = .ok (.iload 4, 2) := by decide +kernel
theorem dMo_shares_117 : decode prog_10_method_114_code 117 = .ok (.ireturn, 1) := by decide +kernel
theorem dMo_onNow_0 : decode prog_10_method_115_code 0 = .ok (.iconst 0, 1) := by decide +kernel
theorem dMo_onNow_1 : decode prog_10_method_115_code 1 = .ok (.istore_n 1, 1) := by decide +kernel
theorem dMo_onNow_2 : decode prog_10_method_115_code 2 = .ok (.iconst 0, 1) := by decide +kernel
theorem dMo_onNow_3 : decode prog_10_method_115_code 3 = .ok (.istore_n 2, 1) := by decide +kernel
theorem dMo_onNow_4 : decode prog_10_method_115_code 4 = .ok (.iload_n 2, 1) := by decide +kernel
theorem dMo_onNow_5 : decode prog_10_method_115_code 5 = .ok (.aload_n 0, 1) := by decide +kernel
theorem dMo_onNow_6 : decode prog_10_method_115_code 6 = .ok (.invokevirtual 119, 3) := by decide +kernel
theorem dMo_onNow_9 : decode prog_10_method_115_code 9 = .ok (.if_icmp .ge 27, 3) := by decide +kernel
theorem dMo_onNow_12 : decode prog_10_method_115_code 12 = .ok (.iload_n 1, 1) := by decide +kernel
theorem dMo_onNow_13 : decode prog_10_method_115_code 13 = .ok (.aload_n 0, 1) := by decide +kernel
theorem dMo_onNow_14 : decode prog_10_method_115_code 14 = .ok (.iload_n 2, 1) := by decide +kernel
theorem dMo_onNow_15 : decode prog_10_method_115_code 15 = .ok (.invokevirtual 138, 3) := by decide +kernel
theorem dMo_onNow_18 : decode prog_10_method_115_code 18 = .ok (.ifCond .eq 9, 3) := by decide +kernel
theorem dMo_onNow_21 : decode prog_10_method_115_code 21 = .ok (.iconst 1, 1) := by decide +kernel
theorem dMo_onNow_22 : decode prog_10_method_115_code 22 = .ok (.iload_n 2, 1) := by decide +kernel
theorem dMo_onNow_23 : decode prog_10_method_115_code 23 = .ok (.ishl, 1) := by decide +kernel
theorem dMo_onNow_24 : decode prog_10_method_115_code 24 = .ok (.goto 4, 3) := by decide +kernel
theorem dMo_onNow_27 : decode prog_10_method_115_code 27 = .ok (.iconst 0, 1) := by decide +kernel
theorem dMo_onNow_28 : decode prog_10_method_115_code 28 = .ok (.ior, 1) := by decide +kernel
theorem dMo_onNow_29 : decode prog_10_method_115_code 29 = .ok (.istore_n 1, 1) := by decide +kernel
theorem dMo_onNow_30 : decode prog_10_method_115_code 30 = .ok (.iinc 2 1, 3) := by decide +kernel
theorem dMo_onNow_33 : decode prog_10_method_115_code 33 = .ok (.goto (-29), 3) := by decide +kernel
theorem dMo_onNow_36 : decode prog_10_method_115_code 36 = .ok (.iload_n 1, 1) := by decide +kernel
theorem dMo_onNow_37 : decode prog_10_method_115_code 37 = .ok (.ireturn, 1) := by decide +kernel
theorem dMo_canOff_0 : decode prog_10_method_117_code 0 = .ok (.iload_n 1, 1) := by decide +kernel
theorem dMo_canOff_1 : decode prog_10_method_117_code 1 = .ok (.iload_n 2, 1) := by decide +kernel
theorem dMo_canOff_2 : decode prog_10_method_117_code 2 = .ok (.invokestatic 423, 3) := by decide +kernel
theorem dMo_canOff_5 : decode prog_10_method_117_code 5 = .ok (.ifCond .eq 24, 3) := by decide +kernel
theorem dMo_canOff_8 : decode prog_10_method_117_code 8 = .ok (.aload_n 0, 1) := by decide +kernel
theorem dMo_canOff_9 : decode prog_10_method_117_code 9 = .ok (.aload_n 0, 1) := by decide +kernel
theorem dMo_canOff_10 : decode prog_10_method_117_code 10 = .ok (.getfield 85, 3) := by decide +kernel
theorem dMo_canOff_13 : decode prog_10_method_117_code 13 = .ok (.iload_n 1, 1) := by decide +kernel
theorem dMo_canOff_14 : decode prog_10_method_117_code 14 = .ok (.iconst 1, 1) := by decide +kernel
theorem dMo_canOff_15 : decode prog_10_method_117_code 15 = .ok (.iload_n 2, 1) := by decide +kernel
theorem dMo_canOff_16 : decode prog_10_method_117_code 16 = .ok (.ishl, 1) := by decide +kernel
theorem dMo_canOff_17 : decode prog_10_method_117_code 17 = .ok (.ixor, 1) := by decide +kernel
theorem dMo_canOff_18 : decode prog_10_method_117_code 18 = .ok (.iaload, 1) := by decide +kernel
theorem dMo_canOff_19 : decode prog_10_method_117_code 19 = .ok (.invokevirtual 166, 3) := by decide +kernel
theorem dMo_canOff_22 : decode prog_10_method_117_code 22 = .ok (.ifCond .eq 7, 3) := by decide +kernel
theorem dMo_canOff_25 : decode prog_10_method_117_code 25 = .ok (.iconst 1, 1) := by decide +kernel
theorem dMo_canOff_26 : decode prog_10_method_117_code 26 = .ok (.goto 4, 3) := by decide +kernel
theorem dMo_canOff_29 : decode prog_10_method_117_code 29 = .ok (.iconst 0, 1) := by decide +kernel
theorem dMo_canOff_30 : decode prog_10_method_117_code 30 = .ok (.ireturn, 1) := by decide +kernel
theorem dMo_winsBy_0 : decode prog_10_method_120_code 0 = .ok (.iconst (-1), 1) := by decide +kernel
theorem dMo_winsBy_1 : decode prog_10_method_120_code 1 = .ok (.istore_n 2, 1) := by decide +kernel
theorem dMo_winsBy_2 : decode prog_10_method_120_code 2 = .ok (.aload_n 0, 1) := by decide +kernel
theorem dMo_winsBy_3 : decode prog_10_method_120_code 3 = .ok (.invokevirtual 119, 3) := by decide +kernel
theorem dMo_winsBy_6 : decode prog_10_method_120_code 6 = .ok (.iconst 1, 1) := by decide +kernel
theorem dMo_winsBy_7 : decode prog_10_method_120_code 7 = .ok (.isub, 1) := by decide +kernel
theorem dMo_winsBy_8 : decode prog_10_method_120_code 8 = .ok (.istore_n 3, 1) := by decide +kernel
theorem dMo_winsBy_9 : decode prog_10_method_120_code 9 = .ok (.iload_n 3, 1) := by decide +kernel
theorem dMo_winsBy_10 : decode prog_10_method_120_code 10 = .ok (.ifCond .lt 37, 3) := by decide +kernel
theorem dMo_winsBy_13 : decode prog_10_method_120_code 13 = .ok (.aload_n 0, 1) := by decide +kernel
theorem dMo_winsBy_14 : decode prog_10_method_120_code 14 = .ok (.iload_n 1, 1) := by decide +kernel
theorem dMo_winsBy_15 : decode prog_10_method_120_code 15 = .ok (.iload_n 3, 1) := by decide +kernel
theorem dMo_winsBy_16 : decode prog_10_method_120_code 16 = .ok (.invokevirtual 438, 3) := by decide +kernel
theorem dMo_winsBy_19 : decode prog_10_method_120_code 19 = .ok (.ifCond .eq 20, 3) := by decide +kernel
theorem dMo_winsBy_22 : decode prog_10_method_120_code 22 = .ok (.aload_n 0, 1) := by decide +kernel
theorem dMo_winsBy_23 : decode prog_10_method_120_code 23 = .ok (.getfield 91, 3) := by decide +kernel
theorem dMo_winsBy_26 : decode prog_10_method_120_code 26 = .ok (.iload_n 1, 1) := by decide +kernel
theorem dMo_winsBy_27 : decode prog_10_method_120_code 27 = .ok (.iconst 1, 1) := by decide +kernel
theorem dMo_winsBy_28 : decode prog_10_method_120_code 28 = .ok (.iload_n 3, 1) := by decide +kernel
theorem dMo_winsBy_29 : decode prog_10_method_120_code 29 = .ok (.ishl, 1) := by decide +kernel
theorem dMo_winsBy_30 : decode prog_10_method_120_code 30 = .ok (.ixor, 1) := by decide +kernel
theorem dMo_winsBy_31 : decode prog_10_method_120_code 31 = .ok (.baload, 1) := by decide +kernel
theorem dMo_winsBy_32 : decode prog_10_method_120_code 32 = .ok (.ifCond .ne 7, 3) := by decide +kernel
theorem dMo_winsBy_35 : decode prog_10_method_120_code 35 = .ok (.iload_n 3, 1) := by decide +kernel
theorem dMo_winsBy_36 : decode prog_10_method_120_code 36 = .ok (.goto 4, 3) := by decide +kernel
theorem dMo_winsBy_39 : decode prog_10_method_120_code 39 = .ok (.iload_n 2, 1) := by decide +kernel
theorem dMo_winsBy_40 : decode prog_10_method_120_code 40 = .ok (.istore_n 2, 1) := by decide +kernel
theorem dMo_winsBy_41 : decode prog_10_method_120_code 41 = .ok (.iinc 3 (-1), 3) := by decide +kernel
theorem dMo_winsBy_44 : decode prog_10_method_120_code 44 = .ok (.goto (-35), 3) := by decide +kernel
theorem dMo_winsBy_47 : decode prog_10_method_120_code 47 = .ok (.iload_n 2, 1) := by decide +kernel
theorem dMo_winsBy_48 : decode prog_10_method_120_code 48 = .ok (.ireturn, 1) := by decide +kernel
theorem dMo_weighed_0 : decode prog_10_method_122_code 0 = .ok (.iload_n 1, 1) := by decide +kernel
theorem dMo_weighed_1 : decode prog_10_method_122_code 1 = .ok (.iconst 0, 1) := by decide +kernel
theorem dMo_weighed_2 : decode prog_10_method_122_code 2 = .ok (.bipush 127, 2) := by decide +kernel
theorem dMo_weighed_4 : decode prog_10_method_122_code 4 = .ok (.invokestatic 18, 3) := by decide +kernel
theorem dMo_weighed_7 : decode prog_10_method_122_code 7 = .ok (.ifCond .eq 28, 3) := by decide +kernel
theorem dMo_weighed_10 : decode prog_10_method_122_code 10 = .ok (.iload_n 2, 1) := by decide +kernel
theorem dMo_weighed_11 : decode prog_10_method_122_code 11 = .ok (.iconst 0, 1) := by decide +kernel
theorem dMo_weighed_12 : decode prog_10_method_122_code 12 = .ok (.bipush 127, 2) := by decide +kernel
theorem dMo_weighed_14 : decode prog_10_method_122_code 14 = .ok (.invokestatic 18, 3) := by decide +kernel
theorem dMo_weighed_17 : decode prog_10_method_122_code 17 = .ok (.ifCond .eq 18, 3) := by decide +kernel
theorem dMo_weighed_20 : decode prog_10_method_122_code 20 = .ok (.iload_n 1, 1) := by decide +kernel
theorem dMo_weighed_21 : decode prog_10_method_122_code 21 = .ok (.iload_n 2, 1) := by decide +kernel
theorem dMo_weighed_22 : decode prog_10_method_122_code 22 = .ok (.iand, 1) := by decide +kernel
theorem dMo_weighed_23 : decode prog_10_method_122_code 23 = .ok (.ifCond .ne 12, 3) := by decide +kernel
theorem dMo_weighed_26 : decode prog_10_method_122_code 26 = .ok (.iload_n 3, 1) := by decide +kernel
theorem dMo_weighed_27 : decode prog_10_method_122_code 27 = .ok (.iconst 0, 1) := by decide +kernel
theorem dMo_weighed_28 : decode prog_10_method_122_code 28 = .ok (.iconst 2, 1) := by decide +kernel
theorem dMo_weighed_29 : decode prog_10_method_122_code 29 = .ok (.invokestatic 18, 3) := by decide +kernel
theorem dMo_weighed_32 : decode prog_10_method_122_code 32 = .ok (.ifCond .ne 9, 3) := by decide +kernel
theorem dMo_weighed_35 : decode prog_10_method_122_code 35 = .ok (.aload_n 0, 1) := by decide +kernel
theorem dMo_weighed_36 : decode prog_10_method_122_code 36 = .ok (.iconst (-1), 1) := by decide +kernel
theorem dMo_weighed_37 : decode prog_10_method_122_code 37 = .ok (.invokevirtual 113, 3) := by decide +kernel
theorem dMo_weighed_40 : decode prog_10_method_122_code 40 = .ok (.ireturn, 1) := by decide +kernel
theorem dMo_weighed_41 : decode prog_10_method_122_code 41 = .ok (.iload_n 1, 1) := by decide +kernel
theorem dMo_weighed_42 : decode prog_10_method_122_code 42 = .ok (.iload_n 2, 1) := by decide +kernel
theorem dMo_weighed_43 : decode prog_10_method_122_code 43 = .ok (.ior, 1) := by decide +kernel
theorem dMo_weighed_44 : decode prog_10_method_122_code 44 = .ok (.aload_n 0, 1) := by decide +kernel
theorem dMo_weighed_45 : decode prog_10_method_122_code 45 = .ok (.invokevirtual 426, 3) := by decide +kernel
theorem dMo_weighed_48 : decode prog_10_method_122_code 48 = .ok (.iconst (-1), 1) := by decide +kernel
theorem dMo_weighed_49 : decode prog_10_method_122_code 49 = .ok (.ixor, 1) := by decide +kernel
theorem dMo_weighed_50 : decode prog_10_method_122_code 50 = .ok (.iand, 1) := by decide +kernel
theorem dMo_weighed_51 : decode prog_10_method_122_code 51 = .ok (.ifCond .eq 10, 3) := by decide +kernel
theorem dMo_weighed_54 : decode prog_10_method_122_code 54 = .ok (.aload_n 0, 1) := by decide +kernel
theorem dMo_weighed_55 : decode prog_10_method_122_code 55 = .ok (.bipush (-2), 2) := by decide +kernel
theorem dMo_weighed_57 : decode prog_10_method_122_code 57 = .ok (.invokevirtual 113, 3) := by decide +kernel
theorem dMo_weighed_60 : decode prog_10_method_122_code 60 = .ok (.ireturn, 1) := by decide +kernel
theorem dMo_weighed_61 : decode prog_10_method_122_code 61 = .ok (.bipush 22, 2) := by decide +kernel
theorem dMo_weighed_63 : decode prog_10_method_122_code 63 = .ok (.iconst 3, 1) := by decide +kernel
theorem dMo_weighed_64 : decode prog_10_method_122_code 64 = .ok (.aload_n 0, 1) := by decide +kernel
theorem dMo_weighed_65 : decode prog_10_method_122_code 65 = .ok (.getfield 28, 3) := by decide +kernel
theorem dMo_weighed_68 : decode prog_10_method_122_code 68 = .ok (.bipush 44, 2) := by decide +kernel
theorem dMo_weighed_70 : decode prog_10_method_122_code 70 = .ok (.iaload, 1) := by decide +kernel
theorem dMo_weighed_71 : decode prog_10_method_122_code 71 = .ok (.imul, 1) := by decide +kernel
theorem dMo_weighed_72 : decode prog_10_method_122_code 72 = .ok (.iadd, 1) := by decide +kernel
theorem dMo_weighed_73 : decode prog_10_method_122_code 73 = .ok (.istore 4, 2) := by decide +kernel
theorem dMo_weighed_75 : decode prog_10_method_122_code 75 = .ok (.aload_n 0, 1) := by decide +kernel
theorem dMo_weighed_76 : decode prog_10_method_122_code 76 = .ok (.getfield 28, 3) := by decide +kernel
theorem dMo_weighed_79 : decode prog_10_method_122_code 79 = .ok (.bipush 44, 2) := by decide +kernel
theorem dMo_weighed_81 : decode prog_10_method_122_code 81 = .ok (.iaload, 1) := by decide +kernel
theorem dMo_weighed_82 : decode prog_10_method_122_code 82 = .ok (.bipush 6, 2) := by decide +kernel
theorem dMo_weighed_84 : decode prog_10_method_122_code 84 = .ok (.if_icmp .ne 10, 3) := by decide +kernel
theorem dMo_weighed_87 : decode prog_10_method_122_code 87 = .ok (.aload_n 0, 1) := by decide +kernel
theorem dMo_weighed_88 : decode prog_10_method_122_code 88 = .ok (.bipush (-5), 2) := by decide +kernel
theorem dMo_weighed_90 : decode prog_10_method_122_code 90 = .ok (.invokevirtual 113, 3) := by decide +kernel
theorem dMo_weighed_93 : decode prog_10_method_122_code 93 = .ok (.ireturn, 1) := by decide +kernel
theorem dMo_weighed_94 : decode prog_10_method_122_code 94 = .ok (.aload_n 0, 1) := by decide +kernel
theorem dMo_weighed_95 : decode prog_10_method_122_code 95 = .ok (.getfield 28, 3) := by decide +kernel
theorem dMo_weighed_98 : decode prog_10_method_122_code 98 = .ok (.iload 4, 2) := by decide +kernel
theorem dMo_weighed_100 : decode prog_10_method_122_code 100 = .ok (.iload_n 1, 1) := by decide +kernel
theorem dMo_weighed_101 : decode prog_10_method_122_code 101 = .ok (.iastore, 1) := by decide +kernel
theorem dMo_weighed_102 : decode prog_10_method_122_code 102 = .ok (.aload_n 0, 1) := by decide +kernel
theorem dMo_weighed_103 : decode prog_10_method_122_code 103 = .ok (.getfield 28, 3) := by decide +kernel
theorem dMo_weighed_106 : decode prog_10_method_122_code 106 = .ok (.iload 4, 2) := by decide +kernel
theorem dMo_weighed_108 : decode prog_10_method_122_code 108 = .ok (.iconst 1, 1) := by decide +kernel
theorem dMo_weighed_109 : decode prog_10_method_122_code 109 = .ok (.iadd, 1) := by decide +kernel
theorem dMo_weighed_110 : decode prog_10_method_122_code 110 = .ok (.iload_n 2, 1) := by decide +kernel
theorem dMo_weighed_111 : decode prog_10_method_122_code 111 = .ok (.iastore, 1) := by decide +kernel
theorem dMo_weighed_112 : decode prog_10_method_122_code 112 = .ok (.aload_n 0, 1) := by decide +kernel
theorem dMo_weighed_113 : decode prog_10_method_122_code 113 = .ok (.getfield 28, 3) := by decide +kernel
theorem dMo_weighed_116 : decode prog_10_method_122_code 116 = .ok (.iload 4, 2) := by decide +kernel
theorem dMo_weighed_118 : decode prog_10_method_122_code 118 = .ok (.iconst 2, 1) := by decide +kernel
theorem dMo_weighed_119 : decode prog_10_method_122_code 119 = .ok (.iadd, 1) := by decide +kernel
theorem dMo_weighed_120 : decode prog_10_method_122_code 120 = .ok (.iload_n 3, 1) := by decide +kernel
theorem dMo_weighed_121 : decode prog_10_method_122_code 121 = .ok (.iastore, 1) := by decide +kernel
theorem dMo_weighed_122 : decode prog_10_method_122_code 122 = .ok (.aload_n 0, 1) := by decide +kernel
theorem dMo_weighed_123 : decode prog_10_method_122_code 123 = .ok (.getfield 28, 3) := by decide +kernel
theorem dMo_weighed_126 : decode prog_10_method_122_code 126 = .ok (.bipush 44, 2) := by decide +kernel
theorem dMo_weighed_128 : decode prog_10_method_122_code 128 = .ok (.dup2, 1) := by decide +kernel
theorem dMo_weighed_129 : decode prog_10_method_122_code 129 = .ok (.iaload, 1) := by decide +kernel
theorem dMo_weighed_130 : decode prog_10_method_122_code 130 = .ok (.iconst 1, 1) := by decide +kernel
theorem dMo_weighed_131 : decode prog_10_method_122_code 131 = .ok (.iadd, 1) := by decide +kernel
theorem dMo_weighed_132 : decode prog_10_method_122_code 132 = .ok (.iastore, 1) := by decide +kernel
theorem dMo_weighed_133 : decode prog_10_method_122_code 133 = .ok (.aload_n 0, 1) := by decide +kernel
theorem dMo_weighed_134 : decode prog_10_method_122_code 134 = .ok (.aload_n 0, 1) := by decide +kernel
theorem dMo_weighed_135 : decode prog_10_method_122_code 135 = .ok (.getfield 28, 3) := by decide +kernel
theorem dMo_weighed_138 : decode prog_10_method_122_code 138 = .ok (.bipush 44, 2) := by decide +kernel
theorem dMo_weighed_140 : decode prog_10_method_122_code 140 = .ok (.iaload, 1) := by decide +kernel
theorem dMo_weighed_141 : decode prog_10_method_122_code 141 = .ok (.invokevirtual 14, 3) := by decide +kernel
theorem dMo_weighed_144 : decode prog_10_method_122_code 144 = .ok (.ireturn, 1) := by decide +kernel
theorem dMo_forget_0 : decode prog_10_method_123_code 0 = .ok (.aload_n 0, 1) := by decide +kernel
theorem dMo_forget_1 : decode prog_10_method_123_code 1 = .ok (.getfield 28, 3) := by decide +kernel
theorem dMo_forget_4 : decode prog_10_method_123_code 4 = .ok (.bipush 44, 2) := by decide +kernel
theorem dMo_forget_6 : decode prog_10_method_123_code 6 = .ok (.iaload, 1) := by decide +kernel
theorem dMo_forget_7 : decode prog_10_method_123_code 7 = .ok (.istore_n 1, 1) := by decide +kernel
theorem dMo_forget_8 : decode prog_10_method_123_code 8 = .ok (.aload_n 0, 1) := by decide +kernel
theorem dMo_forget_9 : decode prog_10_method_123_code 9 = .ok (.getfield 28, 3) := by decide +kernel
theorem dMo_forget_12 : decode prog_10_method_123_code 12 = .ok (.bipush 44, 2) := by decide +kernel
theorem dMo_forget_14 : decode prog_10_method_123_code 14 = .ok (.iconst 0, 1) := by decide +kernel
theorem dMo_forget_15 : decode prog_10_method_123_code 15 = .ok (.iastore, 1) := by decide +kernel
theorem dMo_forget_16 : decode prog_10_method_123_code 16 = .ok (.iload_n 1, 1) := by decide +kernel
theorem dMo_forget_17 : decode prog_10_method_123_code 17 = .ok (.ireturn, 1) := by decide +kernel
theorem dMo_heavyBy_0 : decode prog_10_method_124_code 0 = .ok (.iload_n 2, 1) := by decide +kernel
theorem dMo_heavyBy_1 : decode prog_10_method_124_code 1 = .ok (.bipush 14, 2) := by decide +kernel
theorem dMo_heavyBy_3 : decode prog_10_method_124_code 3 = .ok (.if_icmp .ge 23, 3) := by decide +kernel
theorem dMo_heavyBy_6 : decode prog_10_method_124_code 6 = .ok (.iload_n 1, 1) := by decide +kernel
theorem dMo_heavyBy_7 : decode prog_10_method_124_code 7 = .ok (.iload_n 2, 1) := by decide +kernel
theorem dMo_heavyBy_8 : decode prog_10_method_124_code 8 = .ok (.iconst 2, 1) := by decide +kernel
theorem dMo_heavyBy_9 : decode prog_10_method_124_code 9 = .ok (.idiv, 1) := by decide +kernel
theorem dMo_heavyBy_10 : decode prog_10_method_124_code 10 = .ok (.invokestatic 423, 3) := by decide +kernel
theorem dMo_heavyBy_13 : decode prog_10_method_124_code 13 = .ok (.ifCond .eq 13, 3) := by decide +kernel
theorem dMo_heavyBy_16 : decode prog_10_method_124_code 16 = .ok (.iconst 1, 1) := by decide +kernel
theorem dMo_heavyBy_17 : decode prog_10_method_124_code 17 = .ok (.iload_n 2, 1) := by decide +kernel
theorem dMo_heavyBy_18 : decode prog_10_method_124_code 18 = .ok (.iconst 2, 1) := by decide +kernel
theorem dMo_heavyBy_19 : decode prog_10_method_124_code 19 = .ok (.irem, 1) := by decide +kernel
theorem dMo_heavyBy_20 : decode prog_10_method_124_code 20 = .ok (.iconst 2, 1) := by decide +kernel
theorem dMo_heavyBy_21 : decode prog_10_method_124_code 21 = .ok (.imul, 1) := by decide +kernel
theorem dMo_heavyBy_22 : decode prog_10_method_124_code 22 = .ok (.isub, 1) := by decide +kernel
theorem dMo_heavyBy_23 : decode prog_10_method_124_code 23 = .ok (.goto 4, 3) := by decide +kernel
theorem dMo_heavyBy_26 : decode prog_10_method_124_code 26 = .ok (.iconst 0, 1) := by decide +kernel
theorem dMo_heavyBy_27 : decode prog_10_method_124_code 27 = .ok (.istore_n 3, 1) := by decide +kernel
theorem dMo_heavyBy_28 : decode prog_10_method_124_code 28 = .ok (.aload_n 0, 1) := by decide +kernel
theorem dMo_heavyBy_29 : decode prog_10_method_124_code 29 = .ok (.iload_n 1, 1) := by decide +kernel
theorem dMo_heavyBy_30 : decode prog_10_method_124_code 30 = .ok (.invokevirtual 429, 3) := by decide +kernel
theorem dMo_heavyBy_33 : decode prog_10_method_124_code 33 = .ok (.iload_n 3, 1) := by decide +kernel
theorem dMo_heavyBy_34 : decode prog_10_method_124_code 34 = .ok (.iadd, 1) := by decide +kernel
theorem dMo_heavyBy_35 : decode prog_10_method_124_code 35 = .ok (.ireturn, 1) := by decide +kernel
theorem dMo_comesOf_0 : decode prog_10_method_125_code 0 = .ok (.aload_n 0, 1) := by decide +kernel
theorem dMo_comesOf_1 : decode prog_10_method_125_code 1 = .ok (.iload_n 1, 1) := by decide +kernel
theorem dMo_comesOf_2 : decode prog_10_method_125_code 2 = .ok (.iload_n 3, 1) := by decide +kernel
theorem dMo_comesOf_3 : decode prog_10_method_125_code 3 = .ok (.invokevirtual 447, 3) := by decide +kernel
theorem dMo_comesOf_6 : decode prog_10_method_125_code 6 = .ok (.aload_n 0, 1) := by decide +kernel
theorem dMo_comesOf_7 : decode prog_10_method_125_code 7 = .ok (.iload_n 2, 1) := by decide +kernel
theorem dMo_comesOf_8 : decode prog_10_method_125_code 8 = .ok (.iload_n 3, 1) := by decide +kernel
theorem dMo_comesOf_9 : decode prog_10_method_125_code 9 = .ok (.invokevirtual 447, 3) := by decide +kernel
theorem dMo_comesOf_12 : decode prog_10_method_125_code 12 = .ok (.isub, 1) := by decide +kernel
theorem dMo_comesOf_13 : decode prog_10_method_125_code 13 = .ok (.istore 4, 2) := by decide +kernel
theorem dMo_comesOf_15 : decode prog_10_method_125_code 15 = .ok (.iload 4, 2) := by decide +kernel
theorem dMo_comesOf_17 : decode prog_10_method_125_code 17 = .ok (.ifCond .ne 7, 3) := by decide +kernel
theorem dMo_comesOf_20 : decode prog_10_method_125_code 20 = .ok (.iconst 0, 1) := by decide +kernel
theorem dMo_comesOf_21 : decode prog_10_method_125_code 21 = .ok (.goto 13, 3) := by decide +kernel
theorem dMo_comesOf_24 : decode prog_10_method_125_code 24 = .ok (.iload 4, 2) := by decide +kernel
theorem dMo_comesOf_26 : decode prog_10_method_125_code 26 = .ok (.ifCond .le 7, 3) := by decide +kernel
theorem dMo_comesOf_29 : decode prog_10_method_125_code 29 = .ok (.iconst 1, 1) := by decide +kernel
theorem dMo_comesOf_30 : decode prog_10_method_125_code 30 = .ok (.goto 4, 3) := by decide +kernel
theorem dMo_comesOf_33 : decode prog_10_method_125_code 33 = .ok (.iconst 2, 1) := by decide +kernel
theorem dMo_comesOf_34 : decode prog_10_method_125_code 34 = .ok (.ireturn, 1) := by decide +kernel
theorem dMo_isSo_0 : decode prog_10_method_126_code 0 = .ok (.iload_n 1, 1) := by decide +kernel
theorem dMo_isSo_1 : decode prog_10_method_126_code 1 = .ok (.bipush 14, 2) := by decide +kernel
theorem dMo_isSo_3 : decode prog_10_method_126_code 3 = .ok (.if_icmp .eq 13, 3) := by decide +kernel
theorem dMo_isSo_6 : decode prog_10_method_126_code 6 = .ok (.iload_n 1, 1) := by decide +kernel
theorem dMo_isSo_7 : decode prog_10_method_126_code 7 = .ok (.iconst 2, 1) := by decide +kernel
theorem dMo_isSo_8 : decode prog_10_method_126_code 8 = .ok (.idiv, 1) := by decide +kernel
theorem dMo_isSo_9 : decode prog_10_method_126_code 9 = .ok (.aload_n 0, 1) := by decide +kernel
theorem dMo_isSo_10 : decode prog_10_method_126_code 10 = .ok (.invokevirtual 119, 3) := by decide +kernel
theorem dMo_isSo_13 : decode prog_10_method_126_code 13 = .ok (.if_icmp .ge 7, 3) := by decide +kernel
theorem dMo_isSo_16 : decode prog_10_method_126_code 16 = .ok (.iconst 1, 1) := by decide +kernel
theorem dMo_isSo_17 : decode prog_10_method_126_code 17 = .ok (.goto 4, 3) := by decide +kernel
theorem dMo_isSo_20 : decode prog_10_method_126_code 20 = .ok (.iconst 0, 1) := by decide +kernel
theorem dMo_isSo_21 : decode prog_10_method_126_code 21 = .ok (.istore_n 2, 1) := by decide +kernel
theorem dMo_isSo_22 : decode prog_10_method_126_code 22 = .ok (.iconst 0, 1) := by decide +kernel
theorem dMo_isSo_23 : decode prog_10_method_126_code 23 = .ok (.istore_n 3, 1) := by decide +kernel
theorem dMo_isSo_24 : decode prog_10_method_126_code 24 = .ok (.iload_n 3, 1) := by decide +kernel
theorem dMo_isSo_25 : decode prog_10_method_126_code 25 = .ok (.aload_n 0, 1) := by decide +kernel
theorem dMo_isSo_26 : decode prog_10_method_126_code 26 = .ok (.getfield 28, 3) := by decide +kernel
theorem dMo_isSo_29 : decode prog_10_method_126_code 29 = .ok (.bipush 44, 2) := by decide +kernel
theorem dMo_isSo_31 : decode prog_10_method_126_code 31 = .ok (.iaload, 1) := by decide +kernel
theorem dMo_isSo_32 : decode prog_10_method_126_code 32 = .ok (.if_icmp .ge 60, 3) := by decide +kernel
theorem dMo_isSo_35 : decode prog_10_method_126_code 35 = .ok (.iload_n 2, 1) := by decide +kernel
theorem dMo_isSo_36 : decode prog_10_method_126_code 36 = .ok (.ifCond .eq 56, 3) := by decide +kernel
theorem dMo_isSo_39 : decode prog_10_method_126_code 39 = .ok (.bipush 22, 2) := by decide +kernel
theorem dMo_isSo_41 : decode prog_10_method_126_code 41 = .ok (.iconst 3, 1) := by decide +kernel
theorem dMo_isSo_42 : decode prog_10_method_126_code 42 = .ok (.iload_n 3, 1) := by decide +kernel
theorem dMo_isSo_43 : decode prog_10_method_126_code 43 = .ok (.imul, 1) := by decide +kernel
theorem dMo_isSo_44 : decode prog_10_method_126_code 44 = .ok (.iadd, 1) := by decide +kernel
theorem dMo_isSo_45 : decode prog_10_method_126_code 45 = .ok (.istore 4, 2) := by decide +kernel
theorem dMo_isSo_47 : decode prog_10_method_126_code 47 = .ok (.aload_n 0, 1) := by decide +kernel
theorem dMo_isSo_48 : decode prog_10_method_126_code 48 = .ok (.aload_n 0, 1) := by decide +kernel
theorem dMo_isSo_49 : decode prog_10_method_126_code 49 = .ok (.getfield 28, 3) := by decide +kernel
theorem dMo_isSo_52 : decode prog_10_method_126_code 52 = .ok (.iload 4, 2) := by decide +kernel
theorem dMo_isSo_54 : decode prog_10_method_126_code 54 = .ok (.iaload, 1) := by decide +kernel
theorem dMo_isSo_55 : decode prog_10_method_126_code 55 = .ok (.aload_n 0, 1) := by decide +kernel
theorem dMo_isSo_56 : decode prog_10_method_126_code 56 = .ok (.getfield 28, 3) := by decide +kernel
theorem dMo_isSo_59 : decode prog_10_method_126_code 59 = .ok (.iload 4, 2) := by decide +kernel
theorem dMo_isSo_61 : decode prog_10_method_126_code 61 = .ok (.iconst 1, 1) := by decide +kernel
theorem dMo_isSo_62 : decode prog_10_method_126_code 62 = .ok (.iadd, 1) := by decide +kernel
theorem dMo_isSo_63 : decode prog_10_method_126_code 63 = .ok (.iaload, 1) := by decide +kernel
theorem dMo_isSo_64 : decode prog_10_method_126_code 64 = .ok (.iload_n 1, 1) := by decide +kernel
theorem dMo_isSo_65 : decode prog_10_method_126_code 65 = .ok (.invokevirtual 450, 3) := by decide +kernel
theorem dMo_isSo_68 : decode prog_10_method_126_code 68 = .ok (.aload_n 0, 1) := by decide +kernel
theorem dMo_isSo_69 : decode prog_10_method_126_code 69 = .ok (.getfield 28, 3) := by decide +kernel
theorem dMo_isSo_72 : decode prog_10_method_126_code 72 = .ok (.iload 4, 2) := by decide +kernel
theorem dMo_isSo_74 : decode prog_10_method_126_code 74 = .ok (.iconst 2, 1) := by decide +kernel
theorem dMo_isSo_75 : decode prog_10_method_126_code 75 = .ok (.iadd, 1) := by decide +kernel
theorem dMo_isSo_76 : decode prog_10_method_126_code 76 = .ok (.iaload, 1) := by decide +kernel
theorem dMo_isSo_77 : decode prog_10_method_126_code 77 = .ok (.if_icmp .ne 7, 3) := by decide +kernel
theorem dMo_isSo_80 : decode prog_10_method_126_code 80 = .ok (.iconst 1, 1) := by decide +kernel
theorem dMo_isSo_81 : decode prog_10_method_126_code 81 = .ok (.goto 4, 3) := by decide +kernel
theorem dMo_isSo_84 : decode prog_10_method_126_code 84 = .ok (.iconst 0, 1) := by decide +kernel
theorem dMo_isSo_85 : decode prog_10_method_126_code 85 = .ok (.istore_n 2, 1) := by decide +kernel
theorem dMo_isSo_86 : decode prog_10_method_126_code 86 = .ok (.iinc 3 1, 3) := by decide +kernel
theorem dMo_isSo_89 : decode prog_10_method_126_code 89 = .ok (.goto (-65), 3) := by decide +kernel
theorem dMo_isSo_92 : decode prog_10_method_126_code 92 = .ok (.iload_n 2, 1) := by decide +kernel
theorem dMo_isSo_93 : decode prog_10_method_126_code 93 = .ok (.ireturn, 1) := by decide +kernel
theorem dMo_canBe_0 : decode prog_10_method_127_code 0 = .ok (.iconst 0, 1) := by decide +kernel
theorem dMo_canBe_1 : decode prog_10_method_127_code 1 = .ok (.istore_n 1, 1) := by decide +kernel
theorem dMo_canBe_2 : decode prog_10_method_127_code 2 = .ok (.iconst 0, 1) := by decide +kernel
theorem dMo_canBe_3 : decode prog_10_method_127_code 3 = .ok (.istore_n 2, 1) := by decide +kernel
theorem dMo_canBe_4 : decode prog_10_method_127_code 4 = .ok (.iload_n 2, 1) := by decide +kernel
theorem dMo_canBe_5 : decode prog_10_method_127_code 5 = .ok (.bipush 14, 2) := by decide +kernel
theorem dMo_canBe_7 : decode prog_10_method_127_code 7 = .ok (.if_icmp .gt 27, 3) := by decide +kernel
theorem dMo_canBe_10 : decode prog_10_method_127_code 10 = .ok (.iload_n 1, 1) := by decide +kernel
theorem dMo_canBe_11 : decode prog_10_method_127_code 11 = .ok (.aload_n 0, 1) := by decide +kernel
theorem dMo_canBe_12 : decode prog_10_method_127_code 12 = .ok (.iload_n 2, 1) := by decide +kernel
theorem dMo_canBe_13 : decode prog_10_method_127_code 13 = .ok (.invokevirtual 453, 3) := by decide +kernel
theorem dMo_canBe_16 : decode prog_10_method_127_code 16 = .ok (.ifCond .eq 9, 3) := by decide +kernel
theorem dMo_canBe_19 : decode prog_10_method_127_code 19 = .ok (.iconst 1, 1) := by decide +kernel
theorem dMo_canBe_20 : decode prog_10_method_127_code 20 = .ok (.iload_n 2, 1) := by decide +kernel
theorem dMo_canBe_21 : decode prog_10_method_127_code 21 = .ok (.ishl, 1) := by decide +kernel
theorem dMo_canBe_22 : decode prog_10_method_127_code 22 = .ok (.goto 4, 3) := by decide +kernel
theorem dMo_canBe_25 : decode prog_10_method_127_code 25 = .ok (.iconst 0, 1) := by decide +kernel
theorem dMo_canBe_26 : decode prog_10_method_127_code 26 = .ok (.ior, 1) := by decide +kernel
theorem dMo_canBe_27 : decode prog_10_method_127_code 27 = .ok (.istore_n 1, 1) := by decide +kernel
theorem dMo_canBe_28 : decode prog_10_method_127_code 28 = .ok (.iinc 2 1, 3) := by decide +kernel
theorem dMo_canBe_31 : decode prog_10_method_127_code 31 = .ok (.goto (-27), 3) := by decide +kernel
theorem dMo_canBe_34 : decode prog_10_method_127_code 34 = .ok (.iload_n 1, 1) := by decide +kernel
theorem dMo_canBe_35 : decode prog_10_method_127_code 35 = .ok (.ireturn, 1) := by decide +kernel
theorem dMo_mostAlike_0 : decode prog_10_method_128_code 0 = .ok (.iconst 0, 1) := by decide +kernel
theorem dMo_mostAlike_1 : decode prog_10_method_128_code 1 = .ok (.istore 4, 2) := by decide +kernel
theorem dMo_mostAlike_3 : decode prog_10_method_128_code 3 = .ok (.iload 4, 2) := by decide +kernel
theorem dMo_mostAlike_5 : decode prog_10_method_128_code 5 = .ok (.iconst 3, 1) := by decide +kernel
theorem dMo_mostAlike_6 : decode prog_10_method_128_code 6 = .ok (.if_icmp .ge 17, 3) := by decide +kernel
theorem dMo_mostAlike_9 : decode prog_10_method_128_code 9 = .ok (.aload_n 0, 1) := by decide +kernel
theorem dMo_mostAlike_10 : decode prog_10_method_128_code 10 = .ok (.getfield 94, 3) := by decide +kernel
theorem dMo_mostAlike_13 : decode prog_10_method_128_code 13 = .ok (.iload 4, 2) := by decide +kernel
theorem dMo_mostAlike_15 : decode prog_10_method_128_code 15 = .ok (.iconst 0, 1) := by decide +kernel
theorem dMo_mostAlike_16 : decode prog_10_method_128_code 16 = .ok (.iastore, 1) := by decide +kernel
theorem dMo_mostAlike_17 : decode prog_10_method_128_code 17 = .ok (.iinc 4 1, 3) := by decide +kernel
theorem dMo_mostAlike_20 : decode prog_10_method_128_code 20 = .ok (.goto (-17), 3) := by decide +kernel
theorem dMo_mostAlike_23 : decode prog_10_method_128_code 23 = .ok (.iconst 0, 1) := by decide +kernel
theorem dMo_mostAlike_24 : decode prog_10_method_128_code 24 = .ok (.istore 4, 2) := by decide +kernel
theorem dMo_mostAlike_26 : decode prog_10_method_128_code 26 = .ok (.iconst 0, 1) := by decide +kernel
theorem dMo_mostAlike_27 : decode prog_10_method_128_code 27 = .ok (.istore 5, 2) := by decide +kernel
theorem dMo_mostAlike_29 : decode prog_10_method_128_code 29 = .ok (.iload 5, 2) := by decide +kernel
theorem dMo_mostAlike_31 : decode prog_10_method_128_code 31 = .ok (.bipush 14, 2) := by decide +kernel
theorem dMo_mostAlike_33 : decode prog_10_method_128_code 33 = .ok (.if_icmp .gt 56, 3) := by decide +kernel
theorem dMo_mostAlike_36 : decode prog_10_method_128_code 36 = .ok (.iload_n 3, 1) := by decide +kernel
theorem dMo_mostAlike_37 : decode prog_10_method_128_code 37 = .ok (.iload 5, 2) := by decide +kernel
theorem dMo_mostAlike_39 : decode prog_10_method_128_code 39 = .ok (.invokestatic 423, 3) := by decide +kernel
theorem dMo_mostAlike_42 : decode prog_10_method_128_code 42 = .ok (.ifCond .ne 6, 3) := by decide +kernel
theorem dMo_mostAlike_45 : decode prog_10_method_128_code 45 = .ok (.goto 38, 3) := by decide +kernel
theorem dMo_mostAlike_48 : decode prog_10_method_128_code 48 = .ok (.aload_n 0, 1) := by decide +kernel
theorem dMo_mostAlike_49 : decode prog_10_method_128_code 49 = .ok (.iload_n 1, 1) := by decide +kernel
theorem dMo_mostAlike_50 : decode prog_10_method_128_code 50 = .ok (.iload_n 2, 1) := by decide +kernel
theorem dMo_mostAlike_51 : decode prog_10_method_128_code 51 = .ok (.iload 5, 2) := by decide +kernel
theorem dMo_mostAlike_53 : decode prog_10_method_128_code 53 = .ok (.invokevirtual 450, 3) := by decide +kernel
theorem dMo_mostAlike_56 : decode prog_10_method_128_code 56 = .ok (.istore 6, 2) := by decide +kernel
theorem dMo_mostAlike_58 : decode prog_10_method_128_code 58 = .ok (.aload_n 0, 1) := by decide +kernel
theorem dMo_mostAlike_59 : decode prog_10_method_128_code 59 = .ok (.getfield 94, 3) := by decide +kernel
theorem dMo_mostAlike_62 : decode prog_10_method_128_code 62 = .ok (.iload 6, 2) := by decide +kernel
theorem dMo_mostAlike_64 : decode prog_10_method_128_code 64 = .ok (.dup2, 1) := by decide +kernel
theorem dMo_mostAlike_65 : decode prog_10_method_128_code 65 = .ok (.iaload, 1) := by decide +kernel
theorem dMo_mostAlike_66 : decode prog_10_method_128_code 66 = .ok (.iconst 1, 1) := by decide +kernel
theorem dMo_mostAlike_67 : decode prog_10_method_128_code 67 = .ok (.iadd, 1) := by decide +kernel
theorem dMo_mostAlike_68 : decode prog_10_method_128_code 68 = .ok (.iastore, 1) := by decide +kernel
theorem dMo_mostAlike_69 : decode prog_10_method_128_code 69 = .ok (.iload 4, 2) := by decide +kernel
theorem dMo_mostAlike_71 : decode prog_10_method_128_code 71 = .ok (.aload_n 0, 1) := by decide +kernel
theorem dMo_mostAlike_72 : decode prog_10_method_128_code 72 = .ok (.getfield 94, 3) := by decide +kernel
theorem dMo_mostAlike_75 : decode prog_10_method_128_code 75 = .ok (.iload 6, 2) := by decide +kernel
theorem dMo_mostAlike_77 : decode prog_10_method_128_code 77 = .ok (.iaload, 1) := by decide +kernel
theorem dMo_mostAlike_78 : decode prog_10_method_128_code 78 = .ok (.invokestatic 353, 3) := by decide +kernel
theorem dMo_mostAlike_81 : decode prog_10_method_128_code 81 = .ok (.istore 4, 2) := by decide +kernel
theorem dMo_mostAlike_83 : decode prog_10_method_128_code 83 = .ok (.iinc 5 1, 3) := by decide +kernel
theorem dMo_mostAlike_86 : decode prog_10_method_128_code 86 = .ok (.goto (-57), 3) := by decide +kernel
theorem dMo_mostAlike_89 : decode prog_10_method_128_code 89 = .ok (.iload 4, 2) := by decide +kernel
theorem dMo_mostAlike_91 : decode prog_10_method_128_code 91 = .ok (.ireturn, 1) := by decide +kernel
theorem dMo_weigh_0 : decode prog_10_method_129_code 0 = .ok (.iload_n 1, 1) := by decide +kernel
theorem dMo_weigh_1 : decode prog_10_method_129_code 1 = .ok (.iconst 0, 1) := by decide +kernel
theorem dMo_weigh_2 : decode prog_10_method_129_code 2 = .ok (.iconst 2, 1) := by decide +kernel
theorem dMo_weigh_3 : decode prog_10_method_129_code 3 = .ok (.invokestatic 18, 3) := by decide +kernel
theorem dMo_weigh_6 : decode prog_10_method_129_code 6 = .ok (.ifCond .ne 5, 3) := by decide +kernel
theorem dMo_weigh_9 : decode prog_10_method_129_code 9 = .ok (.iconst (-1), 1) := by decide +kernel
theorem dMo_weigh_10 : decode prog_10_method_129_code 10 = .ok (.ireturn, 1) := by decide +kernel
theorem dMo_weigh_11 : decode prog_10_method_129_code 11 = .ok (.aload_n 0, 1) := by decide +kernel
theorem dMo_weigh_12 : decode prog_10_method_129_code 12 = .ok (.invokevirtual 456, 3) := by decide +kernel
theorem dMo_weigh_15 : decode prog_10_method_129_code 15 = .ok (.istore_n 2, 1) := by decide +kernel
theorem dMo_weigh_16 : decode prog_10_method_129_code 16 = .ok (.ldc 193, 2) := by decide +kernel
theorem dMo_weigh_18 : decode prog_10_method_129_code 18 = .ok (.istore_n 3, 1) := by decide +kernel
theorem dMo_weigh_19 : decode prog_10_method_129_code 19 = .ok (.iconst (-1), 1) := by decide +kernel
theorem dMo_weigh_20 : decode prog_10_method_129_code 20 = .ok (.istore 4, 2) := by decide +kernel
theorem dMo_weigh_22 : decode prog_10_method_129_code 22 = .ok (.iconst (-1), 1) := by decide +kernel
theorem dMo_weigh_23 : decode prog_10_method_129_code 23 = .ok (.istore 5, 2) := by decide +kernel
theorem dMo_weigh_25 : decode prog_10_method_129_code 25 = .ok (.iconst 0, 1) := by decide +kernel
theorem dMo_weigh_26 : decode prog_10_method_129_code 26 = .ok (.istore 6, 2) := by decide +kernel
theorem dMo_weigh_28 : decode prog_10_method_129_code 28 = .ok (.iload 6, 2) := by decide +kernel
theorem dMo_weigh_30 : decode prog_10_method_129_code 30 = .ok (.aload_n 0, 1) := by decide +kernel
theorem dMo_weigh_31 : decode prog_10_method_129_code 31 = .ok (.invokevirtual 426, 3) := by decide +kernel
theorem dMo_weigh_34 : decode prog_10_method_129_code 34 = .ok (.if_icmp .gt 73, 3) := by decide +kernel
theorem dMo_weigh_37 : decode prog_10_method_129_code 37 = .ok (.iload_n 2, 1) := by decide +kernel
theorem dMo_weigh_38 : decode prog_10_method_129_code 38 = .ok (.ifCond .eq 69, 3) := by decide +kernel
theorem dMo_weigh_41 : decode prog_10_method_129_code 41 = .ok (.iconst 0, 1) := by decide +kernel
theorem dMo_weigh_42 : decode prog_10_method_129_code 42 = .ok (.istore 7, 2) := by decide +kernel
theorem dMo_weigh_44 : decode prog_10_method_129_code 44 = .ok (.iload 7, 2) := by decide +kernel
theorem dMo_weigh_46 : decode prog_10_method_129_code 46 = .ok (.aload_n 0, 1) := by decide +kernel
theorem dMo_weigh_47 : decode prog_10_method_129_code 47 = .ok (.invokevirtual 426, 3) := by decide +kernel
theorem dMo_weigh_50 : decode prog_10_method_129_code 50 = .ok (.if_icmp .gt 51, 3) := by decide +kernel
theorem dMo_weigh_53 : decode prog_10_method_129_code 53 = .ok (.iload 6, 2) := by decide +kernel
theorem dMo_weigh_55 : decode prog_10_method_129_code 55 = .ok (.iload 7, 2) := by decide +kernel
theorem dMo_weigh_57 : decode prog_10_method_129_code 57 = .ok (.iand, 1) := by decide +kernel
theorem dMo_weigh_58 : decode prog_10_method_129_code 58 = .ok (.ifCond .eq 6, 3) := by decide +kernel
theorem dMo_weigh_61 : decode prog_10_method_129_code 61 = .ok (.goto 34, 3) := by decide +kernel
theorem dMo_weigh_64 : decode prog_10_method_129_code 64 = .ok (.aload_n 0, 1) := by decide +kernel
theorem dMo_weigh_65 : decode prog_10_method_129_code 65 = .ok (.iload 6, 2) := by decide +kernel
theorem dMo_weigh_67 : decode prog_10_method_129_code 67 = .ok (.iload 7, 2) := by decide +kernel
theorem dMo_weigh_69 : decode prog_10_method_129_code 69 = .ok (.iload_n 2, 1) := by decide +kernel
theorem dMo_weigh_70 : decode prog_10_method_129_code 70 = .ok (.invokevirtual 459, 3) := by decide +kernel
theorem dMo_weigh_73 : decode prog_10_method_129_code 73 = .ok (.istore 8, 2) := by decide +kernel
theorem dMo_weigh_75 : decode prog_10_method_129_code 75 = .ok (.iload 8, 2) := by decide +kernel
theorem dMo_weigh_77 : decode prog_10_method_129_code 77 = .ok (.iload_n 3, 1) := by decide +kernel
theorem dMo_weigh_78 : decode prog_10_method_129_code 78 = .ok (.if_icmp .lt 6, 3) := by decide +kernel
theorem dMo_weigh_81 : decode prog_10_method_129_code 81 = .ok (.goto 14, 3) := by decide +kernel
theorem dMo_weigh_84 : decode prog_10_method_129_code 84 = .ok (.iload 8, 2) := by decide +kernel
theorem dMo_weigh_86 : decode prog_10_method_129_code 86 = .ok (.istore_n 3, 1) := by decide +kernel
theorem dMo_weigh_87 : decode prog_10_method_129_code 87 = .ok (.iload 6, 2) := by decide +kernel
theorem dMo_weigh_89 : decode prog_10_method_129_code 89 = .ok (.istore 4, 2) := by decide +kernel
theorem dMo_weigh_91 : decode prog_10_method_129_code 91 = .ok (.iload 7, 2) := by decide +kernel
theorem dMo_weigh_93 : decode prog_10_method_129_code 93 = .ok (.istore 5, 2) := by decide +kernel
theorem dMo_weigh_95 : decode prog_10_method_129_code 95 = .ok (.iinc 7 1, 3) := by decide +kernel
theorem dMo_weigh_98 : decode prog_10_method_129_code 98 = .ok (.goto (-54), 3) := by decide +kernel
theorem dMo_weigh_101 : decode prog_10_method_129_code 101 = .ok (.iinc 6 1, 3) := by decide +kernel
theorem dMo_weigh_104 : decode prog_10_method_129_code 104 = .ok (.goto (-76), 3) := by decide +kernel
theorem dMo_weigh_107 : decode prog_10_method_129_code 107 = .ok (.iload_n 2, 1) := by decide +kernel
theorem dMo_weigh_108 : decode prog_10_method_129_code 108 = .ok (.ifCond .ne 7, 3) := by decide +kernel
theorem dMo_weigh_111 : decode prog_10_method_129_code 111 = .ok (.iconst (-1), 1) := by decide +kernel
theorem dMo_weigh_112 : decode prog_10_method_129_code 112 = .ok (.goto 23, 3) := by decide +kernel
theorem dMo_weigh_115 : decode prog_10_method_129_code 115 = .ok (.iload_n 1, 1) := by decide +kernel
theorem dMo_weigh_116 : decode prog_10_method_129_code 116 = .ok (.ifCond .ne 8, 3) := by decide +kernel
theorem dMo_weigh_119 : decode prog_10_method_129_code 119 = .ok (.iload 4, 2) := by decide +kernel
theorem dMo_weigh_121 : decode prog_10_method_129_code 121 = .ok (.goto 14, 3) := by decide +kernel
theorem dMo_weigh_124 : decode prog_10_method_129_code 124 = .ok (.iload_n 1, 1) := by decide +kernel
theorem dMo_weigh_125 : decode prog_10_method_129_code 125 = .ok (.iconst 1, 1) := by decide +kernel
theorem dMo_weigh_126 : decode prog_10_method_129_code 126 = .ok (.if_icmp .ne 8, 3) := by decide +kernel
theorem dMo_weigh_129 : decode prog_10_method_129_code 129 = .ok (.iload 5, 2) := by decide +kernel
theorem dMo_weigh_131 : decode prog_10_method_129_code 131 = .ok (.goto 4, 3) := by decide +kernel
theorem dMo_weigh_134 : decode prog_10_method_129_code 134 = .ok (.iload_n 3, 1) := by decide +kernel
theorem dMo_weigh_135 : decode prog_10_method_129_code 135 = .ok (.ireturn, 1) := by decide +kernel
theorem dMo_few_0 : decode prog_10_method_130_code 0 = .ok (.iload_n 1, 1) := by decide +kernel
theorem dMo_few_1 : decode prog_10_method_130_code 1 = .ok (.iconst 1, 1) := by decide +kernel
theorem dMo_few_2 : decode prog_10_method_130_code 2 = .ok (.bipush 20, 2) := by decide +kernel
theorem dMo_few_4 : decode prog_10_method_130_code 4 = .ok (.invokestatic 18, 3) := by decide +kernel
theorem dMo_few_7 : decode prog_10_method_130_code 7 = .ok (.ifCond .eq 13, 3) := by decide +kernel
theorem dMo_few_10 : decode prog_10_method_130_code 10 = .ok (.iload_n 2, 1) := by decide +kernel
theorem dMo_few_11 : decode prog_10_method_130_code 11 = .ok (.iconst 0, 1) := by decide +kernel
theorem dMo_few_12 : decode prog_10_method_130_code 12 = .ok (.bipush 99, 2) := by decide +kernel
theorem dMo_few_14 : decode prog_10_method_130_code 14 = .ok (.invokestatic 18, 3) := by decide +kernel
theorem dMo_few_17 : decode prog_10_method_130_code 17 = .ok (.ifCond .ne 7, 3) := by decide +kernel
theorem dMo_few_20 : decode prog_10_method_130_code 20 = .ok (.ldc2_w 462, 3) := by decide +kernel
theorem dMo_few_23 : decode prog_10_method_130_code 23 = .ok (.lreturn, 1) := by decide +kernel
theorem dMo_few_24 : decode prog_10_method_130_code 24 = .ok (.iconst 0, 1) := by decide +kernel
theorem dMo_few_25 : decode prog_10_method_130_code 25 = .ok (.istore_n 3, 1) := by decide +kernel
theorem dMo_few_26 : decode prog_10_method_130_code 26 = .ok (.iload_n 3, 1) := by decide +kernel
theorem dMo_few_27 : decode prog_10_method_130_code 27 = .ok (.bipush 20, 2) := by decide +kernel
theorem dMo_few_29 : decode prog_10_method_130_code 29 = .ok (.if_icmp .gt 26, 3) := by decide +kernel
theorem dMo_few_32 : decode prog_10_method_130_code 32 = .ok (.aload_n 0, 1) := by decide +kernel
theorem dMo_few_33 : decode prog_10_method_130_code 33 = .ok (.getfield 97, 3) := by decide +kernel
theorem dMo_few_36 : decode prog_10_method_130_code 36 = .ok (.iload_n 3, 1) := by decide +kernel
theorem dMo_few_37 : decode prog_10_method_130_code 37 = .ok (.iload_n 3, 1) := by decide +kernel
theorem dMo_few_38 : decode prog_10_method_130_code 38 = .ok (.ifCond .ne 9, 3) := by decide +kernel
theorem dMo_few_41 : decode prog_10_method_130_code 41 = .ok (.ldc2_w 464, 3) := by decide +kernel
theorem dMo_few_44 : decode prog_10_method_130_code 44 = .ok (.goto 4, 3) := by decide +kernel
theorem dMo_few_47 : decode prog_10_method_130_code 47 = .ok (.lconst 0, 1) := by decide +kernel
theorem dMo_few_48 : decode prog_10_method_130_code 48 = .ok (.lastore, 1) := by decide +kernel
theorem dMo_few_49 : decode prog_10_method_130_code 49 = .ok (.iinc 3 1, 3) := by decide +kernel
theorem dMo_few_52 : decode prog_10_method_130_code 52 = .ok (.goto (-26), 3) := by decide +kernel
theorem dMo_few_55 : decode prog_10_method_130_code 55 = .ok (.iconst 0, 1) := by decide +kernel
theorem dMo_few_56 : decode prog_10_method_130_code 56 = .ok (.istore_n 3, 1) := by decide +kernel
theorem dMo_few_57 : decode prog_10_method_130_code 57 = .ok (.iload_n 3, 1) := by decide +kernel
theorem dMo_few_58 : decode prog_10_method_130_code 58 = .ok (.iload_n 2, 1) := by decide +kernel
theorem dMo_few_59 : decode prog_10_method_130_code 59 = .ok (.if_icmp .ge 87, 3) := by decide +kernel
theorem dMo_few_62 : decode prog_10_method_130_code 62 = .ok (.iload_n 1, 1) := by decide +kernel
theorem dMo_few_63 : decode prog_10_method_130_code 63 = .ok (.iconst 1, 1) := by decide +kernel
theorem dMo_few_64 : decode prog_10_method_130_code 64 = .ok (.isub, 1) := by decide +kernel
theorem dMo_few_65 : decode prog_10_method_130_code 65 = .ok (.istore 4, 2) := by decide +kernel
theorem dMo_few_67 : decode prog_10_method_130_code 67 = .ok (.iload 4, 2) := by decide +kernel
theorem dMo_few_69 : decode prog_10_method_130_code 69 = .ok (.ifCond .lt 71, 3) := by decide +kernel
theorem dMo_few_72 : decode prog_10_method_130_code 72 = .ok (.aload_n 0, 1) := by decide +kernel
theorem dMo_few_73 : decode prog_10_method_130_code 73 = .ok (.getfield 97, 3) := by decide +kernel
theorem dMo_few_76 : decode prog_10_method_130_code 76 = .ok (.iload 4, 2) := by decide +kernel
theorem dMo_few_78 : decode prog_10_method_130_code 78 = .ok (.iconst 1, 1) := by decide +kernel
theorem dMo_few_79 : decode prog_10_method_130_code 79 = .ok (.iadd, 1) := by decide +kernel
theorem dMo_few_80 : decode prog_10_method_130_code 80 = .ok (.dup2, 1) := by decide +kernel
theorem dMo_few_81 : decode prog_10_method_130_code 81 = .ok (.laload, 1) := by decide +kernel
theorem dMo_few_82 : decode prog_10_method_130_code 82 = .ok (.aload_n 0, 1) := by decide +kernel
theorem dMo_few_83 : decode prog_10_method_130_code 83 = .ok (.getfield 97, 3) := by decide +kernel
theorem dMo_few_86 : decode prog_10_method_130_code 86 = .ok (.iload 4, 2) := by decide +kernel
theorem dMo_few_88 : decode prog_10_method_130_code 88 = .ok (.laload, 1) := by decide +kernel
theorem dMo_few_89 : decode prog_10_method_130_code 89 = .ok (.aload_n 0, 1) := by decide +kernel
theorem dMo_few_90 : decode prog_10_method_130_code 90 = .ok (.getfield 28, 3) := by decide +kernel
theorem dMo_few_93 : decode prog_10_method_130_code 93 = .ok (.bipush 40, 2) := by decide +kernel
theorem dMo_few_95 : decode prog_10_method_130_code 95 = .ok (.iaload, 1) := by decide +kernel
theorem dMo_few_96 : decode prog_10_method_130_code 96 = .ok (.i2l, 1) := by decide +kernel
theorem dMo_few_97 : decode prog_10_method_130_code 97 = .ok (.lmul, 1) := by decide +kernel
theorem dMo_few_98 : decode prog_10_method_130_code 98 = .ok (.ldc2_w 466, 3) := by decide +kernel
theorem dMo_few_101 : decode prog_10_method_130_code 101 = .ok (.ldiv, 1) := by decide +kernel
theorem dMo_few_102 : decode prog_10_method_130_code 102 = .ok (.ladd, 1) := by decide +kernel
theorem dMo_few_103 : decode prog_10_method_130_code 103 = .ok (.lastore, 1) := by decide +kernel
theorem dMo_few_104 : decode prog_10_method_130_code 104 = .ok (.aload_n 0, 1) := by decide +kernel
theorem dMo_few_105 : decode prog_10_method_130_code 105 = .ok (.getfield 97, 3) := by decide +kernel
theorem dMo_few_108 : decode prog_10_method_130_code 108 = .ok (.iload 4, 2) := by decide +kernel
theorem dMo_few_110 : decode prog_10_method_130_code 110 = .ok (.aload_n 0, 1) := by decide +kernel
theorem dMo_few_111 : decode prog_10_method_130_code 111 = .ok (.getfield 97, 3) := by decide +kernel
theorem dMo_few_114 : decode prog_10_method_130_code 114 = .ok (.iload 4, 2) := by decide +kernel
theorem dMo_few_116 : decode prog_10_method_130_code 116 = .ok (.laload, 1) := by decide +kernel
theorem dMo_few_117 : decode prog_10_method_130_code 117 = .ok (.bipush 10, 2) := by decide +kernel
theorem dMo_few_119 : decode prog_10_method_130_code 119 = .ok (.aload_n 0, 1) := by decide +kernel
theorem dMo_few_120 : decode prog_10_method_130_code 120 = .ok (.getfield 28, 3) := by decide +kernel
theorem dMo_few_123 : decode prog_10_method_130_code 123 = .ok (.bipush 40, 2) := by decide +kernel
theorem dMo_few_125 : decode prog_10_method_130_code 125 = .ok (.iaload, 1) := by decide +kernel
theorem dMo_few_126 : decode prog_10_method_130_code 126 = .ok (.isub, 1) := by decide +kernel
theorem dMo_few_127 : decode prog_10_method_130_code 127 = .ok (.i2l, 1) := by decide +kernel
theorem dMo_few_128 : decode prog_10_method_130_code 128 = .ok (.lmul, 1) := by decide +kernel
theorem dMo_few_129 : decode prog_10_method_130_code 129 = .ok (.ldc2_w 466, 3) := by decide +kernel
theorem dMo_few_132 : decode prog_10_method_130_code 132 = .ok (.ldiv, 1) := by decide +kernel
theorem dMo_few_133 : decode prog_10_method_130_code 133 = .ok (.lastore, 1) := by decide +kernel
theorem dMo_few_134 : decode prog_10_method_130_code 134 = .ok (.iinc 4 (-1), 3) := by decide +kernel
theorem dMo_few_137 : decode prog_10_method_130_code 137 = .ok (.goto (-70), 3) := by decide +kernel
theorem dMo_few_140 : decode prog_10_method_130_code 140 = .ok (.iinc 3 1, 3) := by decide +kernel
theorem dMo_few_143 : decode prog_10_method_130_code 143 = .ok (.goto (-86), 3) := by decide +kernel
theorem dMo_few_146 : decode prog_10_method_130_code 146 = .ok (.lconst 0, 1) := by decide +kernel
theorem dMo_few_147 : decode prog_10_method_130_code 147 = .ok (.lstore_n 3, 1) := by decide +kernel
theorem dMo_few_148 : decode prog_10_method_130_code 148 = .ok (.iconst 0, 1) := by decide +kernel
theorem dMo_few_149 : decode prog_10_method_130_code 149 = .ok (.istore 5, 2) := by decide +kernel
theorem dMo_few_151 : decode prog_10_method_130_code 151 = .ok (.iload 5, 2) := by decide +kernel
theorem dMo_few_153 : decode prog_10_method_130_code 153 = .ok (.iload_n 1, 1) := by decide +kernel
theorem dMo_few_154 : decode prog_10_method_130_code 154 = .ok (.if_icmp .ge 19, 3) := by decide +kernel
theorem dMo_few_157 : decode prog_10_method_130_code 157 = .ok (.lload_n 3, 1) := by decide +kernel
theorem dMo_few_158 : decode prog_10_method_130_code 158 = .ok (.aload_n 0, 1) := by decide +kernel
theorem dMo_few_159 : decode prog_10_method_130_code 159 = .ok (.getfield 97, 3) := by decide +kernel
theorem dMo_few_162 : decode prog_10_method_130_code 162 = .ok (.iload 5, 2) := by decide +kernel
theorem dMo_few_164 : decode prog_10_method_130_code 164 = .ok (.laload, 1) := by decide +kernel
theorem dMo_few_165 : decode prog_10_method_130_code 165 = .ok (.ladd, 1) := by decide +kernel
theorem dMo_few_166 : decode prog_10_method_130_code 166 = .ok (.lstore_n 3, 1) := by decide +kernel
theorem dMo_few_167 : decode prog_10_method_130_code 167 = .ok (.iinc 5 1, 3) := by decide +kernel
theorem dMo_few_170 : decode prog_10_method_130_code 170 = .ok (.goto (-19), 3) := by decide +kernel
theorem dMo_few_173 : decode prog_10_method_130_code 173 = .ok (.lload_n 3, 1) := by decide +kernel
theorem dMo_few_174 : decode prog_10_method_130_code 174 = .ok (.lreturn, 1) := by decide +kernel
theorem dMo_stopped_0 : decode prog_10_method_131_code 0 = .ok (.aload_n 0, 1) := by decide +kernel
theorem dMo_stopped_1 : decode prog_10_method_131_code 1 = .ok (.getfield 101, 3) := by decide +kernel
theorem dMo_stopped_4 : decode prog_10_method_131_code 4 = .ok (.ireturn, 1) := by decide +kernel
theorem dMo_small_0 : decode prog_10_method_134_code 0 = .ok (.lload_n 0, 1) := by decide +kernel
theorem dMo_small_1 : decode prog_10_method_134_code 1 = .ok (.lconst 0, 1) := by decide +kernel
theorem dMo_small_2 : decode prog_10_method_134_code 2 = .ok (.lcmp, 1) := by decide +kernel
theorem dMo_small_3 : decode prog_10_method_134_code 3 = .ok (.ifCond .lt 11, 3) := by decide +kernel
theorem dMo_small_6 : decode prog_10_method_134_code 6 = .ok (.lload_n 0, 1) := by decide +kernel
theorem dMo_small_7 : decode prog_10_method_134_code 7 = .ok (.ldc2_w 492, 3) := by decide +kernel
theorem dMo_small_10 : decode prog_10_method_134_code 10 = .ok (.lcmp, 1) := by decide +kernel
theorem dMo_small_11 : decode prog_10_method_134_code 11 = .ok (.ifCond .le 7, 3) := by decide +kernel
theorem dMo_small_14 : decode prog_10_method_134_code 14 = .ok (.iconst (-1), 1) := by decide +kernel
theorem dMo_small_15 : decode prog_10_method_134_code 15 = .ok (.goto 5, 3) := by decide +kernel
theorem dMo_small_18 : decode prog_10_method_134_code 18 = .ok (.lload_n 0, 1) := by decide +kernel
theorem dMo_small_19 : decode prog_10_method_134_code 19 = .ok (.l2i, 1) := by decide +kernel
theorem dMo_small_20 : decode prog_10_method_134_code 20 = .ok (.ireturn, 1) := by decide +kernel
theorem dMo_draws_0 : decode prog_10_method_137_code 0 = .ok (.aload_n 0, 1) := by decide +kernel
theorem dMo_draws_1 : decode prog_10_method_137_code 1 = .ok (.ldc2_w 505, 3) := by decide +kernel
theorem dMo_draws_4 : decode prog_10_method_137_code 4 = .ok (.aload_n 0, 1) := by decide +kernel
theorem dMo_draws_5 : decode prog_10_method_137_code 5 = .ok (.getfield 507, 3) := by decide +kernel
theorem dMo_draws_8 : decode prog_10_method_137_code 8 = .ok (.i2l, 1) := by decide +kernel
theorem dMo_draws_9 : decode prog_10_method_137_code 9 = .ok (.lmul, 1) := by decide +kernel
theorem dMo_draws_10 : decode prog_10_method_137_code 10 = .ok (.ldc2_w 510, 3) := by decide +kernel
theorem dMo_draws_13 : decode prog_10_method_137_code 13 = .ok (.ladd, 1) := by decide +kernel
theorem dMo_draws_14 : decode prog_10_method_137_code 14 = .ok (.ldc2_w 512, 3) := by decide +kernel
theorem dMo_draws_17 : decode prog_10_method_137_code 17 = .ok (.lrem, 1) := by decide +kernel
theorem dMo_draws_18 : decode prog_10_method_137_code 18 = .ok (.l2i, 1) := by decide +kernel
theorem dMo_draws_19 : decode prog_10_method_137_code 19 = .ok (.putfield 507, 3) := by decide +kernel
theorem dMo_draws_22 : decode prog_10_method_137_code 22 = .ok (.aload_n 0, 1) := by decide +kernel
theorem dMo_draws_23 : decode prog_10_method_137_code 23 = .ok (.getfield 507, 3) := by decide +kernel
theorem dMo_draws_26 : decode prog_10_method_137_code 26 = .ok (.iload_n 1, 1) := by decide +kernel
theorem dMo_draws_27 : decode prog_10_method_137_code 27 = .ok (.irem, 1) := by decide +kernel
theorem dMo_draws_28 : decode prog_10_method_137_code 28 = .ok (.ireturn, 1) := by decide +kernel
theorem dMo_drawn_0 : decode prog_10_method_139_code 0 = .ok (.iload_n 1, 1) := by decide +kernel
theorem dMo_drawn_1 : decode prog_10_method_139_code 1 = .ok (.iconst 0, 1) := by decide +kernel
theorem dMo_drawn_2 : decode prog_10_method_139_code 2 = .ok (.aload_n 0, 1) := by decide +kernel
theorem dMo_drawn_3 : decode prog_10_method_139_code 3 = .ok (.getfield 110, 3) := by decide +kernel
theorem dMo_drawn_6 : decode prog_10_method_139_code 6 = .ok (.iconst 1, 1) := by decide +kernel
theorem dMo_drawn_7 : decode prog_10_method_139_code 7 = .ok (.isub, 1) := by decide +kernel
theorem dMo_drawn_8 : decode prog_10_method_139_code 8 = .ok (.invokestatic 18, 3) := by decide +kernel
theorem dMo_drawn_11 : decode prog_10_method_139_code 11 = .ok (.ifCond .eq 12, 3) := by decide +kernel
theorem dMo_drawn_14 : decode prog_10_method_139_code 14 = .ok (.iload_n 2, 1) := by decide +kernel
theorem dMo_drawn_15 : decode prog_10_method_139_code 15 = .ok (.iconst 0, 1) := by decide +kernel
theorem dMo_drawn_16 : decode prog_10_method_139_code 16 = .ok (.iconst 1, 1) := by decide +kernel
theorem dMo_drawn_17 : decode prog_10_method_139_code 17 = .ok (.invokestatic 18, 3) := by decide +kernel
theorem dMo_drawn_20 : decode prog_10_method_139_code 20 = .ok (.ifCond .ne 5, 3) := by decide +kernel
theorem dMo_drawn_23 : decode prog_10_method_139_code 23 = .ok (.iconst (-1), 1) := by decide +kernel
theorem dMo_drawn_24 : decode prog_10_method_139_code 24 = .ok (.ireturn, 1) := by decide +kernel
theorem dMo_drawn_25 : decode prog_10_method_139_code 25 = .ok (.aload_n 0, 1) := by decide +kernel
theorem dMo_drawn_26 : decode prog_10_method_139_code 26 = .ok (.getfield 107, 3) := by decide +kernel
theorem dMo_drawn_29 : decode prog_10_method_139_code 29 = .ok (.iload_n 2, 1) := by decide +kernel
theorem dMo_drawn_30 : decode prog_10_method_139_code 30 = .ok (.ifCond .ne 7, 3) := by decide +kernel
theorem dMo_drawn_33 : decode prog_10_method_139_code 33 = .ok (.iconst 0, 1) := by decide +kernel
theorem dMo_drawn_34 : decode prog_10_method_139_code 34 = .ok (.goto 5, 3) := by decide +kernel
theorem dMo_drawn_37 : decode prog_10_method_139_code 37 = .ok (.bipush 7, 2) := by decide +kernel
theorem dMo_drawn_39 : decode prog_10_method_139_code 39 = .ok (.iload_n 1, 1) := by decide +kernel
theorem dMo_drawn_40 : decode prog_10_method_139_code 40 = .ok (.iadd, 1) := by decide +kernel
theorem dMo_drawn_41 : decode prog_10_method_139_code 41 = .ok (.iaload, 1) := by decide +kernel
theorem dMo_drawn_42 : decode prog_10_method_139_code 42 = .ok (.ireturn, 1) := by decide +kernel
theorem dMo_count_0 : decode prog_10_method_140_code 0 = .ok (.iload_n 1, 1) := by decide +kernel
theorem dMo_count_1 : decode prog_10_method_140_code 1 = .ok (.tableswitch 174 0 16 #[83, 88, 93, 102, 110, 118, 123, 128, 128, 128, 138, 145, 153, 161, 161, 161, 161], 83) := by decide +kernel
theorem dMo_count_84 : decode prog_10_method_140_code 84 = .ok (.aload_n 0, 1) := by decide +kernel
theorem dMo_count_85 : decode prog_10_method_140_code 85 = .ok (.invokevirtual 119, 3) := by decide +kernel
theorem dMo_count_88 : decode prog_10_method_140_code 88 = .ok (.ireturn, 1) := by decide +kernel
theorem dMo_count_89 : decode prog_10_method_140_code 89 = .ok (.aload_n 0, 1) := by decide +kernel
theorem dMo_count_90 : decode prog_10_method_140_code 90 = .ok (.invokevirtual 331, 3) := by decide +kernel
theorem dMo_count_93 : decode prog_10_method_140_code 93 = .ok (.ireturn, 1) := by decide +kernel
theorem dMo_count_94 : decode prog_10_method_140_code 94 = .ok (.aload_n 0, 1) := by decide +kernel
theorem dMo_count_95 : decode prog_10_method_140_code 95 = .ok (.aload_n 0, 1) := by decide +kernel
theorem dMo_count_96 : decode prog_10_method_140_code 96 = .ok (.invokevirtual 426, 3) := by decide +kernel
theorem dMo_count_99 : decode prog_10_method_140_code 99 = .ok (.invokevirtual 429, 3) := by decide +kernel
theorem dMo_count_102 : decode prog_10_method_140_code 102 = .ok (.ireturn, 1) := by decide +kernel
theorem dMo_count_103 : decode prog_10_method_140_code 103 = .ok (.aload_n 0, 1) := by decide +kernel
theorem dMo_count_104 : decode prog_10_method_140_code 104 = .ok (.getfield 28, 3) := by decide +kernel
theorem dMo_count_107 : decode prog_10_method_140_code 107 = .ok (.bipush 44, 2) := by decide +kernel
theorem dMo_count_109 : decode prog_10_method_140_code 109 = .ok (.iaload, 1) := by decide +kernel
theorem dMo_count_110 : decode prog_10_method_140_code 110 = .ok (.ireturn, 1) := by decide +kernel
theorem dMo_count_111 : decode prog_10_method_140_code 111 = .ok (.aload_n 0, 1) := by decide +kernel
theorem dMo_count_112 : decode prog_10_method_140_code 112 = .ok (.getfield 28, 3) := by decide +kernel
theorem dMo_count_115 : decode prog_10_method_140_code 115 = .ok (.bipush 45, 2) := by decide +kernel
theorem dMo_count_117 : decode prog_10_method_140_code 117 = .ok (.iaload, 1) := by decide +kernel
theorem dMo_count_118 : decode prog_10_method_140_code 118 = .ok (.ireturn, 1) := by decide +kernel
theorem dMo_count_119 : decode prog_10_method_140_code 119 = .ok (.aload_n 0, 1) := by decide +kernel
theorem dMo_count_120 : decode prog_10_method_140_code 120 = .ok (.getfield 11, 3) := by decide +kernel
theorem dMo_count_123 : decode prog_10_method_140_code 123 = .ok (.ireturn, 1) := by decide +kernel
theorem dMo_count_124 : decode prog_10_method_140_code 124 = .ok (.aload_n 0, 1) := by decide +kernel
theorem dMo_count_125 : decode prog_10_method_140_code 125 = .ok (.getfield 175, 3) := by decide +kernel
theorem dMo_count_128 : decode prog_10_method_140_code 128 = .ok (.ireturn, 1) := by decide +kernel
theorem dMo_count_129 : decode prog_10_method_140_code 129 = .ok (.aload_n 0, 1) := by decide +kernel
theorem dMo_count_130 : decode prog_10_method_140_code 130 = .ok (.getfield 7, 3) := by decide +kernel
theorem dMo_count_133 : decode prog_10_method_140_code 133 = .ok (.iload_n 1, 1) := by decide +kernel
theorem dMo_count_134 : decode prog_10_method_140_code 134 = .ok (.bipush 6, 2) := by decide +kernel
theorem dMo_count_136 : decode prog_10_method_140_code 136 = .ok (.isub, 1) := by decide +kernel
theorem dMo_count_137 : decode prog_10_method_140_code 137 = .ok (.iaload, 1) := by decide +kernel
theorem dMo_count_138 : decode prog_10_method_140_code 138 = .ok (.ireturn, 1) := by decide +kernel
theorem dMo_count_139 : decode prog_10_method_140_code 139 = .ok (.aload_n 0, 1) := by decide +kernel
theorem dMo_count_140 : decode prog_10_method_140_code 140 = .ok (.getfield 7, 3) := by decide +kernel
theorem dMo_count_143 : decode prog_10_method_140_code 143 = .ok (.iconst 5, 1) := by decide +kernel
theorem dMo_count_144 : decode prog_10_method_140_code 144 = .ok (.iaload, 1) := by decide +kernel
theorem dMo_count_145 : decode prog_10_method_140_code 145 = .ok (.ireturn, 1) := by decide +kernel
theorem dMo_count_146 : decode prog_10_method_140_code 146 = .ok (.aload_n 0, 1) := by decide +kernel
theorem dMo_count_147 : decode prog_10_method_140_code 147 = .ok (.getfield 7, 3) := by decide +kernel
theorem dMo_count_150 : decode prog_10_method_140_code 150 = .ok (.bipush 6, 2) := by decide +kernel
theorem dMo_count_152 : decode prog_10_method_140_code 152 = .ok (.iaload, 1) := by decide +kernel
theorem dMo_count_153 : decode prog_10_method_140_code 153 = .ok (.ireturn, 1) := by decide +kernel
theorem dMo_count_154 : decode prog_10_method_140_code 154 = .ok (.aload_n 0, 1) := by decide +kernel
theorem dMo_count_155 : decode prog_10_method_140_code 155 = .ok (.getfield 28, 3) := by decide +kernel
theorem dMo_count_158 : decode prog_10_method_140_code 158 = .ok (.bipush 46, 2) := by decide +kernel
theorem dMo_count_160 : decode prog_10_method_140_code 160 = .ok (.iaload, 1) := by decide +kernel
theorem dMo_count_161 : decode prog_10_method_140_code 161 = .ok (.ireturn, 1) := by decide +kernel
theorem dMo_count_162 : decode prog_10_method_140_code 162 = .ok (.aload_n 0, 1) := by decide +kernel
theorem dMo_count_163 : decode prog_10_method_140_code 163 = .ok (.getfield 28, 3) := by decide +kernel
theorem dMo_count_166 : decode prog_10_method_140_code 166 = .ok (.iload_n 1, 1) := by decide +kernel
theorem dMo_count_167 : decode prog_10_method_140_code 167 = .ok (.bipush 13, 2) := by decide +kernel
theorem dMo_count_169 : decode prog_10_method_140_code 169 = .ok (.isub, 1) := by decide +kernel
theorem dMo_count_170 : decode prog_10_method_140_code 170 = .ok (.invokestatic 172, 3) := by decide +kernel
theorem dMo_count_173 : decode prog_10_method_140_code 173 = .ok (.iaload, 1) := by decide +kernel
theorem dMo_count_174 : decode prog_10_method_140_code 174 = .ok (.ireturn, 1) := by decide +kernel
theorem dMo_count_175 : decode prog_10_method_140_code 175 = .ok (.iconst (-1), 1) := by decide +kernel
theorem dMo_count_176 : decode prog_10_method_140_code 176 = .ok (.ireturn, 1) := by decide +kernel
theorem dMo_status_0 : decode prog_10_method_141_code 0 = .ok (.aload_n 0, 1) := by decide +kernel
theorem dMo_status_1 : decode prog_10_method_141_code 1 = .ok (.getfield 3, 3) := by decide +kernel
theorem dMo_status_4 : decode prog_10_method_141_code 4 = .ok (.ireturn, 1) := by decide +kernel
theorem dMo_readTerm_0 : decode prog_10_method_53_code 0 = .ok (.aload_n 0, 1) := by decide +kernel
theorem dMo_readTerm_1 : decode prog_10_method_53_code 1 = .ok (.iload_n 1, 1) := by decide +kernel
theorem dMo_readTerm_2 : decode prog_10_method_53_code 2 = .ok (.invokevirtual 252, 3) := by decide +kernel
theorem dMo_readTerm_5 : decode prog_10_method_53_code 5 = .ok (.aload_n 0, 1) := by decide +kernel
theorem dMo_readTerm_6 : decode prog_10_method_53_code 6 = .ok (.bipush 42, 2) := by decide +kernel
theorem dMo_readTerm_8 : decode prog_10_method_53_code 8 = .ok (.invokestatic 245, 3) := by decide +kernel
theorem dMo_readTerm_11 : decode prog_10_method_53_code 11 = .ok (.invokevirtual 204, 3) := by decide +kernel
theorem dMo_readTerm_14 : decode prog_10_method_53_code 14 = .ok (.ifCond .ne 27, 3) := by decide +kernel
theorem dMo_readTerm_17 : decode prog_10_method_53_code 17 = .ok (.aload_n 0, 1) := by decide +kernel
theorem dMo_readTerm_18 : decode prog_10_method_53_code 18 = .ok (.bipush 47, 2) := by decide +kernel
theorem dMo_readTerm_20 : decode prog_10_method_53_code 20 = .ok (.invokestatic 245, 3) := by decide +kernel
theorem dMo_readTerm_23 : decode prog_10_method_53_code 23 = .ok (.invokevirtual 204, 3) := by decide +kernel
theorem dMo_readTerm_26 : decode prog_10_method_53_code 26 = .ok (.ifCond .ne 15, 3) := by decide +kernel
theorem dMo_readTerm_29 : decode prog_10_method_53_code 29 = .ok (.aload_n 0, 1) := by decide +kernel
theorem dMo_readTerm_30 : decode prog_10_method_53_code 30 = .ok (.bipush 37, 2) := by decide +kernel
theorem dMo_readTerm_32 : decode prog_10_method_53_code 32 = .ok (.invokestatic 245, 3) := by decide +kernel
theorem dMo_readTerm_35 : decode prog_10_method_53_code 35 = .ok (.invokevirtual 204, 3) := by decide +kernel
theorem dMo_readTerm_38 : decode prog_10_method_53_code 38 = .ok (.ifCond .eq 11, 3) := by decide +kernel
theorem dMo_readTerm_41 : decode prog_10_method_53_code 41 = .ok (.aload_n 0, 1) := by decide +kernel
theorem dMo_readTerm_42 : decode prog_10_method_53_code 42 = .ok (.iload_n 1, 1) := by decide +kernel
theorem dMo_readTerm_43 : decode prog_10_method_53_code 43 = .ok (.invokevirtual 252, 3) := by decide +kernel
theorem dMo_readTerm_46 : decode prog_10_method_53_code 46 = .ok (.goto (-41), 3) := by decide +kernel
theorem dMo_readTerm_49 : decode prog_10_method_53_code 49 = .ok (.return_, 1) := by decide +kernel
theorem dMo_partOf_0 : decode prog_10_method_67_code 0 = .ok (.aload_n 0, 1) := by decide +kernel
theorem dMo_partOf_1 : decode prog_10_method_67_code 1 = .ok (.bipush 91, 2) := by decide +kernel
theorem dMo_partOf_3 : decode prog_10_method_67_code 3 = .ok (.invokestatic 245, 3) := by decide +kernel
theorem dMo_partOf_6 : decode prog_10_method_67_code 6 = .ok (.invokevirtual 310, 3) := by decide +kernel
theorem dMo_partOf_9 : decode prog_10_method_67_code 9 = .ok (.ifCond .eq 21, 3) := by decide +kernel
theorem dMo_partOf_12 : decode prog_10_method_67_code 12 = .ok (.aload_n 0, 1) := by decide +kernel
theorem dMo_partOf_13 : decode prog_10_method_67_code 13 = .ok (.iload_n 1, 1) := by decide +kernel
theorem dMo_partOf_14 : decode prog_10_method_67_code 14 = .ok (.invokevirtual 313, 3) := by decide +kernel
theorem dMo_partOf_17 : decode prog_10_method_67_code 17 = .ok (.lstore_n 2, 1) := by decide +kernel
theorem dMo_partOf_18 : decode prog_10_method_67_code 18 = .ok (.aload_n 0, 1) := by decide +kernel
theorem dMo_partOf_19 : decode prog_10_method_67_code 19 = .ok (.dup, 1) := by decide +kernel
theorem dMo_partOf_20 : decode prog_10_method_67_code 20 = .ok (.getfield 286, 3) := by decide +kernel
theorem dMo_partOf_23 : decode prog_10_method_67_code 23 = .ok (.iconst 1, 1) := by decide +kernel
theorem dMo_partOf_24 : decode prog_10_method_67_code 24 = .ok (.iadd, 1) := by decide +kernel
theorem dMo_partOf_25 : decode prog_10_method_67_code 25 = .ok (.putfield 286, 3) := by decide +kernel
theorem dMo_partOf_28 : decode prog_10_method_67_code 28 = .ok (.lload_n 2, 1) := by decide +kernel
theorem dMo_partOf_29 : decode prog_10_method_67_code 29 = .ok (.lreturn, 1) := by decide +kernel
theorem dMo_partOf_30 : decode prog_10_method_67_code 30 = .ok (.aload_n 0, 1) := by decide +kernel
theorem dMo_partOf_31 : decode prog_10_method_67_code 31 = .ok (.aload_n 0, 1) := by decide +kernel
theorem dMo_partOf_32 : decode prog_10_method_67_code 32 = .ok (.getfield 286, 3) := by decide +kernel
theorem dMo_partOf_35 : decode prog_10_method_67_code 35 = .ok (.invokevirtual 289, 3) := by decide +kernel
theorem dMo_partOf_38 : decode prog_10_method_67_code 38 = .ok (.istore_n 2, 1) := by decide +kernel
theorem dMo_partOf_39 : decode prog_10_method_67_code 39 = .ok (.iconst 0, 1) := by decide +kernel
theorem dMo_partOf_40 : decode prog_10_method_67_code 40 = .ok (.istore_n 3, 1) := by decide +kernel
theorem dMo_partOf_41 : decode prog_10_method_67_code 41 = .ok (.aload_n 0, 1) := by decide +kernel
theorem dMo_partOf_42 : decode prog_10_method_67_code 42 = .ok (.dup, 1) := by decide +kernel
theorem dMo_partOf_43 : decode prog_10_method_67_code 43 = .ok (.getfield 286, 3) := by decide +kernel
theorem dMo_partOf_46 : decode prog_10_method_67_code 46 = .ok (.iconst 1, 1) := by decide +kernel
theorem dMo_partOf_47 : decode prog_10_method_67_code 47 = .ok (.iadd, 1) := by decide +kernel
theorem dMo_partOf_48 : decode prog_10_method_67_code 48 = .ok (.putfield 286, 3) := by decide +kernel
theorem dMo_partOf_51 : decode prog_10_method_67_code 51 = .ok (.aload_n 0, 1) := by decide +kernel
theorem dMo_partOf_52 : decode prog_10_method_67_code 52 = .ok (.getfield 316, 3) := by decide +kernel
theorem dMo_partOf_55 : decode prog_10_method_67_code 55 = .ok (.ifCond .eq 39, 3) := by decide +kernel
theorem dMo_partOf_58 : decode prog_10_method_67_code 58 = .ok (.iload_n 2, 1) := by decide +kernel
theorem dMo_partOf_59 : decode prog_10_method_67_code 59 = .ok (.bipush 14, 2) := by decide +kernel
theorem dMo_partOf_61 : decode prog_10_method_67_code 61 = .ok (.if_icmp .eq 9, 3) := by decide +kernel
theorem dMo_partOf_64 : decode prog_10_method_67_code 64 = .ok (.iload_n 2, 1) := by decide +kernel
theorem dMo_partOf_65 : decode prog_10_method_67_code 65 = .ok (.bipush 20, 2) := by decide +kernel
theorem dMo_partOf_67 : decode prog_10_method_67_code 67 = .ok (.if_icmp .ne 27, 3) := by decide +kernel
theorem dMo_partOf_70 : decode prog_10_method_67_code 70 = .ok (.aload_n 0, 1) := by decide +kernel
theorem dMo_partOf_71 : decode prog_10_method_67_code 71 = .ok (.getfield 28, 3) := by decide +kernel
theorem dMo_partOf_74 : decode prog_10_method_67_code 74 = .ok (.sipush 2854, 3) := by decide +kernel
theorem dMo_partOf_77 : decode prog_10_method_67_code 77 = .ok (.aload_n 0, 1) := by decide +kernel
theorem dMo_partOf_78 : decode prog_10_method_67_code 78 = .ok (.getfield 286, 3) := by decide +kernel
theorem dMo_partOf_81 : decode prog_10_method_67_code 81 = .ok (.iadd, 1) := by decide +kernel
theorem dMo_partOf_82 : decode prog_10_method_67_code 82 = .ok (.iaload, 1) := by decide +kernel
theorem dMo_partOf_83 : decode prog_10_method_67_code 83 = .ok (.istore_n 3, 1) := by decide +kernel
theorem dMo_partOf_84 : decode prog_10_method_67_code 84 = .ok (.aload_n 0, 1) := by decide +kernel
theorem dMo_partOf_85 : decode prog_10_method_67_code 85 = .ok (.dup, 1) := by decide +kernel
theorem dMo_partOf_86 : decode prog_10_method_67_code 86 = .ok (.getfield 286, 3) := by decide +kernel
theorem dMo_partOf_89 : decode prog_10_method_67_code 89 = .ok (.iconst 1, 1) := by decide +kernel
theorem dMo_partOf_90 : decode prog_10_method_67_code 90 = .ok (.iadd, 1) := by decide +kernel
theorem dMo_partOf_91 : decode prog_10_method_67_code 91 = .ok (.putfield 286, 3) := by decide +kernel
theorem dMo_partOf_94 : decode prog_10_method_67_code 94 = .ok (.iload_n 1, 1) := by decide +kernel
theorem dMo_partOf_95 : decode prog_10_method_67_code 95 = .ok (.ifCond .eq 10, 3) := by decide +kernel
theorem dMo_partOf_98 : decode prog_10_method_67_code 98 = .ok (.aload_n 0, 1) := by decide +kernel
theorem dMo_partOf_99 : decode prog_10_method_67_code 99 = .ok (.getfield 296, 3) := by decide +kernel
theorem dMo_partOf_102 : decode prog_10_method_67_code 102 = .ok (.ifCond .eq 5, 3) := by decide +kernel
theorem dMo_partOf_105 : decode prog_10_method_67_code 105 = .ok (.lconst 0, 1) := by decide +kernel
theorem dMo_partOf_106 : decode prog_10_method_67_code 106 = .ok (.lreturn, 1) := by decide +kernel
theorem dMo_partOf_107 : decode prog_10_method_67_code 107 = .ok (.iload_n 2, 1) := by decide +kernel
theorem dMo_partOf_108 : decode prog_10_method_67_code 108 = .ok (.bipush 50, 2) := by decide +kernel
theorem dMo_partOf_110 : decode prog_10_method_67_code 110 = .ok (.if_icmp .ne 20, 3) := by decide +kernel
theorem dMo_partOf_113 : decode prog_10_method_67_code 113 = .ok (.aload_n 0, 1) := by decide +kernel
theorem dMo_partOf_114 : decode prog_10_method_67_code 114 = .ok (.getfield 28, 3) := by decide +kernel
theorem dMo_partOf_117 : decode prog_10_method_67_code 117 = .ok (.sipush 2854, 3) := by decide +kernel
theorem dMo_partOf_120 : decode prog_10_method_67_code 120 = .ok (.aload_n 0, 1) := by decide +kernel
theorem dMo_partOf_121 : decode prog_10_method_67_code 121 = .ok (.getfield 286, 3) := by decide +kernel
theorem dMo_partOf_124 : decode prog_10_method_67_code 124 = .ok (.iadd, 1) := by decide +kernel
theorem dMo_partOf_125 : decode prog_10_method_67_code 125 = .ok (.iconst 1, 1) := by decide +kernel
theorem dMo_partOf_126 : decode prog_10_method_67_code 126 = .ok (.isub, 1) := by decide +kernel
theorem dMo_partOf_127 : decode prog_10_method_67_code 127 = .ok (.iaload, 1) := by decide +kernel
theorem dMo_partOf_128 : decode prog_10_method_67_code 128 = .ok (.i2l, 1) := by decide +kernel
theorem dMo_partOf_129 : decode prog_10_method_67_code 129 = .ok (.lreturn, 1) := by decide +kernel
theorem dMo_partOf_130 : decode prog_10_method_67_code 130 = .ok (.aload_n 0, 1) := by decide +kernel
theorem dMo_partOf_131 : decode prog_10_method_67_code 131 = .ok (.getfield 316, 3) := by decide +kernel
theorem dMo_partOf_134 : decode prog_10_method_67_code 134 = .ok (.ifCond .eq 13, 3) := by decide +kernel
theorem dMo_partOf_137 : decode prog_10_method_67_code 137 = .ok (.aload_n 0, 1) := by decide +kernel
theorem dMo_partOf_138 : decode prog_10_method_67_code 138 = .ok (.iload_n 2, 1) := by decide +kernel
theorem dMo_partOf_139 : decode prog_10_method_67_code 139 = .ok (.iload_n 3, 1) := by decide +kernel
theorem dMo_partOf_140 : decode prog_10_method_67_code 140 = .ok (.invokevirtual 319, 3) := by decide +kernel
theorem dMo_partOf_143 : decode prog_10_method_67_code 143 = .ok (.i2l, 1) := by decide +kernel
theorem dMo_partOf_144 : decode prog_10_method_67_code 144 = .ok (.goto 13, 3) := by decide +kernel
theorem dMo_partOf_147 : decode prog_10_method_67_code 147 = .ok (.aload_n 0, 1) := by decide +kernel
theorem dMo_partOf_148 : decode prog_10_method_67_code 148 = .ok (.getfield 63, 3) := by decide +kernel
theorem dMo_partOf_151 : decode prog_10_method_67_code 151 = .ok (.iload_n 2, 1) := by decide +kernel
theorem dMo_partOf_152 : decode prog_10_method_67_code 152 = .ok (.bipush 8, 2) := by decide +kernel
theorem dMo_partOf_154 : decode prog_10_method_67_code 154 = .ok (.isub, 1) := by decide +kernel
theorem dMo_partOf_155 : decode prog_10_method_67_code 155 = .ok (.iaload, 1) := by decide +kernel
theorem dMo_partOf_156 : decode prog_10_method_67_code 156 = .ok (.i2l, 1) := by decide +kernel
theorem dMo_partOf_157 : decode prog_10_method_67_code 157 = .ok (.lreturn, 1) := by decide +kernel
theorem dMo_readSum_0 : decode prog_10_method_52_code 0 = .ok (.aload_n 0, 1) := by decide +kernel
theorem dMo_readSum_1 : decode prog_10_method_52_code 1 = .ok (.iload_n 1, 1) := by decide +kernel
theorem dMo_readSum_2 : decode prog_10_method_52_code 2 = .ok (.invokevirtual 249, 3) := by decide +kernel
theorem dMo_readSum_5 : decode prog_10_method_52_code 5 = .ok (.aload_n 0, 1) := by decide +kernel
theorem dMo_readSum_6 : decode prog_10_method_52_code 6 = .ok (.bipush 43, 2) := by decide +kernel
theorem dMo_readSum_8 : decode prog_10_method_52_code 8 = .ok (.invokestatic 245, 3) := by decide +kernel
theorem dMo_readSum_11 : decode prog_10_method_52_code 11 = .ok (.invokevirtual 204, 3) := by decide +kernel
theorem dMo_readSum_14 : decode prog_10_method_52_code 14 = .ok (.ifCond .ne 15, 3) := by decide +kernel
theorem dMo_readSum_17 : decode prog_10_method_52_code 17 = .ok (.aload_n 0, 1) := by decide +kernel
theorem dMo_readSum_18 : decode prog_10_method_52_code 18 = .ok (.bipush 45, 2) := by decide +kernel
theorem dMo_readSum_20 : decode prog_10_method_52_code 20 = .ok (.invokestatic 245, 3) := by decide +kernel
theorem dMo_readSum_23 : decode prog_10_method_52_code 23 = .ok (.invokevirtual 204, 3) := by decide +kernel
theorem dMo_readSum_26 : decode prog_10_method_52_code 26 = .ok (.ifCond .eq 11, 3) := by decide +kernel
theorem dMo_readSum_29 : decode prog_10_method_52_code 29 = .ok (.aload_n 0, 1) := by decide +kernel
theorem dMo_readSum_30 : decode prog_10_method_52_code 30 = .ok (.iload_n 1, 1) := by decide +kernel
theorem dMo_readSum_31 : decode prog_10_method_52_code 31 = .ok (.invokevirtual 249, 3) := by decide +kernel
theorem dMo_readSum_34 : decode prog_10_method_52_code 34 = .ok (.goto (-29), 3) := by decide +kernel
theorem dMo_readSum_37 : decode prog_10_method_52_code 37 = .ok (.return_, 1) := by decide +kernel
theorem dMo_termOf_0 : decode prog_10_method_66_code 0 = .ok (.aload_n 0, 1) := by decide +kernel
theorem dMo_termOf_1 : decode prog_10_method_66_code 1 = .ok (.iload_n 1, 1) := by decide +kernel
theorem dMo_termOf_2 : decode prog_10_method_66_code 2 = .ok (.invokevirtual 307, 3) := by decide +kernel
theorem dMo_termOf_5 : decode prog_10_method_66_code 5 = .ok (.lstore_n 2, 1) := by decide +kernel
theorem dMo_termOf_6 : decode prog_10_method_66_code 6 = .ok (.aload_n 0, 1) := by decide +kernel
theorem dMo_termOf_7 : decode prog_10_method_66_code 7 = .ok (.aload_n 0, 1) := by decide +kernel
theorem dMo_termOf_8 : decode prog_10_method_66_code 8 = .ok (.getfield 286, 3) := by decide +kernel
theorem dMo_termOf_11 : decode prog_10_method_66_code 11 = .ok (.invokevirtual 289, 3) := by decide +kernel
theorem dMo_termOf_14 : decode prog_10_method_66_code 14 = .ok (.bipush 42, 2) := by decide +kernel
theorem dMo_termOf_16 : decode prog_10_method_66_code 16 = .ok (.invokestatic 245, 3) := by decide +kernel
theorem dMo_termOf_19 : decode prog_10_method_66_code 19 = .ok (.if_icmp .eq 35, 3) := by decide +kernel
theorem dMo_termOf_22 : decode prog_10_method_66_code 22 = .ok (.aload_n 0, 1) := by decide +kernel
theorem dMo_termOf_23 : decode prog_10_method_66_code 23 = .ok (.aload_n 0, 1) := by decide +kernel
theorem dMo_termOf_24 : decode prog_10_method_66_code 24 = .ok (.getfield 286, 3) := by decide +kernel
theorem dMo_termOf_27 : decode prog_10_method_66_code 27 = .ok (.invokevirtual 289, 3) := by decide +kernel
theorem dMo_termOf_30 : decode prog_10_method_66_code 30 = .ok (.bipush 47, 2) := by decide +kernel
theorem dMo_termOf_32 : decode prog_10_method_66_code 32 = .ok (.invokestatic 245, 3) := by decide +kernel
theorem dMo_termOf_35 : decode prog_10_method_66_code 35 = .ok (.if_icmp .eq 19, 3) := by decide +kernel
theorem dMo_termOf_38 : decode prog_10_method_66_code 38 = .ok (.aload_n 0, 1) := by decide +kernel
theorem dMo_termOf_39 : decode prog_10_method_66_code 39 = .ok (.aload_n 0, 1) := by decide +kernel
theorem dMo_termOf_40 : decode prog_10_method_66_code 40 = .ok (.getfield 286, 3) := by decide +kernel
theorem dMo_termOf_43 : decode prog_10_method_66_code 43 = .ok (.invokevirtual 289, 3) := by decide +kernel
theorem dMo_termOf_46 : decode prog_10_method_66_code 46 = .ok (.bipush 37, 2) := by decide +kernel
theorem dMo_termOf_48 : decode prog_10_method_66_code 48 = .ok (.invokestatic 245, 3) := by decide +kernel
theorem dMo_termOf_51 : decode prog_10_method_66_code 51 = .ok (.if_icmp .ne 117, 3) := by decide +kernel
theorem dMo_termOf_54 : decode prog_10_method_66_code 54 = .ok (.aload_n 0, 1) := by decide +kernel
theorem dMo_termOf_55 : decode prog_10_method_66_code 55 = .ok (.aload_n 0, 1) := by decide +kernel
theorem dMo_termOf_56 : decode prog_10_method_66_code 56 = .ok (.getfield 286, 3) := by decide +kernel
theorem dMo_termOf_59 : decode prog_10_method_66_code 59 = .ok (.invokevirtual 289, 3) := by decide +kernel
theorem dMo_termOf_62 : decode prog_10_method_66_code 62 = .ok (.istore 4, 2) := by decide +kernel
theorem dMo_termOf_64 : decode prog_10_method_66_code 64 = .ok (.aload_n 0, 1) := by decide +kernel
theorem dMo_termOf_65 : decode prog_10_method_66_code 65 = .ok (.dup, 1) := by decide +kernel
theorem dMo_termOf_66 : decode prog_10_method_66_code 66 = .ok (.getfield 286, 3) := by decide +kernel
theorem dMo_termOf_69 : decode prog_10_method_66_code 69 = .ok (.iconst 1, 1) := by decide +kernel
theorem dMo_termOf_70 : decode prog_10_method_66_code 70 = .ok (.iadd, 1) := by decide +kernel
theorem dMo_termOf_71 : decode prog_10_method_66_code 71 = .ok (.putfield 286, 3) := by decide +kernel
theorem dMo_termOf_74 : decode prog_10_method_66_code 74 = .ok (.aload_n 0, 1) := by decide +kernel
theorem dMo_termOf_75 : decode prog_10_method_66_code 75 = .ok (.iload_n 1, 1) := by decide +kernel
theorem dMo_termOf_76 : decode prog_10_method_66_code 76 = .ok (.invokevirtual 307, 3) := by decide +kernel
theorem dMo_termOf_79 : decode prog_10_method_66_code 79 = .ok (.lstore 5, 2) := by decide +kernel
theorem dMo_termOf_81 : decode prog_10_method_66_code 81 = .ok (.iload 4, 2) := by decide +kernel
theorem dMo_termOf_83 : decode prog_10_method_66_code 83 = .ok (.bipush 42, 2) := by decide +kernel
theorem dMo_termOf_85 : decode prog_10_method_66_code 85 = .ok (.invokestatic 245, 3) := by decide +kernel
theorem dMo_termOf_88 : decode prog_10_method_66_code 88 = .ok (.if_icmp .eq 33, 3) := by decide +kernel
theorem dMo_termOf_91 : decode prog_10_method_66_code 91 = .ok (.lload 5, 2) := by decide +kernel
theorem dMo_termOf_93 : decode prog_10_method_66_code 93 = .ok (.lconst 0, 1) := by decide +kernel
theorem dMo_termOf_94 : decode prog_10_method_66_code 94 = .ok (.lcmp, 1) := by decide +kernel
theorem dMo_termOf_95 : decode prog_10_method_66_code 95 = .ok (.ifCond .ne 26, 3) := by decide +kernel
theorem dMo_termOf_98 : decode prog_10_method_66_code 98 = .ok (.aload_n 0, 1) := by decide +kernel
theorem dMo_termOf_99 : decode prog_10_method_66_code 99 = .ok (.aload_n 0, 1) := by decide +kernel
theorem dMo_termOf_100 : decode prog_10_method_66_code 100 = .ok (.getfield 296, 3) := by decide +kernel
theorem dMo_termOf_103 : decode prog_10_method_66_code 103 = .ok (.ifCond .ne 7, 3) := by decide +kernel
theorem dMo_termOf_106 : decode prog_10_method_66_code 106 = .ok (.iload_n 1, 1) := by decide +kernel
theorem dMo_termOf_107 : decode prog_10_method_66_code 107 = .ok (.ifCond .eq 7, 3) := by decide +kernel
theorem dMo_termOf_110 : decode prog_10_method_66_code 110 = .ok (.iconst 1, 1) := by decide +kernel
theorem dMo_termOf_111 : decode prog_10_method_66_code 111 = .ok (.goto 4, 3) := by decide +kernel
theorem dMo_termOf_114 : decode prog_10_method_66_code 114 = .ok (.iconst 0, 1) := by decide +kernel
theorem dMo_termOf_115 : decode prog_10_method_66_code 115 = .ok (.putfield 296, 3) := by decide +kernel
theorem dMo_termOf_118 : decode prog_10_method_66_code 118 = .ok (.lconst 1, 1) := by decide +kernel
theorem dMo_termOf_119 : decode prog_10_method_66_code 119 = .ok (.lstore 5, 2) := by decide +kernel
theorem dMo_termOf_121 : decode prog_10_method_66_code 121 = .ok (.aload_n 0, 1) := by decide +kernel
theorem dMo_termOf_122 : decode prog_10_method_66_code 122 = .ok (.iload 4, 2) := by decide +kernel
theorem dMo_termOf_124 : decode prog_10_method_66_code 124 = .ok (.bipush 42, 2) := by decide +kernel
theorem dMo_termOf_126 : decode prog_10_method_66_code 126 = .ok (.invokestatic 245, 3) := by decide +kernel
theorem dMo_termOf_129 : decode prog_10_method_66_code 129 = .ok (.if_icmp .ne 10, 3) := by decide +kernel
theorem dMo_termOf_132 : decode prog_10_method_66_code 132 = .ok (.lload_n 2, 1) := by decide +kernel
theorem dMo_termOf_133 : decode prog_10_method_66_code 133 = .ok (.lload 5, 2) := by decide +kernel
theorem dMo_termOf_135 : decode prog_10_method_66_code 135 = .ok (.lmul, 1) := by decide +kernel
theorem dMo_termOf_136 : decode prog_10_method_66_code 136 = .ok (.goto 24, 3) := by decide +kernel
theorem dMo_termOf_139 : decode prog_10_method_66_code 139 = .ok (.iload 4, 2) := by decide +kernel
theorem dMo_termOf_141 : decode prog_10_method_66_code 141 = .ok (.bipush 47, 2) := by decide +kernel
theorem dMo_termOf_143 : decode prog_10_method_66_code 143 = .ok (.invokestatic 245, 3) := by decide +kernel
theorem dMo_termOf_146 : decode prog_10_method_66_code 146 = .ok (.if_icmp .ne 10, 3) := by decide +kernel
theorem dMo_termOf_149 : decode prog_10_method_66_code 149 = .ok (.lload_n 2, 1) := by decide +kernel
theorem dMo_termOf_150 : decode prog_10_method_66_code 150 = .ok (.lload 5, 2) := by decide +kernel
theorem dMo_termOf_152 : decode prog_10_method_66_code 152 = .ok (.ldiv, 1) := by decide +kernel
theorem dMo_termOf_153 : decode prog_10_method_66_code 153 = .ok (.goto 7, 3) := by decide +kernel
theorem dMo_termOf_156 : decode prog_10_method_66_code 156 = .ok (.lload_n 2, 1) := by decide +kernel
theorem dMo_termOf_157 : decode prog_10_method_66_code 157 = .ok (.lload 5, 2) := by decide +kernel
theorem dMo_termOf_159 : decode prog_10_method_66_code 159 = .ok (.lrem, 1) := by decide +kernel
theorem dMo_termOf_160 : decode prog_10_method_66_code 160 = .ok (.iload_n 1, 1) := by decide +kernel
theorem dMo_termOf_161 : decode prog_10_method_66_code 161 = .ok (.invokevirtual 303, 3) := by decide +kernel
theorem dMo_termOf_164 : decode prog_10_method_66_code 164 = .ok (.lstore_n 2, 1) := by decide +kernel
theorem dMo_termOf_165 : decode prog_10_method_66_code 165 = .ok (.goto (-159), 3) := by decide +kernel
theorem dMo_termOf_168 : decode prog_10_method_66_code 168 = .ok (.lload_n 2, 1) := by decide +kernel
theorem dMo_termOf_169 : decode prog_10_method_66_code 169 = .ok (.lreturn, 1) := by decide +kernel
theorem dMo_readTwo_0 : decode prog_10_method_46_code 0 = .ok (.aload_n 0, 1) := by decide +kernel
theorem dMo_readTwo_1 : decode prog_10_method_46_code 1 = .ok (.iconst 0, 1) := by decide +kernel
theorem dMo_readTwo_2 : decode prog_10_method_46_code 2 = .ok (.invokevirtual 213, 3) := by decide +kernel
theorem dMo_readTwo_5 : decode prog_10_method_46_code 5 = .ok (.aload_n 0, 1) := by decide +kernel
theorem dMo_readTwo_6 : decode prog_10_method_46_code 6 = .ok (.iload_n 1, 1) := by decide +kernel
theorem dMo_readTwo_7 : decode prog_10_method_46_code 7 = .ok (.invokevirtual 217, 3) := by decide +kernel
theorem dMo_readTwo_10 : decode prog_10_method_46_code 10 = .ok (.aload_n 0, 1) := by decide +kernel
theorem dMo_readTwo_11 : decode prog_10_method_46_code 11 = .ok (.iconst 0, 1) := by decide +kernel
theorem dMo_readTwo_12 : decode prog_10_method_46_code 12 = .ok (.invokevirtual 213, 3) := by decide +kernel
theorem dMo_readTwo_15 : decode prog_10_method_46_code 15 = .ok (.return_, 1) := by decide +kernel
theorem dMo_readPlain_0 : decode prog_10_method_51_code 0 = .ok (.iconst 1, 1) := by decide +kernel
theorem dMo_readPlain_1 : decode prog_10_method_51_code 1 = .ok (.istore_n 2, 1) := by decide +kernel
theorem dMo_readPlain_2 : decode prog_10_method_51_code 2 = .ok (.iload_n 2, 1) := by decide +kernel
theorem dMo_readPlain_3 : decode prog_10_method_51_code 3 = .ok (.ifCond .eq 13, 3) := by decide +kernel
theorem dMo_readPlain_6 : decode prog_10_method_51_code 6 = .ok (.aload_n 0, 1) := by decide +kernel
theorem dMo_readPlain_7 : decode prog_10_method_51_code 7 = .ok (.bipush 7, 2) := by decide +kernel
theorem dMo_readPlain_9 : decode prog_10_method_51_code 9 = .ok (.invokevirtual 204, 3) := by decide +kernel
theorem dMo_readPlain_12 : decode prog_10_method_51_code 12 = .ok (.istore_n 2, 1) := by decide +kernel
theorem dMo_readPlain_13 : decode prog_10_method_51_code 13 = .ok (.goto (-11), 3) := by decide +kernel
theorem dMo_readPlain_16 : decode prog_10_method_51_code 16 = .ok (.aload_n 0, 1) := by decide +kernel
theorem dMo_readPlain_17 : decode prog_10_method_51_code 17 = .ok (.invokevirtual 197, 3) := by decide +kernel
theorem dMo_readPlain_20 : decode prog_10_method_51_code 20 = .ok (.ifCond .ne 4, 3) := by decide +kernel
theorem dMo_readPlain_23 : decode prog_10_method_51_code 23 = .ok (.return_, 1) := by decide +kernel
theorem dMo_readPlain_24 : decode prog_10_method_51_code 24 = .ok (.aload_n 0, 1) := by decide +kernel
theorem dMo_readPlain_25 : decode prog_10_method_51_code 25 = .ok (.getfield 54, 3) := by decide +kernel
theorem dMo_readPlain_28 : decode prog_10_method_51_code 28 = .ok (.aload_n 0, 1) := by decide +kernel
theorem dMo_readPlain_29 : decode prog_10_method_51_code 29 = .ok (.getfield 201, 3) := by decide +kernel
theorem dMo_readPlain_32 : decode prog_10_method_51_code 32 = .ok (.iaload, 1) := by decide +kernel
theorem dMo_readPlain_33 : decode prog_10_method_51_code 33 = .ok (.istore_n 3, 1) := by decide +kernel
theorem dMo_readPlain_34 : decode prog_10_method_51_code 34 = .ok (.iload_n 3, 1) := by decide +kernel
theorem dMo_readPlain_35 : decode prog_10_method_51_code 35 = .ok (.bipush 40, 2) := by decide +kernel
theorem dMo_readPlain_37 : decode prog_10_method_51_code 37 = .ok (.invokestatic 245, 3) := by decide +kernel
theorem dMo_readPlain_40 : decode prog_10_method_51_code 40 = .ok (.if_icmp .ne 50, 3) := by decide +kernel
theorem dMo_readPlain_43 : decode prog_10_method_51_code 43 = .ok (.iload_n 1, 1) := by decide +kernel
theorem dMo_readPlain_44 : decode prog_10_method_51_code 44 = .ok (.bipush 8, 2) := by decide +kernel
theorem dMo_readPlain_46 : decode prog_10_method_51_code 46 = .ok (.if_icmp .ne 7, 3) := by decide +kernel
theorem dMo_readPlain_49 : decode prog_10_method_51_code 49 = .ok (.aload_n 0, 1) := by decide +kernel
theorem dMo_readPlain_50 : decode prog_10_method_51_code 50 = .ok (.invokevirtual 207, 3) := by decide +kernel
theorem dMo_readPlain_53 : decode prog_10_method_51_code 53 = .ok (.aload_n 0, 1) := by decide +kernel
theorem dMo_readPlain_54 : decode prog_10_method_51_code 54 = .ok (.invokevirtual 197, 3) := by decide +kernel
theorem dMo_readPlain_57 : decode prog_10_method_51_code 57 = .ok (.ifCond .ne 4, 3) := by decide +kernel
theorem dMo_readPlain_60 : decode prog_10_method_51_code 60 = .ok (.return_, 1) := by decide +kernel
theorem dMo_readPlain_61 : decode prog_10_method_51_code 61 = .ok (.aload_n 0, 1) := by decide +kernel
theorem dMo_readPlain_62 : decode prog_10_method_51_code 62 = .ok (.dup, 1) := by decide +kernel
theorem dMo_readPlain_63 : decode prog_10_method_51_code 63 = .ok (.getfield 201, 3) := by decide +kernel
theorem dMo_readPlain_66 : decode prog_10_method_51_code 66 = .ok (.iconst 1, 1) := by decide +kernel
theorem dMo_readPlain_67 : decode prog_10_method_51_code 67 = .ok (.iadd, 1) := by decide +kernel
theorem dMo_readPlain_68 : decode prog_10_method_51_code 68 = .ok (.putfield 201, 3) := by decide +kernel
theorem dMo_readPlain_71 : decode prog_10_method_51_code 71 = .ok (.aload_n 0, 1) := by decide +kernel
theorem dMo_readPlain_72 : decode prog_10_method_51_code 72 = .ok (.iload_n 1, 1) := by decide +kernel
theorem dMo_readPlain_73 : decode prog_10_method_51_code 73 = .ok (.iconst 1, 1) := by decide +kernel
theorem dMo_readPlain_74 : decode prog_10_method_51_code 74 = .ok (.iadd, 1) := by decide +kernel
theorem dMo_readPlain_75 : decode prog_10_method_51_code 75 = .ok (.invokevirtual 220, 3) := by decide +kernel
theorem dMo_readPlain_78 : decode prog_10_method_51_code 78 = .ok (.aload_n 0, 1) := by decide +kernel
theorem dMo_readPlain_79 : decode prog_10_method_51_code 79 = .ok (.bipush 41, 2) := by decide +kernel
theorem dMo_readPlain_81 : decode prog_10_method_51_code 81 = .ok (.invokestatic 245, 3) := by decide +kernel
theorem dMo_readPlain_84 : decode prog_10_method_51_code 84 = .ok (.invokevirtual 217, 3) := by decide +kernel
theorem dMo_readPlain_87 : decode prog_10_method_51_code 87 = .ok (.goto 46, 3) := by decide +kernel
theorem dMo_readPlain_90 : decode prog_10_method_51_code 90 = .ok (.aload_n 0, 1) := by decide +kernel
theorem dMo_readPlain_91 : decode prog_10_method_51_code 91 = .ok (.iload_n 1, 1) := by decide +kernel
theorem dMo_readPlain_92 : decode prog_10_method_51_code 92 = .ok (.invokevirtual 213, 3) := by decide +kernel
theorem dMo_readPlain_95 : decode prog_10_method_51_code 95 = .ok (.aload_n 0, 1) := by decide +kernel
theorem dMo_readPlain_96 : decode prog_10_method_51_code 96 = .ok (.bipush 60, 2) := by decide +kernel
theorem dMo_readPlain_98 : decode prog_10_method_51_code 98 = .ok (.invokestatic 245, 3) := by decide +kernel
theorem dMo_readPlain_101 : decode prog_10_method_51_code 101 = .ok (.invokevirtual 204, 3) := by decide +kernel
theorem dMo_readPlain_104 : decode prog_10_method_51_code 104 = .ok (.ifCond .ne 24, 3) := by decide +kernel
theorem dMo_readPlain_107 : decode prog_10_method_51_code 107 = .ok (.aload_n 0, 1) := by decide +kernel
theorem dMo_readPlain_108 : decode prog_10_method_51_code 108 = .ok (.bipush 62, 2) := by decide +kernel
theorem dMo_readPlain_110 : decode prog_10_method_51_code 110 = .ok (.invokestatic 245, 3) := by decide +kernel
theorem dMo_readPlain_113 : decode prog_10_method_51_code 113 = .ok (.invokevirtual 204, 3) := by decide +kernel
theorem dMo_readPlain_116 : decode prog_10_method_51_code 116 = .ok (.ifCond .ne 12, 3) := by decide +kernel
theorem dMo_readPlain_119 : decode prog_10_method_51_code 119 = .ok (.aload_n 0, 1) := by decide +kernel
theorem dMo_readPlain_120 : decode prog_10_method_51_code 120 = .ok (.bipush 61, 2) := by decide +kernel
theorem dMo_readPlain_122 : decode prog_10_method_51_code 122 = .ok (.invokestatic 245, 3) := by decide +kernel
theorem dMo_readPlain_125 : decode prog_10_method_51_code 125 = .ok (.invokevirtual 217, 3) := by decide +kernel
theorem dMo_readPlain_128 : decode prog_10_method_51_code 128 = .ok (.aload_n 0, 1) := by decide +kernel
theorem dMo_readPlain_129 : decode prog_10_method_51_code 129 = .ok (.iload_n 1, 1) := by decide +kernel
theorem dMo_readPlain_130 : decode prog_10_method_51_code 130 = .ok (.invokevirtual 213, 3) := by decide +kernel
theorem dMo_readPlain_133 : decode prog_10_method_51_code 133 = .ok (.return_, 1) := by decide +kernel
theorem dMo_sumOf_0 : decode prog_10_method_65_code 0 = .ok (.aload_n 0, 1) := by decide +kernel
theorem dMo_sumOf_1 : decode prog_10_method_65_code 1 = .ok (.iload_n 1, 1) := by decide +kernel
theorem dMo_sumOf_2 : decode prog_10_method_65_code 2 = .ok (.invokevirtual 299, 3) := by decide +kernel
theorem dMo_sumOf_5 : decode prog_10_method_65_code 5 = .ok (.lstore_n 2, 1) := by decide +kernel
theorem dMo_sumOf_6 : decode prog_10_method_65_code 6 = .ok (.aload_n 0, 1) := by decide +kernel
theorem dMo_sumOf_7 : decode prog_10_method_65_code 7 = .ok (.aload_n 0, 1) := by decide +kernel
theorem dMo_sumOf_8 : decode prog_10_method_65_code 8 = .ok (.getfield 286, 3) := by decide +kernel
theorem dMo_sumOf_11 : decode prog_10_method_65_code 11 = .ok (.invokevirtual 289, 3) := by decide +kernel
theorem dMo_sumOf_14 : decode prog_10_method_65_code 14 = .ok (.bipush 43, 2) := by decide +kernel
theorem dMo_sumOf_16 : decode prog_10_method_65_code 16 = .ok (.invokestatic 245, 3) := by decide +kernel
theorem dMo_sumOf_19 : decode prog_10_method_65_code 19 = .ok (.if_icmp .eq 19, 3) := by decide +kernel
theorem dMo_sumOf_22 : decode prog_10_method_65_code 22 = .ok (.aload_n 0, 1) := by decide +kernel
theorem dMo_sumOf_23 : decode prog_10_method_65_code 23 = .ok (.aload_n 0, 1) := by decide +kernel
theorem dMo_sumOf_24 : decode prog_10_method_65_code 24 = .ok (.getfield 286, 3) := by decide +kernel
theorem dMo_sumOf_27 : decode prog_10_method_65_code 27 = .ok (.invokevirtual 289, 3) := by decide +kernel
theorem dMo_sumOf_30 : decode prog_10_method_65_code 30 = .ok (.bipush 45, 2) := by decide +kernel
theorem dMo_sumOf_32 : decode prog_10_method_65_code 32 = .ok (.invokestatic 245, 3) := by decide +kernel
theorem dMo_sumOf_35 : decode prog_10_method_65_code 35 = .ok (.if_icmp .ne 68, 3) := by decide +kernel
theorem dMo_sumOf_38 : decode prog_10_method_65_code 38 = .ok (.aload_n 0, 1) := by decide +kernel
theorem dMo_sumOf_39 : decode prog_10_method_65_code 39 = .ok (.aload_n 0, 1) := by decide +kernel
theorem dMo_sumOf_40 : decode prog_10_method_65_code 40 = .ok (.getfield 286, 3) := by decide +kernel
theorem dMo_sumOf_43 : decode prog_10_method_65_code 43 = .ok (.invokevirtual 289, 3) := by decide +kernel
theorem dMo_sumOf_46 : decode prog_10_method_65_code 46 = .ok (.bipush 43, 2) := by decide +kernel
theorem dMo_sumOf_48 : decode prog_10_method_65_code 48 = .ok (.invokestatic 245, 3) := by decide +kernel
theorem dMo_sumOf_51 : decode prog_10_method_65_code 51 = .ok (.if_icmp .ne 7, 3) := by decide +kernel
theorem dMo_sumOf_54 : decode prog_10_method_65_code 54 = .ok (.iconst 1, 1) := by decide +kernel
theorem dMo_sumOf_55 : decode prog_10_method_65_code 55 = .ok (.goto 4, 3) := by decide +kernel
theorem dMo_sumOf_58 : decode prog_10_method_65_code 58 = .ok (.iconst 0, 1) := by decide +kernel
theorem dMo_sumOf_59 : decode prog_10_method_65_code 59 = .ok (.istore 4, 2) := by decide +kernel
theorem dMo_sumOf_61 : decode prog_10_method_65_code 61 = .ok (.aload_n 0, 1) := by decide +kernel
theorem dMo_sumOf_62 : decode prog_10_method_65_code 62 = .ok (.dup, 1) := by decide +kernel
theorem dMo_sumOf_63 : decode prog_10_method_65_code 63 = .ok (.getfield 286, 3) := by decide +kernel
theorem dMo_sumOf_66 : decode prog_10_method_65_code 66 = .ok (.iconst 1, 1) := by decide +kernel
theorem dMo_sumOf_67 : decode prog_10_method_65_code 67 = .ok (.iadd, 1) := by decide +kernel
theorem dMo_sumOf_68 : decode prog_10_method_65_code 68 = .ok (.putfield 286, 3) := by decide +kernel
theorem dMo_sumOf_71 : decode prog_10_method_65_code 71 = .ok (.aload_n 0, 1) := by decide +kernel
theorem dMo_sumOf_72 : decode prog_10_method_65_code 72 = .ok (.iload_n 1, 1) := by decide +kernel
theorem dMo_sumOf_73 : decode prog_10_method_65_code 73 = .ok (.invokevirtual 299, 3) := by decide +kernel
theorem dMo_sumOf_76 : decode prog_10_method_65_code 76 = .ok (.lstore 5, 2) := by decide +kernel
theorem dMo_sumOf_78 : decode prog_10_method_65_code 78 = .ok (.aload_n 0, 1) := by decide +kernel
theorem dMo_sumOf_79 : decode prog_10_method_65_code 79 = .ok (.iload 4, 2) := by decide +kernel
theorem dMo_sumOf_81 : decode prog_10_method_65_code 81 = .ok (.ifCond .eq 10, 3) := by decide +kernel
theorem dMo_sumOf_84 : decode prog_10_method_65_code 84 = .ok (.lload_n 2, 1) := by decide +kernel
theorem dMo_sumOf_85 : decode prog_10_method_65_code 85 = .ok (.lload 5, 2) := by decide +kernel
theorem dMo_sumOf_87 : decode prog_10_method_65_code 87 = .ok (.ladd, 1) := by decide +kernel
theorem dMo_sumOf_88 : decode prog_10_method_65_code 88 = .ok (.goto 7, 3) := by decide +kernel
theorem dMo_sumOf_91 : decode prog_10_method_65_code 91 = .ok (.lload_n 2, 1) := by decide +kernel
theorem dMo_sumOf_92 : decode prog_10_method_65_code 92 = .ok (.lload 5, 2) := by decide +kernel
theorem dMo_sumOf_94 : decode prog_10_method_65_code 94 = .ok (.lsub, 1) := by decide +kernel
theorem dMo_sumOf_95 : decode prog_10_method_65_code 95 = .ok (.iload_n 1, 1) := by decide +kernel
theorem dMo_sumOf_96 : decode prog_10_method_65_code 96 = .ok (.invokevirtual 303, 3) := by decide +kernel
theorem dMo_sumOf_99 : decode prog_10_method_65_code 99 = .ok (.lstore_n 2, 1) := by decide +kernel
theorem dMo_sumOf_100 : decode prog_10_method_65_code 100 = .ok (.goto (-94), 3) := by decide +kernel
theorem dMo_sumOf_103 : decode prog_10_method_65_code 103 = .ok (.lload_n 2, 1) := by decide +kernel
theorem dMo_sumOf_104 : decode prog_10_method_65_code 104 = .ok (.lreturn, 1) := by decide +kernel
theorem dMo_positiveOf_0 : decode prog_10_method_73_code 0 = .ok (.aload_n 0, 1) := by decide +kernel
theorem dMo_positiveOf_1 : decode prog_10_method_73_code 1 = .ok (.bipush 40, 2) := by decide +kernel
theorem dMo_positiveOf_3 : decode prog_10_method_73_code 3 = .ok (.invokestatic 245, 3) := by decide +kernel
theorem dMo_positiveOf_6 : decode prog_10_method_73_code 6 = .ok (.invokevirtual 310, 3) := by decide +kernel
theorem dMo_positiveOf_9 : decode prog_10_method_73_code 9 = .ok (.ifCond .eq 21, 3) := by decide +kernel
theorem dMo_positiveOf_12 : decode prog_10_method_73_code 12 = .ok (.aload_n 0, 1) := by decide +kernel
theorem dMo_positiveOf_13 : decode prog_10_method_73_code 13 = .ok (.iload_n 1, 1) := by decide +kernel
theorem dMo_positiveOf_14 : decode prog_10_method_73_code 14 = .ok (.invokevirtual 343, 3) := by decide +kernel
theorem dMo_positiveOf_17 : decode prog_10_method_73_code 17 = .ok (.istore_n 2, 1) := by decide +kernel
theorem dMo_positiveOf_18 : decode prog_10_method_73_code 18 = .ok (.aload_n 0, 1) := by decide +kernel
theorem dMo_positiveOf_19 : decode prog_10_method_73_code 19 = .ok (.dup, 1) := by decide +kernel
theorem dMo_positiveOf_20 : decode prog_10_method_73_code 20 = .ok (.getfield 286, 3) := by decide +kernel
theorem dMo_positiveOf_23 : decode prog_10_method_73_code 23 = .ok (.iconst 1, 1) := by decide +kernel
theorem dMo_positiveOf_24 : decode prog_10_method_73_code 24 = .ok (.iadd, 1) := by decide +kernel
theorem dMo_positiveOf_25 : decode prog_10_method_73_code 25 = .ok (.putfield 286, 3) := by decide +kernel
theorem dMo_positiveOf_28 : decode prog_10_method_73_code 28 = .ok (.iload_n 2, 1) := by decide +kernel
theorem dMo_positiveOf_29 : decode prog_10_method_73_code 29 = .ok (.ireturn, 1) := by decide +kernel
theorem dMo_positiveOf_30 : decode prog_10_method_73_code 30 = .ok (.aload_n 0, 1) := by decide +kernel
theorem dMo_positiveOf_31 : decode prog_10_method_73_code 31 = .ok (.iload_n 1, 1) := by decide +kernel
theorem dMo_positiveOf_32 : decode prog_10_method_73_code 32 = .ok (.invokevirtual 313, 3) := by decide +kernel
theorem dMo_positiveOf_35 : decode prog_10_method_73_code 35 = .ok (.lstore_n 2, 1) := by decide +kernel
theorem dMo_positiveOf_36 : decode prog_10_method_73_code 36 = .ok (.aload_n 0, 1) := by decide +kernel
theorem dMo_positiveOf_37 : decode prog_10_method_73_code 37 = .ok (.aload_n 0, 1) := by decide +kernel
theorem dMo_positiveOf_38 : decode prog_10_method_73_code 38 = .ok (.getfield 286, 3) := by decide +kernel
theorem dMo_positiveOf_41 : decode prog_10_method_73_code 41 = .ok (.invokevirtual 289, 3) := by decide +kernel
theorem dMo_positiveOf_44 : decode prog_10_method_73_code 44 = .ok (.istore 4, 2) := by decide +kernel
theorem dMo_positiveOf_46 : decode prog_10_method_73_code 46 = .ok (.aload_n 0, 1) := by decide +kernel
theorem dMo_positiveOf_47 : decode prog_10_method_73_code 47 = .ok (.dup, 1) := by decide +kernel
theorem dMo_positiveOf_48 : decode prog_10_method_73_code 48 = .ok (.getfield 286, 3) := by decide +kernel
theorem dMo_positiveOf_51 : decode prog_10_method_73_code 51 = .ok (.iconst 1, 1) := by decide +kernel
theorem dMo_positiveOf_52 : decode prog_10_method_73_code 52 = .ok (.iadd, 1) := by decide +kernel
theorem dMo_positiveOf_53 : decode prog_10_method_73_code 53 = .ok (.putfield 286, 3) := by decide +kernel
theorem dMo_positiveOf_56 : decode prog_10_method_73_code 56 = .ok (.aload_n 0, 1) := by decide +kernel
theorem dMo_positiveOf_57 : decode prog_10_method_73_code 57 = .ok (.iload_n 1, 1) := by decide +kernel
theorem dMo_positiveOf_58 : decode prog_10_method_73_code 58 = .ok (.invokevirtual 313, 3) := by decide +kernel
theorem dMo_positiveOf_61 : decode prog_10_method_73_code 61 = .ok (.lstore 5, 2) := by decide +kernel
theorem dMo_positiveOf_63 : decode prog_10_method_73_code 63 = .ok (.iload_n 1, 1) := by decide +kernel
theorem dMo_positiveOf_64 : decode prog_10_method_73_code 64 = .ok (.ifCond .eq 61, 3) := by decide +kernel
theorem dMo_positiveOf_67 : decode prog_10_method_73_code 67 = .ok (.aload_n 0, 1) := by decide +kernel
theorem dMo_positiveOf_68 : decode prog_10_method_73_code 68 = .ok (.getfield 296, 3) := by decide +kernel
theorem dMo_positiveOf_71 : decode prog_10_method_73_code 71 = .ok (.ifCond .ne 54, 3) := by decide +kernel
theorem dMo_positiveOf_74 : decode prog_10_method_73_code 74 = .ok (.iload 4, 2) := by decide +kernel
theorem dMo_positiveOf_76 : decode prog_10_method_73_code 76 = .ok (.bipush 60, 2) := by decide +kernel
theorem dMo_positiveOf_78 : decode prog_10_method_73_code 78 = .ok (.invokestatic 245, 3) := by decide +kernel
theorem dMo_positiveOf_81 : decode prog_10_method_73_code 81 = .ok (.if_icmp .ne 13, 3) := by decide +kernel
theorem dMo_positiveOf_84 : decode prog_10_method_73_code 84 = .ok (.lload_n 2, 1) := by decide +kernel
theorem dMo_positiveOf_85 : decode prog_10_method_73_code 85 = .ok (.lload 5, 2) := by decide +kernel
theorem dMo_positiveOf_87 : decode prog_10_method_73_code 87 = .ok (.lcmp, 1) := by decide +kernel
theorem dMo_positiveOf_88 : decode prog_10_method_73_code 88 = .ok (.ifCond .ge 37, 3) := by decide +kernel
theorem dMo_positiveOf_91 : decode prog_10_method_73_code 91 = .ok (.goto 30, 3) := by decide +kernel
theorem dMo_positiveOf_94 : decode prog_10_method_73_code 94 = .ok (.iload 4, 2) := by decide +kernel
theorem dMo_positiveOf_96 : decode prog_10_method_73_code 96 = .ok (.bipush 62, 2) := by decide +kernel
theorem dMo_positiveOf_98 : decode prog_10_method_73_code 98 = .ok (.invokestatic 245, 3) := by decide +kernel
theorem dMo_positiveOf_101 : decode prog_10_method_73_code 101 = .ok (.if_icmp .ne 13, 3) := by decide +kernel
theorem dMo_positiveOf_104 : decode prog_10_method_73_code 104 = .ok (.lload_n 2, 1) := by decide +kernel
theorem dMo_positiveOf_105 : decode prog_10_method_73_code 105 = .ok (.lload 5, 2) := by decide +kernel
theorem dMo_positiveOf_107 : decode prog_10_method_73_code 107 = .ok (.lcmp, 1) := by decide +kernel
theorem dMo_positiveOf_108 : decode prog_10_method_73_code 108 = .ok (.ifCond .le 17, 3) := by decide +kernel
theorem dMo_positiveOf_111 : decode prog_10_method_73_code 111 = .ok (.goto 10, 3) := by decide +kernel
theorem dMo_positiveOf_114 : decode prog_10_method_73_code 114 = .ok (.lload_n 2, 1) := by decide +kernel
theorem dMo_positiveOf_115 : decode prog_10_method_73_code 115 = .ok (.lload 5, 2) := by decide +kernel
theorem dMo_positiveOf_117 : decode prog_10_method_73_code 117 = .ok (.lcmp, 1) := by decide +kernel
theorem dMo_positiveOf_118 : decode prog_10_method_73_code 118 = .ok (.ifCond .ne 7, 3) := by decide +kernel
theorem dMo_positiveOf_121 : decode prog_10_method_73_code 121 = .ok (.iconst 1, 1) := by decide +kernel
theorem dMo_positiveOf_122 : decode prog_10_method_73_code 122 = .ok (.goto 4, 3) := by decide +kernel
theorem dMo_positiveOf_125 : decode prog_10_method_73_code 125 = .ok (.iconst 0, 1) := by decide +kernel
theorem dMo_positiveOf_126 : decode prog_10_method_73_code 126 = .ok (.ireturn, 1) := by decide +kernel
theorem dMo_readBoth_0 : decode prog_10_method_50_code 0 = .ok (.aload_n 0, 1) := by decide +kernel
theorem dMo_readBoth_1 : decode prog_10_method_50_code 1 = .ok (.iload_n 1, 1) := by decide +kernel
theorem dMo_readBoth_2 : decode prog_10_method_50_code 2 = .ok (.invokevirtual 242, 3) := by decide +kernel
theorem dMo_readBoth_5 : decode prog_10_method_50_code 5 = .ok (.aload_n 0, 1) := by decide +kernel
theorem dMo_readBoth_6 : decode prog_10_method_50_code 6 = .ok (.bipush 6, 2) := by decide +kernel
theorem dMo_readBoth_8 : decode prog_10_method_50_code 8 = .ok (.invokevirtual 204, 3) := by decide +kernel
theorem dMo_readBoth_11 : decode prog_10_method_50_code 11 = .ok (.ifCond .eq 11, 3) := by decide +kernel
theorem dMo_readBoth_14 : decode prog_10_method_50_code 14 = .ok (.aload_n 0, 1) := by decide +kernel
theorem dMo_readBoth_15 : decode prog_10_method_50_code 15 = .ok (.iload_n 1, 1) := by decide +kernel
theorem dMo_readBoth_16 : decode prog_10_method_50_code 16 = .ok (.invokevirtual 242, 3) := by decide +kernel
theorem dMo_readBoth_19 : decode prog_10_method_50_code 19 = .ok (.goto (-14), 3) := by decide +kernel
theorem dMo_readBoth_22 : decode prog_10_method_50_code 22 = .ok (.return_, 1) := by decide +kernel
theorem dMo_plainOf_0 : decode prog_10_method_72_code 0 = .ok (.iconst 0, 1) := by decide +kernel
theorem dMo_plainOf_1 : decode prog_10_method_72_code 1 = .ok (.istore_n 2, 1) := by decide +kernel
theorem dMo_plainOf_2 : decode prog_10_method_72_code 2 = .ok (.aload_n 0, 1) := by decide +kernel
theorem dMo_plainOf_3 : decode prog_10_method_72_code 3 = .ok (.bipush 7, 2) := by decide +kernel
theorem dMo_plainOf_5 : decode prog_10_method_72_code 5 = .ok (.invokevirtual 310, 3) := by decide +kernel
theorem dMo_plainOf_8 : decode prog_10_method_72_code 8 = .ok (.ifCond .eq 16, 3) := by decide +kernel
theorem dMo_plainOf_11 : decode prog_10_method_72_code 11 = .ok (.iload_n 2, 1) := by decide +kernel
theorem dMo_plainOf_12 : decode prog_10_method_72_code 12 = .ok (.ifCond .ne 7, 3) := by decide +kernel
theorem dMo_plainOf_15 : decode prog_10_method_72_code 15 = .ok (.iconst 1, 1) := by decide +kernel
theorem dMo_plainOf_16 : decode prog_10_method_72_code 16 = .ok (.goto 4, 3) := by decide +kernel
theorem dMo_plainOf_19 : decode prog_10_method_72_code 19 = .ok (.iconst 0, 1) := by decide +kernel
theorem dMo_plainOf_20 : decode prog_10_method_72_code 20 = .ok (.istore_n 2, 1) := by decide +kernel
theorem dMo_plainOf_21 : decode prog_10_method_72_code 21 = .ok (.goto (-19), 3) := by decide +kernel
theorem dMo_plainOf_24 : decode prog_10_method_72_code 24 = .ok (.aload_n 0, 1) := by decide +kernel
theorem dMo_plainOf_25 : decode prog_10_method_72_code 25 = .ok (.iload_n 1, 1) := by decide +kernel
theorem dMo_plainOf_26 : decode prog_10_method_72_code 26 = .ok (.invokevirtual 340, 3) := by decide +kernel
theorem dMo_plainOf_29 : decode prog_10_method_72_code 29 = .ok (.iload_n 2, 1) := by decide +kernel
theorem dMo_plainOf_30 : decode prog_10_method_72_code 30 = .ok (.if_icmp .eq 7, 3) := by decide +kernel
theorem dMo_plainOf_33 : decode prog_10_method_72_code 33 = .ok (.iconst 1, 1) := by decide +kernel
theorem dMo_plainOf_34 : decode prog_10_method_72_code 34 = .ok (.goto 4, 3) := by decide +kernel
theorem dMo_plainOf_37 : decode prog_10_method_72_code 37 = .ok (.iconst 0, 1) := by decide +kernel
theorem dMo_plainOf_38 : decode prog_10_method_72_code 38 = .ok (.ireturn, 1) := by decide +kernel
theorem dMo_readTest_0 : decode prog_10_method_49_code 0 = .ok (.aload_n 0, 1) := by decide +kernel
theorem dMo_readTest_1 : decode prog_10_method_49_code 1 = .ok (.iload_n 1, 1) := by decide +kernel
theorem dMo_readTest_2 : decode prog_10_method_49_code 2 = .ok (.invokevirtual 239, 3) := by decide +kernel
theorem dMo_readTest_5 : decode prog_10_method_49_code 5 = .ok (.aload_n 0, 1) := by decide +kernel
theorem dMo_readTest_6 : decode prog_10_method_49_code 6 = .ok (.iconst 5, 1) := by decide +kernel
theorem dMo_readTest_7 : decode prog_10_method_49_code 7 = .ok (.invokevirtual 204, 3) := by decide +kernel
theorem dMo_readTest_10 : decode prog_10_method_49_code 10 = .ok (.ifCond .eq 11, 3) := by decide +kernel
theorem dMo_readTest_13 : decode prog_10_method_49_code 13 = .ok (.aload_n 0, 1) := by decide +kernel
theorem dMo_readTest_14 : decode prog_10_method_49_code 14 = .ok (.iload_n 1, 1) := by decide +kernel
theorem dMo_readTest_15 : decode prog_10_method_49_code 15 = .ok (.invokevirtual 239, 3) := by decide +kernel
theorem dMo_readTest_18 : decode prog_10_method_49_code 18 = .ok (.goto (-13), 3) := by decide +kernel
theorem dMo_readTest_21 : decode prog_10_method_49_code 21 = .ok (.return_, 1) := by decide +kernel
theorem dMo_bothOf_0 : decode prog_10_method_71_code 0 = .ok (.aload_n 0, 1) := by decide +kernel
theorem dMo_bothOf_1 : decode prog_10_method_71_code 1 = .ok (.iload_n 1, 1) := by decide +kernel
theorem dMo_bothOf_2 : decode prog_10_method_71_code 2 = .ok (.invokevirtual 337, 3) := by decide +kernel
theorem dMo_bothOf_5 : decode prog_10_method_71_code 5 = .ok (.istore_n 2, 1) := by decide +kernel
theorem dMo_bothOf_6 : decode prog_10_method_71_code 6 = .ok (.aload_n 0, 1) := by decide +kernel
theorem dMo_bothOf_7 : decode prog_10_method_71_code 7 = .ok (.bipush 6, 2) := by decide +kernel
theorem dMo_bothOf_9 : decode prog_10_method_71_code 9 = .ok (.invokevirtual 310, 3) := by decide +kernel
theorem dMo_bothOf_12 : decode prog_10_method_71_code 12 = .ok (.ifCond .eq 38, 3) := by decide +kernel
theorem dMo_bothOf_15 : decode prog_10_method_71_code 15 = .ok (.aload_n 0, 1) := by decide +kernel
theorem dMo_bothOf_16 : decode prog_10_method_71_code 16 = .ok (.iload_n 1, 1) := by decide +kernel
theorem dMo_bothOf_17 : decode prog_10_method_71_code 17 = .ok (.ifCond .eq 11, 3) := by decide +kernel
theorem dMo_bothOf_20 : decode prog_10_method_71_code 20 = .ok (.iload_n 2, 1) := by decide +kernel
theorem dMo_bothOf_21 : decode prog_10_method_71_code 21 = .ok (.ifCond .eq 7, 3) := by decide +kernel
theorem dMo_bothOf_24 : decode prog_10_method_71_code 24 = .ok (.iconst 1, 1) := by decide +kernel
theorem dMo_bothOf_25 : decode prog_10_method_71_code 25 = .ok (.goto 4, 3) := by decide +kernel
theorem dMo_bothOf_28 : decode prog_10_method_71_code 28 = .ok (.iconst 0, 1) := by decide +kernel
theorem dMo_bothOf_29 : decode prog_10_method_71_code 29 = .ok (.invokevirtual 337, 3) := by decide +kernel
theorem dMo_bothOf_32 : decode prog_10_method_71_code 32 = .ok (.istore_n 3, 1) := by decide +kernel
theorem dMo_bothOf_33 : decode prog_10_method_71_code 33 = .ok (.iload_n 2, 1) := by decide +kernel
theorem dMo_bothOf_34 : decode prog_10_method_71_code 34 = .ok (.ifCond .eq 11, 3) := by decide +kernel
theorem dMo_bothOf_37 : decode prog_10_method_71_code 37 = .ok (.iload_n 3, 1) := by decide +kernel
theorem dMo_bothOf_38 : decode prog_10_method_71_code 38 = .ok (.ifCond .eq 7, 3) := by decide +kernel
theorem dMo_bothOf_41 : decode prog_10_method_71_code 41 = .ok (.iconst 1, 1) := by decide +kernel
theorem dMo_bothOf_42 : decode prog_10_method_71_code 42 = .ok (.goto 4, 3) := by decide +kernel
theorem dMo_bothOf_45 : decode prog_10_method_71_code 45 = .ok (.iconst 0, 1) := by decide +kernel
theorem dMo_bothOf_46 : decode prog_10_method_71_code 46 = .ok (.istore_n 2, 1) := by decide +kernel
theorem dMo_bothOf_47 : decode prog_10_method_71_code 47 = .ok (.goto (-41), 3) := by decide +kernel
theorem dMo_bothOf_50 : decode prog_10_method_71_code 50 = .ok (.iload_n 2, 1) := by decide +kernel
theorem dMo_bothOf_51 : decode prog_10_method_71_code 51 = .ok (.ireturn, 1) := by decide +kernel
theorem dMo_readClause_0 : decode prog_10_method_45_code 0 = .ok (.aload_n 0, 1) := by decide +kernel
theorem dMo_readClause_1 : decode prog_10_method_45_code 1 = .ok (.iconst 1, 1) := by decide +kernel
theorem dMo_readClause_2 : decode prog_10_method_45_code 2 = .ok (.invokevirtual 204, 3) := by decide +kernel
theorem dMo_readClause_5 : decode prog_10_method_45_code 5 = .ok (.ifCond .ne 11, 3) := by decide +kernel
theorem dMo_readClause_8 : decode prog_10_method_45_code 8 = .ok (.aload_n 0, 1) := by decide +kernel
theorem dMo_readClause_9 : decode prog_10_method_45_code 9 = .ok (.iconst 2, 1) := by decide +kernel
theorem dMo_readClause_10 : decode prog_10_method_45_code 10 = .ok (.invokevirtual 204, 3) := by decide +kernel
theorem dMo_readClause_13 : decode prog_10_method_45_code 13 = .ok (.ifCond .eq 11, 3) := by decide +kernel
theorem dMo_readClause_16 : decode prog_10_method_45_code 16 = .ok (.aload_n 0, 1) := by decide +kernel
theorem dMo_readClause_17 : decode prog_10_method_45_code 17 = .ok (.iconst 0, 1) := by decide +kernel
theorem dMo_readClause_18 : decode prog_10_method_45_code 18 = .ok (.invokevirtual 213, 3) := by decide +kernel
theorem dMo_readClause_21 : decode prog_10_method_45_code 21 = .ok (.goto 8, 3) := by decide +kernel
theorem dMo_readClause_24 : decode prog_10_method_45_code 24 = .ok (.aload_n 0, 1) := by decide +kernel
theorem dMo_readClause_25 : decode prog_10_method_45_code 25 = .ok (.iconst 3, 1) := by decide +kernel
theorem dMo_readClause_26 : decode prog_10_method_45_code 26 = .ok (.invokevirtual 217, 3) := by decide +kernel
theorem dMo_readClause_29 : decode prog_10_method_45_code 29 = .ok (.aload_n 0, 1) := by decide +kernel
theorem dMo_readClause_30 : decode prog_10_method_45_code 30 = .ok (.iconst 4, 1) := by decide +kernel
theorem dMo_readClause_31 : decode prog_10_method_45_code 31 = .ok (.invokevirtual 204, 3) := by decide +kernel
theorem dMo_readClause_34 : decode prog_10_method_45_code 34 = .ok (.ifCond .eq 8, 3) := by decide +kernel
theorem dMo_readClause_37 : decode prog_10_method_45_code 37 = .ok (.aload_n 0, 1) := by decide +kernel
theorem dMo_readClause_38 : decode prog_10_method_45_code 38 = .ok (.iconst 0, 1) := by decide +kernel
theorem dMo_readClause_39 : decode prog_10_method_45_code 39 = .ok (.invokevirtual 220, 3) := by decide +kernel
theorem dMo_readClause_42 : decode prog_10_method_45_code 42 = .ok (.return_, 1) := by decide +kernel
theorem dMo_readOrder_0 : decode prog_10_method_47_code 0 = .ok (.aload_n 0, 1) := by decide +kernel
theorem dMo_readOrder_1 : decode prog_10_method_47_code 1 = .ok (.bipush 21, 2) := by decide +kernel
theorem dMo_readOrder_3 : decode prog_10_method_47_code 3 = .ok (.invokevirtual 204, 3) := by decide +kernel
theorem dMo_readOrder_6 : decode prog_10_method_47_code 6 = .ok (.ifCond .eq 12, 3) := by decide +kernel
theorem dMo_readOrder_9 : decode prog_10_method_47_code 9 = .ok (.aload_n 0, 1) := by decide +kernel
theorem dMo_readOrder_10 : decode prog_10_method_47_code 10 = .ok (.bipush 20, 2) := by decide +kernel
theorem dMo_readOrder_12 : decode prog_10_method_47_code 12 = .ok (.invokevirtual 223, 3) := by decide +kernel
theorem dMo_readOrder_15 : decode prog_10_method_47_code 15 = .ok (.goto 44, 3) := by decide +kernel
theorem dMo_readOrder_18 : decode prog_10_method_47_code 18 = .ok (.aload_n 0, 1) := by decide +kernel
theorem dMo_readOrder_19 : decode prog_10_method_47_code 19 = .ok (.bipush 23, 2) := by decide +kernel
theorem dMo_readOrder_21 : decode prog_10_method_47_code 21 = .ok (.invokevirtual 204, 3) := by decide +kernel
theorem dMo_readOrder_24 : decode prog_10_method_47_code 24 = .ok (.ifCond .eq 12, 3) := by decide +kernel
theorem dMo_readOrder_27 : decode prog_10_method_47_code 27 = .ok (.aload_n 0, 1) := by decide +kernel
theorem dMo_readOrder_28 : decode prog_10_method_47_code 28 = .ok (.bipush 24, 2) := by decide +kernel
theorem dMo_readOrder_30 : decode prog_10_method_47_code 30 = .ok (.invokevirtual 223, 3) := by decide +kernel
theorem dMo_readOrder_33 : decode prog_10_method_47_code 33 = .ok (.goto 26, 3) := by decide +kernel
theorem dMo_readOrder_36 : decode prog_10_method_47_code 36 = .ok (.aload_n 0, 1) := by decide +kernel
theorem dMo_readOrder_37 : decode prog_10_method_47_code 37 = .ok (.bipush 22, 2) := by decide +kernel
theorem dMo_readOrder_39 : decode prog_10_method_47_code 39 = .ok (.invokevirtual 204, 3) := by decide +kernel
theorem dMo_readOrder_42 : decode prog_10_method_47_code 42 = .ok (.ifCond .eq 11, 3) := by decide +kernel
theorem dMo_readOrder_45 : decode prog_10_method_47_code 45 = .ok (.aload_n 0, 1) := by decide +kernel
theorem dMo_readOrder_46 : decode prog_10_method_47_code 46 = .ok (.iconst 0, 1) := by decide +kernel
theorem dMo_readOrder_47 : decode prog_10_method_47_code 47 = .ok (.invokevirtual 213, 3) := by decide +kernel
theorem dMo_readOrder_50 : decode prog_10_method_47_code 50 = .ok (.goto 9, 3) := by decide +kernel
theorem dMo_readOrder_53 : decode prog_10_method_47_code 53 = .ok (.aload_n 0, 1) := by decide +kernel
theorem dMo_readOrder_54 : decode prog_10_method_47_code 54 = .ok (.bipush 25, 2) := by decide +kernel
theorem dMo_readOrder_56 : decode prog_10_method_47_code 56 = .ok (.invokevirtual 217, 3) := by decide +kernel
theorem dMo_readOrder_59 : decode prog_10_method_47_code 59 = .ok (.aload_n 0, 1) := by decide +kernel
theorem dMo_readOrder_60 : decode prog_10_method_47_code 60 = .ok (.bipush 26, 2) := by decide +kernel
theorem dMo_readOrder_62 : decode prog_10_method_47_code 62 = .ok (.invokevirtual 204, 3) := by decide +kernel
theorem dMo_readOrder_65 : decode prog_10_method_47_code 65 = .ok (.ifCond .eq 10, 3) := by decide +kernel
theorem dMo_readOrder_68 : decode prog_10_method_47_code 68 = .ok (.aload_n 0, 1) := by decide +kernel
theorem dMo_readOrder_69 : decode prog_10_method_47_code 69 = .ok (.iconst 1, 1) := by decide +kernel
theorem dMo_readOrder_70 : decode prog_10_method_47_code 70 = .ok (.bipush 20, 2) := by decide +kernel
theorem dMo_readOrder_72 : decode prog_10_method_47_code 72 = .ok (.invokevirtual 226, 3) := by decide +kernel
theorem dMo_readOrder_75 : decode prog_10_method_47_code 75 = .ok (.aload_n 0, 1) := by decide +kernel
theorem dMo_readOrder_76 : decode prog_10_method_47_code 76 = .ok (.iconst 4, 1) := by decide +kernel
theorem dMo_readOrder_77 : decode prog_10_method_47_code 77 = .ok (.invokevirtual 204, 3) := by decide +kernel
theorem dMo_readOrder_80 : decode prog_10_method_47_code 80 = .ok (.ifCond .eq 8, 3) := by decide +kernel
theorem dMo_readOrder_83 : decode prog_10_method_47_code 83 = .ok (.aload_n 0, 1) := by decide +kernel
theorem dMo_readOrder_84 : decode prog_10_method_47_code 84 = .ok (.iconst 0, 1) := by decide +kernel
theorem dMo_readOrder_85 : decode prog_10_method_47_code 85 = .ok (.invokevirtual 220, 3) := by decide +kernel
theorem dMo_readOrder_88 : decode prog_10_method_47_code 88 = .ok (.return_, 1) := by decide +kernel
theorem dMo_readOne_0 : decode prog_10_method_48_code 0 = .ok (.aload_n 0, 1) := by decide +kernel
theorem dMo_readOne_1 : decode prog_10_method_48_code 1 = .ok (.getfield 229, 3) := by decide +kernel
theorem dMo_readOne_4 : decode prog_10_method_48_code 4 = .ok (.ifCond .eq 10, 3) := by decide +kernel
theorem dMo_readOne_7 : decode prog_10_method_48_code 7 = .ok (.aload_n 0, 1) := by decide +kernel
theorem dMo_readOne_8 : decode prog_10_method_48_code 8 = .ok (.invokevirtual 233, 3) := by decide +kernel
theorem dMo_readOne_11 : decode prog_10_method_48_code 11 = .ok (.goto 7, 3) := by decide +kernel
theorem dMo_readOne_14 : decode prog_10_method_48_code 14 = .ok (.aload_n 0, 1) := by decide +kernel
theorem dMo_readOne_15 : decode prog_10_method_48_code 15 = .ok (.invokevirtual 236, 3) := by decide +kernel
theorem dMo_readOne_18 : decode prog_10_method_48_code 18 = .ok (.return_, 1) := by decide +kernel
theorem dMo_reads_0 : decode prog_10_method_55_code 0 = .ok (.aload_n 0, 1) := by decide +kernel
theorem dMo_reads_1 : decode prog_10_method_55_code 1 = .ok (.aload_n 0, 1) := by decide +kernel
theorem dMo_reads_2 : decode prog_10_method_55_code 2 = .ok (.getfield 175, 3) := by decide +kernel
theorem dMo_reads_5 : decode prog_10_method_55_code 5 = .ok (.invokevirtual 264, 3) := by decide +kernel
theorem dMo_reads_8 : decode prog_10_method_55_code 8 = .ok (.aload_n 0, 1) := by decide +kernel
theorem dMo_reads_9 : decode prog_10_method_55_code 9 = .ok (.iconst 0, 1) := by decide +kernel
theorem dMo_reads_10 : decode prog_10_method_55_code 10 = .ok (.putfield 175, 3) := by decide +kernel
theorem dMo_reads_13 : decode prog_10_method_55_code 13 = .ok (.aload_n 0, 1) := by decide +kernel
theorem dMo_reads_14 : decode prog_10_method_55_code 14 = .ok (.iconst 0, 1) := by decide +kernel
theorem dMo_reads_15 : decode prog_10_method_55_code 15 = .ok (.putfield 201, 3) := by decide +kernel
theorem dMo_reads_18 : decode prog_10_method_55_code 18 = .ok (.aload_n 0, 1) := by decide +kernel
theorem dMo_reads_19 : decode prog_10_method_55_code 19 = .ok (.iconst 0, 1) := by decide +kernel
theorem dMo_reads_20 : decode prog_10_method_55_code 20 = .ok (.putfield 210, 3) := by decide +kernel
theorem dMo_reads_23 : decode prog_10_method_55_code 23 = .ok (.aload_n 0, 1) := by decide +kernel
theorem dMo_reads_24 : decode prog_10_method_55_code 24 = .ok (.iconst (-1), 1) := by decide +kernel
theorem dMo_reads_25 : decode prog_10_method_55_code 25 = .ok (.putfield 194, 3) := by decide +kernel
theorem dMo_reads_28 : decode prog_10_method_55_code 28 = .ok (.aload_n 0, 1) := by decide +kernel
theorem dMo_reads_29 : decode prog_10_method_55_code 29 = .ok (.invokevirtual 267, 3) := by decide +kernel
theorem dMo_reads_32 : decode prog_10_method_55_code 32 = .ok (.iconst 1, 1) := by decide +kernel
theorem dMo_reads_33 : decode prog_10_method_55_code 33 = .ok (.istore_n 1, 1) := by decide +kernel
theorem dMo_reads_34 : decode prog_10_method_55_code 34 = .ok (.aload_n 0, 1) := by decide +kernel
theorem dMo_reads_35 : decode prog_10_method_55_code 35 = .ok (.bipush 59, 2) := by decide +kernel
theorem dMo_reads_37 : decode prog_10_method_55_code 37 = .ok (.invokestatic 245, 3) := by decide +kernel
theorem dMo_reads_40 : decode prog_10_method_55_code 40 = .ok (.invokevirtual 204, 3) := by decide +kernel
theorem dMo_reads_43 : decode prog_10_method_55_code 43 = .ok (.ifCond .eq 30, 3) := by decide +kernel
theorem dMo_reads_46 : decode prog_10_method_55_code 46 = .ok (.iload_n 1, 1) := by decide +kernel
theorem dMo_reads_47 : decode prog_10_method_55_code 47 = .ok (.bipush 12, 2) := by decide +kernel
theorem dMo_reads_49 : decode prog_10_method_55_code 49 = .ok (.if_icmp .ne 7, 3) := by decide +kernel
theorem dMo_reads_52 : decode prog_10_method_55_code 52 = .ok (.aload_n 0, 1) := by decide +kernel
theorem dMo_reads_53 : decode prog_10_method_55_code 53 = .ok (.invokevirtual 207, 3) := by decide +kernel
theorem dMo_reads_56 : decode prog_10_method_55_code 56 = .ok (.aload_n 0, 1) := by decide +kernel
theorem dMo_reads_57 : decode prog_10_method_55_code 57 = .ok (.invokevirtual 197, 3) := by decide +kernel
theorem dMo_reads_60 : decode prog_10_method_55_code 60 = .ok (.ifCond .eq 7, 3) := by decide +kernel
theorem dMo_reads_63 : decode prog_10_method_55_code 63 = .ok (.aload_n 0, 1) := by decide +kernel
theorem dMo_reads_64 : decode prog_10_method_55_code 64 = .ok (.invokevirtual 267, 3) := by decide +kernel
theorem dMo_reads_67 : decode prog_10_method_55_code 67 = .ok (.iinc 1 1, 3) := by decide +kernel
theorem dMo_reads_70 : decode prog_10_method_55_code 70 = .ok (.goto (-36), 3) := by decide +kernel
theorem dMo_reads_73 : decode prog_10_method_55_code 73 = .ok (.aload_n 0, 1) := by decide +kernel
theorem dMo_reads_74 : decode prog_10_method_55_code 74 = .ok (.invokevirtual 197, 3) := by decide +kernel
theorem dMo_reads_77 : decode prog_10_method_55_code 77 = .ok (.ifCond .eq 18, 3) := by decide +kernel
theorem dMo_reads_80 : decode prog_10_method_55_code 80 = .ok (.aload_n 0, 1) := by decide +kernel
theorem dMo_reads_81 : decode prog_10_method_55_code 81 = .ok (.getfield 201, 3) := by decide +kernel
theorem dMo_reads_84 : decode prog_10_method_55_code 84 = .ok (.aload_n 0, 1) := by decide +kernel
theorem dMo_reads_85 : decode prog_10_method_55_code 85 = .ok (.getfield 181, 3) := by decide +kernel
theorem dMo_reads_88 : decode prog_10_method_55_code 88 = .ok (.if_icmp .ge 7, 3) := by decide +kernel
theorem dMo_reads_91 : decode prog_10_method_55_code 91 = .ok (.aload_n 0, 1) := by decide +kernel
theorem dMo_reads_92 : decode prog_10_method_55_code 92 = .ok (.invokevirtual 207, 3) := by decide +kernel
theorem dMo_reads_95 : decode prog_10_method_55_code 95 = .ok (.aload_n 0, 1) := by decide +kernel
theorem dMo_reads_96 : decode prog_10_method_55_code 96 = .ok (.aload_n 0, 1) := by decide +kernel
theorem dMo_reads_97 : decode prog_10_method_55_code 97 = .ok (.getfield 194, 3) := by decide +kernel
theorem dMo_reads_100 : decode prog_10_method_55_code 100 = .ok (.putfield 51, 3) := by decide +kernel
theorem dMo_reads_103 : decode prog_10_method_55_code 103 = .ok (.aload_n 0, 1) := by decide +kernel
theorem dMo_reads_104 : decode prog_10_method_55_code 104 = .ok (.invokevirtual 197, 3) := by decide +kernel
theorem dMo_reads_107 : decode prog_10_method_55_code 107 = .ok (.ireturn, 1) := by decide +kernel
theorem dMo_readsAs_0 : decode prog_10_method_56_code 0 = .ok (.aload_n 0, 1) := by decide +kernel
theorem dMo_readsAs_1 : decode prog_10_method_56_code 1 = .ok (.iload_n 1, 1) := by decide +kernel
theorem dMo_readsAs_2 : decode prog_10_method_56_code 2 = .ok (.putfield 229, 3) := by decide +kernel
theorem dMo_readsAs_5 : decode prog_10_method_56_code 5 = .ok (.aload_n 0, 1) := by decide +kernel
theorem dMo_readsAs_6 : decode prog_10_method_56_code 6 = .ok (.iload_n 1, 1) := by decide +kernel
theorem dMo_readsAs_7 : decode prog_10_method_56_code 7 = .ok (.ifCond .eq 8, 3) := by decide +kernel
theorem dMo_readsAs_10 : decode prog_10_method_56_code 10 = .ok (.bipush 14, 2) := by decide +kernel
theorem dMo_readsAs_12 : decode prog_10_method_56_code 12 = .ok (.goto 5, 3) := by decide +kernel
theorem dMo_readsAs_15 : decode prog_10_method_56_code 15 = .ok (.bipush 8, 2) := by decide +kernel
theorem dMo_readsAs_17 : decode prog_10_method_56_code 17 = .ok (.putfield 255, 3) := by decide +kernel
theorem dMo_readsAs_20 : decode prog_10_method_56_code 20 = .ok (.aload_n 0, 1) := by decide +kernel
theorem dMo_readsAs_21 : decode prog_10_method_56_code 21 = .ok (.iload_n 1, 1) := by decide +kernel
theorem dMo_readsAs_22 : decode prog_10_method_56_code 22 = .ok (.ifCond .eq 8, 3) := by decide +kernel
theorem dMo_readsAs_25 : decode prog_10_method_56_code 25 = .ok (.bipush 20, 2) := by decide +kernel
theorem dMo_readsAs_27 : decode prog_10_method_56_code 27 = .ok (.goto 5, 3) := by decide +kernel
theorem dMo_readsAs_30 : decode prog_10_method_56_code 30 = .ok (.bipush 15, 2) := by decide +kernel
theorem dMo_readsAs_32 : decode prog_10_method_56_code 32 = .ok (.putfield 258, 3) := by decide +kernel
theorem dMo_readsAs_35 : decode prog_10_method_56_code 35 = .ok (.aload_n 0, 1) := by decide +kernel
theorem dMo_readsAs_36 : decode prog_10_method_56_code 36 = .ok (.invokevirtual 270, 3) := by decide +kernel
theorem dMo_readsAs_39 : decode prog_10_method_56_code 39 = .ok (.ireturn, 1) := by decide +kernel
theorem dMo_law_0 : decode prog_10_method_58_code 0 = .ok (.aload_n 0, 1) := by decide +kernel
theorem dMo_law_1 : decode prog_10_method_58_code 1 = .ok (.getfield 28, 3) := by decide +kernel
theorem dMo_law_4 : decode prog_10_method_58_code 4 = .ok (.bipush 45, 2) := by decide +kernel
theorem dMo_law_6 : decode prog_10_method_58_code 6 = .ok (.iaload, 1) := by decide +kernel
theorem dMo_law_7 : decode prog_10_method_58_code 7 = .ok (.bipush 6, 2) := by decide +kernel
theorem dMo_law_9 : decode prog_10_method_58_code 9 = .ok (.if_icmp .ne 15, 3) := by decide +kernel
theorem dMo_law_12 : decode prog_10_method_58_code 12 = .ok (.aload_n 0, 1) := by decide +kernel
theorem dMo_law_13 : decode prog_10_method_58_code 13 = .ok (.iconst 0, 1) := by decide +kernel
theorem dMo_law_14 : decode prog_10_method_58_code 14 = .ok (.putfield 175, 3) := by decide +kernel
theorem dMo_law_17 : decode prog_10_method_58_code 17 = .ok (.aload_n 0, 1) := by decide +kernel
theorem dMo_law_18 : decode prog_10_method_58_code 18 = .ok (.bipush (-5), 2) := by decide +kernel
theorem dMo_law_20 : decode prog_10_method_58_code 20 = .ok (.invokevirtual 113, 3) := by decide +kernel
theorem dMo_law_23 : decode prog_10_method_58_code 23 = .ok (.ireturn, 1) := by decide +kernel
theorem dMo_law_24 : decode prog_10_method_58_code 24 = .ok (.aload_n 0, 1) := by decide +kernel
theorem dMo_law_25 : decode prog_10_method_58_code 25 = .ok (.iconst 0, 1) := by decide +kernel
theorem dMo_law_26 : decode prog_10_method_58_code 26 = .ok (.invokevirtual 273, 3) := by decide +kernel
theorem dMo_law_29 : decode prog_10_method_58_code 29 = .ok (.ifCond .ne 10, 3) := by decide +kernel
theorem dMo_law_32 : decode prog_10_method_58_code 32 = .ok (.aload_n 0, 1) := by decide +kernel
theorem dMo_law_33 : decode prog_10_method_58_code 33 = .ok (.bipush (-6), 2) := by decide +kernel
theorem dMo_law_35 : decode prog_10_method_58_code 35 = .ok (.invokevirtual 113, 3) := by decide +kernel
theorem dMo_law_38 : decode prog_10_method_58_code 38 = .ok (.ireturn, 1) := by decide +kernel
theorem dMo_law_39 : decode prog_10_method_58_code 39 = .ok (.aload_n 0, 1) := by decide +kernel
theorem dMo_law_40 : decode prog_10_method_58_code 40 = .ok (.aload_n 0, 1) := by decide +kernel
theorem dMo_law_41 : decode prog_10_method_58_code 41 = .ok (.getfield 28, 3) := by decide +kernel
theorem dMo_law_44 : decode prog_10_method_58_code 44 = .ok (.bipush 45, 2) := by decide +kernel
theorem dMo_law_46 : decode prog_10_method_58_code 46 = .ok (.iaload, 1) := by decide +kernel
theorem dMo_law_47 : decode prog_10_method_58_code 47 = .ok (.invokevirtual 277, 3) := by decide +kernel
theorem dMo_law_50 : decode prog_10_method_58_code 50 = .ok (.aload_n 0, 1) := by decide +kernel
theorem dMo_law_51 : decode prog_10_method_58_code 51 = .ok (.getfield 28, 3) := by decide +kernel
theorem dMo_law_54 : decode prog_10_method_58_code 54 = .ok (.bipush 45, 2) := by decide +kernel
theorem dMo_law_56 : decode prog_10_method_58_code 56 = .ok (.dup2, 1) := by decide +kernel
theorem dMo_law_57 : decode prog_10_method_58_code 57 = .ok (.iaload, 1) := by decide +kernel
theorem dMo_law_58 : decode prog_10_method_58_code 58 = .ok (.iconst 1, 1) := by decide +kernel
theorem dMo_law_59 : decode prog_10_method_58_code 59 = .ok (.iadd, 1) := by decide +kernel
theorem dMo_law_60 : decode prog_10_method_58_code 60 = .ok (.iastore, 1) := by decide +kernel
theorem dMo_law_61 : decode prog_10_method_58_code 61 = .ok (.aload_n 0, 1) := by decide +kernel
theorem dMo_law_62 : decode prog_10_method_58_code 62 = .ok (.aload_n 0, 1) := by decide +kernel
theorem dMo_law_63 : decode prog_10_method_58_code 63 = .ok (.getfield 28, 3) := by decide +kernel
theorem dMo_law_66 : decode prog_10_method_58_code 66 = .ok (.bipush 45, 2) := by decide +kernel
theorem dMo_law_68 : decode prog_10_method_58_code 68 = .ok (.iaload, 1) := by decide +kernel
theorem dMo_law_69 : decode prog_10_method_58_code 69 = .ok (.iconst 1, 1) := by decide +kernel
theorem dMo_law_70 : decode prog_10_method_58_code 70 = .ok (.isub, 1) := by decide +kernel
theorem dMo_law_71 : decode prog_10_method_58_code 71 = .ok (.invokevirtual 14, 3) := by decide +kernel
theorem dMo_law_74 : decode prog_10_method_58_code 74 = .ok (.ireturn, 1) := by decide +kernel
