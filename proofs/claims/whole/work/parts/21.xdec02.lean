theorem dJu_countAt_0 : decode prog_3_method_2_code 0 = .ok (.aload_n 0, 1) := by decide +kernel
theorem dJu_countAt_1 : decode prog_3_method_2_code 1 = .ok (.aload_n 1, 1) := by decide +kernel
theorem dJu_countAt_2 : decode prog_3_method_2_code 2 = .ok (.iload_n 2, 1) := by decide +kernel
theorem dJu_countAt_3 : decode prog_3_method_2_code 3 = .ok (.iload_n 3, 1) := by decide +kernel
theorem dJu_countAt_4 : decode prog_3_method_2_code 4 = .ok (.invokevirtual 22, 3) := by decide +kernel
theorem dJu_countAt_7 : decode prog_3_method_2_code 7 = .ok (.aload_n 0, 1) := by decide +kernel
theorem dJu_countAt_8 : decode prog_3_method_2_code 8 = .ok (.aload_n 1, 1) := by decide +kernel
theorem dJu_countAt_9 : decode prog_3_method_2_code 9 = .ok (.aload_n 1, 1) := by decide +kernel
theorem dJu_countAt_10 : decode prog_3_method_2_code 10 = .ok (.getfield 26, 3) := by decide +kernel
theorem dJu_countAt_13 : decode prog_3_method_2_code 13 = .ok (.invokevirtual 32, 3) := by decide +kernel
theorem dJu_countAt_16 : decode prog_3_method_2_code 16 = .ok (.iconst 0, 1) := by decide +kernel
theorem dJu_countAt_17 : decode prog_3_method_2_code 17 = .ok (.bipush 99, 2) := by decide +kernel
theorem dJu_countAt_19 : decode prog_3_method_2_code 19 = .ok (.aload_n 1, 1) := by decide +kernel
theorem dJu_countAt_20 : decode prog_3_method_2_code 20 = .ok (.getfield 36, 3) := by decide +kernel
theorem dJu_countAt_23 : decode prog_3_method_2_code 23 = .ok (.iload_n 2, 1) := by decide +kernel
theorem dJu_countAt_24 : decode prog_3_method_2_code 24 = .ok (.iaload, 1) := by decide +kernel
theorem dJu_countAt_25 : decode prog_3_method_2_code 25 = .ok (.invokevirtual 39, 3) := by decide +kernel
theorem dJu_countAt_28 : decode prog_3_method_2_code 28 = .ok (.ireturn, 1) := by decide +kernel
theorem dJu_shedAt_0 : decode prog_3_method_3_code 0 = .ok (.aload_n 0, 1) := by decide +kernel
theorem dJu_shedAt_1 : decode prog_3_method_3_code 1 = .ok (.aload_n 1, 1) := by decide +kernel
theorem dJu_shedAt_2 : decode prog_3_method_3_code 2 = .ok (.iload_n 2, 1) := by decide +kernel
theorem dJu_shedAt_3 : decode prog_3_method_3_code 3 = .ok (.iload_n 3, 1) := by decide +kernel
theorem dJu_shedAt_4 : decode prog_3_method_3_code 4 = .ok (.invokevirtual 22, 3) := by decide +kernel
theorem dJu_shedAt_7 : decode prog_3_method_3_code 7 = .ok (.aload_n 0, 1) := by decide +kernel
theorem dJu_shedAt_8 : decode prog_3_method_3_code 8 = .ok (.aload_n 1, 1) := by decide +kernel
theorem dJu_shedAt_9 : decode prog_3_method_3_code 9 = .ok (.aload_n 1, 1) := by decide +kernel
theorem dJu_shedAt_10 : decode prog_3_method_3_code 10 = .ok (.getfield 26, 3) := by decide +kernel
theorem dJu_shedAt_13 : decode prog_3_method_3_code 13 = .ok (.invokevirtual 32, 3) := by decide +kernel
theorem dJu_shedAt_16 : decode prog_3_method_3_code 16 = .ok (.iconst 1, 1) := by decide +kernel
theorem dJu_shedAt_17 : decode prog_3_method_3_code 17 = .ok (.bipush 9, 2) := by decide +kernel
theorem dJu_shedAt_19 : decode prog_3_method_3_code 19 = .ok (.iconst 0, 1) := by decide +kernel
theorem dJu_shedAt_20 : decode prog_3_method_3_code 20 = .ok (.invokevirtual 39, 3) := by decide +kernel
theorem dJu_shedAt_23 : decode prog_3_method_3_code 23 = .ok (.ireturn, 1) := by decide +kernel
theorem dJu_tiltBy_0 : decode prog_3_method_5_code 0 = .ok (.iconst 0, 1) := by decide +kernel
theorem dJu_tiltBy_1 : decode prog_3_method_5_code 1 = .ok (.istore_n 3, 1) := by decide +kernel
theorem dJu_tiltBy_2 : decode prog_3_method_5_code 2 = .ok (.iconst 0, 1) := by decide +kernel
theorem dJu_tiltBy_3 : decode prog_3_method_5_code 3 = .ok (.istore 4, 2) := by decide +kernel
theorem dJu_tiltBy_5 : decode prog_3_method_5_code 5 = .ok (.iload 4, 2) := by decide +kernel
theorem dJu_tiltBy_7 : decode prog_3_method_5_code 7 = .ok (.bipush 7, 2) := by decide +kernel
theorem dJu_tiltBy_9 : decode prog_3_method_5_code 9 = .ok (.if_icmp .ge 59, 3) := by decide +kernel
theorem dJu_tiltBy_12 : decode prog_3_method_5_code 12 = .ok (.aload_n 1, 1) := by decide +kernel
theorem dJu_tiltBy_13 : decode prog_3_method_5_code 13 = .ok (.iload 4, 2) := by decide +kernel
theorem dJu_tiltBy_15 : decode prog_3_method_5_code 15 = .ok (.invokevirtual 55, 3) := by decide +kernel
theorem dJu_tiltBy_18 : decode prog_3_method_5_code 18 = .ok (.ifCond .eq 44, 3) := by decide +kernel
theorem dJu_tiltBy_21 : decode prog_3_method_5_code 21 = .ok (.aload_n 1, 1) := by decide +kernel
theorem dJu_tiltBy_22 : decode prog_3_method_5_code 22 = .ok (.getfield 59, 3) := by decide +kernel
theorem dJu_tiltBy_25 : decode prog_3_method_5_code 25 = .ok (.iload 4, 2) := by decide +kernel
theorem dJu_tiltBy_27 : decode prog_3_method_5_code 27 = .ok (.iaload, 1) := by decide +kernel
theorem dJu_tiltBy_28 : decode prog_3_method_5_code 28 = .ok (.istore 5, 2) := by decide +kernel
theorem dJu_tiltBy_30 : decode prog_3_method_5_code 30 = .ok (.aload_n 0, 1) := by decide +kernel
theorem dJu_tiltBy_31 : decode prog_3_method_5_code 31 = .ok (.aload_n 1, 1) := by decide +kernel
theorem dJu_tiltBy_32 : decode prog_3_method_5_code 32 = .ok (.iload 4, 2) := by decide +kernel
theorem dJu_tiltBy_34 : decode prog_3_method_5_code 34 = .ok (.iload 5, 2) := by decide +kernel
theorem dJu_tiltBy_36 : decode prog_3_method_5_code 36 = .ok (.invokevirtual 22, 3) := by decide +kernel
theorem dJu_tiltBy_39 : decode prog_3_method_5_code 39 = .ok (.iload_n 3, 1) := by decide +kernel
theorem dJu_tiltBy_40 : decode prog_3_method_5_code 40 = .ok (.iload 5, 2) := by decide +kernel
theorem dJu_tiltBy_42 : decode prog_3_method_5_code 42 = .ok (.iconst 3, 1) := by decide +kernel
theorem dJu_tiltBy_43 : decode prog_3_method_5_code 43 = .ok (.isub, 1) := by decide +kernel
theorem dJu_tiltBy_44 : decode prog_3_method_5_code 44 = .ok (.aload_n 0, 1) := by decide +kernel
theorem dJu_tiltBy_45 : decode prog_3_method_5_code 45 = .ok (.aload_n 2, 1) := by decide +kernel
theorem dJu_tiltBy_46 : decode prog_3_method_5_code 46 = .ok (.iconst 0, 1) := by decide +kernel
theorem dJu_tiltBy_47 : decode prog_3_method_5_code 47 = .ok (.bipush 99, 2) := by decide +kernel
theorem dJu_tiltBy_49 : decode prog_3_method_5_code 49 = .ok (.aload_n 1, 1) := by decide +kernel
theorem dJu_tiltBy_50 : decode prog_3_method_5_code 50 = .ok (.getfield 36, 3) := by decide +kernel
theorem dJu_tiltBy_53 : decode prog_3_method_5_code 53 = .ok (.iload 4, 2) := by decide +kernel
theorem dJu_tiltBy_55 : decode prog_3_method_5_code 55 = .ok (.iaload, 1) := by decide +kernel
theorem dJu_tiltBy_56 : decode prog_3_method_5_code 56 = .ok (.invokevirtual 39, 3) := by decide +kernel
theorem dJu_tiltBy_59 : decode prog_3_method_5_code 59 = .ok (.imul, 1) := by decide +kernel
theorem dJu_tiltBy_60 : decode prog_3_method_5_code 60 = .ok (.iadd, 1) := by decide +kernel
theorem dJu_tiltBy_61 : decode prog_3_method_5_code 61 = .ok (.istore_n 3, 1) := by decide +kernel
theorem dJu_tiltBy_62 : decode prog_3_method_5_code 62 = .ok (.iinc 4 1, 3) := by decide +kernel
theorem dJu_tiltBy_65 : decode prog_3_method_5_code 65 = .ok (.goto (-60), 3) := by decide +kernel
theorem dJu_tiltBy_68 : decode prog_3_method_5_code 68 = .ok (.iload_n 3, 1) := by decide +kernel
theorem dJu_tiltBy_69 : decode prog_3_method_5_code 69 = .ok (.ireturn, 1) := by decide +kernel
theorem dJu_passDay_0 : decode prog_3_method_6_code 0 = .ok (.aload_n 1, 1) := by decide +kernel
theorem dJu_passDay_1 : decode prog_3_method_6_code 1 = .ok (.aload_n 1, 1) := by decide +kernel
theorem dJu_passDay_2 : decode prog_3_method_6_code 2 = .ok (.getfield 26, 3) := by decide +kernel
theorem dJu_passDay_5 : decode prog_3_method_6_code 5 = .ok (.invokevirtual 32, 3) := by decide +kernel
theorem dJu_passDay_8 : decode prog_3_method_6_code 8 = .ok (.astore_n 2, 1) := by decide +kernel
theorem dJu_passDay_9 : decode prog_3_method_6_code 9 = .ok (.iconst 0, 1) := by decide +kernel
theorem dJu_passDay_10 : decode prog_3_method_6_code 10 = .ok (.istore_n 3, 1) := by decide +kernel
theorem dJu_passDay_11 : decode prog_3_method_6_code 11 = .ok (.iconst 0, 1) := by decide +kernel
theorem dJu_passDay_12 : decode prog_3_method_6_code 12 = .ok (.istore 4, 2) := by decide +kernel
theorem dJu_passDay_14 : decode prog_3_method_6_code 14 = .ok (.iload 4, 2) := by decide +kernel
theorem dJu_passDay_16 : decode prog_3_method_6_code 16 = .ok (.bipush 7, 2) := by decide +kernel
theorem dJu_passDay_18 : decode prog_3_method_6_code 18 = .ok (.if_icmp .ge 79, 3) := by decide +kernel
theorem dJu_passDay_21 : decode prog_3_method_6_code 21 = .ok (.aload_n 1, 1) := by decide +kernel
theorem dJu_passDay_22 : decode prog_3_method_6_code 22 = .ok (.iload 4, 2) := by decide +kernel
theorem dJu_passDay_24 : decode prog_3_method_6_code 24 = .ok (.invokevirtual 55, 3) := by decide +kernel
theorem dJu_passDay_27 : decode prog_3_method_6_code 27 = .ok (.ifCond .eq 64, 3) := by decide +kernel
theorem dJu_passDay_30 : decode prog_3_method_6_code 30 = .ok (.aload_n 0, 1) := by decide +kernel
theorem dJu_passDay_31 : decode prog_3_method_6_code 31 = .ok (.aload_n 1, 1) := by decide +kernel
theorem dJu_passDay_32 : decode prog_3_method_6_code 32 = .ok (.iload 4, 2) := by decide +kernel
theorem dJu_passDay_34 : decode prog_3_method_6_code 34 = .ok (.aload_n 1, 1) := by decide +kernel
theorem dJu_passDay_35 : decode prog_3_method_6_code 35 = .ok (.getfield 59, 3) := by decide +kernel
theorem dJu_passDay_38 : decode prog_3_method_6_code 38 = .ok (.iload 4, 2) := by decide +kernel
theorem dJu_passDay_40 : decode prog_3_method_6_code 40 = .ok (.iaload, 1) := by decide +kernel
theorem dJu_passDay_41 : decode prog_3_method_6_code 41 = .ok (.invokevirtual 22, 3) := by decide +kernel
theorem dJu_passDay_44 : decode prog_3_method_6_code 44 = .ok (.iconst 1, 1) := by decide +kernel
theorem dJu_passDay_45 : decode prog_3_method_6_code 45 = .ok (.aload_n 1, 1) := by decide +kernel
theorem dJu_passDay_46 : decode prog_3_method_6_code 46 = .ok (.getfield 36, 3) := by decide +kernel
theorem dJu_passDay_49 : decode prog_3_method_6_code 49 = .ok (.iload 4, 2) := by decide +kernel
theorem dJu_passDay_51 : decode prog_3_method_6_code 51 = .ok (.iaload, 1) := by decide +kernel
theorem dJu_passDay_52 : decode prog_3_method_6_code 52 = .ok (.aload_n 0, 1) := by decide +kernel
theorem dJu_passDay_53 : decode prog_3_method_6_code 53 = .ok (.aload_n 2, 1) := by decide +kernel
theorem dJu_passDay_54 : decode prog_3_method_6_code 54 = .ok (.iconst 1, 1) := by decide +kernel
theorem dJu_passDay_55 : decode prog_3_method_6_code 55 = .ok (.bipush 9, 2) := by decide +kernel
theorem dJu_passDay_57 : decode prog_3_method_6_code 57 = .ok (.iconst 0, 1) := by decide +kernel
theorem dJu_passDay_58 : decode prog_3_method_6_code 58 = .ok (.invokevirtual 39, 3) := by decide +kernel
theorem dJu_passDay_61 : decode prog_3_method_6_code 61 = .ok (.isub, 1) := by decide +kernel
theorem dJu_passDay_62 : decode prog_3_method_6_code 62 = .ok (.invokestatic 62, 3) := by decide +kernel
theorem dJu_passDay_65 : decode prog_3_method_6_code 65 = .ok (.istore 5, 2) := by decide +kernel
theorem dJu_passDay_67 : decode prog_3_method_6_code 67 = .ok (.iload 5, 2) := by decide +kernel
theorem dJu_passDay_69 : decode prog_3_method_6_code 69 = .ok (.aload_n 1, 1) := by decide +kernel
theorem dJu_passDay_70 : decode prog_3_method_6_code 70 = .ok (.getfield 36, 3) := by decide +kernel
theorem dJu_passDay_73 : decode prog_3_method_6_code 73 = .ok (.iload 4, 2) := by decide +kernel
theorem dJu_passDay_75 : decode prog_3_method_6_code 75 = .ok (.iaload, 1) := by decide +kernel
theorem dJu_passDay_76 : decode prog_3_method_6_code 76 = .ok (.if_icmp .ge 15, 3) := by decide +kernel
theorem dJu_passDay_79 : decode prog_3_method_6_code 79 = .ok (.aload_n 1, 1) := by decide +kernel
theorem dJu_passDay_80 : decode prog_3_method_6_code 80 = .ok (.getfield 36, 3) := by decide +kernel
theorem dJu_passDay_83 : decode prog_3_method_6_code 83 = .ok (.iload 4, 2) := by decide +kernel
theorem dJu_passDay_85 : decode prog_3_method_6_code 85 = .ok (.iload 5, 2) := by decide +kernel
theorem dJu_passDay_87 : decode prog_3_method_6_code 87 = .ok (.iastore, 1) := by decide +kernel
theorem dJu_passDay_88 : decode prog_3_method_6_code 88 = .ok (.iinc 3 1, 3) := by decide +kernel
theorem dJu_passDay_91 : decode prog_3_method_6_code 91 = .ok (.iinc 4 1, 3) := by decide +kernel
theorem dJu_passDay_94 : decode prog_3_method_6_code 94 = .ok (.goto (-80), 3) := by decide +kernel
theorem dJu_passDay_97 : decode prog_3_method_6_code 97 = .ok (.aload_n 1, 1) := by decide +kernel
theorem dJu_passDay_98 : decode prog_3_method_6_code 98 = .ok (.getfield 68, 3) := by decide +kernel
theorem dJu_passDay_101 : decode prog_3_method_6_code 101 = .ok (.iconst 0, 1) := by decide +kernel
theorem dJu_passDay_102 : decode prog_3_method_6_code 102 = .ok (.dup2, 1) := by decide +kernel
theorem dJu_passDay_103 : decode prog_3_method_6_code 103 = .ok (.iaload, 1) := by decide +kernel
theorem dJu_passDay_104 : decode prog_3_method_6_code 104 = .ok (.iconst 1, 1) := by decide +kernel
theorem dJu_passDay_105 : decode prog_3_method_6_code 105 = .ok (.iadd, 1) := by decide +kernel
theorem dJu_passDay_106 : decode prog_3_method_6_code 106 = .ok (.iastore, 1) := by decide +kernel
theorem dJu_passDay_107 : decode prog_3_method_6_code 107 = .ok (.iload_n 3, 1) := by decide +kernel
theorem dJu_passDay_108 : decode prog_3_method_6_code 108 = .ok (.ireturn, 1) := by decide +kernel
theorem dRe_readTerm_0 : decode prog_5_method_22_code 0 = .ok (.aload_n 0, 1) := by decide +kernel
theorem dRe_readTerm_1 : decode prog_5_method_22_code 1 = .ok (.invokevirtual 197, 3) := by decide +kernel
theorem dRe_readTerm_4 : decode prog_5_method_22_code 4 = .ok (.iconst 0, 1) := by decide +kernel
theorem dRe_readTerm_5 : decode prog_5_method_22_code 5 = .ok (.istore_n 1, 1) := by decide +kernel
theorem dRe_readTerm_6 : decode prog_5_method_22_code 6 = .ok (.iload_n 1, 1) := by decide +kernel
theorem dRe_readTerm_7 : decode prog_5_method_22_code 7 = .ok (.sipush 400, 3) := by decide +kernel
theorem dRe_readTerm_10 : decode prog_5_method_22_code 10 = .ok (.if_icmp .ge 81, 3) := by decide +kernel
theorem dRe_readTerm_13 : decode prog_5_method_22_code 13 = .ok (.aload_n 0, 1) := by decide +kernel
theorem dRe_readTerm_14 : decode prog_5_method_22_code 14 = .ok (.ldc 200, 2) := by decide +kernel
theorem dRe_readTerm_16 : decode prog_5_method_22_code 16 = .ok (.invokevirtual 90, 3) := by decide +kernel
theorem dRe_readTerm_19 : decode prog_5_method_22_code 19 = .ok (.ifCond .ne 21, 3) := by decide +kernel
theorem dRe_readTerm_22 : decode prog_5_method_22_code 22 = .ok (.aload_n 0, 1) := by decide +kernel
theorem dRe_readTerm_23 : decode prog_5_method_22_code 23 = .ok (.ldc 202, 2) := by decide +kernel
theorem dRe_readTerm_25 : decode prog_5_method_22_code 25 = .ok (.invokevirtual 90, 3) := by decide +kernel
theorem dRe_readTerm_28 : decode prog_5_method_22_code 28 = .ok (.ifCond .ne 12, 3) := by decide +kernel
theorem dRe_readTerm_31 : decode prog_5_method_22_code 31 = .ok (.aload_n 0, 1) := by decide +kernel
theorem dRe_readTerm_32 : decode prog_5_method_22_code 32 = .ok (.ldc 204, 2) := by decide +kernel
theorem dRe_readTerm_34 : decode prog_5_method_22_code 34 = .ok (.invokevirtual 90, 3) := by decide +kernel
theorem dRe_readTerm_37 : decode prog_5_method_22_code 37 = .ok (.ifCond .eq 54, 3) := by decide +kernel
theorem dRe_readTerm_40 : decode prog_5_method_22_code 40 = .ok (.aload_n 0, 1) := by decide +kernel
theorem dRe_readTerm_41 : decode prog_5_method_22_code 41 = .ok (.ldc 200, 2) := by decide +kernel
theorem dRe_readTerm_43 : decode prog_5_method_22_code 43 = .ok (.invokevirtual 90, 3) := by decide +kernel
theorem dRe_readTerm_46 : decode prog_5_method_22_code 46 = .ok (.ifCond .eq 8, 3) := by decide +kernel
theorem dRe_readTerm_49 : decode prog_5_method_22_code 49 = .ok (.bipush 8, 2) := by decide +kernel
theorem dRe_readTerm_51 : decode prog_5_method_22_code 51 = .ok (.goto 19, 3) := by decide +kernel
theorem dRe_readTerm_54 : decode prog_5_method_22_code 54 = .ok (.aload_n 0, 1) := by decide +kernel
theorem dRe_readTerm_55 : decode prog_5_method_22_code 55 = .ok (.ldc 202, 2) := by decide +kernel
theorem dRe_readTerm_57 : decode prog_5_method_22_code 57 = .ok (.invokevirtual 90, 3) := by decide +kernel
theorem dRe_readTerm_60 : decode prog_5_method_22_code 60 = .ok (.ifCond .eq 8, 3) := by decide +kernel
theorem dRe_readTerm_63 : decode prog_5_method_22_code 63 = .ok (.bipush 9, 2) := by decide +kernel
theorem dRe_readTerm_65 : decode prog_5_method_22_code 65 = .ok (.goto 5, 3) := by decide +kernel
theorem dRe_readTerm_68 : decode prog_5_method_22_code 68 = .ok (.bipush 10, 2) := by decide +kernel
theorem dRe_readTerm_70 : decode prog_5_method_22_code 70 = .ok (.istore_n 2, 1) := by decide +kernel
theorem dRe_readTerm_71 : decode prog_5_method_22_code 71 = .ok (.aload_n 0, 1) := by decide +kernel
theorem dRe_readTerm_72 : decode prog_5_method_22_code 72 = .ok (.invokevirtual 47, 3) := by decide +kernel
theorem dRe_readTerm_75 : decode prog_5_method_22_code 75 = .ok (.aload_n 0, 1) := by decide +kernel
theorem dRe_readTerm_76 : decode prog_5_method_22_code 76 = .ok (.invokevirtual 197, 3) := by decide +kernel
theorem dRe_readTerm_79 : decode prog_5_method_22_code 79 = .ok (.aload_n 0, 1) := by decide +kernel
theorem dRe_readTerm_80 : decode prog_5_method_22_code 80 = .ok (.iload_n 2, 1) := by decide +kernel
theorem dRe_readTerm_81 : decode prog_5_method_22_code 81 = .ok (.iconst 0, 1) := by decide +kernel
theorem dRe_readTerm_82 : decode prog_5_method_22_code 82 = .ok (.invokevirtual 146, 3) := by decide +kernel
theorem dRe_readTerm_85 : decode prog_5_method_22_code 85 = .ok (.iinc 1 1, 3) := by decide +kernel
theorem dRe_readTerm_88 : decode prog_5_method_22_code 88 = .ok (.goto (-82), 3) := by decide +kernel
theorem dRe_readTerm_91 : decode prog_5_method_22_code 91 = .ok (.return_, 1) := by decide +kernel
theorem dSx_of_0 : decode prog_1_method_3_code 0 = .ok (.aload_n 0, 1) := by decide +kernel
theorem dSx_of_1 : decode prog_1_method_3_code 1 = .ok (.getfield 12, 3) := by decide +kernel
theorem dSx_of_4 : decode prog_1_method_3_code 4 = .ok (.iload_n 1, 1) := by decide +kernel
theorem dSx_of_5 : decode prog_1_method_3_code 5 = .ok (.invokevirtual 102, 3) := by decide +kernel
theorem dSx_of_8 : decode prog_1_method_3_code 8 = .ok (.ifCond .ne 5, 3) := by decide +kernel
theorem dSx_of_11 : decode prog_1_method_3_code 11 = .ok (.iconst (-1), 1) := by decide +kernel
theorem dSx_of_12 : decode prog_1_method_3_code 12 = .ok (.ireturn, 1) := by decide +kernel
theorem dSx_of_13 : decode prog_1_method_3_code 13 = .ok (.aload_n 0, 1) := by decide +kernel
theorem dSx_of_14 : decode prog_1_method_3_code 14 = .ok (.getfield 12, 3) := by decide +kernel
theorem dSx_of_17 : decode prog_1_method_3_code 17 = .ok (.getfield 106, 3) := by decide +kernel
theorem dSx_of_20 : decode prog_1_method_3_code 20 = .ok (.iload_n 1, 1) := by decide +kernel
theorem dSx_of_21 : decode prog_1_method_3_code 21 = .ok (.iaload, 1) := by decide +kernel
theorem dSx_of_22 : decode prog_1_method_3_code 22 = .ok (.istore_n 3, 1) := by decide +kernel
theorem dSx_of_23 : decode prog_1_method_3_code 23 = .ok (.iload_n 2, 1) := by decide +kernel
theorem dSx_of_24 : decode prog_1_method_3_code 24 = .ok (.tableswitch 116 0 4 #[36, 46, 56, 58, 87], 36) := by decide +kernel
theorem dSx_of_60 : decode prog_1_method_3_code 60 = .ok (.aload_n 0, 1) := by decide +kernel
theorem dSx_of_61 : decode prog_1_method_3_code 61 = .ok (.getfield 12, 3) := by decide +kernel
theorem dSx_of_64 : decode prog_1_method_3_code 64 = .ok (.getfield 109, 3) := by decide +kernel
theorem dSx_of_67 : decode prog_1_method_3_code 67 = .ok (.iload_n 1, 1) := by decide +kernel
theorem dSx_of_68 : decode prog_1_method_3_code 68 = .ok (.iaload, 1) := by decide +kernel
theorem dSx_of_69 : decode prog_1_method_3_code 69 = .ok (.ireturn, 1) := by decide +kernel
theorem dSx_of_70 : decode prog_1_method_3_code 70 = .ok (.aload_n 0, 1) := by decide +kernel
theorem dSx_of_71 : decode prog_1_method_3_code 71 = .ok (.getfield 12, 3) := by decide +kernel
theorem dSx_of_74 : decode prog_1_method_3_code 74 = .ok (.getfield 112, 3) := by decide +kernel
theorem dSx_of_77 : decode prog_1_method_3_code 77 = .ok (.iload_n 1, 1) := by decide +kernel
theorem dSx_of_78 : decode prog_1_method_3_code 78 = .ok (.iaload, 1) := by decide +kernel
theorem dSx_of_79 : decode prog_1_method_3_code 79 = .ok (.ireturn, 1) := by decide +kernel
theorem dSx_of_80 : decode prog_1_method_3_code 80 = .ok (.iload_n 3, 1) := by decide +kernel
theorem dSx_of_81 : decode prog_1_method_3_code 81 = .ok (.ireturn, 1) := by decide +kernel
theorem dSx_of_82 : decode prog_1_method_3_code 82 = .ok (.aload_n 0, 1) := by decide +kernel
theorem dSx_of_83 : decode prog_1_method_3_code 83 = .ok (.getfield 12, 3) := by decide +kernel
theorem dSx_of_86 : decode prog_1_method_3_code 86 = .ok (.iload_n 1, 1) := by decide +kernel
theorem dSx_of_87 : decode prog_1_method_3_code 87 = .ok (.invokevirtual 115, 3) := by decide +kernel
theorem dSx_of_90 : decode prog_1_method_3_code 90 = .ok (.ifCond .eq 19, 3) := by decide +kernel
theorem dSx_of_93 : decode prog_1_method_3_code 93 = .ok (.aload_n 0, 1) := by decide +kernel
theorem dSx_of_94 : decode prog_1_method_3_code 94 = .ok (.getfield 46, 3) := by decide +kernel
theorem dSx_of_97 : decode prog_1_method_3_code 97 = .ok (.aload_n 0, 1) := by decide +kernel
theorem dSx_of_98 : decode prog_1_method_3_code 98 = .ok (.getfield 12, 3) := by decide +kernel
theorem dSx_of_101 : decode prog_1_method_3_code 101 = .ok (.iload_n 1, 1) := by decide +kernel
theorem dSx_of_102 : decode prog_1_method_3_code 102 = .ok (.iload_n 3, 1) := by decide +kernel
theorem dSx_of_103 : decode prog_1_method_3_code 103 = .ok (.invokevirtual 118, 3) := by decide +kernel
theorem dSx_of_106 : decode prog_1_method_3_code 106 = .ok (.goto 4, 3) := by decide +kernel
theorem dSx_of_109 : decode prog_1_method_3_code 109 = .ok (.iconst (-1), 1) := by decide +kernel
theorem dSx_of_110 : decode prog_1_method_3_code 110 = .ok (.ireturn, 1) := by decide +kernel
theorem dSx_of_111 : decode prog_1_method_3_code 111 = .ok (.aload_n 0, 1) := by decide +kernel
theorem dSx_of_112 : decode prog_1_method_3_code 112 = .ok (.getfield 12, 3) := by decide +kernel
theorem dSx_of_115 : decode prog_1_method_3_code 115 = .ok (.iload_n 1, 1) := by decide +kernel
theorem dSx_of_116 : decode prog_1_method_3_code 116 = .ok (.invokevirtual 115, 3) := by decide +kernel
theorem dSx_of_119 : decode prog_1_method_3_code 119 = .ok (.ifCond .eq 19, 3) := by decide +kernel
theorem dSx_of_122 : decode prog_1_method_3_code 122 = .ok (.aload_n 0, 1) := by decide +kernel
theorem dSx_of_123 : decode prog_1_method_3_code 123 = .ok (.getfield 46, 3) := by decide +kernel
theorem dSx_of_126 : decode prog_1_method_3_code 126 = .ok (.aload_n 0, 1) := by decide +kernel
theorem dSx_of_127 : decode prog_1_method_3_code 127 = .ok (.getfield 12, 3) := by decide +kernel
theorem dSx_of_130 : decode prog_1_method_3_code 130 = .ok (.iload_n 1, 1) := by decide +kernel
theorem dSx_of_131 : decode prog_1_method_3_code 131 = .ok (.iload_n 3, 1) := by decide +kernel
theorem dSx_of_132 : decode prog_1_method_3_code 132 = .ok (.invokevirtual 122, 3) := by decide +kernel
theorem dSx_of_135 : decode prog_1_method_3_code 135 = .ok (.goto 4, 3) := by decide +kernel
theorem dSx_of_138 : decode prog_1_method_3_code 138 = .ok (.iconst (-1), 1) := by decide +kernel
theorem dSx_of_139 : decode prog_1_method_3_code 139 = .ok (.ireturn, 1) := by decide +kernel
theorem dSx_of_140 : decode prog_1_method_3_code 140 = .ok (.iconst (-1), 1) := by decide +kernel
theorem dSx_of_141 : decode prog_1_method_3_code 141 = .ok (.ireturn, 1) := by decide +kernel
theorem dSx_compare_0 : decode prog_1_method_34_code 0 = .ok (.iload_n 1, 1) := by decide +kernel
theorem dSx_compare_1 : decode prog_1_method_34_code 1 = .ok (.iconst (-1), 1) := by decide +kernel
theorem dSx_compare_2 : decode prog_1_method_34_code 2 = .ok (.if_icmp .eq 16, 3) := by decide +kernel
theorem dSx_compare_5 : decode prog_1_method_34_code 5 = .ok (.aload_n 0, 1) := by decide +kernel
theorem dSx_compare_6 : decode prog_1_method_34_code 6 = .ok (.getfield 12, 3) := by decide +kernel
theorem dSx_compare_9 : decode prog_1_method_34_code 9 = .ok (.iload_n 1, 1) := by decide +kernel
theorem dSx_compare_10 : decode prog_1_method_34_code 10 = .ok (.invokevirtual 210, 3) := by decide +kernel
theorem dSx_compare_13 : decode prog_1_method_34_code 13 = .ok (.ifCond .ne 5, 3) := by decide +kernel
theorem dSx_compare_16 : decode prog_1_method_34_code 16 = .ok (.iconst (-1), 1) := by decide +kernel
theorem dSx_compare_17 : decode prog_1_method_34_code 17 = .ok (.ireturn, 1) := by decide +kernel
theorem dSx_compare_18 : decode prog_1_method_34_code 18 = .ok (.aload_n 0, 1) := by decide +kernel
theorem dSx_compare_19 : decode prog_1_method_34_code 19 = .ok (.getfield 46, 3) := by decide +kernel
theorem dSx_compare_22 : decode prog_1_method_34_code 22 = .ok (.aload_n 0, 1) := by decide +kernel
theorem dSx_compare_23 : decode prog_1_method_34_code 23 = .ok (.getfield 12, 3) := by decide +kernel
theorem dSx_compare_26 : decode prog_1_method_34_code 26 = .ok (.aload_n 0, 1) := by decide +kernel
theorem dSx_compare_27 : decode prog_1_method_34_code 27 = .ok (.getfield 12, 3) := by decide +kernel
theorem dSx_compare_30 : decode prog_1_method_34_code 30 = .ok (.iload_n 1, 1) := by decide +kernel
theorem dSx_compare_31 : decode prog_1_method_34_code 31 = .ok (.invokevirtual 311, 3) := by decide +kernel
theorem dSx_compare_34 : decode prog_1_method_34_code 34 = .ok (.invokevirtual 315, 3) := by decide +kernel
theorem dSx_compare_37 : decode prog_1_method_34_code 37 = .ok (.invokestatic 138, 3) := by decide +kernel
theorem dSx_compare_40 : decode prog_1_method_34_code 40 = .ok (.ireturn, 1) := by decide +kernel
theorem dSx_days_0 : decode prog_1_method_35_code 0 = .ok (.iload_n 1, 1) := by decide +kernel
theorem dSx_days_1 : decode prog_1_method_35_code 1 = .ok (.ifCond .lt 21, 3) := by decide +kernel
theorem dSx_days_4 : decode prog_1_method_35_code 4 = .ok (.iload_n 1, 1) := by decide +kernel
theorem dSx_days_5 : decode prog_1_method_35_code 5 = .ok (.ldc_w 319, 3) := by decide +kernel
theorem dSx_days_8 : decode prog_1_method_35_code 8 = .ok (.if_icmp .gt 14, 3) := by decide +kernel
theorem dSx_days_11 : decode prog_1_method_35_code 11 = .ok (.iload_n 2, 1) := by decide +kernel
theorem dSx_days_12 : decode prog_1_method_35_code 12 = .ok (.iconst 1, 1) := by decide +kernel
theorem dSx_days_13 : decode prog_1_method_35_code 13 = .ok (.if_icmp .lt 9, 3) := by decide +kernel
theorem dSx_days_16 : decode prog_1_method_35_code 16 = .ok (.iload_n 2, 1) := by decide +kernel
theorem dSx_days_17 : decode prog_1_method_35_code 17 = .ok (.bipush 60, 2) := by decide +kernel
theorem dSx_days_19 : decode prog_1_method_35_code 19 = .ok (.if_icmp .le 9, 3) := by decide +kernel
theorem dSx_days_22 : decode prog_1_method_35_code 22 = .ok (.aload_n 0, 1) := by decide +kernel
theorem dSx_days_23 : decode prog_1_method_35_code 23 = .ok (.iconst (-1), 1) := by decide +kernel
theorem dSx_days_24 : decode prog_1_method_35_code 24 = .ok (.invokevirtual 85, 3) := by decide +kernel
theorem dSx_days_27 : decode prog_1_method_35_code 27 = .ok (.ireturn, 1) := by decide +kernel
theorem dSx_days_28 : decode prog_1_method_35_code 28 = .ok (.aload_n 0, 1) := by decide +kernel
theorem dSx_days_29 : decode prog_1_method_35_code 29 = .ok (.getfield 12, 3) := by decide +kernel
theorem dSx_days_32 : decode prog_1_method_35_code 32 = .ok (.getfield 89, 3) := by decide +kernel
theorem dSx_days_35 : decode prog_1_method_35_code 35 = .ok (.ifCond .ne 10, 3) := by decide +kernel
theorem dSx_days_38 : decode prog_1_method_35_code 38 = .ok (.aload_n 0, 1) := by decide +kernel
theorem dSx_days_39 : decode prog_1_method_35_code 39 = .ok (.bipush (-3), 2) := by decide +kernel
theorem dSx_days_41 : decode prog_1_method_35_code 41 = .ok (.invokevirtual 85, 3) := by decide +kernel
theorem dSx_days_44 : decode prog_1_method_35_code 44 = .ok (.ireturn, 1) := by decide +kernel
theorem dSx_days_45 : decode prog_1_method_35_code 45 = .ok (.aload_n 0, 1) := by decide +kernel
theorem dSx_days_46 : decode prog_1_method_35_code 46 = .ok (.getfield 19, 3) := by decide +kernel
theorem dSx_days_49 : decode prog_1_method_35_code 49 = .ok (.aload_n 0, 1) := by decide +kernel
theorem dSx_days_50 : decode prog_1_method_35_code 50 = .ok (.getfield 12, 3) := by decide +kernel
theorem dSx_days_53 : decode prog_1_method_35_code 53 = .ok (.invokevirtual 190, 3) := by decide +kernel
theorem dSx_days_56 : decode prog_1_method_35_code 56 = .ok (.iload_n 1, 1) := by decide +kernel
theorem dSx_days_57 : decode prog_1_method_35_code 57 = .ok (.istore_n 3, 1) := by decide +kernel
theorem dSx_days_58 : decode prog_1_method_35_code 58 = .ok (.iconst 0, 1) := by decide +kernel
theorem dSx_days_59 : decode prog_1_method_35_code 59 = .ok (.istore 4, 2) := by decide +kernel
theorem dSx_days_61 : decode prog_1_method_35_code 61 = .ok (.iload 4, 2) := by decide +kernel
theorem dSx_days_63 : decode prog_1_method_35_code 63 = .ok (.iload_n 2, 1) := by decide +kernel
theorem dSx_days_64 : decode prog_1_method_35_code 64 = .ok (.if_icmp .ge 79, 3) := by decide +kernel
theorem dSx_days_67 : decode prog_1_method_35_code 67 = .ok (.aload_n 0, 1) := by decide +kernel
theorem dSx_days_68 : decode prog_1_method_35_code 68 = .ok (.getfield 19, 3) := by decide +kernel
theorem dSx_days_71 : decode prog_1_method_35_code 71 = .ok (.getfield 153, 3) := by decide +kernel
theorem dSx_days_74 : decode prog_1_method_35_code 74 = .ok (.iconst 0, 1) := by decide +kernel
theorem dSx_days_75 : decode prog_1_method_35_code 75 = .ok (.iaload, 1) := by decide +kernel
theorem dSx_days_76 : decode prog_1_method_35_code 76 = .ok (.sipush 999, 3) := by decide +kernel
theorem dSx_days_79 : decode prog_1_method_35_code 79 = .ok (.if_icmp .ge 64, 3) := by decide +kernel
theorem dSx_days_82 : decode prog_1_method_35_code 82 = .ok (.iload_n 3, 1) := by decide +kernel
theorem dSx_days_83 : decode prog_1_method_35_code 83 = .ok (.invokestatic 320, 3) := by decide +kernel
theorem dSx_days_86 : decode prog_1_method_35_code 86 = .ok (.istore_n 3, 1) := by decide +kernel
theorem dSx_days_87 : decode prog_1_method_35_code 87 = .ok (.iload_n 3, 1) := by decide +kernel
theorem dSx_days_88 : decode prog_1_method_35_code 88 = .ok (.aload_n 0, 1) := by decide +kernel
theorem dSx_days_89 : decode prog_1_method_35_code 89 = .ok (.getfield 12, 3) := by decide +kernel
theorem dSx_days_92 : decode prog_1_method_35_code 92 = .ok (.getfield 89, 3) := by decide +kernel
theorem dSx_days_95 : decode prog_1_method_35_code 95 = .ok (.irem, 1) := by decide +kernel
theorem dSx_days_96 : decode prog_1_method_35_code 96 = .ok (.istore 5, 2) := by decide +kernel
theorem dSx_days_98 : decode prog_1_method_35_code 98 = .ok (.iload_n 3, 1) := by decide +kernel
theorem dSx_days_99 : decode prog_1_method_35_code 99 = .ok (.invokestatic 320, 3) := by decide +kernel
theorem dSx_days_102 : decode prog_1_method_35_code 102 = .ok (.istore_n 3, 1) := by decide +kernel
theorem dSx_days_103 : decode prog_1_method_35_code 103 = .ok (.iload_n 3, 1) := by decide +kernel
theorem dSx_days_104 : decode prog_1_method_35_code 104 = .ok (.bipush 7, 2) := by decide +kernel
theorem dSx_days_106 : decode prog_1_method_35_code 106 = .ok (.irem, 1) := by decide +kernel
theorem dSx_days_107 : decode prog_1_method_35_code 107 = .ok (.istore 6, 2) := by decide +kernel
theorem dSx_days_109 : decode prog_1_method_35_code 109 = .ok (.iload_n 3, 1) := by decide +kernel
theorem dSx_days_110 : decode prog_1_method_35_code 110 = .ok (.invokestatic 320, 3) := by decide +kernel
theorem dSx_days_113 : decode prog_1_method_35_code 113 = .ok (.istore_n 3, 1) := by decide +kernel
theorem dSx_days_114 : decode prog_1_method_35_code 114 = .ok (.aload_n 0, 1) := by decide +kernel
theorem dSx_days_115 : decode prog_1_method_35_code 115 = .ok (.iload 5, 2) := by decide +kernel
theorem dSx_days_117 : decode prog_1_method_35_code 117 = .ok (.iload 6, 2) := by decide +kernel
theorem dSx_days_119 : decode prog_1_method_35_code 119 = .ok (.iload_n 3, 1) := by decide +kernel
theorem dSx_days_120 : decode prog_1_method_35_code 120 = .ok (.iconst 3, 1) := by decide +kernel
theorem dSx_days_121 : decode prog_1_method_35_code 121 = .ok (.irem, 1) := by decide +kernel
theorem dSx_days_122 : decode prog_1_method_35_code 122 = .ok (.invokevirtual 323, 3) := by decide +kernel
theorem dSx_days_125 : decode prog_1_method_35_code 125 = .ok (.aload_n 0, 1) := by decide +kernel
theorem dSx_days_126 : decode prog_1_method_35_code 126 = .ok (.getfield 46, 3) := by decide +kernel
theorem dSx_days_129 : decode prog_1_method_35_code 129 = .ok (.aload_n 0, 1) := by decide +kernel
theorem dSx_days_130 : decode prog_1_method_35_code 130 = .ok (.getfield 19, 3) := by decide +kernel
theorem dSx_days_133 : decode prog_1_method_35_code 133 = .ok (.invokevirtual 327, 3) := by decide +kernel
theorem dSx_days_136 : decode prog_1_method_35_code 136 = .ok (.pop, 1) := by decide +kernel
theorem dSx_days_137 : decode prog_1_method_35_code 137 = .ok (.iinc 4 1, 3) := by decide +kernel
theorem dSx_days_140 : decode prog_1_method_35_code 140 = .ok (.goto (-79), 3) := by decide +kernel
theorem dSx_days_143 : decode prog_1_method_35_code 143 = .ok (.aload_n 0, 1) := by decide +kernel
theorem dSx_days_144 : decode prog_1_method_35_code 144 = .ok (.aload_n 0, 1) := by decide +kernel
theorem dSx_days_145 : decode prog_1_method_35_code 145 = .ok (.getfield 46, 3) := by decide +kernel
theorem dSx_days_148 : decode prog_1_method_35_code 148 = .ok (.aload_n 0, 1) := by decide +kernel
theorem dSx_days_149 : decode prog_1_method_35_code 149 = .ok (.getfield 19, 3) := by decide +kernel
theorem dSx_days_152 : decode prog_1_method_35_code 152 = .ok (.aload_n 0, 1) := by decide +kernel
theorem dSx_days_153 : decode prog_1_method_35_code 153 = .ok (.getfield 19, 3) := by decide +kernel
theorem dSx_days_156 : decode prog_1_method_35_code 156 = .ok (.aload_n 0, 1) := by decide +kernel
theorem dSx_days_157 : decode prog_1_method_35_code 157 = .ok (.getfield 19, 3) := by decide +kernel
theorem dSx_days_160 : decode prog_1_method_35_code 160 = .ok (.getfield 213, 3) := by decide +kernel
theorem dSx_days_163 : decode prog_1_method_35_code 163 = .ok (.invokevirtual 311, 3) := by decide +kernel
theorem dSx_days_166 : decode prog_1_method_35_code 166 = .ok (.invokevirtual 315, 3) := by decide +kernel
theorem dSx_days_169 : decode prog_1_method_35_code 169 = .ok (.invokestatic 138, 3) := by decide +kernel
theorem dSx_days_172 : decode prog_1_method_35_code 172 = .ok (.invokevirtual 99, 3) := by decide +kernel
theorem dSx_days_175 : decode prog_1_method_35_code 175 = .ok (.ireturn, 1) := by decide +kernel
theorem dSx_puts_0 : decode prog_1_method_47_code 0 = .ok (.iload_n 2, 1) := by decide +kernel
theorem dSx_puts_1 : decode prog_1_method_47_code 1 = .ok (.invokestatic 125, 3) := by decide +kernel
theorem dSx_puts_4 : decode prog_1_method_47_code 4 = .ok (.ifCond .ne 5, 3) := by decide +kernel
theorem dSx_puts_7 : decode prog_1_method_47_code 7 = .ok (.iconst (-1), 1) := by decide +kernel
theorem dSx_puts_8 : decode prog_1_method_47_code 8 = .ok (.ireturn, 1) := by decide +kernel
theorem dSx_puts_9 : decode prog_1_method_47_code 9 = .ok (.aload_n 0, 1) := by decide +kernel
theorem dSx_puts_10 : decode prog_1_method_47_code 10 = .ok (.getfield 12, 3) := by decide +kernel
theorem dSx_puts_13 : decode prog_1_method_47_code 13 = .ok (.iload_n 1, 1) := by decide +kernel
theorem dSx_puts_14 : decode prog_1_method_47_code 14 = .ok (.invokevirtual 102, 3) := by decide +kernel
theorem dSx_puts_17 : decode prog_1_method_47_code 17 = .ok (.ifCond .ne 6, 3) := by decide +kernel
theorem dSx_puts_20 : decode prog_1_method_47_code 20 = .ok (.bipush (-2), 2) := by decide +kernel
theorem dSx_puts_22 : decode prog_1_method_47_code 22 = .ok (.ireturn, 1) := by decide +kernel
theorem dSx_puts_23 : decode prog_1_method_47_code 23 = .ok (.aload_n 0, 1) := by decide +kernel
theorem dSx_puts_24 : decode prog_1_method_47_code 24 = .ok (.aload_n 0, 1) := by decide +kernel
theorem dSx_puts_25 : decode prog_1_method_47_code 25 = .ok (.getfield 12, 3) := by decide +kernel
theorem dSx_puts_28 : decode prog_1_method_47_code 28 = .ok (.iload_n 1, 1) := by decide +kernel
theorem dSx_puts_29 : decode prog_1_method_47_code 29 = .ok (.iload_n 2, 1) := by decide +kernel
theorem dSx_puts_30 : decode prog_1_method_47_code 30 = .ok (.invokevirtual 339, 3) := by decide +kernel
theorem dSx_puts_33 : decode prog_1_method_47_code 33 = .ok (.ifCond .ne 6, 3) := by decide +kernel
theorem dSx_puts_36 : decode prog_1_method_47_code 36 = .ok (.bipush (-3), 2) := by decide +kernel
theorem dSx_puts_38 : decode prog_1_method_47_code 38 = .ok (.ireturn, 1) := by decide +kernel
theorem dSx_puts_39 : decode prog_1_method_47_code 39 = .ok (.aload_n 0, 1) := by decide +kernel
theorem dSx_puts_40 : decode prog_1_method_47_code 40 = .ok (.getfield 29, 3) := by decide +kernel
theorem dSx_puts_43 : decode prog_1_method_47_code 43 = .ok (.iconst 0, 1) := by decide +kernel
theorem dSx_puts_44 : decode prog_1_method_47_code 44 = .ok (.aload_n 0, 1) := by decide +kernel
theorem dSx_puts_45 : decode prog_1_method_47_code 45 = .ok (.getfield 12, 3) := by decide +kernel
theorem dSx_puts_48 : decode prog_1_method_47_code 48 = .ok (.invokevirtual 342, 3) := by decide +kernel
theorem dSx_puts_51 : decode prog_1_method_47_code 51 = .ok (.aload_n 0, 1) := by decide +kernel
theorem dSx_puts_52 : decode prog_1_method_47_code 52 = .ok (.getfield 12, 3) := by decide +kernel
theorem dSx_puts_55 : decode prog_1_method_47_code 55 = .ok (.getfield 106, 3) := by decide +kernel
theorem dSx_puts_58 : decode prog_1_method_47_code 58 = .ok (.iload_n 1, 1) := by decide +kernel
theorem dSx_puts_59 : decode prog_1_method_47_code 59 = .ok (.iload_n 2, 1) := by decide +kernel
theorem dSx_puts_60 : decode prog_1_method_47_code 60 = .ok (.iastore, 1) := by decide +kernel
theorem dSx_puts_61 : decode prog_1_method_47_code 61 = .ok (.iconst 0, 1) := by decide +kernel
theorem dSx_puts_62 : decode prog_1_method_47_code 62 = .ok (.ireturn, 1) := by decide +kernel
theorem dSx_passes_0 : decode prog_1_method_50_code 0 = .ok (.aload_n 0, 1) := by decide +kernel
theorem dSx_passes_1 : decode prog_1_method_50_code 1 = .ok (.getfield 12, 3) := by decide +kernel
theorem dSx_passes_4 : decode prog_1_method_50_code 4 = .ok (.getfield 153, 3) := by decide +kernel
theorem dSx_passes_7 : decode prog_1_method_50_code 7 = .ok (.iconst 0, 1) := by decide +kernel
theorem dSx_passes_8 : decode prog_1_method_50_code 8 = .ok (.iaload, 1) := by decide +kernel
theorem dSx_passes_9 : decode prog_1_method_50_code 9 = .ok (.sipush 999, 3) := by decide +kernel
theorem dSx_passes_12 : decode prog_1_method_50_code 12 = .ok (.if_icmp .lt 6, 3) := by decide +kernel
theorem dSx_passes_15 : decode prog_1_method_50_code 15 = .ok (.bipush (-3), 2) := by decide +kernel
theorem dSx_passes_17 : decode prog_1_method_50_code 17 = .ok (.ireturn, 1) := by decide +kernel
theorem dSx_passes_18 : decode prog_1_method_50_code 18 = .ok (.aload_n 0, 1) := by decide +kernel
theorem dSx_passes_19 : decode prog_1_method_50_code 19 = .ok (.getfield 29, 3) := by decide +kernel
theorem dSx_passes_22 : decode prog_1_method_50_code 22 = .ok (.iconst 3, 1) := by decide +kernel
theorem dSx_passes_23 : decode prog_1_method_50_code 23 = .ok (.aload_n 0, 1) := by decide +kernel
theorem dSx_passes_24 : decode prog_1_method_50_code 24 = .ok (.getfield 12, 3) := by decide +kernel
theorem dSx_passes_27 : decode prog_1_method_50_code 27 = .ok (.invokevirtual 342, 3) := by decide +kernel
theorem dSx_passes_30 : decode prog_1_method_50_code 30 = .ok (.aload_n 0, 1) := by decide +kernel
theorem dSx_passes_31 : decode prog_1_method_50_code 31 = .ok (.getfield 46, 3) := by decide +kernel
theorem dSx_passes_34 : decode prog_1_method_50_code 34 = .ok (.aload_n 0, 1) := by decide +kernel
theorem dSx_passes_35 : decode prog_1_method_50_code 35 = .ok (.getfield 12, 3) := by decide +kernel
theorem dSx_passes_38 : decode prog_1_method_50_code 38 = .ok (.invokevirtual 327, 3) := by decide +kernel
theorem dSx_passes_41 : decode prog_1_method_50_code 41 = .ok (.ireturn, 1) := by decide +kernel
theorem dSx_tellWords_0 : decode prog_1_method_53_code 0 = .ok (.aload_n 0, 1) := by decide +kernel
theorem dSx_tellWords_1 : decode prog_1_method_53_code 1 = .ok (.getfield 57, 3) := by decide +kernel
theorem dSx_tellWords_4 : decode prog_1_method_53_code 4 = .ok (.iconst 0, 1) := by decide +kernel
theorem dSx_tellWords_5 : decode prog_1_method_53_code 5 = .ok (.aload_n 0, 1) := by decide +kernel
theorem dSx_tellWords_6 : decode prog_1_method_53_code 6 = .ok (.getfield 12, 3) := by decide +kernel
theorem dSx_tellWords_9 : decode prog_1_method_53_code 9 = .ok (.getfield 153, 3) := by decide +kernel
theorem dSx_tellWords_12 : decode prog_1_method_53_code 12 = .ok (.iconst 0, 1) := by decide +kernel
theorem dSx_tellWords_13 : decode prog_1_method_53_code 13 = .ok (.iaload, 1) := by decide +kernel
theorem dSx_tellWords_14 : decode prog_1_method_53_code 14 = .ok (.iastore, 1) := by decide +kernel
theorem dSx_tellWords_15 : decode prog_1_method_53_code 15 = .ok (.aload_n 0, 1) := by decide +kernel
theorem dSx_tellWords_16 : decode prog_1_method_53_code 16 = .ok (.getfield 57, 3) := by decide +kernel
theorem dSx_tellWords_19 : decode prog_1_method_53_code 19 = .ok (.iconst 3, 1) := by decide +kernel
theorem dSx_tellWords_20 : decode prog_1_method_53_code 20 = .ok (.aload_n 0, 1) := by decide +kernel
theorem dSx_tellWords_21 : decode prog_1_method_53_code 21 = .ok (.getfield 46, 3) := by decide +kernel
theorem dSx_tellWords_24 : decode prog_1_method_53_code 24 = .ok (.aload_n 0, 1) := by decide +kernel
theorem dSx_tellWords_25 : decode prog_1_method_53_code 25 = .ok (.getfield 12, 3) := by decide +kernel
theorem dSx_tellWords_28 : decode prog_1_method_53_code 28 = .ok (.aload_n 0, 1) := by decide +kernel
theorem dSx_tellWords_29 : decode prog_1_method_53_code 29 = .ok (.getfield 12, 3) := by decide +kernel
theorem dSx_tellWords_32 : decode prog_1_method_53_code 32 = .ok (.aload_n 0, 1) := by decide +kernel
theorem dSx_tellWords_33 : decode prog_1_method_53_code 33 = .ok (.getfield 12, 3) := by decide +kernel
theorem dSx_tellWords_36 : decode prog_1_method_53_code 36 = .ok (.getfield 213, 3) := by decide +kernel
theorem dSx_tellWords_39 : decode prog_1_method_53_code 39 = .ok (.invokevirtual 311, 3) := by decide +kernel
theorem dSx_tellWords_42 : decode prog_1_method_53_code 42 = .ok (.invokevirtual 315, 3) := by decide +kernel
theorem dSx_tellWords_45 : decode prog_1_method_53_code 45 = .ok (.iastore, 1) := by decide +kernel
theorem dSx_tellWords_46 : decode prog_1_method_53_code 46 = .ok (.aload_n 0, 1) := by decide +kernel
theorem dSx_tellWords_47 : decode prog_1_method_53_code 47 = .ok (.getfield 57, 3) := by decide +kernel
theorem dSx_tellWords_50 : decode prog_1_method_53_code 50 = .ok (.iconst 4, 1) := by decide +kernel
theorem dSx_tellWords_51 : decode prog_1_method_53_code 51 = .ok (.aload_n 0, 1) := by decide +kernel
theorem dSx_tellWords_52 : decode prog_1_method_53_code 52 = .ok (.getfield 12, 3) := by decide +kernel
theorem dSx_tellWords_55 : decode prog_1_method_53_code 55 = .ok (.invokevirtual 263, 3) := by decide +kernel
theorem dSx_tellWords_58 : decode prog_1_method_53_code 58 = .ok (.invokestatic 272, 3) := by decide +kernel
theorem dSx_tellWords_61 : decode prog_1_method_53_code 61 = .ok (.iastore, 1) := by decide +kernel
theorem dSx_tellWords_62 : decode prog_1_method_53_code 62 = .ok (.iconst 0, 1) := by decide +kernel
theorem dSx_tellWords_63 : decode prog_1_method_53_code 63 = .ok (.istore_n 1, 1) := by decide +kernel
theorem dSx_tellWords_64 : decode prog_1_method_53_code 64 = .ok (.iload_n 1, 1) := by decide +kernel
theorem dSx_tellWords_65 : decode prog_1_method_53_code 65 = .ok (.bipush 7, 2) := by decide +kernel
theorem dSx_tellWords_67 : decode prog_1_method_53_code 67 = .ok (.if_icmp .ge 77, 3) := by decide +kernel
theorem dSx_tellWords_70 : decode prog_1_method_53_code 70 = .ok (.iload_n 1, 1) := by decide +kernel
theorem dSx_tellWords_71 : decode prog_1_method_53_code 71 = .ok (.aload_n 0, 1) := by decide +kernel
theorem dSx_tellWords_72 : decode prog_1_method_53_code 72 = .ok (.getfield 12, 3) := by decide +kernel
theorem dSx_tellWords_75 : decode prog_1_method_53_code 75 = .ok (.getfield 89, 3) := by decide +kernel
theorem dSx_tellWords_78 : decode prog_1_method_53_code 78 = .ok (.if_icmp .ge 7, 3) := by decide +kernel
theorem dSx_tellWords_81 : decode prog_1_method_53_code 81 = .ok (.iconst 1, 1) := by decide +kernel
theorem dSx_tellWords_82 : decode prog_1_method_53_code 82 = .ok (.goto 4, 3) := by decide +kernel
theorem dSx_tellWords_85 : decode prog_1_method_53_code 85 = .ok (.iconst 0, 1) := by decide +kernel
theorem dSx_tellWords_86 : decode prog_1_method_53_code 86 = .ok (.istore_n 2, 1) := by decide +kernel
theorem dSx_tellWords_87 : decode prog_1_method_53_code 87 = .ok (.aload_n 0, 1) := by decide +kernel
theorem dSx_tellWords_88 : decode prog_1_method_53_code 88 = .ok (.getfield 57, 3) := by decide +kernel
theorem dSx_tellWords_91 : decode prog_1_method_53_code 91 = .ok (.iconst 5, 1) := by decide +kernel
theorem dSx_tellWords_92 : decode prog_1_method_53_code 92 = .ok (.iload_n 1, 1) := by decide +kernel
theorem dSx_tellWords_93 : decode prog_1_method_53_code 93 = .ok (.iadd, 1) := by decide +kernel
theorem dSx_tellWords_94 : decode prog_1_method_53_code 94 = .ok (.iload_n 2, 1) := by decide +kernel
theorem dSx_tellWords_95 : decode prog_1_method_53_code 95 = .ok (.ifCond .eq 15, 3) := by decide +kernel
theorem dSx_tellWords_98 : decode prog_1_method_53_code 98 = .ok (.aload_n 0, 1) := by decide +kernel
theorem dSx_tellWords_99 : decode prog_1_method_53_code 99 = .ok (.getfield 12, 3) := by decide +kernel
theorem dSx_tellWords_102 : decode prog_1_method_53_code 102 = .ok (.getfield 109, 3) := by decide +kernel
theorem dSx_tellWords_105 : decode prog_1_method_53_code 105 = .ok (.iload_n 1, 1) := by decide +kernel
theorem dSx_tellWords_106 : decode prog_1_method_53_code 106 = .ok (.iaload, 1) := by decide +kernel
theorem dSx_tellWords_107 : decode prog_1_method_53_code 107 = .ok (.goto 4, 3) := by decide +kernel
theorem dSx_tellWords_110 : decode prog_1_method_53_code 110 = .ok (.iconst (-1), 1) := by decide +kernel
theorem dSx_tellWords_111 : decode prog_1_method_53_code 111 = .ok (.iastore, 1) := by decide +kernel
theorem dSx_tellWords_112 : decode prog_1_method_53_code 112 = .ok (.aload_n 0, 1) := by decide +kernel
theorem dSx_tellWords_113 : decode prog_1_method_53_code 113 = .ok (.getfield 57, 3) := by decide +kernel
theorem dSx_tellWords_116 : decode prog_1_method_53_code 116 = .ok (.bipush 12, 2) := by decide +kernel
theorem dSx_tellWords_118 : decode prog_1_method_53_code 118 = .ok (.iload_n 1, 1) := by decide +kernel
theorem dSx_tellWords_119 : decode prog_1_method_53_code 119 = .ok (.iadd, 1) := by decide +kernel
theorem dSx_tellWords_120 : decode prog_1_method_53_code 120 = .ok (.iload_n 2, 1) := by decide +kernel
theorem dSx_tellWords_121 : decode prog_1_method_53_code 121 = .ok (.ifCond .eq 15, 3) := by decide +kernel
theorem dSx_tellWords_124 : decode prog_1_method_53_code 124 = .ok (.aload_n 0, 1) := by decide +kernel
theorem dSx_tellWords_125 : decode prog_1_method_53_code 125 = .ok (.getfield 12, 3) := by decide +kernel
theorem dSx_tellWords_128 : decode prog_1_method_53_code 128 = .ok (.getfield 106, 3) := by decide +kernel
theorem dSx_tellWords_131 : decode prog_1_method_53_code 131 = .ok (.iload_n 1, 1) := by decide +kernel
theorem dSx_tellWords_132 : decode prog_1_method_53_code 132 = .ok (.iaload, 1) := by decide +kernel
theorem dSx_tellWords_133 : decode prog_1_method_53_code 133 = .ok (.goto 4, 3) := by decide +kernel
theorem dSx_tellWords_136 : decode prog_1_method_53_code 136 = .ok (.iconst (-1), 1) := by decide +kernel
theorem dSx_tellWords_137 : decode prog_1_method_53_code 137 = .ok (.iastore, 1) := by decide +kernel
theorem dSx_tellWords_138 : decode prog_1_method_53_code 138 = .ok (.iinc 1 1, 3) := by decide +kernel
theorem dSx_tellWords_141 : decode prog_1_method_53_code 141 = .ok (.goto (-77), 3) := by decide +kernel
theorem dSx_tellWords_144 : decode prog_1_method_53_code 144 = .ok (.return_, 1) := by decide +kernel
theorem dSx_tiltNow_0 : decode prog_1_method_54_code 0 = .ok (.aload_n 0, 1) := by decide +kernel
theorem dSx_tiltNow_1 : decode prog_1_method_54_code 1 = .ok (.getfield 46, 3) := by decide +kernel
theorem dSx_tiltNow_4 : decode prog_1_method_54_code 4 = .ok (.aload_n 0, 1) := by decide +kernel
theorem dSx_tiltNow_5 : decode prog_1_method_54_code 5 = .ok (.getfield 12, 3) := by decide +kernel
theorem dSx_tiltNow_8 : decode prog_1_method_54_code 8 = .ok (.aload_n 0, 1) := by decide +kernel
theorem dSx_tiltNow_9 : decode prog_1_method_54_code 9 = .ok (.getfield 12, 3) := by decide +kernel
theorem dSx_tiltNow_12 : decode prog_1_method_54_code 12 = .ok (.aload_n 0, 1) := by decide +kernel
theorem dSx_tiltNow_13 : decode prog_1_method_54_code 13 = .ok (.getfield 12, 3) := by decide +kernel
theorem dSx_tiltNow_16 : decode prog_1_method_54_code 16 = .ok (.getfield 213, 3) := by decide +kernel
theorem dSx_tiltNow_19 : decode prog_1_method_54_code 19 = .ok (.invokevirtual 311, 3) := by decide +kernel
theorem dSx_tiltNow_22 : decode prog_1_method_54_code 22 = .ok (.invokevirtual 315, 3) := by decide +kernel
theorem dSx_tiltNow_25 : decode prog_1_method_54_code 25 = .ok (.ireturn, 1) := by decide +kernel
theorem dSx_weightAt_0 : decode prog_1_method_56_code 0 = .ok (.aload_n 0, 1) := by decide +kernel
theorem dSx_weightAt_1 : decode prog_1_method_56_code 1 = .ok (.getfield 46, 3) := by decide +kernel
theorem dSx_weightAt_4 : decode prog_1_method_56_code 4 = .ok (.aload_n 0, 1) := by decide +kernel
theorem dSx_weightAt_5 : decode prog_1_method_56_code 5 = .ok (.getfield 12, 3) := by decide +kernel
theorem dSx_weightAt_8 : decode prog_1_method_56_code 8 = .ok (.iload_n 1, 1) := by decide +kernel
theorem dSx_weightAt_9 : decode prog_1_method_56_code 9 = .ok (.iload_n 2, 1) := by decide +kernel
theorem dSx_weightAt_10 : decode prog_1_method_56_code 10 = .ok (.invokevirtual 118, 3) := by decide +kernel
theorem dSx_weightAt_13 : decode prog_1_method_56_code 13 = .ok (.iload_n 2, 1) := by decide +kernel
theorem dSx_weightAt_14 : decode prog_1_method_56_code 14 = .ok (.iconst 3, 1) := by decide +kernel
theorem dSx_weightAt_15 : decode prog_1_method_56_code 15 = .ok (.isub, 1) := by decide +kernel
theorem dSx_weightAt_16 : decode prog_1_method_56_code 16 = .ok (.imul, 1) := by decide +kernel
theorem dSx_weightAt_17 : decode prog_1_method_56_code 17 = .ok (.ireturn, 1) := by decide +kernel
theorem dSx_tiltWithout_0 : decode prog_1_method_57_code 0 = .ok (.aload_n 0, 1) := by decide +kernel
theorem dSx_tiltWithout_1 : decode prog_1_method_57_code 1 = .ok (.invokevirtual 143, 3) := by decide +kernel
theorem dSx_tiltWithout_4 : decode prog_1_method_57_code 4 = .ok (.istore_n 2, 1) := by decide +kernel
theorem dSx_tiltWithout_5 : decode prog_1_method_57_code 5 = .ok (.aload_n 0, 1) := by decide +kernel
theorem dSx_tiltWithout_6 : decode prog_1_method_57_code 6 = .ok (.getfield 12, 3) := by decide +kernel
theorem dSx_tiltWithout_9 : decode prog_1_method_57_code 9 = .ok (.iload_n 1, 1) := by decide +kernel
theorem dSx_tiltWithout_10 : decode prog_1_method_57_code 10 = .ok (.invokevirtual 115, 3) := by decide +kernel
theorem dSx_tiltWithout_13 : decode prog_1_method_57_code 13 = .ok (.ifCond .eq 22, 3) := by decide +kernel
theorem dSx_tiltWithout_16 : decode prog_1_method_57_code 16 = .ok (.iload_n 2, 1) := by decide +kernel
theorem dSx_tiltWithout_17 : decode prog_1_method_57_code 17 = .ok (.aload_n 0, 1) := by decide +kernel
theorem dSx_tiltWithout_18 : decode prog_1_method_57_code 18 = .ok (.iload_n 1, 1) := by decide +kernel
theorem dSx_tiltWithout_19 : decode prog_1_method_57_code 19 = .ok (.aload_n 0, 1) := by decide +kernel
theorem dSx_tiltWithout_20 : decode prog_1_method_57_code 20 = .ok (.getfield 12, 3) := by decide +kernel
theorem dSx_tiltWithout_23 : decode prog_1_method_57_code 23 = .ok (.getfield 106, 3) := by decide +kernel
theorem dSx_tiltWithout_26 : decode prog_1_method_57_code 26 = .ok (.iload_n 1, 1) := by decide +kernel
theorem dSx_tiltWithout_27 : decode prog_1_method_57_code 27 = .ok (.iaload, 1) := by decide +kernel
theorem dSx_tiltWithout_28 : decode prog_1_method_57_code 28 = .ok (.invokevirtual 135, 3) := by decide +kernel
theorem dSx_tiltWithout_31 : decode prog_1_method_57_code 31 = .ok (.isub, 1) := by decide +kernel
theorem dSx_tiltWithout_32 : decode prog_1_method_57_code 32 = .ok (.goto 4, 3) := by decide +kernel
theorem dSx_tiltWithout_35 : decode prog_1_method_57_code 35 = .ok (.iload_n 2, 1) := by decide +kernel
theorem dSx_tiltWithout_36 : decode prog_1_method_57_code 36 = .ok (.ireturn, 1) := by decide +kernel
theorem dSx_levelsAlone_0 : decode prog_1_method_58_code 0 = .ok (.iconst 0, 1) := by decide +kernel
theorem dSx_levelsAlone_1 : decode prog_1_method_58_code 1 = .ok (.istore_n 3, 1) := by decide +kernel
theorem dSx_levelsAlone_2 : decode prog_1_method_58_code 2 = .ok (.iload_n 3, 1) := by decide +kernel
theorem dSx_levelsAlone_3 : decode prog_1_method_58_code 3 = .ok (.bipush 7, 2) := by decide +kernel
theorem dSx_levelsAlone_5 : decode prog_1_method_58_code 5 = .ok (.if_icmp .ge 42, 3) := by decide +kernel
theorem dSx_levelsAlone_8 : decode prog_1_method_58_code 8 = .ok (.aload_n 0, 1) := by decide +kernel
theorem dSx_levelsAlone_9 : decode prog_1_method_58_code 9 = .ok (.iload_n 2, 1) := by decide +kernel
theorem dSx_levelsAlone_10 : decode prog_1_method_58_code 10 = .ok (.aload_n 0, 1) := by decide +kernel
theorem dSx_levelsAlone_11 : decode prog_1_method_58_code 11 = .ok (.iload_n 1, 1) := by decide +kernel
theorem dSx_levelsAlone_12 : decode prog_1_method_58_code 12 = .ok (.iload_n 3, 1) := by decide +kernel
theorem dSx_levelsAlone_13 : decode prog_1_method_58_code 13 = .ok (.invokevirtual 135, 3) := by decide +kernel
theorem dSx_levelsAlone_16 : decode prog_1_method_58_code 16 = .ok (.iadd, 1) := by decide +kernel
theorem dSx_levelsAlone_17 : decode prog_1_method_58_code 17 = .ok (.invokevirtual 147, 3) := by decide +kernel
theorem dSx_levelsAlone_20 : decode prog_1_method_58_code 20 = .ok (.ifCond .eq 21, 3) := by decide +kernel
theorem dSx_levelsAlone_23 : decode prog_1_method_58_code 23 = .ok (.aload_n 0, 1) := by decide +kernel
theorem dSx_levelsAlone_24 : decode prog_1_method_58_code 24 = .ok (.getfield 46, 3) := by decide +kernel
theorem dSx_levelsAlone_27 : decode prog_1_method_58_code 27 = .ok (.aload_n 0, 1) := by decide +kernel
theorem dSx_levelsAlone_28 : decode prog_1_method_58_code 28 = .ok (.getfield 12, 3) := by decide +kernel
theorem dSx_levelsAlone_31 : decode prog_1_method_58_code 31 = .ok (.iload_n 1, 1) := by decide +kernel
theorem dSx_levelsAlone_32 : decode prog_1_method_58_code 32 = .ok (.iload_n 3, 1) := by decide +kernel
theorem dSx_levelsAlone_33 : decode prog_1_method_58_code 33 = .ok (.invokevirtual 128, 3) := by decide +kernel
theorem dSx_levelsAlone_36 : decode prog_1_method_58_code 36 = .ok (.ifCond .ne 5, 3) := by decide +kernel
theorem dSx_levelsAlone_39 : decode prog_1_method_58_code 39 = .ok (.iconst 1, 1) := by decide +kernel
theorem dSx_levelsAlone_40 : decode prog_1_method_58_code 40 = .ok (.ireturn, 1) := by decide +kernel
theorem dSx_levelsAlone_41 : decode prog_1_method_58_code 41 = .ok (.iinc 3 1, 3) := by decide +kernel
theorem dSx_levelsAlone_44 : decode prog_1_method_58_code 44 = .ok (.goto (-42), 3) := by decide +kernel
theorem dSx_levelsAlone_47 : decode prog_1_method_58_code 47 = .ok (.iconst 0, 1) := by decide +kernel
theorem dSx_levelsAlone_48 : decode prog_1_method_58_code 48 = .ok (.ireturn, 1) := by decide +kernel
theorem dSx_tiltByExchange_0 : decode prog_1_method_60_code 0 = .ok (.aload_n 0, 1) := by decide +kernel
theorem dSx_tiltByExchange_1 : decode prog_1_method_60_code 1 = .ok (.getfield 12, 3) := by decide +kernel
theorem dSx_tiltByExchange_4 : decode prog_1_method_60_code 4 = .ok (.getfield 106, 3) := by decide +kernel
theorem dSx_tiltByExchange_7 : decode prog_1_method_60_code 7 = .ok (.iload_n 1, 1) := by decide +kernel
theorem dSx_tiltByExchange_8 : decode prog_1_method_60_code 8 = .ok (.iaload, 1) := by decide +kernel
theorem dSx_tiltByExchange_9 : decode prog_1_method_60_code 9 = .ok (.istore_n 3, 1) := by decide +kernel
theorem dSx_tiltByExchange_10 : decode prog_1_method_60_code 10 = .ok (.aload_n 0, 1) := by decide +kernel
theorem dSx_tiltByExchange_11 : decode prog_1_method_60_code 11 = .ok (.getfield 12, 3) := by decide +kernel
theorem dSx_tiltByExchange_14 : decode prog_1_method_60_code 14 = .ok (.getfield 106, 3) := by decide +kernel
theorem dSx_tiltByExchange_17 : decode prog_1_method_60_code 17 = .ok (.iload_n 2, 1) := by decide +kernel
theorem dSx_tiltByExchange_18 : decode prog_1_method_60_code 18 = .ok (.iaload, 1) := by decide +kernel
theorem dSx_tiltByExchange_19 : decode prog_1_method_60_code 19 = .ok (.istore 4, 2) := by decide +kernel
theorem dSx_tiltByExchange_21 : decode prog_1_method_60_code 21 = .ok (.aload_n 0, 1) := by decide +kernel
theorem dSx_tiltByExchange_22 : decode prog_1_method_60_code 22 = .ok (.iload_n 1, 1) := by decide +kernel
theorem dSx_tiltByExchange_23 : decode prog_1_method_60_code 23 = .ok (.iload 4, 2) := by decide +kernel
theorem dSx_tiltByExchange_25 : decode prog_1_method_60_code 25 = .ok (.invokevirtual 135, 3) := by decide +kernel
theorem dSx_tiltByExchange_28 : decode prog_1_method_60_code 28 = .ok (.aload_n 0, 1) := by decide +kernel
theorem dSx_tiltByExchange_29 : decode prog_1_method_60_code 29 = .ok (.iload_n 2, 1) := by decide +kernel
theorem dSx_tiltByExchange_30 : decode prog_1_method_60_code 30 = .ok (.iload_n 3, 1) := by decide +kernel
theorem dSx_tiltByExchange_31 : decode prog_1_method_60_code 31 = .ok (.invokevirtual 135, 3) := by decide +kernel
theorem dSx_tiltByExchange_34 : decode prog_1_method_60_code 34 = .ok (.iadd, 1) := by decide +kernel
theorem dSx_tiltByExchange_35 : decode prog_1_method_60_code 35 = .ok (.aload_n 0, 1) := by decide +kernel
theorem dSx_tiltByExchange_36 : decode prog_1_method_60_code 36 = .ok (.iload_n 1, 1) := by decide +kernel
theorem dSx_tiltByExchange_37 : decode prog_1_method_60_code 37 = .ok (.iload_n 3, 1) := by decide +kernel
theorem dSx_tiltByExchange_38 : decode prog_1_method_60_code 38 = .ok (.invokevirtual 135, 3) := by decide +kernel
theorem dSx_tiltByExchange_41 : decode prog_1_method_60_code 41 = .ok (.isub, 1) := by decide +kernel
theorem dSx_tiltByExchange_42 : decode prog_1_method_60_code 42 = .ok (.aload_n 0, 1) := by decide +kernel
theorem dSx_tiltByExchange_43 : decode prog_1_method_60_code 43 = .ok (.iload_n 2, 1) := by decide +kernel
theorem dSx_tiltByExchange_44 : decode prog_1_method_60_code 44 = .ok (.iload 4, 2) := by decide +kernel
theorem dSx_tiltByExchange_46 : decode prog_1_method_60_code 46 = .ok (.invokevirtual 135, 3) := by decide +kernel
theorem dSx_tiltByExchange_49 : decode prog_1_method_60_code 49 = .ok (.isub, 1) := by decide +kernel
theorem dSx_tiltByExchange_50 : decode prog_1_method_60_code 50 = .ok (.ireturn, 1) := by decide +kernel
theorem dSx_offerPlaces_0 : decode prog_1_method_61_code 0 = .ok (.aload_n 0, 1) := by decide +kernel
theorem dSx_offerPlaces_1 : decode prog_1_method_61_code 1 = .ok (.getfield 64, 3) := by decide +kernel
theorem dSx_offerPlaces_4 : decode prog_1_method_61_code 4 = .ok (.invokevirtual 366, 3) := by decide +kernel
theorem dSx_offerPlaces_7 : decode prog_1_method_61_code 7 = .ok (.iconst 0, 1) := by decide +kernel
theorem dSx_offerPlaces_8 : decode prog_1_method_61_code 8 = .ok (.istore_n 2, 1) := by decide +kernel
theorem dSx_offerPlaces_9 : decode prog_1_method_61_code 9 = .ok (.iload_n 2, 1) := by decide +kernel
theorem dSx_offerPlaces_10 : decode prog_1_method_61_code 10 = .ok (.bipush 7, 2) := by decide +kernel
theorem dSx_offerPlaces_12 : decode prog_1_method_61_code 12 = .ok (.if_icmp .ge 151, 3) := by decide +kernel
theorem dSx_offerPlaces_15 : decode prog_1_method_61_code 15 = .ok (.aload_n 0, 1) := by decide +kernel
theorem dSx_offerPlaces_16 : decode prog_1_method_61_code 16 = .ok (.getfield 12, 3) := by decide +kernel
theorem dSx_offerPlaces_19 : decode prog_1_method_61_code 19 = .ok (.iload_n 2, 1) := by decide +kernel
theorem dSx_offerPlaces_20 : decode prog_1_method_61_code 20 = .ok (.invokevirtual 115, 3) := by decide +kernel
theorem dSx_offerPlaces_23 : decode prog_1_method_61_code 23 = .ok (.istore_n 3, 1) := by decide +kernel
theorem dSx_offerPlaces_24 : decode prog_1_method_61_code 24 = .ok (.iload_n 2, 1) := by decide +kernel
theorem dSx_offerPlaces_25 : decode prog_1_method_61_code 25 = .ok (.aload_n 0, 1) := by decide +kernel
theorem dSx_offerPlaces_26 : decode prog_1_method_61_code 26 = .ok (.getfield 12, 3) := by decide +kernel
theorem dSx_offerPlaces_29 : decode prog_1_method_61_code 29 = .ok (.getfield 89, 3) := by decide +kernel
theorem dSx_offerPlaces_32 : decode prog_1_method_61_code 32 = .ok (.if_icmp .ge 11, 3) := by decide +kernel
theorem dSx_offerPlaces_35 : decode prog_1_method_61_code 35 = .ok (.iload_n 1, 1) := by decide +kernel
theorem dSx_offerPlaces_36 : decode prog_1_method_61_code 36 = .ok (.ifCond .eq 22, 3) := by decide +kernel
theorem dSx_offerPlaces_39 : decode prog_1_method_61_code 39 = .ok (.iload_n 3, 1) := by decide +kernel
theorem dSx_offerPlaces_40 : decode prog_1_method_61_code 40 = .ok (.ifCond .ne 18, 3) := by decide +kernel
theorem dSx_offerPlaces_43 : decode prog_1_method_61_code 43 = .ok (.aload_n 0, 1) := by decide +kernel
theorem dSx_offerPlaces_44 : decode prog_1_method_61_code 44 = .ok (.getfield 64, 3) := by decide +kernel
theorem dSx_offerPlaces_47 : decode prog_1_method_61_code 47 = .ok (.iload_n 2, 1) := by decide +kernel
theorem dSx_offerPlaces_48 : decode prog_1_method_61_code 48 = .ok (.bipush 7, 2) := by decide +kernel
theorem dSx_offerPlaces_50 : decode prog_1_method_61_code 50 = .ok (.iconst 0, 1) := by decide +kernel
theorem dSx_offerPlaces_51 : decode prog_1_method_61_code 51 = .ok (.iconst 0, 1) := by decide +kernel
theorem dSx_offerPlaces_52 : decode prog_1_method_61_code 52 = .ok (.invokevirtual 367, 3) := by decide +kernel
theorem dSx_offerPlaces_55 : decode prog_1_method_61_code 55 = .ok (.goto 102, 3) := by decide +kernel
theorem dSx_offerPlaces_58 : decode prog_1_method_61_code 58 = .ok (.iconst 0, 1) := by decide +kernel
theorem dSx_offerPlaces_59 : decode prog_1_method_61_code 59 = .ok (.istore 4, 2) := by decide +kernel
theorem dSx_offerPlaces_61 : decode prog_1_method_61_code 61 = .ok (.iload 4, 2) := by decide +kernel
theorem dSx_offerPlaces_63 : decode prog_1_method_61_code 63 = .ok (.bipush 7, 2) := by decide +kernel
theorem dSx_offerPlaces_65 : decode prog_1_method_61_code 65 = .ok (.if_icmp .ge 92, 3) := by decide +kernel
theorem dSx_offerPlaces_68 : decode prog_1_method_61_code 68 = .ok (.iload_n 3, 1) := by decide +kernel
theorem dSx_offerPlaces_69 : decode prog_1_method_61_code 69 = .ok (.ifCond .eq 21, 3) := by decide +kernel
theorem dSx_offerPlaces_72 : decode prog_1_method_61_code 72 = .ok (.aload_n 0, 1) := by decide +kernel
theorem dSx_offerPlaces_73 : decode prog_1_method_61_code 73 = .ok (.getfield 12, 3) := by decide +kernel
theorem dSx_offerPlaces_76 : decode prog_1_method_61_code 76 = .ok (.getfield 106, 3) := by decide +kernel
theorem dSx_offerPlaces_79 : decode prog_1_method_61_code 79 = .ok (.iload_n 2, 1) := by decide +kernel
theorem dSx_offerPlaces_80 : decode prog_1_method_61_code 80 = .ok (.iaload, 1) := by decide +kernel
theorem dSx_offerPlaces_81 : decode prog_1_method_61_code 81 = .ok (.iload 4, 2) := by decide +kernel
theorem dSx_offerPlaces_83 : decode prog_1_method_61_code 83 = .ok (.if_icmp .ne 7, 3) := by decide +kernel
theorem dSx_offerPlaces_86 : decode prog_1_method_61_code 86 = .ok (.iconst 1, 1) := by decide +kernel
theorem dSx_offerPlaces_87 : decode prog_1_method_61_code 87 = .ok (.goto 4, 3) := by decide +kernel
theorem dSx_offerPlaces_90 : decode prog_1_method_61_code 90 = .ok (.iconst 0, 1) := by decide +kernel
theorem dSx_offerPlaces_91 : decode prog_1_method_61_code 91 = .ok (.istore 5, 2) := by decide +kernel
theorem dSx_offerPlaces_93 : decode prog_1_method_61_code 93 = .ok (.iload 5, 2) := by decide +kernel
theorem dSx_offerPlaces_95 : decode prog_1_method_61_code 95 = .ok (.ifCond .ne 25, 3) := by decide +kernel
theorem dSx_offerPlaces_98 : decode prog_1_method_61_code 98 = .ok (.iload_n 3, 1) := by decide +kernel
theorem dSx_offerPlaces_99 : decode prog_1_method_61_code 99 = .ok (.iload_n 1, 1) := by decide +kernel
theorem dSx_offerPlaces_100 : decode prog_1_method_61_code 100 = .ok (.if_icmp .ne 51, 3) := by decide +kernel
theorem dSx_offerPlaces_103 : decode prog_1_method_61_code 103 = .ok (.aload_n 0, 1) := by decide +kernel
theorem dSx_offerPlaces_104 : decode prog_1_method_61_code 104 = .ok (.getfield 46, 3) := by decide +kernel
theorem dSx_offerPlaces_107 : decode prog_1_method_61_code 107 = .ok (.aload_n 0, 1) := by decide +kernel
theorem dSx_offerPlaces_108 : decode prog_1_method_61_code 108 = .ok (.getfield 12, 3) := by decide +kernel
theorem dSx_offerPlaces_111 : decode prog_1_method_61_code 111 = .ok (.iload_n 2, 1) := by decide +kernel
theorem dSx_offerPlaces_112 : decode prog_1_method_61_code 112 = .ok (.iload 4, 2) := by decide +kernel
theorem dSx_offerPlaces_114 : decode prog_1_method_61_code 114 = .ok (.invokevirtual 128, 3) := by decide +kernel
theorem dSx_offerPlaces_117 : decode prog_1_method_61_code 117 = .ok (.ifCond .ne 34, 3) := by decide +kernel
theorem dSx_offerPlaces_120 : decode prog_1_method_61_code 120 = .ok (.aload_n 0, 1) := by decide +kernel
theorem dSx_offerPlaces_121 : decode prog_1_method_61_code 121 = .ok (.getfield 64, 3) := by decide +kernel
theorem dSx_offerPlaces_124 : decode prog_1_method_61_code 124 = .ok (.iload_n 2, 1) := by decide +kernel
theorem dSx_offerPlaces_125 : decode prog_1_method_61_code 125 = .ok (.iload 4, 2) := by decide +kernel
theorem dSx_offerPlaces_127 : decode prog_1_method_61_code 127 = .ok (.aload_n 0, 1) := by decide +kernel
theorem dSx_offerPlaces_128 : decode prog_1_method_61_code 128 = .ok (.iload_n 2, 1) := by decide +kernel
theorem dSx_offerPlaces_129 : decode prog_1_method_61_code 129 = .ok (.iload 4, 2) := by decide +kernel
theorem dSx_offerPlaces_131 : decode prog_1_method_61_code 131 = .ok (.invokevirtual 135, 3) := by decide +kernel
theorem dSx_offerPlaces_134 : decode prog_1_method_61_code 134 = .ok (.iload_n 1, 1) := by decide +kernel
theorem dSx_offerPlaces_135 : decode prog_1_method_61_code 135 = .ok (.ifCond .eq 12, 3) := by decide +kernel
theorem dSx_offerPlaces_138 : decode prog_1_method_61_code 138 = .ok (.iload 5, 2) := by decide +kernel
theorem dSx_offerPlaces_140 : decode prog_1_method_61_code 140 = .ok (.ifCond .ne 7, 3) := by decide +kernel
theorem dSx_offerPlaces_143 : decode prog_1_method_61_code 143 = .ok (.iconst 1, 1) := by decide +kernel
theorem dSx_offerPlaces_144 : decode prog_1_method_61_code 144 = .ok (.goto 4, 3) := by decide +kernel
theorem dSx_offerPlaces_147 : decode prog_1_method_61_code 147 = .ok (.iconst 0, 1) := by decide +kernel
theorem dSx_offerPlaces_148 : decode prog_1_method_61_code 148 = .ok (.invokevirtual 367, 3) := by decide +kernel
theorem dSx_offerPlaces_151 : decode prog_1_method_61_code 151 = .ok (.iinc 4 1, 3) := by decide +kernel
theorem dSx_offerPlaces_154 : decode prog_1_method_61_code 154 = .ok (.goto (-93), 3) := by decide +kernel
theorem dSx_offerPlaces_157 : decode prog_1_method_61_code 157 = .ok (.iinc 2 1, 3) := by decide +kernel
theorem dSx_offerPlaces_160 : decode prog_1_method_61_code 160 = .ok (.goto (-151), 3) := by decide +kernel
theorem dSx_offerPlaces_163 : decode prog_1_method_61_code 163 = .ok (.aload_n 0, 1) := by decide +kernel
theorem dSx_offerPlaces_164 : decode prog_1_method_61_code 164 = .ok (.getfield 64, 3) := by decide +kernel
theorem dSx_offerPlaces_167 : decode prog_1_method_61_code 167 = .ok (.invokevirtual 371, 3) := by decide +kernel
theorem dSx_offerPlaces_170 : decode prog_1_method_61_code 170 = .ok (.return_, 1) := by decide +kernel
theorem dSx_sumTilts_0 : decode prog_1_method_63_code 0 = .ok (.iconst 0, 1) := by decide +kernel
theorem dSx_sumTilts_1 : decode prog_1_method_63_code 1 = .ok (.istore_n 1, 1) := by decide +kernel
theorem dSx_sumTilts_2 : decode prog_1_method_63_code 2 = .ok (.iload_n 1, 1) := by decide +kernel
theorem dSx_sumTilts_3 : decode prog_1_method_63_code 3 = .ok (.bipush 7, 2) := by decide +kernel
theorem dSx_sumTilts_5 : decode prog_1_method_63_code 5 = .ok (.if_icmp .ge 43, 3) := by decide +kernel
theorem dSx_sumTilts_8 : decode prog_1_method_63_code 8 = .ok (.aload_n 0, 1) := by decide +kernel
theorem dSx_sumTilts_9 : decode prog_1_method_63_code 9 = .ok (.iload_n 1, 1) := by decide +kernel
theorem dSx_sumTilts_10 : decode prog_1_method_63_code 10 = .ok (.aload_n 0, 1) := by decide +kernel
theorem dSx_sumTilts_11 : decode prog_1_method_63_code 11 = .ok (.getfield 12, 3) := by decide +kernel
theorem dSx_sumTilts_14 : decode prog_1_method_63_code 14 = .ok (.iload_n 1, 1) := by decide +kernel
theorem dSx_sumTilts_15 : decode prog_1_method_63_code 15 = .ok (.invokevirtual 115, 3) := by decide +kernel
theorem dSx_sumTilts_18 : decode prog_1_method_63_code 18 = .ok (.ifCond .eq 20, 3) := by decide +kernel
theorem dSx_sumTilts_21 : decode prog_1_method_63_code 21 = .ok (.aload_n 0, 1) := by decide +kernel
theorem dSx_sumTilts_22 : decode prog_1_method_63_code 22 = .ok (.iload_n 1, 1) := by decide +kernel
theorem dSx_sumTilts_23 : decode prog_1_method_63_code 23 = .ok (.aload_n 0, 1) := by decide +kernel
theorem dSx_sumTilts_24 : decode prog_1_method_63_code 24 = .ok (.getfield 12, 3) := by decide +kernel
theorem dSx_sumTilts_27 : decode prog_1_method_63_code 27 = .ok (.getfield 106, 3) := by decide +kernel
theorem dSx_sumTilts_30 : decode prog_1_method_63_code 30 = .ok (.iload_n 1, 1) := by decide +kernel
theorem dSx_sumTilts_31 : decode prog_1_method_63_code 31 = .ok (.iaload, 1) := by decide +kernel
theorem dSx_sumTilts_32 : decode prog_1_method_63_code 32 = .ok (.invokevirtual 135, 3) := by decide +kernel
theorem dSx_sumTilts_35 : decode prog_1_method_63_code 35 = .ok (.goto 4, 3) := by decide +kernel
theorem dSx_sumTilts_38 : decode prog_1_method_63_code 38 = .ok (.iconst 0, 1) := by decide +kernel
theorem dSx_sumTilts_39 : decode prog_1_method_63_code 39 = .ok (.invokevirtual 374, 3) := by decide +kernel
theorem dSx_sumTilts_42 : decode prog_1_method_63_code 42 = .ok (.iinc 1 1, 3) := by decide +kernel
theorem dSx_sumTilts_45 : decode prog_1_method_63_code 45 = .ok (.goto (-43), 3) := by decide +kernel
theorem dSx_sumTilts_48 : decode prog_1_method_63_code 48 = .ok (.return_, 1) := by decide +kernel
theorem dRe_readSum_0 : decode prog_5_method_21_code 0 = .ok (.aload_n 0, 1) := by decide +kernel
theorem dRe_readSum_1 : decode prog_5_method_21_code 1 = .ok (.invokevirtual 190, 3) := by decide +kernel
theorem dRe_readSum_4 : decode prog_5_method_21_code 4 = .ok (.iconst 0, 1) := by decide +kernel
theorem dRe_readSum_5 : decode prog_5_method_21_code 5 = .ok (.istore_n 1, 1) := by decide +kernel
theorem dRe_readSum_6 : decode prog_5_method_21_code 6 = .ok (.iload_n 1, 1) := by decide +kernel
theorem dRe_readSum_7 : decode prog_5_method_21_code 7 = .ok (.sipush 400, 3) := by decide +kernel
theorem dRe_readSum_10 : decode prog_5_method_21_code 10 = .ok (.if_icmp .ge 58, 3) := by decide +kernel
theorem dRe_readSum_13 : decode prog_5_method_21_code 13 = .ok (.aload_n 0, 1) := by decide +kernel
theorem dRe_readSum_14 : decode prog_5_method_21_code 14 = .ok (.ldc 193, 2) := by decide +kernel
theorem dRe_readSum_16 : decode prog_5_method_21_code 16 = .ok (.invokevirtual 90, 3) := by decide +kernel
theorem dRe_readSum_19 : decode prog_5_method_21_code 19 = .ok (.ifCond .ne 12, 3) := by decide +kernel
theorem dRe_readSum_22 : decode prog_5_method_21_code 22 = .ok (.aload_n 0, 1) := by decide +kernel
theorem dRe_readSum_23 : decode prog_5_method_21_code 23 = .ok (.ldc 195, 2) := by decide +kernel
theorem dRe_readSum_25 : decode prog_5_method_21_code 25 = .ok (.invokevirtual 90, 3) := by decide +kernel
theorem dRe_readSum_28 : decode prog_5_method_21_code 28 = .ok (.ifCond .eq 40, 3) := by decide +kernel
theorem dRe_readSum_31 : decode prog_5_method_21_code 31 = .ok (.aload_n 0, 1) := by decide +kernel
theorem dRe_readSum_32 : decode prog_5_method_21_code 32 = .ok (.ldc 193, 2) := by decide +kernel
theorem dRe_readSum_34 : decode prog_5_method_21_code 34 = .ok (.invokevirtual 90, 3) := by decide +kernel
theorem dRe_readSum_37 : decode prog_5_method_21_code 37 = .ok (.ifCond .eq 8, 3) := by decide +kernel
theorem dRe_readSum_40 : decode prog_5_method_21_code 40 = .ok (.bipush 6, 2) := by decide +kernel
theorem dRe_readSum_42 : decode prog_5_method_21_code 42 = .ok (.goto 5, 3) := by decide +kernel
theorem dRe_readSum_45 : decode prog_5_method_21_code 45 = .ok (.bipush 7, 2) := by decide +kernel
theorem dRe_readSum_47 : decode prog_5_method_21_code 47 = .ok (.istore_n 2, 1) := by decide +kernel
theorem dRe_readSum_48 : decode prog_5_method_21_code 48 = .ok (.aload_n 0, 1) := by decide +kernel
theorem dRe_readSum_49 : decode prog_5_method_21_code 49 = .ok (.invokevirtual 47, 3) := by decide +kernel
theorem dRe_readSum_52 : decode prog_5_method_21_code 52 = .ok (.aload_n 0, 1) := by decide +kernel
theorem dRe_readSum_53 : decode prog_5_method_21_code 53 = .ok (.invokevirtual 190, 3) := by decide +kernel
theorem dRe_readSum_56 : decode prog_5_method_21_code 56 = .ok (.aload_n 0, 1) := by decide +kernel
theorem dRe_readSum_57 : decode prog_5_method_21_code 57 = .ok (.iload_n 2, 1) := by decide +kernel
theorem dRe_readSum_58 : decode prog_5_method_21_code 58 = .ok (.iconst 0, 1) := by decide +kernel
theorem dRe_readSum_59 : decode prog_5_method_21_code 59 = .ok (.invokevirtual 146, 3) := by decide +kernel
theorem dRe_readSum_62 : decode prog_5_method_21_code 62 = .ok (.iinc 1 1, 3) := by decide +kernel
theorem dRe_readSum_65 : decode prog_5_method_21_code 65 = .ok (.goto (-59), 3) := by decide +kernel
theorem dRe_readSum_68 : decode prog_5_method_21_code 68 = .ok (.return_, 1) := by decide +kernel
theorem dSx_asks_0 : decode prog_1_method_4_code 0 = .ok (.aload_n 0, 1) := by decide +kernel
theorem dSx_asks_1 : decode prog_1_method_4_code 1 = .ok (.getfield 12, 3) := by decide +kernel
theorem dSx_asks_4 : decode prog_1_method_4_code 4 = .ok (.iload_n 1, 1) := by decide +kernel
theorem dSx_asks_5 : decode prog_1_method_4_code 5 = .ok (.invokevirtual 102, 3) := by decide +kernel
theorem dSx_asks_8 : decode prog_1_method_4_code 8 = .ok (.ifCond .eq 10, 3) := by decide +kernel
theorem dSx_asks_11 : decode prog_1_method_4_code 11 = .ok (.iload_n 2, 1) := by decide +kernel
theorem dSx_asks_12 : decode prog_1_method_4_code 12 = .ok (.invokestatic 125, 3) := by decide +kernel
theorem dSx_asks_15 : decode prog_1_method_4_code 15 = .ok (.ifCond .ne 5, 3) := by decide +kernel
theorem dSx_asks_18 : decode prog_1_method_4_code 18 = .ok (.iconst (-1), 1) := by decide +kernel
theorem dSx_asks_19 : decode prog_1_method_4_code 19 = .ok (.ireturn, 1) := by decide +kernel
theorem dSx_asks_20 : decode prog_1_method_4_code 20 = .ok (.iload_n 3, 1) := by decide +kernel
theorem dSx_asks_21 : decode prog_1_method_4_code 21 = .ok (.tableswitch 79 0 2 #[27, 41, 63], 27) := by decide +kernel
theorem dSx_asks_48 : decode prog_1_method_4_code 48 = .ok (.aload_n 0, 1) := by decide +kernel
theorem dSx_asks_49 : decode prog_1_method_4_code 49 = .ok (.getfield 46, 3) := by decide +kernel
theorem dSx_asks_52 : decode prog_1_method_4_code 52 = .ok (.aload_n 0, 1) := by decide +kernel
theorem dSx_asks_53 : decode prog_1_method_4_code 53 = .ok (.getfield 12, 3) := by decide +kernel
theorem dSx_asks_56 : decode prog_1_method_4_code 56 = .ok (.iload_n 1, 1) := by decide +kernel
theorem dSx_asks_57 : decode prog_1_method_4_code 57 = .ok (.iload_n 2, 1) := by decide +kernel
theorem dSx_asks_58 : decode prog_1_method_4_code 58 = .ok (.invokevirtual 118, 3) := by decide +kernel
theorem dSx_asks_61 : decode prog_1_method_4_code 61 = .ok (.ireturn, 1) := by decide +kernel
theorem dSx_asks_62 : decode prog_1_method_4_code 62 = .ok (.aload_n 0, 1) := by decide +kernel
theorem dSx_asks_63 : decode prog_1_method_4_code 63 = .ok (.getfield 46, 3) := by decide +kernel
theorem dSx_asks_66 : decode prog_1_method_4_code 66 = .ok (.aload_n 0, 1) := by decide +kernel
theorem dSx_asks_67 : decode prog_1_method_4_code 67 = .ok (.getfield 12, 3) := by decide +kernel
theorem dSx_asks_70 : decode prog_1_method_4_code 70 = .ok (.iload_n 1, 1) := by decide +kernel
theorem dSx_asks_71 : decode prog_1_method_4_code 71 = .ok (.iload_n 2, 1) := by decide +kernel
theorem dSx_asks_72 : decode prog_1_method_4_code 72 = .ok (.invokevirtual 128, 3) := by decide +kernel
theorem dSx_asks_75 : decode prog_1_method_4_code 75 = .ok (.ifCond .eq 7, 3) := by decide +kernel
theorem dSx_asks_78 : decode prog_1_method_4_code 78 = .ok (.iconst 1, 1) := by decide +kernel
theorem dSx_asks_79 : decode prog_1_method_4_code 79 = .ok (.goto 4, 3) := by decide +kernel
theorem dSx_asks_82 : decode prog_1_method_4_code 82 = .ok (.iconst 0, 1) := by decide +kernel
theorem dSx_asks_83 : decode prog_1_method_4_code 83 = .ok (.ireturn, 1) := by decide +kernel
theorem dSx_asks_84 : decode prog_1_method_4_code 84 = .ok (.aload_n 0, 1) := by decide +kernel
theorem dSx_asks_85 : decode prog_1_method_4_code 85 = .ok (.iload_n 1, 1) := by decide +kernel
theorem dSx_asks_86 : decode prog_1_method_4_code 86 = .ok (.invokevirtual 132, 3) := by decide +kernel
theorem dSx_asks_89 : decode prog_1_method_4_code 89 = .ok (.aload_n 0, 1) := by decide +kernel
theorem dSx_asks_90 : decode prog_1_method_4_code 90 = .ok (.iload_n 1, 1) := by decide +kernel
theorem dSx_asks_91 : decode prog_1_method_4_code 91 = .ok (.iload_n 2, 1) := by decide +kernel
theorem dSx_asks_92 : decode prog_1_method_4_code 92 = .ok (.invokevirtual 135, 3) := by decide +kernel
theorem dSx_asks_95 : decode prog_1_method_4_code 95 = .ok (.iadd, 1) := by decide +kernel
theorem dSx_asks_96 : decode prog_1_method_4_code 96 = .ok (.invokestatic 138, 3) := by decide +kernel
theorem dSx_asks_99 : decode prog_1_method_4_code 99 = .ok (.ireturn, 1) := by decide +kernel
theorem dSx_asks_100 : decode prog_1_method_4_code 100 = .ok (.iconst (-1), 1) := by decide +kernel
theorem dSx_asks_101 : decode prog_1_method_4_code 101 = .ok (.ireturn, 1) := by decide +kernel
theorem dSx_tilt_0 : decode prog_1_method_5_code 0 = .ok (.aload_n 0, 1) := by decide +kernel
theorem dSx_tilt_1 : decode prog_1_method_5_code 1 = .ok (.invokevirtual 143, 3) := by decide +kernel
theorem dSx_tilt_4 : decode prog_1_method_5_code 4 = .ok (.istore_n 2, 1) := by decide +kernel
theorem dSx_tilt_5 : decode prog_1_method_5_code 5 = .ok (.iload_n 1, 1) := by decide +kernel
theorem dSx_tilt_6 : decode prog_1_method_5_code 6 = .ok (.tableswitch 63 0 2 #[26, 31, 49], 26) := by decide +kernel
theorem dSx_tilt_32 : decode prog_1_method_5_code 32 = .ok (.iload_n 2, 1) := by decide +kernel
theorem dSx_tilt_33 : decode prog_1_method_5_code 33 = .ok (.invokestatic 138, 3) := by decide +kernel
theorem dSx_tilt_36 : decode prog_1_method_5_code 36 = .ok (.ireturn, 1) := by decide +kernel
theorem dSx_tilt_37 : decode prog_1_method_5_code 37 = .ok (.iload_n 2, 1) := by decide +kernel
theorem dSx_tilt_38 : decode prog_1_method_5_code 38 = .ok (.ifCond .ne 7, 3) := by decide +kernel
theorem dSx_tilt_41 : decode prog_1_method_5_code 41 = .ok (.iconst 0, 1) := by decide +kernel
theorem dSx_tilt_42 : decode prog_1_method_5_code 42 = .ok (.goto 12, 3) := by decide +kernel
theorem dSx_tilt_45 : decode prog_1_method_5_code 45 = .ok (.iload_n 2, 1) := by decide +kernel
theorem dSx_tilt_46 : decode prog_1_method_5_code 46 = .ok (.ifCond .ge 7, 3) := by decide +kernel
theorem dSx_tilt_49 : decode prog_1_method_5_code 49 = .ok (.iconst 1, 1) := by decide +kernel
theorem dSx_tilt_50 : decode prog_1_method_5_code 50 = .ok (.goto 4, 3) := by decide +kernel
theorem dSx_tilt_53 : decode prog_1_method_5_code 53 = .ok (.iconst 2, 1) := by decide +kernel
theorem dSx_tilt_54 : decode prog_1_method_5_code 54 = .ok (.ireturn, 1) := by decide +kernel
theorem dSx_tilt_55 : decode prog_1_method_5_code 55 = .ok (.aload_n 0, 1) := by decide +kernel
theorem dSx_tilt_56 : decode prog_1_method_5_code 56 = .ok (.iload_n 2, 1) := by decide +kernel
theorem dSx_tilt_57 : decode prog_1_method_5_code 57 = .ok (.invokevirtual 147, 3) := by decide +kernel
theorem dSx_tilt_60 : decode prog_1_method_5_code 60 = .ok (.ifCond .eq 7, 3) := by decide +kernel
theorem dSx_tilt_63 : decode prog_1_method_5_code 63 = .ok (.iconst 1, 1) := by decide +kernel
theorem dSx_tilt_64 : decode prog_1_method_5_code 64 = .ok (.goto 4, 3) := by decide +kernel
theorem dSx_tilt_67 : decode prog_1_method_5_code 67 = .ok (.iconst 0, 1) := by decide +kernel
theorem dSx_tilt_68 : decode prog_1_method_5_code 68 = .ok (.ireturn, 1) := by decide +kernel
theorem dSx_tilt_69 : decode prog_1_method_5_code 69 = .ok (.iconst (-1), 1) := by decide +kernel
theorem dSx_tilt_70 : decode prog_1_method_5_code 70 = .ok (.ireturn, 1) := by decide +kernel
theorem dSx_put_0 : decode prog_1_method_16_code 0 = .ok (.aload_n 0, 1) := by decide +kernel
theorem dSx_put_1 : decode prog_1_method_16_code 1 = .ok (.iload_n 1, 1) := by decide +kernel
theorem dSx_put_2 : decode prog_1_method_16_code 2 = .ok (.iload_n 2, 1) := by decide +kernel
theorem dSx_put_3 : decode prog_1_method_16_code 3 = .ok (.invokevirtual 216, 3) := by decide +kernel
theorem dSx_put_6 : decode prog_1_method_16_code 6 = .ok (.istore_n 3, 1) := by decide +kernel
theorem dSx_put_7 : decode prog_1_method_16_code 7 = .ok (.iload_n 3, 1) := by decide +kernel
theorem dSx_put_8 : decode prog_1_method_16_code 8 = .ok (.ifCond .ge 11, 3) := by decide +kernel
theorem dSx_put_11 : decode prog_1_method_16_code 11 = .ok (.aload_n 0, 1) := by decide +kernel
theorem dSx_put_12 : decode prog_1_method_16_code 12 = .ok (.iload_n 3, 1) := by decide +kernel
theorem dSx_put_13 : decode prog_1_method_16_code 13 = .ok (.invokevirtual 85, 3) := by decide +kernel
theorem dSx_put_16 : decode prog_1_method_16_code 16 = .ok (.goto 14, 3) := by decide +kernel
theorem dSx_put_19 : decode prog_1_method_16_code 19 = .ok (.aload_n 0, 1) := by decide +kernel
theorem dSx_put_20 : decode prog_1_method_16_code 20 = .ok (.aload_n 0, 1) := by decide +kernel
theorem dSx_put_21 : decode prog_1_method_16_code 21 = .ok (.invokevirtual 143, 3) := by decide +kernel
theorem dSx_put_24 : decode prog_1_method_16_code 24 = .ok (.invokestatic 138, 3) := by decide +kernel
theorem dSx_put_27 : decode prog_1_method_16_code 27 = .ok (.invokevirtual 99, 3) := by decide +kernel
theorem dSx_put_30 : decode prog_1_method_16_code 30 = .ok (.ireturn, 1) := by decide +kernel
theorem dSx_take_0 : decode prog_1_method_17_code 0 = .ok (.aload_n 0, 1) := by decide +kernel
theorem dSx_take_1 : decode prog_1_method_17_code 1 = .ok (.iload_n 1, 1) := by decide +kernel
theorem dSx_take_2 : decode prog_1_method_17_code 2 = .ok (.invokevirtual 219, 3) := by decide +kernel
theorem dSx_take_5 : decode prog_1_method_17_code 5 = .ok (.istore_n 2, 1) := by decide +kernel
theorem dSx_take_6 : decode prog_1_method_17_code 6 = .ok (.iload_n 2, 1) := by decide +kernel
theorem dSx_take_7 : decode prog_1_method_17_code 7 = .ok (.ifCond .ge 11, 3) := by decide +kernel
theorem dSx_take_10 : decode prog_1_method_17_code 10 = .ok (.aload_n 0, 1) := by decide +kernel
theorem dSx_take_11 : decode prog_1_method_17_code 11 = .ok (.iload_n 2, 1) := by decide +kernel
theorem dSx_take_12 : decode prog_1_method_17_code 12 = .ok (.invokevirtual 85, 3) := by decide +kernel
theorem dSx_take_15 : decode prog_1_method_17_code 15 = .ok (.goto 14, 3) := by decide +kernel
theorem dSx_take_18 : decode prog_1_method_17_code 18 = .ok (.aload_n 0, 1) := by decide +kernel
theorem dSx_take_19 : decode prog_1_method_17_code 19 = .ok (.aload_n 0, 1) := by decide +kernel
theorem dSx_take_20 : decode prog_1_method_17_code 20 = .ok (.invokevirtual 143, 3) := by decide +kernel
theorem dSx_take_23 : decode prog_1_method_17_code 23 = .ok (.invokestatic 138, 3) := by decide +kernel
theorem dSx_take_26 : decode prog_1_method_17_code 26 = .ok (.invokevirtual 99, 3) := by decide +kernel
theorem dSx_take_29 : decode prog_1_method_17_code 29 = .ok (.ireturn, 1) := by decide +kernel
theorem dSx_pass_0 : decode prog_1_method_19_code 0 = .ok (.aload_n 0, 1) := by decide +kernel
theorem dSx_pass_1 : decode prog_1_method_19_code 1 = .ok (.invokevirtual 225, 3) := by decide +kernel
theorem dSx_pass_4 : decode prog_1_method_19_code 4 = .ok (.istore_n 1, 1) := by decide +kernel
theorem dSx_pass_5 : decode prog_1_method_19_code 5 = .ok (.iload_n 1, 1) := by decide +kernel
theorem dSx_pass_6 : decode prog_1_method_19_code 6 = .ok (.ifCond .ge 11, 3) := by decide +kernel
theorem dSx_pass_9 : decode prog_1_method_19_code 9 = .ok (.aload_n 0, 1) := by decide +kernel
theorem dSx_pass_10 : decode prog_1_method_19_code 10 = .ok (.iload_n 1, 1) := by decide +kernel
theorem dSx_pass_11 : decode prog_1_method_19_code 11 = .ok (.invokevirtual 85, 3) := by decide +kernel
theorem dSx_pass_14 : decode prog_1_method_19_code 14 = .ok (.goto 8, 3) := by decide +kernel
theorem dSx_pass_17 : decode prog_1_method_19_code 17 = .ok (.aload_n 0, 1) := by decide +kernel
theorem dSx_pass_18 : decode prog_1_method_19_code 18 = .ok (.iload_n 1, 1) := by decide +kernel
theorem dSx_pass_19 : decode prog_1_method_19_code 19 = .ok (.invokevirtual 99, 3) := by decide +kernel
theorem dSx_pass_22 : decode prog_1_method_19_code 22 = .ok (.ireturn, 1) := by decide +kernel
theorem dSx_settle_0 : decode prog_1_method_21_code 0 = .ok (.iload_n 1, 1) := by decide +kernel
theorem dSx_settle_1 : decode prog_1_method_21_code 1 = .ok (.iconst (-1), 1) := by decide +kernel
theorem dSx_settle_2 : decode prog_1_method_21_code 2 = .ok (.if_icmp .eq 16, 3) := by decide +kernel
theorem dSx_settle_5 : decode prog_1_method_21_code 5 = .ok (.aload_n 0, 1) := by decide +kernel
theorem dSx_settle_6 : decode prog_1_method_21_code 6 = .ok (.getfield 12, 3) := by decide +kernel
theorem dSx_settle_9 : decode prog_1_method_21_code 9 = .ok (.iload_n 1, 1) := by decide +kernel
theorem dSx_settle_10 : decode prog_1_method_21_code 10 = .ok (.invokevirtual 102, 3) := by decide +kernel
theorem dSx_settle_13 : decode prog_1_method_21_code 13 = .ok (.ifCond .ne 5, 3) := by decide +kernel
theorem dSx_settle_16 : decode prog_1_method_21_code 16 = .ok (.iconst (-1), 1) := by decide +kernel
theorem dSx_settle_17 : decode prog_1_method_21_code 17 = .ok (.ireturn, 1) := by decide +kernel
theorem dSx_settle_18 : decode prog_1_method_21_code 18 = .ok (.aload_n 0, 1) := by decide +kernel
theorem dSx_settle_19 : decode prog_1_method_21_code 19 = .ok (.iconst 0, 1) := by decide +kernel
theorem dSx_settle_20 : decode prog_1_method_21_code 20 = .ok (.invokevirtual 235, 3) := by decide +kernel
theorem dSx_settle_23 : decode prog_1_method_21_code 23 = .ok (.aload_n 0, 1) := by decide +kernel
theorem dSx_settle_24 : decode prog_1_method_21_code 24 = .ok (.getfield 12, 3) := by decide +kernel
theorem dSx_settle_27 : decode prog_1_method_21_code 27 = .ok (.getfield 153, 3) := by decide +kernel
theorem dSx_settle_30 : decode prog_1_method_21_code 30 = .ok (.iconst 3, 1) := by decide +kernel
theorem dSx_settle_31 : decode prog_1_method_21_code 31 = .ok (.iaload, 1) := by decide +kernel
theorem dSx_settle_32 : decode prog_1_method_21_code 32 = .ok (.istore_n 2, 1) := by decide +kernel
theorem dSx_settle_33 : decode prog_1_method_21_code 33 = .ok (.iload_n 1, 1) := by decide +kernel
theorem dSx_settle_34 : decode prog_1_method_21_code 34 = .ok (.iconst (-1), 1) := by decide +kernel
theorem dSx_settle_35 : decode prog_1_method_21_code 35 = .ok (.if_icmp .ne 23, 3) := by decide +kernel
theorem dSx_settle_38 : decode prog_1_method_21_code 38 = .ok (.aload_n 0, 1) := by decide +kernel
theorem dSx_settle_39 : decode prog_1_method_21_code 39 = .ok (.getfield 64, 3) := by decide +kernel
theorem dSx_settle_42 : decode prog_1_method_21_code 42 = .ok (.iconst 0, 1) := by decide +kernel
theorem dSx_settle_43 : decode prog_1_method_21_code 43 = .ok (.iload_n 2, 1) := by decide +kernel
theorem dSx_settle_44 : decode prog_1_method_21_code 44 = .ok (.invokevirtual 239, 3) := by decide +kernel
theorem dSx_settle_47 : decode prog_1_method_21_code 47 = .ok (.istore_n 3, 1) := by decide +kernel
theorem dSx_settle_48 : decode prog_1_method_21_code 48 = .ok (.iload_n 3, 1) := by decide +kernel
theorem dSx_settle_49 : decode prog_1_method_21_code 49 = .ok (.ifCond .ne 7, 3) := by decide +kernel
theorem dSx_settle_52 : decode prog_1_method_21_code 52 = .ok (.iconst (-1), 1) := by decide +kernel
theorem dSx_settle_53 : decode prog_1_method_21_code 53 = .ok (.goto 4, 3) := by decide +kernel
theorem dSx_settle_56 : decode prog_1_method_21_code 56 = .ok (.iload_n 3, 1) := by decide +kernel
theorem dSx_settle_57 : decode prog_1_method_21_code 57 = .ok (.ireturn, 1) := by decide +kernel
theorem dSx_settle_58 : decode prog_1_method_21_code 58 = .ok (.aload_n 0, 1) := by decide +kernel
theorem dSx_settle_59 : decode prog_1_method_21_code 59 = .ok (.getfield 64, 3) := by decide +kernel
theorem dSx_settle_62 : decode prog_1_method_21_code 62 = .ok (.iconst 0, 1) := by decide +kernel
theorem dSx_settle_63 : decode prog_1_method_21_code 63 = .ok (.iload_n 2, 1) := by decide +kernel
theorem dSx_settle_64 : decode prog_1_method_21_code 64 = .ok (.invokevirtual 242, 3) := by decide +kernel
theorem dSx_settle_67 : decode prog_1_method_21_code 67 = .ok (.ifCond .eq 15, 3) := by decide +kernel
theorem dSx_settle_70 : decode prog_1_method_21_code 70 = .ok (.aload_n 0, 1) := by decide +kernel
theorem dSx_settle_71 : decode prog_1_method_21_code 71 = .ok (.getfield 64, 3) := by decide +kernel
theorem dSx_settle_74 : decode prog_1_method_21_code 74 = .ok (.getfield 245, 3) := by decide +kernel
theorem dSx_settle_77 : decode prog_1_method_21_code 77 = .ok (.iload_n 1, 1) := by decide +kernel
theorem dSx_settle_78 : decode prog_1_method_21_code 78 = .ok (.iaload, 1) := by decide +kernel
theorem dSx_settle_79 : decode prog_1_method_21_code 79 = .ok (.goto 4, 3) := by decide +kernel
theorem dSx_settle_82 : decode prog_1_method_21_code 82 = .ok (.iconst (-1), 1) := by decide +kernel
theorem dSx_settle_83 : decode prog_1_method_21_code 83 = .ok (.ireturn, 1) := by decide +kernel
theorem dSx_least_0 : decode prog_1_method_22_code 0 = .ok (.iload_n 1, 1) := by decide +kernel
theorem dSx_least_1 : decode prog_1_method_22_code 1 = .ok (.iconst (-1), 1) := by decide +kernel
theorem dSx_least_2 : decode prog_1_method_22_code 2 = .ok (.if_icmp .eq 16, 3) := by decide +kernel
theorem dSx_least_5 : decode prog_1_method_22_code 5 = .ok (.aload_n 0, 1) := by decide +kernel
theorem dSx_least_6 : decode prog_1_method_22_code 6 = .ok (.getfield 12, 3) := by decide +kernel
theorem dSx_least_9 : decode prog_1_method_22_code 9 = .ok (.iload_n 1, 1) := by decide +kernel
theorem dSx_least_10 : decode prog_1_method_22_code 10 = .ok (.invokevirtual 102, 3) := by decide +kernel
theorem dSx_least_13 : decode prog_1_method_22_code 13 = .ok (.ifCond .ne 5, 3) := by decide +kernel
theorem dSx_least_16 : decode prog_1_method_22_code 16 = .ok (.iconst (-1), 1) := by decide +kernel
theorem dSx_least_17 : decode prog_1_method_22_code 17 = .ok (.ireturn, 1) := by decide +kernel
theorem dSx_least_18 : decode prog_1_method_22_code 18 = .ok (.aload_n 0, 1) := by decide +kernel
theorem dSx_least_19 : decode prog_1_method_22_code 19 = .ok (.iconst 0, 1) := by decide +kernel
theorem dSx_least_20 : decode prog_1_method_22_code 20 = .ok (.invokevirtual 235, 3) := by decide +kernel
theorem dSx_least_23 : decode prog_1_method_22_code 23 = .ok (.aload_n 0, 1) := by decide +kernel
theorem dSx_least_24 : decode prog_1_method_22_code 24 = .ok (.getfield 64, 3) := by decide +kernel
theorem dSx_least_27 : decode prog_1_method_22_code 27 = .ok (.invokevirtual 248, 3) := by decide +kernel
theorem dSx_least_30 : decode prog_1_method_22_code 30 = .ok (.istore_n 2, 1) := by decide +kernel
theorem dSx_least_31 : decode prog_1_method_22_code 31 = .ok (.iload_n 2, 1) := by decide +kernel
theorem dSx_least_32 : decode prog_1_method_22_code 32 = .ok (.iconst (-1), 1) := by decide +kernel
theorem dSx_least_33 : decode prog_1_method_22_code 33 = .ok (.if_icmp .eq 8, 3) := by decide +kernel
theorem dSx_least_36 : decode prog_1_method_22_code 36 = .ok (.iload_n 1, 1) := by decide +kernel
theorem dSx_least_37 : decode prog_1_method_22_code 37 = .ok (.iconst (-1), 1) := by decide +kernel
theorem dSx_least_38 : decode prog_1_method_22_code 38 = .ok (.if_icmp .ne 5, 3) := by decide +kernel
theorem dSx_least_41 : decode prog_1_method_22_code 41 = .ok (.iload_n 2, 1) := by decide +kernel
theorem dSx_least_42 : decode prog_1_method_22_code 42 = .ok (.ireturn, 1) := by decide +kernel
theorem dSx_least_43 : decode prog_1_method_22_code 43 = .ok (.aload_n 0, 1) := by decide +kernel
theorem dSx_least_44 : decode prog_1_method_22_code 44 = .ok (.getfield 64, 3) := by decide +kernel
theorem dSx_least_47 : decode prog_1_method_22_code 47 = .ok (.iconst 0, 1) := by decide +kernel
theorem dSx_least_48 : decode prog_1_method_22_code 48 = .ok (.iload_n 2, 1) := by decide +kernel
theorem dSx_least_49 : decode prog_1_method_22_code 49 = .ok (.invokevirtual 242, 3) := by decide +kernel
theorem dSx_least_52 : decode prog_1_method_22_code 52 = .ok (.ifCond .eq 15, 3) := by decide +kernel
theorem dSx_least_55 : decode prog_1_method_22_code 55 = .ok (.aload_n 0, 1) := by decide +kernel
theorem dSx_least_56 : decode prog_1_method_22_code 56 = .ok (.getfield 64, 3) := by decide +kernel
theorem dSx_least_59 : decode prog_1_method_22_code 59 = .ok (.getfield 245, 3) := by decide +kernel
theorem dSx_least_62 : decode prog_1_method_22_code 62 = .ok (.iload_n 1, 1) := by decide +kernel
theorem dSx_least_63 : decode prog_1_method_22_code 63 = .ok (.iaload, 1) := by decide +kernel
theorem dSx_least_64 : decode prog_1_method_22_code 64 = .ok (.goto 4, 3) := by decide +kernel
theorem dSx_least_67 : decode prog_1_method_22_code 67 = .ok (.iconst (-1), 1) := by decide +kernel
theorem dSx_least_68 : decode prog_1_method_22_code 68 = .ok (.ireturn, 1) := by decide +kernel
theorem dSx_moved_0 : decode prog_1_method_23_code 0 = .ok (.iload_n 1, 1) := by decide +kernel
theorem dSx_moved_1 : decode prog_1_method_23_code 1 = .ok (.iconst (-1), 1) := by decide +kernel
theorem dSx_moved_2 : decode prog_1_method_23_code 2 = .ok (.if_icmp .eq 16, 3) := by decide +kernel
theorem dSx_moved_5 : decode prog_1_method_23_code 5 = .ok (.aload_n 0, 1) := by decide +kernel
theorem dSx_moved_6 : decode prog_1_method_23_code 6 = .ok (.getfield 12, 3) := by decide +kernel
theorem dSx_moved_9 : decode prog_1_method_23_code 9 = .ok (.iload_n 1, 1) := by decide +kernel
theorem dSx_moved_10 : decode prog_1_method_23_code 10 = .ok (.invokevirtual 102, 3) := by decide +kernel
theorem dSx_moved_13 : decode prog_1_method_23_code 13 = .ok (.ifCond .ne 5, 3) := by decide +kernel
theorem dSx_moved_16 : decode prog_1_method_23_code 16 = .ok (.iconst (-1), 1) := by decide +kernel
theorem dSx_moved_17 : decode prog_1_method_23_code 17 = .ok (.ireturn, 1) := by decide +kernel
theorem dSx_moved_18 : decode prog_1_method_23_code 18 = .ok (.aload_n 0, 1) := by decide +kernel
theorem dSx_moved_19 : decode prog_1_method_23_code 19 = .ok (.iconst 1, 1) := by decide +kernel
theorem dSx_moved_20 : decode prog_1_method_23_code 20 = .ok (.invokevirtual 235, 3) := by decide +kernel
theorem dSx_moved_23 : decode prog_1_method_23_code 23 = .ok (.iconst 0, 1) := by decide +kernel
theorem dSx_moved_24 : decode prog_1_method_23_code 24 = .ok (.istore_n 2, 1) := by decide +kernel
theorem dSx_moved_25 : decode prog_1_method_23_code 25 = .ok (.iload_n 2, 1) := by decide +kernel
theorem dSx_moved_26 : decode prog_1_method_23_code 26 = .ok (.bipush 7, 2) := by decide +kernel
theorem dSx_moved_28 : decode prog_1_method_23_code 28 = .ok (.if_icmp .gt 48, 3) := by decide +kernel
theorem dSx_moved_31 : decode prog_1_method_23_code 31 = .ok (.aload_n 0, 1) := by decide +kernel
theorem dSx_moved_32 : decode prog_1_method_23_code 32 = .ok (.getfield 64, 3) := by decide +kernel
theorem dSx_moved_35 : decode prog_1_method_23_code 35 = .ok (.iload_n 2, 1) := by decide +kernel
theorem dSx_moved_36 : decode prog_1_method_23_code 36 = .ok (.aload_n 0, 1) := by decide +kernel
theorem dSx_moved_37 : decode prog_1_method_23_code 37 = .ok (.getfield 12, 3) := by decide +kernel
theorem dSx_moved_40 : decode prog_1_method_23_code 40 = .ok (.getfield 153, 3) := by decide +kernel
theorem dSx_moved_43 : decode prog_1_method_23_code 43 = .ok (.iconst 3, 1) := by decide +kernel
theorem dSx_moved_44 : decode prog_1_method_23_code 44 = .ok (.iaload, 1) := by decide +kernel
theorem dSx_moved_45 : decode prog_1_method_23_code 45 = .ok (.invokevirtual 242, 3) := by decide +kernel
theorem dSx_moved_48 : decode prog_1_method_23_code 48 = .ok (.ifCond .eq 22, 3) := by decide +kernel
theorem dSx_moved_51 : decode prog_1_method_23_code 51 = .ok (.iload_n 1, 1) := by decide +kernel
theorem dSx_moved_52 : decode prog_1_method_23_code 52 = .ok (.iconst (-1), 1) := by decide +kernel
theorem dSx_moved_53 : decode prog_1_method_23_code 53 = .ok (.if_icmp .ne 7, 3) := by decide +kernel
theorem dSx_moved_56 : decode prog_1_method_23_code 56 = .ok (.iload_n 2, 1) := by decide +kernel
theorem dSx_moved_57 : decode prog_1_method_23_code 57 = .ok (.goto 12, 3) := by decide +kernel
theorem dSx_moved_60 : decode prog_1_method_23_code 60 = .ok (.aload_n 0, 1) := by decide +kernel
theorem dSx_moved_61 : decode prog_1_method_23_code 61 = .ok (.getfield 64, 3) := by decide +kernel
theorem dSx_moved_64 : decode prog_1_method_23_code 64 = .ok (.getfield 245, 3) := by decide +kernel
theorem dSx_moved_67 : decode prog_1_method_23_code 67 = .ok (.iload_n 1, 1) := by decide +kernel
theorem dSx_moved_68 : decode prog_1_method_23_code 68 = .ok (.iaload, 1) := by decide +kernel
theorem dSx_moved_69 : decode prog_1_method_23_code 69 = .ok (.ireturn, 1) := by decide +kernel
theorem dSx_moved_70 : decode prog_1_method_23_code 70 = .ok (.iinc 2 1, 3) := by decide +kernel
theorem dSx_moved_73 : decode prog_1_method_23_code 73 = .ok (.goto (-48), 3) := by decide +kernel
theorem dSx_moved_76 : decode prog_1_method_23_code 76 = .ok (.iconst (-1), 1) := by decide +kernel
theorem dSx_moved_77 : decode prog_1_method_23_code 77 = .ok (.ireturn, 1) := by decide +kernel
theorem dSx_alone_0 : decode prog_1_method_24_code 0 = .ok (.iconst 0, 1) := by decide +kernel
theorem dSx_alone_1 : decode prog_1_method_24_code 1 = .ok (.istore_n 1, 1) := by decide +kernel
theorem dSx_alone_2 : decode prog_1_method_24_code 2 = .ok (.aload_n 0, 1) := by decide +kernel
theorem dSx_alone_3 : decode prog_1_method_24_code 3 = .ok (.invokevirtual 143, 3) := by decide +kernel
theorem dSx_alone_6 : decode prog_1_method_24_code 6 = .ok (.istore_n 2, 1) := by decide +kernel
theorem dSx_alone_7 : decode prog_1_method_24_code 7 = .ok (.iconst 0, 1) := by decide +kernel
theorem dSx_alone_8 : decode prog_1_method_24_code 8 = .ok (.istore_n 3, 1) := by decide +kernel
theorem dSx_alone_9 : decode prog_1_method_24_code 9 = .ok (.iload_n 3, 1) := by decide +kernel
theorem dSx_alone_10 : decode prog_1_method_24_code 10 = .ok (.aload_n 0, 1) := by decide +kernel
theorem dSx_alone_11 : decode prog_1_method_24_code 11 = .ok (.getfield 12, 3) := by decide +kernel
theorem dSx_alone_14 : decode prog_1_method_24_code 14 = .ok (.getfield 89, 3) := by decide +kernel
theorem dSx_alone_17 : decode prog_1_method_24_code 17 = .ok (.if_icmp .ge 35, 3) := by decide +kernel
theorem dSx_alone_20 : decode prog_1_method_24_code 20 = .ok (.aload_n 0, 1) := by decide +kernel
theorem dSx_alone_21 : decode prog_1_method_24_code 21 = .ok (.getfield 12, 3) := by decide +kernel
theorem dSx_alone_24 : decode prog_1_method_24_code 24 = .ok (.iload_n 3, 1) := by decide +kernel
theorem dSx_alone_25 : decode prog_1_method_24_code 25 = .ok (.invokevirtual 115, 3) := by decide +kernel
theorem dSx_alone_28 : decode prog_1_method_24_code 28 = .ok (.ifCond .ne 18, 3) := by decide +kernel
theorem dSx_alone_31 : decode prog_1_method_24_code 31 = .ok (.aload_n 0, 1) := by decide +kernel
theorem dSx_alone_32 : decode prog_1_method_24_code 32 = .ok (.iload_n 3, 1) := by decide +kernel
theorem dSx_alone_33 : decode prog_1_method_24_code 33 = .ok (.iload_n 2, 1) := by decide +kernel
theorem dSx_alone_34 : decode prog_1_method_24_code 34 = .ok (.invokevirtual 251, 3) := by decide +kernel
theorem dSx_alone_37 : decode prog_1_method_24_code 37 = .ok (.ifCond .eq 9, 3) := by decide +kernel
theorem dSx_alone_40 : decode prog_1_method_24_code 40 = .ok (.iload_n 1, 1) := by decide +kernel
theorem dSx_alone_41 : decode prog_1_method_24_code 41 = .ok (.iconst 1, 1) := by decide +kernel
theorem dSx_alone_42 : decode prog_1_method_24_code 42 = .ok (.iload_n 3, 1) := by decide +kernel
theorem dSx_alone_43 : decode prog_1_method_24_code 43 = .ok (.ishl, 1) := by decide +kernel
theorem dSx_alone_44 : decode prog_1_method_24_code 44 = .ok (.ior, 1) := by decide +kernel
theorem dSx_alone_45 : decode prog_1_method_24_code 45 = .ok (.istore_n 1, 1) := by decide +kernel
theorem dSx_alone_46 : decode prog_1_method_24_code 46 = .ok (.iinc 3 1, 3) := by decide +kernel
theorem dSx_alone_49 : decode prog_1_method_24_code 49 = .ok (.goto (-40), 3) := by decide +kernel
theorem dSx_alone_52 : decode prog_1_method_24_code 52 = .ok (.iload_n 1, 1) := by decide +kernel
theorem dSx_alone_53 : decode prog_1_method_24_code 53 = .ok (.ireturn, 1) := by decide +kernel
theorem dSx_exchanged_0 : decode prog_1_method_25_code 0 = .ok (.aload_n 0, 1) := by decide +kernel
theorem dSx_exchanged_1 : decode prog_1_method_25_code 1 = .ok (.invokevirtual 143, 3) := by decide +kernel
theorem dSx_exchanged_4 : decode prog_1_method_25_code 4 = .ok (.istore_n 2, 1) := by decide +kernel
theorem dSx_exchanged_5 : decode prog_1_method_25_code 5 = .ok (.iload_n 2, 1) := by decide +kernel
theorem dSx_exchanged_6 : decode prog_1_method_25_code 6 = .ok (.invokestatic 138, 3) := by decide +kernel
theorem dSx_exchanged_9 : decode prog_1_method_25_code 9 = .ok (.istore_n 3, 1) := by decide +kernel
theorem dSx_exchanged_10 : decode prog_1_method_25_code 10 = .ok (.iconst (-1), 1) := by decide +kernel
theorem dSx_exchanged_11 : decode prog_1_method_25_code 11 = .ok (.istore 4, 2) := by decide +kernel
theorem dSx_exchanged_13 : decode prog_1_method_25_code 13 = .ok (.iconst 0, 1) := by decide +kernel
theorem dSx_exchanged_14 : decode prog_1_method_25_code 14 = .ok (.istore 5, 2) := by decide +kernel
theorem dSx_exchanged_16 : decode prog_1_method_25_code 16 = .ok (.iload 5, 2) := by decide +kernel
theorem dSx_exchanged_18 : decode prog_1_method_25_code 18 = .ok (.aload_n 0, 1) := by decide +kernel
theorem dSx_exchanged_19 : decode prog_1_method_25_code 19 = .ok (.getfield 12, 3) := by decide +kernel
theorem dSx_exchanged_22 : decode prog_1_method_25_code 22 = .ok (.getfield 89, 3) := by decide +kernel
theorem dSx_exchanged_25 : decode prog_1_method_25_code 25 = .ok (.if_icmp .ge 78, 3) := by decide +kernel
theorem dSx_exchanged_28 : decode prog_1_method_25_code 28 = .ok (.iload 5, 2) := by decide +kernel
theorem dSx_exchanged_30 : decode prog_1_method_25_code 30 = .ok (.iconst 1, 1) := by decide +kernel
theorem dSx_exchanged_31 : decode prog_1_method_25_code 31 = .ok (.iadd, 1) := by decide +kernel
theorem dSx_exchanged_32 : decode prog_1_method_25_code 32 = .ok (.istore 6, 2) := by decide +kernel
theorem dSx_exchanged_34 : decode prog_1_method_25_code 34 = .ok (.iload 6, 2) := by decide +kernel
theorem dSx_exchanged_36 : decode prog_1_method_25_code 36 = .ok (.aload_n 0, 1) := by decide +kernel
theorem dSx_exchanged_37 : decode prog_1_method_25_code 37 = .ok (.getfield 12, 3) := by decide +kernel
theorem dSx_exchanged_40 : decode prog_1_method_25_code 40 = .ok (.getfield 89, 3) := by decide +kernel
theorem dSx_exchanged_43 : decode prog_1_method_25_code 43 = .ok (.if_icmp .ge 54, 3) := by decide +kernel
theorem dSx_exchanged_46 : decode prog_1_method_25_code 46 = .ok (.aload_n 0, 1) := by decide +kernel
theorem dSx_exchanged_47 : decode prog_1_method_25_code 47 = .ok (.iload 5, 2) := by decide +kernel
theorem dSx_exchanged_49 : decode prog_1_method_25_code 49 = .ok (.iload 6, 2) := by decide +kernel
theorem dSx_exchanged_51 : decode prog_1_method_25_code 51 = .ok (.invokevirtual 254, 3) := by decide +kernel
theorem dSx_exchanged_54 : decode prog_1_method_25_code 54 = .ok (.ifCond .eq 37, 3) := by decide +kernel
theorem dSx_exchanged_57 : decode prog_1_method_25_code 57 = .ok (.iload_n 2, 1) := by decide +kernel
theorem dSx_exchanged_58 : decode prog_1_method_25_code 58 = .ok (.aload_n 0, 1) := by decide +kernel
theorem dSx_exchanged_59 : decode prog_1_method_25_code 59 = .ok (.iload 5, 2) := by decide +kernel
theorem dSx_exchanged_61 : decode prog_1_method_25_code 61 = .ok (.iload 6, 2) := by decide +kernel
theorem dSx_exchanged_63 : decode prog_1_method_25_code 63 = .ok (.invokevirtual 257, 3) := by decide +kernel
theorem dSx_exchanged_66 : decode prog_1_method_25_code 66 = .ok (.iadd, 1) := by decide +kernel
theorem dSx_exchanged_67 : decode prog_1_method_25_code 67 = .ok (.invokestatic 138, 3) := by decide +kernel
theorem dSx_exchanged_70 : decode prog_1_method_25_code 70 = .ok (.istore 7, 2) := by decide +kernel
theorem dSx_exchanged_72 : decode prog_1_method_25_code 72 = .ok (.iload 7, 2) := by decide +kernel
theorem dSx_exchanged_74 : decode prog_1_method_25_code 74 = .ok (.iload_n 3, 1) := by decide +kernel
theorem dSx_exchanged_75 : decode prog_1_method_25_code 75 = .ok (.if_icmp .ge 16, 3) := by decide +kernel
theorem dSx_exchanged_78 : decode prog_1_method_25_code 78 = .ok (.iload 7, 2) := by decide +kernel
theorem dSx_exchanged_80 : decode prog_1_method_25_code 80 = .ok (.istore_n 3, 1) := by decide +kernel
theorem dSx_exchanged_81 : decode prog_1_method_25_code 81 = .ok (.bipush 10, 2) := by decide +kernel
theorem dSx_exchanged_83 : decode prog_1_method_25_code 83 = .ok (.iload 5, 2) := by decide +kernel
theorem dSx_exchanged_85 : decode prog_1_method_25_code 85 = .ok (.imul, 1) := by decide +kernel
theorem dSx_exchanged_86 : decode prog_1_method_25_code 86 = .ok (.iload 6, 2) := by decide +kernel
theorem dSx_exchanged_88 : decode prog_1_method_25_code 88 = .ok (.iadd, 1) := by decide +kernel
theorem dSx_exchanged_89 : decode prog_1_method_25_code 89 = .ok (.istore 4, 2) := by decide +kernel
theorem dSx_exchanged_91 : decode prog_1_method_25_code 91 = .ok (.iinc 6 1, 3) := by decide +kernel
theorem dSx_exchanged_94 : decode prog_1_method_25_code 94 = .ok (.goto (-60), 3) := by decide +kernel
theorem dSx_exchanged_97 : decode prog_1_method_25_code 97 = .ok (.iinc 5 1, 3) := by decide +kernel
theorem dSx_exchanged_100 : decode prog_1_method_25_code 100 = .ok (.goto (-84), 3) := by decide +kernel
theorem dSx_exchanged_103 : decode prog_1_method_25_code 103 = .ok (.iload 4, 2) := by decide +kernel
theorem dSx_exchanged_105 : decode prog_1_method_25_code 105 = .ok (.iconst (-1), 1) := by decide +kernel
theorem dSx_exchanged_106 : decode prog_1_method_25_code 106 = .ok (.if_icmp .eq 12, 3) := by decide +kernel
theorem dSx_exchanged_109 : decode prog_1_method_25_code 109 = .ok (.iload_n 1, 1) := by decide +kernel
theorem dSx_exchanged_110 : decode prog_1_method_25_code 110 = .ok (.ifCond .lt 8, 3) := by decide +kernel
theorem dSx_exchanged_113 : decode prog_1_method_25_code 113 = .ok (.iload_n 1, 1) := by decide +kernel
theorem dSx_exchanged_114 : decode prog_1_method_25_code 114 = .ok (.iconst 1, 1) := by decide +kernel
theorem dSx_exchanged_115 : decode prog_1_method_25_code 115 = .ok (.if_icmp .le 5, 3) := by decide +kernel
theorem dSx_exchanged_118 : decode prog_1_method_25_code 118 = .ok (.iconst (-1), 1) := by decide +kernel
theorem dSx_exchanged_119 : decode prog_1_method_25_code 119 = .ok (.ireturn, 1) := by decide +kernel
theorem dSx_exchanged_120 : decode prog_1_method_25_code 120 = .ok (.iload_n 1, 1) := by decide +kernel
theorem dSx_exchanged_121 : decode prog_1_method_25_code 121 = .ok (.ifCond .ne 8, 3) := by decide +kernel
theorem dSx_exchanged_124 : decode prog_1_method_25_code 124 = .ok (.iload 4, 2) := by decide +kernel
theorem dSx_exchanged_126 : decode prog_1_method_25_code 126 = .ok (.goto 4, 3) := by decide +kernel
theorem dSx_exchanged_129 : decode prog_1_method_25_code 129 = .ok (.iload_n 3, 1) := by decide +kernel
theorem dSx_exchanged_130 : decode prog_1_method_25_code 130 = .ok (.ireturn, 1) := by decide +kernel
theorem dSx_off_0 : decode prog_1_method_27_code 0 = .ok (.aload_n 0, 1) := by decide +kernel
theorem dSx_off_1 : decode prog_1_method_27_code 1 = .ok (.getfield 12, 3) := by decide +kernel
theorem dSx_off_4 : decode prog_1_method_27_code 4 = .ok (.invokevirtual 263, 3) := by decide +kernel
theorem dSx_off_7 : decode prog_1_method_27_code 7 = .ok (.istore_n 2, 1) := by decide +kernel
theorem dSx_off_8 : decode prog_1_method_27_code 8 = .ok (.aload_n 0, 1) := by decide +kernel
theorem dSx_off_9 : decode prog_1_method_27_code 9 = .ok (.invokevirtual 266, 3) := by decide +kernel
theorem dSx_off_12 : decode prog_1_method_27_code 12 = .ok (.aload_n 0, 1) := by decide +kernel
theorem dSx_off_13 : decode prog_1_method_27_code 13 = .ok (.iload_n 2, 1) := by decide +kernel
theorem dSx_off_14 : decode prog_1_method_27_code 14 = .ok (.invokevirtual 269, 3) := by decide +kernel
theorem dSx_off_17 : decode prog_1_method_27_code 17 = .ok (.iload_n 1, 1) := by decide +kernel
theorem dSx_off_18 : decode prog_1_method_27_code 18 = .ok (.iconst (-1), 1) := by decide +kernel
theorem dSx_off_19 : decode prog_1_method_27_code 19 = .ok (.if_icmp .ne 10, 3) := by decide +kernel
theorem dSx_off_22 : decode prog_1_method_27_code 22 = .ok (.aload_n 0, 1) := by decide +kernel
theorem dSx_off_23 : decode prog_1_method_27_code 23 = .ok (.getfield 71, 3) := by decide +kernel
theorem dSx_off_26 : decode prog_1_method_27_code 26 = .ok (.iload_n 2, 1) := by decide +kernel
theorem dSx_off_27 : decode prog_1_method_27_code 27 = .ok (.iaload, 1) := by decide +kernel
theorem dSx_off_28 : decode prog_1_method_27_code 28 = .ok (.ireturn, 1) := by decide +kernel
theorem dSx_off_29 : decode prog_1_method_27_code 29 = .ok (.iload_n 1, 1) := by decide +kernel
theorem dSx_off_30 : decode prog_1_method_27_code 30 = .ok (.ifCond .lt 20, 3) := by decide +kernel
theorem dSx_off_33 : decode prog_1_method_27_code 33 = .ok (.iload_n 1, 1) := by decide +kernel
theorem dSx_off_34 : decode prog_1_method_27_code 34 = .ok (.iload_n 2, 1) := by decide +kernel
theorem dSx_off_35 : decode prog_1_method_27_code 35 = .ok (.invokestatic 272, 3) := by decide +kernel
theorem dSx_off_38 : decode prog_1_method_27_code 38 = .ok (.if_icmp .ge 12, 3) := by decide +kernel
theorem dSx_off_41 : decode prog_1_method_27_code 41 = .ok (.aload_n 0, 1) := by decide +kernel
theorem dSx_off_42 : decode prog_1_method_27_code 42 = .ok (.getfield 71, 3) := by decide +kernel
theorem dSx_off_45 : decode prog_1_method_27_code 45 = .ok (.iload_n 2, 1) := by decide +kernel
theorem dSx_off_46 : decode prog_1_method_27_code 46 = .ok (.iaload, 1) := by decide +kernel
theorem dSx_off_47 : decode prog_1_method_27_code 47 = .ok (.ifCond .ne 5, 3) := by decide +kernel
theorem dSx_off_50 : decode prog_1_method_27_code 50 = .ok (.iconst (-1), 1) := by decide +kernel
theorem dSx_off_51 : decode prog_1_method_27_code 51 = .ok (.ireturn, 1) := by decide +kernel
theorem dSx_off_52 : decode prog_1_method_27_code 52 = .ok (.iconst (-1), 1) := by decide +kernel
theorem dSx_off_53 : decode prog_1_method_27_code 53 = .ok (.istore_n 3, 1) := by decide +kernel
theorem dSx_off_54 : decode prog_1_method_27_code 54 = .ok (.iconst 0, 1) := by decide +kernel
theorem dSx_off_55 : decode prog_1_method_27_code 55 = .ok (.istore 4, 2) := by decide +kernel
theorem dSx_off_57 : decode prog_1_method_27_code 57 = .ok (.iload 4, 2) := by decide +kernel
theorem dSx_off_59 : decode prog_1_method_27_code 59 = .ok (.iload_n 1, 1) := by decide +kernel
theorem dSx_off_60 : decode prog_1_method_27_code 60 = .ok (.if_icmp .gt 30, 3) := by decide +kernel
theorem dSx_off_63 : decode prog_1_method_27_code 63 = .ok (.aload_n 0, 1) := by decide +kernel
theorem dSx_off_64 : decode prog_1_method_27_code 64 = .ok (.iload_n 2, 1) := by decide +kernel
theorem dSx_off_65 : decode prog_1_method_27_code 65 = .ok (.invokevirtual 277, 3) := by decide +kernel
theorem dSx_off_68 : decode prog_1_method_27_code 68 = .ok (.istore_n 3, 1) := by decide +kernel
theorem dSx_off_69 : decode prog_1_method_27_code 69 = .ok (.iload_n 3, 1) := by decide +kernel
theorem dSx_off_70 : decode prog_1_method_27_code 70 = .ok (.iconst (-1), 1) := by decide +kernel
theorem dSx_off_71 : decode prog_1_method_27_code 71 = .ok (.if_icmp .ne 5, 3) := by decide +kernel
theorem dSx_off_74 : decode prog_1_method_27_code 74 = .ok (.iconst (-1), 1) := by decide +kernel
theorem dSx_off_75 : decode prog_1_method_27_code 75 = .ok (.ireturn, 1) := by decide +kernel
theorem dSx_off_76 : decode prog_1_method_27_code 76 = .ok (.iload_n 2, 1) := by decide +kernel
theorem dSx_off_77 : decode prog_1_method_27_code 77 = .ok (.iconst 1, 1) := by decide +kernel
theorem dSx_off_78 : decode prog_1_method_27_code 78 = .ok (.iload_n 3, 1) := by decide +kernel
theorem dSx_off_79 : decode prog_1_method_27_code 79 = .ok (.ishl, 1) := by decide +kernel
theorem dSx_off_80 : decode prog_1_method_27_code 80 = .ok (.iconst (-1), 1) := by decide +kernel
theorem dSx_off_81 : decode prog_1_method_27_code 81 = .ok (.ixor, 1) := by decide +kernel
theorem dSx_off_82 : decode prog_1_method_27_code 82 = .ok (.iand, 1) := by decide +kernel
theorem dSx_off_83 : decode prog_1_method_27_code 83 = .ok (.istore_n 2, 1) := by decide +kernel
theorem dSx_off_84 : decode prog_1_method_27_code 84 = .ok (.iinc 4 1, 3) := by decide +kernel
theorem dSx_off_87 : decode prog_1_method_27_code 87 = .ok (.goto (-30), 3) := by decide +kernel
theorem dSx_off_90 : decode prog_1_method_27_code 90 = .ok (.iload_n 3, 1) := by decide +kernel
theorem dSx_off_91 : decode prog_1_method_27_code 91 = .ok (.ireturn, 1) := by decide +kernel
theorem dSx_byTurns_0 : decode prog_1_method_28_code 0 = .ok (.aload_n 0, 1) := by decide +kernel
theorem dSx_byTurns_1 : decode prog_1_method_28_code 1 = .ok (.getfield 12, 3) := by decide +kernel
theorem dSx_byTurns_4 : decode prog_1_method_28_code 4 = .ok (.invokevirtual 263, 3) := by decide +kernel
theorem dSx_byTurns_7 : decode prog_1_method_28_code 7 = .ok (.istore_n 2, 1) := by decide +kernel
theorem dSx_byTurns_8 : decode prog_1_method_28_code 8 = .ok (.aload_n 0, 1) := by decide +kernel
theorem dSx_byTurns_9 : decode prog_1_method_28_code 9 = .ok (.invokevirtual 266, 3) := by decide +kernel
theorem dSx_byTurns_12 : decode prog_1_method_28_code 12 = .ok (.aload_n 0, 1) := by decide +kernel
theorem dSx_byTurns_13 : decode prog_1_method_28_code 13 = .ok (.iload_n 2, 1) := by decide +kernel
theorem dSx_byTurns_14 : decode prog_1_method_28_code 14 = .ok (.invokevirtual 280, 3) := by decide +kernel
theorem dSx_byTurns_17 : decode prog_1_method_28_code 17 = .ok (.iload_n 1, 1) := by decide +kernel
theorem dSx_byTurns_18 : decode prog_1_method_28_code 18 = .ok (.ifCond .ne 10, 3) := by decide +kernel
theorem dSx_byTurns_21 : decode prog_1_method_28_code 21 = .ok (.aload_n 0, 1) := by decide +kernel
theorem dSx_byTurns_22 : decode prog_1_method_28_code 22 = .ok (.getfield 71, 3) := by decide +kernel
theorem dSx_byTurns_25 : decode prog_1_method_28_code 25 = .ok (.iload_n 2, 1) := by decide +kernel
theorem dSx_byTurns_26 : decode prog_1_method_28_code 26 = .ok (.iaload, 1) := by decide +kernel
theorem dSx_byTurns_27 : decode prog_1_method_28_code 27 = .ok (.ireturn, 1) := by decide +kernel
theorem dSx_byTurns_28 : decode prog_1_method_28_code 28 = .ok (.iload_n 1, 1) := by decide +kernel
theorem dSx_byTurns_29 : decode prog_1_method_28_code 29 = .ok (.iconst 1, 1) := by decide +kernel
theorem dSx_byTurns_30 : decode prog_1_method_28_code 30 = .ok (.if_icmp .ne 11, 3) := by decide +kernel
theorem dSx_byTurns_33 : decode prog_1_method_28_code 33 = .ok (.aload_n 0, 1) := by decide +kernel
theorem dSx_byTurns_34 : decode prog_1_method_28_code 34 = .ok (.iload_n 2, 1) := by decide +kernel
theorem dSx_byTurns_35 : decode prog_1_method_28_code 35 = .ok (.invokevirtual 283, 3) := by decide +kernel
theorem dSx_byTurns_38 : decode prog_1_method_28_code 38 = .ok (.goto 4, 3) := by decide +kernel
theorem dSx_byTurns_41 : decode prog_1_method_28_code 41 = .ok (.iconst (-1), 1) := by decide +kernel
theorem dSx_byTurns_42 : decode prog_1_method_28_code 42 = .ok (.ireturn, 1) := by decide +kernel
theorem dSx_runsOnce_0 : decode prog_1_method_52_code 0 = .ok (.aload_n 0, 1) := by decide +kernel
theorem dSx_runsOnce_1 : decode prog_1_method_52_code 1 = .ok (.invokevirtual 346, 3) := by decide +kernel
theorem dSx_runsOnce_4 : decode prog_1_method_52_code 4 = .ok (.aload_n 1, 1) := by decide +kernel
theorem dSx_runsOnce_5 : decode prog_1_method_52_code 5 = .ok (.getfield 349, 3) := by decide +kernel
theorem dSx_runsOnce_8 : decode prog_1_method_52_code 8 = .ok (.iload_n 2, 1) := by decide +kernel
theorem dSx_runsOnce_9 : decode prog_1_method_52_code 9 = .ok (.iaload, 1) := by decide +kernel
theorem dSx_runsOnce_10 : decode prog_1_method_52_code 10 = .ok (.istore_n 3, 1) := by decide +kernel
theorem dSx_runsOnce_11 : decode prog_1_method_52_code 11 = .ok (.iload_n 3, 1) := by decide +kernel
theorem dSx_runsOnce_12 : decode prog_1_method_52_code 12 = .ok (.iconst (-1), 1) := by decide +kernel
theorem dSx_runsOnce_13 : decode prog_1_method_52_code 13 = .ok (.if_icmp .eq 31, 3) := by decide +kernel
theorem dSx_runsOnce_16 : decode prog_1_method_52_code 16 = .ok (.aload_n 0, 1) := by decide +kernel
theorem dSx_runsOnce_17 : decode prog_1_method_52_code 17 = .ok (.getfield 53, 3) := by decide +kernel
theorem dSx_runsOnce_20 : decode prog_1_method_52_code 20 = .ok (.aload_n 1, 1) := by decide +kernel
theorem dSx_runsOnce_21 : decode prog_1_method_52_code 21 = .ok (.iload_n 3, 1) := by decide +kernel
theorem dSx_runsOnce_22 : decode prog_1_method_52_code 22 = .ok (.aload_n 0, 1) := by decide +kernel
theorem dSx_runsOnce_23 : decode prog_1_method_52_code 23 = .ok (.getfield 57, 3) := by decide +kernel
theorem dSx_runsOnce_26 : decode prog_1_method_52_code 26 = .ok (.invokevirtual 352, 3) := by decide +kernel
theorem dSx_runsOnce_29 : decode prog_1_method_52_code 29 = .ok (.ifCond .eq 13, 3) := by decide +kernel
theorem dSx_runsOnce_32 : decode prog_1_method_52_code 32 = .ok (.aload_n 0, 1) := by decide +kernel
theorem dSx_runsOnce_33 : decode prog_1_method_52_code 33 = .ok (.getfield 53, 3) := by decide +kernel
theorem dSx_runsOnce_36 : decode prog_1_method_52_code 36 = .ok (.getfield 356, 3) := by decide +kernel
theorem dSx_runsOnce_39 : decode prog_1_method_52_code 39 = .ok (.ifCond .ne 5, 3) := by decide +kernel
theorem dSx_runsOnce_42 : decode prog_1_method_52_code 42 = .ok (.iconst 1, 1) := by decide +kernel
theorem dSx_runsOnce_43 : decode prog_1_method_52_code 43 = .ok (.ireturn, 1) := by decide +kernel
theorem dSx_runsOnce_44 : decode prog_1_method_52_code 44 = .ok (.aload_n 1, 1) := by decide +kernel
theorem dSx_runsOnce_45 : decode prog_1_method_52_code 45 = .ok (.getfield 359, 3) := by decide +kernel
theorem dSx_runsOnce_48 : decode prog_1_method_52_code 48 = .ok (.iload_n 2, 1) := by decide +kernel
theorem dSx_runsOnce_49 : decode prog_1_method_52_code 49 = .ok (.iaload, 1) := by decide +kernel
theorem dSx_runsOnce_50 : decode prog_1_method_52_code 50 = .ok (.istore 4, 2) := by decide +kernel
theorem dSx_runsOnce_52 : decode prog_1_method_52_code 52 = .ok (.iload 4, 2) := by decide +kernel
theorem dSx_runsOnce_54 : decode prog_1_method_52_code 54 = .ok (.iconst 3, 1) := by decide +kernel
theorem dSx_runsOnce_55 : decode prog_1_method_52_code 55 = .ok (.if_icmp .eq 26, 3) := by decide +kernel
theorem dSx_runsOnce_58 : decode prog_1_method_52_code 58 = .ok (.aload_n 0, 1) := by decide +kernel
theorem dSx_runsOnce_59 : decode prog_1_method_52_code 59 = .ok (.getfield 53, 3) := by decide +kernel
theorem dSx_runsOnce_62 : decode prog_1_method_52_code 62 = .ok (.aload_n 1, 1) := by decide +kernel
theorem dSx_runsOnce_63 : decode prog_1_method_52_code 63 = .ok (.aload_n 1, 1) := by decide +kernel
theorem dSx_runsOnce_64 : decode prog_1_method_52_code 64 = .ok (.getfield 362, 3) := by decide +kernel
theorem dSx_runsOnce_67 : decode prog_1_method_52_code 67 = .ok (.iload_n 2, 1) := by decide +kernel
theorem dSx_runsOnce_68 : decode prog_1_method_52_code 68 = .ok (.iaload, 1) := by decide +kernel
theorem dSx_runsOnce_69 : decode prog_1_method_52_code 69 = .ok (.aload_n 0, 1) := by decide +kernel
theorem dSx_runsOnce_70 : decode prog_1_method_52_code 70 = .ok (.getfield 57, 3) := by decide +kernel
theorem dSx_runsOnce_73 : decode prog_1_method_52_code 73 = .ok (.invokevirtual 352, 3) := by decide +kernel
theorem dSx_runsOnce_76 : decode prog_1_method_52_code 76 = .ok (.ifCond .ne 5, 3) := by decide +kernel
theorem dSx_runsOnce_79 : decode prog_1_method_52_code 79 = .ok (.iconst 0, 1) := by decide +kernel
theorem dSx_runsOnce_80 : decode prog_1_method_52_code 80 = .ok (.ireturn, 1) := by decide +kernel
theorem dSx_runsOnce_81 : decode prog_1_method_52_code 81 = .ok (.aload_n 0, 1) := by decide +kernel
theorem dSx_runsOnce_82 : decode prog_1_method_52_code 82 = .ok (.getfield 53, 3) := by decide +kernel
theorem dSx_runsOnce_85 : decode prog_1_method_52_code 85 = .ok (.getfield 356, 3) := by decide +kernel
theorem dSx_runsOnce_88 : decode prog_1_method_52_code 88 = .ok (.istore 5, 2) := by decide +kernel
theorem dSx_runsOnce_90 : decode prog_1_method_52_code 90 = .ok (.iload 4, 2) := by decide +kernel
theorem dSx_runsOnce_92 : decode prog_1_method_52_code 92 = .ok (.ifCond .eq 9, 3) := by decide +kernel
theorem dSx_runsOnce_95 : decode prog_1_method_52_code 95 = .ok (.iload 4, 2) := by decide +kernel
theorem dSx_runsOnce_97 : decode prog_1_method_52_code 97 = .ok (.iconst 2, 1) := by decide +kernel
theorem dSx_runsOnce_98 : decode prog_1_method_52_code 98 = .ok (.if_icmp .ne 26, 3) := by decide +kernel
theorem dSx_runsOnce_101 : decode prog_1_method_52_code 101 = .ok (.aload_n 0, 1) := by decide +kernel
theorem dSx_runsOnce_102 : decode prog_1_method_52_code 102 = .ok (.getfield 53, 3) := by decide +kernel
theorem dSx_runsOnce_105 : decode prog_1_method_52_code 105 = .ok (.aload_n 1, 1) := by decide +kernel
theorem dSx_runsOnce_106 : decode prog_1_method_52_code 106 = .ok (.aload_n 1, 1) := by decide +kernel
theorem dSx_runsOnce_107 : decode prog_1_method_52_code 107 = .ok (.getfield 363, 3) := by decide +kernel
theorem dSx_runsOnce_110 : decode prog_1_method_52_code 110 = .ok (.iload_n 2, 1) := by decide +kernel
theorem dSx_runsOnce_111 : decode prog_1_method_52_code 111 = .ok (.iaload, 1) := by decide +kernel
theorem dSx_runsOnce_112 : decode prog_1_method_52_code 112 = .ok (.aload_n 0, 1) := by decide +kernel
theorem dSx_runsOnce_113 : decode prog_1_method_52_code 113 = .ok (.getfield 57, 3) := by decide +kernel
theorem dSx_runsOnce_116 : decode prog_1_method_52_code 116 = .ok (.invokevirtual 352, 3) := by decide +kernel
theorem dSx_runsOnce_119 : decode prog_1_method_52_code 119 = .ok (.ifCond .ne 5, 3) := by decide +kernel
theorem dSx_runsOnce_122 : decode prog_1_method_52_code 122 = .ok (.iconst 0, 1) := by decide +kernel
theorem dSx_runsOnce_123 : decode prog_1_method_52_code 123 = .ok (.ireturn, 1) := by decide +kernel
theorem dSx_runsOnce_124 : decode prog_1_method_52_code 124 = .ok (.aload_n 0, 1) := by decide +kernel
theorem dSx_runsOnce_125 : decode prog_1_method_52_code 125 = .ok (.getfield 53, 3) := by decide +kernel
theorem dSx_runsOnce_128 : decode prog_1_method_52_code 128 = .ok (.getfield 356, 3) := by decide +kernel
theorem dSx_runsOnce_131 : decode prog_1_method_52_code 131 = .ok (.istore 6, 2) := by decide +kernel
theorem dSx_runsOnce_133 : decode prog_1_method_52_code 133 = .ok (.iload 4, 2) := by decide +kernel
theorem dSx_runsOnce_135 : decode prog_1_method_52_code 135 = .ok (.ifCond .ne 14, 3) := by decide +kernel
theorem dSx_runsOnce_138 : decode prog_1_method_52_code 138 = .ok (.aload_n 0, 1) := by decide +kernel
theorem dSx_runsOnce_139 : decode prog_1_method_52_code 139 = .ok (.iload 5, 2) := by decide +kernel
theorem dSx_runsOnce_141 : decode prog_1_method_52_code 141 = .ok (.iload 6, 2) := by decide +kernel
theorem dSx_runsOnce_143 : decode prog_1_method_52_code 143 = .ok (.invokevirtual 216, 3) := by decide +kernel
theorem dSx_runsOnce_146 : decode prog_1_method_52_code 146 = .ok (.goto 39, 3) := by decide +kernel
theorem dSx_runsOnce_149 : decode prog_1_method_52_code 149 = .ok (.iload 4, 2) := by decide +kernel
theorem dSx_runsOnce_151 : decode prog_1_method_52_code 151 = .ok (.iconst 1, 1) := by decide +kernel
theorem dSx_runsOnce_152 : decode prog_1_method_52_code 152 = .ok (.if_icmp .ne 12, 3) := by decide +kernel
theorem dSx_runsOnce_155 : decode prog_1_method_52_code 155 = .ok (.aload_n 0, 1) := by decide +kernel
theorem dSx_runsOnce_156 : decode prog_1_method_52_code 156 = .ok (.iload 5, 2) := by decide +kernel
theorem dSx_runsOnce_158 : decode prog_1_method_52_code 158 = .ok (.invokevirtual 219, 3) := by decide +kernel
theorem dSx_runsOnce_161 : decode prog_1_method_52_code 161 = .ok (.goto 24, 3) := by decide +kernel
theorem dSx_runsOnce_164 : decode prog_1_method_52_code 164 = .ok (.iload 4, 2) := by decide +kernel
theorem dSx_runsOnce_166 : decode prog_1_method_52_code 166 = .ok (.iconst 2, 1) := by decide +kernel
theorem dSx_runsOnce_167 : decode prog_1_method_52_code 167 = .ok (.if_icmp .ne 14, 3) := by decide +kernel
theorem dSx_runsOnce_170 : decode prog_1_method_52_code 170 = .ok (.aload_n 0, 1) := by decide +kernel
theorem dSx_runsOnce_171 : decode prog_1_method_52_code 171 = .ok (.iload 5, 2) := by decide +kernel
theorem dSx_runsOnce_173 : decode prog_1_method_52_code 173 = .ok (.iload 6, 2) := by decide +kernel
theorem dSx_runsOnce_175 : decode prog_1_method_52_code 175 = .ok (.invokevirtual 222, 3) := by decide +kernel
theorem dSx_runsOnce_178 : decode prog_1_method_52_code 178 = .ok (.goto 7, 3) := by decide +kernel
theorem dSx_runsOnce_181 : decode prog_1_method_52_code 181 = .ok (.aload_n 0, 1) := by decide +kernel
theorem dSx_runsOnce_182 : decode prog_1_method_52_code 182 = .ok (.invokevirtual 225, 3) := by decide +kernel
theorem dSx_runsOnce_185 : decode prog_1_method_52_code 185 = .ok (.istore 7, 2) := by decide +kernel
theorem dSx_runsOnce_187 : decode prog_1_method_52_code 187 = .ok (.iload 7, 2) := by decide +kernel
theorem dSx_runsOnce_189 : decode prog_1_method_52_code 189 = .ok (.ifCond .ge 5, 3) := by decide +kernel
theorem dSx_runsOnce_192 : decode prog_1_method_52_code 192 = .ok (.iconst 0, 1) := by decide +kernel
theorem dSx_runsOnce_193 : decode prog_1_method_52_code 193 = .ok (.ireturn, 1) := by decide +kernel
theorem dSx_runsOnce_194 : decode prog_1_method_52_code 194 = .ok (.aload_n 0, 1) := by decide +kernel
theorem dSx_runsOnce_195 : decode prog_1_method_52_code 195 = .ok (.getfield 57, 3) := by decide +kernel
theorem dSx_runsOnce_198 : decode prog_1_method_52_code 198 = .ok (.iconst 1, 1) := by decide +kernel
theorem dSx_runsOnce_199 : decode prog_1_method_52_code 199 = .ok (.dup2, 1) := by decide +kernel
theorem dSx_runsOnce_200 : decode prog_1_method_52_code 200 = .ok (.iaload, 1) := by decide +kernel
theorem dSx_runsOnce_201 : decode prog_1_method_52_code 201 = .ok (.iconst 1, 1) := by decide +kernel
theorem dSx_runsOnce_202 : decode prog_1_method_52_code 202 = .ok (.iadd, 1) := by decide +kernel
theorem dSx_runsOnce_203 : decode prog_1_method_52_code 203 = .ok (.iastore, 1) := by decide +kernel
theorem dSx_runsOnce_204 : decode prog_1_method_52_code 204 = .ok (.iload 4, 2) := by decide +kernel
theorem dSx_runsOnce_206 : decode prog_1_method_52_code 206 = .ok (.ifCond .ne 16, 3) := by decide +kernel
theorem dSx_runsOnce_209 : decode prog_1_method_52_code 209 = .ok (.aload_n 0, 1) := by decide +kernel
theorem dSx_runsOnce_210 : decode prog_1_method_52_code 210 = .ok (.getfield 57, 3) := by decide +kernel
theorem dSx_runsOnce_213 : decode prog_1_method_52_code 213 = .ok (.iconst 2, 1) := by decide +kernel
theorem dSx_runsOnce_214 : decode prog_1_method_52_code 214 = .ok (.aload_n 0, 1) := by decide +kernel
theorem dSx_runsOnce_215 : decode prog_1_method_52_code 215 = .ok (.invokevirtual 143, 3) := by decide +kernel
theorem dSx_runsOnce_218 : decode prog_1_method_52_code 218 = .ok (.invokestatic 138, 3) := by decide +kernel
theorem dSx_runsOnce_221 : decode prog_1_method_52_code 221 = .ok (.iastore, 1) := by decide +kernel
theorem dSx_runsOnce_222 : decode prog_1_method_52_code 222 = .ok (.iconst 1, 1) := by decide +kernel
theorem dSx_runsOnce_223 : decode prog_1_method_52_code 223 = .ok (.ireturn, 1) := by decide +kernel
theorem dRe_placeOfSum_0 : decode prog_5_method_16_code 0 = .ok (.aload_n 0, 1) := by decide +kernel
theorem dRe_placeOfSum_1 : decode prog_5_method_16_code 1 = .ok (.getfield 20, 3) := by decide +kernel
theorem dRe_placeOfSum_4 : decode prog_5_method_16_code 4 = .ok (.getfield 44, 3) := by decide +kernel
theorem dRe_placeOfSum_7 : decode prog_5_method_16_code 7 = .ok (.istore_n 1, 1) := by decide +kernel
theorem dRe_placeOfSum_8 : decode prog_5_method_16_code 8 = .ok (.aload_n 0, 1) := by decide +kernel
theorem dRe_placeOfSum_9 : decode prog_5_method_16_code 9 = .ok (.invokevirtual 143, 3) := by decide +kernel
theorem dRe_placeOfSum_12 : decode prog_5_method_16_code 12 = .ok (.aload_n 0, 1) := by decide +kernel
theorem dRe_placeOfSum_13 : decode prog_5_method_16_code 13 = .ok (.iconst 0, 1) := by decide +kernel
theorem dRe_placeOfSum_14 : decode prog_5_method_16_code 14 = .ok (.iconst 0, 1) := by decide +kernel
theorem dRe_placeOfSum_15 : decode prog_5_method_16_code 15 = .ok (.invokevirtual 146, 3) := by decide +kernel
theorem dRe_placeOfSum_18 : decode prog_5_method_16_code 18 = .ok (.iload_n 1, 1) := by decide +kernel
theorem dRe_placeOfSum_19 : decode prog_5_method_16_code 19 = .ok (.ireturn, 1) := by decide +kernel
theorem dRe_readPlain_0 : decode prog_5_method_20_code 0 = .ok (.iconst 0, 1) := by decide +kernel
theorem dRe_readPlain_1 : decode prog_5_method_20_code 1 = .ok (.istore_n 1, 1) := by decide +kernel
theorem dRe_readPlain_2 : decode prog_5_method_20_code 2 = .ok (.iconst 0, 1) := by decide +kernel
theorem dRe_readPlain_3 : decode prog_5_method_20_code 3 = .ok (.istore_n 2, 1) := by decide +kernel
theorem dRe_readPlain_4 : decode prog_5_method_20_code 4 = .ok (.iload_n 2, 1) := by decide +kernel
theorem dRe_readPlain_5 : decode prog_5_method_20_code 5 = .ok (.sipush 400, 3) := by decide +kernel
theorem dRe_readPlain_8 : decode prog_5_method_20_code 8 = .ok (.if_icmp .ge 28, 3) := by decide +kernel
theorem dRe_readPlain_11 : decode prog_5_method_20_code 11 = .ok (.aload_n 0, 1) := by decide +kernel
theorem dRe_readPlain_12 : decode prog_5_method_20_code 12 = .ok (.ldc 171, 2) := by decide +kernel
theorem dRe_readPlain_14 : decode prog_5_method_20_code 14 = .ok (.invokevirtual 67, 3) := by decide +kernel
theorem dRe_readPlain_17 : decode prog_5_method_20_code 17 = .ok (.ifCond .eq 19, 3) := by decide +kernel
theorem dRe_readPlain_20 : decode prog_5_method_20_code 20 = .ok (.iload_n 1, 1) := by decide +kernel
theorem dRe_readPlain_21 : decode prog_5_method_20_code 21 = .ok (.ifCond .ne 7, 3) := by decide +kernel
theorem dRe_readPlain_24 : decode prog_5_method_20_code 24 = .ok (.iconst 1, 1) := by decide +kernel
theorem dRe_readPlain_25 : decode prog_5_method_20_code 25 = .ok (.goto 4, 3) := by decide +kernel
theorem dRe_readPlain_28 : decode prog_5_method_20_code 28 = .ok (.iconst 0, 1) := by decide +kernel
theorem dRe_readPlain_29 : decode prog_5_method_20_code 29 = .ok (.istore_n 1, 1) := by decide +kernel
theorem dRe_readPlain_30 : decode prog_5_method_20_code 30 = .ok (.iinc 2 1, 3) := by decide +kernel
theorem dRe_readPlain_33 : decode prog_5_method_20_code 33 = .ok (.goto (-29), 3) := by decide +kernel
theorem dRe_readPlain_36 : decode prog_5_method_20_code 36 = .ok (.aload_n 0, 1) := by decide +kernel
theorem dRe_readPlain_37 : decode prog_5_method_20_code 37 = .ok (.ldc 173, 2) := by decide +kernel
theorem dRe_readPlain_39 : decode prog_5_method_20_code 39 = .ok (.invokevirtual 90, 3) := by decide +kernel
theorem dRe_readPlain_42 : decode prog_5_method_20_code 42 = .ok (.ifCond .eq 23, 3) := by decide +kernel
theorem dRe_readPlain_45 : decode prog_5_method_20_code 45 = .ok (.aload_n 0, 1) := by decide +kernel
theorem dRe_readPlain_46 : decode prog_5_method_20_code 46 = .ok (.invokevirtual 175, 3) := by decide +kernel
theorem dRe_readPlain_49 : decode prog_5_method_20_code 49 = .ok (.ifCond .eq 89, 3) := by decide +kernel
theorem dRe_readPlain_52 : decode prog_5_method_20_code 52 = .ok (.aload_n 0, 1) := by decide +kernel
theorem dRe_readPlain_53 : decode prog_5_method_20_code 53 = .ok (.invokevirtual 155, 3) := by decide +kernel
theorem dRe_readPlain_56 : decode prog_5_method_20_code 56 = .ok (.aload_n 0, 1) := by decide +kernel
theorem dRe_readPlain_57 : decode prog_5_method_20_code 57 = .ok (.ldc 179, 2) := by decide +kernel
theorem dRe_readPlain_59 : decode prog_5_method_20_code 59 = .ok (.invokevirtual 181, 3) := by decide +kernel
theorem dRe_readPlain_62 : decode prog_5_method_20_code 62 = .ok (.goto 76, 3) := by decide +kernel
theorem dRe_readPlain_65 : decode prog_5_method_20_code 65 = .ok (.aload_n 0, 1) := by decide +kernel
theorem dRe_readPlain_66 : decode prog_5_method_20_code 66 = .ok (.invokevirtual 143, 3) := by decide +kernel
theorem dRe_readPlain_69 : decode prog_5_method_20_code 69 = .ok (.aload_n 0, 1) := by decide +kernel
theorem dRe_readPlain_70 : decode prog_5_method_20_code 70 = .ok (.ldc 184, 2) := by decide +kernel
theorem dRe_readPlain_72 : decode prog_5_method_20_code 72 = .ok (.invokevirtual 90, 3) := by decide +kernel
theorem dRe_readPlain_75 : decode prog_5_method_20_code 75 = .ok (.ifCond .eq 8, 3) := by decide +kernel
theorem dRe_readPlain_78 : decode prog_5_method_20_code 78 = .ok (.bipush 11, 2) := by decide +kernel
theorem dRe_readPlain_80 : decode prog_5_method_20_code 80 = .ok (.goto 19, 3) := by decide +kernel
theorem dRe_readPlain_83 : decode prog_5_method_20_code 83 = .ok (.aload_n 0, 1) := by decide +kernel
theorem dRe_readPlain_84 : decode prog_5_method_20_code 84 = .ok (.ldc 186, 2) := by decide +kernel
theorem dRe_readPlain_86 : decode prog_5_method_20_code 86 = .ok (.invokevirtual 90, 3) := by decide +kernel
theorem dRe_readPlain_89 : decode prog_5_method_20_code 89 = .ok (.ifCond .eq 8, 3) := by decide +kernel
theorem dRe_readPlain_92 : decode prog_5_method_20_code 92 = .ok (.bipush 12, 2) := by decide +kernel
theorem dRe_readPlain_94 : decode prog_5_method_20_code 94 = .ok (.goto 5, 3) := by decide +kernel
theorem dRe_readPlain_97 : decode prog_5_method_20_code 97 = .ok (.bipush 13, 2) := by decide +kernel
theorem dRe_readPlain_99 : decode prog_5_method_20_code 99 = .ok (.istore_n 2, 1) := by decide +kernel
theorem dRe_readPlain_100 : decode prog_5_method_20_code 100 = .ok (.aload_n 0, 1) := by decide +kernel
theorem dRe_readPlain_101 : decode prog_5_method_20_code 101 = .ok (.iload_n 2, 1) := by decide +kernel
theorem dRe_readPlain_102 : decode prog_5_method_20_code 102 = .ok (.bipush 11, 2) := by decide +kernel
theorem dRe_readPlain_104 : decode prog_5_method_20_code 104 = .ok (.if_icmp .ne 8, 3) := by decide +kernel
theorem dRe_readPlain_107 : decode prog_5_method_20_code 107 = .ok (.ldc 184, 2) := by decide +kernel
theorem dRe_readPlain_109 : decode prog_5_method_20_code 109 = .ok (.goto 16, 3) := by decide +kernel
theorem dRe_readPlain_112 : decode prog_5_method_20_code 112 = .ok (.iload_n 2, 1) := by decide +kernel
theorem dRe_readPlain_113 : decode prog_5_method_20_code 113 = .ok (.bipush 12, 2) := by decide +kernel
theorem dRe_readPlain_115 : decode prog_5_method_20_code 115 = .ok (.if_icmp .ne 8, 3) := by decide +kernel
theorem dRe_readPlain_118 : decode prog_5_method_20_code 118 = .ok (.ldc 186, 2) := by decide +kernel
theorem dRe_readPlain_120 : decode prog_5_method_20_code 120 = .ok (.goto 5, 3) := by decide +kernel
theorem dRe_readPlain_123 : decode prog_5_method_20_code 123 = .ok (.ldc 188, 2) := by decide +kernel
theorem dRe_readPlain_125 : decode prog_5_method_20_code 125 = .ok (.invokevirtual 120, 3) := by decide +kernel
theorem dRe_readPlain_128 : decode prog_5_method_20_code 128 = .ok (.aload_n 0, 1) := by decide +kernel
theorem dRe_readPlain_129 : decode prog_5_method_20_code 129 = .ok (.invokevirtual 143, 3) := by decide +kernel
theorem dRe_readPlain_132 : decode prog_5_method_20_code 132 = .ok (.aload_n 0, 1) := by decide +kernel
theorem dRe_readPlain_133 : decode prog_5_method_20_code 133 = .ok (.iload_n 2, 1) := by decide +kernel
theorem dRe_readPlain_134 : decode prog_5_method_20_code 134 = .ok (.iconst 0, 1) := by decide +kernel
theorem dRe_readPlain_135 : decode prog_5_method_20_code 135 = .ok (.invokevirtual 146, 3) := by decide +kernel
theorem dRe_readPlain_138 : decode prog_5_method_20_code 138 = .ok (.iload_n 1, 1) := by decide +kernel
theorem dRe_readPlain_139 : decode prog_5_method_20_code 139 = .ok (.ifCond .eq 9, 3) := by decide +kernel
theorem dRe_readPlain_142 : decode prog_5_method_20_code 142 = .ok (.aload_n 0, 1) := by decide +kernel
theorem dRe_readPlain_143 : decode prog_5_method_20_code 143 = .ok (.iconst 3, 1) := by decide +kernel
theorem dRe_readPlain_144 : decode prog_5_method_20_code 144 = .ok (.iconst 0, 1) := by decide +kernel
theorem dRe_readPlain_145 : decode prog_5_method_20_code 145 = .ok (.invokevirtual 146, 3) := by decide +kernel
theorem dRe_readPlain_148 : decode prog_5_method_20_code 148 = .ok (.return_, 1) := by decide +kernel
theorem dRe_readRule_0 : decode prog_5_method_14_code 0 = .ok (.aload_n 0, 1) := by decide +kernel
theorem dRe_readRule_1 : decode prog_5_method_14_code 1 = .ok (.ldc 105, 2) := by decide +kernel
theorem dRe_readRule_3 : decode prog_5_method_14_code 3 = .ok (.invokevirtual 67, 3) := by decide +kernel
theorem dRe_readRule_6 : decode prog_5_method_14_code 6 = .ok (.ifCond .eq 29, 3) := by decide +kernel
theorem dRe_readRule_9 : decode prog_5_method_14_code 9 = .ok (.aload_n 0, 1) := by decide +kernel
theorem dRe_readRule_10 : decode prog_5_method_14_code 10 = .ok (.getfield 20, 3) := by decide +kernel
theorem dRe_readRule_13 : decode prog_5_method_14_code 13 = .ok (.getfield 107, 3) := by decide +kernel
theorem dRe_readRule_16 : decode prog_5_method_14_code 16 = .ok (.iload_n 1, 1) := by decide +kernel
theorem dRe_readRule_17 : decode prog_5_method_14_code 17 = .ok (.iconst 0, 1) := by decide +kernel
theorem dRe_readRule_18 : decode prog_5_method_14_code 18 = .ok (.iastore, 1) := by decide +kernel
theorem dRe_readRule_19 : decode prog_5_method_14_code 19 = .ok (.aload_n 0, 1) := by decide +kernel
theorem dRe_readRule_20 : decode prog_5_method_14_code 20 = .ok (.getfield 20, 3) := by decide +kernel
theorem dRe_readRule_23 : decode prog_5_method_14_code 23 = .ok (.getfield 110, 3) := by decide +kernel
theorem dRe_readRule_26 : decode prog_5_method_14_code 26 = .ok (.iload_n 1, 1) := by decide +kernel
theorem dRe_readRule_27 : decode prog_5_method_14_code 27 = .ok (.aload_n 0, 1) := by decide +kernel
theorem dRe_readRule_28 : decode prog_5_method_14_code 28 = .ok (.invokevirtual 113, 3) := by decide +kernel
theorem dRe_readRule_31 : decode prog_5_method_14_code 31 = .ok (.iastore, 1) := by decide +kernel
theorem dRe_readRule_32 : decode prog_5_method_14_code 32 = .ok (.goto 54, 3) := by decide +kernel
theorem dRe_readRule_35 : decode prog_5_method_14_code 35 = .ok (.aload_n 0, 1) := by decide +kernel
theorem dRe_readRule_36 : decode prog_5_method_14_code 36 = .ok (.ldc 116, 2) := by decide +kernel
theorem dRe_readRule_38 : decode prog_5_method_14_code 38 = .ok (.invokevirtual 67, 3) := by decide +kernel
theorem dRe_readRule_41 : decode prog_5_method_14_code 41 = .ok (.ifCond .eq 29, 3) := by decide +kernel
theorem dRe_readRule_44 : decode prog_5_method_14_code 44 = .ok (.aload_n 0, 1) := by decide +kernel
theorem dRe_readRule_45 : decode prog_5_method_14_code 45 = .ok (.getfield 20, 3) := by decide +kernel
theorem dRe_readRule_48 : decode prog_5_method_14_code 48 = .ok (.getfield 107, 3) := by decide +kernel
theorem dRe_readRule_51 : decode prog_5_method_14_code 51 = .ok (.iload_n 1, 1) := by decide +kernel
theorem dRe_readRule_52 : decode prog_5_method_14_code 52 = .ok (.iconst 1, 1) := by decide +kernel
theorem dRe_readRule_53 : decode prog_5_method_14_code 53 = .ok (.iastore, 1) := by decide +kernel
theorem dRe_readRule_54 : decode prog_5_method_14_code 54 = .ok (.aload_n 0, 1) := by decide +kernel
theorem dRe_readRule_55 : decode prog_5_method_14_code 55 = .ok (.getfield 20, 3) := by decide +kernel
theorem dRe_readRule_58 : decode prog_5_method_14_code 58 = .ok (.getfield 110, 3) := by decide +kernel
theorem dRe_readRule_61 : decode prog_5_method_14_code 61 = .ok (.iload_n 1, 1) := by decide +kernel
theorem dRe_readRule_62 : decode prog_5_method_14_code 62 = .ok (.aload_n 0, 1) := by decide +kernel
theorem dRe_readRule_63 : decode prog_5_method_14_code 63 = .ok (.invokevirtual 113, 3) := by decide +kernel
theorem dRe_readRule_66 : decode prog_5_method_14_code 66 = .ok (.iastore, 1) := by decide +kernel
theorem dRe_readRule_67 : decode prog_5_method_14_code 67 = .ok (.goto 19, 3) := by decide +kernel
theorem dRe_readRule_70 : decode prog_5_method_14_code 70 = .ok (.aload_n 0, 1) := by decide +kernel
theorem dRe_readRule_71 : decode prog_5_method_14_code 71 = .ok (.ldc 118, 2) := by decide +kernel
theorem dRe_readRule_73 : decode prog_5_method_14_code 73 = .ok (.invokevirtual 120, 3) := by decide +kernel
theorem dRe_readRule_76 : decode prog_5_method_14_code 76 = .ok (.aload_n 0, 1) := by decide +kernel
theorem dRe_readRule_77 : decode prog_5_method_14_code 77 = .ok (.getfield 20, 3) := by decide +kernel
theorem dRe_readRule_80 : decode prog_5_method_14_code 80 = .ok (.getfield 107, 3) := by decide +kernel
theorem dRe_readRule_83 : decode prog_5_method_14_code 83 = .ok (.iload_n 1, 1) := by decide +kernel
theorem dRe_readRule_84 : decode prog_5_method_14_code 84 = .ok (.iconst 2, 1) := by decide +kernel
theorem dRe_readRule_85 : decode prog_5_method_14_code 85 = .ok (.iastore, 1) := by decide +kernel
theorem dRe_readRule_86 : decode prog_5_method_14_code 86 = .ok (.return_, 1) := by decide +kernel
theorem dRe_readOrder_0 : decode prog_5_method_15_code 0 = .ok (.aload_n 0, 1) := by decide +kernel
theorem dRe_readOrder_1 : decode prog_5_method_15_code 1 = .ok (.ldc 124, 2) := by decide +kernel
theorem dRe_readOrder_3 : decode prog_5_method_15_code 3 = .ok (.invokevirtual 67, 3) := by decide +kernel
theorem dRe_readOrder_6 : decode prog_5_method_15_code 6 = .ok (.ifCond .eq 48, 3) := by decide +kernel
theorem dRe_readOrder_9 : decode prog_5_method_15_code 9 = .ok (.aload_n 0, 1) := by decide +kernel
theorem dRe_readOrder_10 : decode prog_5_method_15_code 10 = .ok (.getfield 20, 3) := by decide +kernel
theorem dRe_readOrder_13 : decode prog_5_method_15_code 13 = .ok (.getfield 107, 3) := by decide +kernel
theorem dRe_readOrder_16 : decode prog_5_method_15_code 16 = .ok (.iload_n 1, 1) := by decide +kernel
theorem dRe_readOrder_17 : decode prog_5_method_15_code 17 = .ok (.iconst 0, 1) := by decide +kernel
theorem dRe_readOrder_18 : decode prog_5_method_15_code 18 = .ok (.iastore, 1) := by decide +kernel
theorem dRe_readOrder_19 : decode prog_5_method_15_code 19 = .ok (.aload_n 0, 1) := by decide +kernel
theorem dRe_readOrder_20 : decode prog_5_method_15_code 20 = .ok (.getfield 20, 3) := by decide +kernel
theorem dRe_readOrder_23 : decode prog_5_method_15_code 23 = .ok (.getfield 110, 3) := by decide +kernel
theorem dRe_readOrder_26 : decode prog_5_method_15_code 26 = .ok (.iload_n 1, 1) := by decide +kernel
theorem dRe_readOrder_27 : decode prog_5_method_15_code 27 = .ok (.aload_n 0, 1) := by decide +kernel
theorem dRe_readOrder_28 : decode prog_5_method_15_code 28 = .ok (.invokevirtual 113, 3) := by decide +kernel
theorem dRe_readOrder_31 : decode prog_5_method_15_code 31 = .ok (.iastore, 1) := by decide +kernel
theorem dRe_readOrder_32 : decode prog_5_method_15_code 32 = .ok (.aload_n 0, 1) := by decide +kernel
theorem dRe_readOrder_33 : decode prog_5_method_15_code 33 = .ok (.ldc 126, 2) := by decide +kernel
theorem dRe_readOrder_35 : decode prog_5_method_15_code 35 = .ok (.invokevirtual 120, 3) := by decide +kernel
theorem dRe_readOrder_38 : decode prog_5_method_15_code 38 = .ok (.aload_n 0, 1) := by decide +kernel
theorem dRe_readOrder_39 : decode prog_5_method_15_code 39 = .ok (.getfield 20, 3) := by decide +kernel
theorem dRe_readOrder_42 : decode prog_5_method_15_code 42 = .ok (.getfield 128, 3) := by decide +kernel
theorem dRe_readOrder_45 : decode prog_5_method_15_code 45 = .ok (.iload_n 1, 1) := by decide +kernel
theorem dRe_readOrder_46 : decode prog_5_method_15_code 46 = .ok (.aload_n 0, 1) := by decide +kernel
theorem dRe_readOrder_47 : decode prog_5_method_15_code 47 = .ok (.invokevirtual 113, 3) := by decide +kernel
theorem dRe_readOrder_50 : decode prog_5_method_15_code 50 = .ok (.iastore, 1) := by decide +kernel
theorem dRe_readOrder_51 : decode prog_5_method_15_code 51 = .ok (.goto 108, 3) := by decide +kernel
theorem dRe_readOrder_54 : decode prog_5_method_15_code 54 = .ok (.aload_n 0, 1) := by decide +kernel
theorem dRe_readOrder_55 : decode prog_5_method_15_code 55 = .ok (.ldc 131, 2) := by decide +kernel
theorem dRe_readOrder_57 : decode prog_5_method_15_code 57 = .ok (.invokevirtual 67, 3) := by decide +kernel
theorem dRe_readOrder_60 : decode prog_5_method_15_code 60 = .ok (.ifCond .eq 29, 3) := by decide +kernel
theorem dRe_readOrder_63 : decode prog_5_method_15_code 63 = .ok (.aload_n 0, 1) := by decide +kernel
theorem dRe_readOrder_64 : decode prog_5_method_15_code 64 = .ok (.getfield 20, 3) := by decide +kernel
theorem dRe_readOrder_67 : decode prog_5_method_15_code 67 = .ok (.getfield 107, 3) := by decide +kernel
theorem dRe_readOrder_70 : decode prog_5_method_15_code 70 = .ok (.iload_n 1, 1) := by decide +kernel
theorem dRe_readOrder_71 : decode prog_5_method_15_code 71 = .ok (.iconst 1, 1) := by decide +kernel
theorem dRe_readOrder_72 : decode prog_5_method_15_code 72 = .ok (.iastore, 1) := by decide +kernel
theorem dRe_readOrder_73 : decode prog_5_method_15_code 73 = .ok (.aload_n 0, 1) := by decide +kernel
theorem dRe_readOrder_74 : decode prog_5_method_15_code 74 = .ok (.getfield 20, 3) := by decide +kernel
theorem dRe_readOrder_77 : decode prog_5_method_15_code 77 = .ok (.getfield 110, 3) := by decide +kernel
theorem dRe_readOrder_80 : decode prog_5_method_15_code 80 = .ok (.iload_n 1, 1) := by decide +kernel
theorem dRe_readOrder_81 : decode prog_5_method_15_code 81 = .ok (.aload_n 0, 1) := by decide +kernel
theorem dRe_readOrder_82 : decode prog_5_method_15_code 82 = .ok (.invokevirtual 113, 3) := by decide +kernel
theorem dRe_readOrder_85 : decode prog_5_method_15_code 85 = .ok (.iastore, 1) := by decide +kernel
theorem dRe_readOrder_86 : decode prog_5_method_15_code 86 = .ok (.goto 73, 3) := by decide +kernel
theorem dRe_readOrder_89 : decode prog_5_method_15_code 89 = .ok (.aload_n 0, 1) := by decide +kernel
theorem dRe_readOrder_90 : decode prog_5_method_15_code 90 = .ok (.ldc 133, 2) := by decide +kernel
theorem dRe_readOrder_92 : decode prog_5_method_15_code 92 = .ok (.invokevirtual 67, 3) := by decide +kernel
theorem dRe_readOrder_95 : decode prog_5_method_15_code 95 = .ok (.ifCond .eq 48, 3) := by decide +kernel
theorem dRe_readOrder_98 : decode prog_5_method_15_code 98 = .ok (.aload_n 0, 1) := by decide +kernel
theorem dRe_readOrder_99 : decode prog_5_method_15_code 99 = .ok (.getfield 20, 3) := by decide +kernel
theorem dRe_readOrder_102 : decode prog_5_method_15_code 102 = .ok (.getfield 107, 3) := by decide +kernel
theorem dRe_readOrder_105 : decode prog_5_method_15_code 105 = .ok (.iload_n 1, 1) := by decide +kernel
theorem dRe_readOrder_106 : decode prog_5_method_15_code 106 = .ok (.iconst 2, 1) := by decide +kernel
theorem dRe_readOrder_107 : decode prog_5_method_15_code 107 = .ok (.iastore, 1) := by decide +kernel
theorem dRe_readOrder_108 : decode prog_5_method_15_code 108 = .ok (.aload_n 0, 1) := by decide +kernel
theorem dRe_readOrder_109 : decode prog_5_method_15_code 109 = .ok (.getfield 20, 3) := by decide +kernel
theorem dRe_readOrder_112 : decode prog_5_method_15_code 112 = .ok (.getfield 110, 3) := by decide +kernel
theorem dRe_readOrder_115 : decode prog_5_method_15_code 115 = .ok (.iload_n 1, 1) := by decide +kernel
theorem dRe_readOrder_116 : decode prog_5_method_15_code 116 = .ok (.aload_n 0, 1) := by decide +kernel
theorem dRe_readOrder_117 : decode prog_5_method_15_code 117 = .ok (.invokevirtual 113, 3) := by decide +kernel
theorem dRe_readOrder_120 : decode prog_5_method_15_code 120 = .ok (.iastore, 1) := by decide +kernel
theorem dRe_readOrder_121 : decode prog_5_method_15_code 121 = .ok (.aload_n 0, 1) := by decide +kernel
theorem dRe_readOrder_122 : decode prog_5_method_15_code 122 = .ok (.ldc 135, 2) := by decide +kernel
theorem dRe_readOrder_124 : decode prog_5_method_15_code 124 = .ok (.invokevirtual 120, 3) := by decide +kernel
theorem dRe_readOrder_127 : decode prog_5_method_15_code 127 = .ok (.aload_n 0, 1) := by decide +kernel
theorem dRe_readOrder_128 : decode prog_5_method_15_code 128 = .ok (.getfield 20, 3) := by decide +kernel
theorem dRe_readOrder_131 : decode prog_5_method_15_code 131 = .ok (.getfield 128, 3) := by decide +kernel
theorem dRe_readOrder_134 : decode prog_5_method_15_code 134 = .ok (.iload_n 1, 1) := by decide +kernel
theorem dRe_readOrder_135 : decode prog_5_method_15_code 135 = .ok (.aload_n 0, 1) := by decide +kernel
theorem dRe_readOrder_136 : decode prog_5_method_15_code 136 = .ok (.invokevirtual 113, 3) := by decide +kernel
theorem dRe_readOrder_139 : decode prog_5_method_15_code 139 = .ok (.iastore, 1) := by decide +kernel
theorem dRe_readOrder_140 : decode prog_5_method_15_code 140 = .ok (.goto 19, 3) := by decide +kernel
theorem dRe_readOrder_143 : decode prog_5_method_15_code 143 = .ok (.aload_n 0, 1) := by decide +kernel
theorem dRe_readOrder_144 : decode prog_5_method_15_code 144 = .ok (.ldc 137, 2) := by decide +kernel
theorem dRe_readOrder_146 : decode prog_5_method_15_code 146 = .ok (.invokevirtual 120, 3) := by decide +kernel
theorem dRe_readOrder_149 : decode prog_5_method_15_code 149 = .ok (.aload_n 0, 1) := by decide +kernel
theorem dRe_readOrder_150 : decode prog_5_method_15_code 150 = .ok (.getfield 20, 3) := by decide +kernel
theorem dRe_readOrder_153 : decode prog_5_method_15_code 153 = .ok (.getfield 107, 3) := by decide +kernel
theorem dRe_readOrder_156 : decode prog_5_method_15_code 156 = .ok (.iload_n 1, 1) := by decide +kernel
theorem dRe_readOrder_157 : decode prog_5_method_15_code 157 = .ok (.iconst 3, 1) := by decide +kernel
theorem dRe_readOrder_158 : decode prog_5_method_15_code 158 = .ok (.iastore, 1) := by decide +kernel
theorem dRe_readOrder_159 : decode prog_5_method_15_code 159 = .ok (.aload_n 0, 1) := by decide +kernel
theorem dRe_readOrder_160 : decode prog_5_method_15_code 160 = .ok (.ldc 139, 2) := by decide +kernel
theorem dRe_readOrder_162 : decode prog_5_method_15_code 162 = .ok (.invokevirtual 67, 3) := by decide +kernel
theorem dRe_readOrder_165 : decode prog_5_method_15_code 165 = .ok (.ifCond .eq 19, 3) := by decide +kernel
theorem dRe_readOrder_168 : decode prog_5_method_15_code 168 = .ok (.aload_n 0, 1) := by decide +kernel
theorem dRe_readOrder_169 : decode prog_5_method_15_code 169 = .ok (.getfield 20, 3) := by decide +kernel
theorem dRe_readOrder_172 : decode prog_5_method_15_code 172 = .ok (.getfield 53, 3) := by decide +kernel
theorem dRe_readOrder_175 : decode prog_5_method_15_code 175 = .ok (.iload_n 1, 1) := by decide +kernel
theorem dRe_readOrder_176 : decode prog_5_method_15_code 176 = .ok (.aload_n 0, 1) := by decide +kernel
theorem dRe_readOrder_177 : decode prog_5_method_15_code 177 = .ok (.iconst 1, 1) := by decide +kernel
theorem dRe_readOrder_178 : decode prog_5_method_15_code 178 = .ok (.bipush 20, 2) := by decide +kernel
theorem dRe_readOrder_180 : decode prog_5_method_15_code 180 = .ok (.invokevirtual 140, 3) := by decide +kernel
theorem dRe_readOrder_183 : decode prog_5_method_15_code 183 = .ok (.iastore, 1) := by decide +kernel
theorem dRe_readOrder_184 : decode prog_5_method_15_code 184 = .ok (.return_, 1) := by decide +kernel
