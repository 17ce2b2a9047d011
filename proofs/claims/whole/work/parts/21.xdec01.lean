theorem dSx_winningClaim_0 : decode prog_1_method_69_code 0 = .ok (.iconst 0, 1) := by decide +kernel
theorem dSx_winningClaim_1 : decode prog_1_method_69_code 1 = .ok (.istore_n 2, 1) := by decide +kernel
theorem dSx_winningClaim_2 : decode prog_1_method_69_code 2 = .ok (.iload_n 2, 1) := by decide +kernel
theorem dSx_winningClaim_3 : decode prog_1_method_69_code 3 = .ok (.bipush 7, 2) := by decide +kernel
theorem dSx_winningClaim_5 : decode prog_1_method_69_code 5 = .ok (.if_icmp .ge 33, 3) := by decide +kernel
theorem dSx_winningClaim_8 : decode prog_1_method_69_code 8 = .ok (.aload_n 0, 1) := by decide +kernel
theorem dSx_winningClaim_9 : decode prog_1_method_69_code 9 = .ok (.iload_n 1, 1) := by decide +kernel
theorem dSx_winningClaim_10 : decode prog_1_method_69_code 10 = .ok (.iload_n 2, 1) := by decide +kernel
theorem dSx_winningClaim_11 : decode prog_1_method_69_code 11 = .ok (.invokevirtual 378, 3) := by decide +kernel
theorem dSx_winningClaim_14 : decode prog_1_method_69_code 14 = .ok (.ifCond .eq 18, 3) := by decide +kernel
theorem dSx_winningClaim_17 : decode prog_1_method_69_code 17 = .ok (.aload_n 0, 1) := by decide +kernel
theorem dSx_winningClaim_18 : decode prog_1_method_69_code 18 = .ok (.getfield 71, 3) := by decide +kernel
theorem dSx_winningClaim_21 : decode prog_1_method_69_code 21 = .ok (.iload_n 1, 1) := by decide +kernel
theorem dSx_winningClaim_22 : decode prog_1_method_69_code 22 = .ok (.iconst 1, 1) := by decide +kernel
theorem dSx_winningClaim_23 : decode prog_1_method_69_code 23 = .ok (.iload_n 2, 1) := by decide +kernel
theorem dSx_winningClaim_24 : decode prog_1_method_69_code 24 = .ok (.ishl, 1) := by decide +kernel
theorem dSx_winningClaim_25 : decode prog_1_method_69_code 25 = .ok (.isub, 1) := by decide +kernel
theorem dSx_winningClaim_26 : decode prog_1_method_69_code 26 = .ok (.iaload, 1) := by decide +kernel
theorem dSx_winningClaim_27 : decode prog_1_method_69_code 27 = .ok (.ifCond .ne 5, 3) := by decide +kernel
theorem dSx_winningClaim_30 : decode prog_1_method_69_code 30 = .ok (.iload_n 2, 1) := by decide +kernel
theorem dSx_winningClaim_31 : decode prog_1_method_69_code 31 = .ok (.ireturn, 1) := by decide +kernel
theorem dSx_winningClaim_32 : decode prog_1_method_69_code 32 = .ok (.iinc 2 1, 3) := by decide +kernel
theorem dSx_winningClaim_35 : decode prog_1_method_69_code 35 = .ok (.goto (-33), 3) := by decide +kernel
theorem dSx_winningClaim_38 : decode prog_1_method_69_code 38 = .ok (.iconst (-1), 1) := by decide +kernel
theorem dSx_winningClaim_39 : decode prog_1_method_69_code 39 = .ok (.ireturn, 1) := by decide +kernel
theorem dSx_fits_0 : decode prog_1_method_70_code 0 = .ok (.iconst 0, 1) := by decide +kernel
theorem dSx_fits_1 : decode prog_1_method_70_code 1 = .ok (.istore_n 3, 1) := by decide +kernel
theorem dSx_fits_2 : decode prog_1_method_70_code 2 = .ok (.iload_n 3, 1) := by decide +kernel
theorem dSx_fits_3 : decode prog_1_method_70_code 3 = .ok (.aload_n 0, 1) := by decide +kernel
theorem dSx_fits_4 : decode prog_1_method_70_code 4 = .ok (.getfield 12, 3) := by decide +kernel
theorem dSx_fits_7 : decode prog_1_method_70_code 7 = .ok (.getfield 289, 3) := by decide +kernel
theorem dSx_fits_10 : decode prog_1_method_70_code 10 = .ok (.if_icmp .ge 120, 3) := by decide +kernel
theorem dSx_fits_13 : decode prog_1_method_70_code 13 = .ok (.aload_n 0, 1) := by decide +kernel
theorem dSx_fits_14 : decode prog_1_method_70_code 14 = .ok (.getfield 68, 3) := by decide +kernel
theorem dSx_fits_17 : decode prog_1_method_70_code 17 = .ok (.aload_n 0, 1) := by decide +kernel
theorem dSx_fits_18 : decode prog_1_method_70_code 18 = .ok (.getfield 12, 3) := by decide +kernel
theorem dSx_fits_21 : decode prog_1_method_70_code 21 = .ok (.getfield 381, 3) := by decide +kernel
theorem dSx_fits_24 : decode prog_1_method_70_code 24 = .ok (.iload_n 3, 1) := by decide +kernel
theorem dSx_fits_25 : decode prog_1_method_70_code 25 = .ok (.iaload, 1) := by decide +kernel
theorem dSx_fits_26 : decode prog_1_method_70_code 26 = .ok (.iaload, 1) := by decide +kernel
theorem dSx_fits_27 : decode prog_1_method_70_code 27 = .ok (.aload_n 0, 1) := by decide +kernel
theorem dSx_fits_28 : decode prog_1_method_70_code 28 = .ok (.getfield 68, 3) := by decide +kernel
theorem dSx_fits_31 : decode prog_1_method_70_code 31 = .ok (.aload_n 0, 1) := by decide +kernel
theorem dSx_fits_32 : decode prog_1_method_70_code 32 = .ok (.getfield 12, 3) := by decide +kernel
theorem dSx_fits_35 : decode prog_1_method_70_code 35 = .ok (.getfield 384, 3) := by decide +kernel
theorem dSx_fits_38 : decode prog_1_method_70_code 38 = .ok (.iload_n 3, 1) := by decide +kernel
theorem dSx_fits_39 : decode prog_1_method_70_code 39 = .ok (.iaload, 1) := by decide +kernel
theorem dSx_fits_40 : decode prog_1_method_70_code 40 = .ok (.iaload, 1) := by decide +kernel
theorem dSx_fits_41 : decode prog_1_method_70_code 41 = .ok (.isub, 1) := by decide +kernel
theorem dSx_fits_42 : decode prog_1_method_70_code 42 = .ok (.istore 4, 2) := by decide +kernel
theorem dSx_fits_44 : decode prog_1_method_70_code 44 = .ok (.aload_n 0, 1) := by decide +kernel
theorem dSx_fits_45 : decode prog_1_method_70_code 45 = .ok (.getfield 12, 3) := by decide +kernel
theorem dSx_fits_48 : decode prog_1_method_70_code 48 = .ok (.getfield 381, 3) := by decide +kernel
theorem dSx_fits_51 : decode prog_1_method_70_code 51 = .ok (.iload_n 3, 1) := by decide +kernel
theorem dSx_fits_52 : decode prog_1_method_70_code 52 = .ok (.iaload, 1) := by decide +kernel
theorem dSx_fits_53 : decode prog_1_method_70_code 53 = .ok (.iload_n 1, 1) := by decide +kernel
theorem dSx_fits_54 : decode prog_1_method_70_code 54 = .ok (.iand, 1) := by decide +kernel
theorem dSx_fits_55 : decode prog_1_method_70_code 55 = .ok (.ifCond .eq 12, 3) := by decide +kernel
theorem dSx_fits_58 : decode prog_1_method_70_code 58 = .ok (.iload 4, 2) := by decide +kernel
theorem dSx_fits_60 : decode prog_1_method_70_code 60 = .ok (.iload_n 2, 1) := by decide +kernel
theorem dSx_fits_61 : decode prog_1_method_70_code 61 = .ok (.iadd, 1) := by decide +kernel
theorem dSx_fits_62 : decode prog_1_method_70_code 62 = .ok (.istore 4, 2) := by decide +kernel
theorem dSx_fits_64 : decode prog_1_method_70_code 64 = .ok (.goto 23, 3) := by decide +kernel
theorem dSx_fits_67 : decode prog_1_method_70_code 67 = .ok (.aload_n 0, 1) := by decide +kernel
theorem dSx_fits_68 : decode prog_1_method_70_code 68 = .ok (.getfield 12, 3) := by decide +kernel
theorem dSx_fits_71 : decode prog_1_method_70_code 71 = .ok (.getfield 384, 3) := by decide +kernel
theorem dSx_fits_74 : decode prog_1_method_70_code 74 = .ok (.iload_n 3, 1) := by decide +kernel
theorem dSx_fits_75 : decode prog_1_method_70_code 75 = .ok (.iaload, 1) := by decide +kernel
theorem dSx_fits_76 : decode prog_1_method_70_code 76 = .ok (.iload_n 1, 1) := by decide +kernel
theorem dSx_fits_77 : decode prog_1_method_70_code 77 = .ok (.iand, 1) := by decide +kernel
theorem dSx_fits_78 : decode prog_1_method_70_code 78 = .ok (.ifCond .eq 9, 3) := by decide +kernel
theorem dSx_fits_81 : decode prog_1_method_70_code 81 = .ok (.iload 4, 2) := by decide +kernel
theorem dSx_fits_83 : decode prog_1_method_70_code 83 = .ok (.iload_n 2, 1) := by decide +kernel
theorem dSx_fits_84 : decode prog_1_method_70_code 84 = .ok (.isub, 1) := by decide +kernel
theorem dSx_fits_85 : decode prog_1_method_70_code 85 = .ok (.istore 4, 2) := by decide +kernel
theorem dSx_fits_87 : decode prog_1_method_70_code 87 = .ok (.iload 4, 2) := by decide +kernel
theorem dSx_fits_89 : decode prog_1_method_70_code 89 = .ok (.ifCond .ne 7, 3) := by decide +kernel
theorem dSx_fits_92 : decode prog_1_method_70_code 92 = .ok (.iconst 0, 1) := by decide +kernel
theorem dSx_fits_93 : decode prog_1_method_70_code 93 = .ok (.goto 13, 3) := by decide +kernel
theorem dSx_fits_96 : decode prog_1_method_70_code 96 = .ok (.iload 4, 2) := by decide +kernel
theorem dSx_fits_98 : decode prog_1_method_70_code 98 = .ok (.ifCond .le 7, 3) := by decide +kernel
theorem dSx_fits_101 : decode prog_1_method_70_code 101 = .ok (.iconst 1, 1) := by decide +kernel
theorem dSx_fits_102 : decode prog_1_method_70_code 102 = .ok (.goto 4, 3) := by decide +kernel
theorem dSx_fits_105 : decode prog_1_method_70_code 105 = .ok (.iconst 2, 1) := by decide +kernel
theorem dSx_fits_106 : decode prog_1_method_70_code 106 = .ok (.istore 5, 2) := by decide +kernel
theorem dSx_fits_108 : decode prog_1_method_70_code 108 = .ok (.iload 5, 2) := by decide +kernel
theorem dSx_fits_110 : decode prog_1_method_70_code 110 = .ok (.aload_n 0, 1) := by decide +kernel
theorem dSx_fits_111 : decode prog_1_method_70_code 111 = .ok (.getfield 12, 3) := by decide +kernel
theorem dSx_fits_114 : decode prog_1_method_70_code 114 = .ok (.getfield 387, 3) := by decide +kernel
theorem dSx_fits_117 : decode prog_1_method_70_code 117 = .ok (.iload_n 3, 1) := by decide +kernel
theorem dSx_fits_118 : decode prog_1_method_70_code 118 = .ok (.iaload, 1) := by decide +kernel
theorem dSx_fits_119 : decode prog_1_method_70_code 119 = .ok (.if_icmp .eq 5, 3) := by decide +kernel
theorem dSx_fits_122 : decode prog_1_method_70_code 122 = .ok (.iconst 0, 1) := by decide +kernel
theorem dSx_fits_123 : decode prog_1_method_70_code 123 = .ok (.ireturn, 1) := by decide +kernel
theorem dSx_fits_124 : decode prog_1_method_70_code 124 = .ok (.iinc 3 1, 3) := by decide +kernel
theorem dSx_fits_127 : decode prog_1_method_70_code 127 = .ok (.goto (-125), 3) := by decide +kernel
theorem dSx_fits_130 : decode prog_1_method_70_code 130 = .ok (.iconst 1, 1) := by decide +kernel
theorem dSx_fits_131 : decode prog_1_method_70_code 131 = .ok (.ireturn, 1) := by decide +kernel
theorem dSx_mostAlike_0 : decode prog_1_method_72_code 0 = .ok (.iload_n 0, 1) := by decide +kernel
theorem dSx_mostAlike_1 : decode prog_1_method_72_code 1 = .ok (.tableswitch 53 (-1) 1 #[45, 27, 37], 27) := by decide +kernel
theorem dSx_mostAlike_28 : decode prog_1_method_72_code 28 = .ok (.iload_n 3, 1) := by decide +kernel
theorem dSx_mostAlike_29 : decode prog_1_method_72_code 29 = .ok (.iload_n 1, 1) := by decide +kernel
theorem dSx_mostAlike_30 : decode prog_1_method_72_code 30 = .ok (.iload_n 2, 1) := by decide +kernel
theorem dSx_mostAlike_31 : decode prog_1_method_72_code 31 = .ok (.invokestatic 398, 3) := by decide +kernel
theorem dSx_mostAlike_34 : decode prog_1_method_72_code 34 = .ok (.invokestatic 398, 3) := by decide +kernel
theorem dSx_mostAlike_37 : decode prog_1_method_72_code 37 = .ok (.ireturn, 1) := by decide +kernel
theorem dSx_mostAlike_38 : decode prog_1_method_72_code 38 = .ok (.iload_n 3, 1) := by decide +kernel
theorem dSx_mostAlike_39 : decode prog_1_method_72_code 39 = .ok (.iload_n 1, 1) := by decide +kernel
theorem dSx_mostAlike_40 : decode prog_1_method_72_code 40 = .ok (.iadd, 1) := by decide +kernel
theorem dSx_mostAlike_41 : decode prog_1_method_72_code 41 = .ok (.iload_n 2, 1) := by decide +kernel
theorem dSx_mostAlike_42 : decode prog_1_method_72_code 42 = .ok (.invokestatic 398, 3) := by decide +kernel
theorem dSx_mostAlike_45 : decode prog_1_method_72_code 45 = .ok (.ireturn, 1) := by decide +kernel
theorem dSx_mostAlike_46 : decode prog_1_method_72_code 46 = .ok (.iload_n 3, 1) := by decide +kernel
theorem dSx_mostAlike_47 : decode prog_1_method_72_code 47 = .ok (.iload_n 2, 1) := by decide +kernel
theorem dSx_mostAlike_48 : decode prog_1_method_72_code 48 = .ok (.iadd, 1) := by decide +kernel
theorem dSx_mostAlike_49 : decode prog_1_method_72_code 49 = .ok (.iload_n 1, 1) := by decide +kernel
theorem dSx_mostAlike_50 : decode prog_1_method_72_code 50 = .ok (.invokestatic 398, 3) := by decide +kernel
theorem dSx_mostAlike_53 : decode prog_1_method_72_code 53 = .ok (.ireturn, 1) := by decide +kernel
theorem dSx_mostAlike_54 : decode prog_1_method_72_code 54 = .ok (.iload_n 3, 1) := by decide +kernel
theorem dSx_mostAlike_55 : decode prog_1_method_72_code 55 = .ok (.iload_n 1, 1) := by decide +kernel
theorem dSx_mostAlike_56 : decode prog_1_method_72_code 56 = .ok (.iadd, 1) := by decide +kernel
theorem dSx_mostAlike_57 : decode prog_1_method_72_code 57 = .ok (.iload_n 2, 1) := by decide +kernel
theorem dSx_mostAlike_58 : decode prog_1_method_72_code 58 = .ok (.iadd, 1) := by decide +kernel
theorem dSx_mostAlike_59 : decode prog_1_method_72_code 59 = .ok (.ireturn, 1) := by decide +kernel
theorem dSx_nextSeed_0 : decode prog_1_method_73_code 0 = .ok (.iload_n 0, 1) := by decide +kernel
theorem dSx_nextSeed_1 : decode prog_1_method_73_code 1 = .ok (.sipush 1103, 3) := by decide +kernel
theorem dSx_nextSeed_4 : decode prog_1_method_73_code 4 = .ok (.imul, 1) := by decide +kernel
theorem dSx_nextSeed_5 : decode prog_1_method_73_code 5 = .ok (.sipush 12345, 3) := by decide +kernel
theorem dSx_nextSeed_8 : decode prog_1_method_73_code 8 = .ok (.iadd, 1) := by decide +kernel
theorem dSx_nextSeed_9 : decode prog_1_method_73_code 9 = .ok (.ldc_w 401, 3) := by decide +kernel
theorem dSx_nextSeed_12 : decode prog_1_method_73_code 12 = .ok (.irem, 1) := by decide +kernel
theorem dSx_nextSeed_13 : decode prog_1_method_73_code 13 = .ok (.ireturn, 1) := by decide +kernel
theorem dRk_works_0 : decode prog_6_method_2_code 0 = .ok (.iconst 0, 1) := by decide +kernel
theorem dRk_works_1 : decode prog_6_method_2_code 1 = .ok (.istore 4, 2) := by decide +kernel
theorem dRk_works_3 : decode prog_6_method_2_code 3 = .ok (.iload_n 2, 1) := by decide +kernel
theorem dRk_works_4 : decode prog_6_method_2_code 4 = .ok (.istore 5, 2) := by decide +kernel
theorem dRk_works_6 : decode prog_6_method_2_code 6 = .ok (.iconst 0, 1) := by decide +kernel
theorem dRk_works_7 : decode prog_6_method_2_code 7 = .ok (.istore 6, 2) := by decide +kernel
theorem dRk_works_9 : decode prog_6_method_2_code 9 = .ok (.iload 6, 2) := by decide +kernel
theorem dRk_works_11 : decode prog_6_method_2_code 11 = .ok (.sipush 512, 3) := by decide +kernel
theorem dRk_works_14 : decode prog_6_method_2_code 14 = .ok (.if_icmp .ge 301, 3) := by decide +kernel
theorem dRk_works_17 : decode prog_6_method_2_code 17 = .ok (.iload 5, 2) := by decide +kernel
theorem dRk_works_19 : decode prog_6_method_2_code 19 = .ok (.ifCond .lt 296, 3) := by decide +kernel
theorem dRk_works_22 : decode prog_6_method_2_code 22 = .ok (.iload 5, 2) := by decide +kernel
theorem dRk_works_24 : decode prog_6_method_2_code 24 = .ok (.aload_n 1, 1) := by decide +kernel
theorem dRk_works_25 : decode prog_6_method_2_code 25 = .ok (.getfield 15, 3) := by decide +kernel
theorem dRk_works_28 : decode prog_6_method_2_code 28 = .ok (.if_icmp .ge 287, 3) := by decide +kernel
theorem dRk_works_31 : decode prog_6_method_2_code 31 = .ok (.aload_n 1, 1) := by decide +kernel
theorem dRk_works_32 : decode prog_6_method_2_code 32 = .ok (.getfield 21, 3) := by decide +kernel
theorem dRk_works_35 : decode prog_6_method_2_code 35 = .ok (.iload 5, 2) := by decide +kernel
theorem dRk_works_37 : decode prog_6_method_2_code 37 = .ok (.iaload, 1) := by decide +kernel
theorem dRk_works_38 : decode prog_6_method_2_code 38 = .ok (.sipush 2048, 3) := by decide +kernel
theorem dRk_works_41 : decode prog_6_method_2_code 41 = .ok (.idiv, 1) := by decide +kernel
theorem dRk_works_42 : decode prog_6_method_2_code 42 = .ok (.istore 7, 2) := by decide +kernel
theorem dRk_works_44 : decode prog_6_method_2_code 44 = .ok (.aload_n 1, 1) := by decide +kernel
theorem dRk_works_45 : decode prog_6_method_2_code 45 = .ok (.getfield 21, 3) := by decide +kernel
theorem dRk_works_48 : decode prog_6_method_2_code 48 = .ok (.iload 5, 2) := by decide +kernel
theorem dRk_works_50 : decode prog_6_method_2_code 50 = .ok (.iaload, 1) := by decide +kernel
theorem dRk_works_51 : decode prog_6_method_2_code 51 = .ok (.sipush 2048, 3) := by decide +kernel
theorem dRk_works_54 : decode prog_6_method_2_code 54 = .ok (.irem, 1) := by decide +kernel
theorem dRk_works_55 : decode prog_6_method_2_code 55 = .ok (.istore 8, 2) := by decide +kernel
theorem dRk_works_57 : decode prog_6_method_2_code 57 = .ok (.iinc 5 1, 3) := by decide +kernel
theorem dRk_works_60 : decode prog_6_method_2_code 60 = .ok (.iload 7, 2) := by decide +kernel
theorem dRk_works_62 : decode prog_6_method_2_code 62 = .ok (.iconst 1, 1) := by decide +kernel
theorem dRk_works_63 : decode prog_6_method_2_code 63 = .ok (.if_icmp .eq 9, 3) := by decide +kernel
theorem dRk_works_66 : decode prog_6_method_2_code 66 = .ok (.iload 7, 2) := by decide +kernel
theorem dRk_works_68 : decode prog_6_method_2_code 68 = .ok (.iconst 2, 1) := by decide +kernel
theorem dRk_works_69 : decode prog_6_method_2_code 69 = .ok (.if_icmp .ne 55, 3) := by decide +kernel
theorem dRk_works_72 : decode prog_6_method_2_code 72 = .ok (.iload 4, 2) := by decide +kernel
theorem dRk_works_74 : decode prog_6_method_2_code 74 = .ok (.bipush 40, 2) := by decide +kernel
theorem dRk_works_76 : decode prog_6_method_2_code 76 = .ok (.if_icmp .ge 16, 3) := by decide +kernel
theorem dRk_works_79 : decode prog_6_method_2_code 79 = .ok (.iload 7, 2) := by decide +kernel
theorem dRk_works_81 : decode prog_6_method_2_code 81 = .ok (.iconst 2, 1) := by decide +kernel
theorem dRk_works_82 : decode prog_6_method_2_code 82 = .ok (.if_icmp .ne 12, 3) := by decide +kernel
theorem dRk_works_85 : decode prog_6_method_2_code 85 = .ok (.iload 8, 2) := by decide +kernel
theorem dRk_works_87 : decode prog_6_method_2_code 87 = .ok (.aload_n 3, 1) := by decide +kernel
theorem dRk_works_88 : decode prog_6_method_2_code 88 = .ok (.arraylength, 1) := by decide +kernel
theorem dRk_works_89 : decode prog_6_method_2_code 89 = .ok (.if_icmp .lt 5, 3) := by decide +kernel
theorem dRk_works_92 : decode prog_6_method_2_code 92 = .ok (.iconst 0, 1) := by decide +kernel
theorem dRk_works_93 : decode prog_6_method_2_code 93 = .ok (.ireturn, 1) := by decide +kernel
theorem dRk_works_94 : decode prog_6_method_2_code 94 = .ok (.aload_n 0, 1) := by decide +kernel
theorem dRk_works_95 : decode prog_6_method_2_code 95 = .ok (.getfield 9, 3) := by decide +kernel
theorem dRk_works_98 : decode prog_6_method_2_code 98 = .ok (.iload 4, 2) := by decide +kernel
theorem dRk_works_100 : decode prog_6_method_2_code 100 = .ok (.iload 7, 2) := by decide +kernel
theorem dRk_works_102 : decode prog_6_method_2_code 102 = .ok (.iconst 1, 1) := by decide +kernel
theorem dRk_works_103 : decode prog_6_method_2_code 103 = .ok (.if_icmp .ne 9, 3) := by decide +kernel
theorem dRk_works_106 : decode prog_6_method_2_code 106 = .ok (.iload 8, 2) := by decide +kernel
theorem dRk_works_108 : decode prog_6_method_2_code 108 = .ok (.i2l, 1) := by decide +kernel
theorem dRk_works_109 : decode prog_6_method_2_code 109 = .ok (.goto 8, 3) := by decide +kernel
theorem dRk_works_112 : decode prog_6_method_2_code 112 = .ok (.aload_n 3, 1) := by decide +kernel
theorem dRk_works_113 : decode prog_6_method_2_code 113 = .ok (.iload 8, 2) := by decide +kernel
theorem dRk_works_115 : decode prog_6_method_2_code 115 = .ok (.iaload, 1) := by decide +kernel
theorem dRk_works_116 : decode prog_6_method_2_code 116 = .ok (.i2l, 1) := by decide +kernel
theorem dRk_works_117 : decode prog_6_method_2_code 117 = .ok (.lastore, 1) := by decide +kernel
theorem dRk_works_118 : decode prog_6_method_2_code 118 = .ok (.iinc 4 1, 3) := by decide +kernel
theorem dRk_works_121 : decode prog_6_method_2_code 121 = .ok (.goto 188, 3) := by decide +kernel
theorem dRk_works_124 : decode prog_6_method_2_code 124 = .ok (.iload 4, 2) := by decide +kernel
theorem dRk_works_126 : decode prog_6_method_2_code 126 = .ok (.iconst 1, 1) := by decide +kernel
theorem dRk_works_127 : decode prog_6_method_2_code 127 = .ok (.if_icmp .ge 5, 3) := by decide +kernel
theorem dRk_works_130 : decode prog_6_method_2_code 130 = .ok (.iconst 0, 1) := by decide +kernel
theorem dRk_works_131 : decode prog_6_method_2_code 131 = .ok (.ireturn, 1) := by decide +kernel
theorem dRk_works_132 : decode prog_6_method_2_code 132 = .ok (.iload 7, 2) := by decide +kernel
theorem dRk_works_134 : decode prog_6_method_2_code 134 = .ok (.ifCond .ne 19, 3) := by decide +kernel
theorem dRk_works_137 : decode prog_6_method_2_code 137 = .ok (.aload_n 0, 1) := by decide +kernel
theorem dRk_works_138 : decode prog_6_method_2_code 138 = .ok (.aload_n 0, 1) := by decide +kernel
theorem dRk_works_139 : decode prog_6_method_2_code 139 = .ok (.getfield 9, 3) := by decide +kernel
theorem dRk_works_142 : decode prog_6_method_2_code 142 = .ok (.iload 4, 2) := by decide +kernel
theorem dRk_works_144 : decode prog_6_method_2_code 144 = .ok (.iconst 1, 1) := by decide +kernel
theorem dRk_works_145 : decode prog_6_method_2_code 145 = .ok (.isub, 1) := by decide +kernel
theorem dRk_works_146 : decode prog_6_method_2_code 146 = .ok (.laload, 1) := by decide +kernel
theorem dRk_works_147 : decode prog_6_method_2_code 147 = .ok (.l2i, 1) := by decide +kernel
theorem dRk_works_148 : decode prog_6_method_2_code 148 = .ok (.putfield 25, 3) := by decide +kernel
theorem dRk_works_151 : decode prog_6_method_2_code 151 = .ok (.iconst 1, 1) := by decide +kernel
theorem dRk_works_152 : decode prog_6_method_2_code 152 = .ok (.ireturn, 1) := by decide +kernel
theorem dRk_works_153 : decode prog_6_method_2_code 153 = .ok (.iload 7, 2) := by decide +kernel
theorem dRk_works_155 : decode prog_6_method_2_code 155 = .ok (.iconst 3, 1) := by decide +kernel
theorem dRk_works_156 : decode prog_6_method_2_code 156 = .ok (.if_icmp .ne 26, 3) := by decide +kernel
theorem dRk_works_159 : decode prog_6_method_2_code 159 = .ok (.aload_n 0, 1) := by decide +kernel
theorem dRk_works_160 : decode prog_6_method_2_code 160 = .ok (.getfield 9, 3) := by decide +kernel
theorem dRk_works_163 : decode prog_6_method_2_code 163 = .ok (.iload 4, 2) := by decide +kernel
theorem dRk_works_165 : decode prog_6_method_2_code 165 = .ok (.iconst 1, 1) := by decide +kernel
theorem dRk_works_166 : decode prog_6_method_2_code 166 = .ok (.isub, 1) := by decide +kernel
theorem dRk_works_167 : decode prog_6_method_2_code 167 = .ok (.lconst 1, 1) := by decide +kernel
theorem dRk_works_168 : decode prog_6_method_2_code 168 = .ok (.aload_n 0, 1) := by decide +kernel
theorem dRk_works_169 : decode prog_6_method_2_code 169 = .ok (.getfield 9, 3) := by decide +kernel
theorem dRk_works_172 : decode prog_6_method_2_code 172 = .ok (.iload 4, 2) := by decide +kernel
theorem dRk_works_174 : decode prog_6_method_2_code 174 = .ok (.iconst 1, 1) := by decide +kernel
theorem dRk_works_175 : decode prog_6_method_2_code 175 = .ok (.isub, 1) := by decide +kernel
theorem dRk_works_176 : decode prog_6_method_2_code 176 = .ok (.laload, 1) := by decide +kernel
theorem dRk_works_177 : decode prog_6_method_2_code 177 = .ok (.lsub, 1) := by decide +kernel
theorem dRk_works_178 : decode prog_6_method_2_code 178 = .ok (.lastore, 1) := by decide +kernel
theorem dRk_works_179 : decode prog_6_method_2_code 179 = .ok (.goto 130, 3) := by decide +kernel
theorem dRk_works_182 : decode prog_6_method_2_code 182 = .ok (.iload 7, 2) := by decide +kernel
theorem dRk_works_184 : decode prog_6_method_2_code 184 = .ok (.iconst 4, 1) := by decide +kernel
theorem dRk_works_185 : decode prog_6_method_2_code 185 = .ok (.if_icmp .eq 9, 3) := by decide +kernel
theorem dRk_works_188 : decode prog_6_method_2_code 188 = .ok (.iload 7, 2) := by decide +kernel
theorem dRk_works_190 : decode prog_6_method_2_code 190 = .ok (.iconst 5, 1) := by decide +kernel
theorem dRk_works_191 : decode prog_6_method_2_code 191 = .ok (.if_icmp .ne 53, 3) := by decide +kernel
theorem dRk_works_194 : decode prog_6_method_2_code 194 = .ok (.aload_n 0, 1) := by decide +kernel
theorem dRk_works_195 : decode prog_6_method_2_code 195 = .ok (.getfield 9, 3) := by decide +kernel
theorem dRk_works_198 : decode prog_6_method_2_code 198 = .ok (.iload 4, 2) := by decide +kernel
theorem dRk_works_200 : decode prog_6_method_2_code 200 = .ok (.iconst 1, 1) := by decide +kernel
theorem dRk_works_201 : decode prog_6_method_2_code 201 = .ok (.isub, 1) := by decide +kernel
theorem dRk_works_202 : decode prog_6_method_2_code 202 = .ok (.laload, 1) := by decide +kernel
theorem dRk_works_203 : decode prog_6_method_2_code 203 = .ok (.lconst 0, 1) := by decide +kernel
theorem dRk_works_204 : decode prog_6_method_2_code 204 = .ok (.lcmp, 1) := by decide +kernel
theorem dRk_works_205 : decode prog_6_method_2_code 205 = .ok (.ifCond .eq 7, 3) := by decide +kernel
theorem dRk_works_208 : decode prog_6_method_2_code 208 = .ok (.iconst 1, 1) := by decide +kernel
theorem dRk_works_209 : decode prog_6_method_2_code 209 = .ok (.goto 4, 3) := by decide +kernel
theorem dRk_works_212 : decode prog_6_method_2_code 212 = .ok (.iconst 0, 1) := by decide +kernel
theorem dRk_works_213 : decode prog_6_method_2_code 213 = .ok (.istore 9, 2) := by decide +kernel
theorem dRk_works_215 : decode prog_6_method_2_code 215 = .ok (.iload 9, 2) := by decide +kernel
theorem dRk_works_217 : decode prog_6_method_2_code 217 = .ok (.iload 7, 2) := by decide +kernel
theorem dRk_works_219 : decode prog_6_method_2_code 219 = .ok (.iconst 4, 1) := by decide +kernel
theorem dRk_works_220 : decode prog_6_method_2_code 220 = .ok (.if_icmp .ne 7, 3) := by decide +kernel
theorem dRk_works_223 : decode prog_6_method_2_code 223 = .ok (.iconst 1, 1) := by decide +kernel
theorem dRk_works_224 : decode prog_6_method_2_code 224 = .ok (.goto 4, 3) := by decide +kernel
theorem dRk_works_227 : decode prog_6_method_2_code 227 = .ok (.iconst 0, 1) := by decide +kernel
theorem dRk_works_228 : decode prog_6_method_2_code 228 = .ok (.if_icmp .ne 10, 3) := by decide +kernel
theorem dRk_works_231 : decode prog_6_method_2_code 231 = .ok (.iload 8, 2) := by decide +kernel
theorem dRk_works_233 : decode prog_6_method_2_code 233 = .ok (.istore 5, 2) := by decide +kernel
theorem dRk_works_235 : decode prog_6_method_2_code 235 = .ok (.goto 6, 3) := by decide +kernel
theorem dRk_works_238 : decode prog_6_method_2_code 238 = .ok (.iinc 4 (-1), 3) := by decide +kernel
theorem dRk_works_241 : decode prog_6_method_2_code 241 = .ok (.goto 68, 3) := by decide +kernel
theorem dRk_works_244 : decode prog_6_method_2_code 244 = .ok (.iload 4, 2) := by decide +kernel
theorem dRk_works_246 : decode prog_6_method_2_code 246 = .ok (.iconst 2, 1) := by decide +kernel
theorem dRk_works_247 : decode prog_6_method_2_code 247 = .ok (.if_icmp .ge 5, 3) := by decide +kernel
theorem dRk_works_250 : decode prog_6_method_2_code 250 = .ok (.iconst 0, 1) := by decide +kernel
theorem dRk_works_251 : decode prog_6_method_2_code 251 = .ok (.ireturn, 1) := by decide +kernel
theorem dRk_works_252 : decode prog_6_method_2_code 252 = .ok (.iinc 4 (-1), 3) := by decide +kernel
theorem dRk_works_255 : decode prog_6_method_2_code 255 = .ok (.iload 7, 2) := by decide +kernel
theorem dRk_works_257 : decode prog_6_method_2_code 257 = .ok (.aload_n 0, 1) := by decide +kernel
theorem dRk_works_258 : decode prog_6_method_2_code 258 = .ok (.getfield 9, 3) := by decide +kernel
theorem dRk_works_261 : decode prog_6_method_2_code 261 = .ok (.iload 4, 2) := by decide +kernel
theorem dRk_works_263 : decode prog_6_method_2_code 263 = .ok (.iconst 1, 1) := by decide +kernel
theorem dRk_works_264 : decode prog_6_method_2_code 264 = .ok (.isub, 1) := by decide +kernel
theorem dRk_works_265 : decode prog_6_method_2_code 265 = .ok (.laload, 1) := by decide +kernel
theorem dRk_works_266 : decode prog_6_method_2_code 266 = .ok (.aload_n 0, 1) := by decide +kernel
theorem dRk_works_267 : decode prog_6_method_2_code 267 = .ok (.getfield 9, 3) := by decide +kernel
theorem dRk_works_270 : decode prog_6_method_2_code 270 = .ok (.iload 4, 2) := by decide +kernel
theorem dRk_works_272 : decode prog_6_method_2_code 272 = .ok (.laload, 1) := by decide +kernel
theorem dRk_works_273 : decode prog_6_method_2_code 273 = .ok (.invokestatic 28, 3) := by decide +kernel
theorem dRk_works_276 : decode prog_6_method_2_code 276 = .ok (.lstore 9, 2) := by decide +kernel
theorem dRk_works_278 : decode prog_6_method_2_code 278 = .ok (.lload 9, 2) := by decide +kernel
theorem dRk_works_280 : decode prog_6_method_2_code 280 = .ok (.ldc2_w 32, 3) := by decide +kernel
theorem dRk_works_283 : decode prog_6_method_2_code 283 = .ok (.lcmp, 1) := by decide +kernel
theorem dRk_works_284 : decode prog_6_method_2_code 284 = .ok (.ifCond .gt 12, 3) := by decide +kernel
theorem dRk_works_287 : decode prog_6_method_2_code 287 = .ok (.lload 9, 2) := by decide +kernel
theorem dRk_works_289 : decode prog_6_method_2_code 289 = .ok (.ldc2_w 34, 3) := by decide +kernel
theorem dRk_works_292 : decode prog_6_method_2_code 292 = .ok (.lcmp, 1) := by decide +kernel
theorem dRk_works_293 : decode prog_6_method_2_code 293 = .ok (.ifCond .ge 5, 3) := by decide +kernel
theorem dRk_works_296 : decode prog_6_method_2_code 296 = .ok (.iconst 0, 1) := by decide +kernel
theorem dRk_works_297 : decode prog_6_method_2_code 297 = .ok (.ireturn, 1) := by decide +kernel
theorem dRk_works_298 : decode prog_6_method_2_code 298 = .ok (.aload_n 0, 1) := by decide +kernel
theorem dRk_works_299 : decode prog_6_method_2_code 299 = .ok (.getfield 9, 3) := by decide +kernel
theorem dRk_works_302 : decode prog_6_method_2_code 302 = .ok (.iload 4, 2) := by decide +kernel
theorem dRk_works_304 : decode prog_6_method_2_code 304 = .ok (.iconst 1, 1) := by decide +kernel
theorem dRk_works_305 : decode prog_6_method_2_code 305 = .ok (.isub, 1) := by decide +kernel
theorem dRk_works_306 : decode prog_6_method_2_code 306 = .ok (.lload 9, 2) := by decide +kernel
theorem dRk_works_308 : decode prog_6_method_2_code 308 = .ok (.lastore, 1) := by decide +kernel
theorem dRk_works_309 : decode prog_6_method_2_code 309 = .ok (.iinc 6 1, 3) := by decide +kernel
theorem dRk_works_312 : decode prog_6_method_2_code 312 = .ok (.goto (-303), 3) := by decide +kernel
theorem dRk_works_315 : decode prog_6_method_2_code 315 = .ok (.iconst 0, 1) := by decide +kernel
theorem dRk_works_316 : decode prog_6_method_2_code 316 = .ok (.ireturn, 1) := by decide +kernel
theorem dJu_holds_0 : decode prog_3_method_9_code 0 = .ok (.aload_n 1, 1) := by decide +kernel
theorem dJu_holds_1 : decode prog_3_method_9_code 1 = .ok (.getfield 87, 3) := by decide +kernel
theorem dJu_holds_4 : decode prog_3_method_9_code 4 = .ok (.iload_n 2, 1) := by decide +kernel
theorem dJu_holds_5 : decode prog_3_method_9_code 5 = .ok (.iaload, 1) := by decide +kernel
theorem dJu_holds_6 : decode prog_3_method_9_code 6 = .ok (.istore_n 3, 1) := by decide +kernel
theorem dJu_holds_7 : decode prog_3_method_9_code 7 = .ok (.iload_n 3, 1) := by decide +kernel
theorem dJu_holds_8 : decode prog_3_method_9_code 8 = .ok (.iconst (-1), 1) := by decide +kernel
theorem dJu_holds_9 : decode prog_3_method_9_code 9 = .ok (.if_icmp .eq 29, 3) := by decide +kernel
theorem dJu_holds_12 : decode prog_3_method_9_code 12 = .ok (.aload_n 0, 1) := by decide +kernel
theorem dJu_holds_13 : decode prog_3_method_9_code 13 = .ok (.getfield 12, 3) := by decide +kernel
theorem dJu_holds_16 : decode prog_3_method_9_code 16 = .ok (.aload_n 1, 1) := by decide +kernel
theorem dJu_holds_17 : decode prog_3_method_9_code 17 = .ok (.iload_n 3, 1) := by decide +kernel
theorem dJu_holds_18 : decode prog_3_method_9_code 18 = .ok (.aload_n 0, 1) := by decide +kernel
theorem dJu_holds_19 : decode prog_3_method_9_code 19 = .ok (.getfield 18, 3) := by decide +kernel
theorem dJu_holds_22 : decode prog_3_method_9_code 22 = .ok (.invokevirtual 80, 3) := by decide +kernel
theorem dJu_holds_25 : decode prog_3_method_9_code 25 = .ok (.ifCond .eq 17, 3) := by decide +kernel
theorem dJu_holds_28 : decode prog_3_method_9_code 28 = .ok (.aload_n 0, 1) := by decide +kernel
theorem dJu_holds_29 : decode prog_3_method_9_code 29 = .ok (.getfield 12, 3) := by decide +kernel
theorem dJu_holds_32 : decode prog_3_method_9_code 32 = .ok (.getfield 84, 3) := by decide +kernel
theorem dJu_holds_35 : decode prog_3_method_9_code 35 = .ok (.ifCond .eq 7, 3) := by decide +kernel
theorem dJu_holds_38 : decode prog_3_method_9_code 38 = .ok (.iconst 1, 1) := by decide +kernel
theorem dJu_holds_39 : decode prog_3_method_9_code 39 = .ok (.goto 4, 3) := by decide +kernel
theorem dJu_holds_42 : decode prog_3_method_9_code 42 = .ok (.iconst 0, 1) := by decide +kernel
theorem dJu_holds_43 : decode prog_3_method_9_code 43 = .ok (.ireturn, 1) := by decide +kernel
theorem dRe_advance_0 : decode prog_5_method_5_code 0 = .ok (.aload_n 0, 1) := by decide +kernel
theorem dRe_advance_1 : decode prog_5_method_5_code 1 = .ok (.aload_n 0, 1) := by decide +kernel
theorem dRe_advance_2 : decode prog_5_method_5_code 2 = .ok (.getfield 35, 3) := by decide +kernel
theorem dRe_advance_5 : decode prog_5_method_5_code 5 = .ok (.putfield 71, 3) := by decide +kernel
theorem dRe_advance_8 : decode prog_5_method_5_code 8 = .ok (.iconst 0, 1) := by decide +kernel
theorem dRe_advance_9 : decode prog_5_method_5_code 9 = .ok (.istore_n 1, 1) := by decide +kernel
theorem dRe_advance_10 : decode prog_5_method_5_code 10 = .ok (.iload_n 1, 1) := by decide +kernel
theorem dRe_advance_11 : decode prog_5_method_5_code 11 = .ok (.sipush 400, 3) := by decide +kernel
theorem dRe_advance_14 : decode prog_5_method_5_code 14 = .ok (.if_icmp .ge 44, 3) := by decide +kernel
theorem dRe_advance_17 : decode prog_5_method_5_code 17 = .ok (.aload_n 0, 1) := by decide +kernel
theorem dRe_advance_18 : decode prog_5_method_5_code 18 = .ok (.getfield 71, 3) := by decide +kernel
theorem dRe_advance_21 : decode prog_5_method_5_code 21 = .ok (.aload_n 0, 1) := by decide +kernel
theorem dRe_advance_22 : decode prog_5_method_5_code 22 = .ok (.getfield 28, 3) := by decide +kernel
theorem dRe_advance_25 : decode prog_5_method_5_code 25 = .ok (.if_icmp .ge 33, 3) := by decide +kernel
theorem dRe_advance_28 : decode prog_5_method_5_code 28 = .ok (.aload_n 0, 1) := by decide +kernel
theorem dRe_advance_29 : decode prog_5_method_5_code 29 = .ok (.getfield 9, 3) := by decide +kernel
theorem dRe_advance_32 : decode prog_5_method_5_code 32 = .ok (.aload_n 0, 1) := by decide +kernel
theorem dRe_advance_33 : decode prog_5_method_5_code 33 = .ok (.getfield 71, 3) := by decide +kernel
theorem dRe_advance_36 : decode prog_5_method_5_code 36 = .ok (.iaload, 1) := by decide +kernel
theorem dRe_advance_37 : decode prog_5_method_5_code 37 = .ok (.bipush 32, 2) := by decide +kernel
theorem dRe_advance_39 : decode prog_5_method_5_code 39 = .ok (.if_icmp .ne 19, 3) := by decide +kernel
theorem dRe_advance_42 : decode prog_5_method_5_code 42 = .ok (.aload_n 0, 1) := by decide +kernel
theorem dRe_advance_43 : decode prog_5_method_5_code 43 = .ok (.dup, 1) := by decide +kernel
theorem dRe_advance_44 : decode prog_5_method_5_code 44 = .ok (.getfield 71, 3) := by decide +kernel
theorem dRe_advance_47 : decode prog_5_method_5_code 47 = .ok (.iconst 1, 1) := by decide +kernel
theorem dRe_advance_48 : decode prog_5_method_5_code 48 = .ok (.iadd, 1) := by decide +kernel
theorem dRe_advance_49 : decode prog_5_method_5_code 49 = .ok (.putfield 71, 3) := by decide +kernel
theorem dRe_advance_52 : decode prog_5_method_5_code 52 = .ok (.iinc 1 1, 3) := by decide +kernel
theorem dRe_advance_55 : decode prog_5_method_5_code 55 = .ok (.goto (-45), 3) := by decide +kernel
theorem dRe_advance_58 : decode prog_5_method_5_code 58 = .ok (.aload_n 0, 1) := by decide +kernel
theorem dRe_advance_59 : decode prog_5_method_5_code 59 = .ok (.aload_n 0, 1) := by decide +kernel
theorem dRe_advance_60 : decode prog_5_method_5_code 60 = .ok (.getfield 71, 3) := by decide +kernel
theorem dRe_advance_63 : decode prog_5_method_5_code 63 = .ok (.putfield 35, 3) := by decide +kernel
theorem dRe_advance_66 : decode prog_5_method_5_code 66 = .ok (.aload_n 0, 1) := by decide +kernel
theorem dRe_advance_67 : decode prog_5_method_5_code 67 = .ok (.getfield 71, 3) := by decide +kernel
theorem dRe_advance_70 : decode prog_5_method_5_code 70 = .ok (.aload_n 0, 1) := by decide +kernel
theorem dRe_advance_71 : decode prog_5_method_5_code 71 = .ok (.getfield 28, 3) := by decide +kernel
theorem dRe_advance_74 : decode prog_5_method_5_code 74 = .ok (.if_icmp .ge 85, 3) := by decide +kernel
theorem dRe_advance_77 : decode prog_5_method_5_code 77 = .ok (.aload_n 0, 1) := by decide +kernel
theorem dRe_advance_78 : decode prog_5_method_5_code 78 = .ok (.getfield 9, 3) := by decide +kernel
theorem dRe_advance_81 : decode prog_5_method_5_code 81 = .ok (.aload_n 0, 1) := by decide +kernel
theorem dRe_advance_82 : decode prog_5_method_5_code 82 = .ok (.getfield 71, 3) := by decide +kernel
theorem dRe_advance_85 : decode prog_5_method_5_code 85 = .ok (.iaload, 1) := by decide +kernel
theorem dRe_advance_86 : decode prog_5_method_5_code 86 = .ok (.invokestatic 77, 3) := by decide +kernel
theorem dRe_advance_89 : decode prog_5_method_5_code 89 = .ok (.istore_n 1, 1) := by decide +kernel
theorem dRe_advance_90 : decode prog_5_method_5_code 90 = .ok (.aload_n 0, 1) := by decide +kernel
theorem dRe_advance_91 : decode prog_5_method_5_code 91 = .ok (.dup, 1) := by decide +kernel
theorem dRe_advance_92 : decode prog_5_method_5_code 92 = .ok (.getfield 35, 3) := by decide +kernel
theorem dRe_advance_95 : decode prog_5_method_5_code 95 = .ok (.iconst 1, 1) := by decide +kernel
theorem dRe_advance_96 : decode prog_5_method_5_code 96 = .ok (.iadd, 1) := by decide +kernel
theorem dRe_advance_97 : decode prog_5_method_5_code 97 = .ok (.putfield 35, 3) := by decide +kernel
theorem dRe_advance_100 : decode prog_5_method_5_code 100 = .ok (.iconst 0, 1) := by decide +kernel
theorem dRe_advance_101 : decode prog_5_method_5_code 101 = .ok (.istore_n 2, 1) := by decide +kernel
theorem dRe_advance_102 : decode prog_5_method_5_code 102 = .ok (.iload_n 2, 1) := by decide +kernel
theorem dRe_advance_103 : decode prog_5_method_5_code 103 = .ok (.sipush 400, 3) := by decide +kernel
theorem dRe_advance_106 : decode prog_5_method_5_code 106 = .ok (.if_icmp .ge 53, 3) := by decide +kernel
theorem dRe_advance_109 : decode prog_5_method_5_code 109 = .ok (.iload_n 1, 1) := by decide +kernel
theorem dRe_advance_110 : decode prog_5_method_5_code 110 = .ok (.ifCond .eq 49, 3) := by decide +kernel
theorem dRe_advance_113 : decode prog_5_method_5_code 113 = .ok (.aload_n 0, 1) := by decide +kernel
theorem dRe_advance_114 : decode prog_5_method_5_code 114 = .ok (.getfield 35, 3) := by decide +kernel
theorem dRe_advance_117 : decode prog_5_method_5_code 117 = .ok (.aload_n 0, 1) := by decide +kernel
theorem dRe_advance_118 : decode prog_5_method_5_code 118 = .ok (.getfield 28, 3) := by decide +kernel
theorem dRe_advance_121 : decode prog_5_method_5_code 121 = .ok (.if_icmp .ge 38, 3) := by decide +kernel
theorem dRe_advance_124 : decode prog_5_method_5_code 124 = .ok (.aload_n 0, 1) := by decide +kernel
theorem dRe_advance_125 : decode prog_5_method_5_code 125 = .ok (.getfield 9, 3) := by decide +kernel
theorem dRe_advance_128 : decode prog_5_method_5_code 128 = .ok (.aload_n 0, 1) := by decide +kernel
theorem dRe_advance_129 : decode prog_5_method_5_code 129 = .ok (.getfield 35, 3) := by decide +kernel
theorem dRe_advance_132 : decode prog_5_method_5_code 132 = .ok (.iaload, 1) := by decide +kernel
theorem dRe_advance_133 : decode prog_5_method_5_code 133 = .ok (.invokestatic 77, 3) := by decide +kernel
theorem dRe_advance_136 : decode prog_5_method_5_code 136 = .ok (.iload_n 1, 1) := by decide +kernel
theorem dRe_advance_137 : decode prog_5_method_5_code 137 = .ok (.if_icmp .eq 6, 3) := by decide +kernel
theorem dRe_advance_140 : decode prog_5_method_5_code 140 = .ok (.goto 19, 3) := by decide +kernel
theorem dRe_advance_143 : decode prog_5_method_5_code 143 = .ok (.aload_n 0, 1) := by decide +kernel
theorem dRe_advance_144 : decode prog_5_method_5_code 144 = .ok (.dup, 1) := by decide +kernel
theorem dRe_advance_145 : decode prog_5_method_5_code 145 = .ok (.getfield 35, 3) := by decide +kernel
theorem dRe_advance_148 : decode prog_5_method_5_code 148 = .ok (.iconst 1, 1) := by decide +kernel
theorem dRe_advance_149 : decode prog_5_method_5_code 149 = .ok (.iadd, 1) := by decide +kernel
theorem dRe_advance_150 : decode prog_5_method_5_code 150 = .ok (.putfield 35, 3) := by decide +kernel
theorem dRe_advance_153 : decode prog_5_method_5_code 153 = .ok (.iinc 2 1, 3) := by decide +kernel
theorem dRe_advance_156 : decode prog_5_method_5_code 156 = .ok (.goto (-54), 3) := by decide +kernel
theorem dRe_advance_159 : decode prog_5_method_5_code 159 = .ok (.return_, 1) := by decide +kernel
theorem dRe_accepts_0 : decode prog_5_method_8_code 0 = .ok (.aload_n 0, 1) := by decide +kernel
theorem dRe_accepts_1 : decode prog_5_method_8_code 1 = .ok (.aload_n 1, 1) := by decide +kernel
theorem dRe_accepts_2 : decode prog_5_method_8_code 2 = .ok (.invokevirtual 90, 3) := by decide +kernel
theorem dRe_accepts_5 : decode prog_5_method_8_code 5 = .ok (.ifCond .ne 5, 3) := by decide +kernel
theorem dRe_accepts_8 : decode prog_5_method_8_code 8 = .ok (.iconst 0, 1) := by decide +kernel
theorem dRe_accepts_9 : decode prog_5_method_8_code 9 = .ok (.ireturn, 1) := by decide +kernel
theorem dRe_accepts_10 : decode prog_5_method_8_code 10 = .ok (.aload_n 0, 1) := by decide +kernel
theorem dRe_accepts_11 : decode prog_5_method_8_code 11 = .ok (.invokevirtual 47, 3) := by decide +kernel
theorem dRe_accepts_14 : decode prog_5_method_8_code 14 = .ok (.iconst 1, 1) := by decide +kernel
theorem dRe_accepts_15 : decode prog_5_method_8_code 15 = .ok (.ireturn, 1) := by decide +kernel
theorem dRe_expect_0 : decode prog_5_method_9_code 0 = .ok (.aload_n 0, 1) := by decide +kernel
theorem dRe_expect_1 : decode prog_5_method_9_code 1 = .ok (.aload_n 1, 1) := by decide +kernel
theorem dRe_expect_2 : decode prog_5_method_9_code 2 = .ok (.invokevirtual 67, 3) := by decide +kernel
theorem dRe_expect_5 : decode prog_5_method_9_code 5 = .ok (.ifCond .ne 7, 3) := by decide +kernel
theorem dRe_expect_8 : decode prog_5_method_9_code 8 = .ok (.aload_n 0, 1) := by decide +kernel
theorem dRe_expect_9 : decode prog_5_method_9_code 9 = .ok (.invokevirtual 74, 3) := by decide +kernel
theorem dRe_expect_12 : decode prog_5_method_9_code 12 = .ok (.return_, 1) := by decide +kernel
theorem dRe_expectNumber_0 : decode prog_5_method_11_code 0 = .ok (.aload_n 0, 1) := by decide +kernel
theorem dRe_expectNumber_1 : decode prog_5_method_11_code 1 = .ok (.iload_n 1, 1) := by decide +kernel
theorem dRe_expectNumber_2 : decode prog_5_method_11_code 2 = .ok (.iload_n 2, 1) := by decide +kernel
theorem dRe_expectNumber_3 : decode prog_5_method_11_code 3 = .ok (.invokevirtual 99, 3) := by decide +kernel
theorem dRe_expectNumber_6 : decode prog_5_method_11_code 6 = .ok (.istore_n 3, 1) := by decide +kernel
theorem dRe_expectNumber_7 : decode prog_5_method_11_code 7 = .ok (.iload_n 3, 1) := by decide +kernel
theorem dRe_expectNumber_8 : decode prog_5_method_11_code 8 = .ok (.iconst (-1), 1) := by decide +kernel
theorem dRe_expectNumber_9 : decode prog_5_method_11_code 9 = .ok (.if_icmp .ne 10, 3) := by decide +kernel
theorem dRe_expectNumber_12 : decode prog_5_method_11_code 12 = .ok (.aload_n 0, 1) := by decide +kernel
theorem dRe_expectNumber_13 : decode prog_5_method_11_code 13 = .ok (.invokevirtual 74, 3) := by decide +kernel
theorem dRe_expectNumber_16 : decode prog_5_method_11_code 16 = .ok (.goto 7, 3) := by decide +kernel
theorem dRe_expectNumber_19 : decode prog_5_method_11_code 19 = .ok (.aload_n 0, 1) := by decide +kernel
theorem dRe_expectNumber_20 : decode prog_5_method_11_code 20 = .ok (.invokevirtual 47, 3) := by decide +kernel
theorem dRe_expectNumber_23 : decode prog_5_method_11_code 23 = .ok (.iload_n 3, 1) := by decide +kernel
theorem dRe_expectNumber_24 : decode prog_5_method_11_code 24 = .ok (.ireturn, 1) := by decide +kernel
theorem dRe_opens_0 : decode prog_5_method_24_code 0 = .ok (.aload_n 0, 1) := by decide +kernel
theorem dRe_opens_1 : decode prog_5_method_24_code 1 = .ok (.getfield 41, 3) := by decide +kernel
theorem dRe_opens_4 : decode prog_5_method_24_code 4 = .ok (.bipush 8, 2) := by decide +kernel
theorem dRe_opens_6 : decode prog_5_method_24_code 6 = .ok (.if_icmp .lt 9, 3) := by decide +kernel
theorem dRe_opens_9 : decode prog_5_method_24_code 9 = .ok (.aload_n 0, 1) := by decide +kernel
theorem dRe_opens_10 : decode prog_5_method_24_code 10 = .ok (.invokevirtual 74, 3) := by decide +kernel
theorem dRe_opens_13 : decode prog_5_method_24_code 13 = .ok (.iconst 0, 1) := by decide +kernel
theorem dRe_opens_14 : decode prog_5_method_24_code 14 = .ok (.ireturn, 1) := by decide +kernel
theorem dRe_opens_15 : decode prog_5_method_24_code 15 = .ok (.aload_n 0, 1) := by decide +kernel
theorem dRe_opens_16 : decode prog_5_method_24_code 16 = .ok (.dup, 1) := by decide +kernel
theorem dRe_opens_17 : decode prog_5_method_24_code 17 = .ok (.getfield 41, 3) := by decide +kernel
theorem dRe_opens_20 : decode prog_5_method_24_code 20 = .ok (.iconst 1, 1) := by decide +kernel
theorem dRe_opens_21 : decode prog_5_method_24_code 21 = .ok (.iadd, 1) := by decide +kernel
theorem dRe_opens_22 : decode prog_5_method_24_code 22 = .ok (.putfield 41, 3) := by decide +kernel
theorem dRe_opens_25 : decode prog_5_method_24_code 25 = .ok (.aload_n 0, 1) := by decide +kernel
theorem dRe_opens_26 : decode prog_5_method_24_code 26 = .ok (.invokevirtual 47, 3) := by decide +kernel
theorem dRe_opens_29 : decode prog_5_method_24_code 29 = .ok (.iconst 1, 1) := by decide +kernel
theorem dRe_opens_30 : decode prog_5_method_24_code 30 = .ok (.ireturn, 1) := by decide +kernel
theorem dRe_closes_0 : decode prog_5_method_25_code 0 = .ok (.aload_n 0, 1) := by decide +kernel
theorem dRe_closes_1 : decode prog_5_method_25_code 1 = .ok (.aload_n 1, 1) := by decide +kernel
theorem dRe_closes_2 : decode prog_5_method_25_code 2 = .ok (.invokevirtual 90, 3) := by decide +kernel
theorem dRe_closes_5 : decode prog_5_method_25_code 5 = .ok (.ifCond .eq 10, 3) := by decide +kernel
theorem dRe_closes_8 : decode prog_5_method_25_code 8 = .ok (.aload_n 0, 1) := by decide +kernel
theorem dRe_closes_9 : decode prog_5_method_25_code 9 = .ok (.invokevirtual 47, 3) := by decide +kernel
theorem dRe_closes_12 : decode prog_5_method_25_code 12 = .ok (.goto 7, 3) := by decide +kernel
theorem dRe_closes_15 : decode prog_5_method_25_code 15 = .ok (.aload_n 0, 1) := by decide +kernel
theorem dRe_closes_16 : decode prog_5_method_25_code 16 = .ok (.invokevirtual 74, 3) := by decide +kernel
theorem dRe_closes_19 : decode prog_5_method_25_code 19 = .ok (.aload_n 0, 1) := by decide +kernel
theorem dRe_closes_20 : decode prog_5_method_25_code 20 = .ok (.dup, 1) := by decide +kernel
theorem dRe_closes_21 : decode prog_5_method_25_code 21 = .ok (.getfield 41, 3) := by decide +kernel
theorem dRe_closes_24 : decode prog_5_method_25_code 24 = .ok (.iconst 1, 1) := by decide +kernel
theorem dRe_closes_25 : decode prog_5_method_25_code 25 = .ok (.isub, 1) := by decide +kernel
theorem dRe_closes_26 : decode prog_5_method_25_code 26 = .ok (.putfield 41, 3) := by decide +kernel
theorem dRe_closes_29 : decode prog_5_method_25_code 29 = .ok (.return_, 1) := by decide +kernel
theorem dRo_tallyTails_0 : decode prog_7_method_4_code 0 = .ok (.iconst 0, 1) := by decide +kernel
theorem dRo_tallyTails_1 : decode prog_7_method_4_code 1 = .ok (.istore_n 1, 1) := by decide +kernel
theorem dRo_tallyTails_2 : decode prog_7_method_4_code 2 = .ok (.iload_n 1, 1) := by decide +kernel
theorem dRo_tallyTails_3 : decode prog_7_method_4_code 3 = .ok (.iconst 3, 1) := by decide +kernel
theorem dRo_tallyTails_4 : decode prog_7_method_4_code 4 = .ok (.if_icmp .gt 19, 3) := by decide +kernel
theorem dRo_tallyTails_7 : decode prog_7_method_4_code 7 = .ok (.aload_n 0, 1) := by decide +kernel
theorem dRo_tallyTails_8 : decode prog_7_method_4_code 8 = .ok (.getfield 29, 3) := by decide +kernel
theorem dRo_tallyTails_11 : decode prog_7_method_4_code 11 = .ok (.iload_n 1, 1) := by decide +kernel
theorem dRo_tallyTails_12 : decode prog_7_method_4_code 12 = .ok (.aaload, 1) := by decide +kernel
theorem dRo_tallyTails_13 : decode prog_7_method_4_code 13 = .ok (.iconst 0, 1) := by decide +kernel
theorem dRo_tallyTails_14 : decode prog_7_method_4_code 14 = .ok (.invokestatic 32, 3) := by decide +kernel
theorem dRo_tallyTails_17 : decode prog_7_method_4_code 17 = .ok (.iinc 1 1, 3) := by decide +kernel
theorem dRo_tallyTails_20 : decode prog_7_method_4_code 20 = .ok (.goto (-18), 3) := by decide +kernel
theorem dRo_tallyTails_23 : decode prog_7_method_4_code 23 = .ok (.aload_n 0, 1) := by decide +kernel
theorem dRo_tallyTails_24 : decode prog_7_method_4_code 24 = .ok (.iconst 4, 1) := by decide +kernel
theorem dRo_tallyTails_25 : decode prog_7_method_4_code 25 = .ok (.iconst 0, 1) := by decide +kernel
theorem dRo_tallyTails_26 : decode prog_7_method_4_code 26 = .ok (.iconst 0, 1) := by decide +kernel
theorem dRo_tallyTails_27 : decode prog_7_method_4_code 27 = .ok (.invokevirtual 38, 3) := by decide +kernel
theorem dRo_tallyTails_30 : decode prog_7_method_4_code 30 = .ok (.iconst 0, 1) := by decide +kernel
theorem dRo_tallyTails_31 : decode prog_7_method_4_code 31 = .ok (.istore_n 1, 1) := by decide +kernel
theorem dRo_tallyTails_32 : decode prog_7_method_4_code 32 = .ok (.iload_n 1, 1) := by decide +kernel
theorem dRo_tallyTails_33 : decode prog_7_method_4_code 33 = .ok (.iconst 3, 1) := by decide +kernel
theorem dRo_tallyTails_34 : decode prog_7_method_4_code 34 = .ok (.if_icmp .gt 45, 3) := by decide +kernel
theorem dRo_tallyTails_37 : decode prog_7_method_4_code 37 = .ok (.iconst 1, 1) := by decide +kernel
theorem dRo_tallyTails_38 : decode prog_7_method_4_code 38 = .ok (.istore_n 2, 1) := by decide +kernel
theorem dRo_tallyTails_39 : decode prog_7_method_4_code 39 = .ok (.iload_n 2, 1) := by decide +kernel
theorem dRo_tallyTails_40 : decode prog_7_method_4_code 40 = .ok (.sipush 1784, 3) := by decide +kernel
theorem dRo_tallyTails_43 : decode prog_7_method_4_code 43 = .ok (.if_icmp .ge 30, 3) := by decide +kernel
theorem dRo_tallyTails_46 : decode prog_7_method_4_code 46 = .ok (.aload_n 0, 1) := by decide +kernel
theorem dRo_tallyTails_47 : decode prog_7_method_4_code 47 = .ok (.getfield 29, 3) := by decide +kernel
theorem dRo_tallyTails_50 : decode prog_7_method_4_code 50 = .ok (.iload_n 1, 1) := by decide +kernel
theorem dRo_tallyTails_51 : decode prog_7_method_4_code 51 = .ok (.aaload, 1) := by decide +kernel
theorem dRo_tallyTails_52 : decode prog_7_method_4_code 52 = .ok (.iload_n 2, 1) := by decide +kernel
theorem dRo_tallyTails_53 : decode prog_7_method_4_code 53 = .ok (.dup2, 1) := by decide +kernel
theorem dRo_tallyTails_54 : decode prog_7_method_4_code 54 = .ok (.iaload, 1) := by decide +kernel
theorem dRo_tallyTails_55 : decode prog_7_method_4_code 55 = .ok (.aload_n 0, 1) := by decide +kernel
theorem dRo_tallyTails_56 : decode prog_7_method_4_code 56 = .ok (.getfield 29, 3) := by decide +kernel
theorem dRo_tallyTails_59 : decode prog_7_method_4_code 59 = .ok (.iload_n 1, 1) := by decide +kernel
theorem dRo_tallyTails_60 : decode prog_7_method_4_code 60 = .ok (.aaload, 1) := by decide +kernel
theorem dRo_tallyTails_61 : decode prog_7_method_4_code 61 = .ok (.iload_n 2, 1) := by decide +kernel
theorem dRo_tallyTails_62 : decode prog_7_method_4_code 62 = .ok (.iconst 1, 1) := by decide +kernel
theorem dRo_tallyTails_63 : decode prog_7_method_4_code 63 = .ok (.isub, 1) := by decide +kernel
theorem dRo_tallyTails_64 : decode prog_7_method_4_code 64 = .ok (.iaload, 1) := by decide +kernel
theorem dRo_tallyTails_65 : decode prog_7_method_4_code 65 = .ok (.iadd, 1) := by decide +kernel
theorem dRo_tallyTails_66 : decode prog_7_method_4_code 66 = .ok (.iastore, 1) := by decide +kernel
theorem dRo_tallyTails_67 : decode prog_7_method_4_code 67 = .ok (.iinc 2 1, 3) := by decide +kernel
theorem dRo_tallyTails_70 : decode prog_7_method_4_code 70 = .ok (.goto (-31), 3) := by decide +kernel
theorem dRo_tallyTails_73 : decode prog_7_method_4_code 73 = .ok (.iinc 1 1, 3) := by decide +kernel
theorem dRo_tallyTails_76 : decode prog_7_method_4_code 76 = .ok (.goto (-44), 3) := by decide +kernel
theorem dRo_tallyTails_79 : decode prog_7_method_4_code 79 = .ok (.return_, 1) := by decide +kernel
theorem dRo_manyFrom_0 : decode prog_7_method_7_code 0 = .ok (.iload_n 1, 1) := by decide +kernel
theorem dRo_manyFrom_1 : decode prog_7_method_7_code 1 = .ok (.iconst 4, 1) := by decide +kernel
theorem dRo_manyFrom_2 : decode prog_7_method_7_code 2 = .ok (.if_icmp .lt 10, 3) := by decide +kernel
theorem dRo_manyFrom_5 : decode prog_7_method_7_code 5 = .ok (.aload_n 0, 1) := by decide +kernel
theorem dRo_manyFrom_6 : decode prog_7_method_7_code 6 = .ok (.iload_n 2, 1) := by decide +kernel
theorem dRo_manyFrom_7 : decode prog_7_method_7_code 7 = .ok (.iload_n 3, 1) := by decide +kernel
theorem dRo_manyFrom_8 : decode prog_7_method_7_code 8 = .ok (.invokevirtual 53, 3) := by decide +kernel
theorem dRo_manyFrom_11 : decode prog_7_method_7_code 11 = .ok (.ireturn, 1) := by decide +kernel
theorem dRo_manyFrom_12 : decode prog_7_method_7_code 12 = .ok (.iconst 0, 1) := by decide +kernel
theorem dRo_manyFrom_13 : decode prog_7_method_7_code 13 = .ok (.istore 4, 2) := by decide +kernel
theorem dRo_manyFrom_15 : decode prog_7_method_7_code 15 = .ok (.iconst 0, 1) := by decide +kernel
theorem dRo_manyFrom_16 : decode prog_7_method_7_code 16 = .ok (.istore 5, 2) := by decide +kernel
theorem dRo_manyFrom_18 : decode prog_7_method_7_code 18 = .ok (.iload 5, 2) := by decide +kernel
theorem dRo_manyFrom_20 : decode prog_7_method_7_code 20 = .ok (.aload_n 0, 1) := by decide +kernel
theorem dRo_manyFrom_21 : decode prog_7_method_7_code 21 = .ok (.getfield 15, 3) := by decide +kernel
theorem dRo_manyFrom_24 : decode prog_7_method_7_code 24 = .ok (.iload_n 1, 1) := by decide +kernel
theorem dRo_manyFrom_25 : decode prog_7_method_7_code 25 = .ok (.iaload, 1) := by decide +kernel
theorem dRo_manyFrom_26 : decode prog_7_method_7_code 26 = .ok (.if_icmp .ge 43, 3) := by decide +kernel
theorem dRo_manyFrom_29 : decode prog_7_method_7_code 29 = .ok (.iload 4, 2) := by decide +kernel
theorem dRo_manyFrom_31 : decode prog_7_method_7_code 31 = .ok (.aload_n 0, 1) := by decide +kernel
theorem dRo_manyFrom_32 : decode prog_7_method_7_code 32 = .ok (.iload_n 1, 1) := by decide +kernel
theorem dRo_manyFrom_33 : decode prog_7_method_7_code 33 = .ok (.iconst 1, 1) := by decide +kernel
theorem dRo_manyFrom_34 : decode prog_7_method_7_code 34 = .ok (.iadd, 1) := by decide +kernel
theorem dRo_manyFrom_35 : decode prog_7_method_7_code 35 = .ok (.iload_n 2, 1) := by decide +kernel
theorem dRo_manyFrom_36 : decode prog_7_method_7_code 36 = .ok (.aload_n 0, 1) := by decide +kernel
theorem dRo_manyFrom_37 : decode prog_7_method_7_code 37 = .ok (.getfield 23, 3) := by decide +kernel
theorem dRo_manyFrom_40 : decode prog_7_method_7_code 40 = .ok (.iload_n 1, 1) := by decide +kernel
theorem dRo_manyFrom_41 : decode prog_7_method_7_code 41 = .ok (.aaload, 1) := by decide +kernel
theorem dRo_manyFrom_42 : decode prog_7_method_7_code 42 = .ok (.iload 5, 2) := by decide +kernel
theorem dRo_manyFrom_44 : decode prog_7_method_7_code 44 = .ok (.iaload, 1) := by decide +kernel
theorem dRo_manyFrom_45 : decode prog_7_method_7_code 45 = .ok (.iadd, 1) := by decide +kernel
theorem dRo_manyFrom_46 : decode prog_7_method_7_code 46 = .ok (.iload_n 3, 1) := by decide +kernel
theorem dRo_manyFrom_47 : decode prog_7_method_7_code 47 = .ok (.aload_n 0, 1) := by decide +kernel
theorem dRo_manyFrom_48 : decode prog_7_method_7_code 48 = .ok (.getfield 26, 3) := by decide +kernel
theorem dRo_manyFrom_51 : decode prog_7_method_7_code 51 = .ok (.iload_n 1, 1) := by decide +kernel
theorem dRo_manyFrom_52 : decode prog_7_method_7_code 52 = .ok (.aaload, 1) := by decide +kernel
theorem dRo_manyFrom_53 : decode prog_7_method_7_code 53 = .ok (.iload 5, 2) := by decide +kernel
theorem dRo_manyFrom_55 : decode prog_7_method_7_code 55 = .ok (.iaload, 1) := by decide +kernel
theorem dRo_manyFrom_56 : decode prog_7_method_7_code 56 = .ok (.iadd, 1) := by decide +kernel
theorem dRo_manyFrom_57 : decode prog_7_method_7_code 57 = .ok (.invokevirtual 49, 3) := by decide +kernel
theorem dRo_manyFrom_60 : decode prog_7_method_7_code 60 = .ok (.iadd, 1) := by decide +kernel
theorem dRo_manyFrom_61 : decode prog_7_method_7_code 61 = .ok (.istore 4, 2) := by decide +kernel
theorem dRo_manyFrom_63 : decode prog_7_method_7_code 63 = .ok (.iinc 5 1, 3) := by decide +kernel
theorem dRo_manyFrom_66 : decode prog_7_method_7_code 66 = .ok (.goto (-48), 3) := by decide +kernel
theorem dRo_manyFrom_69 : decode prog_7_method_7_code 69 = .ok (.iload 4, 2) := by decide +kernel
theorem dRo_manyFrom_71 : decode prog_7_method_7_code 71 = .ok (.ireturn, 1) := by decide +kernel
theorem dRo_finds_0 : decode prog_7_method_9_code 0 = .ok (.aload_n 0, 1) := by decide +kernel
theorem dRo_finds_1 : decode prog_7_method_9_code 1 = .ok (.iload_n 1, 1) := by decide +kernel
theorem dRo_finds_2 : decode prog_7_method_9_code 2 = .ok (.putfield 42, 3) := by decide +kernel
theorem dRo_finds_5 : decode prog_7_method_9_code 5 = .ok (.aload_n 0, 1) := by decide +kernel
theorem dRo_finds_6 : decode prog_7_method_9_code 6 = .ok (.iload_n 2, 1) := by decide +kernel
theorem dRo_finds_7 : decode prog_7_method_9_code 7 = .ok (.putfield 46, 3) := by decide +kernel
theorem dRo_finds_10 : decode prog_7_method_9_code 10 = .ok (.aload_n 0, 1) := by decide +kernel
theorem dRo_finds_11 : decode prog_7_method_9_code 11 = .ok (.iconst 0, 1) := by decide +kernel
theorem dRo_finds_12 : decode prog_7_method_9_code 12 = .ok (.iconst 0, 1) := by decide +kernel
theorem dRo_finds_13 : decode prog_7_method_9_code 13 = .ok (.iconst 0, 1) := by decide +kernel
theorem dRo_finds_14 : decode prog_7_method_9_code 14 = .ok (.invokevirtual 65, 3) := by decide +kernel
theorem dRo_finds_17 : decode prog_7_method_9_code 17 = .ok (.ireturn, 1) := by decide +kernel
theorem dRo_leastWeight_0 : decode prog_7_method_11_code 0 = .ok (.aload_n 0, 1) := by decide +kernel
theorem dRo_leastWeight_1 : decode prog_7_method_11_code 1 = .ok (.iconst 0, 1) := by decide +kernel
theorem dRo_leastWeight_2 : decode prog_7_method_11_code 2 = .ok (.sipush 2079, 3) := by decide +kernel
theorem dRo_leastWeight_5 : decode prog_7_method_11_code 5 = .ok (.invokevirtual 73, 3) := by decide +kernel
theorem dRo_leastWeight_8 : decode prog_7_method_11_code 8 = .ok (.ifCond .ne 5, 3) := by decide +kernel
theorem dRo_leastWeight_11 : decode prog_7_method_11_code 11 = .ok (.iconst (-1), 1) := by decide +kernel
theorem dRo_leastWeight_12 : decode prog_7_method_11_code 12 = .ok (.ireturn, 1) := by decide +kernel
theorem dRo_leastWeight_13 : decode prog_7_method_11_code 13 = .ok (.iconst 0, 1) := by decide +kernel
theorem dRo_leastWeight_14 : decode prog_7_method_11_code 14 = .ok (.istore_n 1, 1) := by decide +kernel
theorem dRo_leastWeight_15 : decode prog_7_method_11_code 15 = .ok (.sipush 2079, 3) := by decide +kernel
theorem dRo_leastWeight_18 : decode prog_7_method_11_code 18 = .ok (.istore_n 2, 1) := by decide +kernel
theorem dRo_leastWeight_19 : decode prog_7_method_11_code 19 = .ok (.iconst 0, 1) := by decide +kernel
theorem dRo_leastWeight_20 : decode prog_7_method_11_code 20 = .ok (.istore_n 3, 1) := by decide +kernel
theorem dRo_leastWeight_21 : decode prog_7_method_11_code 21 = .ok (.iload_n 3, 1) := by decide +kernel
theorem dRo_leastWeight_22 : decode prog_7_method_11_code 22 = .ok (.bipush 32, 2) := by decide +kernel
theorem dRo_leastWeight_24 : decode prog_7_method_11_code 24 = .ok (.if_icmp .ge 42, 3) := by decide +kernel
theorem dRo_leastWeight_27 : decode prog_7_method_11_code 27 = .ok (.iload_n 1, 1) := by decide +kernel
theorem dRo_leastWeight_28 : decode prog_7_method_11_code 28 = .ok (.iload_n 2, 1) := by decide +kernel
theorem dRo_leastWeight_29 : decode prog_7_method_11_code 29 = .ok (.if_icmp .ge 37, 3) := by decide +kernel
theorem dRo_leastWeight_32 : decode prog_7_method_11_code 32 = .ok (.iload_n 1, 1) := by decide +kernel
theorem dRo_leastWeight_33 : decode prog_7_method_11_code 33 = .ok (.iload_n 2, 1) := by decide +kernel
theorem dRo_leastWeight_34 : decode prog_7_method_11_code 34 = .ok (.iadd, 1) := by decide +kernel
theorem dRo_leastWeight_35 : decode prog_7_method_11_code 35 = .ok (.iconst 2, 1) := by decide +kernel
theorem dRo_leastWeight_36 : decode prog_7_method_11_code 36 = .ok (.idiv, 1) := by decide +kernel
theorem dRo_leastWeight_37 : decode prog_7_method_11_code 37 = .ok (.istore 4, 2) := by decide +kernel
theorem dRo_leastWeight_39 : decode prog_7_method_11_code 39 = .ok (.aload_n 0, 1) := by decide +kernel
theorem dRo_leastWeight_40 : decode prog_7_method_11_code 40 = .ok (.iconst 0, 1) := by decide +kernel
theorem dRo_leastWeight_41 : decode prog_7_method_11_code 41 = .ok (.iload 4, 2) := by decide +kernel
theorem dRo_leastWeight_43 : decode prog_7_method_11_code 43 = .ok (.invokevirtual 73, 3) := by decide +kernel
theorem dRo_leastWeight_46 : decode prog_7_method_11_code 46 = .ok (.ifCond .eq 9, 3) := by decide +kernel
theorem dRo_leastWeight_49 : decode prog_7_method_11_code 49 = .ok (.iload 4, 2) := by decide +kernel
theorem dRo_leastWeight_51 : decode prog_7_method_11_code 51 = .ok (.istore_n 2, 1) := by decide +kernel
theorem dRo_leastWeight_52 : decode prog_7_method_11_code 52 = .ok (.goto 8, 3) := by decide +kernel
theorem dRo_leastWeight_55 : decode prog_7_method_11_code 55 = .ok (.iload 4, 2) := by decide +kernel
theorem dRo_leastWeight_57 : decode prog_7_method_11_code 57 = .ok (.iconst 1, 1) := by decide +kernel
theorem dRo_leastWeight_58 : decode prog_7_method_11_code 58 = .ok (.iadd, 1) := by decide +kernel
theorem dRo_leastWeight_59 : decode prog_7_method_11_code 59 = .ok (.istore_n 1, 1) := by decide +kernel
theorem dRo_leastWeight_60 : decode prog_7_method_11_code 60 = .ok (.iinc 3 1, 3) := by decide +kernel
theorem dRo_leastWeight_63 : decode prog_7_method_11_code 63 = .ok (.goto (-42), 3) := by decide +kernel
theorem dRo_leastWeight_66 : decode prog_7_method_11_code 66 = .ok (.iload_n 1, 1) := by decide +kernel
theorem dRo_leastWeight_67 : decode prog_7_method_11_code 67 = .ok (.ireturn, 1) := by decide +kernel
theorem dSx_terms_0 : decode prog_1_method_6_code 0 = .ok (.iload_n 1, 1) := by decide +kernel
theorem dSx_terms_1 : decode prog_1_method_6_code 1 = .ok (.ifCond .lt 21, 3) := by decide +kernel
theorem dSx_terms_4 : decode prog_1_method_6_code 4 = .ok (.iload_n 1, 1) := by decide +kernel
theorem dSx_terms_5 : decode prog_1_method_6_code 5 = .ok (.iconst 4, 1) := by decide +kernel
theorem dSx_terms_6 : decode prog_1_method_6_code 6 = .ok (.if_icmp .ge 16, 3) := by decide +kernel
theorem dSx_terms_9 : decode prog_1_method_6_code 9 = .ok (.iload_n 2, 1) := by decide +kernel
theorem dSx_terms_10 : decode prog_1_method_6_code 10 = .ok (.ifCond .lt 12, 3) := by decide +kernel
theorem dSx_terms_13 : decode prog_1_method_6_code 13 = .ok (.iload_n 2, 1) := by decide +kernel
theorem dSx_terms_14 : decode prog_1_method_6_code 14 = .ok (.getstatic 150, 3) := by decide +kernel
theorem dSx_terms_17 : decode prog_1_method_6_code 17 = .ok (.iload_n 1, 1) := by decide +kernel
theorem dSx_terms_18 : decode prog_1_method_6_code 18 = .ok (.iaload, 1) := by decide +kernel
theorem dSx_terms_19 : decode prog_1_method_6_code 19 = .ok (.if_icmp .le 9, 3) := by decide +kernel
theorem dSx_terms_22 : decode prog_1_method_6_code 22 = .ok (.aload_n 0, 1) := by decide +kernel
theorem dSx_terms_23 : decode prog_1_method_6_code 23 = .ok (.iconst (-1), 1) := by decide +kernel
theorem dSx_terms_24 : decode prog_1_method_6_code 24 = .ok (.invokevirtual 85, 3) := by decide +kernel
theorem dSx_terms_27 : decode prog_1_method_6_code 27 = .ok (.ireturn, 1) := by decide +kernel
theorem dSx_terms_28 : decode prog_1_method_6_code 28 = .ok (.aload_n 0, 1) := by decide +kernel
theorem dSx_terms_29 : decode prog_1_method_6_code 29 = .ok (.getfield 12, 3) := by decide +kernel
theorem dSx_terms_32 : decode prog_1_method_6_code 32 = .ok (.getfield 153, 3) := by decide +kernel
theorem dSx_terms_35 : decode prog_1_method_6_code 35 = .ok (.iload_n 1, 1) := by decide +kernel
theorem dSx_terms_36 : decode prog_1_method_6_code 36 = .ok (.iaload, 1) := by decide +kernel
theorem dSx_terms_37 : decode prog_1_method_6_code 37 = .ok (.istore_n 3, 1) := by decide +kernel
theorem dSx_terms_38 : decode prog_1_method_6_code 38 = .ok (.aload_n 0, 1) := by decide +kernel
theorem dSx_terms_39 : decode prog_1_method_6_code 39 = .ok (.getfield 12, 3) := by decide +kernel
theorem dSx_terms_42 : decode prog_1_method_6_code 42 = .ok (.getfield 153, 3) := by decide +kernel
theorem dSx_terms_45 : decode prog_1_method_6_code 45 = .ok (.iload_n 1, 1) := by decide +kernel
theorem dSx_terms_46 : decode prog_1_method_6_code 46 = .ok (.iload_n 2, 1) := by decide +kernel
theorem dSx_terms_47 : decode prog_1_method_6_code 47 = .ok (.iastore, 1) := by decide +kernel
theorem dSx_terms_48 : decode prog_1_method_6_code 48 = .ok (.aload_n 0, 1) := by decide +kernel
theorem dSx_terms_49 : decode prog_1_method_6_code 49 = .ok (.getfield 29, 3) := by decide +kernel
theorem dSx_terms_52 : decode prog_1_method_6_code 52 = .ok (.invokevirtual 92, 3) := by decide +kernel
theorem dSx_terms_55 : decode prog_1_method_6_code 55 = .ok (.aload_n 0, 1) := by decide +kernel
theorem dSx_terms_56 : decode prog_1_method_6_code 56 = .ok (.iload_n 3, 1) := by decide +kernel
theorem dSx_terms_57 : decode prog_1_method_6_code 57 = .ok (.invokevirtual 99, 3) := by decide +kernel
theorem dSx_terms_60 : decode prog_1_method_6_code 60 = .ok (.ireturn, 1) := by decide +kernel
theorem dSx_force_0 : decode prog_1_method_15_code 0 = .ok (.iload_n 1, 1) := by decide +kernel
theorem dSx_force_1 : decode prog_1_method_15_code 1 = .ok (.iconst (-1), 1) := by decide +kernel
theorem dSx_force_2 : decode prog_1_method_15_code 2 = .ok (.if_icmp .eq 21, 3) := by decide +kernel
theorem dSx_force_5 : decode prog_1_method_15_code 5 = .ok (.aload_n 0, 1) := by decide +kernel
theorem dSx_force_6 : decode prog_1_method_15_code 6 = .ok (.getfield 12, 3) := by decide +kernel
theorem dSx_force_9 : decode prog_1_method_15_code 9 = .ok (.iload_n 1, 1) := by decide +kernel
theorem dSx_force_10 : decode prog_1_method_15_code 10 = .ok (.invokevirtual 210, 3) := by decide +kernel
theorem dSx_force_13 : decode prog_1_method_15_code 13 = .ok (.ifCond .ne 10, 3) := by decide +kernel
theorem dSx_force_16 : decode prog_1_method_15_code 16 = .ok (.aload_n 0, 1) := by decide +kernel
theorem dSx_force_17 : decode prog_1_method_15_code 17 = .ok (.bipush (-2), 2) := by decide +kernel
theorem dSx_force_19 : decode prog_1_method_15_code 19 = .ok (.invokevirtual 85, 3) := by decide +kernel
theorem dSx_force_22 : decode prog_1_method_15_code 22 = .ok (.ireturn, 1) := by decide +kernel
theorem dSx_force_23 : decode prog_1_method_15_code 23 = .ok (.aload_n 0, 1) := by decide +kernel
theorem dSx_force_24 : decode prog_1_method_15_code 24 = .ok (.getfield 12, 3) := by decide +kernel
theorem dSx_force_27 : decode prog_1_method_15_code 27 = .ok (.getfield 213, 3) := by decide +kernel
theorem dSx_force_30 : decode prog_1_method_15_code 30 = .ok (.istore_n 2, 1) := by decide +kernel
theorem dSx_force_31 : decode prog_1_method_15_code 31 = .ok (.aload_n 0, 1) := by decide +kernel
theorem dSx_force_32 : decode prog_1_method_15_code 32 = .ok (.getfield 12, 3) := by decide +kernel
theorem dSx_force_35 : decode prog_1_method_15_code 35 = .ok (.iload_n 1, 1) := by decide +kernel
theorem dSx_force_36 : decode prog_1_method_15_code 36 = .ok (.putfield 213, 3) := by decide +kernel
theorem dSx_force_39 : decode prog_1_method_15_code 39 = .ok (.aload_n 0, 1) := by decide +kernel
theorem dSx_force_40 : decode prog_1_method_15_code 40 = .ok (.iload_n 2, 1) := by decide +kernel
theorem dSx_force_41 : decode prog_1_method_15_code 41 = .ok (.invokevirtual 99, 3) := by decide +kernel
theorem dSx_force_44 : decode prog_1_method_15_code 44 = .ok (.ireturn, 1) := by decide +kernel
theorem dSx_pad_0 : decode prog_1_method_18_code 0 = .ok (.aload_n 0, 1) := by decide +kernel
theorem dSx_pad_1 : decode prog_1_method_18_code 1 = .ok (.iload_n 1, 1) := by decide +kernel
theorem dSx_pad_2 : decode prog_1_method_18_code 2 = .ok (.iload_n 2, 1) := by decide +kernel
theorem dSx_pad_3 : decode prog_1_method_18_code 3 = .ok (.invokevirtual 222, 3) := by decide +kernel
theorem dSx_pad_6 : decode prog_1_method_18_code 6 = .ok (.istore_n 3, 1) := by decide +kernel
theorem dSx_pad_7 : decode prog_1_method_18_code 7 = .ok (.iload_n 3, 1) := by decide +kernel
theorem dSx_pad_8 : decode prog_1_method_18_code 8 = .ok (.ifCond .ge 11, 3) := by decide +kernel
theorem dSx_pad_11 : decode prog_1_method_18_code 11 = .ok (.aload_n 0, 1) := by decide +kernel
theorem dSx_pad_12 : decode prog_1_method_18_code 12 = .ok (.iload_n 3, 1) := by decide +kernel
theorem dSx_pad_13 : decode prog_1_method_18_code 13 = .ok (.invokevirtual 85, 3) := by decide +kernel
theorem dSx_pad_16 : decode prog_1_method_18_code 16 = .ok (.goto 8, 3) := by decide +kernel
theorem dSx_pad_19 : decode prog_1_method_18_code 19 = .ok (.aload_n 0, 1) := by decide +kernel
theorem dSx_pad_20 : decode prog_1_method_18_code 20 = .ok (.iload_n 3, 1) := by decide +kernel
theorem dSx_pad_21 : decode prog_1_method_18_code 21 = .ok (.invokevirtual 99, 3) := by decide +kernel
theorem dSx_pad_24 : decode prog_1_method_18_code 24 = .ok (.ireturn, 1) := by decide +kernel
theorem dSx_undo_0 : decode prog_1_method_20_code 0 = .ok (.aload_n 0, 1) := by decide +kernel
theorem dSx_undo_1 : decode prog_1_method_20_code 1 = .ok (.getfield 29, 3) := by decide +kernel
theorem dSx_undo_4 : decode prog_1_method_20_code 4 = .ok (.getfield 228, 3) := by decide +kernel
theorem dSx_undo_7 : decode prog_1_method_20_code 7 = .ok (.ifCond .ne 10, 3) := by decide +kernel
theorem dSx_undo_10 : decode prog_1_method_20_code 10 = .ok (.aload_n 0, 1) := by decide +kernel
theorem dSx_undo_11 : decode prog_1_method_20_code 11 = .ok (.bipush (-3), 2) := by decide +kernel
theorem dSx_undo_13 : decode prog_1_method_20_code 13 = .ok (.invokevirtual 85, 3) := by decide +kernel
theorem dSx_undo_16 : decode prog_1_method_20_code 16 = .ok (.ireturn, 1) := by decide +kernel
theorem dSx_undo_17 : decode prog_1_method_20_code 17 = .ok (.aload_n 0, 1) := by decide +kernel
theorem dSx_undo_18 : decode prog_1_method_20_code 18 = .ok (.aload_n 0, 1) := by decide +kernel
theorem dSx_undo_19 : decode prog_1_method_20_code 19 = .ok (.getfield 29, 3) := by decide +kernel
theorem dSx_undo_22 : decode prog_1_method_20_code 22 = .ok (.aload_n 0, 1) := by decide +kernel
theorem dSx_undo_23 : decode prog_1_method_20_code 23 = .ok (.getfield 12, 3) := by decide +kernel
theorem dSx_undo_26 : decode prog_1_method_20_code 26 = .ok (.invokevirtual 231, 3) := by decide +kernel
theorem dSx_undo_29 : decode prog_1_method_20_code 29 = .ok (.invokevirtual 99, 3) := by decide +kernel
theorem dSx_undo_32 : decode prog_1_method_20_code 32 = .ok (.ireturn, 1) := by decide +kernel
theorem dSx_weighed_0 : decode prog_1_method_29_code 0 = .ok (.iload_n 1, 1) := by decide +kernel
theorem dSx_weighed_1 : decode prog_1_method_29_code 1 = .ok (.invokestatic 286, 3) := by decide +kernel
theorem dSx_weighed_4 : decode prog_1_method_29_code 4 = .ok (.ifCond .eq 25, 3) := by decide +kernel
theorem dSx_weighed_7 : decode prog_1_method_29_code 7 = .ok (.iload_n 2, 1) := by decide +kernel
theorem dSx_weighed_8 : decode prog_1_method_29_code 8 = .ok (.invokestatic 286, 3) := by decide +kernel
theorem dSx_weighed_11 : decode prog_1_method_29_code 11 = .ok (.ifCond .eq 18, 3) := by decide +kernel
theorem dSx_weighed_14 : decode prog_1_method_29_code 14 = .ok (.iload_n 1, 1) := by decide +kernel
theorem dSx_weighed_15 : decode prog_1_method_29_code 15 = .ok (.iload_n 2, 1) := by decide +kernel
theorem dSx_weighed_16 : decode prog_1_method_29_code 16 = .ok (.iand, 1) := by decide +kernel
theorem dSx_weighed_17 : decode prog_1_method_29_code 17 = .ok (.ifCond .ne 12, 3) := by decide +kernel
theorem dSx_weighed_20 : decode prog_1_method_29_code 20 = .ok (.iload_n 3, 1) := by decide +kernel
theorem dSx_weighed_21 : decode prog_1_method_29_code 21 = .ok (.ifCond .lt 8, 3) := by decide +kernel
theorem dSx_weighed_24 : decode prog_1_method_29_code 24 = .ok (.iload_n 3, 1) := by decide +kernel
theorem dSx_weighed_25 : decode prog_1_method_29_code 25 = .ok (.iconst 2, 1) := by decide +kernel
theorem dSx_weighed_26 : decode prog_1_method_29_code 26 = .ok (.if_icmp .le 9, 3) := by decide +kernel
theorem dSx_weighed_29 : decode prog_1_method_29_code 29 = .ok (.aload_n 0, 1) := by decide +kernel
theorem dSx_weighed_30 : decode prog_1_method_29_code 30 = .ok (.iconst (-1), 1) := by decide +kernel
theorem dSx_weighed_31 : decode prog_1_method_29_code 31 = .ok (.invokevirtual 85, 3) := by decide +kernel
theorem dSx_weighed_34 : decode prog_1_method_29_code 34 = .ok (.ireturn, 1) := by decide +kernel
theorem dSx_weighed_35 : decode prog_1_method_29_code 35 = .ok (.iload_n 1, 1) := by decide +kernel
theorem dSx_weighed_36 : decode prog_1_method_29_code 36 = .ok (.iload_n 2, 1) := by decide +kernel
theorem dSx_weighed_37 : decode prog_1_method_29_code 37 = .ok (.ior, 1) := by decide +kernel
theorem dSx_weighed_38 : decode prog_1_method_29_code 38 = .ok (.aload_n 0, 1) := by decide +kernel
theorem dSx_weighed_39 : decode prog_1_method_29_code 39 = .ok (.getfield 12, 3) := by decide +kernel
theorem dSx_weighed_42 : decode prog_1_method_29_code 42 = .ok (.getfield 89, 3) := by decide +kernel
theorem dSx_weighed_45 : decode prog_1_method_29_code 45 = .ok (.ishr, 1) := by decide +kernel
theorem dSx_weighed_46 : decode prog_1_method_29_code 46 = .ok (.ifCond .eq 10, 3) := by decide +kernel
theorem dSx_weighed_49 : decode prog_1_method_29_code 49 = .ok (.aload_n 0, 1) := by decide +kernel
theorem dSx_weighed_50 : decode prog_1_method_29_code 50 = .ok (.bipush (-2), 2) := by decide +kernel
theorem dSx_weighed_52 : decode prog_1_method_29_code 52 = .ok (.invokevirtual 85, 3) := by decide +kernel
theorem dSx_weighed_55 : decode prog_1_method_29_code 55 = .ok (.ireturn, 1) := by decide +kernel
theorem dSx_weighed_56 : decode prog_1_method_29_code 56 = .ok (.aload_n 0, 1) := by decide +kernel
theorem dSx_weighed_57 : decode prog_1_method_29_code 57 = .ok (.getfield 12, 3) := by decide +kernel
theorem dSx_weighed_60 : decode prog_1_method_29_code 60 = .ok (.getfield 289, 3) := by decide +kernel
theorem dSx_weighed_63 : decode prog_1_method_29_code 63 = .ok (.bipush 6, 2) := by decide +kernel
theorem dSx_weighed_65 : decode prog_1_method_29_code 65 = .ok (.if_icmp .lt 10, 3) := by decide +kernel
theorem dSx_weighed_68 : decode prog_1_method_29_code 68 = .ok (.aload_n 0, 1) := by decide +kernel
theorem dSx_weighed_69 : decode prog_1_method_29_code 69 = .ok (.bipush (-5), 2) := by decide +kernel
theorem dSx_weighed_71 : decode prog_1_method_29_code 71 = .ok (.invokevirtual 85, 3) := by decide +kernel
theorem dSx_weighed_74 : decode prog_1_method_29_code 74 = .ok (.ireturn, 1) := by decide +kernel
theorem dSx_weighed_75 : decode prog_1_method_29_code 75 = .ok (.aload_n 0, 1) := by decide +kernel
theorem dSx_weighed_76 : decode prog_1_method_29_code 76 = .ok (.aload_n 0, 1) := by decide +kernel
theorem dSx_weighed_77 : decode prog_1_method_29_code 77 = .ok (.getfield 12, 3) := by decide +kernel
theorem dSx_weighed_80 : decode prog_1_method_29_code 80 = .ok (.iload_n 1, 1) := by decide +kernel
theorem dSx_weighed_81 : decode prog_1_method_29_code 81 = .ok (.iload_n 2, 1) := by decide +kernel
theorem dSx_weighed_82 : decode prog_1_method_29_code 82 = .ok (.iload_n 3, 1) := by decide +kernel
theorem dSx_weighed_83 : decode prog_1_method_29_code 83 = .ok (.invokevirtual 292, 3) := by decide +kernel
theorem dSx_weighed_86 : decode prog_1_method_29_code 86 = .ok (.invokevirtual 99, 3) := by decide +kernel
theorem dSx_weighed_89 : decode prog_1_method_29_code 89 = .ok (.ireturn, 1) := by decide +kernel
theorem dSx_back_0 : decode prog_1_method_38_code 0 = .ok (.iload_n 1, 1) := by decide +kernel
theorem dSx_back_1 : decode prog_1_method_38_code 1 = .ok (.ifCond .lt 8, 3) := by decide +kernel
theorem dSx_back_4 : decode prog_1_method_38_code 4 = .ok (.iload_n 1, 1) := by decide +kernel
theorem dSx_back_5 : decode prog_1_method_38_code 5 = .ok (.iconst 2, 1) := by decide +kernel
theorem dSx_back_6 : decode prog_1_method_38_code 6 = .ok (.if_icmp .lt 9, 3) := by decide +kernel
theorem dSx_back_9 : decode prog_1_method_38_code 9 = .ok (.aload_n 0, 1) := by decide +kernel
theorem dSx_back_10 : decode prog_1_method_38_code 10 = .ok (.iconst (-1), 1) := by decide +kernel
theorem dSx_back_11 : decode prog_1_method_38_code 11 = .ok (.invokevirtual 85, 3) := by decide +kernel
theorem dSx_back_14 : decode prog_1_method_38_code 14 = .ok (.ireturn, 1) := by decide +kernel
theorem dSx_back_15 : decode prog_1_method_38_code 15 = .ok (.aload_n 0, 1) := by decide +kernel
theorem dSx_back_16 : decode prog_1_method_38_code 16 = .ok (.getfield 22, 3) := by decide +kernel
theorem dSx_back_19 : decode prog_1_method_38_code 19 = .ok (.iload_n 1, 1) := by decide +kernel
theorem dSx_back_20 : decode prog_1_method_38_code 20 = .ok (.aaload, 1) := by decide +kernel
theorem dSx_back_21 : decode prog_1_method_38_code 21 = .ok (.astore_n 2, 1) := by decide +kernel
theorem dSx_back_22 : decode prog_1_method_38_code 22 = .ok (.aload_n 2, 1) := by decide +kernel
theorem dSx_back_23 : decode prog_1_method_38_code 23 = .ok (.ifnonnull 10, 3) := by decide +kernel
theorem dSx_back_26 : decode prog_1_method_38_code 26 = .ok (.aload_n 0, 1) := by decide +kernel
theorem dSx_back_27 : decode prog_1_method_38_code 27 = .ok (.bipush (-2), 2) := by decide +kernel
theorem dSx_back_29 : decode prog_1_method_38_code 29 = .ok (.invokevirtual 85, 3) := by decide +kernel
theorem dSx_back_32 : decode prog_1_method_38_code 32 = .ok (.ireturn, 1) := by decide +kernel
theorem dSx_back_33 : decode prog_1_method_38_code 33 = .ok (.aload_n 0, 1) := by decide +kernel
theorem dSx_back_34 : decode prog_1_method_38_code 34 = .ok (.getfield 12, 3) := by decide +kernel
theorem dSx_back_37 : decode prog_1_method_38_code 37 = .ok (.aload_n 2, 1) := by decide +kernel
theorem dSx_back_38 : decode prog_1_method_38_code 38 = .ok (.invokevirtual 190, 3) := by decide +kernel
theorem dSx_back_41 : decode prog_1_method_38_code 41 = .ok (.aload_n 0, 1) := by decide +kernel
theorem dSx_back_42 : decode prog_1_method_38_code 42 = .ok (.getfield 29, 3) := by decide +kernel
theorem dSx_back_45 : decode prog_1_method_38_code 45 = .ok (.invokevirtual 92, 3) := by decide +kernel
theorem dSx_back_48 : decode prog_1_method_38_code 48 = .ok (.aload_n 0, 1) := by decide +kernel
theorem dSx_back_49 : decode prog_1_method_38_code 49 = .ok (.iconst 0, 1) := by decide +kernel
theorem dSx_back_50 : decode prog_1_method_38_code 50 = .ok (.invokevirtual 99, 3) := by decide +kernel
theorem dSx_back_53 : decode prog_1_method_38_code 53 = .ok (.ireturn, 1) := by decide +kernel
theorem dSx_canBeClaim_0 : decode prog_1_method_43_code 0 = .ok (.iload_n 0, 1) := by decide +kernel
theorem dSx_canBeClaim_1 : decode prog_1_method_43_code 1 = .ok (.invokestatic 336, 3) := by decide +kernel
theorem dSx_canBeClaim_4 : decode prog_1_method_43_code 4 = .ok (.ifCond .eq 16, 3) := by decide +kernel
theorem dSx_canBeClaim_7 : decode prog_1_method_43_code 7 = .ok (.iload_n 1, 1) := by decide +kernel
theorem dSx_canBeClaim_8 : decode prog_1_method_43_code 8 = .ok (.ifCond .lt 12, 3) := by decide +kernel
theorem dSx_canBeClaim_11 : decode prog_1_method_43_code 11 = .ok (.iload_n 1, 1) := by decide +kernel
theorem dSx_canBeClaim_12 : decode prog_1_method_43_code 12 = .ok (.iconst 4, 1) := by decide +kernel
theorem dSx_canBeClaim_13 : decode prog_1_method_43_code 13 = .ok (.if_icmp .ge 7, 3) := by decide +kernel
theorem dSx_canBeClaim_16 : decode prog_1_method_43_code 16 = .ok (.iconst 1, 1) := by decide +kernel
theorem dSx_canBeClaim_17 : decode prog_1_method_43_code 17 = .ok (.goto 4, 3) := by decide +kernel
theorem dSx_canBeClaim_20 : decode prog_1_method_43_code 20 = .ok (.iconst 0, 1) := by decide +kernel
theorem dSx_canBeClaim_21 : decode prog_1_method_43_code 21 = .ok (.ireturn, 1) := by decide +kernel
theorem dSx_sumHeavies_0 : decode prog_1_method_62_code 0 = .ok (.iconst 0, 1) := by decide +kernel
theorem dSx_sumHeavies_1 : decode prog_1_method_62_code 1 = .ok (.istore_n 1, 1) := by decide +kernel
theorem dSx_sumHeavies_2 : decode prog_1_method_62_code 2 = .ok (.iload_n 1, 1) := by decide +kernel
theorem dSx_sumHeavies_3 : decode prog_1_method_62_code 3 = .ok (.bipush 7, 2) := by decide +kernel
theorem dSx_sumHeavies_5 : decode prog_1_method_62_code 5 = .ok (.if_icmp .ge 38, 3) := by decide +kernel
theorem dSx_sumHeavies_8 : decode prog_1_method_62_code 8 = .ok (.aload_n 0, 1) := by decide +kernel
theorem dSx_sumHeavies_9 : decode prog_1_method_62_code 9 = .ok (.iload_n 1, 1) := by decide +kernel
theorem dSx_sumHeavies_10 : decode prog_1_method_62_code 10 = .ok (.aload_n 0, 1) := by decide +kernel
theorem dSx_sumHeavies_11 : decode prog_1_method_62_code 11 = .ok (.getfield 12, 3) := by decide +kernel
theorem dSx_sumHeavies_14 : decode prog_1_method_62_code 14 = .ok (.iload_n 1, 1) := by decide +kernel
theorem dSx_sumHeavies_15 : decode prog_1_method_62_code 15 = .ok (.invokevirtual 102, 3) := by decide +kernel
theorem dSx_sumHeavies_18 : decode prog_1_method_62_code 18 = .ok (.ifCond .eq 15, 3) := by decide +kernel
theorem dSx_sumHeavies_21 : decode prog_1_method_62_code 21 = .ok (.aload_n 0, 1) := by decide +kernel
theorem dSx_sumHeavies_22 : decode prog_1_method_62_code 22 = .ok (.getfield 12, 3) := by decide +kernel
theorem dSx_sumHeavies_25 : decode prog_1_method_62_code 25 = .ok (.getfield 109, 3) := by decide +kernel
theorem dSx_sumHeavies_28 : decode prog_1_method_62_code 28 = .ok (.iload_n 1, 1) := by decide +kernel
theorem dSx_sumHeavies_29 : decode prog_1_method_62_code 29 = .ok (.iaload, 1) := by decide +kernel
theorem dSx_sumHeavies_30 : decode prog_1_method_62_code 30 = .ok (.goto 4, 3) := by decide +kernel
theorem dSx_sumHeavies_33 : decode prog_1_method_62_code 33 = .ok (.iconst 0, 1) := by decide +kernel
theorem dSx_sumHeavies_34 : decode prog_1_method_62_code 34 = .ok (.invokevirtual 374, 3) := by decide +kernel
theorem dSx_sumHeavies_37 : decode prog_1_method_62_code 37 = .ok (.iinc 1 1, 3) := by decide +kernel
theorem dSx_sumHeavies_40 : decode prog_1_method_62_code 40 = .ok (.goto (-38), 3) := by decide +kernel
theorem dSx_sumHeavies_43 : decode prog_1_method_62_code 43 = .ok (.return_, 1) := by decide +kernel
theorem dSx_findWins_0 : decode prog_1_method_68_code 0 = .ok (.aload_n 0, 1) := by decide +kernel
theorem dSx_findWins_1 : decode prog_1_method_68_code 1 = .ok (.getfield 71, 3) := by decide +kernel
theorem dSx_findWins_4 : decode prog_1_method_68_code 4 = .ok (.iconst 0, 1) := by decide +kernel
theorem dSx_findWins_5 : decode prog_1_method_68_code 5 = .ok (.iconst 0, 1) := by decide +kernel
theorem dSx_findWins_6 : decode prog_1_method_68_code 6 = .ok (.iastore, 1) := by decide +kernel
theorem dSx_findWins_7 : decode prog_1_method_68_code 7 = .ok (.iconst 1, 1) := by decide +kernel
theorem dSx_findWins_8 : decode prog_1_method_68_code 8 = .ok (.istore_n 2, 1) := by decide +kernel
theorem dSx_findWins_9 : decode prog_1_method_68_code 9 = .ok (.iload_n 2, 1) := by decide +kernel
theorem dSx_findWins_10 : decode prog_1_method_68_code 10 = .ok (.iload_n 1, 1) := by decide +kernel
theorem dSx_findWins_11 : decode prog_1_method_68_code 11 = .ok (.if_icmp .gt 29, 3) := by decide +kernel
theorem dSx_findWins_14 : decode prog_1_method_68_code 14 = .ok (.aload_n 0, 1) := by decide +kernel
theorem dSx_findWins_15 : decode prog_1_method_68_code 15 = .ok (.getfield 71, 3) := by decide +kernel
theorem dSx_findWins_18 : decode prog_1_method_68_code 18 = .ok (.iload_n 2, 1) := by decide +kernel
theorem dSx_findWins_19 : decode prog_1_method_68_code 19 = .ok (.aload_n 0, 1) := by decide +kernel
theorem dSx_findWins_20 : decode prog_1_method_68_code 20 = .ok (.iload_n 2, 1) := by decide +kernel
theorem dSx_findWins_21 : decode prog_1_method_68_code 21 = .ok (.invokevirtual 283, 3) := by decide +kernel
theorem dSx_findWins_24 : decode prog_1_method_68_code 24 = .ok (.iconst (-1), 1) := by decide +kernel
theorem dSx_findWins_25 : decode prog_1_method_68_code 25 = .ok (.if_icmp .ne 7, 3) := by decide +kernel
theorem dSx_findWins_28 : decode prog_1_method_68_code 28 = .ok (.iconst 0, 1) := by decide +kernel
theorem dSx_findWins_29 : decode prog_1_method_68_code 29 = .ok (.goto 4, 3) := by decide +kernel
theorem dSx_findWins_32 : decode prog_1_method_68_code 32 = .ok (.iconst 1, 1) := by decide +kernel
theorem dSx_findWins_33 : decode prog_1_method_68_code 33 = .ok (.iastore, 1) := by decide +kernel
theorem dSx_findWins_34 : decode prog_1_method_68_code 34 = .ok (.iinc 2 1, 3) := by decide +kernel
theorem dSx_findWins_37 : decode prog_1_method_68_code 37 = .ok (.goto (-28), 3) := by decide +kernel
theorem dSx_findWins_40 : decode prog_1_method_68_code 40 = .ok (.return_, 1) := by decide +kernel
theorem dSx_bestWeighing_0 : decode prog_1_method_71_code 0 = .ok (.iconst 0, 1) := by decide +kernel
theorem dSx_bestWeighing_1 : decode prog_1_method_71_code 1 = .ok (.istore_n 2, 1) := by decide +kernel
theorem dSx_bestWeighing_2 : decode prog_1_method_71_code 2 = .ok (.iconst 0, 1) := by decide +kernel
theorem dSx_bestWeighing_3 : decode prog_1_method_71_code 3 = .ok (.istore_n 3, 1) := by decide +kernel
theorem dSx_bestWeighing_4 : decode prog_1_method_71_code 4 = .ok (.iconst 0, 1) := by decide +kernel
theorem dSx_bestWeighing_5 : decode prog_1_method_71_code 5 = .ok (.istore 4, 2) := by decide +kernel
theorem dSx_bestWeighing_7 : decode prog_1_method_71_code 7 = .ok (.iload 4, 2) := by decide +kernel
theorem dSx_bestWeighing_9 : decode prog_1_method_71_code 9 = .ok (.bipush 7, 2) := by decide +kernel
theorem dSx_bestWeighing_11 : decode prog_1_method_71_code 11 = .ok (.if_icmp .ge 39, 3) := by decide +kernel
theorem dSx_bestWeighing_14 : decode prog_1_method_71_code 14 = .ok (.iload_n 2, 1) := by decide +kernel
theorem dSx_bestWeighing_15 : decode prog_1_method_71_code 15 = .ok (.iload_n 1, 1) := by decide +kernel
theorem dSx_bestWeighing_16 : decode prog_1_method_71_code 16 = .ok (.iconst 2, 1) := by decide +kernel
theorem dSx_bestWeighing_17 : decode prog_1_method_71_code 17 = .ok (.iload 4, 2) := by decide +kernel
theorem dSx_bestWeighing_19 : decode prog_1_method_71_code 19 = .ok (.imul, 1) := by decide +kernel
theorem dSx_bestWeighing_20 : decode prog_1_method_71_code 20 = .ok (.ishr, 1) := by decide +kernel
theorem dSx_bestWeighing_21 : decode prog_1_method_71_code 21 = .ok (.iconst 1, 1) := by decide +kernel
theorem dSx_bestWeighing_22 : decode prog_1_method_71_code 22 = .ok (.iand, 1) := by decide +kernel
theorem dSx_bestWeighing_23 : decode prog_1_method_71_code 23 = .ok (.iload 4, 2) := by decide +kernel
theorem dSx_bestWeighing_25 : decode prog_1_method_71_code 25 = .ok (.ishl, 1) := by decide +kernel
theorem dSx_bestWeighing_26 : decode prog_1_method_71_code 26 = .ok (.ior, 1) := by decide +kernel
theorem dSx_bestWeighing_27 : decode prog_1_method_71_code 27 = .ok (.istore_n 2, 1) := by decide +kernel
theorem dSx_bestWeighing_28 : decode prog_1_method_71_code 28 = .ok (.iload_n 3, 1) := by decide +kernel
theorem dSx_bestWeighing_29 : decode prog_1_method_71_code 29 = .ok (.iload_n 1, 1) := by decide +kernel
theorem dSx_bestWeighing_30 : decode prog_1_method_71_code 30 = .ok (.iconst 2, 1) := by decide +kernel
theorem dSx_bestWeighing_31 : decode prog_1_method_71_code 31 = .ok (.iload 4, 2) := by decide +kernel
theorem dSx_bestWeighing_33 : decode prog_1_method_71_code 33 = .ok (.imul, 1) := by decide +kernel
theorem dSx_bestWeighing_34 : decode prog_1_method_71_code 34 = .ok (.iconst 1, 1) := by decide +kernel
theorem dSx_bestWeighing_35 : decode prog_1_method_71_code 35 = .ok (.iadd, 1) := by decide +kernel
theorem dSx_bestWeighing_36 : decode prog_1_method_71_code 36 = .ok (.ishr, 1) := by decide +kernel
theorem dSx_bestWeighing_37 : decode prog_1_method_71_code 37 = .ok (.iconst 1, 1) := by decide +kernel
theorem dSx_bestWeighing_38 : decode prog_1_method_71_code 38 = .ok (.iand, 1) := by decide +kernel
theorem dSx_bestWeighing_39 : decode prog_1_method_71_code 39 = .ok (.iload 4, 2) := by decide +kernel
theorem dSx_bestWeighing_41 : decode prog_1_method_71_code 41 = .ok (.ishl, 1) := by decide +kernel
theorem dSx_bestWeighing_42 : decode prog_1_method_71_code 42 = .ok (.ior, 1) := by decide +kernel
theorem dSx_bestWeighing_43 : decode prog_1_method_71_code 43 = .ok (.istore_n 3, 1) := by decide +kernel
theorem dSx_bestWeighing_44 : decode prog_1_method_71_code 44 = .ok (.iinc 4 1, 3) := by decide +kernel
theorem dSx_bestWeighing_47 : decode prog_1_method_71_code 47 = .ok (.goto (-40), 3) := by decide +kernel
theorem dSx_bestWeighing_50 : decode prog_1_method_71_code 50 = .ok (.iload_n 1, 1) := by decide +kernel
theorem dSx_bestWeighing_51 : decode prog_1_method_71_code 51 = .ok (.invokestatic 272, 3) := by decide +kernel
theorem dSx_bestWeighing_54 : decode prog_1_method_71_code 54 = .ok (.istore 4, 2) := by decide +kernel
theorem dSx_bestWeighing_56 : decode prog_1_method_71_code 56 = .ok (.iconst 1, 1) := by decide +kernel
theorem dSx_bestWeighing_57 : decode prog_1_method_71_code 57 = .ok (.aload_n 0, 1) := by decide +kernel
theorem dSx_bestWeighing_58 : decode prog_1_method_71_code 58 = .ok (.getfield 12, 3) := by decide +kernel
theorem dSx_bestWeighing_61 : decode prog_1_method_71_code 61 = .ok (.getfield 89, 3) := by decide +kernel
theorem dSx_bestWeighing_64 : decode prog_1_method_71_code 64 = .ok (.ishl, 1) := by decide +kernel
theorem dSx_bestWeighing_65 : decode prog_1_method_71_code 65 = .ok (.istore 5, 2) := by decide +kernel
theorem dSx_bestWeighing_67 : decode prog_1_method_71_code 67 = .ok (.ldc_w 390, 3) := by decide +kernel
theorem dSx_bestWeighing_70 : decode prog_1_method_71_code 70 = .ok (.istore 6, 2) := by decide +kernel
theorem dSx_bestWeighing_72 : decode prog_1_method_71_code 72 = .ok (.iconst 0, 1) := by decide +kernel
theorem dSx_bestWeighing_73 : decode prog_1_method_71_code 73 = .ok (.istore 7, 2) := by decide +kernel
theorem dSx_bestWeighing_75 : decode prog_1_method_71_code 75 = .ok (.iload 7, 2) := by decide +kernel
theorem dSx_bestWeighing_77 : decode prog_1_method_71_code 77 = .ok (.iload 5, 2) := by decide +kernel
theorem dSx_bestWeighing_79 : decode prog_1_method_71_code 79 = .ok (.if_icmp .ge 122, 3) := by decide +kernel
theorem dSx_bestWeighing_82 : decode prog_1_method_71_code 82 = .ok (.iconst 0, 1) := by decide +kernel
theorem dSx_bestWeighing_83 : decode prog_1_method_71_code 83 = .ok (.istore 8, 2) := by decide +kernel
theorem dSx_bestWeighing_85 : decode prog_1_method_71_code 85 = .ok (.iload 8, 2) := by decide +kernel
theorem dSx_bestWeighing_87 : decode prog_1_method_71_code 87 = .ok (.iload 5, 2) := by decide +kernel
theorem dSx_bestWeighing_89 : decode prog_1_method_71_code 89 = .ok (.if_icmp .ge 106, 3) := by decide +kernel
theorem dSx_bestWeighing_92 : decode prog_1_method_71_code 92 = .ok (.iload 7, 2) := by decide +kernel
theorem dSx_bestWeighing_94 : decode prog_1_method_71_code 94 = .ok (.iload 8, 2) := by decide +kernel
theorem dSx_bestWeighing_96 : decode prog_1_method_71_code 96 = .ok (.iand, 1) := by decide +kernel
theorem dSx_bestWeighing_97 : decode prog_1_method_71_code 97 = .ok (.ifCond .ne 92, 3) := by decide +kernel
theorem dSx_bestWeighing_100 : decode prog_1_method_71_code 100 = .ok (.iload_n 2, 1) := by decide +kernel
theorem dSx_bestWeighing_101 : decode prog_1_method_71_code 101 = .ok (.iload 7, 2) := by decide +kernel
theorem dSx_bestWeighing_103 : decode prog_1_method_71_code 103 = .ok (.iand, 1) := by decide +kernel
theorem dSx_bestWeighing_104 : decode prog_1_method_71_code 104 = .ok (.invokestatic 272, 3) := by decide +kernel
theorem dSx_bestWeighing_107 : decode prog_1_method_71_code 107 = .ok (.iload_n 3, 1) := by decide +kernel
theorem dSx_bestWeighing_108 : decode prog_1_method_71_code 108 = .ok (.iload 8, 2) := by decide +kernel
theorem dSx_bestWeighing_110 : decode prog_1_method_71_code 110 = .ok (.iand, 1) := by decide +kernel
theorem dSx_bestWeighing_111 : decode prog_1_method_71_code 111 = .ok (.invokestatic 272, 3) := by decide +kernel
theorem dSx_bestWeighing_114 : decode prog_1_method_71_code 114 = .ok (.iadd, 1) := by decide +kernel
theorem dSx_bestWeighing_115 : decode prog_1_method_71_code 115 = .ok (.istore 9, 2) := by decide +kernel
theorem dSx_bestWeighing_117 : decode prog_1_method_71_code 117 = .ok (.iload_n 3, 1) := by decide +kernel
theorem dSx_bestWeighing_118 : decode prog_1_method_71_code 118 = .ok (.iload 7, 2) := by decide +kernel
theorem dSx_bestWeighing_120 : decode prog_1_method_71_code 120 = .ok (.iand, 1) := by decide +kernel
theorem dSx_bestWeighing_121 : decode prog_1_method_71_code 121 = .ok (.invokestatic 272, 3) := by decide +kernel
theorem dSx_bestWeighing_124 : decode prog_1_method_71_code 124 = .ok (.iload_n 2, 1) := by decide +kernel
theorem dSx_bestWeighing_125 : decode prog_1_method_71_code 125 = .ok (.iload 8, 2) := by decide +kernel
theorem dSx_bestWeighing_127 : decode prog_1_method_71_code 127 = .ok (.iand, 1) := by decide +kernel
theorem dSx_bestWeighing_128 : decode prog_1_method_71_code 128 = .ok (.invokestatic 272, 3) := by decide +kernel
theorem dSx_bestWeighing_131 : decode prog_1_method_71_code 131 = .ok (.iadd, 1) := by decide +kernel
theorem dSx_bestWeighing_132 : decode prog_1_method_71_code 132 = .ok (.istore 10, 2) := by decide +kernel
theorem dSx_bestWeighing_134 : decode prog_1_method_71_code 134 = .ok (.aload_n 0, 1) := by decide +kernel
theorem dSx_bestWeighing_135 : decode prog_1_method_71_code 135 = .ok (.getfield 68, 3) := by decide +kernel
theorem dSx_bestWeighing_138 : decode prog_1_method_71_code 138 = .ok (.iload 7, 2) := by decide +kernel
theorem dSx_bestWeighing_140 : decode prog_1_method_71_code 140 = .ok (.iaload, 1) := by decide +kernel
theorem dSx_bestWeighing_141 : decode prog_1_method_71_code 141 = .ok (.aload_n 0, 1) := by decide +kernel
theorem dSx_bestWeighing_142 : decode prog_1_method_71_code 142 = .ok (.getfield 68, 3) := by decide +kernel
theorem dSx_bestWeighing_145 : decode prog_1_method_71_code 145 = .ok (.iload 8, 2) := by decide +kernel
theorem dSx_bestWeighing_147 : decode prog_1_method_71_code 147 = .ok (.iaload, 1) := by decide +kernel
theorem dSx_bestWeighing_148 : decode prog_1_method_71_code 148 = .ok (.isub, 1) := by decide +kernel
theorem dSx_bestWeighing_149 : decode prog_1_method_71_code 149 = .ok (.iload 9, 2) := by decide +kernel
theorem dSx_bestWeighing_151 : decode prog_1_method_71_code 151 = .ok (.iload 10, 2) := by decide +kernel
theorem dSx_bestWeighing_153 : decode prog_1_method_71_code 153 = .ok (.iload 4, 2) := by decide +kernel
theorem dSx_bestWeighing_155 : decode prog_1_method_71_code 155 = .ok (.iload 9, 2) := by decide +kernel
theorem dSx_bestWeighing_157 : decode prog_1_method_71_code 157 = .ok (.isub, 1) := by decide +kernel
theorem dSx_bestWeighing_158 : decode prog_1_method_71_code 158 = .ok (.iload 10, 2) := by decide +kernel
theorem dSx_bestWeighing_160 : decode prog_1_method_71_code 160 = .ok (.isub, 1) := by decide +kernel
theorem dSx_bestWeighing_161 : decode prog_1_method_71_code 161 = .ok (.invokestatic 391, 3) := by decide +kernel
theorem dSx_bestWeighing_164 : decode prog_1_method_71_code 164 = .ok (.istore 11, 2) := by decide +kernel
theorem dSx_bestWeighing_166 : decode prog_1_method_71_code 166 = .ok (.iload 6, 2) := by decide +kernel
theorem dSx_bestWeighing_168 : decode prog_1_method_71_code 168 = .ok (.iload 11, 2) := by decide +kernel
theorem dSx_bestWeighing_170 : decode prog_1_method_71_code 170 = .ok (.sipush 128, 3) := by decide +kernel
theorem dSx_bestWeighing_173 : decode prog_1_method_71_code 173 = .ok (.imul, 1) := by decide +kernel
theorem dSx_bestWeighing_174 : decode prog_1_method_71_code 174 = .ok (.iload 7, 2) := by decide +kernel
theorem dSx_bestWeighing_176 : decode prog_1_method_71_code 176 = .ok (.iadd, 1) := by decide +kernel
theorem dSx_bestWeighing_177 : decode prog_1_method_71_code 177 = .ok (.sipush 128, 3) := by decide +kernel
theorem dSx_bestWeighing_180 : decode prog_1_method_71_code 180 = .ok (.imul, 1) := by decide +kernel
theorem dSx_bestWeighing_181 : decode prog_1_method_71_code 181 = .ok (.iload 8, 2) := by decide +kernel
theorem dSx_bestWeighing_183 : decode prog_1_method_71_code 183 = .ok (.iadd, 1) := by decide +kernel
theorem dSx_bestWeighing_184 : decode prog_1_method_71_code 184 = .ok (.invokestatic 395, 3) := by decide +kernel
theorem dSx_bestWeighing_187 : decode prog_1_method_71_code 187 = .ok (.istore 6, 2) := by decide +kernel
theorem dSx_bestWeighing_189 : decode prog_1_method_71_code 189 = .ok (.iinc 8 1, 3) := by decide +kernel
theorem dSx_bestWeighing_192 : decode prog_1_method_71_code 192 = .ok (.goto (-107), 3) := by decide +kernel
theorem dSx_bestWeighing_195 : decode prog_1_method_71_code 195 = .ok (.iinc 7 1, 3) := by decide +kernel
theorem dSx_bestWeighing_198 : decode prog_1_method_71_code 198 = .ok (.goto (-123), 3) := by decide +kernel
theorem dSx_bestWeighing_201 : decode prog_1_method_71_code 201 = .ok (.iload 6, 2) := by decide +kernel
theorem dSx_bestWeighing_203 : decode prog_1_method_71_code 203 = .ok (.ireturn, 1) := by decide +kernel
theorem dJu_barsAt_0 : decode prog_3_method_4_code 0 = .ok (.aload_n 1, 1) := by decide +kernel
theorem dJu_barsAt_1 : decode prog_3_method_4_code 1 = .ok (.aload_n 1, 1) := by decide +kernel
theorem dJu_barsAt_2 : decode prog_3_method_4_code 2 = .ok (.getfield 26, 3) := by decide +kernel
theorem dJu_barsAt_5 : decode prog_3_method_4_code 5 = .ok (.invokevirtual 32, 3) := by decide +kernel
theorem dJu_barsAt_8 : decode prog_3_method_4_code 8 = .ok (.astore 4, 2) := by decide +kernel
theorem dJu_barsAt_10 : decode prog_3_method_4_code 10 = .ok (.aload 4, 2) := by decide +kernel
theorem dJu_barsAt_12 : decode prog_3_method_4_code 12 = .ok (.ifnonnull 5, 3) := by decide +kernel
theorem dJu_barsAt_15 : decode prog_3_method_4_code 15 = .ok (.iconst 0, 1) := by decide +kernel
theorem dJu_barsAt_16 : decode prog_3_method_4_code 16 = .ok (.ireturn, 1) := by decide +kernel
theorem dJu_barsAt_17 : decode prog_3_method_4_code 17 = .ok (.aload_n 0, 1) := by decide +kernel
theorem dJu_barsAt_18 : decode prog_3_method_4_code 18 = .ok (.aload_n 1, 1) := by decide +kernel
theorem dJu_barsAt_19 : decode prog_3_method_4_code 19 = .ok (.iload_n 2, 1) := by decide +kernel
theorem dJu_barsAt_20 : decode prog_3_method_4_code 20 = .ok (.iload_n 3, 1) := by decide +kernel
theorem dJu_barsAt_21 : decode prog_3_method_4_code 21 = .ok (.invokevirtual 22, 3) := by decide +kernel
theorem dJu_barsAt_24 : decode prog_3_method_4_code 24 = .ok (.iconst 0, 1) := by decide +kernel
theorem dJu_barsAt_25 : decode prog_3_method_4_code 25 = .ok (.istore 5, 2) := by decide +kernel
theorem dJu_barsAt_27 : decode prog_3_method_4_code 27 = .ok (.iload 5, 2) := by decide +kernel
theorem dJu_barsAt_29 : decode prog_3_method_4_code 29 = .ok (.aload 4, 2) := by decide +kernel
theorem dJu_barsAt_31 : decode prog_3_method_4_code 31 = .ok (.getfield 43, 3) := by decide +kernel
theorem dJu_barsAt_34 : decode prog_3_method_4_code 34 = .ok (.if_icmp .ge 41, 3) := by decide +kernel
theorem dJu_barsAt_37 : decode prog_3_method_4_code 37 = .ok (.iload 5, 2) := by decide +kernel
theorem dJu_barsAt_39 : decode prog_3_method_4_code 39 = .ok (.bipush 12, 2) := by decide +kernel
theorem dJu_barsAt_41 : decode prog_3_method_4_code 41 = .ok (.if_icmp .ge 34, 3) := by decide +kernel
theorem dJu_barsAt_44 : decode prog_3_method_4_code 44 = .ok (.aload 4, 2) := by decide +kernel
theorem dJu_barsAt_46 : decode prog_3_method_4_code 46 = .ok (.getfield 48, 3) := by decide +kernel
theorem dJu_barsAt_49 : decode prog_3_method_4_code 49 = .ok (.iload 5, 2) := by decide +kernel
theorem dJu_barsAt_51 : decode prog_3_method_4_code 51 = .ok (.iaload, 1) := by decide +kernel
theorem dJu_barsAt_52 : decode prog_3_method_4_code 52 = .ok (.iconst 2, 1) := by decide +kernel
theorem dJu_barsAt_53 : decode prog_3_method_4_code 53 = .ok (.if_icmp .ne 16, 3) := by decide +kernel
theorem dJu_barsAt_56 : decode prog_3_method_4_code 56 = .ok (.aload_n 0, 1) := by decide +kernel
theorem dJu_barsAt_57 : decode prog_3_method_4_code 57 = .ok (.aload 4, 2) := by decide +kernel
theorem dJu_barsAt_59 : decode prog_3_method_4_code 59 = .ok (.iload 5, 2) := by decide +kernel
theorem dJu_barsAt_61 : decode prog_3_method_4_code 61 = .ok (.invokevirtual 51, 3) := by decide +kernel
theorem dJu_barsAt_64 : decode prog_3_method_4_code 64 = .ok (.ifCond .eq 5, 3) := by decide +kernel
theorem dJu_barsAt_67 : decode prog_3_method_4_code 67 = .ok (.iconst 1, 1) := by decide +kernel
theorem dJu_barsAt_68 : decode prog_3_method_4_code 68 = .ok (.ireturn, 1) := by decide +kernel
theorem dJu_barsAt_69 : decode prog_3_method_4_code 69 = .ok (.iinc 5 1, 3) := by decide +kernel
theorem dJu_barsAt_72 : decode prog_3_method_4_code 72 = .ok (.goto (-45), 3) := by decide +kernel
theorem dJu_barsAt_75 : decode prog_3_method_4_code 75 = .ok (.iconst 0, 1) := by decide +kernel
theorem dJu_barsAt_76 : decode prog_3_method_4_code 76 = .ok (.ireturn, 1) := by decide +kernel
theorem dJu_lastTold_0 : decode prog_3_method_8_code 0 = .ok (.aload_n 1, 1) := by decide +kernel
theorem dJu_lastTold_1 : decode prog_3_method_8_code 1 = .ok (.ifnonnull 6, 3) := by decide +kernel
theorem dJu_lastTold_4 : decode prog_3_method_8_code 4 = .ok (.iload 4, 2) := by decide +kernel
theorem dJu_lastTold_6 : decode prog_3_method_8_code 6 = .ok (.ireturn, 1) := by decide +kernel
theorem dJu_lastTold_7 : decode prog_3_method_8_code 7 = .ok (.aload_n 1, 1) := by decide +kernel
theorem dJu_lastTold_8 : decode prog_3_method_8_code 8 = .ok (.getfield 43, 3) := by decide +kernel
theorem dJu_lastTold_11 : decode prog_3_method_8_code 11 = .ok (.bipush 12, 2) := by decide +kernel
theorem dJu_lastTold_13 : decode prog_3_method_8_code 13 = .ok (.invokestatic 74, 3) := by decide +kernel
theorem dJu_lastTold_16 : decode prog_3_method_8_code 16 = .ok (.iconst 1, 1) := by decide +kernel
theorem dJu_lastTold_17 : decode prog_3_method_8_code 17 = .ok (.isub, 1) := by decide +kernel
theorem dJu_lastTold_18 : decode prog_3_method_8_code 18 = .ok (.istore 5, 2) := by decide +kernel
theorem dJu_lastTold_20 : decode prog_3_method_8_code 20 = .ok (.iload 5, 2) := by decide +kernel
theorem dJu_lastTold_22 : decode prog_3_method_8_code 22 = .ok (.ifCond .lt 68, 3) := by decide +kernel
theorem dJu_lastTold_25 : decode prog_3_method_8_code 25 = .ok (.aload_n 1, 1) := by decide +kernel
theorem dJu_lastTold_26 : decode prog_3_method_8_code 26 = .ok (.getfield 48, 3) := by decide +kernel
theorem dJu_lastTold_29 : decode prog_3_method_8_code 29 = .ok (.iload 5, 2) := by decide +kernel
theorem dJu_lastTold_31 : decode prog_3_method_8_code 31 = .ok (.iaload, 1) := by decide +kernel
theorem dJu_lastTold_32 : decode prog_3_method_8_code 32 = .ok (.iload_n 2, 1) := by decide +kernel
theorem dJu_lastTold_33 : decode prog_3_method_8_code 33 = .ok (.if_icmp .ne 51, 3) := by decide +kernel
theorem dJu_lastTold_36 : decode prog_3_method_8_code 36 = .ok (.aload_n 0, 1) := by decide +kernel
theorem dJu_lastTold_37 : decode prog_3_method_8_code 37 = .ok (.aload_n 1, 1) := by decide +kernel
theorem dJu_lastTold_38 : decode prog_3_method_8_code 38 = .ok (.iload 5, 2) := by decide +kernel
theorem dJu_lastTold_40 : decode prog_3_method_8_code 40 = .ok (.invokevirtual 51, 3) := by decide +kernel
theorem dJu_lastTold_43 : decode prog_3_method_8_code 43 = .ok (.ifCond .eq 41, 3) := by decide +kernel
theorem dJu_lastTold_46 : decode prog_3_method_8_code 46 = .ok (.aload_n 0, 1) := by decide +kernel
theorem dJu_lastTold_47 : decode prog_3_method_8_code 47 = .ok (.getfield 12, 3) := by decide +kernel
theorem dJu_lastTold_50 : decode prog_3_method_8_code 50 = .ok (.aload_n 1, 1) := by decide +kernel
theorem dJu_lastTold_51 : decode prog_3_method_8_code 51 = .ok (.aload_n 1, 1) := by decide +kernel
theorem dJu_lastTold_52 : decode prog_3_method_8_code 52 = .ok (.getfield 77, 3) := by decide +kernel
theorem dJu_lastTold_55 : decode prog_3_method_8_code 55 = .ok (.iload 5, 2) := by decide +kernel
theorem dJu_lastTold_57 : decode prog_3_method_8_code 57 = .ok (.iaload, 1) := by decide +kernel
theorem dJu_lastTold_58 : decode prog_3_method_8_code 58 = .ok (.aload_n 0, 1) := by decide +kernel
theorem dJu_lastTold_59 : decode prog_3_method_8_code 59 = .ok (.getfield 18, 3) := by decide +kernel
theorem dJu_lastTold_62 : decode prog_3_method_8_code 62 = .ok (.invokevirtual 80, 3) := by decide +kernel
theorem dJu_lastTold_65 : decode prog_3_method_8_code 65 = .ok (.ifCond .eq 19, 3) := by decide +kernel
theorem dJu_lastTold_68 : decode prog_3_method_8_code 68 = .ok (.iconst 0, 1) := by decide +kernel
theorem dJu_lastTold_69 : decode prog_3_method_8_code 69 = .ok (.iload_n 3, 1) := by decide +kernel
theorem dJu_lastTold_70 : decode prog_3_method_8_code 70 = .ok (.aload_n 0, 1) := by decide +kernel
theorem dJu_lastTold_71 : decode prog_3_method_8_code 71 = .ok (.getfield 12, 3) := by decide +kernel
theorem dJu_lastTold_74 : decode prog_3_method_8_code 74 = .ok (.getfield 84, 3) := by decide +kernel
theorem dJu_lastTold_77 : decode prog_3_method_8_code 77 = .ok (.invokestatic 74, 3) := by decide +kernel
theorem dJu_lastTold_80 : decode prog_3_method_8_code 80 = .ok (.invokestatic 62, 3) := by decide +kernel
theorem dJu_lastTold_83 : decode prog_3_method_8_code 83 = .ok (.ireturn, 1) := by decide +kernel
theorem dJu_lastTold_84 : decode prog_3_method_8_code 84 = .ok (.iinc 5 (-1), 3) := by decide +kernel
theorem dJu_lastTold_87 : decode prog_3_method_8_code 87 = .ok (.goto (-67), 3) := by decide +kernel
theorem dJu_lastTold_90 : decode prog_3_method_8_code 90 = .ok (.iload 4, 2) := by decide +kernel
theorem dJu_lastTold_92 : decode prog_3_method_8_code 92 = .ok (.ireturn, 1) := by decide +kernel
theorem dRe_readPart_0 : decode prog_5_method_23_code 0 = .ok (.aload_n 0, 1) := by decide +kernel
theorem dRe_readPart_1 : decode prog_5_method_23_code 1 = .ok (.ldc 206, 2) := by decide +kernel
theorem dRe_readPart_3 : decode prog_5_method_23_code 3 = .ok (.invokevirtual 90, 3) := by decide +kernel
theorem dRe_readPart_6 : decode prog_5_method_23_code 6 = .ok (.ifCond .eq 21, 3) := by decide +kernel
theorem dRe_readPart_9 : decode prog_5_method_23_code 9 = .ok (.aload_n 0, 1) := by decide +kernel
theorem dRe_readPart_10 : decode prog_5_method_23_code 10 = .ok (.invokevirtual 175, 3) := by decide +kernel
theorem dRe_readPart_13 : decode prog_5_method_23_code 13 = .ok (.ifCond .eq 13, 3) := by decide +kernel
theorem dRe_readPart_16 : decode prog_5_method_23_code 16 = .ok (.aload_n 0, 1) := by decide +kernel
theorem dRe_readPart_17 : decode prog_5_method_23_code 17 = .ok (.invokevirtual 143, 3) := by decide +kernel
theorem dRe_readPart_20 : decode prog_5_method_23_code 20 = .ok (.aload_n 0, 1) := by decide +kernel
theorem dRe_readPart_21 : decode prog_5_method_23_code 21 = .ok (.ldc 208, 2) := by decide +kernel
theorem dRe_readPart_23 : decode prog_5_method_23_code 23 = .ok (.invokevirtual 181, 3) := by decide +kernel
theorem dRe_readPart_26 : decode prog_5_method_23_code 26 = .ok (.return_, 1) := by decide +kernel
theorem dRe_readPart_27 : decode prog_5_method_23_code 27 = .ok (.aload_n 0, 1) := by decide +kernel
theorem dRe_readPart_28 : decode prog_5_method_23_code 28 = .ok (.iconst 0, 1) := by decide +kernel
theorem dRe_readPart_29 : decode prog_5_method_23_code 29 = .ok (.sipush 1000, 3) := by decide +kernel
theorem dRe_readPart_32 : decode prog_5_method_23_code 32 = .ok (.invokevirtual 99, 3) := by decide +kernel
theorem dRe_readPart_35 : decode prog_5_method_23_code 35 = .ok (.istore_n 1, 1) := by decide +kernel
theorem dRe_readPart_36 : decode prog_5_method_23_code 36 = .ok (.aload_n 0, 1) := by decide +kernel
theorem dRe_readPart_37 : decode prog_5_method_23_code 37 = .ok (.getfield 31, 3) := by decide +kernel
theorem dRe_readPart_40 : decode prog_5_method_23_code 40 = .ok (.ifCond .eq 10, 3) := by decide +kernel
theorem dRe_readPart_43 : decode prog_5_method_23_code 43 = .ok (.aload_n 0, 1) := by decide +kernel
theorem dRe_readPart_44 : decode prog_5_method_23_code 44 = .ok (.invokevirtual 210, 3) := by decide +kernel
theorem dRe_readPart_47 : decode prog_5_method_23_code 47 = .ok (.goto 7, 3) := by decide +kernel
theorem dRe_readPart_50 : decode prog_5_method_23_code 50 = .ok (.aload_n 0, 1) := by decide +kernel
theorem dRe_readPart_51 : decode prog_5_method_23_code 51 = .ok (.invokevirtual 213, 3) := by decide +kernel
theorem dRe_readPart_54 : decode prog_5_method_23_code 54 = .ok (.istore_n 2, 1) := by decide +kernel
theorem dRe_readPart_55 : decode prog_5_method_23_code 55 = .ok (.iload_n 1, 1) := by decide +kernel
theorem dRe_readPart_56 : decode prog_5_method_23_code 56 = .ok (.iconst (-1), 1) := by decide +kernel
theorem dRe_readPart_57 : decode prog_5_method_23_code 57 = .ok (.if_icmp .ne 8, 3) := by decide +kernel
theorem dRe_readPart_60 : decode prog_5_method_23_code 60 = .ok (.iload_n 2, 1) := by decide +kernel
theorem dRe_readPart_61 : decode prog_5_method_23_code 61 = .ok (.iconst (-1), 1) := by decide +kernel
theorem dRe_readPart_62 : decode prog_5_method_23_code 62 = .ok (.if_icmp .eq 12, 3) := by decide +kernel
theorem dRe_readPart_65 : decode prog_5_method_23_code 65 = .ok (.aload_n 0, 1) := by decide +kernel
theorem dRe_readPart_66 : decode prog_5_method_23_code 66 = .ok (.getfield 38, 3) := by decide +kernel
theorem dRe_readPart_69 : decode prog_5_method_23_code 69 = .ok (.bipush 50, 2) := by decide +kernel
theorem dRe_readPart_71 : decode prog_5_method_23_code 71 = .ok (.if_icmp .lt 8, 3) := by decide +kernel
theorem dRe_readPart_74 : decode prog_5_method_23_code 74 = .ok (.aload_n 0, 1) := by decide +kernel
theorem dRe_readPart_75 : decode prog_5_method_23_code 75 = .ok (.invokevirtual 74, 3) := by decide +kernel
theorem dRe_readPart_78 : decode prog_5_method_23_code 78 = .ok (.return_, 1) := by decide +kernel
theorem dRe_readPart_79 : decode prog_5_method_23_code 79 = .ok (.aload_n 0, 1) := by decide +kernel
theorem dRe_readPart_80 : decode prog_5_method_23_code 80 = .ok (.dup, 1) := by decide +kernel
theorem dRe_readPart_81 : decode prog_5_method_23_code 81 = .ok (.getfield 38, 3) := by decide +kernel
theorem dRe_readPart_84 : decode prog_5_method_23_code 84 = .ok (.iconst 1, 1) := by decide +kernel
theorem dRe_readPart_85 : decode prog_5_method_23_code 85 = .ok (.iadd, 1) := by decide +kernel
theorem dRe_readPart_86 : decode prog_5_method_23_code 86 = .ok (.putfield 38, 3) := by decide +kernel
theorem dRe_readPart_89 : decode prog_5_method_23_code 89 = .ok (.aload_n 0, 1) := by decide +kernel
theorem dRe_readPart_90 : decode prog_5_method_23_code 90 = .ok (.invokevirtual 47, 3) := by decide +kernel
theorem dRe_readPart_93 : decode prog_5_method_23_code 93 = .ok (.iload_n 1, 1) := by decide +kernel
theorem dRe_readPart_94 : decode prog_5_method_23_code 94 = .ok (.iconst (-1), 1) := by decide +kernel
theorem dRe_readPart_95 : decode prog_5_method_23_code 95 = .ok (.if_icmp .eq 12, 3) := by decide +kernel
theorem dRe_readPart_98 : decode prog_5_method_23_code 98 = .ok (.aload_n 0, 1) := by decide +kernel
theorem dRe_readPart_99 : decode prog_5_method_23_code 99 = .ok (.iconst 1, 1) := by decide +kernel
theorem dRe_readPart_100 : decode prog_5_method_23_code 100 = .ok (.iload_n 1, 1) := by decide +kernel
theorem dRe_readPart_101 : decode prog_5_method_23_code 101 = .ok (.invokevirtual 146, 3) := by decide +kernel
theorem dRe_readPart_104 : decode prog_5_method_23_code 104 = .ok (.goto 48, 3) := by decide +kernel
theorem dRe_readPart_107 : decode prog_5_method_23_code 107 = .ok (.aload_n 0, 1) := by decide +kernel
theorem dRe_readPart_108 : decode prog_5_method_23_code 108 = .ok (.getfield 31, 3) := by decide +kernel
theorem dRe_readPart_111 : decode prog_5_method_23_code 111 = .ok (.ifCond .ne 35, 3) := by decide +kernel
theorem dRe_readPart_114 : decode prog_5_method_23_code 114 = .ok (.iload_n 2, 1) := by decide +kernel
theorem dRe_readPart_115 : decode prog_5_method_23_code 115 = .ok (.iconst 5, 1) := by decide +kernel
theorem dRe_readPart_116 : decode prog_5_method_23_code 116 = .ok (.if_icmp .eq 9, 3) := by decide +kernel
theorem dRe_readPart_119 : decode prog_5_method_23_code 119 = .ok (.iload_n 2, 1) := by decide +kernel
theorem dRe_readPart_120 : decode prog_5_method_23_code 120 = .ok (.bipush 12, 2) := by decide +kernel
theorem dRe_readPart_122 : decode prog_5_method_23_code 122 = .ok (.if_icmp .ne 24, 3) := by decide +kernel
theorem dRe_readPart_125 : decode prog_5_method_23_code 125 = .ok (.aload_n 0, 1) := by decide +kernel
theorem dRe_readPart_126 : decode prog_5_method_23_code 126 = .ok (.iconst 2, 1) := by decide +kernel
theorem dRe_readPart_127 : decode prog_5_method_23_code 127 = .ok (.iload_n 2, 1) := by decide +kernel
theorem dRe_readPart_128 : decode prog_5_method_23_code 128 = .ok (.iconst 0, 1) := by decide +kernel
theorem dRe_readPart_129 : decode prog_5_method_23_code 129 = .ok (.aload_n 0, 1) := by decide +kernel
theorem dRe_readPart_130 : decode prog_5_method_23_code 130 = .ok (.iconst 0, 1) := by decide +kernel
theorem dRe_readPart_131 : decode prog_5_method_23_code 131 = .ok (.bipush 6, 2) := by decide +kernel
theorem dRe_readPart_133 : decode prog_5_method_23_code 133 = .ok (.invokevirtual 140, 3) := by decide +kernel
theorem dRe_readPart_136 : decode prog_5_method_23_code 136 = .ok (.invokestatic 216, 3) := by decide +kernel
theorem dRe_readPart_139 : decode prog_5_method_23_code 139 = .ok (.iadd, 1) := by decide +kernel
theorem dRe_readPart_140 : decode prog_5_method_23_code 140 = .ok (.invokevirtual 146, 3) := by decide +kernel
theorem dRe_readPart_143 : decode prog_5_method_23_code 143 = .ok (.goto 9, 3) := by decide +kernel
theorem dRe_readPart_146 : decode prog_5_method_23_code 146 = .ok (.aload_n 0, 1) := by decide +kernel
theorem dRe_readPart_147 : decode prog_5_method_23_code 147 = .ok (.iconst 2, 1) := by decide +kernel
theorem dRe_readPart_148 : decode prog_5_method_23_code 148 = .ok (.iload_n 2, 1) := by decide +kernel
theorem dRe_readPart_149 : decode prog_5_method_23_code 149 = .ok (.invokevirtual 146, 3) := by decide +kernel
theorem dRe_readPart_152 : decode prog_5_method_23_code 152 = .ok (.return_, 1) := by decide +kernel
theorem dRo_howMany_0 : decode prog_7_method_6_code 0 = .ok (.aload_n 0, 1) := by decide +kernel
theorem dRo_howMany_1 : decode prog_7_method_6_code 1 = .ok (.iload_n 1, 1) := by decide +kernel
theorem dRo_howMany_2 : decode prog_7_method_6_code 2 = .ok (.putfield 42, 3) := by decide +kernel
theorem dRo_howMany_5 : decode prog_7_method_6_code 5 = .ok (.aload_n 0, 1) := by decide +kernel
theorem dRo_howMany_6 : decode prog_7_method_6_code 6 = .ok (.iload_n 2, 1) := by decide +kernel
theorem dRo_howMany_7 : decode prog_7_method_6_code 7 = .ok (.putfield 46, 3) := by decide +kernel
theorem dRo_howMany_10 : decode prog_7_method_6_code 10 = .ok (.aload_n 0, 1) := by decide +kernel
theorem dRo_howMany_11 : decode prog_7_method_6_code 11 = .ok (.iconst 0, 1) := by decide +kernel
theorem dRo_howMany_12 : decode prog_7_method_6_code 12 = .ok (.iconst 0, 1) := by decide +kernel
theorem dRo_howMany_13 : decode prog_7_method_6_code 13 = .ok (.iconst 0, 1) := by decide +kernel
theorem dRo_howMany_14 : decode prog_7_method_6_code 14 = .ok (.invokevirtual 49, 3) := by decide +kernel
theorem dRo_howMany_17 : decode prog_7_method_6_code 17 = .ok (.ireturn, 1) := by decide +kernel
theorem dSx_claim_0 : decode prog_1_method_2_code 0 = .ok (.iload_n 1, 1) := by decide +kernel
theorem dSx_claim_1 : decode prog_1_method_2_code 1 = .ok (.iload_n 2, 1) := by decide +kernel
theorem dSx_claim_2 : decode prog_1_method_2_code 2 = .ok (.invokestatic 81, 3) := by decide +kernel
theorem dSx_claim_5 : decode prog_1_method_2_code 5 = .ok (.ifCond .ne 9, 3) := by decide +kernel
theorem dSx_claim_8 : decode prog_1_method_2_code 8 = .ok (.aload_n 0, 1) := by decide +kernel
theorem dSx_claim_9 : decode prog_1_method_2_code 9 = .ok (.iconst (-1), 1) := by decide +kernel
theorem dSx_claim_10 : decode prog_1_method_2_code 10 = .ok (.invokevirtual 85, 3) := by decide +kernel
theorem dSx_claim_13 : decode prog_1_method_2_code 13 = .ok (.ireturn, 1) := by decide +kernel
theorem dSx_claim_14 : decode prog_1_method_2_code 14 = .ok (.aload_n 0, 1) := by decide +kernel
theorem dSx_claim_15 : decode prog_1_method_2_code 15 = .ok (.getfield 12, 3) := by decide +kernel
theorem dSx_claim_18 : decode prog_1_method_2_code 18 = .ok (.getfield 89, 3) := by decide +kernel
theorem dSx_claim_21 : decode prog_1_method_2_code 21 = .ok (.bipush 7, 2) := by decide +kernel
theorem dSx_claim_23 : decode prog_1_method_2_code 23 = .ok (.if_icmp .lt 10, 3) := by decide +kernel
theorem dSx_claim_26 : decode prog_1_method_2_code 26 = .ok (.aload_n 0, 1) := by decide +kernel
theorem dSx_claim_27 : decode prog_1_method_2_code 27 = .ok (.bipush (-5), 2) := by decide +kernel
theorem dSx_claim_29 : decode prog_1_method_2_code 29 = .ok (.invokevirtual 85, 3) := by decide +kernel
theorem dSx_claim_32 : decode prog_1_method_2_code 32 = .ok (.ireturn, 1) := by decide +kernel
theorem dSx_claim_33 : decode prog_1_method_2_code 33 = .ok (.aload_n 0, 1) := by decide +kernel
theorem dSx_claim_34 : decode prog_1_method_2_code 34 = .ok (.getfield 29, 3) := by decide +kernel
theorem dSx_claim_37 : decode prog_1_method_2_code 37 = .ok (.invokevirtual 92, 3) := by decide +kernel
theorem dSx_claim_40 : decode prog_1_method_2_code 40 = .ok (.aload_n 0, 1) := by decide +kernel
theorem dSx_claim_41 : decode prog_1_method_2_code 41 = .ok (.aload_n 0, 1) := by decide +kernel
theorem dSx_claim_42 : decode prog_1_method_2_code 42 = .ok (.getfield 12, 3) := by decide +kernel
theorem dSx_claim_45 : decode prog_1_method_2_code 45 = .ok (.iload_n 1, 1) := by decide +kernel
theorem dSx_claim_46 : decode prog_1_method_2_code 46 = .ok (.iload_n 2, 1) := by decide +kernel
theorem dSx_claim_47 : decode prog_1_method_2_code 47 = .ok (.invokevirtual 95, 3) := by decide +kernel
theorem dSx_claim_50 : decode prog_1_method_2_code 50 = .ok (.invokevirtual 99, 3) := by decide +kernel
theorem dSx_claim_53 : decode prog_1_method_2_code 53 = .ok (.ireturn, 1) := by decide +kernel
theorem dSx_row_0 : decode prog_1_method_9_code 0 = .ok (.aload_n 0, 1) := by decide +kernel
theorem dSx_row_1 : decode prog_1_method_9_code 1 = .ok (.getfield 39, 3) := by decide +kernel
theorem dSx_row_4 : decode prog_1_method_9_code 4 = .ok (.getfield 156, 3) := by decide +kernel
theorem dSx_row_7 : decode prog_1_method_9_code 7 = .ok (.ifCond .ne 10, 3) := by decide +kernel
theorem dSx_row_10 : decode prog_1_method_9_code 10 = .ok (.aload_n 0, 1) := by decide +kernel
theorem dSx_row_11 : decode prog_1_method_9_code 11 = .ok (.bipush (-6), 2) := by decide +kernel
theorem dSx_row_13 : decode prog_1_method_9_code 13 = .ok (.invokevirtual 85, 3) := by decide +kernel
theorem dSx_row_16 : decode prog_1_method_9_code 16 = .ok (.ireturn, 1) := by decide +kernel
theorem dSx_row_17 : decode prog_1_method_9_code 17 = .ok (.iconst 0, 1) := by decide +kernel
theorem dSx_row_18 : decode prog_1_method_9_code 18 = .ok (.istore_n 1, 1) := by decide +kernel
theorem dSx_row_19 : decode prog_1_method_9_code 19 = .ok (.aload_n 0, 1) := by decide +kernel
theorem dSx_row_20 : decode prog_1_method_9_code 20 = .ok (.iconst 0, 1) := by decide +kernel
theorem dSx_row_21 : decode prog_1_method_9_code 21 = .ok (.putfield 163, 3) := by decide +kernel
theorem dSx_row_24 : decode prog_1_method_9_code 24 = .ok (.iconst 0, 1) := by decide +kernel
theorem dSx_row_25 : decode prog_1_method_9_code 25 = .ok (.istore_n 2, 1) := by decide +kernel
theorem dSx_row_26 : decode prog_1_method_9_code 26 = .ok (.iload_n 2, 1) := by decide +kernel
theorem dSx_row_27 : decode prog_1_method_9_code 27 = .ok (.aload_n 0, 1) := by decide +kernel
theorem dSx_row_28 : decode prog_1_method_9_code 28 = .ok (.getfield 39, 3) := by decide +kernel
theorem dSx_row_31 : decode prog_1_method_9_code 31 = .ok (.getfield 156, 3) := by decide +kernel
theorem dSx_row_34 : decode prog_1_method_9_code 34 = .ok (.if_icmp .ge 130, 3) := by decide +kernel
theorem dSx_row_37 : decode prog_1_method_9_code 37 = .ok (.iload_n 2, 1) := by decide +kernel
theorem dSx_row_38 : decode prog_1_method_9_code 38 = .ok (.sipush 400, 3) := by decide +kernel
theorem dSx_row_41 : decode prog_1_method_9_code 41 = .ok (.if_icmp .ge 123, 3) := by decide +kernel
theorem dSx_row_44 : decode prog_1_method_9_code 44 = .ok (.iload_n 2, 1) := by decide +kernel
theorem dSx_row_45 : decode prog_1_method_9_code 45 = .ok (.iconst 1, 1) := by decide +kernel
theorem dSx_row_46 : decode prog_1_method_9_code 46 = .ok (.iadd, 1) := by decide +kernel
theorem dSx_row_47 : decode prog_1_method_9_code 47 = .ok (.aload_n 0, 1) := by decide +kernel
theorem dSx_row_48 : decode prog_1_method_9_code 48 = .ok (.getfield 39, 3) := by decide +kernel
theorem dSx_row_51 : decode prog_1_method_9_code 51 = .ok (.getfield 156, 3) := by decide +kernel
theorem dSx_row_54 : decode prog_1_method_9_code 54 = .ok (.if_icmp .ge 16, 3) := by decide +kernel
theorem dSx_row_57 : decode prog_1_method_9_code 57 = .ok (.iload_n 2, 1) := by decide +kernel
theorem dSx_row_58 : decode prog_1_method_9_code 58 = .ok (.iconst 1, 1) := by decide +kernel
theorem dSx_row_59 : decode prog_1_method_9_code 59 = .ok (.iadd, 1) := by decide +kernel
theorem dSx_row_60 : decode prog_1_method_9_code 60 = .ok (.sipush 400, 3) := by decide +kernel
theorem dSx_row_63 : decode prog_1_method_9_code 63 = .ok (.if_icmp .ge 7, 3) := by decide +kernel
theorem dSx_row_66 : decode prog_1_method_9_code 66 = .ok (.iconst 1, 1) := by decide +kernel
theorem dSx_row_67 : decode prog_1_method_9_code 67 = .ok (.goto 4, 3) := by decide +kernel
theorem dSx_row_70 : decode prog_1_method_9_code 70 = .ok (.iconst 0, 1) := by decide +kernel
theorem dSx_row_71 : decode prog_1_method_9_code 71 = .ok (.istore_n 3, 1) := by decide +kernel
theorem dSx_row_72 : decode prog_1_method_9_code 72 = .ok (.iload_n 3, 1) := by decide +kernel
theorem dSx_row_73 : decode prog_1_method_9_code 73 = .ok (.ifCond .eq 75, 3) := by decide +kernel
theorem dSx_row_76 : decode prog_1_method_9_code 76 = .ok (.aload_n 0, 1) := by decide +kernel
theorem dSx_row_77 : decode prog_1_method_9_code 77 = .ok (.getfield 12, 3) := by decide +kernel
theorem dSx_row_80 : decode prog_1_method_9_code 80 = .ok (.getfield 89, 3) := by decide +kernel
theorem dSx_row_83 : decode prog_1_method_9_code 83 = .ok (.bipush 7, 2) := by decide +kernel
theorem dSx_row_85 : decode prog_1_method_9_code 85 = .ok (.if_icmp .ge 63, 3) := by decide +kernel
theorem dSx_row_88 : decode prog_1_method_9_code 88 = .ok (.aload_n 0, 1) := by decide +kernel
theorem dSx_row_89 : decode prog_1_method_9_code 89 = .ok (.getfield 39, 3) := by decide +kernel
theorem dSx_row_92 : decode prog_1_method_9_code 92 = .ok (.getfield 166, 3) := by decide +kernel
theorem dSx_row_95 : decode prog_1_method_9_code 95 = .ok (.iload_n 2, 1) := by decide +kernel
theorem dSx_row_96 : decode prog_1_method_9_code 96 = .ok (.iaload, 1) := by decide +kernel
theorem dSx_row_97 : decode prog_1_method_9_code 97 = .ok (.aload_n 0, 1) := by decide +kernel
theorem dSx_row_98 : decode prog_1_method_9_code 98 = .ok (.getfield 39, 3) := by decide +kernel
theorem dSx_row_101 : decode prog_1_method_9_code 101 = .ok (.getfield 166, 3) := by decide +kernel
theorem dSx_row_104 : decode prog_1_method_9_code 104 = .ok (.iload_n 2, 1) := by decide +kernel
theorem dSx_row_105 : decode prog_1_method_9_code 105 = .ok (.iconst 1, 1) := by decide +kernel
theorem dSx_row_106 : decode prog_1_method_9_code 106 = .ok (.iadd, 1) := by decide +kernel
theorem dSx_row_107 : decode prog_1_method_9_code 107 = .ok (.iaload, 1) := by decide +kernel
theorem dSx_row_108 : decode prog_1_method_9_code 108 = .ok (.invokestatic 81, 3) := by decide +kernel
theorem dSx_row_111 : decode prog_1_method_9_code 111 = .ok (.ifCond .eq 37, 3) := by decide +kernel
theorem dSx_row_114 : decode prog_1_method_9_code 114 = .ok (.aload_n 0, 1) := by decide +kernel
theorem dSx_row_115 : decode prog_1_method_9_code 115 = .ok (.getfield 12, 3) := by decide +kernel
theorem dSx_row_118 : decode prog_1_method_9_code 118 = .ok (.aload_n 0, 1) := by decide +kernel
theorem dSx_row_119 : decode prog_1_method_9_code 119 = .ok (.getfield 39, 3) := by decide +kernel
theorem dSx_row_122 : decode prog_1_method_9_code 122 = .ok (.getfield 166, 3) := by decide +kernel
theorem dSx_row_125 : decode prog_1_method_9_code 125 = .ok (.iload_n 2, 1) := by decide +kernel
theorem dSx_row_126 : decode prog_1_method_9_code 126 = .ok (.iaload, 1) := by decide +kernel
theorem dSx_row_127 : decode prog_1_method_9_code 127 = .ok (.aload_n 0, 1) := by decide +kernel
theorem dSx_row_128 : decode prog_1_method_9_code 128 = .ok (.getfield 39, 3) := by decide +kernel
theorem dSx_row_131 : decode prog_1_method_9_code 131 = .ok (.getfield 166, 3) := by decide +kernel
theorem dSx_row_134 : decode prog_1_method_9_code 134 = .ok (.iload_n 2, 1) := by decide +kernel
theorem dSx_row_135 : decode prog_1_method_9_code 135 = .ok (.iconst 1, 1) := by decide +kernel
theorem dSx_row_136 : decode prog_1_method_9_code 136 = .ok (.iadd, 1) := by decide +kernel
theorem dSx_row_137 : decode prog_1_method_9_code 137 = .ok (.iaload, 1) := by decide +kernel
theorem dSx_row_138 : decode prog_1_method_9_code 138 = .ok (.invokevirtual 95, 3) := by decide +kernel
theorem dSx_row_141 : decode prog_1_method_9_code 141 = .ok (.pop, 1) := by decide +kernel
theorem dSx_row_142 : decode prog_1_method_9_code 142 = .ok (.iinc 1 1, 3) := by decide +kernel
theorem dSx_row_145 : decode prog_1_method_9_code 145 = .ok (.goto 13, 3) := by decide +kernel
theorem dSx_row_148 : decode prog_1_method_9_code 148 = .ok (.aload_n 0, 1) := by decide +kernel
theorem dSx_row_149 : decode prog_1_method_9_code 149 = .ok (.dup, 1) := by decide +kernel
theorem dSx_row_150 : decode prog_1_method_9_code 150 = .ok (.getfield 163, 3) := by decide +kernel
theorem dSx_row_153 : decode prog_1_method_9_code 153 = .ok (.iconst 1, 1) := by decide +kernel
theorem dSx_row_154 : decode prog_1_method_9_code 154 = .ok (.iadd, 1) := by decide +kernel
theorem dSx_row_155 : decode prog_1_method_9_code 155 = .ok (.putfield 163, 3) := by decide +kernel
theorem dSx_row_158 : decode prog_1_method_9_code 158 = .ok (.iinc 2 2, 3) := by decide +kernel
theorem dSx_row_161 : decode prog_1_method_9_code 161 = .ok (.goto (-135), 3) := by decide +kernel
theorem dSx_row_164 : decode prog_1_method_9_code 164 = .ok (.aload_n 0, 1) := by decide +kernel
theorem dSx_row_165 : decode prog_1_method_9_code 165 = .ok (.getfield 39, 3) := by decide +kernel
theorem dSx_row_168 : decode prog_1_method_9_code 168 = .ok (.iconst 0, 1) := by decide +kernel
theorem dSx_row_169 : decode prog_1_method_9_code 169 = .ok (.putfield 156, 3) := by decide +kernel
theorem dSx_row_172 : decode prog_1_method_9_code 172 = .ok (.aload_n 0, 1) := by decide +kernel
theorem dSx_row_173 : decode prog_1_method_9_code 173 = .ok (.getfield 29, 3) := by decide +kernel
theorem dSx_row_176 : decode prog_1_method_9_code 176 = .ok (.invokevirtual 92, 3) := by decide +kernel
theorem dSx_row_179 : decode prog_1_method_9_code 179 = .ok (.aload_n 0, 1) := by decide +kernel
theorem dSx_row_180 : decode prog_1_method_9_code 180 = .ok (.iload_n 1, 1) := by decide +kernel
theorem dSx_row_181 : decode prog_1_method_9_code 181 = .ok (.invokevirtual 99, 3) := by decide +kernel
theorem dSx_row_184 : decode prog_1_method_9_code 184 = .ok (.ireturn, 1) := by decide +kernel
theorem dSx_shares_0 : decode prog_1_method_26_code 0 = .ok (.aload_n 0, 1) := by decide +kernel
theorem dSx_shares_1 : decode prog_1_method_26_code 1 = .ok (.getfield 12, 3) := by decide +kernel
theorem dSx_shares_4 : decode prog_1_method_26_code 4 = .ok (.getfield 89, 3) := by decide +kernel
theorem dSx_shares_7 : decode prog_1_method_26_code 7 = .ok (.ifCond .ne 5, 3) := by decide +kernel
theorem dSx_shares_10 : decode prog_1_method_26_code 10 = .ok (.iconst (-1), 1) := by decide +kernel
theorem dSx_shares_11 : decode prog_1_method_26_code 11 = .ok (.ireturn, 1) := by decide +kernel
theorem dSx_shares_12 : decode prog_1_method_26_code 12 = .ok (.aload_n 0, 1) := by decide +kernel
theorem dSx_shares_13 : decode prog_1_method_26_code 13 = .ok (.invokevirtual 260, 3) := by decide +kernel
theorem dSx_shares_16 : decode prog_1_method_26_code 16 = .ok (.iconst 1, 1) := by decide +kernel
theorem dSx_shares_17 : decode prog_1_method_26_code 17 = .ok (.aload_n 0, 1) := by decide +kernel
theorem dSx_shares_18 : decode prog_1_method_26_code 18 = .ok (.getfield 12, 3) := by decide +kernel
theorem dSx_shares_21 : decode prog_1_method_26_code 21 = .ok (.getfield 89, 3) := by decide +kernel
theorem dSx_shares_24 : decode prog_1_method_26_code 24 = .ok (.ishl, 1) := by decide +kernel
theorem dSx_shares_25 : decode prog_1_method_26_code 25 = .ok (.iconst 1, 1) := by decide +kernel
theorem dSx_shares_26 : decode prog_1_method_26_code 26 = .ok (.isub, 1) := by decide +kernel
theorem dSx_shares_27 : decode prog_1_method_26_code 27 = .ok (.istore_n 2, 1) := by decide +kernel
theorem dSx_shares_28 : decode prog_1_method_26_code 28 = .ok (.sipush 211, 3) := by decide +kernel
theorem dSx_shares_31 : decode prog_1_method_26_code 31 = .ok (.istore_n 3, 1) := by decide +kernel
theorem dSx_shares_32 : decode prog_1_method_26_code 32 = .ok (.iconst (-1), 1) := by decide +kernel
theorem dSx_shares_33 : decode prog_1_method_26_code 33 = .ok (.istore 4, 2) := by decide +kernel
theorem dSx_shares_35 : decode prog_1_method_26_code 35 = .ok (.iconst 0, 1) := by decide +kernel
theorem dSx_shares_36 : decode prog_1_method_26_code 36 = .ok (.istore 5, 2) := by decide +kernel
theorem dSx_shares_38 : decode prog_1_method_26_code 38 = .ok (.iconst 1, 1) := by decide +kernel
theorem dSx_shares_39 : decode prog_1_method_26_code 39 = .ok (.istore 6, 2) := by decide +kernel
theorem dSx_shares_41 : decode prog_1_method_26_code 41 = .ok (.iload 6, 2) := by decide +kernel
theorem dSx_shares_43 : decode prog_1_method_26_code 43 = .ok (.iload_n 2, 1) := by decide +kernel
theorem dSx_shares_44 : decode prog_1_method_26_code 44 = .ok (.if_icmp .gt 56, 3) := by decide +kernel
theorem dSx_shares_47 : decode prog_1_method_26_code 47 = .ok (.aload_n 0, 1) := by decide +kernel
theorem dSx_shares_48 : decode prog_1_method_26_code 48 = .ok (.getfield 68, 3) := by decide +kernel
theorem dSx_shares_51 : decode prog_1_method_26_code 51 = .ok (.iload 6, 2) := by decide +kernel
theorem dSx_shares_53 : decode prog_1_method_26_code 53 = .ok (.iaload, 1) := by decide +kernel
theorem dSx_shares_54 : decode prog_1_method_26_code 54 = .ok (.aload_n 0, 1) := by decide +kernel
theorem dSx_shares_55 : decode prog_1_method_26_code 55 = .ok (.getfield 68, 3) := by decide +kernel
theorem dSx_shares_58 : decode prog_1_method_26_code 58 = .ok (.iload_n 2, 1) := by decide +kernel
theorem dSx_shares_59 : decode prog_1_method_26_code 59 = .ok (.iload 6, 2) := by decide +kernel
theorem dSx_shares_61 : decode prog_1_method_26_code 61 = .ok (.isub, 1) := by decide +kernel
theorem dSx_shares_62 : decode prog_1_method_26_code 62 = .ok (.iaload, 1) := by decide +kernel
theorem dSx_shares_63 : decode prog_1_method_26_code 63 = .ok (.isub, 1) := by decide +kernel
theorem dSx_shares_64 : decode prog_1_method_26_code 64 = .ok (.invokestatic 138, 3) := by decide +kernel
theorem dSx_shares_67 : decode prog_1_method_26_code 67 = .ok (.istore 7, 2) := by decide +kernel
theorem dSx_shares_69 : decode prog_1_method_26_code 69 = .ok (.iload 7, 2) := by decide +kernel
theorem dSx_shares_71 : decode prog_1_method_26_code 71 = .ok (.iload_n 3, 1) := by decide +kernel
theorem dSx_shares_72 : decode prog_1_method_26_code 72 = .ok (.if_icmp .ge 13, 3) := by decide +kernel
theorem dSx_shares_75 : decode prog_1_method_26_code 75 = .ok (.iload 7, 2) := by decide +kernel
theorem dSx_shares_77 : decode prog_1_method_26_code 77 = .ok (.istore_n 3, 1) := by decide +kernel
theorem dSx_shares_78 : decode prog_1_method_26_code 78 = .ok (.iload 6, 2) := by decide +kernel
theorem dSx_shares_80 : decode prog_1_method_26_code 80 = .ok (.istore 4, 2) := by decide +kernel
theorem dSx_shares_82 : decode prog_1_method_26_code 82 = .ok (.iconst 0, 1) := by decide +kernel
theorem dSx_shares_83 : decode prog_1_method_26_code 83 = .ok (.istore 5, 2) := by decide +kernel
theorem dSx_shares_85 : decode prog_1_method_26_code 85 = .ok (.iload 7, 2) := by decide +kernel
theorem dSx_shares_87 : decode prog_1_method_26_code 87 = .ok (.iload_n 3, 1) := by decide +kernel
theorem dSx_shares_88 : decode prog_1_method_26_code 88 = .ok (.if_icmp .ne 6, 3) := by decide +kernel
theorem dSx_shares_91 : decode prog_1_method_26_code 91 = .ok (.iinc 5 1, 3) := by decide +kernel
theorem dSx_shares_94 : decode prog_1_method_26_code 94 = .ok (.iinc 6 2, 3) := by decide +kernel
theorem dSx_shares_97 : decode prog_1_method_26_code 97 = .ok (.goto (-56), 3) := by decide +kernel
theorem dSx_shares_100 : decode prog_1_method_26_code 100 = .ok (.iload_n 1, 1) := by decide +kernel
theorem dSx_shares_101 : decode prog_1_method_26_code 101 = .ok (.tableswitch 35 0 2 #[27, 29, 32], 27) := by decide +kernel
theorem dSx_shares_128 : decode prog_1_method_26_code 128 = .ok (.iload_n 3, 1) := by decide +kernel
theorem dSx_shares_129 : decode prog_1_method_26_code 129 = .ok (.ireturn, 1) := by decide +kernel
theorem dSx_shares_130 : decode prog_1_method_26_code 130 = .ok (.iload 4, 2) := by decide +kernel
theorem dSx_shares_132 : decode prog_1_method_26_code 132 = .ok (.ireturn, 1) := by decide +kernel
theorem dSx_shares_133 : decode prog_1_method_26_code 133 = .ok (.iload 5, 2) := by decide +kernel
theorem dSx_shares_135 : decode prog_1_method_26_code 135 = .ok (.ireturn, 1) := by decide +kernel
theorem dSx_shares_136 : decode prog_1_method_26_code 136 = .ok (.iconst (-1), 1) := by decide +kernel
theorem dSx_shares_137 : decode prog_1_method_26_code 137 = .ok (.ireturn, 1) := by decide +kernel
theorem dSx_canBe_0 : decode prog_1_method_31_code 0 = .ok (.aload_n 0, 1) := by decide +kernel
theorem dSx_canBe_1 : decode prog_1_method_31_code 1 = .ok (.invokevirtual 260, 3) := by decide +kernel
theorem dSx_canBe_4 : decode prog_1_method_31_code 4 = .ok (.aload_n 0, 1) := by decide +kernel
theorem dSx_canBe_5 : decode prog_1_method_31_code 5 = .ok (.iconst 0, 1) := by decide +kernel
theorem dSx_canBe_6 : decode prog_1_method_31_code 6 = .ok (.iconst 0, 1) := by decide +kernel
theorem dSx_canBe_7 : decode prog_1_method_31_code 7 = .ok (.invokevirtual 296, 3) := by decide +kernel
theorem dSx_canBe_10 : decode prog_1_method_31_code 10 = .ok (.ifCond .eq 9, 3) := by decide +kernel
theorem dSx_canBe_13 : decode prog_1_method_31_code 13 = .ok (.sipush 16384, 3) := by decide +kernel
theorem dSx_canBe_16 : decode prog_1_method_31_code 16 = .ok (.goto 4, 3) := by decide +kernel
theorem dSx_canBe_19 : decode prog_1_method_31_code 19 = .ok (.iconst 0, 1) := by decide +kernel
theorem dSx_canBe_20 : decode prog_1_method_31_code 20 = .ok (.istore_n 1, 1) := by decide +kernel
theorem dSx_canBe_21 : decode prog_1_method_31_code 21 = .ok (.iconst 0, 1) := by decide +kernel
theorem dSx_canBe_22 : decode prog_1_method_31_code 22 = .ok (.istore_n 2, 1) := by decide +kernel
theorem dSx_canBe_23 : decode prog_1_method_31_code 23 = .ok (.iload_n 2, 1) := by decide +kernel
theorem dSx_canBe_24 : decode prog_1_method_31_code 24 = .ok (.aload_n 0, 1) := by decide +kernel
theorem dSx_canBe_25 : decode prog_1_method_31_code 25 = .ok (.getfield 12, 3) := by decide +kernel
theorem dSx_canBe_28 : decode prog_1_method_31_code 28 = .ok (.getfield 89, 3) := by decide +kernel
theorem dSx_canBe_31 : decode prog_1_method_31_code 31 = .ok (.if_icmp .ge 49, 3) := by decide +kernel
theorem dSx_canBe_34 : decode prog_1_method_31_code 34 = .ok (.aload_n 0, 1) := by decide +kernel
theorem dSx_canBe_35 : decode prog_1_method_31_code 35 = .ok (.iconst 1, 1) := by decide +kernel
theorem dSx_canBe_36 : decode prog_1_method_31_code 36 = .ok (.iload_n 2, 1) := by decide +kernel
theorem dSx_canBe_37 : decode prog_1_method_31_code 37 = .ok (.ishl, 1) := by decide +kernel
theorem dSx_canBe_38 : decode prog_1_method_31_code 38 = .ok (.iconst 1, 1) := by decide +kernel
theorem dSx_canBe_39 : decode prog_1_method_31_code 39 = .ok (.invokevirtual 296, 3) := by decide +kernel
theorem dSx_canBe_42 : decode prog_1_method_31_code 42 = .ok (.ifCond .eq 11, 3) := by decide +kernel
theorem dSx_canBe_45 : decode prog_1_method_31_code 45 = .ok (.iload_n 1, 1) := by decide +kernel
theorem dSx_canBe_46 : decode prog_1_method_31_code 46 = .ok (.iconst 1, 1) := by decide +kernel
theorem dSx_canBe_47 : decode prog_1_method_31_code 47 = .ok (.iconst 2, 1) := by decide +kernel
theorem dSx_canBe_48 : decode prog_1_method_31_code 48 = .ok (.iload_n 2, 1) := by decide +kernel
theorem dSx_canBe_49 : decode prog_1_method_31_code 49 = .ok (.imul, 1) := by decide +kernel
theorem dSx_canBe_50 : decode prog_1_method_31_code 50 = .ok (.ishl, 1) := by decide +kernel
theorem dSx_canBe_51 : decode prog_1_method_31_code 51 = .ok (.ior, 1) := by decide +kernel
theorem dSx_canBe_52 : decode prog_1_method_31_code 52 = .ok (.istore_n 1, 1) := by decide +kernel
theorem dSx_canBe_53 : decode prog_1_method_31_code 53 = .ok (.aload_n 0, 1) := by decide +kernel
theorem dSx_canBe_54 : decode prog_1_method_31_code 54 = .ok (.iconst 1, 1) := by decide +kernel
theorem dSx_canBe_55 : decode prog_1_method_31_code 55 = .ok (.iload_n 2, 1) := by decide +kernel
theorem dSx_canBe_56 : decode prog_1_method_31_code 56 = .ok (.ishl, 1) := by decide +kernel
theorem dSx_canBe_57 : decode prog_1_method_31_code 57 = .ok (.iconst (-1), 1) := by decide +kernel
theorem dSx_canBe_58 : decode prog_1_method_31_code 58 = .ok (.invokevirtual 296, 3) := by decide +kernel
theorem dSx_canBe_61 : decode prog_1_method_31_code 61 = .ok (.ifCond .eq 13, 3) := by decide +kernel
theorem dSx_canBe_64 : decode prog_1_method_31_code 64 = .ok (.iload_n 1, 1) := by decide +kernel
theorem dSx_canBe_65 : decode prog_1_method_31_code 65 = .ok (.iconst 1, 1) := by decide +kernel
theorem dSx_canBe_66 : decode prog_1_method_31_code 66 = .ok (.iconst 2, 1) := by decide +kernel
theorem dSx_canBe_67 : decode prog_1_method_31_code 67 = .ok (.iload_n 2, 1) := by decide +kernel
theorem dSx_canBe_68 : decode prog_1_method_31_code 68 = .ok (.imul, 1) := by decide +kernel
theorem dSx_canBe_69 : decode prog_1_method_31_code 69 = .ok (.iconst 1, 1) := by decide +kernel
theorem dSx_canBe_70 : decode prog_1_method_31_code 70 = .ok (.iadd, 1) := by decide +kernel
theorem dSx_canBe_71 : decode prog_1_method_31_code 71 = .ok (.ishl, 1) := by decide +kernel
theorem dSx_canBe_72 : decode prog_1_method_31_code 72 = .ok (.ior, 1) := by decide +kernel
theorem dSx_canBe_73 : decode prog_1_method_31_code 73 = .ok (.istore_n 1, 1) := by decide +kernel
theorem dSx_canBe_74 : decode prog_1_method_31_code 74 = .ok (.iinc 2 1, 3) := by decide +kernel
theorem dSx_canBe_77 : decode prog_1_method_31_code 77 = .ok (.goto (-54), 3) := by decide +kernel
theorem dSx_canBe_80 : decode prog_1_method_31_code 80 = .ok (.iload_n 1, 1) := by decide +kernel
theorem dSx_canBe_81 : decode prog_1_method_31_code 81 = .ok (.ireturn, 1) := by decide +kernel
theorem dSx_weigh_0 : decode prog_1_method_32_code 0 = .ok (.aload_n 0, 1) := by decide +kernel
theorem dSx_weigh_1 : decode prog_1_method_32_code 1 = .ok (.invokevirtual 299, 3) := by decide +kernel
theorem dSx_weigh_4 : decode prog_1_method_32_code 4 = .ok (.istore_n 2, 1) := by decide +kernel
theorem dSx_weigh_5 : decode prog_1_method_32_code 5 = .ok (.iload_n 2, 1) := by decide +kernel
theorem dSx_weigh_6 : decode prog_1_method_32_code 6 = .ok (.ifCond .ne 5, 3) := by decide +kernel
theorem dSx_weigh_9 : decode prog_1_method_32_code 9 = .ok (.iconst (-1), 1) := by decide +kernel
theorem dSx_weigh_10 : decode prog_1_method_32_code 10 = .ok (.ireturn, 1) := by decide +kernel
theorem dSx_weigh_11 : decode prog_1_method_32_code 11 = .ok (.aload_n 0, 1) := by decide +kernel
theorem dSx_weigh_12 : decode prog_1_method_32_code 12 = .ok (.iload_n 2, 1) := by decide +kernel
theorem dSx_weigh_13 : decode prog_1_method_32_code 13 = .ok (.invokevirtual 302, 3) := by decide +kernel
theorem dSx_weigh_16 : decode prog_1_method_32_code 16 = .ok (.istore_n 3, 1) := by decide +kernel
theorem dSx_weigh_17 : decode prog_1_method_32_code 17 = .ok (.iload_n 1, 1) := by decide +kernel
theorem dSx_weigh_18 : decode prog_1_method_32_code 18 = .ok (.tableswitch 52 0 2 #[26, 36, 42], 26) := by decide +kernel
theorem dSx_weigh_44 : decode prog_1_method_32_code 44 = .ok (.iload_n 3, 1) := by decide +kernel
theorem dSx_weigh_45 : decode prog_1_method_32_code 45 = .ok (.sipush 128, 3) := by decide +kernel
theorem dSx_weigh_48 : decode prog_1_method_32_code 48 = .ok (.idiv, 1) := by decide +kernel
theorem dSx_weigh_49 : decode prog_1_method_32_code 49 = .ok (.sipush 128, 3) := by decide +kernel
theorem dSx_weigh_52 : decode prog_1_method_32_code 52 = .ok (.irem, 1) := by decide +kernel
theorem dSx_weigh_53 : decode prog_1_method_32_code 53 = .ok (.ireturn, 1) := by decide +kernel
theorem dSx_weigh_54 : decode prog_1_method_32_code 54 = .ok (.iload_n 3, 1) := by decide +kernel
theorem dSx_weigh_55 : decode prog_1_method_32_code 55 = .ok (.sipush 128, 3) := by decide +kernel
theorem dSx_weigh_58 : decode prog_1_method_32_code 58 = .ok (.irem, 1) := by decide +kernel
theorem dSx_weigh_59 : decode prog_1_method_32_code 59 = .ok (.ireturn, 1) := by decide +kernel
theorem dSx_weigh_60 : decode prog_1_method_32_code 60 = .ok (.iload_n 3, 1) := by decide +kernel
theorem dSx_weigh_61 : decode prog_1_method_32_code 61 = .ok (.sipush 128, 3) := by decide +kernel
theorem dSx_weigh_64 : decode prog_1_method_32_code 64 = .ok (.idiv, 1) := by decide +kernel
theorem dSx_weigh_65 : decode prog_1_method_32_code 65 = .ok (.sipush 128, 3) := by decide +kernel
theorem dSx_weigh_68 : decode prog_1_method_32_code 68 = .ok (.idiv, 1) := by decide +kernel
theorem dSx_weigh_69 : decode prog_1_method_32_code 69 = .ok (.ireturn, 1) := by decide +kernel
theorem dSx_weigh_70 : decode prog_1_method_32_code 70 = .ok (.iconst (-1), 1) := by decide +kernel
theorem dSx_weigh_71 : decode prog_1_method_32_code 71 = .ok (.ireturn, 1) := by decide +kernel
theorem dSx_canPut_0 : decode prog_1_method_51_code 0 = .ok (.aload_n 1, 1) := by decide +kernel
theorem dSx_canPut_1 : decode prog_1_method_51_code 1 = .ok (.getfield 106, 3) := by decide +kernel
theorem dSx_canPut_4 : decode prog_1_method_51_code 4 = .ok (.iload_n 2, 1) := by decide +kernel
theorem dSx_canPut_5 : decode prog_1_method_51_code 5 = .ok (.iaload, 1) := by decide +kernel
theorem dSx_canPut_6 : decode prog_1_method_51_code 6 = .ok (.iload_n 3, 1) := by decide +kernel
theorem dSx_canPut_7 : decode prog_1_method_51_code 7 = .ok (.if_icmp .eq 20, 3) := by decide +kernel
theorem dSx_canPut_10 : decode prog_1_method_51_code 10 = .ok (.aload_n 0, 1) := by decide +kernel
theorem dSx_canPut_11 : decode prog_1_method_51_code 11 = .ok (.getfield 46, 3) := by decide +kernel
theorem dSx_canPut_14 : decode prog_1_method_51_code 14 = .ok (.aload_n 1, 1) := by decide +kernel
theorem dSx_canPut_15 : decode prog_1_method_51_code 15 = .ok (.iload_n 2, 1) := by decide +kernel
theorem dSx_canPut_16 : decode prog_1_method_51_code 16 = .ok (.iload_n 3, 1) := by decide +kernel
theorem dSx_canPut_17 : decode prog_1_method_51_code 17 = .ok (.invokevirtual 128, 3) := by decide +kernel
theorem dSx_canPut_20 : decode prog_1_method_51_code 20 = .ok (.ifCond .ne 7, 3) := by decide +kernel
theorem dSx_canPut_23 : decode prog_1_method_51_code 23 = .ok (.iconst 1, 1) := by decide +kernel
theorem dSx_canPut_24 : decode prog_1_method_51_code 24 = .ok (.goto 4, 3) := by decide +kernel
theorem dSx_canPut_27 : decode prog_1_method_51_code 27 = .ok (.iconst 0, 1) := by decide +kernel
theorem dSx_canPut_28 : decode prog_1_method_51_code 28 = .ok (.ireturn, 1) := by decide +kernel
theorem dSx_canExchange_0 : decode prog_1_method_59_code 0 = .ok (.aload_n 0, 1) := by decide +kernel
theorem dSx_canExchange_1 : decode prog_1_method_59_code 1 = .ok (.getfield 12, 3) := by decide +kernel
theorem dSx_canExchange_4 : decode prog_1_method_59_code 4 = .ok (.iload_n 1, 1) := by decide +kernel
theorem dSx_canExchange_5 : decode prog_1_method_59_code 5 = .ok (.invokevirtual 115, 3) := by decide +kernel
theorem dSx_canExchange_8 : decode prog_1_method_59_code 8 = .ok (.ifCond .eq 66, 3) := by decide +kernel
theorem dSx_canExchange_11 : decode prog_1_method_59_code 11 = .ok (.aload_n 0, 1) := by decide +kernel
theorem dSx_canExchange_12 : decode prog_1_method_59_code 12 = .ok (.getfield 12, 3) := by decide +kernel
theorem dSx_canExchange_15 : decode prog_1_method_59_code 15 = .ok (.iload_n 2, 1) := by decide +kernel
theorem dSx_canExchange_16 : decode prog_1_method_59_code 16 = .ok (.invokevirtual 115, 3) := by decide +kernel
theorem dSx_canExchange_19 : decode prog_1_method_59_code 19 = .ok (.ifCond .eq 55, 3) := by decide +kernel
theorem dSx_canExchange_22 : decode prog_1_method_59_code 22 = .ok (.aload_n 0, 1) := by decide +kernel
theorem dSx_canExchange_23 : decode prog_1_method_59_code 23 = .ok (.getfield 46, 3) := by decide +kernel
theorem dSx_canExchange_26 : decode prog_1_method_59_code 26 = .ok (.aload_n 0, 1) := by decide +kernel
theorem dSx_canExchange_27 : decode prog_1_method_59_code 27 = .ok (.getfield 12, 3) := by decide +kernel
theorem dSx_canExchange_30 : decode prog_1_method_59_code 30 = .ok (.iload_n 1, 1) := by decide +kernel
theorem dSx_canExchange_31 : decode prog_1_method_59_code 31 = .ok (.aload_n 0, 1) := by decide +kernel
theorem dSx_canExchange_32 : decode prog_1_method_59_code 32 = .ok (.getfield 12, 3) := by decide +kernel
theorem dSx_canExchange_35 : decode prog_1_method_59_code 35 = .ok (.getfield 106, 3) := by decide +kernel
theorem dSx_canExchange_38 : decode prog_1_method_59_code 38 = .ok (.iload_n 2, 1) := by decide +kernel
theorem dSx_canExchange_39 : decode prog_1_method_59_code 39 = .ok (.iaload, 1) := by decide +kernel
theorem dSx_canExchange_40 : decode prog_1_method_59_code 40 = .ok (.invokevirtual 128, 3) := by decide +kernel
theorem dSx_canExchange_43 : decode prog_1_method_59_code 43 = .ok (.ifCond .ne 31, 3) := by decide +kernel
theorem dSx_canExchange_46 : decode prog_1_method_59_code 46 = .ok (.aload_n 0, 1) := by decide +kernel
theorem dSx_canExchange_47 : decode prog_1_method_59_code 47 = .ok (.getfield 46, 3) := by decide +kernel
theorem dSx_canExchange_50 : decode prog_1_method_59_code 50 = .ok (.aload_n 0, 1) := by decide +kernel
theorem dSx_canExchange_51 : decode prog_1_method_59_code 51 = .ok (.getfield 12, 3) := by decide +kernel
theorem dSx_canExchange_54 : decode prog_1_method_59_code 54 = .ok (.iload_n 2, 1) := by decide +kernel
theorem dSx_canExchange_55 : decode prog_1_method_59_code 55 = .ok (.aload_n 0, 1) := by decide +kernel
theorem dSx_canExchange_56 : decode prog_1_method_59_code 56 = .ok (.getfield 12, 3) := by decide +kernel
theorem dSx_canExchange_59 : decode prog_1_method_59_code 59 = .ok (.getfield 106, 3) := by decide +kernel
theorem dSx_canExchange_62 : decode prog_1_method_59_code 62 = .ok (.iload_n 1, 1) := by decide +kernel
theorem dSx_canExchange_63 : decode prog_1_method_59_code 63 = .ok (.iaload, 1) := by decide +kernel
theorem dSx_canExchange_64 : decode prog_1_method_59_code 64 = .ok (.invokevirtual 128, 3) := by decide +kernel
theorem dSx_canExchange_67 : decode prog_1_method_59_code 67 = .ok (.ifCond .ne 7, 3) := by decide +kernel
theorem dSx_canExchange_70 : decode prog_1_method_59_code 70 = .ok (.iconst 1, 1) := by decide +kernel
theorem dSx_canExchange_71 : decode prog_1_method_59_code 71 = .ok (.goto 4, 3) := by decide +kernel
theorem dSx_canExchange_74 : decode prog_1_method_59_code 74 = .ok (.iconst 0, 1) := by decide +kernel
theorem dSx_canExchange_75 : decode prog_1_method_59_code 75 = .ok (.ireturn, 1) := by decide +kernel
theorem dSx_drawOnPaper_0 : decode prog_1_method_74_code 0 = .ok (.iload_n 3, 1) := by decide +kernel
theorem dSx_drawOnPaper_1 : decode prog_1_method_74_code 1 = .ok (.iconst 2, 1) := by decide +kernel
theorem dSx_drawOnPaper_2 : decode prog_1_method_74_code 2 = .ok (.if_icmp .ne 16, 3) := by decide +kernel
theorem dSx_drawOnPaper_5 : decode prog_1_method_74_code 5 = .ok (.aload_n 0, 1) := by decide +kernel
theorem dSx_drawOnPaper_6 : decode prog_1_method_74_code 6 = .ok (.getfield 19, 3) := by decide +kernel
theorem dSx_drawOnPaper_9 : decode prog_1_method_74_code 9 = .ok (.getfield 106, 3) := by decide +kernel
theorem dSx_drawOnPaper_12 : decode prog_1_method_74_code 12 = .ok (.iload_n 1, 1) := by decide +kernel
theorem dSx_drawOnPaper_13 : decode prog_1_method_74_code 13 = .ok (.iconst (-1), 1) := by decide +kernel
theorem dSx_drawOnPaper_14 : decode prog_1_method_74_code 14 = .ok (.iastore, 1) := by decide +kernel
theorem dSx_drawOnPaper_15 : decode prog_1_method_74_code 15 = .ok (.goto 26, 3) := by decide +kernel
theorem dSx_drawOnPaper_18 : decode prog_1_method_74_code 18 = .ok (.aload_n 0, 1) := by decide +kernel
theorem dSx_drawOnPaper_19 : decode prog_1_method_74_code 19 = .ok (.aload_n 0, 1) := by decide +kernel
theorem dSx_drawOnPaper_20 : decode prog_1_method_74_code 20 = .ok (.getfield 19, 3) := by decide +kernel
theorem dSx_drawOnPaper_23 : decode prog_1_method_74_code 23 = .ok (.iload_n 1, 1) := by decide +kernel
theorem dSx_drawOnPaper_24 : decode prog_1_method_74_code 24 = .ok (.iload_n 2, 1) := by decide +kernel
theorem dSx_drawOnPaper_25 : decode prog_1_method_74_code 25 = .ok (.invokevirtual 339, 3) := by decide +kernel
theorem dSx_drawOnPaper_28 : decode prog_1_method_74_code 28 = .ok (.ifCond .eq 13, 3) := by decide +kernel
theorem dSx_drawOnPaper_31 : decode prog_1_method_74_code 31 = .ok (.aload_n 0, 1) := by decide +kernel
theorem dSx_drawOnPaper_32 : decode prog_1_method_74_code 32 = .ok (.getfield 19, 3) := by decide +kernel
theorem dSx_drawOnPaper_35 : decode prog_1_method_74_code 35 = .ok (.getfield 106, 3) := by decide +kernel
theorem dSx_drawOnPaper_38 : decode prog_1_method_74_code 38 = .ok (.iload_n 1, 1) := by decide +kernel
theorem dSx_drawOnPaper_39 : decode prog_1_method_74_code 39 = .ok (.iload_n 2, 1) := by decide +kernel
theorem dSx_drawOnPaper_40 : decode prog_1_method_74_code 40 = .ok (.iastore, 1) := by decide +kernel
theorem dSx_drawOnPaper_41 : decode prog_1_method_74_code 41 = .ok (.return_, 1) := by decide +kernel
