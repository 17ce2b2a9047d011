theorem dRe_readBoth_0 : decode prog_5_method_19_code 0 = .ok (.aload_n 0, 1) := by decide +kernel
theorem dRe_readBoth_1 : decode prog_5_method_19_code 1 = .ok (.invokevirtual 166, 3) := by decide +kernel
theorem dRe_readBoth_4 : decode prog_5_method_19_code 4 = .ok (.iconst 0, 1) := by decide +kernel
theorem dRe_readBoth_5 : decode prog_5_method_19_code 5 = .ok (.istore_n 1, 1) := by decide +kernel
theorem dRe_readBoth_6 : decode prog_5_method_19_code 6 = .ok (.iload_n 1, 1) := by decide +kernel
theorem dRe_readBoth_7 : decode prog_5_method_19_code 7 = .ok (.sipush 400, 3) := by decide +kernel
theorem dRe_readBoth_10 : decode prog_5_method_19_code 10 = .ok (.if_icmp .ge 42, 3) := by decide +kernel
theorem dRe_readBoth_13 : decode prog_5_method_19_code 13 = .ok (.aload_n 0, 1) := by decide +kernel
theorem dRe_readBoth_14 : decode prog_5_method_19_code 14 = .ok (.ldc 169, 2) := by decide +kernel
theorem dRe_readBoth_16 : decode prog_5_method_19_code 16 = .ok (.invokevirtual 67, 3) := by decide +kernel
theorem dRe_readBoth_19 : decode prog_5_method_19_code 19 = .ok (.ifCond .eq 33, 3) := by decide +kernel
theorem dRe_readBoth_22 : decode prog_5_method_19_code 22 = .ok (.aload_n 0, 1) := by decide +kernel
theorem dRe_readBoth_23 : decode prog_5_method_19_code 23 = .ok (.getfield 20, 3) := by decide +kernel
theorem dRe_readBoth_26 : decode prog_5_method_19_code 26 = .ok (.getfield 44, 3) := by decide +kernel
theorem dRe_readBoth_29 : decode prog_5_method_19_code 29 = .ok (.istore_n 2, 1) := by decide +kernel
theorem dRe_readBoth_30 : decode prog_5_method_19_code 30 = .ok (.aload_n 0, 1) := by decide +kernel
theorem dRe_readBoth_31 : decode prog_5_method_19_code 31 = .ok (.iconst 5, 1) := by decide +kernel
theorem dRe_readBoth_32 : decode prog_5_method_19_code 32 = .ok (.iconst 0, 1) := by decide +kernel
theorem dRe_readBoth_33 : decode prog_5_method_19_code 33 = .ok (.invokevirtual 146, 3) := by decide +kernel
theorem dRe_readBoth_36 : decode prog_5_method_19_code 36 = .ok (.aload_n 0, 1) := by decide +kernel
theorem dRe_readBoth_37 : decode prog_5_method_19_code 37 = .ok (.invokevirtual 166, 3) := by decide +kernel
theorem dRe_readBoth_40 : decode prog_5_method_19_code 40 = .ok (.aload_n 0, 1) := by decide +kernel
theorem dRe_readBoth_41 : decode prog_5_method_19_code 41 = .ok (.iload_n 2, 1) := by decide +kernel
theorem dRe_readBoth_42 : decode prog_5_method_19_code 42 = .ok (.iconst 5, 1) := by decide +kernel
theorem dRe_readBoth_43 : decode prog_5_method_19_code 43 = .ok (.invokevirtual 163, 3) := by decide +kernel
theorem dRe_readBoth_46 : decode prog_5_method_19_code 46 = .ok (.iinc 1 1, 3) := by decide +kernel
theorem dRe_readBoth_49 : decode prog_5_method_19_code 49 = .ok (.goto (-43), 3) := by decide +kernel
theorem dRe_readBoth_52 : decode prog_5_method_19_code 52 = .ok (.return_, 1) := by decide +kernel
theorem dRe_readTest_0 : decode prog_5_method_18_code 0 = .ok (.aload_n 0, 1) := by decide +kernel
theorem dRe_readTest_1 : decode prog_5_method_18_code 1 = .ok (.invokevirtual 158, 3) := by decide +kernel
theorem dRe_readTest_4 : decode prog_5_method_18_code 4 = .ok (.iconst 0, 1) := by decide +kernel
theorem dRe_readTest_5 : decode prog_5_method_18_code 5 = .ok (.istore_n 1, 1) := by decide +kernel
theorem dRe_readTest_6 : decode prog_5_method_18_code 6 = .ok (.iload_n 1, 1) := by decide +kernel
theorem dRe_readTest_7 : decode prog_5_method_18_code 7 = .ok (.sipush 400, 3) := by decide +kernel
theorem dRe_readTest_10 : decode prog_5_method_18_code 10 = .ok (.if_icmp .ge 42, 3) := by decide +kernel
theorem dRe_readTest_13 : decode prog_5_method_18_code 13 = .ok (.aload_n 0, 1) := by decide +kernel
theorem dRe_readTest_14 : decode prog_5_method_18_code 14 = .ok (.ldc 161, 2) := by decide +kernel
theorem dRe_readTest_16 : decode prog_5_method_18_code 16 = .ok (.invokevirtual 67, 3) := by decide +kernel
theorem dRe_readTest_19 : decode prog_5_method_18_code 19 = .ok (.ifCond .eq 33, 3) := by decide +kernel
theorem dRe_readTest_22 : decode prog_5_method_18_code 22 = .ok (.aload_n 0, 1) := by decide +kernel
theorem dRe_readTest_23 : decode prog_5_method_18_code 23 = .ok (.getfield 20, 3) := by decide +kernel
theorem dRe_readTest_26 : decode prog_5_method_18_code 26 = .ok (.getfield 44, 3) := by decide +kernel
theorem dRe_readTest_29 : decode prog_5_method_18_code 29 = .ok (.istore_n 2, 1) := by decide +kernel
theorem dRe_readTest_30 : decode prog_5_method_18_code 30 = .ok (.aload_n 0, 1) := by decide +kernel
theorem dRe_readTest_31 : decode prog_5_method_18_code 31 = .ok (.iconst 4, 1) := by decide +kernel
theorem dRe_readTest_32 : decode prog_5_method_18_code 32 = .ok (.iconst 0, 1) := by decide +kernel
theorem dRe_readTest_33 : decode prog_5_method_18_code 33 = .ok (.invokevirtual 146, 3) := by decide +kernel
theorem dRe_readTest_36 : decode prog_5_method_18_code 36 = .ok (.aload_n 0, 1) := by decide +kernel
theorem dRe_readTest_37 : decode prog_5_method_18_code 37 = .ok (.invokevirtual 158, 3) := by decide +kernel
theorem dRe_readTest_40 : decode prog_5_method_18_code 40 = .ok (.aload_n 0, 1) := by decide +kernel
theorem dRe_readTest_41 : decode prog_5_method_18_code 41 = .ok (.iload_n 2, 1) := by decide +kernel
theorem dRe_readTest_42 : decode prog_5_method_18_code 42 = .ok (.iconst 4, 1) := by decide +kernel
theorem dRe_readTest_43 : decode prog_5_method_18_code 43 = .ok (.invokevirtual 163, 3) := by decide +kernel
theorem dRe_readTest_46 : decode prog_5_method_18_code 46 = .ok (.iinc 1 1, 3) := by decide +kernel
theorem dRe_readTest_49 : decode prog_5_method_18_code 49 = .ok (.goto (-43), 3) := by decide +kernel
theorem dRe_readTest_52 : decode prog_5_method_18_code 52 = .ok (.return_, 1) := by decide +kernel
theorem dRe_readIf_0 : decode prog_5_method_17_code 0 = .ok (.aload_n 0, 1) := by decide +kernel
theorem dRe_readIf_1 : decode prog_5_method_17_code 1 = .ok (.getfield 20, 3) := by decide +kernel
theorem dRe_readIf_4 : decode prog_5_method_17_code 4 = .ok (.getfield 150, 3) := by decide +kernel
theorem dRe_readIf_7 : decode prog_5_method_17_code 7 = .ok (.iload_n 1, 1) := by decide +kernel
theorem dRe_readIf_8 : decode prog_5_method_17_code 8 = .ok (.iconst (-1), 1) := by decide +kernel
theorem dRe_readIf_9 : decode prog_5_method_17_code 9 = .ok (.iastore, 1) := by decide +kernel
theorem dRe_readIf_10 : decode prog_5_method_17_code 10 = .ok (.aload_n 0, 1) := by decide +kernel
theorem dRe_readIf_11 : decode prog_5_method_17_code 11 = .ok (.ldc 153, 2) := by decide +kernel
theorem dRe_readIf_13 : decode prog_5_method_17_code 13 = .ok (.invokevirtual 67, 3) := by decide +kernel
theorem dRe_readIf_16 : decode prog_5_method_17_code 16 = .ok (.ifCond .eq 29, 3) := by decide +kernel
theorem dRe_readIf_19 : decode prog_5_method_17_code 19 = .ok (.aload_n 0, 1) := by decide +kernel
theorem dRe_readIf_20 : decode prog_5_method_17_code 20 = .ok (.getfield 20, 3) := by decide +kernel
theorem dRe_readIf_23 : decode prog_5_method_17_code 23 = .ok (.getfield 150, 3) := by decide +kernel
theorem dRe_readIf_26 : decode prog_5_method_17_code 26 = .ok (.iload_n 1, 1) := by decide +kernel
theorem dRe_readIf_27 : decode prog_5_method_17_code 27 = .ok (.aload_n 0, 1) := by decide +kernel
theorem dRe_readIf_28 : decode prog_5_method_17_code 28 = .ok (.getfield 20, 3) := by decide +kernel
theorem dRe_readIf_31 : decode prog_5_method_17_code 31 = .ok (.getfield 44, 3) := by decide +kernel
theorem dRe_readIf_34 : decode prog_5_method_17_code 34 = .ok (.iastore, 1) := by decide +kernel
theorem dRe_readIf_35 : decode prog_5_method_17_code 35 = .ok (.aload_n 0, 1) := by decide +kernel
theorem dRe_readIf_36 : decode prog_5_method_17_code 36 = .ok (.invokevirtual 155, 3) := by decide +kernel
theorem dRe_readIf_39 : decode prog_5_method_17_code 39 = .ok (.aload_n 0, 1) := by decide +kernel
theorem dRe_readIf_40 : decode prog_5_method_17_code 40 = .ok (.iconst 0, 1) := by decide +kernel
theorem dRe_readIf_41 : decode prog_5_method_17_code 41 = .ok (.iconst 0, 1) := by decide +kernel
theorem dRe_readIf_42 : decode prog_5_method_17_code 42 = .ok (.invokevirtual 146, 3) := by decide +kernel
theorem dRe_readIf_45 : decode prog_5_method_17_code 45 = .ok (.return_, 1) := by decide +kernel
theorem dRe_reads_0 : decode prog_5_method_3_code 0 = .ok (.aload_n 0, 1) := by decide +kernel
theorem dRe_reads_1 : decode prog_5_method_3_code 1 = .ok (.iload_n 1, 1) := by decide +kernel
theorem dRe_reads_2 : decode prog_5_method_3_code 2 = .ok (.putfield 31, 3) := by decide +kernel
theorem dRe_reads_5 : decode prog_5_method_3_code 5 = .ok (.aload_n 0, 1) := by decide +kernel
theorem dRe_reads_6 : decode prog_5_method_3_code 6 = .ok (.iconst (-1), 1) := by decide +kernel
theorem dRe_reads_7 : decode prog_5_method_3_code 7 = .ok (.putfield 24, 3) := by decide +kernel
theorem dRe_reads_10 : decode prog_5_method_3_code 10 = .ok (.aload_n 0, 1) := by decide +kernel
theorem dRe_reads_11 : decode prog_5_method_3_code 11 = .ok (.iconst 0, 1) := by decide +kernel
theorem dRe_reads_12 : decode prog_5_method_3_code 12 = .ok (.putfield 35, 3) := by decide +kernel
theorem dRe_reads_15 : decode prog_5_method_3_code 15 = .ok (.aload_n 0, 1) := by decide +kernel
theorem dRe_reads_16 : decode prog_5_method_3_code 16 = .ok (.iconst 0, 1) := by decide +kernel
theorem dRe_reads_17 : decode prog_5_method_3_code 17 = .ok (.putfield 38, 3) := by decide +kernel
theorem dRe_reads_20 : decode prog_5_method_3_code 20 = .ok (.aload_n 0, 1) := by decide +kernel
theorem dRe_reads_21 : decode prog_5_method_3_code 21 = .ok (.iconst 0, 1) := by decide +kernel
theorem dRe_reads_22 : decode prog_5_method_3_code 22 = .ok (.putfield 41, 3) := by decide +kernel
theorem dRe_reads_25 : decode prog_5_method_3_code 25 = .ok (.aload_n 0, 1) := by decide +kernel
theorem dRe_reads_26 : decode prog_5_method_3_code 26 = .ok (.getfield 20, 3) := by decide +kernel
theorem dRe_reads_29 : decode prog_5_method_3_code 29 = .ok (.iconst 0, 1) := by decide +kernel
theorem dRe_reads_30 : decode prog_5_method_3_code 30 = .ok (.putfield 44, 3) := by decide +kernel
theorem dRe_reads_33 : decode prog_5_method_3_code 33 = .ok (.aload_n 0, 1) := by decide +kernel
theorem dRe_reads_34 : decode prog_5_method_3_code 34 = .ok (.invokevirtual 47, 3) := by decide +kernel
theorem dRe_reads_37 : decode prog_5_method_3_code 37 = .ok (.iconst 1, 1) := by decide +kernel
theorem dRe_reads_38 : decode prog_5_method_3_code 38 = .ok (.istore_n 2, 1) := by decide +kernel
theorem dRe_reads_39 : decode prog_5_method_3_code 39 = .ok (.iconst 0, 1) := by decide +kernel
theorem dRe_reads_40 : decode prog_5_method_3_code 40 = .ok (.istore_n 3, 1) := by decide +kernel
theorem dRe_reads_41 : decode prog_5_method_3_code 41 = .ok (.iload_n 3, 1) := by decide +kernel
theorem dRe_reads_42 : decode prog_5_method_3_code 42 = .ok (.bipush 12, 2) := by decide +kernel
theorem dRe_reads_44 : decode prog_5_method_3_code 44 = .ok (.if_icmp .ge 65, 3) := by decide +kernel
theorem dRe_reads_47 : decode prog_5_method_3_code 47 = .ok (.iload_n 2, 1) := by decide +kernel
theorem dRe_reads_48 : decode prog_5_method_3_code 48 = .ok (.ifCond .eq 61, 3) := by decide +kernel
theorem dRe_reads_51 : decode prog_5_method_3_code 51 = .ok (.aload_n 0, 1) := by decide +kernel
theorem dRe_reads_52 : decode prog_5_method_3_code 52 = .ok (.getfield 20, 3) := by decide +kernel
theorem dRe_reads_55 : decode prog_5_method_3_code 55 = .ok (.iload_n 3, 1) := by decide +kernel
theorem dRe_reads_56 : decode prog_5_method_3_code 56 = .ok (.iconst 1, 1) := by decide +kernel
theorem dRe_reads_57 : decode prog_5_method_3_code 57 = .ok (.iadd, 1) := by decide +kernel
theorem dRe_reads_58 : decode prog_5_method_3_code 58 = .ok (.putfield 50, 3) := by decide +kernel
theorem dRe_reads_61 : decode prog_5_method_3_code 61 = .ok (.aload_n 0, 1) := by decide +kernel
theorem dRe_reads_62 : decode prog_5_method_3_code 62 = .ok (.getfield 20, 3) := by decide +kernel
theorem dRe_reads_65 : decode prog_5_method_3_code 65 = .ok (.getfield 53, 3) := by decide +kernel
theorem dRe_reads_68 : decode prog_5_method_3_code 68 = .ok (.iload_n 3, 1) := by decide +kernel
theorem dRe_reads_69 : decode prog_5_method_3_code 69 = .ok (.iconst 1, 1) := by decide +kernel
theorem dRe_reads_70 : decode prog_5_method_3_code 70 = .ok (.iastore, 1) := by decide +kernel
theorem dRe_reads_71 : decode prog_5_method_3_code 71 = .ok (.aload_n 0, 1) := by decide +kernel
theorem dRe_reads_72 : decode prog_5_method_3_code 72 = .ok (.getfield 31, 3) := by decide +kernel
theorem dRe_reads_75 : decode prog_5_method_3_code 75 = .ok (.ifCond .eq 11, 3) := by decide +kernel
theorem dRe_reads_78 : decode prog_5_method_3_code 78 = .ok (.aload_n 0, 1) := by decide +kernel
theorem dRe_reads_79 : decode prog_5_method_3_code 79 = .ok (.iload_n 3, 1) := by decide +kernel
theorem dRe_reads_80 : decode prog_5_method_3_code 80 = .ok (.invokevirtual 56, 3) := by decide +kernel
theorem dRe_reads_83 : decode prog_5_method_3_code 83 = .ok (.goto 8, 3) := by decide +kernel
theorem dRe_reads_86 : decode prog_5_method_3_code 86 = .ok (.aload_n 0, 1) := by decide +kernel
theorem dRe_reads_87 : decode prog_5_method_3_code 87 = .ok (.iload_n 3, 1) := by decide +kernel
theorem dRe_reads_88 : decode prog_5_method_3_code 88 = .ok (.invokevirtual 59, 3) := by decide +kernel
theorem dRe_reads_91 : decode prog_5_method_3_code 91 = .ok (.aload_n 0, 1) := by decide +kernel
theorem dRe_reads_92 : decode prog_5_method_3_code 92 = .ok (.iload_n 3, 1) := by decide +kernel
theorem dRe_reads_93 : decode prog_5_method_3_code 93 = .ok (.invokevirtual 62, 3) := by decide +kernel
theorem dRe_reads_96 : decode prog_5_method_3_code 96 = .ok (.aload_n 0, 1) := by decide +kernel
theorem dRe_reads_97 : decode prog_5_method_3_code 97 = .ok (.ldc 65, 2) := by decide +kernel
theorem dRe_reads_99 : decode prog_5_method_3_code 99 = .ok (.invokevirtual 67, 3) := by decide +kernel
theorem dRe_reads_102 : decode prog_5_method_3_code 102 = .ok (.istore_n 2, 1) := by decide +kernel
theorem dRe_reads_103 : decode prog_5_method_3_code 103 = .ok (.iinc 3 1, 3) := by decide +kernel
theorem dRe_reads_106 : decode prog_5_method_3_code 106 = .ok (.goto (-65), 3) := by decide +kernel
theorem dRe_reads_109 : decode prog_5_method_3_code 109 = .ok (.iload_n 2, 1) := by decide +kernel
theorem dRe_reads_110 : decode prog_5_method_3_code 110 = .ok (.ifCond .ne 14, 3) := by decide +kernel
theorem dRe_reads_113 : decode prog_5_method_3_code 113 = .ok (.aload_n 0, 1) := by decide +kernel
theorem dRe_reads_114 : decode prog_5_method_3_code 114 = .ok (.getfield 71, 3) := by decide +kernel
theorem dRe_reads_117 : decode prog_5_method_3_code 117 = .ok (.aload_n 0, 1) := by decide +kernel
theorem dRe_reads_118 : decode prog_5_method_3_code 118 = .ok (.getfield 28, 3) := by decide +kernel
theorem dRe_reads_121 : decode prog_5_method_3_code 121 = .ok (.if_icmp .ge 7, 3) := by decide +kernel
theorem dRe_reads_124 : decode prog_5_method_3_code 124 = .ok (.aload_n 0, 1) := by decide +kernel
theorem dRe_reads_125 : decode prog_5_method_3_code 125 = .ok (.invokevirtual 74, 3) := by decide +kernel
theorem dRe_reads_128 : decode prog_5_method_3_code 128 = .ok (.aload_n 0, 1) := by decide +kernel
theorem dRe_reads_129 : decode prog_5_method_3_code 129 = .ok (.iconst 0, 1) := by decide +kernel
theorem dRe_reads_130 : decode prog_5_method_3_code 130 = .ok (.putfield 28, 3) := by decide +kernel
theorem dRe_reads_133 : decode prog_5_method_3_code 133 = .ok (.aload_n 0, 1) := by decide +kernel
theorem dRe_reads_134 : decode prog_5_method_3_code 134 = .ok (.getfield 24, 3) := by decide +kernel
theorem dRe_reads_137 : decode prog_5_method_3_code 137 = .ok (.iconst (-1), 1) := by decide +kernel
theorem dRe_reads_138 : decode prog_5_method_3_code 138 = .ok (.if_icmp .ne 7, 3) := by decide +kernel
theorem dRe_reads_141 : decode prog_5_method_3_code 141 = .ok (.iconst 1, 1) := by decide +kernel
theorem dRe_reads_142 : decode prog_5_method_3_code 142 = .ok (.goto 4, 3) := by decide +kernel
theorem dRe_reads_145 : decode prog_5_method_3_code 145 = .ok (.iconst 0, 1) := by decide +kernel
theorem dRe_reads_146 : decode prog_5_method_3_code 146 = .ok (.ireturn, 1) := by decide +kernel
theorem dSx_orders_0 : decode prog_1_method_12_code 0 = .ok (.aload_n 0, 1) := by decide +kernel
theorem dSx_orders_1 : decode prog_1_method_12_code 1 = .ok (.iconst (-1), 1) := by decide +kernel
theorem dSx_orders_2 : decode prog_1_method_12_code 2 = .ok (.putfield 77, 3) := by decide +kernel
theorem dSx_orders_5 : decode prog_1_method_12_code 5 = .ok (.aload_n 0, 1) := by decide +kernel
theorem dSx_orders_6 : decode prog_1_method_12_code 6 = .ok (.getfield 39, 3) := by decide +kernel
theorem dSx_orders_9 : decode prog_1_method_12_code 9 = .ok (.iconst 0, 1) := by decide +kernel
theorem dSx_orders_10 : decode prog_1_method_12_code 10 = .ok (.invokevirtual 172, 3) := by decide +kernel
theorem dSx_orders_13 : decode prog_1_method_12_code 13 = .ok (.ifCond .ne 10, 3) := by decide +kernel
theorem dSx_orders_16 : decode prog_1_method_12_code 16 = .ok (.aload_n 0, 1) := by decide +kernel
theorem dSx_orders_17 : decode prog_1_method_12_code 17 = .ok (.bipush (-6), 2) := by decide +kernel
theorem dSx_orders_19 : decode prog_1_method_12_code 19 = .ok (.invokevirtual 85, 3) := by decide +kernel
theorem dSx_orders_22 : decode prog_1_method_12_code 22 = .ok (.ireturn, 1) := by decide +kernel
theorem dSx_orders_23 : decode prog_1_method_12_code 23 = .ok (.aload_n 0, 1) := by decide +kernel
theorem dSx_orders_24 : decode prog_1_method_12_code 24 = .ok (.getfield 16, 3) := by decide +kernel
theorem dSx_orders_27 : decode prog_1_method_12_code 27 = .ok (.aload_n 0, 1) := by decide +kernel
theorem dSx_orders_28 : decode prog_1_method_12_code 28 = .ok (.getfield 12, 3) := by decide +kernel
theorem dSx_orders_31 : decode prog_1_method_12_code 31 = .ok (.invokevirtual 190, 3) := by decide +kernel
theorem dSx_orders_34 : decode prog_1_method_12_code 34 = .ok (.aload_n 0, 1) := by decide +kernel
theorem dSx_orders_35 : decode prog_1_method_12_code 35 = .ok (.getfield 33, 3) := by decide +kernel
theorem dSx_orders_38 : decode prog_1_method_12_code 38 = .ok (.aload_n 0, 1) := by decide +kernel
theorem dSx_orders_39 : decode prog_1_method_12_code 39 = .ok (.getfield 29, 3) := by decide +kernel
theorem dSx_orders_42 : decode prog_1_method_12_code 42 = .ok (.invokevirtual 194, 3) := by decide +kernel
theorem dSx_orders_45 : decode prog_1_method_12_code 45 = .ok (.aload_n 0, 1) := by decide +kernel
theorem dSx_orders_46 : decode prog_1_method_12_code 46 = .ok (.getfield 57, 3) := by decide +kernel
theorem dSx_orders_49 : decode prog_1_method_12_code 49 = .ok (.iconst 1, 1) := by decide +kernel
theorem dSx_orders_50 : decode prog_1_method_12_code 50 = .ok (.iconst 0, 1) := by decide +kernel
theorem dSx_orders_51 : decode prog_1_method_12_code 51 = .ok (.iastore, 1) := by decide +kernel
theorem dSx_orders_52 : decode prog_1_method_12_code 52 = .ok (.aload_n 0, 1) := by decide +kernel
theorem dSx_orders_53 : decode prog_1_method_12_code 53 = .ok (.getfield 57, 3) := by decide +kernel
theorem dSx_orders_56 : decode prog_1_method_12_code 56 = .ok (.iconst 2, 1) := by decide +kernel
theorem dSx_orders_57 : decode prog_1_method_12_code 57 = .ok (.iconst (-1), 1) := by decide +kernel
theorem dSx_orders_58 : decode prog_1_method_12_code 58 = .ok (.iastore, 1) := by decide +kernel
theorem dSx_orders_59 : decode prog_1_method_12_code 59 = .ok (.aload_n 0, 1) := by decide +kernel
theorem dSx_orders_60 : decode prog_1_method_12_code 60 = .ok (.getfield 39, 3) := by decide +kernel
theorem dSx_orders_63 : decode prog_1_method_12_code 63 = .ok (.getfield 176, 3) := by decide +kernel
theorem dSx_orders_66 : decode prog_1_method_12_code 66 = .ok (.astore_n 1, 1) := by decide +kernel
theorem dSx_orders_67 : decode prog_1_method_12_code 67 = .ok (.iconst 0, 1) := by decide +kernel
theorem dSx_orders_68 : decode prog_1_method_12_code 68 = .ok (.istore_n 2, 1) := by decide +kernel
theorem dSx_orders_69 : decode prog_1_method_12_code 69 = .ok (.iload_n 2, 1) := by decide +kernel
theorem dSx_orders_70 : decode prog_1_method_12_code 70 = .ok (.aload_n 1, 1) := by decide +kernel
theorem dSx_orders_71 : decode prog_1_method_12_code 71 = .ok (.getfield 197, 3) := by decide +kernel
theorem dSx_orders_74 : decode prog_1_method_12_code 74 = .ok (.if_icmp .ge 76, 3) := by decide +kernel
theorem dSx_orders_77 : decode prog_1_method_12_code 77 = .ok (.iload_n 2, 1) := by decide +kernel
theorem dSx_orders_78 : decode prog_1_method_12_code 78 = .ok (.bipush 12, 2) := by decide +kernel
theorem dSx_orders_80 : decode prog_1_method_12_code 80 = .ok (.if_icmp .ge 70, 3) := by decide +kernel
theorem dSx_orders_83 : decode prog_1_method_12_code 83 = .ok (.iconst 0, 1) := by decide +kernel
theorem dSx_orders_84 : decode prog_1_method_12_code 84 = .ok (.istore_n 3, 1) := by decide +kernel
theorem dSx_orders_85 : decode prog_1_method_12_code 85 = .ok (.iload_n 3, 1) := by decide +kernel
theorem dSx_orders_86 : decode prog_1_method_12_code 86 = .ok (.aload_n 1, 1) := by decide +kernel
theorem dSx_orders_87 : decode prog_1_method_12_code 87 = .ok (.getfield 200, 3) := by decide +kernel
theorem dSx_orders_90 : decode prog_1_method_12_code 90 = .ok (.iload_n 2, 1) := by decide +kernel
theorem dSx_orders_91 : decode prog_1_method_12_code 91 = .ok (.iaload, 1) := by decide +kernel
theorem dSx_orders_92 : decode prog_1_method_12_code 92 = .ok (.if_icmp .ge 52, 3) := by decide +kernel
theorem dSx_orders_95 : decode prog_1_method_12_code 95 = .ok (.aload_n 0, 1) := by decide +kernel
theorem dSx_orders_96 : decode prog_1_method_12_code 96 = .ok (.aload_n 1, 1) := by decide +kernel
theorem dSx_orders_97 : decode prog_1_method_12_code 97 = .ok (.iload_n 2, 1) := by decide +kernel
theorem dSx_orders_98 : decode prog_1_method_12_code 98 = .ok (.invokevirtual 203, 3) := by decide +kernel
theorem dSx_orders_101 : decode prog_1_method_12_code 101 = .ok (.ifCond .ne 37, 3) := by decide +kernel
theorem dSx_orders_104 : decode prog_1_method_12_code 104 = .ok (.aload_n 0, 1) := by decide +kernel
theorem dSx_orders_105 : decode prog_1_method_12_code 105 = .ok (.iload_n 2, 1) := by decide +kernel
theorem dSx_orders_106 : decode prog_1_method_12_code 106 = .ok (.putfield 77, 3) := by decide +kernel
theorem dSx_orders_109 : decode prog_1_method_12_code 109 = .ok (.aload_n 0, 1) := by decide +kernel
theorem dSx_orders_110 : decode prog_1_method_12_code 110 = .ok (.getfield 12, 3) := by decide +kernel
theorem dSx_orders_113 : decode prog_1_method_12_code 113 = .ok (.aload_n 0, 1) := by decide +kernel
theorem dSx_orders_114 : decode prog_1_method_12_code 114 = .ok (.getfield 16, 3) := by decide +kernel
theorem dSx_orders_117 : decode prog_1_method_12_code 117 = .ok (.invokevirtual 190, 3) := by decide +kernel
theorem dSx_orders_120 : decode prog_1_method_12_code 120 = .ok (.aload_n 0, 1) := by decide +kernel
theorem dSx_orders_121 : decode prog_1_method_12_code 121 = .ok (.getfield 29, 3) := by decide +kernel
theorem dSx_orders_124 : decode prog_1_method_12_code 124 = .ok (.aload_n 0, 1) := by decide +kernel
theorem dSx_orders_125 : decode prog_1_method_12_code 125 = .ok (.getfield 33, 3) := by decide +kernel
theorem dSx_orders_128 : decode prog_1_method_12_code 128 = .ok (.invokevirtual 194, 3) := by decide +kernel
theorem dSx_orders_131 : decode prog_1_method_12_code 131 = .ok (.aload_n 0, 1) := by decide +kernel
theorem dSx_orders_132 : decode prog_1_method_12_code 132 = .ok (.bipush (-3), 2) := by decide +kernel
theorem dSx_orders_134 : decode prog_1_method_12_code 134 = .ok (.invokevirtual 85, 3) := by decide +kernel
theorem dSx_orders_137 : decode prog_1_method_12_code 137 = .ok (.ireturn, 1) := by decide +kernel
theorem dSx_orders_138 : decode prog_1_method_12_code 138 = .ok (.iinc 3 1, 3) := by decide +kernel
theorem dSx_orders_141 : decode prog_1_method_12_code 141 = .ok (.goto (-56), 3) := by decide +kernel
theorem dSx_orders_144 : decode prog_1_method_12_code 144 = .ok (.iinc 2 1, 3) := by decide +kernel
theorem dSx_orders_147 : decode prog_1_method_12_code 147 = .ok (.goto (-78), 3) := by decide +kernel
theorem dSx_orders_150 : decode prog_1_method_12_code 150 = .ok (.aload_n 0, 1) := by decide +kernel
theorem dSx_orders_151 : decode prog_1_method_12_code 151 = .ok (.aload_n 0, 1) := by decide +kernel
theorem dSx_orders_152 : decode prog_1_method_12_code 152 = .ok (.getfield 57, 3) := by decide +kernel
theorem dSx_orders_155 : decode prog_1_method_12_code 155 = .ok (.iconst 1, 1) := by decide +kernel
theorem dSx_orders_156 : decode prog_1_method_12_code 156 = .ok (.iaload, 1) := by decide +kernel
theorem dSx_orders_157 : decode prog_1_method_12_code 157 = .ok (.invokevirtual 99, 3) := by decide +kernel
theorem dSx_orders_160 : decode prog_1_method_12_code 160 = .ok (.ireturn, 1) := by decide +kernel
