theorem dMo_testOf_0 : decode prog_10_method_70_code 0 = .ok (.aload_n 0, 1) := by decide +kernel
theorem dMo_testOf_1 : decode prog_10_method_70_code 1 = .ok (.iload_n 1, 1) := by decide +kernel
theorem dMo_testOf_2 : decode prog_10_method_70_code 2 = .ok (.invokevirtual 334, 3) := by decide +kernel
theorem dMo_testOf_5 : decode prog_10_method_70_code 5 = .ok (.istore_n 2, 1) := by decide +kernel
theorem dMo_testOf_6 : decode prog_10_method_70_code 6 = .ok (.aload_n 0, 1) := by decide +kernel
theorem dMo_testOf_7 : decode prog_10_method_70_code 7 = .ok (.iconst 5, 1) := by decide +kernel
theorem dMo_testOf_8 : decode prog_10_method_70_code 8 = .ok (.invokevirtual 310, 3) := by decide +kernel
theorem dMo_testOf_11 : decode prog_10_method_70_code 11 = .ok (.ifCond .eq 38, 3) := by decide +kernel
theorem dMo_testOf_14 : decode prog_10_method_70_code 14 = .ok (.aload_n 0, 1) := by decide +kernel
theorem dMo_testOf_15 : decode prog_10_method_70_code 15 = .ok (.iload_n 1, 1) := by decide +kernel
theorem dMo_testOf_16 : decode prog_10_method_70_code 16 = .ok (.ifCond .eq 11, 3) := by decide +kernel
theorem dMo_testOf_19 : decode prog_10_method_70_code 19 = .ok (.iload_n 2, 1) := by decide +kernel
theorem dMo_testOf_20 : decode prog_10_method_70_code 20 = .ok (.ifCond .ne 7, 3) := by decide +kernel
theorem dMo_testOf_23 : decode prog_10_method_70_code 23 = .ok (.iconst 1, 1) := by decide +kernel
theorem dMo_testOf_24 : decode prog_10_method_70_code 24 = .ok (.goto 4, 3) := by decide +kernel
theorem dMo_testOf_27 : decode prog_10_method_70_code 27 = .ok (.iconst 0, 1) := by decide +kernel
theorem dMo_testOf_28 : decode prog_10_method_70_code 28 = .ok (.invokevirtual 334, 3) := by decide +kernel
theorem dMo_testOf_31 : decode prog_10_method_70_code 31 = .ok (.istore_n 3, 1) := by decide +kernel
theorem dMo_testOf_32 : decode prog_10_method_70_code 32 = .ok (.iload_n 2, 1) := by decide +kernel
theorem dMo_testOf_33 : decode prog_10_method_70_code 33 = .ok (.ifCond .ne 7, 3) := by decide +kernel
theorem dMo_testOf_36 : decode prog_10_method_70_code 36 = .ok (.iload_n 3, 1) := by decide +kernel
theorem dMo_testOf_37 : decode prog_10_method_70_code 37 = .ok (.ifCond .eq 7, 3) := by decide +kernel
theorem dMo_testOf_40 : decode prog_10_method_70_code 40 = .ok (.iconst 1, 1) := by decide +kernel
theorem dMo_testOf_41 : decode prog_10_method_70_code 41 = .ok (.goto 4, 3) := by decide +kernel
theorem dMo_testOf_44 : decode prog_10_method_70_code 44 = .ok (.iconst 0, 1) := by decide +kernel
theorem dMo_testOf_45 : decode prog_10_method_70_code 45 = .ok (.istore_n 2, 1) := by decide +kernel
theorem dMo_testOf_46 : decode prog_10_method_70_code 46 = .ok (.goto (-40), 3) := by decide +kernel
theorem dMo_testOf_49 : decode prog_10_method_70_code 49 = .ok (.iload_n 2, 1) := by decide +kernel
theorem dMo_testOf_50 : decode prog_10_method_70_code 50 = .ok (.ireturn, 1) := by decide +kernel
theorem dMo_tells_0 : decode prog_10_method_75_code 0 = .ok (.aload_n 0, 1) := by decide +kernel
theorem dMo_tells_1 : decode prog_10_method_75_code 1 = .ok (.getfield 28, 3) := by decide +kernel
theorem dMo_tells_4 : decode prog_10_method_75_code 4 = .ok (.bipush 46, 2) := by decide +kernel
theorem dMo_tells_6 : decode prog_10_method_75_code 6 = .ok (.iaload, 1) := by decide +kernel
theorem dMo_tells_7 : decode prog_10_method_75_code 7 = .ok (.iconst (-1), 1) := by decide +kernel
theorem dMo_tells_8 : decode prog_10_method_75_code 8 = .ok (.if_icmp .ne 6, 3) := by decide +kernel
theorem dMo_tells_11 : decode prog_10_method_75_code 11 = .ok (.iload 5, 2) := by decide +kernel
theorem dMo_tells_13 : decode prog_10_method_75_code 13 = .ok (.ireturn, 1) := by decide +kernel
theorem dMo_tells_14 : decode prog_10_method_75_code 14 = .ok (.aload_n 0, 1) := by decide +kernel
theorem dMo_tells_15 : decode prog_10_method_75_code 15 = .ok (.iload_n 2, 1) := by decide +kernel
theorem dMo_tells_16 : decode prog_10_method_75_code 16 = .ok (.iload_n 3, 1) := by decide +kernel
theorem dMo_tells_17 : decode prog_10_method_75_code 17 = .ok (.invokevirtual 346, 3) := by decide +kernel
theorem dMo_tells_20 : decode prog_10_method_75_code 20 = .ok (.aload_n 0, 1) := by decide +kernel
theorem dMo_tells_21 : decode prog_10_method_75_code 21 = .ok (.iconst 0, 1) := by decide +kernel
theorem dMo_tells_22 : decode prog_10_method_75_code 22 = .ok (.putfield 316, 3) := by decide +kernel
theorem dMo_tells_25 : decode prog_10_method_75_code 25 = .ok (.iload 5, 2) := by decide +kernel
theorem dMo_tells_27 : decode prog_10_method_75_code 27 = .ok (.i2l, 1) := by decide +kernel
theorem dMo_tells_28 : decode prog_10_method_75_code 28 = .ok (.lstore 6, 2) := by decide +kernel
theorem dMo_tells_30 : decode prog_10_method_75_code 30 = .ok (.aload_n 0, 1) := by decide +kernel
theorem dMo_tells_31 : decode prog_10_method_75_code 31 = .ok (.sipush 400, 3) := by decide +kernel
theorem dMo_tells_34 : decode prog_10_method_75_code 34 = .ok (.aload_n 0, 1) := by decide +kernel
theorem dMo_tells_35 : decode prog_10_method_75_code 35 = .ok (.getfield 28, 3) := by decide +kernel
theorem dMo_tells_38 : decode prog_10_method_75_code 38 = .ok (.bipush 46, 2) := by decide +kernel
theorem dMo_tells_40 : decode prog_10_method_75_code 40 = .ok (.iaload, 1) := by decide +kernel
theorem dMo_tells_41 : decode prog_10_method_75_code 41 = .ok (.imul, 1) := by decide +kernel
theorem dMo_tells_42 : decode prog_10_method_75_code 42 = .ok (.putfield 286, 3) := by decide +kernel
theorem dMo_tells_45 : decode prog_10_method_75_code 45 = .ok (.aload_n 0, 1) := by decide +kernel
theorem dMo_tells_46 : decode prog_10_method_75_code 46 = .ok (.aload_n 0, 1) := by decide +kernel
theorem dMo_tells_47 : decode prog_10_method_75_code 47 = .ok (.getfield 286, 3) := by decide +kernel
theorem dMo_tells_50 : decode prog_10_method_75_code 50 = .ok (.aload_n 0, 1) := by decide +kernel
theorem dMo_tells_51 : decode prog_10_method_75_code 51 = .ok (.getfield 28, 3) := by decide +kernel
theorem dMo_tells_54 : decode prog_10_method_75_code 54 = .ok (.bipush 47, 2) := by decide +kernel
theorem dMo_tells_56 : decode prog_10_method_75_code 56 = .ok (.aload_n 0, 1) := by decide +kernel
theorem dMo_tells_57 : decode prog_10_method_75_code 57 = .ok (.getfield 28, 3) := by decide +kernel
theorem dMo_tells_60 : decode prog_10_method_75_code 60 = .ok (.bipush 46, 2) := by decide +kernel
theorem dMo_tells_62 : decode prog_10_method_75_code 62 = .ok (.iaload, 1) := by decide +kernel
theorem dMo_tells_63 : decode prog_10_method_75_code 63 = .ok (.iadd, 1) := by decide +kernel
theorem dMo_tells_64 : decode prog_10_method_75_code 64 = .ok (.iaload, 1) := by decide +kernel
theorem dMo_tells_65 : decode prog_10_method_75_code 65 = .ok (.iadd, 1) := by decide +kernel
theorem dMo_tells_66 : decode prog_10_method_75_code 66 = .ok (.putfield 283, 3) := by decide +kernel
theorem dMo_tells_69 : decode prog_10_method_75_code 69 = .ok (.aload_n 0, 1) := by decide +kernel
theorem dMo_tells_70 : decode prog_10_method_75_code 70 = .ok (.getfield 286, 3) := by decide +kernel
theorem dMo_tells_73 : decode prog_10_method_75_code 73 = .ok (.aload_n 0, 1) := by decide +kernel
theorem dMo_tells_74 : decode prog_10_method_75_code 74 = .ok (.getfield 283, 3) := by decide +kernel
theorem dMo_tells_77 : decode prog_10_method_75_code 77 = .ok (.if_icmp .ge 145, 3) := by decide +kernel
theorem dMo_tells_80 : decode prog_10_method_75_code 80 = .ok (.aload_n 0, 1) := by decide +kernel
theorem dMo_tells_81 : decode prog_10_method_75_code 81 = .ok (.aload_n 0, 1) := by decide +kernel
theorem dMo_tells_82 : decode prog_10_method_75_code 82 = .ok (.getfield 286, 3) := by decide +kernel
theorem dMo_tells_85 : decode prog_10_method_75_code 85 = .ok (.invokevirtual 289, 3) := by decide +kernel
theorem dMo_tells_88 : decode prog_10_method_75_code 88 = .ok (.istore 8, 2) := by decide +kernel
theorem dMo_tells_90 : decode prog_10_method_75_code 90 = .ok (.aload_n 0, 1) := by decide +kernel
theorem dMo_tells_91 : decode prog_10_method_75_code 91 = .ok (.iconst 0, 1) := by decide +kernel
theorem dMo_tells_92 : decode prog_10_method_75_code 92 = .ok (.putfield 296, 3) := by decide +kernel
theorem dMo_tells_95 : decode prog_10_method_75_code 95 = .ok (.aload_n 0, 1) := by decide +kernel
theorem dMo_tells_96 : decode prog_10_method_75_code 96 = .ok (.dup, 1) := by decide +kernel
theorem dMo_tells_97 : decode prog_10_method_75_code 97 = .ok (.getfield 286, 3) := by decide +kernel
theorem dMo_tells_100 : decode prog_10_method_75_code 100 = .ok (.iconst 1, 1) := by decide +kernel
theorem dMo_tells_101 : decode prog_10_method_75_code 101 = .ok (.iadd, 1) := by decide +kernel
theorem dMo_tells_102 : decode prog_10_method_75_code 102 = .ok (.putfield 286, 3) := by decide +kernel
theorem dMo_tells_105 : decode prog_10_method_75_code 105 = .ok (.iload 8, 2) := by decide +kernel
theorem dMo_tells_107 : decode prog_10_method_75_code 107 = .ok (.iconst 3, 1) := by decide +kernel
theorem dMo_tells_108 : decode prog_10_method_75_code 108 = .ok (.if_icmp .ne 7, 3) := by decide +kernel
theorem dMo_tells_111 : decode prog_10_method_75_code 111 = .ok (.lconst 1, 1) := by decide +kernel
theorem dMo_tells_112 : decode prog_10_method_75_code 112 = .ok (.goto 8, 3) := by decide +kernel
theorem dMo_tells_115 : decode prog_10_method_75_code 115 = .ok (.aload_n 0, 1) := by decide +kernel
theorem dMo_tells_116 : decode prog_10_method_75_code 116 = .ok (.iconst 1, 1) := by decide +kernel
theorem dMo_tells_117 : decode prog_10_method_75_code 117 = .ok (.invokevirtual 313, 3) := by decide +kernel
theorem dMo_tells_120 : decode prog_10_method_75_code 120 = .ok (.lstore 9, 2) := by decide +kernel
theorem dMo_tells_122 : decode prog_10_method_75_code 122 = .ok (.aload_n 0, 1) := by decide +kernel
theorem dMo_tells_123 : decode prog_10_method_75_code 123 = .ok (.getfield 296, 3) := by decide +kernel
theorem dMo_tells_126 : decode prog_10_method_75_code 126 = .ok (.istore 11, 2) := by decide +kernel
theorem dMo_tells_128 : decode prog_10_method_75_code 128 = .ok (.aload_n 0, 1) := by decide +kernel
theorem dMo_tells_129 : decode prog_10_method_75_code 129 = .ok (.iconst 0, 1) := by decide +kernel
theorem dMo_tells_130 : decode prog_10_method_75_code 130 = .ok (.putfield 296, 3) := by decide +kernel
theorem dMo_tells_133 : decode prog_10_method_75_code 133 = .ok (.aload_n 0, 1) := by decide +kernel
theorem dMo_tells_134 : decode prog_10_method_75_code 134 = .ok (.iconst 4, 1) := by decide +kernel
theorem dMo_tells_135 : decode prog_10_method_75_code 135 = .ok (.invokevirtual 310, 3) := by decide +kernel
theorem dMo_tells_138 : decode prog_10_method_75_code 138 = .ok (.ifCond .eq 11, 3) := by decide +kernel
theorem dMo_tells_141 : decode prog_10_method_75_code 141 = .ok (.aload_n 0, 1) := by decide +kernel
theorem dMo_tells_142 : decode prog_10_method_75_code 142 = .ok (.iconst 1, 1) := by decide +kernel
theorem dMo_tells_143 : decode prog_10_method_75_code 143 = .ok (.invokevirtual 343, 3) := by decide +kernel
theorem dMo_tells_146 : decode prog_10_method_75_code 146 = .ok (.ifCond .eq 7, 3) := by decide +kernel
theorem dMo_tells_149 : decode prog_10_method_75_code 149 = .ok (.iconst 1, 1) := by decide +kernel
theorem dMo_tells_150 : decode prog_10_method_75_code 150 = .ok (.goto 4, 3) := by decide +kernel
theorem dMo_tells_153 : decode prog_10_method_75_code 153 = .ok (.iconst 0, 1) := by decide +kernel
theorem dMo_tells_154 : decode prog_10_method_75_code 154 = .ok (.istore 12, 2) := by decide +kernel
theorem dMo_tells_156 : decode prog_10_method_75_code 156 = .ok (.iload 8, 2) := by decide +kernel
theorem dMo_tells_158 : decode prog_10_method_75_code 158 = .ok (.iload_n 1, 1) := by decide +kernel
theorem dMo_tells_159 : decode prog_10_method_75_code 159 = .ok (.if_icmp .ne 50, 3) := by decide +kernel
theorem dMo_tells_162 : decode prog_10_method_75_code 162 = .ok (.iload 12, 2) := by decide +kernel
theorem dMo_tells_164 : decode prog_10_method_75_code 164 = .ok (.ifCond .eq 45, 3) := by decide +kernel
theorem dMo_tells_167 : decode prog_10_method_75_code 167 = .ok (.aload_n 0, 1) := by decide +kernel
theorem dMo_tells_168 : decode prog_10_method_75_code 168 = .ok (.getfield 296, 3) := by decide +kernel
theorem dMo_tells_171 : decode prog_10_method_75_code 171 = .ok (.ifCond .ne 38, 3) := by decide +kernel
theorem dMo_tells_174 : decode prog_10_method_75_code 174 = .ok (.iload 11, 2) := by decide +kernel
theorem dMo_tells_176 : decode prog_10_method_75_code 176 = .ok (.ifCond .ne 33, 3) := by decide +kernel
theorem dMo_tells_179 : decode prog_10_method_75_code 179 = .ok (.lload 9, 2) := by decide +kernel
theorem dMo_tells_181 : decode prog_10_method_75_code 181 = .ok (.lconst 0, 1) := by decide +kernel
theorem dMo_tells_182 : decode prog_10_method_75_code 182 = .ok (.lcmp, 1) := by decide +kernel
theorem dMo_tells_183 : decode prog_10_method_75_code 183 = .ok (.ifCond .ge 7, 3) := by decide +kernel
theorem dMo_tells_186 : decode prog_10_method_75_code 186 = .ok (.lconst 0, 1) := by decide +kernel
theorem dMo_tells_187 : decode prog_10_method_75_code 187 = .ok (.goto 20, 3) := by decide +kernel
theorem dMo_tells_190 : decode prog_10_method_75_code 190 = .ok (.lload 9, 2) := by decide +kernel
theorem dMo_tells_192 : decode prog_10_method_75_code 192 = .ok (.iload 4, 2) := by decide +kernel
theorem dMo_tells_194 : decode prog_10_method_75_code 194 = .ok (.i2l, 1) := by decide +kernel
theorem dMo_tells_195 : decode prog_10_method_75_code 195 = .ok (.lcmp, 1) := by decide +kernel
theorem dMo_tells_196 : decode prog_10_method_75_code 196 = .ok (.ifCond .le 9, 3) := by decide +kernel
theorem dMo_tells_199 : decode prog_10_method_75_code 199 = .ok (.iload 4, 2) := by decide +kernel
theorem dMo_tells_201 : decode prog_10_method_75_code 201 = .ok (.i2l, 1) := by decide +kernel
theorem dMo_tells_202 : decode prog_10_method_75_code 202 = .ok (.goto 5, 3) := by decide +kernel
theorem dMo_tells_205 : decode prog_10_method_75_code 205 = .ok (.lload 9, 2) := by decide +kernel
theorem dMo_tells_207 : decode prog_10_method_75_code 207 = .ok (.lstore 6, 2) := by decide +kernel
theorem dMo_tells_209 : decode prog_10_method_75_code 209 = .ok (.aload_n 0, 1) := by decide +kernel
theorem dMo_tells_210 : decode prog_10_method_75_code 210 = .ok (.dup, 1) := by decide +kernel
theorem dMo_tells_211 : decode prog_10_method_75_code 211 = .ok (.getfield 286, 3) := by decide +kernel
theorem dMo_tells_214 : decode prog_10_method_75_code 214 = .ok (.iconst 1, 1) := by decide +kernel
theorem dMo_tells_215 : decode prog_10_method_75_code 215 = .ok (.iadd, 1) := by decide +kernel
theorem dMo_tells_216 : decode prog_10_method_75_code 216 = .ok (.putfield 286, 3) := by decide +kernel
theorem dMo_tells_219 : decode prog_10_method_75_code 219 = .ok (.goto (-150), 3) := by decide +kernel
theorem dMo_tells_222 : decode prog_10_method_75_code 222 = .ok (.lload 6, 2) := by decide +kernel
theorem dMo_tells_224 : decode prog_10_method_75_code 224 = .ok (.l2i, 1) := by decide +kernel
theorem dMo_tells_225 : decode prog_10_method_75_code 225 = .ok (.ireturn, 1) := by decide +kernel
theorem dMo_countsAt_0 : decode prog_10_method_76_code 0 = .ok (.aload_n 0, 1) := by decide +kernel
theorem dMo_countsAt_1 : decode prog_10_method_76_code 1 = .ok (.iconst 1, 1) := by decide +kernel
theorem dMo_countsAt_2 : decode prog_10_method_76_code 2 = .ok (.iload_n 1, 1) := by decide +kernel
theorem dMo_countsAt_3 : decode prog_10_method_76_code 3 = .ok (.iload_n 2, 1) := by decide +kernel
theorem dMo_countsAt_4 : decode prog_10_method_76_code 4 = .ok (.bipush 99, 2) := by decide +kernel
theorem dMo_countsAt_6 : decode prog_10_method_76_code 6 = .ok (.aload_n 0, 1) := by decide +kernel
theorem dMo_countsAt_7 : decode prog_10_method_76_code 7 = .ok (.getfield 28, 3) := by decide +kernel
theorem dMo_countsAt_10 : decode prog_10_method_76_code 10 = .ok (.iconst 0, 1) := by decide +kernel
theorem dMo_countsAt_11 : decode prog_10_method_76_code 11 = .ok (.iload_n 1, 1) := by decide +kernel
theorem dMo_countsAt_12 : decode prog_10_method_76_code 12 = .ok (.iadd, 1) := by decide +kernel
theorem dMo_countsAt_13 : decode prog_10_method_76_code 13 = .ok (.iaload, 1) := by decide +kernel
theorem dMo_countsAt_14 : decode prog_10_method_76_code 14 = .ok (.invokevirtual 349, 3) := by decide +kernel
theorem dMo_countsAt_17 : decode prog_10_method_76_code 17 = .ok (.ireturn, 1) := by decide +kernel
theorem dMo_shedsAt_0 : decode prog_10_method_77_code 0 = .ok (.aload_n 0, 1) := by decide +kernel
theorem dMo_shedsAt_1 : decode prog_10_method_77_code 1 = .ok (.iconst 2, 1) := by decide +kernel
theorem dMo_shedsAt_2 : decode prog_10_method_77_code 2 = .ok (.iload_n 1, 1) := by decide +kernel
theorem dMo_shedsAt_3 : decode prog_10_method_77_code 3 = .ok (.iload_n 2, 1) := by decide +kernel
theorem dMo_shedsAt_4 : decode prog_10_method_77_code 4 = .ok (.bipush 9, 2) := by decide +kernel
theorem dMo_shedsAt_6 : decode prog_10_method_77_code 6 = .ok (.iconst 0, 1) := by decide +kernel
theorem dMo_shedsAt_7 : decode prog_10_method_77_code 7 = .ok (.invokevirtual 349, 3) := by decide +kernel
theorem dMo_shedsAt_10 : decode prog_10_method_77_code 10 = .ok (.ireturn, 1) := by decide +kernel
theorem dMo_isBarred_0 : decode prog_10_method_78_code 0 = .ok (.aload_n 0, 1) := by decide +kernel
theorem dMo_isBarred_1 : decode prog_10_method_78_code 1 = .ok (.iconst 3, 1) := by decide +kernel
theorem dMo_isBarred_2 : decode prog_10_method_78_code 2 = .ok (.iload_n 1, 1) := by decide +kernel
theorem dMo_isBarred_3 : decode prog_10_method_78_code 3 = .ok (.iload_n 2, 1) := by decide +kernel
theorem dMo_isBarred_4 : decode prog_10_method_78_code 4 = .ok (.iconst 1, 1) := by decide +kernel
theorem dMo_isBarred_5 : decode prog_10_method_78_code 5 = .ok (.iconst 0, 1) := by decide +kernel
theorem dMo_isBarred_6 : decode prog_10_method_78_code 6 = .ok (.invokevirtual 349, 3) := by decide +kernel
theorem dMo_isBarred_9 : decode prog_10_method_78_code 9 = .ok (.iconst 1, 1) := by decide +kernel
theorem dMo_isBarred_10 : decode prog_10_method_78_code 10 = .ok (.if_icmp .ne 7, 3) := by decide +kernel
theorem dMo_isBarred_13 : decode prog_10_method_78_code 13 = .ok (.iconst 1, 1) := by decide +kernel
theorem dMo_isBarred_14 : decode prog_10_method_78_code 14 = .ok (.goto 4, 3) := by decide +kernel
theorem dMo_isBarred_17 : decode prog_10_method_78_code 17 = .ok (.iconst 0, 1) := by decide +kernel
theorem dMo_isBarred_18 : decode prog_10_method_78_code 18 = .ok (.ireturn, 1) := by decide +kernel
theorem dMo_pullOf_0 : decode prog_10_method_79_code 0 = .ok (.aload_n 0, 1) := by decide +kernel
theorem dMo_pullOf_1 : decode prog_10_method_79_code 1 = .ok (.iload_n 1, 1) := by decide +kernel
theorem dMo_pullOf_2 : decode prog_10_method_79_code 2 = .ok (.invokevirtual 138, 3) := by decide +kernel
theorem dMo_pullOf_5 : decode prog_10_method_79_code 5 = .ok (.ifCond .eq 33, 3) := by decide +kernel
theorem dMo_pullOf_8 : decode prog_10_method_79_code 8 = .ok (.aload_n 0, 1) := by decide +kernel
theorem dMo_pullOf_9 : decode prog_10_method_79_code 9 = .ok (.iload_n 1, 1) := by decide +kernel
theorem dMo_pullOf_10 : decode prog_10_method_79_code 10 = .ok (.aload_n 0, 1) := by decide +kernel
theorem dMo_pullOf_11 : decode prog_10_method_79_code 11 = .ok (.getfield 28, 3) := by decide +kernel
theorem dMo_pullOf_14 : decode prog_10_method_79_code 14 = .ok (.bipush 7, 2) := by decide +kernel
theorem dMo_pullOf_16 : decode prog_10_method_79_code 16 = .ok (.iload_n 1, 1) := by decide +kernel
theorem dMo_pullOf_17 : decode prog_10_method_79_code 17 = .ok (.iadd, 1) := by decide +kernel
theorem dMo_pullOf_18 : decode prog_10_method_79_code 18 = .ok (.iaload, 1) := by decide +kernel
theorem dMo_pullOf_19 : decode prog_10_method_79_code 19 = .ok (.invokevirtual 141, 3) := by decide +kernel
theorem dMo_pullOf_22 : decode prog_10_method_79_code 22 = .ok (.aload_n 0, 1) := by decide +kernel
theorem dMo_pullOf_23 : decode prog_10_method_79_code 23 = .ok (.getfield 28, 3) := by decide +kernel
theorem dMo_pullOf_26 : decode prog_10_method_79_code 26 = .ok (.bipush 7, 2) := by decide +kernel
theorem dMo_pullOf_28 : decode prog_10_method_79_code 28 = .ok (.iload_n 1, 1) := by decide +kernel
theorem dMo_pullOf_29 : decode prog_10_method_79_code 29 = .ok (.iadd, 1) := by decide +kernel
theorem dMo_pullOf_30 : decode prog_10_method_79_code 30 = .ok (.iaload, 1) := by decide +kernel
theorem dMo_pullOf_31 : decode prog_10_method_79_code 31 = .ok (.invokestatic 160, 3) := by decide +kernel
theorem dMo_pullOf_34 : decode prog_10_method_79_code 34 = .ok (.imul, 1) := by decide +kernel
theorem dMo_pullOf_35 : decode prog_10_method_79_code 35 = .ok (.goto 4, 3) := by decide +kernel
theorem dMo_pullOf_38 : decode prog_10_method_79_code 38 = .ok (.iconst 0, 1) := by decide +kernel
theorem dMo_pullOf_39 : decode prog_10_method_79_code 39 = .ok (.ireturn, 1) := by decide +kernel
theorem dMo_tiltNow_0 : decode prog_10_method_80_code 0 = .ok (.iconst 0, 1) := by decide +kernel
theorem dMo_tiltNow_1 : decode prog_10_method_80_code 1 = .ok (.istore_n 1, 1) := by decide +kernel
theorem dMo_tiltNow_2 : decode prog_10_method_80_code 2 = .ok (.iconst 0, 1) := by decide +kernel
theorem dMo_tiltNow_3 : decode prog_10_method_80_code 3 = .ok (.istore_n 2, 1) := by decide +kernel
theorem dMo_tiltNow_4 : decode prog_10_method_80_code 4 = .ok (.iload_n 2, 1) := by decide +kernel
theorem dMo_tiltNow_5 : decode prog_10_method_80_code 5 = .ok (.aload_n 0, 1) := by decide +kernel
theorem dMo_tiltNow_6 : decode prog_10_method_80_code 6 = .ok (.invokevirtual 119, 3) := by decide +kernel
theorem dMo_tiltNow_9 : decode prog_10_method_80_code 9 = .ok (.if_icmp .ge 17, 3) := by decide +kernel
theorem dMo_tiltNow_12 : decode prog_10_method_80_code 12 = .ok (.iload_n 1, 1) := by decide +kernel
theorem dMo_tiltNow_13 : decode prog_10_method_80_code 13 = .ok (.aload_n 0, 1) := by decide +kernel
theorem dMo_tiltNow_14 : decode prog_10_method_80_code 14 = .ok (.iload_n 2, 1) := by decide +kernel
theorem dMo_tiltNow_15 : decode prog_10_method_80_code 15 = .ok (.invokevirtual 157, 3) := by decide +kernel
theorem dMo_tiltNow_18 : decode prog_10_method_80_code 18 = .ok (.iadd, 1) := by decide +kernel
theorem dMo_tiltNow_19 : decode prog_10_method_80_code 19 = .ok (.istore_n 1, 1) := by decide +kernel
theorem dMo_tiltNow_20 : decode prog_10_method_80_code 20 = .ok (.iinc 2 1, 3) := by decide +kernel
theorem dMo_tiltNow_23 : decode prog_10_method_80_code 23 = .ok (.goto (-19), 3) := by decide +kernel
theorem dMo_tiltNow_26 : decode prog_10_method_80_code 26 = .ok (.iload_n 1, 1) := by decide +kernel
theorem dMo_tiltNow_27 : decode prog_10_method_80_code 27 = .ok (.ireturn, 1) := by decide +kernel
theorem dMo_dayPasses_0 : decode prog_10_method_82_code 0 = .ok (.iconst 0, 1) := by decide +kernel
theorem dMo_dayPasses_1 : decode prog_10_method_82_code 1 = .ok (.istore_n 1, 1) := by decide +kernel
theorem dMo_dayPasses_2 : decode prog_10_method_82_code 2 = .ok (.iconst 0, 1) := by decide +kernel
theorem dMo_dayPasses_3 : decode prog_10_method_82_code 3 = .ok (.istore_n 2, 1) := by decide +kernel
theorem dMo_dayPasses_4 : decode prog_10_method_82_code 4 = .ok (.iload_n 2, 1) := by decide +kernel
theorem dMo_dayPasses_5 : decode prog_10_method_82_code 5 = .ok (.aload_n 0, 1) := by decide +kernel
theorem dMo_dayPasses_6 : decode prog_10_method_82_code 6 = .ok (.invokevirtual 119, 3) := by decide +kernel
theorem dMo_dayPasses_9 : decode prog_10_method_82_code 9 = .ok (.if_icmp .ge 41, 3) := by decide +kernel
theorem dMo_dayPasses_12 : decode prog_10_method_82_code 12 = .ok (.aload_n 0, 1) := by decide +kernel
theorem dMo_dayPasses_13 : decode prog_10_method_82_code 13 = .ok (.getfield 66, 3) := by decide +kernel
theorem dMo_dayPasses_16 : decode prog_10_method_82_code 16 = .ok (.iload_n 2, 1) := by decide +kernel
theorem dMo_dayPasses_17 : decode prog_10_method_82_code 17 = .ok (.aload_n 0, 1) := by decide +kernel
theorem dMo_dayPasses_18 : decode prog_10_method_82_code 18 = .ok (.iload_n 2, 1) := by decide +kernel
theorem dMo_dayPasses_19 : decode prog_10_method_82_code 19 = .ok (.invokevirtual 138, 3) := by decide +kernel
theorem dMo_dayPasses_22 : decode prog_10_method_82_code 22 = .ok (.ifCond .eq 20, 3) := by decide +kernel
theorem dMo_dayPasses_25 : decode prog_10_method_82_code 25 = .ok (.aload_n 0, 1) := by decide +kernel
theorem dMo_dayPasses_26 : decode prog_10_method_82_code 26 = .ok (.iload_n 2, 1) := by decide +kernel
theorem dMo_dayPasses_27 : decode prog_10_method_82_code 27 = .ok (.aload_n 0, 1) := by decide +kernel
theorem dMo_dayPasses_28 : decode prog_10_method_82_code 28 = .ok (.getfield 28, 3) := by decide +kernel
theorem dMo_dayPasses_31 : decode prog_10_method_82_code 31 = .ok (.bipush 7, 2) := by decide +kernel
theorem dMo_dayPasses_33 : decode prog_10_method_82_code 33 = .ok (.iload_n 2, 1) := by decide +kernel
theorem dMo_dayPasses_34 : decode prog_10_method_82_code 34 = .ok (.iadd, 1) := by decide +kernel
theorem dMo_dayPasses_35 : decode prog_10_method_82_code 35 = .ok (.iaload, 1) := by decide +kernel
theorem dMo_dayPasses_36 : decode prog_10_method_82_code 36 = .ok (.invokevirtual 145, 3) := by decide +kernel
theorem dMo_dayPasses_39 : decode prog_10_method_82_code 39 = .ok (.goto 4, 3) := by decide +kernel
theorem dMo_dayPasses_42 : decode prog_10_method_82_code 42 = .ok (.iconst 0, 1) := by decide +kernel
theorem dMo_dayPasses_43 : decode prog_10_method_82_code 43 = .ok (.iastore, 1) := by decide +kernel
theorem dMo_dayPasses_44 : decode prog_10_method_82_code 44 = .ok (.iinc 2 1, 3) := by decide +kernel
theorem dMo_dayPasses_47 : decode prog_10_method_82_code 47 = .ok (.goto (-43), 3) := by decide +kernel
theorem dMo_dayPasses_50 : decode prog_10_method_82_code 50 = .ok (.iconst 0, 1) := by decide +kernel
theorem dMo_dayPasses_51 : decode prog_10_method_82_code 51 = .ok (.istore_n 2, 1) := by decide +kernel
theorem dMo_dayPasses_52 : decode prog_10_method_82_code 52 = .ok (.iload_n 2, 1) := by decide +kernel
theorem dMo_dayPasses_53 : decode prog_10_method_82_code 53 = .ok (.aload_n 0, 1) := by decide +kernel
theorem dMo_dayPasses_54 : decode prog_10_method_82_code 54 = .ok (.invokevirtual 119, 3) := by decide +kernel
theorem dMo_dayPasses_57 : decode prog_10_method_82_code 57 = .ok (.if_icmp .ge 58, 3) := by decide +kernel
theorem dMo_dayPasses_60 : decode prog_10_method_82_code 60 = .ok (.iconst 1, 1) := by decide +kernel
theorem dMo_dayPasses_61 : decode prog_10_method_82_code 61 = .ok (.aload_n 0, 1) := by decide +kernel
theorem dMo_dayPasses_62 : decode prog_10_method_82_code 62 = .ok (.getfield 28, 3) := by decide +kernel
theorem dMo_dayPasses_65 : decode prog_10_method_82_code 65 = .ok (.iconst 0, 1) := by decide +kernel
theorem dMo_dayPasses_66 : decode prog_10_method_82_code 66 = .ok (.iload_n 2, 1) := by decide +kernel
theorem dMo_dayPasses_67 : decode prog_10_method_82_code 67 = .ok (.iadd, 1) := by decide +kernel
theorem dMo_dayPasses_68 : decode prog_10_method_82_code 68 = .ok (.iaload, 1) := by decide +kernel
theorem dMo_dayPasses_69 : decode prog_10_method_82_code 69 = .ok (.aload_n 0, 1) := by decide +kernel
theorem dMo_dayPasses_70 : decode prog_10_method_82_code 70 = .ok (.getfield 66, 3) := by decide +kernel
theorem dMo_dayPasses_73 : decode prog_10_method_82_code 73 = .ok (.iload_n 2, 1) := by decide +kernel
theorem dMo_dayPasses_74 : decode prog_10_method_82_code 74 = .ok (.iaload, 1) := by decide +kernel
theorem dMo_dayPasses_75 : decode prog_10_method_82_code 75 = .ok (.isub, 1) := by decide +kernel
theorem dMo_dayPasses_76 : decode prog_10_method_82_code 76 = .ok (.invokestatic 353, 3) := by decide +kernel
theorem dMo_dayPasses_79 : decode prog_10_method_82_code 79 = .ok (.istore_n 3, 1) := by decide +kernel
theorem dMo_dayPasses_80 : decode prog_10_method_82_code 80 = .ok (.iload_n 1, 1) := by decide +kernel
theorem dMo_dayPasses_81 : decode prog_10_method_82_code 81 = .ok (.iload_n 3, 1) := by decide +kernel
theorem dMo_dayPasses_82 : decode prog_10_method_82_code 82 = .ok (.aload_n 0, 1) := by decide +kernel
theorem dMo_dayPasses_83 : decode prog_10_method_82_code 83 = .ok (.getfield 28, 3) := by decide +kernel
theorem dMo_dayPasses_86 : decode prog_10_method_82_code 86 = .ok (.iconst 0, 1) := by decide +kernel
theorem dMo_dayPasses_87 : decode prog_10_method_82_code 87 = .ok (.iload_n 2, 1) := by decide +kernel
theorem dMo_dayPasses_88 : decode prog_10_method_82_code 88 = .ok (.iadd, 1) := by decide +kernel
theorem dMo_dayPasses_89 : decode prog_10_method_82_code 89 = .ok (.iaload, 1) := by decide +kernel
theorem dMo_dayPasses_90 : decode prog_10_method_82_code 90 = .ok (.if_icmp .ge 7, 3) := by decide +kernel
theorem dMo_dayPasses_93 : decode prog_10_method_82_code 93 = .ok (.iconst 1, 1) := by decide +kernel
theorem dMo_dayPasses_94 : decode prog_10_method_82_code 94 = .ok (.goto 4, 3) := by decide +kernel
theorem dMo_dayPasses_97 : decode prog_10_method_82_code 97 = .ok (.iconst 0, 1) := by decide +kernel
theorem dMo_dayPasses_98 : decode prog_10_method_82_code 98 = .ok (.iadd, 1) := by decide +kernel
theorem dMo_dayPasses_99 : decode prog_10_method_82_code 99 = .ok (.istore_n 1, 1) := by decide +kernel
theorem dMo_dayPasses_100 : decode prog_10_method_82_code 100 = .ok (.aload_n 0, 1) := by decide +kernel
theorem dMo_dayPasses_101 : decode prog_10_method_82_code 101 = .ok (.getfield 28, 3) := by decide +kernel
theorem dMo_dayPasses_104 : decode prog_10_method_82_code 104 = .ok (.iconst 0, 1) := by decide +kernel
theorem dMo_dayPasses_105 : decode prog_10_method_82_code 105 = .ok (.iload_n 2, 1) := by decide +kernel
theorem dMo_dayPasses_106 : decode prog_10_method_82_code 106 = .ok (.iadd, 1) := by decide +kernel
theorem dMo_dayPasses_107 : decode prog_10_method_82_code 107 = .ok (.iload_n 3, 1) := by decide +kernel
theorem dMo_dayPasses_108 : decode prog_10_method_82_code 108 = .ok (.iastore, 1) := by decide +kernel
theorem dMo_dayPasses_109 : decode prog_10_method_82_code 109 = .ok (.iinc 2 1, 3) := by decide +kernel
theorem dMo_dayPasses_112 : decode prog_10_method_82_code 112 = .ok (.goto (-60), 3) := by decide +kernel
theorem dMo_dayPasses_115 : decode prog_10_method_82_code 115 = .ok (.aload_n 0, 1) := by decide +kernel
theorem dMo_dayPasses_116 : decode prog_10_method_82_code 116 = .ok (.getfield 28, 3) := by decide +kernel
theorem dMo_dayPasses_119 : decode prog_10_method_82_code 119 = .ok (.bipush 14, 2) := by decide +kernel
theorem dMo_dayPasses_121 : decode prog_10_method_82_code 121 = .ok (.dup2, 1) := by decide +kernel
theorem dMo_dayPasses_122 : decode prog_10_method_82_code 122 = .ok (.iaload, 1) := by decide +kernel
theorem dMo_dayPasses_123 : decode prog_10_method_82_code 123 = .ok (.iconst 1, 1) := by decide +kernel
theorem dMo_dayPasses_124 : decode prog_10_method_82_code 124 = .ok (.iadd, 1) := by decide +kernel
theorem dMo_dayPasses_125 : decode prog_10_method_82_code 125 = .ok (.iastore, 1) := by decide +kernel
theorem dMo_dayPasses_126 : decode prog_10_method_82_code 126 = .ok (.iload_n 1, 1) := by decide +kernel
theorem dMo_dayPasses_127 : decode prog_10_method_82_code 127 = .ok (.ireturn, 1) := by decide +kernel
theorem dMo_canPut_0 : decode prog_10_method_86_code 0 = .ok (.aload_n 0, 1) := by decide +kernel
theorem dMo_canPut_1 : decode prog_10_method_86_code 1 = .ok (.getfield 28, 3) := by decide +kernel
theorem dMo_canPut_4 : decode prog_10_method_86_code 4 = .ok (.bipush 7, 2) := by decide +kernel
theorem dMo_canPut_6 : decode prog_10_method_86_code 6 = .ok (.iload_n 1, 1) := by decide +kernel
theorem dMo_canPut_7 : decode prog_10_method_86_code 7 = .ok (.iadd, 1) := by decide +kernel
theorem dMo_canPut_8 : decode prog_10_method_86_code 8 = .ok (.iaload, 1) := by decide +kernel
theorem dMo_canPut_9 : decode prog_10_method_86_code 9 = .ok (.iload_n 2, 1) := by decide +kernel
theorem dMo_canPut_10 : decode prog_10_method_86_code 10 = .ok (.if_icmp .eq 16, 3) := by decide +kernel
theorem dMo_canPut_13 : decode prog_10_method_86_code 13 = .ok (.aload_n 0, 1) := by decide +kernel
theorem dMo_canPut_14 : decode prog_10_method_86_code 14 = .ok (.iload_n 1, 1) := by decide +kernel
theorem dMo_canPut_15 : decode prog_10_method_86_code 15 = .ok (.iload_n 2, 1) := by decide +kernel
theorem dMo_canPut_16 : decode prog_10_method_86_code 16 = .ok (.invokevirtual 151, 3) := by decide +kernel
theorem dMo_canPut_19 : decode prog_10_method_86_code 19 = .ok (.ifCond .ne 7, 3) := by decide +kernel
theorem dMo_canPut_22 : decode prog_10_method_86_code 22 = .ok (.iconst 1, 1) := by decide +kernel
theorem dMo_canPut_23 : decode prog_10_method_86_code 23 = .ok (.goto 4, 3) := by decide +kernel
theorem dMo_canPut_26 : decode prog_10_method_86_code 26 = .ok (.iconst 0, 1) := by decide +kernel
theorem dMo_canPut_27 : decode prog_10_method_86_code 27 = .ok (.ireturn, 1) := by decide +kernel
theorem dMo_putsKept_0 : decode prog_10_method_87_code 0 = .ok (.iload_n 2, 1) := by decide +kernel
theorem dMo_putsKept_1 : decode prog_10_method_87_code 1 = .ok (.invokestatic 148, 3) := by decide +kernel
theorem dMo_putsKept_4 : decode prog_10_method_87_code 4 = .ok (.ifCond .ne 5, 3) := by decide +kernel
theorem dMo_putsKept_7 : decode prog_10_method_87_code 7 = .ok (.iconst (-1), 1) := by decide +kernel
theorem dMo_putsKept_8 : decode prog_10_method_87_code 8 = .ok (.ireturn, 1) := by decide +kernel
theorem dMo_putsKept_9 : decode prog_10_method_87_code 9 = .ok (.aload_n 0, 1) := by decide +kernel
theorem dMo_putsKept_10 : decode prog_10_method_87_code 10 = .ok (.iload_n 1, 1) := by decide +kernel
theorem dMo_putsKept_11 : decode prog_10_method_87_code 11 = .ok (.invokevirtual 135, 3) := by decide +kernel
theorem dMo_putsKept_14 : decode prog_10_method_87_code 14 = .ok (.ifCond .ne 6, 3) := by decide +kernel
theorem dMo_putsKept_17 : decode prog_10_method_87_code 17 = .ok (.bipush (-2), 2) := by decide +kernel
theorem dMo_putsKept_19 : decode prog_10_method_87_code 19 = .ok (.ireturn, 1) := by decide +kernel
theorem dMo_putsKept_20 : decode prog_10_method_87_code 20 = .ok (.aload_n 0, 1) := by decide +kernel
theorem dMo_putsKept_21 : decode prog_10_method_87_code 21 = .ok (.iload_n 1, 1) := by decide +kernel
theorem dMo_putsKept_22 : decode prog_10_method_87_code 22 = .ok (.iload_n 2, 1) := by decide +kernel
theorem dMo_putsKept_23 : decode prog_10_method_87_code 23 = .ok (.invokevirtual 356, 3) := by decide +kernel
theorem dMo_putsKept_26 : decode prog_10_method_87_code 26 = .ok (.ifCond .ne 6, 3) := by decide +kernel
theorem dMo_putsKept_29 : decode prog_10_method_87_code 29 = .ok (.bipush (-3), 2) := by decide +kernel
theorem dMo_putsKept_31 : decode prog_10_method_87_code 31 = .ok (.ireturn, 1) := by decide +kernel
theorem dMo_putsKept_32 : decode prog_10_method_87_code 32 = .ok (.aload_n 0, 1) := by decide +kernel
theorem dMo_putsKept_33 : decode prog_10_method_87_code 33 = .ok (.iconst 0, 1) := by decide +kernel
theorem dMo_putsKept_34 : decode prog_10_method_87_code 34 = .ok (.invokevirtual 359, 3) := by decide +kernel
theorem dMo_putsKept_37 : decode prog_10_method_87_code 37 = .ok (.aload_n 0, 1) := by decide +kernel
theorem dMo_putsKept_38 : decode prog_10_method_87_code 38 = .ok (.getfield 28, 3) := by decide +kernel
theorem dMo_putsKept_41 : decode prog_10_method_87_code 41 = .ok (.bipush 7, 2) := by decide +kernel
theorem dMo_putsKept_43 : decode prog_10_method_87_code 43 = .ok (.iload_n 1, 1) := by decide +kernel
theorem dMo_putsKept_44 : decode prog_10_method_87_code 44 = .ok (.iadd, 1) := by decide +kernel
theorem dMo_putsKept_45 : decode prog_10_method_87_code 45 = .ok (.iload_n 2, 1) := by decide +kernel
theorem dMo_putsKept_46 : decode prog_10_method_87_code 46 = .ok (.iastore, 1) := by decide +kernel
theorem dMo_putsKept_47 : decode prog_10_method_87_code 47 = .ok (.aload_n 0, 1) := by decide +kernel
theorem dMo_putsKept_48 : decode prog_10_method_87_code 48 = .ok (.invokevirtual 154, 3) := by decide +kernel
theorem dMo_putsKept_51 : decode prog_10_method_87_code 51 = .ok (.invokestatic 163, 3) := by decide +kernel
theorem dMo_putsKept_54 : decode prog_10_method_87_code 54 = .ok (.ireturn, 1) := by decide +kernel
theorem dMo_takesKept_0 : decode prog_10_method_88_code 0 = .ok (.aload_n 0, 1) := by decide +kernel
theorem dMo_takesKept_1 : decode prog_10_method_88_code 1 = .ok (.iload_n 1, 1) := by decide +kernel
theorem dMo_takesKept_2 : decode prog_10_method_88_code 2 = .ok (.invokevirtual 135, 3) := by decide +kernel
theorem dMo_takesKept_5 : decode prog_10_method_88_code 5 = .ok (.ifCond .ne 6, 3) := by decide +kernel
theorem dMo_takesKept_8 : decode prog_10_method_88_code 8 = .ok (.bipush (-2), 2) := by decide +kernel
theorem dMo_takesKept_10 : decode prog_10_method_88_code 10 = .ok (.ireturn, 1) := by decide +kernel
theorem dMo_takesKept_11 : decode prog_10_method_88_code 11 = .ok (.aload_n 0, 1) := by decide +kernel
theorem dMo_takesKept_12 : decode prog_10_method_88_code 12 = .ok (.iload_n 1, 1) := by decide +kernel
theorem dMo_takesKept_13 : decode prog_10_method_88_code 13 = .ok (.invokevirtual 138, 3) := by decide +kernel
theorem dMo_takesKept_16 : decode prog_10_method_88_code 16 = .ok (.ifCond .ne 6, 3) := by decide +kernel
theorem dMo_takesKept_19 : decode prog_10_method_88_code 19 = .ok (.bipush (-3), 2) := by decide +kernel
theorem dMo_takesKept_21 : decode prog_10_method_88_code 21 = .ok (.ireturn, 1) := by decide +kernel
theorem dMo_takesKept_22 : decode prog_10_method_88_code 22 = .ok (.aload_n 0, 1) := by decide +kernel
theorem dMo_takesKept_23 : decode prog_10_method_88_code 23 = .ok (.iconst 1, 1) := by decide +kernel
theorem dMo_takesKept_24 : decode prog_10_method_88_code 24 = .ok (.invokevirtual 359, 3) := by decide +kernel
theorem dMo_takesKept_27 : decode prog_10_method_88_code 27 = .ok (.aload_n 0, 1) := by decide +kernel
theorem dMo_takesKept_28 : decode prog_10_method_88_code 28 = .ok (.getfield 28, 3) := by decide +kernel
theorem dMo_takesKept_31 : decode prog_10_method_88_code 31 = .ok (.bipush 7, 2) := by decide +kernel
theorem dMo_takesKept_33 : decode prog_10_method_88_code 33 = .ok (.iload_n 1, 1) := by decide +kernel
theorem dMo_takesKept_34 : decode prog_10_method_88_code 34 = .ok (.iadd, 1) := by decide +kernel
theorem dMo_takesKept_35 : decode prog_10_method_88_code 35 = .ok (.iconst (-1), 1) := by decide +kernel
theorem dMo_takesKept_36 : decode prog_10_method_88_code 36 = .ok (.iastore, 1) := by decide +kernel
theorem dMo_takesKept_37 : decode prog_10_method_88_code 37 = .ok (.aload_n 0, 1) := by decide +kernel
theorem dMo_takesKept_38 : decode prog_10_method_88_code 38 = .ok (.invokevirtual 154, 3) := by decide +kernel
theorem dMo_takesKept_41 : decode prog_10_method_88_code 41 = .ok (.invokestatic 163, 3) := by decide +kernel
theorem dMo_takesKept_44 : decode prog_10_method_88_code 44 = .ok (.ireturn, 1) := by decide +kernel
theorem dMo_passesKept_0 : decode prog_10_method_90_code 0 = .ok (.aload_n 0, 1) := by decide +kernel
theorem dMo_passesKept_1 : decode prog_10_method_90_code 1 = .ok (.getfield 28, 3) := by decide +kernel
theorem dMo_passesKept_4 : decode prog_10_method_90_code 4 = .ok (.bipush 14, 2) := by decide +kernel
theorem dMo_passesKept_6 : decode prog_10_method_90_code 6 = .ok (.iaload, 1) := by decide +kernel
theorem dMo_passesKept_7 : decode prog_10_method_90_code 7 = .ok (.sipush 999, 3) := by decide +kernel
theorem dMo_passesKept_10 : decode prog_10_method_90_code 10 = .ok (.if_icmp .ne 6, 3) := by decide +kernel
theorem dMo_passesKept_13 : decode prog_10_method_90_code 13 = .ok (.bipush (-3), 2) := by decide +kernel
theorem dMo_passesKept_15 : decode prog_10_method_90_code 15 = .ok (.ireturn, 1) := by decide +kernel
theorem dMo_passesKept_16 : decode prog_10_method_90_code 16 = .ok (.aload_n 0, 1) := by decide +kernel
theorem dMo_passesKept_17 : decode prog_10_method_90_code 17 = .ok (.iconst 3, 1) := by decide +kernel
theorem dMo_passesKept_18 : decode prog_10_method_90_code 18 = .ok (.invokevirtual 359, 3) := by decide +kernel
theorem dMo_passesKept_21 : decode prog_10_method_90_code 21 = .ok (.aload_n 0, 1) := by decide +kernel
theorem dMo_passesKept_22 : decode prog_10_method_90_code 22 = .ok (.invokevirtual 362, 3) := by decide +kernel
theorem dMo_passesKept_25 : decode prog_10_method_90_code 25 = .ok (.ireturn, 1) := by decide +kernel
theorem dMo_put_0 : decode prog_10_method_91_code 0 = .ok (.aload_n 0, 1) := by decide +kernel
theorem dMo_put_1 : decode prog_10_method_91_code 1 = .ok (.aload_n 0, 1) := by decide +kernel
theorem dMo_put_2 : decode prog_10_method_91_code 2 = .ok (.iload_n 1, 1) := by decide +kernel
theorem dMo_put_3 : decode prog_10_method_91_code 3 = .ok (.iload_n 2, 1) := by decide +kernel
theorem dMo_put_4 : decode prog_10_method_91_code 4 = .ok (.invokevirtual 365, 3) := by decide +kernel
theorem dMo_put_7 : decode prog_10_method_91_code 7 = .ok (.invokevirtual 368, 3) := by decide +kernel
theorem dMo_put_10 : decode prog_10_method_91_code 10 = .ok (.ireturn, 1) := by decide +kernel
theorem dMo_take_0 : decode prog_10_method_92_code 0 = .ok (.aload_n 0, 1) := by decide +kernel
theorem dMo_take_1 : decode prog_10_method_92_code 1 = .ok (.aload_n 0, 1) := by decide +kernel
theorem dMo_take_2 : decode prog_10_method_92_code 2 = .ok (.iload_n 1, 1) := by decide +kernel
theorem dMo_take_3 : decode prog_10_method_92_code 3 = .ok (.invokevirtual 371, 3) := by decide +kernel
theorem dMo_take_6 : decode prog_10_method_92_code 6 = .ok (.invokevirtual 368, 3) := by decide +kernel
theorem dMo_take_9 : decode prog_10_method_92_code 9 = .ok (.ireturn, 1) := by decide +kernel
theorem dMo_pass_0 : decode prog_10_method_94_code 0 = .ok (.aload_n 0, 1) := by decide +kernel
theorem dMo_pass_1 : decode prog_10_method_94_code 1 = .ok (.aload_n 0, 1) := by decide +kernel
theorem dMo_pass_2 : decode prog_10_method_94_code 2 = .ok (.invokevirtual 377, 3) := by decide +kernel
theorem dMo_pass_5 : decode prog_10_method_94_code 5 = .ok (.invokevirtual 368, 3) := by decide +kernel
theorem dMo_pass_8 : decode prog_10_method_94_code 8 = .ok (.ireturn, 1) := by decide +kernel
theorem dMo_laysPulls_0 : decode prog_10_method_95_code 0 = .ok (.iconst 0, 1) := by decide +kernel
theorem dMo_laysPulls_1 : decode prog_10_method_95_code 1 = .ok (.istore_n 1, 1) := by decide +kernel
theorem dMo_laysPulls_2 : decode prog_10_method_95_code 2 = .ok (.iload_n 1, 1) := by decide +kernel
theorem dMo_laysPulls_3 : decode prog_10_method_95_code 3 = .ok (.aload_n 0, 1) := by decide +kernel
theorem dMo_laysPulls_4 : decode prog_10_method_95_code 4 = .ok (.invokevirtual 119, 3) := by decide +kernel
theorem dMo_laysPulls_7 : decode prog_10_method_95_code 7 = .ok (.if_icmp .ge 62, 3) := by decide +kernel
theorem dMo_laysPulls_10 : decode prog_10_method_95_code 10 = .ok (.iconst 0, 1) := by decide +kernel
theorem dMo_laysPulls_11 : decode prog_10_method_95_code 11 = .ok (.istore_n 2, 1) := by decide +kernel
theorem dMo_laysPulls_12 : decode prog_10_method_95_code 12 = .ok (.iload_n 2, 1) := by decide +kernel
theorem dMo_laysPulls_13 : decode prog_10_method_95_code 13 = .ok (.bipush 7, 2) := by decide +kernel
theorem dMo_laysPulls_15 : decode prog_10_method_95_code 15 = .ok (.if_icmp .ge 48, 3) := by decide +kernel
theorem dMo_laysPulls_18 : decode prog_10_method_95_code 18 = .ok (.aload_n 0, 1) := by decide +kernel
theorem dMo_laysPulls_19 : decode prog_10_method_95_code 19 = .ok (.getfield 75, 3) := by decide +kernel
theorem dMo_laysPulls_22 : decode prog_10_method_95_code 22 = .ok (.bipush 7, 2) := by decide +kernel
theorem dMo_laysPulls_24 : decode prog_10_method_95_code 24 = .ok (.iload_n 1, 1) := by decide +kernel
theorem dMo_laysPulls_25 : decode prog_10_method_95_code 25 = .ok (.imul, 1) := by decide +kernel
theorem dMo_laysPulls_26 : decode prog_10_method_95_code 26 = .ok (.iload_n 2, 1) := by decide +kernel
theorem dMo_laysPulls_27 : decode prog_10_method_95_code 27 = .ok (.iadd, 1) := by decide +kernel
theorem dMo_laysPulls_28 : decode prog_10_method_95_code 28 = .ok (.aload_n 0, 1) := by decide +kernel
theorem dMo_laysPulls_29 : decode prog_10_method_95_code 29 = .ok (.iload_n 1, 1) := by decide +kernel
theorem dMo_laysPulls_30 : decode prog_10_method_95_code 30 = .ok (.iload_n 2, 1) := by decide +kernel
theorem dMo_laysPulls_31 : decode prog_10_method_95_code 31 = .ok (.invokevirtual 141, 3) := by decide +kernel
theorem dMo_laysPulls_34 : decode prog_10_method_95_code 34 = .ok (.iload_n 2, 1) := by decide +kernel
theorem dMo_laysPulls_35 : decode prog_10_method_95_code 35 = .ok (.invokestatic 160, 3) := by decide +kernel
theorem dMo_laysPulls_38 : decode prog_10_method_95_code 38 = .ok (.imul, 1) := by decide +kernel
theorem dMo_laysPulls_39 : decode prog_10_method_95_code 39 = .ok (.iastore, 1) := by decide +kernel
theorem dMo_laysPulls_40 : decode prog_10_method_95_code 40 = .ok (.aload_n 0, 1) := by decide +kernel
theorem dMo_laysPulls_41 : decode prog_10_method_95_code 41 = .ok (.getfield 78, 3) := by decide +kernel
theorem dMo_laysPulls_44 : decode prog_10_method_95_code 44 = .ok (.bipush 7, 2) := by decide +kernel
theorem dMo_laysPulls_46 : decode prog_10_method_95_code 46 = .ok (.iload_n 1, 1) := by decide +kernel
theorem dMo_laysPulls_47 : decode prog_10_method_95_code 47 = .ok (.imul, 1) := by decide +kernel
theorem dMo_laysPulls_48 : decode prog_10_method_95_code 48 = .ok (.iload_n 2, 1) := by decide +kernel
theorem dMo_laysPulls_49 : decode prog_10_method_95_code 49 = .ok (.iadd, 1) := by decide +kernel
theorem dMo_laysPulls_50 : decode prog_10_method_95_code 50 = .ok (.aload_n 0, 1) := by decide +kernel
theorem dMo_laysPulls_51 : decode prog_10_method_95_code 51 = .ok (.iload_n 1, 1) := by decide +kernel
theorem dMo_laysPulls_52 : decode prog_10_method_95_code 52 = .ok (.iload_n 2, 1) := by decide +kernel
theorem dMo_laysPulls_53 : decode prog_10_method_95_code 53 = .ok (.invokevirtual 151, 3) := by decide +kernel
theorem dMo_laysPulls_56 : decode prog_10_method_95_code 56 = .ok (.bastore, 1) := by decide +kernel
theorem dMo_laysPulls_57 : decode prog_10_method_95_code 57 = .ok (.iinc 2 1, 3) := by decide +kernel
theorem dMo_laysPulls_60 : decode prog_10_method_95_code 60 = .ok (.goto (-48), 3) := by decide +kernel
theorem dMo_laysPulls_63 : decode prog_10_method_95_code 63 = .ok (.iinc 1 1, 3) := by decide +kernel
theorem dMo_laysPulls_66 : decode prog_10_method_95_code 66 = .ok (.goto (-64), 3) := by decide +kernel
theorem dMo_laysPulls_69 : decode prog_10_method_95_code 69 = .ok (.return_, 1) := by decide +kernel
theorem dMo_laysBest_0 : decode prog_10_method_102_code 0 = .ok (.aload_n 0, 1) := by decide +kernel
theorem dMo_laysBest_1 : decode prog_10_method_102_code 1 = .ok (.iload_n 1, 1) := by decide +kernel
theorem dMo_laysBest_2 : decode prog_10_method_102_code 2 = .ok (.putfield 380, 3) := by decide +kernel
theorem dMo_laysBest_5 : decode prog_10_method_102_code 5 = .ok (.aload_n 0, 1) := by decide +kernel
theorem dMo_laysBest_6 : decode prog_10_method_102_code 6 = .ok (.invokevirtual 399, 3) := by decide +kernel
theorem dMo_laysBest_9 : decode prog_10_method_102_code 9 = .ok (.sipush 297, 3) := by decide +kernel
theorem dMo_laysBest_12 : decode prog_10_method_102_code 12 = .ok (.istore_n 2, 1) := by decide +kernel
theorem dMo_laysBest_13 : decode prog_10_method_102_code 13 = .ok (.iload_n 2, 1) := by decide +kernel
theorem dMo_laysBest_14 : decode prog_10_method_102_code 14 = .ok (.ineg, 1) := by decide +kernel
theorem dMo_laysBest_15 : decode prog_10_method_102_code 15 = .ok (.aload_n 0, 1) := by decide +kernel
theorem dMo_laysBest_16 : decode prog_10_method_102_code 16 = .ok (.invokevirtual 119, 3) := by decide +kernel
theorem dMo_laysBest_19 : decode prog_10_method_102_code 19 = .ok (.imul, 1) := by decide +kernel
theorem dMo_laysBest_20 : decode prog_10_method_102_code 20 = .ok (.istore_n 3, 1) := by decide +kernel
theorem dMo_laysBest_21 : decode prog_10_method_102_code 21 = .ok (.iload_n 3, 1) := by decide +kernel
theorem dMo_laysBest_22 : decode prog_10_method_102_code 22 = .ok (.iload_n 2, 1) := by decide +kernel
theorem dMo_laysBest_23 : decode prog_10_method_102_code 23 = .ok (.aload_n 0, 1) := by decide +kernel
theorem dMo_laysBest_24 : decode prog_10_method_102_code 24 = .ok (.invokevirtual 119, 3) := by decide +kernel
theorem dMo_laysBest_27 : decode prog_10_method_102_code 27 = .ok (.imul, 1) := by decide +kernel
theorem dMo_laysBest_28 : decode prog_10_method_102_code 28 = .ok (.if_icmp .gt 33, 3) := by decide +kernel
theorem dMo_laysBest_31 : decode prog_10_method_102_code 31 = .ok (.aload_n 0, 1) := by decide +kernel
theorem dMo_laysBest_32 : decode prog_10_method_102_code 32 = .ok (.getfield 82, 3) := by decide +kernel
theorem dMo_laysBest_35 : decode prog_10_method_102_code 35 = .ok (.sipush 4201, 3) := by decide +kernel
theorem dMo_laysBest_38 : decode prog_10_method_102_code 38 = .ok (.aload_n 0, 1) := by decide +kernel
theorem dMo_laysBest_39 : decode prog_10_method_102_code 39 = .ok (.invokevirtual 119, 3) := by decide +kernel
theorem dMo_laysBest_42 : decode prog_10_method_102_code 42 = .ok (.imul, 1) := by decide +kernel
theorem dMo_laysBest_43 : decode prog_10_method_102_code 43 = .ok (.sipush 2100, 3) := by decide +kernel
theorem dMo_laysBest_46 : decode prog_10_method_102_code 46 = .ok (.iadd, 1) := by decide +kernel
theorem dMo_laysBest_47 : decode prog_10_method_102_code 47 = .ok (.iload_n 3, 1) := by decide +kernel
theorem dMo_laysBest_48 : decode prog_10_method_102_code 48 = .ok (.iadd, 1) := by decide +kernel
theorem dMo_laysBest_49 : decode prog_10_method_102_code 49 = .ok (.aload_n 0, 1) := by decide +kernel
theorem dMo_laysBest_50 : decode prog_10_method_102_code 50 = .ok (.iload_n 3, 1) := by decide +kernel
theorem dMo_laysBest_51 : decode prog_10_method_102_code 51 = .ok (.invokevirtual 402, 3) := by decide +kernel
theorem dMo_laysBest_54 : decode prog_10_method_102_code 54 = .ok (.iastore, 1) := by decide +kernel
theorem dMo_laysBest_55 : decode prog_10_method_102_code 55 = .ok (.iinc 3 1, 3) := by decide +kernel
theorem dMo_laysBest_58 : decode prog_10_method_102_code 58 = .ok (.goto (-37), 3) := by decide +kernel
theorem dMo_laysBest_61 : decode prog_10_method_102_code 61 = .ok (.aload_n 0, 1) := by decide +kernel
theorem dMo_laysBest_62 : decode prog_10_method_102_code 62 = .ok (.invokevirtual 119, 3) := by decide +kernel
theorem dMo_laysBest_65 : decode prog_10_method_102_code 65 = .ok (.iconst 1, 1) := by decide +kernel
theorem dMo_laysBest_66 : decode prog_10_method_102_code 66 = .ok (.isub, 1) := by decide +kernel
theorem dMo_laysBest_67 : decode prog_10_method_102_code 67 = .ok (.istore_n 3, 1) := by decide +kernel
theorem dMo_laysBest_68 : decode prog_10_method_102_code 68 = .ok (.iload_n 3, 1) := by decide +kernel
theorem dMo_laysBest_69 : decode prog_10_method_102_code 69 = .ok (.ifCond .lt 53, 3) := by decide +kernel
theorem dMo_laysBest_72 : decode prog_10_method_102_code 72 = .ok (.iload_n 2, 1) := by decide +kernel
theorem dMo_laysBest_73 : decode prog_10_method_102_code 73 = .ok (.ineg, 1) := by decide +kernel
theorem dMo_laysBest_74 : decode prog_10_method_102_code 74 = .ok (.iload_n 3, 1) := by decide +kernel
theorem dMo_laysBest_75 : decode prog_10_method_102_code 75 = .ok (.imul, 1) := by decide +kernel
theorem dMo_laysBest_76 : decode prog_10_method_102_code 76 = .ok (.istore 4, 2) := by decide +kernel
theorem dMo_laysBest_78 : decode prog_10_method_102_code 78 = .ok (.iload 4, 2) := by decide +kernel
theorem dMo_laysBest_80 : decode prog_10_method_102_code 80 = .ok (.iload_n 2, 1) := by decide +kernel
theorem dMo_laysBest_81 : decode prog_10_method_102_code 81 = .ok (.iload_n 3, 1) := by decide +kernel
theorem dMo_laysBest_82 : decode prog_10_method_102_code 82 = .ok (.imul, 1) := by decide +kernel
theorem dMo_laysBest_83 : decode prog_10_method_102_code 83 = .ok (.if_icmp .gt 33, 3) := by decide +kernel
theorem dMo_laysBest_86 : decode prog_10_method_102_code 86 = .ok (.aload_n 0, 1) := by decide +kernel
theorem dMo_laysBest_87 : decode prog_10_method_102_code 87 = .ok (.getfield 82, 3) := by decide +kernel
theorem dMo_laysBest_90 : decode prog_10_method_102_code 90 = .ok (.sipush 4201, 3) := by decide +kernel
theorem dMo_laysBest_93 : decode prog_10_method_102_code 93 = .ok (.iload_n 3, 1) := by decide +kernel
theorem dMo_laysBest_94 : decode prog_10_method_102_code 94 = .ok (.imul, 1) := by decide +kernel
theorem dMo_laysBest_95 : decode prog_10_method_102_code 95 = .ok (.sipush 2100, 3) := by decide +kernel
theorem dMo_laysBest_98 : decode prog_10_method_102_code 98 = .ok (.iadd, 1) := by decide +kernel
theorem dMo_laysBest_99 : decode prog_10_method_102_code 99 = .ok (.iload 4, 2) := by decide +kernel
theorem dMo_laysBest_101 : decode prog_10_method_102_code 101 = .ok (.iadd, 1) := by decide +kernel
theorem dMo_laysBest_102 : decode prog_10_method_102_code 102 = .ok (.aload_n 0, 1) := by decide +kernel
theorem dMo_laysBest_103 : decode prog_10_method_102_code 103 = .ok (.iload_n 3, 1) := by decide +kernel
theorem dMo_laysBest_104 : decode prog_10_method_102_code 104 = .ok (.iload 4, 2) := by decide +kernel
theorem dMo_laysBest_106 : decode prog_10_method_102_code 106 = .ok (.invokevirtual 405, 3) := by decide +kernel
theorem dMo_laysBest_109 : decode prog_10_method_102_code 109 = .ok (.iastore, 1) := by decide +kernel
theorem dMo_laysBest_110 : decode prog_10_method_102_code 110 = .ok (.iinc 4 1, 3) := by decide +kernel
theorem dMo_laysBest_113 : decode prog_10_method_102_code 113 = .ok (.goto (-35), 3) := by decide +kernel
theorem dMo_laysBest_116 : decode prog_10_method_102_code 116 = .ok (.iinc 3 (-1), 3) := by decide +kernel
theorem dMo_laysBest_119 : decode prog_10_method_102_code 119 = .ok (.goto (-51), 3) := by decide +kernel
theorem dMo_laysBest_122 : decode prog_10_method_102_code 122 = .ok (.return_, 1) := by decide +kernel
theorem dMo_rowTold_0 : decode prog_10_method_104_code 0 = .ok (.iload_n 2, 1) := by decide +kernel
theorem dMo_rowTold_1 : decode prog_10_method_104_code 1 = .ok (.iconst (-1), 1) := by decide +kernel
theorem dMo_rowTold_2 : decode prog_10_method_104_code 2 = .ok (.if_icmp .eq 13, 3) := by decide +kernel
theorem dMo_rowTold_5 : decode prog_10_method_104_code 5 = .ok (.aload_n 0, 1) := by decide +kernel
theorem dMo_rowTold_6 : decode prog_10_method_104_code 6 = .ok (.iload_n 2, 1) := by decide +kernel
theorem dMo_rowTold_7 : decode prog_10_method_104_code 7 = .ok (.invokevirtual 135, 3) := by decide +kernel
theorem dMo_rowTold_10 : decode prog_10_method_104_code 10 = .ok (.ifCond .ne 5, 3) := by decide +kernel
theorem dMo_rowTold_13 : decode prog_10_method_104_code 13 = .ok (.iconst (-1), 1) := by decide +kernel
theorem dMo_rowTold_14 : decode prog_10_method_104_code 14 = .ok (.ireturn, 1) := by decide +kernel
theorem dMo_rowTold_15 : decode prog_10_method_104_code 15 = .ok (.aload_n 0, 1) := by decide +kernel
theorem dMo_rowTold_16 : decode prog_10_method_104_code 16 = .ok (.iload_n 1, 1) := by decide +kernel
theorem dMo_rowTold_17 : decode prog_10_method_104_code 17 = .ok (.invokevirtual 408, 3) := by decide +kernel
theorem dMo_rowTold_20 : decode prog_10_method_104_code 20 = .ok (.aload_n 0, 1) := by decide +kernel
theorem dMo_rowTold_21 : decode prog_10_method_104_code 21 = .ok (.iconst 0, 1) := by decide +kernel
theorem dMo_rowTold_22 : decode prog_10_method_104_code 22 = .ok (.iconst 0, 1) := by decide +kernel
theorem dMo_rowTold_23 : decode prog_10_method_104_code 23 = .ok (.invokevirtual 383, 3) := by decide +kernel
theorem dMo_rowTold_26 : decode prog_10_method_104_code 26 = .ok (.istore_n 3, 1) := by decide +kernel
theorem dMo_rowTold_27 : decode prog_10_method_104_code 27 = .ok (.iload_n 3, 1) := by decide +kernel
theorem dMo_rowTold_28 : decode prog_10_method_104_code 28 = .ok (.ldc 193, 2) := by decide +kernel
theorem dMo_rowTold_30 : decode prog_10_method_104_code 30 = .ok (.if_icmp .ne 7, 3) := by decide +kernel
theorem dMo_rowTold_33 : decode prog_10_method_104_code 33 = .ok (.iconst (-1), 1) := by decide +kernel
theorem dMo_rowTold_34 : decode prog_10_method_104_code 34 = .ok (.goto 17, 3) := by decide +kernel
theorem dMo_rowTold_37 : decode prog_10_method_104_code 37 = .ok (.iload_n 2, 1) := by decide +kernel
theorem dMo_rowTold_38 : decode prog_10_method_104_code 38 = .ok (.iconst (-1), 1) := by decide +kernel
theorem dMo_rowTold_39 : decode prog_10_method_104_code 39 = .ok (.if_icmp .ne 7, 3) := by decide +kernel
theorem dMo_rowTold_42 : decode prog_10_method_104_code 42 = .ok (.iload_n 3, 1) := by decide +kernel
theorem dMo_rowTold_43 : decode prog_10_method_104_code 43 = .ok (.goto 8, 3) := by decide +kernel
theorem dMo_rowTold_46 : decode prog_10_method_104_code 46 = .ok (.aload_n 0, 1) := by decide +kernel
theorem dMo_rowTold_47 : decode prog_10_method_104_code 47 = .ok (.iload_n 2, 1) := by decide +kernel
theorem dMo_rowTold_48 : decode prog_10_method_104_code 48 = .ok (.invokevirtual 411, 3) := by decide +kernel
theorem dMo_rowTold_51 : decode prog_10_method_104_code 51 = .ok (.ireturn, 1) := by decide +kernel
theorem dMo_rowMany_0 : decode prog_10_method_105_code 0 = .ok (.aload_n 0, 1) := by decide +kernel
theorem dMo_rowMany_1 : decode prog_10_method_105_code 1 = .ok (.iconst 3, 1) := by decide +kernel
theorem dMo_rowMany_2 : decode prog_10_method_105_code 2 = .ok (.invokevirtual 408, 3) := by decide +kernel
theorem dMo_rowMany_5 : decode prog_10_method_105_code 5 = .ok (.aload_n 0, 1) := by decide +kernel
theorem dMo_rowMany_6 : decode prog_10_method_105_code 6 = .ok (.iconst 0, 1) := by decide +kernel
theorem dMo_rowMany_7 : decode prog_10_method_105_code 7 = .ok (.iconst 0, 1) := by decide +kernel
theorem dMo_rowMany_8 : decode prog_10_method_105_code 8 = .ok (.invokevirtual 383, 3) := by decide +kernel
theorem dMo_rowMany_11 : decode prog_10_method_105_code 11 = .ok (.ireturn, 1) := by decide +kernel
theorem dMo_settle_0 : decode prog_10_method_106_code 0 = .ok (.iload_n 1, 1) := by decide +kernel
theorem dMo_settle_1 : decode prog_10_method_106_code 1 = .ok (.iconst (-1), 1) := by decide +kernel
theorem dMo_settle_2 : decode prog_10_method_106_code 2 = .ok (.if_icmp .ne 10, 3) := by decide +kernel
theorem dMo_settle_5 : decode prog_10_method_106_code 5 = .ok (.aload_n 0, 1) := by decide +kernel
theorem dMo_settle_6 : decode prog_10_method_106_code 6 = .ok (.invokevirtual 414, 3) := by decide +kernel
theorem dMo_settle_9 : decode prog_10_method_106_code 9 = .ok (.goto 9, 3) := by decide +kernel
theorem dMo_settle_12 : decode prog_10_method_106_code 12 = .ok (.aload_n 0, 1) := by decide +kernel
theorem dMo_settle_13 : decode prog_10_method_106_code 13 = .ok (.iconst 0, 1) := by decide +kernel
theorem dMo_settle_14 : decode prog_10_method_106_code 14 = .ok (.iload_n 1, 1) := by decide +kernel
theorem dMo_settle_15 : decode prog_10_method_106_code 15 = .ok (.invokevirtual 417, 3) := by decide +kernel
theorem dMo_settle_18 : decode prog_10_method_106_code 18 = .ok (.istore_n 2, 1) := by decide +kernel
theorem dMo_settle_19 : decode prog_10_method_106_code 19 = .ok (.iload_n 1, 1) := by decide +kernel
theorem dMo_settle_20 : decode prog_10_method_106_code 20 = .ok (.iconst (-1), 1) := by decide +kernel
theorem dMo_settle_21 : decode prog_10_method_106_code 21 = .ok (.if_icmp .ne 11, 3) := by decide +kernel
theorem dMo_settle_24 : decode prog_10_method_106_code 24 = .ok (.iload_n 2, 1) := by decide +kernel
theorem dMo_settle_25 : decode prog_10_method_106_code 25 = .ok (.ifCond .ne 7, 3) := by decide +kernel
theorem dMo_settle_28 : decode prog_10_method_106_code 28 = .ok (.iconst (-1), 1) := by decide +kernel
theorem dMo_settle_29 : decode prog_10_method_106_code 29 = .ok (.goto 4, 3) := by decide +kernel
theorem dMo_settle_32 : decode prog_10_method_106_code 32 = .ok (.iload_n 2, 1) := by decide +kernel
theorem dMo_settle_33 : decode prog_10_method_106_code 33 = .ok (.ireturn, 1) := by decide +kernel
theorem dMo_least_0 : decode prog_10_method_107_code 0 = .ok (.aload_n 0, 1) := by decide +kernel
theorem dMo_least_1 : decode prog_10_method_107_code 1 = .ok (.iconst 1, 1) := by decide +kernel
theorem dMo_least_2 : decode prog_10_method_107_code 2 = .ok (.iload_n 1, 1) := by decide +kernel
theorem dMo_least_3 : decode prog_10_method_107_code 3 = .ok (.invokevirtual 417, 3) := by decide +kernel
theorem dMo_least_6 : decode prog_10_method_107_code 6 = .ok (.ireturn, 1) := by decide +kernel
theorem dMo_moved_0 : decode prog_10_method_108_code 0 = .ok (.aload_n 0, 1) := by decide +kernel
theorem dMo_moved_1 : decode prog_10_method_108_code 1 = .ok (.iconst 2, 1) := by decide +kernel
theorem dMo_moved_2 : decode prog_10_method_108_code 2 = .ok (.iload_n 1, 1) := by decide +kernel
theorem dMo_moved_3 : decode prog_10_method_108_code 3 = .ok (.invokevirtual 417, 3) := by decide +kernel
theorem dMo_moved_6 : decode prog_10_method_108_code 6 = .ok (.ireturn, 1) := by decide +kernel
theorem dMo_alone_0 : decode prog_10_method_109_code 0 = .ok (.aload_n 0, 1) := by decide +kernel
theorem dMo_alone_1 : decode prog_10_method_109_code 1 = .ok (.invokevirtual 399, 3) := by decide +kernel
theorem dMo_alone_4 : decode prog_10_method_109_code 4 = .ok (.aload_n 0, 1) := by decide +kernel
theorem dMo_alone_5 : decode prog_10_method_109_code 5 = .ok (.invokevirtual 154, 3) := by decide +kernel
theorem dMo_alone_8 : decode prog_10_method_109_code 8 = .ok (.istore_n 1, 1) := by decide +kernel
theorem dMo_alone_9 : decode prog_10_method_109_code 9 = .ok (.iconst 0, 1) := by decide +kernel
theorem dMo_alone_10 : decode prog_10_method_109_code 10 = .ok (.istore_n 2, 1) := by decide +kernel
theorem dMo_alone_11 : decode prog_10_method_109_code 11 = .ok (.iconst 0, 1) := by decide +kernel
theorem dMo_alone_12 : decode prog_10_method_109_code 12 = .ok (.istore_n 3, 1) := by decide +kernel
theorem dMo_alone_13 : decode prog_10_method_109_code 13 = .ok (.iload_n 3, 1) := by decide +kernel
theorem dMo_alone_14 : decode prog_10_method_109_code 14 = .ok (.aload_n 0, 1) := by decide +kernel
theorem dMo_alone_15 : decode prog_10_method_109_code 15 = .ok (.invokevirtual 119, 3) := by decide +kernel
theorem dMo_alone_18 : decode prog_10_method_109_code 18 = .ok (.if_icmp .ge 79, 3) := by decide +kernel
theorem dMo_alone_21 : decode prog_10_method_109_code 21 = .ok (.iconst 0, 1) := by decide +kernel
theorem dMo_alone_22 : decode prog_10_method_109_code 22 = .ok (.istore 4, 2) := by decide +kernel
theorem dMo_alone_24 : decode prog_10_method_109_code 24 = .ok (.iload 4, 2) := by decide +kernel
theorem dMo_alone_26 : decode prog_10_method_109_code 26 = .ok (.bipush 7, 2) := by decide +kernel
theorem dMo_alone_28 : decode prog_10_method_109_code 28 = .ok (.if_icmp .ge 63, 3) := by decide +kernel
theorem dMo_alone_31 : decode prog_10_method_109_code 31 = .ok (.iload_n 2, 1) := by decide +kernel
theorem dMo_alone_32 : decode prog_10_method_109_code 32 = .ok (.aload_n 0, 1) := by decide +kernel
theorem dMo_alone_33 : decode prog_10_method_109_code 33 = .ok (.iload_n 3, 1) := by decide +kernel
theorem dMo_alone_34 : decode prog_10_method_109_code 34 = .ok (.invokevirtual 138, 3) := by decide +kernel
theorem dMo_alone_37 : decode prog_10_method_109_code 37 = .ok (.ifCond .ne 45, 3) := by decide +kernel
theorem dMo_alone_40 : decode prog_10_method_109_code 40 = .ok (.aload_n 0, 1) := by decide +kernel
theorem dMo_alone_41 : decode prog_10_method_109_code 41 = .ok (.getfield 78, 3) := by decide +kernel
theorem dMo_alone_44 : decode prog_10_method_109_code 44 = .ok (.bipush 7, 2) := by decide +kernel
theorem dMo_alone_46 : decode prog_10_method_109_code 46 = .ok (.iload_n 3, 1) := by decide +kernel
theorem dMo_alone_47 : decode prog_10_method_109_code 47 = .ok (.imul, 1) := by decide +kernel
theorem dMo_alone_48 : decode prog_10_method_109_code 48 = .ok (.iload 4, 2) := by decide +kernel
theorem dMo_alone_50 : decode prog_10_method_109_code 50 = .ok (.iadd, 1) := by decide +kernel
theorem dMo_alone_51 : decode prog_10_method_109_code 51 = .ok (.baload, 1) := by decide +kernel
theorem dMo_alone_52 : decode prog_10_method_109_code 52 = .ok (.ifCond .ne 30, 3) := by decide +kernel
theorem dMo_alone_55 : decode prog_10_method_109_code 55 = .ok (.aload_n 0, 1) := by decide +kernel
theorem dMo_alone_56 : decode prog_10_method_109_code 56 = .ok (.iload_n 1, 1) := by decide +kernel
theorem dMo_alone_57 : decode prog_10_method_109_code 57 = .ok (.aload_n 0, 1) := by decide +kernel
theorem dMo_alone_58 : decode prog_10_method_109_code 58 = .ok (.getfield 75, 3) := by decide +kernel
theorem dMo_alone_61 : decode prog_10_method_109_code 61 = .ok (.bipush 7, 2) := by decide +kernel
theorem dMo_alone_63 : decode prog_10_method_109_code 63 = .ok (.iload_n 3, 1) := by decide +kernel
theorem dMo_alone_64 : decode prog_10_method_109_code 64 = .ok (.imul, 1) := by decide +kernel
theorem dMo_alone_65 : decode prog_10_method_109_code 65 = .ok (.iload 4, 2) := by decide +kernel
theorem dMo_alone_67 : decode prog_10_method_109_code 67 = .ok (.iadd, 1) := by decide +kernel
theorem dMo_alone_68 : decode prog_10_method_109_code 68 = .ok (.iaload, 1) := by decide +kernel
theorem dMo_alone_69 : decode prog_10_method_109_code 69 = .ok (.iadd, 1) := by decide +kernel
theorem dMo_alone_70 : decode prog_10_method_109_code 70 = .ok (.invokevirtual 166, 3) := by decide +kernel
theorem dMo_alone_73 : decode prog_10_method_109_code 73 = .ok (.ifCond .eq 9, 3) := by decide +kernel
theorem dMo_alone_76 : decode prog_10_method_109_code 76 = .ok (.iconst 1, 1) := by decide +kernel
theorem dMo_alone_77 : decode prog_10_method_109_code 77 = .ok (.iload_n 3, 1) := by decide +kernel
theorem dMo_alone_78 : decode prog_10_method_109_code 78 = .ok (.ishl, 1) := by decide +kernel
theorem dMo_alone_79 : decode prog_10_method_109_code 79 = .ok (.goto 4, 3) := by decide +kernel
theorem dMo_alone_82 : decode prog_10_method_109_code 82 = .ok (.iconst 0, 1) := by decide +kernel
theorem dMo_alone_83 : decode prog_10_method_109_code 83 = .ok (.ior, 1) := by decide +kernel
theorem dMo_alone_84 : decode prog_10_method_109_code 84 = .ok (.istore_n 2, 1) := by decide +kernel
theorem dMo_alone_85 : decode prog_10_method_109_code 85 = .ok (.iinc 4 1, 3) := by decide +kernel
theorem dMo_alone_88 : decode prog_10_method_109_code 88 = .ok (.goto (-64), 3) := by decide +kernel
theorem dMo_alone_91 : decode prog_10_method_109_code 91 = .ok (.iinc 3 1, 3) := by decide +kernel
theorem dMo_alone_94 : decode prog_10_method_109_code 94 = .ok (.goto (-81), 3) := by decide +kernel
theorem dMo_alone_97 : decode prog_10_method_109_code 97 = .ok (.iload_n 2, 1) := by decide +kernel
theorem dMo_alone_98 : decode prog_10_method_109_code 98 = .ok (.ireturn, 1) := by decide +kernel
theorem dMo_tiltWith_0 : decode prog_10_method_110_code 0 = .ok (.bipush 7, 2) := by decide +kernel
theorem dMo_tiltWith_2 : decode prog_10_method_110_code 2 = .ok (.iload_n 1, 1) := by decide +kernel
theorem dMo_tiltWith_3 : decode prog_10_method_110_code 3 = .ok (.imul, 1) := by decide +kernel
theorem dMo_tiltWith_4 : decode prog_10_method_110_code 4 = .ok (.aload_n 0, 1) := by decide +kernel
theorem dMo_tiltWith_5 : decode prog_10_method_110_code 5 = .ok (.getfield 28, 3) := by decide +kernel
theorem dMo_tiltWith_8 : decode prog_10_method_110_code 8 = .ok (.bipush 7, 2) := by decide +kernel
theorem dMo_tiltWith_10 : decode prog_10_method_110_code 10 = .ok (.iload_n 2, 1) := by decide +kernel
theorem dMo_tiltWith_11 : decode prog_10_method_110_code 11 = .ok (.iadd, 1) := by decide +kernel
theorem dMo_tiltWith_12 : decode prog_10_method_110_code 12 = .ok (.iaload, 1) := by decide +kernel
theorem dMo_tiltWith_13 : decode prog_10_method_110_code 13 = .ok (.iadd, 1) := by decide +kernel
theorem dMo_tiltWith_14 : decode prog_10_method_110_code 14 = .ok (.istore_n 3, 1) := by decide +kernel
theorem dMo_tiltWith_15 : decode prog_10_method_110_code 15 = .ok (.bipush 7, 2) := by decide +kernel
theorem dMo_tiltWith_17 : decode prog_10_method_110_code 17 = .ok (.iload_n 2, 1) := by decide +kernel
theorem dMo_tiltWith_18 : decode prog_10_method_110_code 18 = .ok (.imul, 1) := by decide +kernel
theorem dMo_tiltWith_19 : decode prog_10_method_110_code 19 = .ok (.aload_n 0, 1) := by decide +kernel
theorem dMo_tiltWith_20 : decode prog_10_method_110_code 20 = .ok (.getfield 28, 3) := by decide +kernel
theorem dMo_tiltWith_23 : decode prog_10_method_110_code 23 = .ok (.bipush 7, 2) := by decide +kernel
theorem dMo_tiltWith_25 : decode prog_10_method_110_code 25 = .ok (.iload_n 1, 1) := by decide +kernel
theorem dMo_tiltWith_26 : decode prog_10_method_110_code 26 = .ok (.iadd, 1) := by decide +kernel
theorem dMo_tiltWith_27 : decode prog_10_method_110_code 27 = .ok (.iaload, 1) := by decide +kernel
theorem dMo_tiltWith_28 : decode prog_10_method_110_code 28 = .ok (.iadd, 1) := by decide +kernel
theorem dMo_tiltWith_29 : decode prog_10_method_110_code 29 = .ok (.istore 4, 2) := by decide +kernel
theorem dMo_tiltWith_31 : decode prog_10_method_110_code 31 = .ok (.aload_n 0, 1) := by decide +kernel
theorem dMo_tiltWith_32 : decode prog_10_method_110_code 32 = .ok (.getfield 78, 3) := by decide +kernel
theorem dMo_tiltWith_35 : decode prog_10_method_110_code 35 = .ok (.iload_n 3, 1) := by decide +kernel
theorem dMo_tiltWith_36 : decode prog_10_method_110_code 36 = .ok (.baload, 1) := by decide +kernel
theorem dMo_tiltWith_37 : decode prog_10_method_110_code 37 = .ok (.ifCond .ne 13, 3) := by decide +kernel
theorem dMo_tiltWith_40 : decode prog_10_method_110_code 40 = .ok (.aload_n 0, 1) := by decide +kernel
theorem dMo_tiltWith_41 : decode prog_10_method_110_code 41 = .ok (.getfield 78, 3) := by decide +kernel
theorem dMo_tiltWith_44 : decode prog_10_method_110_code 44 = .ok (.iload 4, 2) := by decide +kernel
theorem dMo_tiltWith_46 : decode prog_10_method_110_code 46 = .ok (.baload, 1) := by decide +kernel
theorem dMo_tiltWith_47 : decode prog_10_method_110_code 47 = .ok (.ifCond .eq 8, 3) := by decide +kernel
theorem dMo_tiltWith_50 : decode prog_10_method_110_code 50 = .ok (.ldc 193, 2) := by decide +kernel
theorem dMo_tiltWith_52 : decode prog_10_method_110_code 52 = .ok (.goto 37, 3) := by decide +kernel
theorem dMo_tiltWith_55 : decode prog_10_method_110_code 55 = .ok (.aload_n 0, 1) := by decide +kernel
theorem dMo_tiltWith_56 : decode prog_10_method_110_code 56 = .ok (.invokevirtual 154, 3) := by decide +kernel
theorem dMo_tiltWith_59 : decode prog_10_method_110_code 59 = .ok (.aload_n 0, 1) := by decide +kernel
theorem dMo_tiltWith_60 : decode prog_10_method_110_code 60 = .ok (.iload_n 1, 1) := by decide +kernel
theorem dMo_tiltWith_61 : decode prog_10_method_110_code 61 = .ok (.invokevirtual 157, 3) := by decide +kernel
theorem dMo_tiltWith_64 : decode prog_10_method_110_code 64 = .ok (.isub, 1) := by decide +kernel
theorem dMo_tiltWith_65 : decode prog_10_method_110_code 65 = .ok (.aload_n 0, 1) := by decide +kernel
theorem dMo_tiltWith_66 : decode prog_10_method_110_code 66 = .ok (.iload_n 2, 1) := by decide +kernel
theorem dMo_tiltWith_67 : decode prog_10_method_110_code 67 = .ok (.invokevirtual 157, 3) := by decide +kernel
theorem dMo_tiltWith_70 : decode prog_10_method_110_code 70 = .ok (.isub, 1) := by decide +kernel
theorem dMo_tiltWith_71 : decode prog_10_method_110_code 71 = .ok (.aload_n 0, 1) := by decide +kernel
theorem dMo_tiltWith_72 : decode prog_10_method_110_code 72 = .ok (.getfield 75, 3) := by decide +kernel
theorem dMo_tiltWith_75 : decode prog_10_method_110_code 75 = .ok (.iload_n 3, 1) := by decide +kernel
theorem dMo_tiltWith_76 : decode prog_10_method_110_code 76 = .ok (.iaload, 1) := by decide +kernel
theorem dMo_tiltWith_77 : decode prog_10_method_110_code 77 = .ok (.iadd, 1) := by decide +kernel
theorem dMo_tiltWith_78 : decode prog_10_method_110_code 78 = .ok (.aload_n 0, 1) := by decide +kernel
theorem dMo_tiltWith_79 : decode prog_10_method_110_code 79 = .ok (.getfield 75, 3) := by decide +kernel
theorem dMo_tiltWith_82 : decode prog_10_method_110_code 82 = .ok (.iload 4, 2) := by decide +kernel
theorem dMo_tiltWith_84 : decode prog_10_method_110_code 84 = .ok (.iaload, 1) := by decide +kernel
theorem dMo_tiltWith_85 : decode prog_10_method_110_code 85 = .ok (.iadd, 1) := by decide +kernel
theorem dMo_tiltWith_86 : decode prog_10_method_110_code 86 = .ok (.invokestatic 163, 3) := by decide +kernel
theorem dMo_tiltWith_89 : decode prog_10_method_110_code 89 = .ok (.ireturn, 1) := by decide +kernel
theorem dMo_exchanged_0 : decode prog_10_method_111_code 0 = .ok (.iload_n 1, 1) := by decide +kernel
theorem dMo_exchanged_1 : decode prog_10_method_111_code 1 = .ok (.iconst 0, 1) := by decide +kernel
theorem dMo_exchanged_2 : decode prog_10_method_111_code 2 = .ok (.iconst 1, 1) := by decide +kernel
theorem dMo_exchanged_3 : decode prog_10_method_111_code 3 = .ok (.invokestatic 18, 3) := by decide +kernel
theorem dMo_exchanged_6 : decode prog_10_method_111_code 6 = .ok (.ifCond .ne 5, 3) := by decide +kernel
theorem dMo_exchanged_9 : decode prog_10_method_111_code 9 = .ok (.iconst (-1), 1) := by decide +kernel
theorem dMo_exchanged_10 : decode prog_10_method_111_code 10 = .ok (.ireturn, 1) := by decide +kernel
theorem dMo_exchanged_11 : decode prog_10_method_111_code 11 = .ok (.aload_n 0, 1) := by decide +kernel
theorem dMo_exchanged_12 : decode prog_10_method_111_code 12 = .ok (.invokevirtual 399, 3) := by decide +kernel
theorem dMo_exchanged_15 : decode prog_10_method_111_code 15 = .ok (.aload_n 0, 1) := by decide +kernel
theorem dMo_exchanged_16 : decode prog_10_method_111_code 16 = .ok (.invokevirtual 154, 3) := by decide +kernel
theorem dMo_exchanged_19 : decode prog_10_method_111_code 19 = .ok (.invokestatic 163, 3) := by decide +kernel
theorem dMo_exchanged_22 : decode prog_10_method_111_code 22 = .ok (.istore_n 2, 1) := by decide +kernel
theorem dMo_exchanged_23 : decode prog_10_method_111_code 23 = .ok (.iconst (-1), 1) := by decide +kernel
theorem dMo_exchanged_24 : decode prog_10_method_111_code 24 = .ok (.istore_n 3, 1) := by decide +kernel
theorem dMo_exchanged_25 : decode prog_10_method_111_code 25 = .ok (.iconst 0, 1) := by decide +kernel
theorem dMo_exchanged_26 : decode prog_10_method_111_code 26 = .ok (.istore 4, 2) := by decide +kernel
theorem dMo_exchanged_28 : decode prog_10_method_111_code 28 = .ok (.iload 4, 2) := by decide +kernel
theorem dMo_exchanged_30 : decode prog_10_method_111_code 30 = .ok (.aload_n 0, 1) := by decide +kernel
theorem dMo_exchanged_31 : decode prog_10_method_111_code 31 = .ok (.invokevirtual 119, 3) := by decide +kernel
theorem dMo_exchanged_34 : decode prog_10_method_111_code 34 = .ok (.if_icmp .ge 84, 3) := by decide +kernel
theorem dMo_exchanged_37 : decode prog_10_method_111_code 37 = .ok (.iload 4, 2) := by decide +kernel
theorem dMo_exchanged_39 : decode prog_10_method_111_code 39 = .ok (.iconst 1, 1) := by decide +kernel
theorem dMo_exchanged_40 : decode prog_10_method_111_code 40 = .ok (.iadd, 1) := by decide +kernel
theorem dMo_exchanged_41 : decode prog_10_method_111_code 41 = .ok (.istore 5, 2) := by decide +kernel
theorem dMo_exchanged_43 : decode prog_10_method_111_code 43 = .ok (.iload 5, 2) := by decide +kernel
theorem dMo_exchanged_45 : decode prog_10_method_111_code 45 = .ok (.aload_n 0, 1) := by decide +kernel
theorem dMo_exchanged_46 : decode prog_10_method_111_code 46 = .ok (.invokevirtual 119, 3) := by decide +kernel
theorem dMo_exchanged_49 : decode prog_10_method_111_code 49 = .ok (.if_icmp .ge 63, 3) := by decide +kernel
theorem dMo_exchanged_52 : decode prog_10_method_111_code 52 = .ok (.aload_n 0, 1) := by decide +kernel
theorem dMo_exchanged_53 : decode prog_10_method_111_code 53 = .ok (.iload 4, 2) := by decide +kernel
theorem dMo_exchanged_55 : decode prog_10_method_111_code 55 = .ok (.invokevirtual 138, 3) := by decide +kernel
theorem dMo_exchanged_58 : decode prog_10_method_111_code 58 = .ok (.ifCond .eq 23, 3) := by decide +kernel
theorem dMo_exchanged_61 : decode prog_10_method_111_code 61 = .ok (.aload_n 0, 1) := by decide +kernel
theorem dMo_exchanged_62 : decode prog_10_method_111_code 62 = .ok (.iload 5, 2) := by decide +kernel
theorem dMo_exchanged_64 : decode prog_10_method_111_code 64 = .ok (.invokevirtual 138, 3) := by decide +kernel
theorem dMo_exchanged_67 : decode prog_10_method_111_code 67 = .ok (.ifCond .eq 14, 3) := by decide +kernel
theorem dMo_exchanged_70 : decode prog_10_method_111_code 70 = .ok (.aload_n 0, 1) := by decide +kernel
theorem dMo_exchanged_71 : decode prog_10_method_111_code 71 = .ok (.iload 4, 2) := by decide +kernel
theorem dMo_exchanged_73 : decode prog_10_method_111_code 73 = .ok (.iload 5, 2) := by decide +kernel
theorem dMo_exchanged_75 : decode prog_10_method_111_code 75 = .ok (.invokevirtual 420, 3) := by decide +kernel
theorem dMo_exchanged_78 : decode prog_10_method_111_code 78 = .ok (.goto 5, 3) := by decide +kernel
theorem dMo_exchanged_81 : decode prog_10_method_111_code 81 = .ok (.ldc 193, 2) := by decide +kernel
theorem dMo_exchanged_83 : decode prog_10_method_111_code 83 = .ok (.istore 6, 2) := by decide +kernel
theorem dMo_exchanged_85 : decode prog_10_method_111_code 85 = .ok (.iload 6, 2) := by decide +kernel
theorem dMo_exchanged_87 : decode prog_10_method_111_code 87 = .ok (.iload_n 2, 1) := by decide +kernel
theorem dMo_exchanged_88 : decode prog_10_method_111_code 88 = .ok (.if_icmp .lt 6, 3) := by decide +kernel
theorem dMo_exchanged_91 : decode prog_10_method_111_code 91 = .ok (.goto 15, 3) := by decide +kernel
theorem dMo_exchanged_94 : decode prog_10_method_111_code 94 = .ok (.iload 6, 2) := by decide +kernel
theorem dMo_exchanged_96 : decode prog_10_method_111_code 96 = .ok (.istore_n 2, 1) := by decide +kernel
theorem dMo_exchanged_97 : decode prog_10_method_111_code 97 = .ok (.bipush 10, 2) := by decide +kernel
theorem dMo_exchanged_99 : decode prog_10_method_111_code 99 = .ok (.iload 4, 2) := by decide +kernel
theorem dMo_exchanged_101 : decode prog_10_method_111_code 101 = .ok (.imul, 1) := by decide +kernel
theorem dMo_exchanged_102 : decode prog_10_method_111_code 102 = .ok (.iload 5, 2) := by decide +kernel
theorem dMo_exchanged_104 : decode prog_10_method_111_code 104 = .ok (.iadd, 1) := by decide +kernel
theorem dMo_exchanged_105 : decode prog_10_method_111_code 105 = .ok (.istore_n 3, 1) := by decide +kernel
theorem dMo_exchanged_106 : decode prog_10_method_111_code 106 = .ok (.iinc 5 1, 3) := by decide +kernel
theorem dMo_exchanged_109 : decode prog_10_method_111_code 109 = .ok (.goto (-66), 3) := by decide +kernel
theorem dMo_exchanged_112 : decode prog_10_method_111_code 112 = .ok (.iinc 4 1, 3) := by decide +kernel
theorem dMo_exchanged_115 : decode prog_10_method_111_code 115 = .ok (.goto (-87), 3) := by decide +kernel
theorem dMo_exchanged_118 : decode prog_10_method_111_code 118 = .ok (.iload_n 3, 1) := by decide +kernel
theorem dMo_exchanged_119 : decode prog_10_method_111_code 119 = .ok (.iconst (-1), 1) := by decide +kernel
theorem dMo_exchanged_120 : decode prog_10_method_111_code 120 = .ok (.if_icmp .eq 7, 3) := by decide +kernel
theorem dMo_exchanged_123 : decode prog_10_method_111_code 123 = .ok (.iload_n 1, 1) := by decide +kernel
theorem dMo_exchanged_124 : decode prog_10_method_111_code 124 = .ok (.ifCond .ne 7, 3) := by decide +kernel
theorem dMo_exchanged_127 : decode prog_10_method_111_code 127 = .ok (.iload_n 3, 1) := by decide +kernel
theorem dMo_exchanged_128 : decode prog_10_method_111_code 128 = .ok (.goto 4, 3) := by decide +kernel
theorem dMo_exchanged_131 : decode prog_10_method_111_code 131 = .ok (.iload_n 2, 1) := by decide +kernel
theorem dMo_exchanged_132 : decode prog_10_method_111_code 132 = .ok (.ireturn, 1) := by decide +kernel
theorem dMo_compare_0 : decode prog_10_method_112_code 0 = .ok (.aload_n 0, 1) := by decide +kernel
theorem dMo_compare_1 : decode prog_10_method_112_code 1 = .ok (.iload_n 1, 1) := by decide +kernel
theorem dMo_compare_2 : decode prog_10_method_112_code 2 = .ok (.invokevirtual 280, 3) := by decide +kernel
theorem dMo_compare_5 : decode prog_10_method_112_code 5 = .ok (.ifCond .ne 5, 3) := by decide +kernel
theorem dMo_compare_8 : decode prog_10_method_112_code 8 = .ok (.iconst (-1), 1) := by decide +kernel
theorem dMo_compare_9 : decode prog_10_method_112_code 9 = .ok (.ireturn, 1) := by decide +kernel
theorem dMo_compare_10 : decode prog_10_method_112_code 10 = .ok (.aload_n 0, 1) := by decide +kernel
theorem dMo_compare_11 : decode prog_10_method_112_code 11 = .ok (.getfield 28, 3) := by decide +kernel
theorem dMo_compare_14 : decode prog_10_method_112_code 14 = .ok (.bipush 46, 2) := by decide +kernel
theorem dMo_compare_16 : decode prog_10_method_112_code 16 = .ok (.iaload, 1) := by decide +kernel
theorem dMo_compare_17 : decode prog_10_method_112_code 17 = .ok (.istore_n 2, 1) := by decide +kernel
theorem dMo_compare_18 : decode prog_10_method_112_code 18 = .ok (.aload_n 0, 1) := by decide +kernel
theorem dMo_compare_19 : decode prog_10_method_112_code 19 = .ok (.getfield 28, 3) := by decide +kernel
theorem dMo_compare_22 : decode prog_10_method_112_code 22 = .ok (.bipush 46, 2) := by decide +kernel
theorem dMo_compare_24 : decode prog_10_method_112_code 24 = .ok (.iload_n 1, 1) := by decide +kernel
theorem dMo_compare_25 : decode prog_10_method_112_code 25 = .ok (.iastore, 1) := by decide +kernel
theorem dMo_compare_26 : decode prog_10_method_112_code 26 = .ok (.aload_n 0, 1) := by decide +kernel
theorem dMo_compare_27 : decode prog_10_method_112_code 27 = .ok (.invokevirtual 154, 3) := by decide +kernel
theorem dMo_compare_30 : decode prog_10_method_112_code 30 = .ok (.invokestatic 163, 3) := by decide +kernel
theorem dMo_compare_33 : decode prog_10_method_112_code 33 = .ok (.istore_n 3, 1) := by decide +kernel
theorem dMo_compare_34 : decode prog_10_method_112_code 34 = .ok (.aload_n 0, 1) := by decide +kernel
theorem dMo_compare_35 : decode prog_10_method_112_code 35 = .ok (.getfield 28, 3) := by decide +kernel
theorem dMo_compare_38 : decode prog_10_method_112_code 38 = .ok (.bipush 46, 2) := by decide +kernel
theorem dMo_compare_40 : decode prog_10_method_112_code 40 = .ok (.iload_n 2, 1) := by decide +kernel
theorem dMo_compare_41 : decode prog_10_method_112_code 41 = .ok (.iastore, 1) := by decide +kernel
theorem dMo_compare_42 : decode prog_10_method_112_code 42 = .ok (.iload_n 3, 1) := by decide +kernel
theorem dMo_compare_43 : decode prog_10_method_112_code 43 = .ok (.ireturn, 1) := by decide +kernel
theorem dMo_laysTilts_0 : decode prog_10_method_116_code 0 = .ok (.aload_n 0, 1) := by decide +kernel
theorem dMo_laysTilts_1 : decode prog_10_method_116_code 1 = .ok (.invokevirtual 432, 3) := by decide +kernel
theorem dMo_laysTilts_4 : decode prog_10_method_116_code 4 = .ok (.istore_n 1, 1) := by decide +kernel
theorem dMo_laysTilts_5 : decode prog_10_method_116_code 5 = .ok (.iconst 0, 1) := by decide +kernel
theorem dMo_laysTilts_6 : decode prog_10_method_116_code 6 = .ok (.istore_n 2, 1) := by decide +kernel
theorem dMo_laysTilts_7 : decode prog_10_method_116_code 7 = .ok (.iload_n 2, 1) := by decide +kernel
theorem dMo_laysTilts_8 : decode prog_10_method_116_code 8 = .ok (.sipush 128, 3) := by decide +kernel
theorem dMo_laysTilts_11 : decode prog_10_method_116_code 11 = .ok (.if_icmp .ge 16, 3) := by decide +kernel
theorem dMo_laysTilts_14 : decode prog_10_method_116_code 14 = .ok (.aload_n 0, 1) := by decide +kernel
theorem dMo_laysTilts_15 : decode prog_10_method_116_code 15 = .ok (.getfield 85, 3) := by decide +kernel
theorem dMo_laysTilts_18 : decode prog_10_method_116_code 18 = .ok (.iload_n 2, 1) := by decide +kernel
theorem dMo_laysTilts_19 : decode prog_10_method_116_code 19 = .ok (.iconst 0, 1) := by decide +kernel
theorem dMo_laysTilts_20 : decode prog_10_method_116_code 20 = .ok (.iastore, 1) := by decide +kernel
theorem dMo_laysTilts_21 : decode prog_10_method_116_code 21 = .ok (.iinc 2 1, 3) := by decide +kernel
theorem dMo_laysTilts_24 : decode prog_10_method_116_code 24 = .ok (.goto (-17), 3) := by decide +kernel
theorem dMo_laysTilts_27 : decode prog_10_method_116_code 27 = .ok (.iconst 0, 1) := by decide +kernel
theorem dMo_laysTilts_28 : decode prog_10_method_116_code 28 = .ok (.istore_n 2, 1) := by decide +kernel
theorem dMo_laysTilts_29 : decode prog_10_method_116_code 29 = .ok (.iload_n 2, 1) := by decide +kernel
theorem dMo_laysTilts_30 : decode prog_10_method_116_code 30 = .ok (.aload_n 0, 1) := by decide +kernel
theorem dMo_laysTilts_31 : decode prog_10_method_116_code 31 = .ok (.invokevirtual 119, 3) := by decide +kernel
theorem dMo_laysTilts_34 : decode prog_10_method_116_code 34 = .ok (.if_icmp .ge 54, 3) := by decide +kernel
theorem dMo_laysTilts_37 : decode prog_10_method_116_code 37 = .ok (.aload_n 0, 1) := by decide +kernel
theorem dMo_laysTilts_38 : decode prog_10_method_116_code 38 = .ok (.iload_n 2, 1) := by decide +kernel
theorem dMo_laysTilts_39 : decode prog_10_method_116_code 39 = .ok (.invokevirtual 157, 3) := by decide +kernel
theorem dMo_laysTilts_42 : decode prog_10_method_116_code 42 = .ok (.istore_n 3, 1) := by decide +kernel
theorem dMo_laysTilts_43 : decode prog_10_method_116_code 43 = .ok (.iconst 0, 1) := by decide +kernel
theorem dMo_laysTilts_44 : decode prog_10_method_116_code 44 = .ok (.istore 4, 2) := by decide +kernel
theorem dMo_laysTilts_46 : decode prog_10_method_116_code 46 = .ok (.iload 4, 2) := by decide +kernel
theorem dMo_laysTilts_48 : decode prog_10_method_116_code 48 = .ok (.iload_n 1, 1) := by decide +kernel
theorem dMo_laysTilts_49 : decode prog_10_method_116_code 49 = .ok (.if_icmp .gt 33, 3) := by decide +kernel
theorem dMo_laysTilts_52 : decode prog_10_method_116_code 52 = .ok (.aload_n 0, 1) := by decide +kernel
theorem dMo_laysTilts_53 : decode prog_10_method_116_code 53 = .ok (.getfield 85, 3) := by decide +kernel
theorem dMo_laysTilts_56 : decode prog_10_method_116_code 56 = .ok (.iload 4, 2) := by decide +kernel
theorem dMo_laysTilts_58 : decode prog_10_method_116_code 58 = .ok (.dup2, 1) := by decide +kernel
theorem dMo_laysTilts_59 : decode prog_10_method_116_code 59 = .ok (.iaload, 1) := by decide +kernel
theorem dMo_laysTilts_60 : decode prog_10_method_116_code 60 = .ok (.iload 4, 2) := by decide +kernel
theorem dMo_laysTilts_62 : decode prog_10_method_116_code 62 = .ok (.iload_n 2, 1) := by decide +kernel
theorem dMo_laysTilts_63 : decode prog_10_method_116_code 63 = .ok (.invokestatic 423, 3) := by decide +kernel
theorem dMo_laysTilts_66 : decode prog_10_method_116_code 66 = .ok (.ifCond .eq 7, 3) := by decide +kernel
theorem dMo_laysTilts_69 : decode prog_10_method_116_code 69 = .ok (.iload_n 3, 1) := by decide +kernel
theorem dMo_laysTilts_70 : decode prog_10_method_116_code 70 = .ok (.goto 4, 3) := by decide +kernel
theorem dMo_laysTilts_73 : decode prog_10_method_116_code 73 = .ok (.iconst 0, 1) := by decide +kernel
theorem dMo_laysTilts_74 : decode prog_10_method_116_code 74 = .ok (.iadd, 1) := by decide +kernel
theorem dMo_laysTilts_75 : decode prog_10_method_116_code 75 = .ok (.iastore, 1) := by decide +kernel
theorem dMo_laysTilts_76 : decode prog_10_method_116_code 76 = .ok (.iinc 4 1, 3) := by decide +kernel
theorem dMo_laysTilts_79 : decode prog_10_method_116_code 79 = .ok (.goto (-33), 3) := by decide +kernel
theorem dMo_laysTilts_82 : decode prog_10_method_116_code 82 = .ok (.iinc 2 1, 3) := by decide +kernel
theorem dMo_laysTilts_85 : decode prog_10_method_116_code 85 = .ok (.goto (-56), 3) := by decide +kernel
theorem dMo_laysTilts_88 : decode prog_10_method_116_code 88 = .ok (.return_, 1) := by decide +kernel
theorem dMo_laysOff_0 : decode prog_10_method_118_code 0 = .ok (.aload_n 0, 1) := by decide +kernel
theorem dMo_laysOff_1 : decode prog_10_method_118_code 1 = .ok (.invokevirtual 435, 3) := by decide +kernel
theorem dMo_laysOff_4 : decode prog_10_method_118_code 4 = .ok (.aload_n 0, 1) := by decide +kernel
theorem dMo_laysOff_5 : decode prog_10_method_118_code 5 = .ok (.invokevirtual 432, 3) := by decide +kernel
theorem dMo_laysOff_8 : decode prog_10_method_118_code 8 = .ok (.istore_n 1, 1) := by decide +kernel
theorem dMo_laysOff_9 : decode prog_10_method_118_code 9 = .ok (.iconst 0, 1) := by decide +kernel
theorem dMo_laysOff_10 : decode prog_10_method_118_code 10 = .ok (.istore_n 2, 1) := by decide +kernel
theorem dMo_laysOff_11 : decode prog_10_method_118_code 11 = .ok (.iload_n 2, 1) := by decide +kernel
theorem dMo_laysOff_12 : decode prog_10_method_118_code 12 = .ok (.iload_n 1, 1) := by decide +kernel
theorem dMo_laysOff_13 : decode prog_10_method_118_code 13 = .ok (.if_icmp .gt 72, 3) := by decide +kernel
theorem dMo_laysOff_16 : decode prog_10_method_118_code 16 = .ok (.aload_n 0, 1) := by decide +kernel
theorem dMo_laysOff_17 : decode prog_10_method_118_code 17 = .ok (.getfield 88, 3) := by decide +kernel
theorem dMo_laysOff_20 : decode prog_10_method_118_code 20 = .ok (.iload_n 2, 1) := by decide +kernel
theorem dMo_laysOff_21 : decode prog_10_method_118_code 21 = .ok (.iload_n 2, 1) := by decide +kernel
theorem dMo_laysOff_22 : decode prog_10_method_118_code 22 = .ok (.ifCond .ne 7, 3) := by decide +kernel
theorem dMo_laysOff_25 : decode prog_10_method_118_code 25 = .ok (.iconst 1, 1) := by decide +kernel
theorem dMo_laysOff_26 : decode prog_10_method_118_code 26 = .ok (.goto 4, 3) := by decide +kernel
theorem dMo_laysOff_29 : decode prog_10_method_118_code 29 = .ok (.iconst 0, 1) := by decide +kernel
theorem dMo_laysOff_30 : decode prog_10_method_118_code 30 = .ok (.iastore, 1) := by decide +kernel
theorem dMo_laysOff_31 : decode prog_10_method_118_code 31 = .ok (.iconst 0, 1) := by decide +kernel
theorem dMo_laysOff_32 : decode prog_10_method_118_code 32 = .ok (.istore_n 3, 1) := by decide +kernel
theorem dMo_laysOff_33 : decode prog_10_method_118_code 33 = .ok (.iload_n 3, 1) := by decide +kernel
theorem dMo_laysOff_34 : decode prog_10_method_118_code 34 = .ok (.aload_n 0, 1) := by decide +kernel
theorem dMo_laysOff_35 : decode prog_10_method_118_code 35 = .ok (.invokevirtual 119, 3) := by decide +kernel
theorem dMo_laysOff_38 : decode prog_10_method_118_code 38 = .ok (.if_icmp .ge 41, 3) := by decide +kernel
theorem dMo_laysOff_41 : decode prog_10_method_118_code 41 = .ok (.aload_n 0, 1) := by decide +kernel
theorem dMo_laysOff_42 : decode prog_10_method_118_code 42 = .ok (.getfield 88, 3) := by decide +kernel
theorem dMo_laysOff_45 : decode prog_10_method_118_code 45 = .ok (.iload_n 2, 1) := by decide +kernel
theorem dMo_laysOff_46 : decode prog_10_method_118_code 46 = .ok (.dup2, 1) := by decide +kernel
theorem dMo_laysOff_47 : decode prog_10_method_118_code 47 = .ok (.iaload, 1) := by decide +kernel
theorem dMo_laysOff_48 : decode prog_10_method_118_code 48 = .ok (.aload_n 0, 1) := by decide +kernel
theorem dMo_laysOff_49 : decode prog_10_method_118_code 49 = .ok (.iload_n 2, 1) := by decide +kernel
theorem dMo_laysOff_50 : decode prog_10_method_118_code 50 = .ok (.iload_n 3, 1) := by decide +kernel
theorem dMo_laysOff_51 : decode prog_10_method_118_code 51 = .ok (.invokevirtual 438, 3) := by decide +kernel
theorem dMo_laysOff_54 : decode prog_10_method_118_code 54 = .ok (.ifCond .eq 16, 3) := by decide +kernel
theorem dMo_laysOff_57 : decode prog_10_method_118_code 57 = .ok (.aload_n 0, 1) := by decide +kernel
theorem dMo_laysOff_58 : decode prog_10_method_118_code 58 = .ok (.getfield 88, 3) := by decide +kernel
theorem dMo_laysOff_61 : decode prog_10_method_118_code 61 = .ok (.iload_n 2, 1) := by decide +kernel
theorem dMo_laysOff_62 : decode prog_10_method_118_code 62 = .ok (.iconst 1, 1) := by decide +kernel
theorem dMo_laysOff_63 : decode prog_10_method_118_code 63 = .ok (.iload_n 3, 1) := by decide +kernel
theorem dMo_laysOff_64 : decode prog_10_method_118_code 64 = .ok (.ishl, 1) := by decide +kernel
theorem dMo_laysOff_65 : decode prog_10_method_118_code 65 = .ok (.ixor, 1) := by decide +kernel
theorem dMo_laysOff_66 : decode prog_10_method_118_code 66 = .ok (.iaload, 1) := by decide +kernel
theorem dMo_laysOff_67 : decode prog_10_method_118_code 67 = .ok (.goto 4, 3) := by decide +kernel
theorem dMo_laysOff_70 : decode prog_10_method_118_code 70 = .ok (.iconst 0, 1) := by decide +kernel
theorem dMo_laysOff_71 : decode prog_10_method_118_code 71 = .ok (.iadd, 1) := by decide +kernel
theorem dMo_laysOff_72 : decode prog_10_method_118_code 72 = .ok (.iastore, 1) := by decide +kernel
theorem dMo_laysOff_73 : decode prog_10_method_118_code 73 = .ok (.iinc 3 1, 3) := by decide +kernel
theorem dMo_laysOff_76 : decode prog_10_method_118_code 76 = .ok (.goto (-43), 3) := by decide +kernel
theorem dMo_laysOff_79 : decode prog_10_method_118_code 79 = .ok (.iinc 2 1, 3) := by decide +kernel
theorem dMo_laysOff_82 : decode prog_10_method_118_code 82 = .ok (.goto (-71), 3) := by decide +kernel
theorem dMo_laysOff_85 : decode prog_10_method_118_code 85 = .ok (.return_, 1) := by decide +kernel
theorem dMo_off_0 : decode prog_10_method_119_code 0 = .ok (.iload_n 1, 1) := by decide +kernel
theorem dMo_off_1 : decode prog_10_method_119_code 1 = .ok (.iconst (-1), 1) := by decide +kernel
theorem dMo_off_2 : decode prog_10_method_119_code 2 = .ok (.if_icmp .ge 5, 3) := by decide +kernel
theorem dMo_off_5 : decode prog_10_method_119_code 5 = .ok (.iconst (-1), 1) := by decide +kernel
theorem dMo_off_6 : decode prog_10_method_119_code 6 = .ok (.ireturn, 1) := by decide +kernel
theorem dMo_off_7 : decode prog_10_method_119_code 7 = .ok (.aload_n 0, 1) := by decide +kernel
theorem dMo_off_8 : decode prog_10_method_119_code 8 = .ok (.invokevirtual 441, 3) := by decide +kernel
theorem dMo_off_11 : decode prog_10_method_119_code 11 = .ok (.aload_n 0, 1) := by decide +kernel
theorem dMo_off_12 : decode prog_10_method_119_code 12 = .ok (.invokevirtual 432, 3) := by decide +kernel
theorem dMo_off_15 : decode prog_10_method_119_code 15 = .ok (.istore_n 2, 1) := by decide +kernel
theorem dMo_off_16 : decode prog_10_method_119_code 16 = .ok (.iload_n 1, 1) := by decide +kernel
theorem dMo_off_17 : decode prog_10_method_119_code 17 = .ok (.iconst (-1), 1) := by decide +kernel
theorem dMo_off_18 : decode prog_10_method_119_code 18 = .ok (.if_icmp .ne 10, 3) := by decide +kernel
theorem dMo_off_21 : decode prog_10_method_119_code 21 = .ok (.aload_n 0, 1) := by decide +kernel
theorem dMo_off_22 : decode prog_10_method_119_code 22 = .ok (.getfield 88, 3) := by decide +kernel
theorem dMo_off_25 : decode prog_10_method_119_code 25 = .ok (.iload_n 2, 1) := by decide +kernel
theorem dMo_off_26 : decode prog_10_method_119_code 26 = .ok (.iaload, 1) := by decide +kernel
theorem dMo_off_27 : decode prog_10_method_119_code 27 = .ok (.ireturn, 1) := by decide +kernel
theorem dMo_off_28 : decode prog_10_method_119_code 28 = .ok (.aload_n 0, 1) := by decide +kernel
theorem dMo_off_29 : decode prog_10_method_119_code 29 = .ok (.getfield 88, 3) := by decide +kernel
theorem dMo_off_32 : decode prog_10_method_119_code 32 = .ok (.iload_n 2, 1) := by decide +kernel
theorem dMo_off_33 : decode prog_10_method_119_code 33 = .ok (.iaload, 1) := by decide +kernel
theorem dMo_off_34 : decode prog_10_method_119_code 34 = .ok (.ifCond .ne 5, 3) := by decide +kernel
theorem dMo_off_37 : decode prog_10_method_119_code 37 = .ok (.iconst (-1), 1) := by decide +kernel
theorem dMo_off_38 : decode prog_10_method_119_code 38 = .ok (.ireturn, 1) := by decide +kernel
theorem dMo_off_39 : decode prog_10_method_119_code 39 = .ok (.iconst (-1), 1) := by decide +kernel
theorem dMo_off_40 : decode prog_10_method_119_code 40 = .ok (.istore_n 3, 1) := by decide +kernel
theorem dMo_off_41 : decode prog_10_method_119_code 41 = .ok (.iconst 0, 1) := by decide +kernel
theorem dMo_off_42 : decode prog_10_method_119_code 42 = .ok (.istore 4, 2) := by decide +kernel
theorem dMo_off_44 : decode prog_10_method_119_code 44 = .ok (.iload 4, 2) := by decide +kernel
theorem dMo_off_46 : decode prog_10_method_119_code 46 = .ok (.iload_n 1, 1) := by decide +kernel
theorem dMo_off_47 : decode prog_10_method_119_code 47 = .ok (.if_icmp .gt 51, 3) := by decide +kernel
theorem dMo_off_50 : decode prog_10_method_119_code 50 = .ok (.iload_n 2, 1) := by decide +kernel
theorem dMo_off_51 : decode prog_10_method_119_code 51 = .ok (.ifCond .ne 5, 3) := by decide +kernel
theorem dMo_off_54 : decode prog_10_method_119_code 54 = .ok (.iconst (-1), 1) := by decide +kernel
theorem dMo_off_55 : decode prog_10_method_119_code 55 = .ok (.ireturn, 1) := by decide +kernel
theorem dMo_off_56 : decode prog_10_method_119_code 56 = .ok (.iconst 0, 1) := by decide +kernel
theorem dMo_off_57 : decode prog_10_method_119_code 57 = .ok (.istore_n 3, 1) := by decide +kernel
theorem dMo_off_58 : decode prog_10_method_119_code 58 = .ok (.aload_n 0, 1) := by decide +kernel
theorem dMo_off_59 : decode prog_10_method_119_code 59 = .ok (.iload_n 2, 1) := by decide +kernel
theorem dMo_off_60 : decode prog_10_method_119_code 60 = .ok (.iload_n 3, 1) := by decide +kernel
theorem dMo_off_61 : decode prog_10_method_119_code 61 = .ok (.invokevirtual 438, 3) := by decide +kernel
theorem dMo_off_64 : decode prog_10_method_119_code 64 = .ok (.ifCond .eq 16, 3) := by decide +kernel
theorem dMo_off_67 : decode prog_10_method_119_code 67 = .ok (.aload_n 0, 1) := by decide +kernel
theorem dMo_off_68 : decode prog_10_method_119_code 68 = .ok (.getfield 88, 3) := by decide +kernel
theorem dMo_off_71 : decode prog_10_method_119_code 71 = .ok (.iload_n 2, 1) := by decide +kernel
theorem dMo_off_72 : decode prog_10_method_119_code 72 = .ok (.iconst 1, 1) := by decide +kernel
theorem dMo_off_73 : decode prog_10_method_119_code 73 = .ok (.iload_n 3, 1) := by decide +kernel
theorem dMo_off_74 : decode prog_10_method_119_code 74 = .ok (.ishl, 1) := by decide +kernel
theorem dMo_off_75 : decode prog_10_method_119_code 75 = .ok (.ixor, 1) := by decide +kernel
theorem dMo_off_76 : decode prog_10_method_119_code 76 = .ok (.iaload, 1) := by decide +kernel
theorem dMo_off_77 : decode prog_10_method_119_code 77 = .ok (.ifCond .ne 9, 3) := by decide +kernel
theorem dMo_off_80 : decode prog_10_method_119_code 80 = .ok (.iinc 3 1, 3) := by decide +kernel
theorem dMo_off_83 : decode prog_10_method_119_code 83 = .ok (.goto (-25), 3) := by decide +kernel
theorem dMo_off_86 : decode prog_10_method_119_code 86 = .ok (.iload_n 2, 1) := by decide +kernel
theorem dMo_off_87 : decode prog_10_method_119_code 87 = .ok (.iconst 1, 1) := by decide +kernel
theorem dMo_off_88 : decode prog_10_method_119_code 88 = .ok (.iload_n 3, 1) := by decide +kernel
theorem dMo_off_89 : decode prog_10_method_119_code 89 = .ok (.ishl, 1) := by decide +kernel
theorem dMo_off_90 : decode prog_10_method_119_code 90 = .ok (.ixor, 1) := by decide +kernel
theorem dMo_off_91 : decode prog_10_method_119_code 91 = .ok (.istore_n 2, 1) := by decide +kernel
theorem dMo_off_92 : decode prog_10_method_119_code 92 = .ok (.iinc 4 1, 3) := by decide +kernel
theorem dMo_off_95 : decode prog_10_method_119_code 95 = .ok (.goto (-51), 3) := by decide +kernel
theorem dMo_off_98 : decode prog_10_method_119_code 98 = .ok (.iload_n 3, 1) := by decide +kernel
theorem dMo_off_99 : decode prog_10_method_119_code 99 = .ok (.ireturn, 1) := by decide +kernel
theorem dMo_byTurns_0 : decode prog_10_method_121_code 0 = .ok (.iload_n 1, 1) := by decide +kernel
theorem dMo_byTurns_1 : decode prog_10_method_121_code 1 = .ok (.iconst 0, 1) := by decide +kernel
theorem dMo_byTurns_2 : decode prog_10_method_121_code 2 = .ok (.iconst 1, 1) := by decide +kernel
theorem dMo_byTurns_3 : decode prog_10_method_121_code 3 = .ok (.invokestatic 18, 3) := by decide +kernel
theorem dMo_byTurns_6 : decode prog_10_method_121_code 6 = .ok (.ifCond .ne 5, 3) := by decide +kernel
theorem dMo_byTurns_9 : decode prog_10_method_121_code 9 = .ok (.iconst (-1), 1) := by decide +kernel
theorem dMo_byTurns_10 : decode prog_10_method_121_code 10 = .ok (.ireturn, 1) := by decide +kernel
theorem dMo_byTurns_11 : decode prog_10_method_121_code 11 = .ok (.aload_n 0, 1) := by decide +kernel
theorem dMo_byTurns_12 : decode prog_10_method_121_code 12 = .ok (.invokevirtual 435, 3) := by decide +kernel
theorem dMo_byTurns_15 : decode prog_10_method_121_code 15 = .ok (.aload_n 0, 1) := by decide +kernel
theorem dMo_byTurns_16 : decode prog_10_method_121_code 16 = .ok (.invokevirtual 432, 3) := by decide +kernel
theorem dMo_byTurns_19 : decode prog_10_method_121_code 19 = .ok (.istore_n 2, 1) := by decide +kernel
theorem dMo_byTurns_20 : decode prog_10_method_121_code 20 = .ok (.iconst 0, 1) := by decide +kernel
theorem dMo_byTurns_21 : decode prog_10_method_121_code 21 = .ok (.istore_n 3, 1) := by decide +kernel
theorem dMo_byTurns_22 : decode prog_10_method_121_code 22 = .ok (.iload_n 3, 1) := by decide +kernel
theorem dMo_byTurns_23 : decode prog_10_method_121_code 23 = .ok (.iload_n 2, 1) := by decide +kernel
theorem dMo_byTurns_24 : decode prog_10_method_121_code 24 = .ok (.if_icmp .gt 29, 3) := by decide +kernel
theorem dMo_byTurns_27 : decode prog_10_method_121_code 27 = .ok (.aload_n 0, 1) := by decide +kernel
theorem dMo_byTurns_28 : decode prog_10_method_121_code 28 = .ok (.getfield 91, 3) := by decide +kernel
theorem dMo_byTurns_31 : decode prog_10_method_121_code 31 = .ok (.iload_n 3, 1) := by decide +kernel
theorem dMo_byTurns_32 : decode prog_10_method_121_code 32 = .ok (.aload_n 0, 1) := by decide +kernel
theorem dMo_byTurns_33 : decode prog_10_method_121_code 33 = .ok (.iload_n 3, 1) := by decide +kernel
theorem dMo_byTurns_34 : decode prog_10_method_121_code 34 = .ok (.invokevirtual 444, 3) := by decide +kernel
theorem dMo_byTurns_37 : decode prog_10_method_121_code 37 = .ok (.iconst (-1), 1) := by decide +kernel
theorem dMo_byTurns_38 : decode prog_10_method_121_code 38 = .ok (.if_icmp .eq 7, 3) := by decide +kernel
theorem dMo_byTurns_41 : decode prog_10_method_121_code 41 = .ok (.iconst 1, 1) := by decide +kernel
theorem dMo_byTurns_42 : decode prog_10_method_121_code 42 = .ok (.goto 4, 3) := by decide +kernel
theorem dMo_byTurns_45 : decode prog_10_method_121_code 45 = .ok (.iconst 0, 1) := by decide +kernel
theorem dMo_byTurns_46 : decode prog_10_method_121_code 46 = .ok (.bastore, 1) := by decide +kernel
theorem dMo_byTurns_47 : decode prog_10_method_121_code 47 = .ok (.iinc 3 1, 3) := by decide +kernel
theorem dMo_byTurns_50 : decode prog_10_method_121_code 50 = .ok (.goto (-28), 3) := by decide +kernel
theorem dMo_byTurns_53 : decode prog_10_method_121_code 53 = .ok (.iload_n 1, 1) := by decide +kernel
theorem dMo_byTurns_54 : decode prog_10_method_121_code 54 = .ok (.iconst 1, 1) := by decide +kernel
theorem dMo_byTurns_55 : decode prog_10_method_121_code 55 = .ok (.if_icmp .ne 11, 3) := by decide +kernel
theorem dMo_byTurns_58 : decode prog_10_method_121_code 58 = .ok (.aload_n 0, 1) := by decide +kernel
theorem dMo_byTurns_59 : decode prog_10_method_121_code 59 = .ok (.iload_n 2, 1) := by decide +kernel
theorem dMo_byTurns_60 : decode prog_10_method_121_code 60 = .ok (.invokevirtual 444, 3) := by decide +kernel
theorem dMo_byTurns_63 : decode prog_10_method_121_code 63 = .ok (.goto 17, 3) := by decide +kernel
theorem dMo_byTurns_66 : decode prog_10_method_121_code 66 = .ok (.aload_n 0, 1) := by decide +kernel
theorem dMo_byTurns_67 : decode prog_10_method_121_code 67 = .ok (.getfield 91, 3) := by decide +kernel
theorem dMo_byTurns_70 : decode prog_10_method_121_code 70 = .ok (.iload_n 2, 1) := by decide +kernel
theorem dMo_byTurns_71 : decode prog_10_method_121_code 71 = .ok (.baload, 1) := by decide +kernel
theorem dMo_byTurns_72 : decode prog_10_method_121_code 72 = .ok (.ifCond .eq 7, 3) := by decide +kernel
theorem dMo_byTurns_75 : decode prog_10_method_121_code 75 = .ok (.iconst 1, 1) := by decide +kernel
theorem dMo_byTurns_76 : decode prog_10_method_121_code 76 = .ok (.goto 4, 3) := by decide +kernel
theorem dMo_byTurns_79 : decode prog_10_method_121_code 79 = .ok (.iconst 0, 1) := by decide +kernel
theorem dMo_byTurns_80 : decode prog_10_method_121_code 80 = .ok (.ireturn, 1) := by decide +kernel
theorem dMo_goesAlong_0 : decode prog_10_method_133_code 0 = .ok (.aload_n 0, 1) := by decide +kernel
theorem dMo_goesAlong_1 : decode prog_10_method_133_code 1 = .ok (.iload_n 2, 1) := by decide +kernel
theorem dMo_goesAlong_2 : decode prog_10_method_133_code 2 = .ok (.ifCond .eq 10, 3) := by decide +kernel
theorem dMo_goesAlong_5 : decode prog_10_method_133_code 5 = .ok (.aload_n 0, 1) := by decide +kernel
theorem dMo_goesAlong_6 : decode prog_10_method_133_code 6 = .ok (.invokevirtual 154, 3) := by decide +kernel
theorem dMo_goesAlong_9 : decode prog_10_method_133_code 9 = .ok (.goto 4, 3) := by decide +kernel
theorem dMo_goesAlong_12 : decode prog_10_method_133_code 12 = .ok (.iconst 0, 1) := by decide +kernel
theorem dMo_goesAlong_13 : decode prog_10_method_133_code 13 = .ok (.putfield 328, 3) := by decide +kernel
theorem dMo_goesAlong_16 : decode prog_10_method_133_code 16 = .ok (.aload_n 0, 1) := by decide +kernel
theorem dMo_goesAlong_17 : decode prog_10_method_133_code 17 = .ok (.iconst 1, 1) := by decide +kernel
theorem dMo_goesAlong_18 : decode prog_10_method_133_code 18 = .ok (.putfield 316, 3) := by decide +kernel
theorem dMo_goesAlong_21 : decode prog_10_method_133_code 21 = .ok (.aload_n 0, 1) := by decide +kernel
theorem dMo_goesAlong_22 : decode prog_10_method_133_code 22 = .ok (.iload_n 1, 1) := by decide +kernel
theorem dMo_goesAlong_23 : decode prog_10_method_133_code 23 = .ok (.putfield 283, 3) := by decide +kernel
theorem dMo_goesAlong_26 : decode prog_10_method_133_code 26 = .ok (.aload_n 0, 1) := by decide +kernel
theorem dMo_goesAlong_27 : decode prog_10_method_133_code 27 = .ok (.aload_n 0, 1) := by decide +kernel
theorem dMo_goesAlong_28 : decode prog_10_method_133_code 28 = .ok (.getfield 471, 3) := by decide +kernel
theorem dMo_goesAlong_31 : decode prog_10_method_133_code 31 = .ok (.putfield 286, 3) := by decide +kernel
theorem dMo_goesAlong_34 : decode prog_10_method_133_code 34 = .ok (.aload_n 0, 1) := by decide +kernel
theorem dMo_goesAlong_35 : decode prog_10_method_133_code 35 = .ok (.aload_n 0, 1) := by decide +kernel
theorem dMo_goesAlong_36 : decode prog_10_method_133_code 36 = .ok (.aload_n 0, 1) := by decide +kernel
theorem dMo_goesAlong_37 : decode prog_10_method_133_code 37 = .ok (.getfield 286, 3) := by decide +kernel
theorem dMo_goesAlong_40 : decode prog_10_method_133_code 40 = .ok (.invokevirtual 289, 3) := by decide +kernel
theorem dMo_goesAlong_43 : decode prog_10_method_133_code 43 = .ok (.putfield 480, 3) := by decide +kernel
theorem dMo_goesAlong_46 : decode prog_10_method_133_code 46 = .ok (.aload_n 0, 1) := by decide +kernel
theorem dMo_goesAlong_47 : decode prog_10_method_133_code 47 = .ok (.dup, 1) := by decide +kernel
theorem dMo_goesAlong_48 : decode prog_10_method_133_code 48 = .ok (.getfield 286, 3) := by decide +kernel
theorem dMo_goesAlong_51 : decode prog_10_method_133_code 51 = .ok (.iconst 1, 1) := by decide +kernel
theorem dMo_goesAlong_52 : decode prog_10_method_133_code 52 = .ok (.iadd, 1) := by decide +kernel
theorem dMo_goesAlong_53 : decode prog_10_method_133_code 53 = .ok (.putfield 286, 3) := by decide +kernel
theorem dMo_goesAlong_56 : decode prog_10_method_133_code 56 = .ok (.aload_n 0, 1) := by decide +kernel
theorem dMo_goesAlong_57 : decode prog_10_method_133_code 57 = .ok (.iconst 1, 1) := by decide +kernel
theorem dMo_goesAlong_58 : decode prog_10_method_133_code 58 = .ok (.putfield 483, 3) := by decide +kernel
theorem dMo_goesAlong_61 : decode prog_10_method_133_code 61 = .ok (.aload_n 0, 1) := by decide +kernel
theorem dMo_goesAlong_62 : decode prog_10_method_133_code 62 = .ok (.getfield 480, 3) := by decide +kernel
theorem dMo_goesAlong_65 : decode prog_10_method_133_code 65 = .ok (.bipush 25, 2) := by decide +kernel
theorem dMo_goesAlong_67 : decode prog_10_method_133_code 67 = .ok (.if_icmp .ne 7, 3) := by decide +kernel
theorem dMo_goesAlong_70 : decode prog_10_method_133_code 70 = .ok (.iconst 0, 1) := by decide +kernel
theorem dMo_goesAlong_71 : decode prog_10_method_133_code 71 = .ok (.goto 17, 3) := by decide +kernel
theorem dMo_goesAlong_74 : decode prog_10_method_133_code 74 = .ok (.aload_n 0, 1) := by decide +kernel
theorem dMo_goesAlong_75 : decode prog_10_method_133_code 75 = .ok (.getfield 480, 3) := by decide +kernel
theorem dMo_goesAlong_78 : decode prog_10_method_133_code 78 = .ok (.bipush 22, 2) := by decide +kernel
theorem dMo_goesAlong_80 : decode prog_10_method_133_code 80 = .ok (.if_icmp .ne 7, 3) := by decide +kernel
theorem dMo_goesAlong_83 : decode prog_10_method_133_code 83 = .ok (.iconst 1, 1) := by decide +kernel
theorem dMo_goesAlong_84 : decode prog_10_method_133_code 84 = .ok (.goto 4, 3) := by decide +kernel
theorem dMo_goesAlong_87 : decode prog_10_method_133_code 87 = .ok (.iconst 2, 1) := by decide +kernel
theorem dMo_goesAlong_88 : decode prog_10_method_133_code 88 = .ok (.istore_n 3, 1) := by decide +kernel
theorem dMo_goesAlong_89 : decode prog_10_method_133_code 89 = .ok (.iconst 0, 1) := by decide +kernel
theorem dMo_goesAlong_90 : decode prog_10_method_133_code 90 = .ok (.istore 4, 2) := by decide +kernel
theorem dMo_goesAlong_92 : decode prog_10_method_133_code 92 = .ok (.iload 4, 2) := by decide +kernel
theorem dMo_goesAlong_94 : decode prog_10_method_133_code 94 = .ok (.iload_n 3, 1) := by decide +kernel
theorem dMo_goesAlong_95 : decode prog_10_method_133_code 95 = .ok (.if_icmp .ge 64, 3) := by decide +kernel
theorem dMo_goesAlong_98 : decode prog_10_method_133_code 98 = .ok (.iload 4, 2) := by decide +kernel
theorem dMo_goesAlong_100 : decode prog_10_method_133_code 100 = .ok (.ifCond .le 13, 3) := by decide +kernel
theorem dMo_goesAlong_103 : decode prog_10_method_133_code 103 = .ok (.aload_n 0, 1) := by decide +kernel
theorem dMo_goesAlong_104 : decode prog_10_method_133_code 104 = .ok (.dup, 1) := by decide +kernel
theorem dMo_goesAlong_105 : decode prog_10_method_133_code 105 = .ok (.getfield 286, 3) := by decide +kernel
theorem dMo_goesAlong_108 : decode prog_10_method_133_code 108 = .ok (.iconst 1, 1) := by decide +kernel
theorem dMo_goesAlong_109 : decode prog_10_method_133_code 109 = .ok (.iadd, 1) := by decide +kernel
theorem dMo_goesAlong_110 : decode prog_10_method_133_code 110 = .ok (.putfield 286, 3) := by decide +kernel
theorem dMo_goesAlong_113 : decode prog_10_method_133_code 113 = .ok (.aload_n 0, 1) := by decide +kernel
theorem dMo_goesAlong_114 : decode prog_10_method_133_code 114 = .ok (.iconst 0, 1) := by decide +kernel
theorem dMo_goesAlong_115 : decode prog_10_method_133_code 115 = .ok (.putfield 296, 3) := by decide +kernel
theorem dMo_goesAlong_118 : decode prog_10_method_133_code 118 = .ok (.aload_n 0, 1) := by decide +kernel
theorem dMo_goesAlong_119 : decode prog_10_method_133_code 119 = .ok (.getfield 104, 3) := by decide +kernel
theorem dMo_goesAlong_122 : decode prog_10_method_133_code 122 = .ok (.iload 4, 2) := by decide +kernel
theorem dMo_goesAlong_124 : decode prog_10_method_133_code 124 = .ok (.aload_n 0, 1) := by decide +kernel
theorem dMo_goesAlong_125 : decode prog_10_method_133_code 125 = .ok (.iload_n 2, 1) := by decide +kernel
theorem dMo_goesAlong_126 : decode prog_10_method_133_code 126 = .ok (.invokevirtual 313, 3) := by decide +kernel
theorem dMo_goesAlong_129 : decode prog_10_method_133_code 129 = .ok (.lastore, 1) := by decide +kernel
theorem dMo_goesAlong_130 : decode prog_10_method_133_code 130 = .ok (.aload_n 0, 1) := by decide +kernel
theorem dMo_goesAlong_131 : decode prog_10_method_133_code 131 = .ok (.aload_n 0, 1) := by decide +kernel
theorem dMo_goesAlong_132 : decode prog_10_method_133_code 132 = .ok (.getfield 483, 3) := by decide +kernel
theorem dMo_goesAlong_135 : decode prog_10_method_133_code 135 = .ok (.ifCond .eq 14, 3) := by decide +kernel
theorem dMo_goesAlong_138 : decode prog_10_method_133_code 138 = .ok (.aload_n 0, 1) := by decide +kernel
theorem dMo_goesAlong_139 : decode prog_10_method_133_code 139 = .ok (.getfield 296, 3) := by decide +kernel
theorem dMo_goesAlong_142 : decode prog_10_method_133_code 142 = .ok (.ifCond .ne 7, 3) := by decide +kernel
theorem dMo_goesAlong_145 : decode prog_10_method_133_code 145 = .ok (.iconst 1, 1) := by decide +kernel
theorem dMo_goesAlong_146 : decode prog_10_method_133_code 146 = .ok (.goto 4, 3) := by decide +kernel
theorem dMo_goesAlong_149 : decode prog_10_method_133_code 149 = .ok (.iconst 0, 1) := by decide +kernel
theorem dMo_goesAlong_150 : decode prog_10_method_133_code 150 = .ok (.putfield 483, 3) := by decide +kernel
theorem dMo_goesAlong_153 : decode prog_10_method_133_code 153 = .ok (.iinc 4 1, 3) := by decide +kernel
theorem dMo_goesAlong_156 : decode prog_10_method_133_code 156 = .ok (.goto (-64), 3) := by decide +kernel
theorem dMo_goesAlong_159 : decode prog_10_method_133_code 159 = .ok (.aload_n 0, 1) := by decide +kernel
theorem dMo_goesAlong_160 : decode prog_10_method_133_code 160 = .ok (.iconst 1, 1) := by decide +kernel
theorem dMo_goesAlong_161 : decode prog_10_method_133_code 161 = .ok (.putfield 486, 3) := by decide +kernel
theorem dMo_goesAlong_164 : decode prog_10_method_133_code 164 = .ok (.aload_n 0, 1) := by decide +kernel
theorem dMo_goesAlong_165 : decode prog_10_method_133_code 165 = .ok (.bipush 26, 2) := by decide +kernel
theorem dMo_goesAlong_167 : decode prog_10_method_133_code 167 = .ok (.invokevirtual 310, 3) := by decide +kernel
theorem dMo_goesAlong_170 : decode prog_10_method_133_code 170 = .ok (.ifCond .eq 30, 3) := by decide +kernel
theorem dMo_goesAlong_173 : decode prog_10_method_133_code 173 = .ok (.aload_n 0, 1) := by decide +kernel
theorem dMo_goesAlong_174 : decode prog_10_method_133_code 174 = .ok (.aload_n 0, 1) := by decide +kernel
theorem dMo_goesAlong_175 : decode prog_10_method_133_code 175 = .ok (.getfield 28, 3) := by decide +kernel
theorem dMo_goesAlong_178 : decode prog_10_method_133_code 178 = .ok (.sipush 2854, 3) := by decide +kernel
theorem dMo_goesAlong_181 : decode prog_10_method_133_code 181 = .ok (.aload_n 0, 1) := by decide +kernel
theorem dMo_goesAlong_182 : decode prog_10_method_133_code 182 = .ok (.getfield 286, 3) := by decide +kernel
theorem dMo_goesAlong_185 : decode prog_10_method_133_code 185 = .ok (.iadd, 1) := by decide +kernel
theorem dMo_goesAlong_186 : decode prog_10_method_133_code 186 = .ok (.iaload, 1) := by decide +kernel
theorem dMo_goesAlong_187 : decode prog_10_method_133_code 187 = .ok (.putfield 486, 3) := by decide +kernel
theorem dMo_goesAlong_190 : decode prog_10_method_133_code 190 = .ok (.aload_n 0, 1) := by decide +kernel
theorem dMo_goesAlong_191 : decode prog_10_method_133_code 191 = .ok (.dup, 1) := by decide +kernel
theorem dMo_goesAlong_192 : decode prog_10_method_133_code 192 = .ok (.getfield 286, 3) := by decide +kernel
theorem dMo_goesAlong_195 : decode prog_10_method_133_code 195 = .ok (.iconst 1, 1) := by decide +kernel
theorem dMo_goesAlong_196 : decode prog_10_method_133_code 196 = .ok (.iadd, 1) := by decide +kernel
theorem dMo_goesAlong_197 : decode prog_10_method_133_code 197 = .ok (.putfield 286, 3) := by decide +kernel
theorem dMo_goesAlong_200 : decode prog_10_method_133_code 200 = .ok (.aload_n 0, 1) := by decide +kernel
theorem dMo_goesAlong_201 : decode prog_10_method_133_code 201 = .ok (.iconst 0, 1) := by decide +kernel
theorem dMo_goesAlong_202 : decode prog_10_method_133_code 202 = .ok (.putfield 296, 3) := by decide +kernel
theorem dMo_goesAlong_205 : decode prog_10_method_133_code 205 = .ok (.aload_n 0, 1) := by decide +kernel
theorem dMo_goesAlong_206 : decode prog_10_method_133_code 206 = .ok (.aload_n 0, 1) := by decide +kernel
theorem dMo_goesAlong_207 : decode prog_10_method_133_code 207 = .ok (.iconst 4, 1) := by decide +kernel
theorem dMo_goesAlong_208 : decode prog_10_method_133_code 208 = .ok (.invokevirtual 310, 3) := by decide +kernel
theorem dMo_goesAlong_211 : decode prog_10_method_133_code 211 = .ok (.ifCond .eq 11, 3) := by decide +kernel
theorem dMo_goesAlong_214 : decode prog_10_method_133_code 214 = .ok (.aload_n 0, 1) := by decide +kernel
theorem dMo_goesAlong_215 : decode prog_10_method_133_code 215 = .ok (.iload_n 2, 1) := by decide +kernel
theorem dMo_goesAlong_216 : decode prog_10_method_133_code 216 = .ok (.invokevirtual 343, 3) := by decide +kernel
theorem dMo_goesAlong_219 : decode prog_10_method_133_code 219 = .ok (.ifCond .eq 7, 3) := by decide +kernel
theorem dMo_goesAlong_222 : decode prog_10_method_133_code 222 = .ok (.iconst 1, 1) := by decide +kernel
theorem dMo_goesAlong_223 : decode prog_10_method_133_code 223 = .ok (.goto 4, 3) := by decide +kernel
theorem dMo_goesAlong_226 : decode prog_10_method_133_code 226 = .ok (.iconst 0, 1) := by decide +kernel
theorem dMo_goesAlong_227 : decode prog_10_method_133_code 227 = .ok (.putfield 489, 3) := by decide +kernel
theorem dMo_goesAlong_230 : decode prog_10_method_133_code 230 = .ok (.aload_n 0, 1) := by decide +kernel
theorem dMo_goesAlong_231 : decode prog_10_method_133_code 231 = .ok (.aload_n 0, 1) := by decide +kernel
theorem dMo_goesAlong_232 : decode prog_10_method_133_code 232 = .ok (.getfield 489, 3) := by decide +kernel
theorem dMo_goesAlong_235 : decode prog_10_method_133_code 235 = .ok (.ifCond .eq 14, 3) := by decide +kernel
theorem dMo_goesAlong_238 : decode prog_10_method_133_code 238 = .ok (.aload_n 0, 1) := by decide +kernel
theorem dMo_goesAlong_239 : decode prog_10_method_133_code 239 = .ok (.getfield 296, 3) := by decide +kernel
theorem dMo_goesAlong_242 : decode prog_10_method_133_code 242 = .ok (.ifCond .ne 7, 3) := by decide +kernel
theorem dMo_goesAlong_245 : decode prog_10_method_133_code 245 = .ok (.iconst 1, 1) := by decide +kernel
theorem dMo_goesAlong_246 : decode prog_10_method_133_code 246 = .ok (.goto 4, 3) := by decide +kernel
theorem dMo_goesAlong_249 : decode prog_10_method_133_code 249 = .ok (.iconst 0, 1) := by decide +kernel
theorem dMo_goesAlong_250 : decode prog_10_method_133_code 250 = .ok (.putfield 489, 3) := by decide +kernel
theorem dMo_goesAlong_253 : decode prog_10_method_133_code 253 = .ok (.aload_n 0, 1) := by decide +kernel
theorem dMo_goesAlong_254 : decode prog_10_method_133_code 254 = .ok (.dup, 1) := by decide +kernel
theorem dMo_goesAlong_255 : decode prog_10_method_133_code 255 = .ok (.getfield 286, 3) := by decide +kernel
theorem dMo_goesAlong_258 : decode prog_10_method_133_code 258 = .ok (.iconst 1, 1) := by decide +kernel
theorem dMo_goesAlong_259 : decode prog_10_method_133_code 259 = .ok (.iadd, 1) := by decide +kernel
theorem dMo_goesAlong_260 : decode prog_10_method_133_code 260 = .ok (.putfield 286, 3) := by decide +kernel
theorem dMo_goesAlong_263 : decode prog_10_method_133_code 263 = .ok (.return_, 1) := by decide +kernel
theorem dMo_obeys_0 : decode prog_10_method_135_code 0 = .ok (.aload_n 0, 1) := by decide +kernel
theorem dMo_obeys_1 : decode prog_10_method_135_code 1 = .ok (.getfield 104, 3) := by decide +kernel
theorem dMo_obeys_4 : decode prog_10_method_135_code 4 = .ok (.iconst 0, 1) := by decide +kernel
theorem dMo_obeys_5 : decode prog_10_method_135_code 5 = .ok (.laload, 1) := by decide +kernel
theorem dMo_obeys_6 : decode prog_10_method_135_code 6 = .ok (.invokestatic 494, 3) := by decide +kernel
theorem dMo_obeys_9 : decode prog_10_method_135_code 9 = .ok (.istore_n 1, 1) := by decide +kernel
theorem dMo_obeys_10 : decode prog_10_method_135_code 10 = .ok (.aload_n 0, 1) := by decide +kernel
theorem dMo_obeys_11 : decode prog_10_method_135_code 11 = .ok (.getfield 480, 3) := by decide +kernel
theorem dMo_obeys_14 : decode prog_10_method_135_code 14 = .ok (.tableswitch 56 22 25 #[30, 36, 56, 51], 30) := by decide +kernel
theorem dMo_obeys_44 : decode prog_10_method_135_code 44 = .ok (.aload_n 0, 1) := by decide +kernel
theorem dMo_obeys_45 : decode prog_10_method_135_code 45 = .ok (.iload_n 1, 1) := by decide +kernel
theorem dMo_obeys_46 : decode prog_10_method_135_code 46 = .ok (.invokevirtual 371, 3) := by decide +kernel
theorem dMo_obeys_49 : decode prog_10_method_135_code 49 = .ok (.ireturn, 1) := by decide +kernel
theorem dMo_obeys_50 : decode prog_10_method_135_code 50 = .ok (.aload_n 0, 1) := by decide +kernel
theorem dMo_obeys_51 : decode prog_10_method_135_code 51 = .ok (.iload_n 1, 1) := by decide +kernel
theorem dMo_obeys_52 : decode prog_10_method_135_code 52 = .ok (.aload_n 0, 1) := by decide +kernel
theorem dMo_obeys_53 : decode prog_10_method_135_code 53 = .ok (.getfield 104, 3) := by decide +kernel
theorem dMo_obeys_56 : decode prog_10_method_135_code 56 = .ok (.iconst 1, 1) := by decide +kernel
theorem dMo_obeys_57 : decode prog_10_method_135_code 57 = .ok (.laload, 1) := by decide +kernel
theorem dMo_obeys_58 : decode prog_10_method_135_code 58 = .ok (.invokestatic 494, 3) := by decide +kernel
theorem dMo_obeys_61 : decode prog_10_method_135_code 61 = .ok (.invokevirtual 374, 3) := by decide +kernel
theorem dMo_obeys_64 : decode prog_10_method_135_code 64 = .ok (.ireturn, 1) := by decide +kernel
theorem dMo_obeys_65 : decode prog_10_method_135_code 65 = .ok (.aload_n 0, 1) := by decide +kernel
theorem dMo_obeys_66 : decode prog_10_method_135_code 66 = .ok (.invokevirtual 377, 3) := by decide +kernel
theorem dMo_obeys_69 : decode prog_10_method_135_code 69 = .ok (.ireturn, 1) := by decide +kernel
theorem dMo_obeys_70 : decode prog_10_method_135_code 70 = .ok (.aload_n 0, 1) := by decide +kernel
theorem dMo_obeys_71 : decode prog_10_method_135_code 71 = .ok (.iload_n 1, 1) := by decide +kernel
theorem dMo_obeys_72 : decode prog_10_method_135_code 72 = .ok (.aload_n 0, 1) := by decide +kernel
theorem dMo_obeys_73 : decode prog_10_method_135_code 73 = .ok (.getfield 104, 3) := by decide +kernel
theorem dMo_obeys_76 : decode prog_10_method_135_code 76 = .ok (.iconst 1, 1) := by decide +kernel
theorem dMo_obeys_77 : decode prog_10_method_135_code 77 = .ok (.laload, 1) := by decide +kernel
theorem dMo_obeys_78 : decode prog_10_method_135_code 78 = .ok (.invokestatic 494, 3) := by decide +kernel
theorem dMo_obeys_81 : decode prog_10_method_135_code 81 = .ok (.invokevirtual 365, 3) := by decide +kernel
theorem dMo_obeys_84 : decode prog_10_method_135_code 84 = .ok (.istore_n 2, 1) := by decide +kernel
theorem dMo_obeys_85 : decode prog_10_method_135_code 85 = .ok (.aload_n 0, 1) := by decide +kernel
theorem dMo_obeys_86 : decode prog_10_method_135_code 86 = .ok (.iload_n 2, 1) := by decide +kernel
theorem dMo_obeys_87 : decode prog_10_method_135_code 87 = .ok (.ifCond .ge 10, 3) := by decide +kernel
theorem dMo_obeys_90 : decode prog_10_method_135_code 90 = .ok (.aload_n 0, 1) := by decide +kernel
theorem dMo_obeys_91 : decode prog_10_method_135_code 91 = .ok (.getfield 325, 3) := by decide +kernel
theorem dMo_obeys_94 : decode prog_10_method_135_code 94 = .ok (.goto 4, 3) := by decide +kernel
theorem dMo_obeys_97 : decode prog_10_method_135_code 97 = .ok (.iload_n 2, 1) := by decide +kernel
theorem dMo_obeys_98 : decode prog_10_method_135_code 98 = .ok (.putfield 325, 3) := by decide +kernel
theorem dMo_obeys_101 : decode prog_10_method_135_code 101 = .ok (.iload_n 2, 1) := by decide +kernel
theorem dMo_obeys_102 : decode prog_10_method_135_code 102 = .ok (.ireturn, 1) := by decide +kernel
theorem dMo_runs_0 : decode prog_10_method_136_code 0 = .ok (.aload_n 0, 1) := by decide +kernel
theorem dMo_runs_1 : decode prog_10_method_136_code 1 = .ok (.iload_n 1, 1) := by decide +kernel
theorem dMo_runs_2 : decode prog_10_method_136_code 2 = .ok (.iconst 0, 1) := by decide +kernel
theorem dMo_runs_3 : decode prog_10_method_136_code 3 = .ok (.invokevirtual 498, 3) := by decide +kernel
theorem dMo_runs_6 : decode prog_10_method_136_code 6 = .ok (.aload_n 0, 1) := by decide +kernel
theorem dMo_runs_7 : decode prog_10_method_136_code 7 = .ok (.getfield 486, 3) := by decide +kernel
theorem dMo_runs_10 : decode prog_10_method_136_code 10 = .ok (.istore_n 2, 1) := by decide +kernel
theorem dMo_runs_11 : decode prog_10_method_136_code 11 = .ok (.aload_n 0, 1) := by decide +kernel
theorem dMo_runs_12 : decode prog_10_method_136_code 12 = .ok (.getfield 286, 3) := by decide +kernel
theorem dMo_runs_15 : decode prog_10_method_136_code 15 = .ok (.istore_n 3, 1) := by decide +kernel
theorem dMo_runs_16 : decode prog_10_method_136_code 16 = .ok (.iconst 0, 1) := by decide +kernel
theorem dMo_runs_17 : decode prog_10_method_136_code 17 = .ok (.istore 4, 2) := by decide +kernel
theorem dMo_runs_19 : decode prog_10_method_136_code 19 = .ok (.iload 4, 2) := by decide +kernel
theorem dMo_runs_21 : decode prog_10_method_136_code 21 = .ok (.iload_n 2, 1) := by decide +kernel
theorem dMo_runs_22 : decode prog_10_method_136_code 22 = .ok (.if_icmp .ge 51, 3) := by decide +kernel
theorem dMo_runs_25 : decode prog_10_method_136_code 25 = .ok (.aload_n 0, 1) := by decide +kernel
theorem dMo_runs_26 : decode prog_10_method_136_code 26 = .ok (.iload_n 1, 1) := by decide +kernel
theorem dMo_runs_27 : decode prog_10_method_136_code 27 = .ok (.iconst 1, 1) := by decide +kernel
theorem dMo_runs_28 : decode prog_10_method_136_code 28 = .ok (.invokevirtual 498, 3) := by decide +kernel
theorem dMo_runs_31 : decode prog_10_method_136_code 31 = .ok (.aload_n 0, 1) := by decide +kernel
theorem dMo_runs_32 : decode prog_10_method_136_code 32 = .ok (.getfield 489, 3) := by decide +kernel
theorem dMo_runs_35 : decode prog_10_method_136_code 35 = .ok (.ifCond .ne 6, 3) := by decide +kernel
theorem dMo_runs_38 : decode prog_10_method_136_code 38 = .ok (.goto 29, 3) := by decide +kernel
theorem dMo_runs_41 : decode prog_10_method_136_code 41 = .ok (.aload_n 0, 1) := by decide +kernel
theorem dMo_runs_42 : decode prog_10_method_136_code 42 = .ok (.getfield 483, 3) := by decide +kernel
theorem dMo_runs_45 : decode prog_10_method_136_code 45 = .ok (.ifCond .eq 10, 3) := by decide +kernel
theorem dMo_runs_48 : decode prog_10_method_136_code 48 = .ok (.aload_n 0, 1) := by decide +kernel
theorem dMo_runs_49 : decode prog_10_method_136_code 49 = .ok (.invokevirtual 502, 3) := by decide +kernel
theorem dMo_runs_52 : decode prog_10_method_136_code 52 = .ok (.ifCond .ge 5, 3) := by decide +kernel
theorem dMo_runs_55 : decode prog_10_method_136_code 55 = .ok (.iconst 0, 1) := by decide +kernel
theorem dMo_runs_56 : decode prog_10_method_136_code 56 = .ok (.ireturn, 1) := by decide +kernel
theorem dMo_runs_57 : decode prog_10_method_136_code 57 = .ok (.aload_n 0, 1) := by decide +kernel
theorem dMo_runs_58 : decode prog_10_method_136_code 58 = .ok (.dup, 1) := by decide +kernel
theorem dMo_runs_59 : decode prog_10_method_136_code 59 = .ok (.getfield 322, 3) := by decide +kernel
theorem dMo_runs_62 : decode prog_10_method_136_code 62 = .ok (.iconst 1, 1) := by decide +kernel
theorem dMo_runs_63 : decode prog_10_method_136_code 63 = .ok (.iadd, 1) := by decide +kernel
theorem dMo_runs_64 : decode prog_10_method_136_code 64 = .ok (.putfield 322, 3) := by decide +kernel
theorem dMo_runs_67 : decode prog_10_method_136_code 67 = .ok (.iinc 4 1, 3) := by decide +kernel
theorem dMo_runs_70 : decode prog_10_method_136_code 70 = .ok (.goto (-51), 3) := by decide +kernel
theorem dMo_runs_73 : decode prog_10_method_136_code 73 = .ok (.aload_n 0, 1) := by decide +kernel
theorem dMo_runs_74 : decode prog_10_method_136_code 74 = .ok (.iload_n 3, 1) := by decide +kernel
theorem dMo_runs_75 : decode prog_10_method_136_code 75 = .ok (.putfield 471, 3) := by decide +kernel
theorem dMo_runs_78 : decode prog_10_method_136_code 78 = .ok (.iconst 1, 1) := by decide +kernel
theorem dMo_runs_79 : decode prog_10_method_136_code 79 = .ok (.ireturn, 1) := by decide +kernel
theorem dMo_days_0 : decode prog_10_method_138_code 0 = .ok (.iload_n 1, 1) := by decide +kernel
theorem dMo_days_1 : decode prog_10_method_138_code 1 = .ok (.iconst 0, 1) := by decide +kernel
theorem dMo_days_2 : decode prog_10_method_138_code 2 = .ok (.ldc 193, 2) := by decide +kernel
theorem dMo_days_4 : decode prog_10_method_138_code 4 = .ok (.invokestatic 18, 3) := by decide +kernel
theorem dMo_days_7 : decode prog_10_method_138_code 7 = .ok (.ifCond .eq 13, 3) := by decide +kernel
theorem dMo_days_10 : decode prog_10_method_138_code 10 = .ok (.iload_n 2, 1) := by decide +kernel
theorem dMo_days_11 : decode prog_10_method_138_code 11 = .ok (.iconst 1, 1) := by decide +kernel
theorem dMo_days_12 : decode prog_10_method_138_code 12 = .ok (.bipush 60, 2) := by decide +kernel
theorem dMo_days_14 : decode prog_10_method_138_code 14 = .ok (.invokestatic 18, 3) := by decide +kernel
theorem dMo_days_17 : decode prog_10_method_138_code 17 = .ok (.ifCond .ne 9, 3) := by decide +kernel
theorem dMo_days_20 : decode prog_10_method_138_code 20 = .ok (.aload_n 0, 1) := by decide +kernel
theorem dMo_days_21 : decode prog_10_method_138_code 21 = .ok (.iconst (-1), 1) := by decide +kernel
theorem dMo_days_22 : decode prog_10_method_138_code 22 = .ok (.invokevirtual 113, 3) := by decide +kernel
theorem dMo_days_25 : decode prog_10_method_138_code 25 = .ok (.ireturn, 1) := by decide +kernel
theorem dMo_days_26 : decode prog_10_method_138_code 26 = .ok (.aload_n 0, 1) := by decide +kernel
theorem dMo_days_27 : decode prog_10_method_138_code 27 = .ok (.invokevirtual 119, 3) := by decide +kernel
theorem dMo_days_30 : decode prog_10_method_138_code 30 = .ok (.ifCond .ne 10, 3) := by decide +kernel
theorem dMo_days_33 : decode prog_10_method_138_code 33 = .ok (.aload_n 0, 1) := by decide +kernel
theorem dMo_days_34 : decode prog_10_method_138_code 34 = .ok (.bipush (-3), 2) := by decide +kernel
theorem dMo_days_36 : decode prog_10_method_138_code 36 = .ok (.invokevirtual 113, 3) := by decide +kernel
theorem dMo_days_39 : decode prog_10_method_138_code 39 = .ok (.ireturn, 1) := by decide +kernel
theorem dMo_days_40 : decode prog_10_method_138_code 40 = .ok (.aload_n 0, 1) := by decide +kernel
theorem dMo_days_41 : decode prog_10_method_138_code 41 = .ok (.iload_n 1, 1) := by decide +kernel
theorem dMo_days_42 : decode prog_10_method_138_code 42 = .ok (.putfield 507, 3) := by decide +kernel
theorem dMo_days_45 : decode prog_10_method_138_code 45 = .ok (.aload_n 0, 1) := by decide +kernel
theorem dMo_days_46 : decode prog_10_method_138_code 46 = .ok (.aload_n 0, 1) := by decide +kernel
theorem dMo_days_47 : decode prog_10_method_138_code 47 = .ok (.invokevirtual 119, 3) := by decide +kernel
theorem dMo_days_50 : decode prog_10_method_138_code 50 = .ok (.putfield 110, 3) := by decide +kernel
theorem dMo_days_53 : decode prog_10_method_138_code 53 = .ok (.aload_n 0, 1) := by decide +kernel
theorem dMo_days_54 : decode prog_10_method_138_code 54 = .ok (.iconst 0, 1) := by decide +kernel
theorem dMo_days_55 : decode prog_10_method_138_code 55 = .ok (.invokevirtual 468, 3) := by decide +kernel
theorem dMo_days_58 : decode prog_10_method_138_code 58 = .ok (.iconst 0, 1) := by decide +kernel
theorem dMo_days_59 : decode prog_10_method_138_code 59 = .ok (.istore_n 3, 1) := by decide +kernel
theorem dMo_days_60 : decode prog_10_method_138_code 60 = .ok (.iload_n 3, 1) := by decide +kernel
theorem dMo_days_61 : decode prog_10_method_138_code 61 = .ok (.iload_n 2, 1) := by decide +kernel
theorem dMo_days_62 : decode prog_10_method_138_code 62 = .ok (.if_icmp .ge 98, 3) := by decide +kernel
theorem dMo_days_65 : decode prog_10_method_138_code 65 = .ok (.aload_n 0, 1) := by decide +kernel
theorem dMo_days_66 : decode prog_10_method_138_code 66 = .ok (.getfield 28, 3) := by decide +kernel
theorem dMo_days_69 : decode prog_10_method_138_code 69 = .ok (.bipush 14, 2) := by decide +kernel
theorem dMo_days_71 : decode prog_10_method_138_code 71 = .ok (.iaload, 1) := by decide +kernel
theorem dMo_days_72 : decode prog_10_method_138_code 72 = .ok (.sipush 999, 3) := by decide +kernel
theorem dMo_days_75 : decode prog_10_method_138_code 75 = .ok (.if_icmp .ge 85, 3) := by decide +kernel
theorem dMo_days_78 : decode prog_10_method_138_code 78 = .ok (.aload_n 0, 1) := by decide +kernel
theorem dMo_days_79 : decode prog_10_method_138_code 79 = .ok (.aload_n 0, 1) := by decide +kernel
theorem dMo_days_80 : decode prog_10_method_138_code 80 = .ok (.invokevirtual 119, 3) := by decide +kernel
theorem dMo_days_83 : decode prog_10_method_138_code 83 = .ok (.invokevirtual 514, 3) := by decide +kernel
theorem dMo_days_86 : decode prog_10_method_138_code 86 = .ok (.istore 4, 2) := by decide +kernel
theorem dMo_days_88 : decode prog_10_method_138_code 88 = .ok (.aload_n 0, 1) := by decide +kernel
theorem dMo_days_89 : decode prog_10_method_138_code 89 = .ok (.bipush 7, 2) := by decide +kernel
theorem dMo_days_91 : decode prog_10_method_138_code 91 = .ok (.invokevirtual 514, 3) := by decide +kernel
theorem dMo_days_94 : decode prog_10_method_138_code 94 = .ok (.istore 5, 2) := by decide +kernel
theorem dMo_days_96 : decode prog_10_method_138_code 96 = .ok (.aload_n 0, 1) := by decide +kernel
theorem dMo_days_97 : decode prog_10_method_138_code 97 = .ok (.iconst 3, 1) := by decide +kernel
theorem dMo_days_98 : decode prog_10_method_138_code 98 = .ok (.invokevirtual 514, 3) := by decide +kernel
theorem dMo_days_101 : decode prog_10_method_138_code 101 = .ok (.istore 6, 2) := by decide +kernel
theorem dMo_days_103 : decode prog_10_method_138_code 103 = .ok (.iload 6, 2) := by decide +kernel
theorem dMo_days_105 : decode prog_10_method_138_code 105 = .ok (.iconst 2, 1) := by decide +kernel
theorem dMo_days_106 : decode prog_10_method_138_code 106 = .ok (.if_icmp .ge 26, 3) := by decide +kernel
theorem dMo_days_109 : decode prog_10_method_138_code 109 = .ok (.aload_n 0, 1) := by decide +kernel
theorem dMo_days_110 : decode prog_10_method_138_code 110 = .ok (.iload 4, 2) := by decide +kernel
theorem dMo_days_112 : decode prog_10_method_138_code 112 = .ok (.iload 5, 2) := by decide +kernel
theorem dMo_days_114 : decode prog_10_method_138_code 114 = .ok (.invokevirtual 356, 3) := by decide +kernel
theorem dMo_days_117 : decode prog_10_method_138_code 117 = .ok (.ifCond .eq 15, 3) := by decide +kernel
theorem dMo_days_120 : decode prog_10_method_138_code 120 = .ok (.aload_n 0, 1) := by decide +kernel
theorem dMo_days_121 : decode prog_10_method_138_code 121 = .ok (.getfield 28, 3) := by decide +kernel
theorem dMo_days_124 : decode prog_10_method_138_code 124 = .ok (.bipush 7, 2) := by decide +kernel
theorem dMo_days_126 : decode prog_10_method_138_code 126 = .ok (.iload 4, 2) := by decide +kernel
theorem dMo_days_128 : decode prog_10_method_138_code 128 = .ok (.iadd, 1) := by decide +kernel
theorem dMo_days_129 : decode prog_10_method_138_code 129 = .ok (.iload 5, 2) := by decide +kernel
theorem dMo_days_131 : decode prog_10_method_138_code 131 = .ok (.iastore, 1) := by decide +kernel
theorem dMo_days_132 : decode prog_10_method_138_code 132 = .ok (.iload 6, 2) := by decide +kernel
theorem dMo_days_134 : decode prog_10_method_138_code 134 = .ok (.iconst 2, 1) := by decide +kernel
theorem dMo_days_135 : decode prog_10_method_138_code 135 = .ok (.if_icmp .ne 14, 3) := by decide +kernel
theorem dMo_days_138 : decode prog_10_method_138_code 138 = .ok (.aload_n 0, 1) := by decide +kernel
theorem dMo_days_139 : decode prog_10_method_138_code 139 = .ok (.getfield 28, 3) := by decide +kernel
theorem dMo_days_142 : decode prog_10_method_138_code 142 = .ok (.bipush 7, 2) := by decide +kernel
theorem dMo_days_144 : decode prog_10_method_138_code 144 = .ok (.iload 4, 2) := by decide +kernel
theorem dMo_days_146 : decode prog_10_method_138_code 146 = .ok (.iadd, 1) := by decide +kernel
theorem dMo_days_147 : decode prog_10_method_138_code 147 = .ok (.iconst (-1), 1) := by decide +kernel
theorem dMo_days_148 : decode prog_10_method_138_code 148 = .ok (.iastore, 1) := by decide +kernel
theorem dMo_days_149 : decode prog_10_method_138_code 149 = .ok (.aload_n 0, 1) := by decide +kernel
theorem dMo_days_150 : decode prog_10_method_138_code 150 = .ok (.invokevirtual 362, 3) := by decide +kernel
theorem dMo_days_153 : decode prog_10_method_138_code 153 = .ok (.pop, 1) := by decide +kernel
theorem dMo_days_154 : decode prog_10_method_138_code 154 = .ok (.iinc 3 1, 3) := by decide +kernel
theorem dMo_days_157 : decode prog_10_method_138_code 157 = .ok (.goto (-97), 3) := by decide +kernel
theorem dMo_days_160 : decode prog_10_method_138_code 160 = .ok (.aload_n 0, 1) := by decide +kernel
theorem dMo_days_161 : decode prog_10_method_138_code 161 = .ok (.invokevirtual 154, 3) := by decide +kernel
theorem dMo_days_164 : decode prog_10_method_138_code 164 = .ok (.invokestatic 163, 3) := by decide +kernel
theorem dMo_days_167 : decode prog_10_method_138_code 167 = .ok (.istore_n 3, 1) := by decide +kernel
theorem dMo_days_168 : decode prog_10_method_138_code 168 = .ok (.iconst 0, 1) := by decide +kernel
theorem dMo_days_169 : decode prog_10_method_138_code 169 = .ok (.istore 4, 2) := by decide +kernel
theorem dMo_days_171 : decode prog_10_method_138_code 171 = .ok (.iload 4, 2) := by decide +kernel
theorem dMo_days_173 : decode prog_10_method_138_code 173 = .ok (.bipush 15, 2) := by decide +kernel
theorem dMo_days_175 : decode prog_10_method_138_code 175 = .ok (.if_icmp .ge 23, 3) := by decide +kernel
theorem dMo_days_178 : decode prog_10_method_138_code 178 = .ok (.aload_n 0, 1) := by decide +kernel
theorem dMo_days_179 : decode prog_10_method_138_code 179 = .ok (.getfield 107, 3) := by decide +kernel
theorem dMo_days_182 : decode prog_10_method_138_code 182 = .ok (.iload 4, 2) := by decide +kernel
theorem dMo_days_184 : decode prog_10_method_138_code 184 = .ok (.aload_n 0, 1) := by decide +kernel
theorem dMo_days_185 : decode prog_10_method_138_code 185 = .ok (.getfield 28, 3) := by decide +kernel
theorem dMo_days_188 : decode prog_10_method_138_code 188 = .ok (.iload 4, 2) := by decide +kernel
theorem dMo_days_190 : decode prog_10_method_138_code 190 = .ok (.iaload, 1) := by decide +kernel
theorem dMo_days_191 : decode prog_10_method_138_code 191 = .ok (.iastore, 1) := by decide +kernel
theorem dMo_days_192 : decode prog_10_method_138_code 192 = .ok (.iinc 4 1, 3) := by decide +kernel
theorem dMo_days_195 : decode prog_10_method_138_code 195 = .ok (.goto (-24), 3) := by decide +kernel
theorem dMo_days_198 : decode prog_10_method_138_code 198 = .ok (.aload_n 0, 1) := by decide +kernel
theorem dMo_days_199 : decode prog_10_method_138_code 199 = .ok (.iconst 0, 1) := by decide +kernel
theorem dMo_days_200 : decode prog_10_method_138_code 200 = .ok (.invokevirtual 477, 3) := by decide +kernel
theorem dMo_days_203 : decode prog_10_method_138_code 203 = .ok (.aload_n 0, 1) := by decide +kernel
theorem dMo_days_204 : decode prog_10_method_138_code 204 = .ok (.iload_n 3, 1) := by decide +kernel
theorem dMo_days_205 : decode prog_10_method_138_code 205 = .ok (.invokevirtual 14, 3) := by decide +kernel
theorem dMo_days_208 : decode prog_10_method_138_code 208 = .ok (.ireturn, 1) := by decide +kernel
theorem dMo_of_0 : decode prog_10_method_24_code 0 = .ok (.aload_n 0, 1) := by decide +kernel
theorem dMo_of_1 : decode prog_10_method_24_code 1 = .ok (.iload_n 1, 1) := by decide +kernel
theorem dMo_of_2 : decode prog_10_method_24_code 2 = .ok (.invokevirtual 135, 3) := by decide +kernel
theorem dMo_of_5 : decode prog_10_method_24_code 5 = .ok (.ifCond .ne 5, 3) := by decide +kernel
theorem dMo_of_8 : decode prog_10_method_24_code 8 = .ok (.iconst (-1), 1) := by decide +kernel
theorem dMo_of_9 : decode prog_10_method_24_code 9 = .ok (.ireturn, 1) := by decide +kernel
theorem dMo_of_10 : decode prog_10_method_24_code 10 = .ok (.iload_n 2, 1) := by decide +kernel
theorem dMo_of_11 : decode prog_10_method_24_code 11 = .ok (.tableswitch 116 0 4 #[33, 42, 52, 62, 89], 33) := by decide +kernel
theorem dMo_of_44 : decode prog_10_method_24_code 44 = .ok (.aload_n 0, 1) := by decide +kernel
theorem dMo_of_45 : decode prog_10_method_24_code 45 = .ok (.getfield 28, 3) := by decide +kernel
theorem dMo_of_48 : decode prog_10_method_24_code 48 = .ok (.iconst 0, 1) := by decide +kernel
theorem dMo_of_49 : decode prog_10_method_24_code 49 = .ok (.iload_n 1, 1) := by decide +kernel
theorem dMo_of_50 : decode prog_10_method_24_code 50 = .ok (.iadd, 1) := by decide +kernel
theorem dMo_of_51 : decode prog_10_method_24_code 51 = .ok (.iaload, 1) := by decide +kernel
theorem dMo_of_52 : decode prog_10_method_24_code 52 = .ok (.ireturn, 1) := by decide +kernel
theorem dMo_of_53 : decode prog_10_method_24_code 53 = .ok (.aload_n 0, 1) := by decide +kernel
theorem dMo_of_54 : decode prog_10_method_24_code 54 = .ok (.getfield 28, 3) := by decide +kernel
theorem dMo_of_57 : decode prog_10_method_24_code 57 = .ok (.bipush 15, 2) := by decide +kernel
theorem dMo_of_59 : decode prog_10_method_24_code 59 = .ok (.iload_n 1, 1) := by decide +kernel
theorem dMo_of_60 : decode prog_10_method_24_code 60 = .ok (.iadd, 1) := by decide +kernel
theorem dMo_of_61 : decode prog_10_method_24_code 61 = .ok (.iaload, 1) := by decide +kernel
theorem dMo_of_62 : decode prog_10_method_24_code 62 = .ok (.ireturn, 1) := by decide +kernel
theorem dMo_of_63 : decode prog_10_method_24_code 63 = .ok (.aload_n 0, 1) := by decide +kernel
theorem dMo_of_64 : decode prog_10_method_24_code 64 = .ok (.getfield 28, 3) := by decide +kernel
theorem dMo_of_67 : decode prog_10_method_24_code 67 = .ok (.bipush 7, 2) := by decide +kernel
theorem dMo_of_69 : decode prog_10_method_24_code 69 = .ok (.iload_n 1, 1) := by decide +kernel
theorem dMo_of_70 : decode prog_10_method_24_code 70 = .ok (.iadd, 1) := by decide +kernel
theorem dMo_of_71 : decode prog_10_method_24_code 71 = .ok (.iaload, 1) := by decide +kernel
theorem dMo_of_72 : decode prog_10_method_24_code 72 = .ok (.ireturn, 1) := by decide +kernel
theorem dMo_of_73 : decode prog_10_method_24_code 73 = .ok (.aload_n 0, 1) := by decide +kernel
theorem dMo_of_74 : decode prog_10_method_24_code 74 = .ok (.iload_n 1, 1) := by decide +kernel
theorem dMo_of_75 : decode prog_10_method_24_code 75 = .ok (.invokevirtual 138, 3) := by decide +kernel
theorem dMo_of_78 : decode prog_10_method_24_code 78 = .ok (.ifCond .eq 20, 3) := by decide +kernel
theorem dMo_of_81 : decode prog_10_method_24_code 81 = .ok (.aload_n 0, 1) := by decide +kernel
theorem dMo_of_82 : decode prog_10_method_24_code 82 = .ok (.iload_n 1, 1) := by decide +kernel
theorem dMo_of_83 : decode prog_10_method_24_code 83 = .ok (.aload_n 0, 1) := by decide +kernel
theorem dMo_of_84 : decode prog_10_method_24_code 84 = .ok (.getfield 28, 3) := by decide +kernel
theorem dMo_of_87 : decode prog_10_method_24_code 87 = .ok (.bipush 7, 2) := by decide +kernel
theorem dMo_of_89 : decode prog_10_method_24_code 89 = .ok (.iload_n 1, 1) := by decide +kernel
theorem dMo_of_90 : decode prog_10_method_24_code 90 = .ok (.iadd, 1) := by decide +kernel
theorem dMo_of_91 : decode prog_10_method_24_code 91 = .ok (.iaload, 1) := by decide +kernel
theorem dMo_of_92 : decode prog_10_method_24_code 92 = .ok (.invokevirtual 141, 3) := by decide +kernel
theorem dMo_of_95 : decode prog_10_method_24_code 95 = .ok (.goto 4, 3) := by decide +kernel
theorem dMo_of_98 : decode prog_10_method_24_code 98 = .ok (.iconst (-1), 1) := by decide +kernel
theorem dMo_of_99 : decode prog_10_method_24_code 99 = .ok (.ireturn, 1) := by decide +kernel
theorem dMo_of_100 : decode prog_10_method_24_code 100 = .ok (.aload_n 0, 1) := by decide +kernel
theorem dMo_of_101 : decode prog_10_method_24_code 101 = .ok (.iload_n 1, 1) := by decide +kernel
theorem dMo_of_102 : decode prog_10_method_24_code 102 = .ok (.invokevirtual 138, 3) := by decide +kernel
theorem dMo_of_105 : decode prog_10_method_24_code 105 = .ok (.ifCond .eq 20, 3) := by decide +kernel
theorem dMo_of_108 : decode prog_10_method_24_code 108 = .ok (.aload_n 0, 1) := by decide +kernel
theorem dMo_of_109 : decode prog_10_method_24_code 109 = .ok (.iload_n 1, 1) := by decide +kernel
theorem dMo_of_110 : decode prog_10_method_24_code 110 = .ok (.aload_n 0, 1) := by decide +kernel
theorem dMo_of_111 : decode prog_10_method_24_code 111 = .ok (.getfield 28, 3) := by decide +kernel
theorem dMo_of_114 : decode prog_10_method_24_code 114 = .ok (.bipush 7, 2) := by decide +kernel
theorem dMo_of_116 : decode prog_10_method_24_code 116 = .ok (.iload_n 1, 1) := by decide +kernel
theorem dMo_of_117 : decode prog_10_method_24_code 117 = .ok (.iadd, 1) := by decide +kernel
theorem dMo_of_118 : decode prog_10_method_24_code 118 = .ok (.iaload, 1) := by decide +kernel
theorem dMo_of_119 : decode prog_10_method_24_code 119 = .ok (.invokevirtual 145, 3) := by decide +kernel
theorem dMo_of_122 : decode prog_10_method_24_code 122 = .ok (.goto 4, 3) := by decide +kernel
theorem dMo_of_125 : decode prog_10_method_24_code 125 = .ok (.iconst (-1), 1) := by decide +kernel
theorem dMo_of_126 : decode prog_10_method_24_code 126 = .ok (.ireturn, 1) := by decide +kernel
theorem dMo_of_127 : decode prog_10_method_24_code 127 = .ok (.iconst (-1), 1) := by decide +kernel
theorem dMo_of_128 : decode prog_10_method_24_code 128 = .ok (.ireturn, 1) := by decide +kernel
theorem dMo_asks_0 : decode prog_10_method_25_code 0 = .ok (.aload_n 0, 1) := by decide +kernel
theorem dMo_asks_1 : decode prog_10_method_25_code 1 = .ok (.iload_n 1, 1) := by decide +kernel
theorem dMo_asks_2 : decode prog_10_method_25_code 2 = .ok (.invokevirtual 135, 3) := by decide +kernel
theorem dMo_asks_5 : decode prog_10_method_25_code 5 = .ok (.ifCond .eq 10, 3) := by decide +kernel
theorem dMo_asks_8 : decode prog_10_method_25_code 8 = .ok (.iload_n 2, 1) := by decide +kernel
theorem dMo_asks_9 : decode prog_10_method_25_code 9 = .ok (.invokestatic 148, 3) := by decide +kernel
theorem dMo_asks_12 : decode prog_10_method_25_code 12 = .ok (.ifCond .ne 5, 3) := by decide +kernel
theorem dMo_asks_15 : decode prog_10_method_25_code 15 = .ok (.iconst (-1), 1) := by decide +kernel
theorem dMo_asks_16 : decode prog_10_method_25_code 16 = .ok (.ireturn, 1) := by decide +kernel
theorem dMo_asks_17 : decode prog_10_method_25_code 17 = .ok (.iload_n 3, 1) := by decide +kernel
theorem dMo_asks_18 : decode prog_10_method_25_code 18 = .ok (.tableswitch 74 0 2 #[26, 33, 48], 26) := by decide +kernel
theorem dMo_asks_44 : decode prog_10_method_25_code 44 = .ok (.aload_n 0, 1) := by decide +kernel
theorem dMo_asks_45 : decode prog_10_method_25_code 45 = .ok (.iload_n 1, 1) := by decide +kernel
theorem dMo_asks_46 : decode prog_10_method_25_code 46 = .ok (.iload_n 2, 1) := by decide +kernel
theorem dMo_asks_47 : decode prog_10_method_25_code 47 = .ok (.invokevirtual 141, 3) := by decide +kernel
theorem dMo_asks_50 : decode prog_10_method_25_code 50 = .ok (.ireturn, 1) := by decide +kernel
theorem dMo_asks_51 : decode prog_10_method_25_code 51 = .ok (.aload_n 0, 1) := by decide +kernel
theorem dMo_asks_52 : decode prog_10_method_25_code 52 = .ok (.iload_n 1, 1) := by decide +kernel
theorem dMo_asks_53 : decode prog_10_method_25_code 53 = .ok (.iload_n 2, 1) := by decide +kernel
theorem dMo_asks_54 : decode prog_10_method_25_code 54 = .ok (.invokevirtual 151, 3) := by decide +kernel
theorem dMo_asks_57 : decode prog_10_method_25_code 57 = .ok (.ifCond .eq 7, 3) := by decide +kernel
theorem dMo_asks_60 : decode prog_10_method_25_code 60 = .ok (.iconst 1, 1) := by decide +kernel
theorem dMo_asks_61 : decode prog_10_method_25_code 61 = .ok (.goto 4, 3) := by decide +kernel
theorem dMo_asks_64 : decode prog_10_method_25_code 64 = .ok (.iconst 0, 1) := by decide +kernel
theorem dMo_asks_65 : decode prog_10_method_25_code 65 = .ok (.ireturn, 1) := by decide +kernel
theorem dMo_asks_66 : decode prog_10_method_25_code 66 = .ok (.aload_n 0, 1) := by decide +kernel
theorem dMo_asks_67 : decode prog_10_method_25_code 67 = .ok (.invokevirtual 154, 3) := by decide +kernel
theorem dMo_asks_70 : decode prog_10_method_25_code 70 = .ok (.aload_n 0, 1) := by decide +kernel
theorem dMo_asks_71 : decode prog_10_method_25_code 71 = .ok (.iload_n 1, 1) := by decide +kernel
theorem dMo_asks_72 : decode prog_10_method_25_code 72 = .ok (.invokevirtual 157, 3) := by decide +kernel
theorem dMo_asks_75 : decode prog_10_method_25_code 75 = .ok (.isub, 1) := by decide +kernel
theorem dMo_asks_76 : decode prog_10_method_25_code 76 = .ok (.aload_n 0, 1) := by decide +kernel
theorem dMo_asks_77 : decode prog_10_method_25_code 77 = .ok (.iload_n 1, 1) := by decide +kernel
theorem dMo_asks_78 : decode prog_10_method_25_code 78 = .ok (.iload_n 2, 1) := by decide +kernel
theorem dMo_asks_79 : decode prog_10_method_25_code 79 = .ok (.invokevirtual 141, 3) := by decide +kernel
theorem dMo_asks_82 : decode prog_10_method_25_code 82 = .ok (.iload_n 2, 1) := by decide +kernel
theorem dMo_asks_83 : decode prog_10_method_25_code 83 = .ok (.invokestatic 160, 3) := by decide +kernel
theorem dMo_asks_86 : decode prog_10_method_25_code 86 = .ok (.imul, 1) := by decide +kernel
theorem dMo_asks_87 : decode prog_10_method_25_code 87 = .ok (.iadd, 1) := by decide +kernel
theorem dMo_asks_88 : decode prog_10_method_25_code 88 = .ok (.invokestatic 163, 3) := by decide +kernel
theorem dMo_asks_91 : decode prog_10_method_25_code 91 = .ok (.ireturn, 1) := by decide +kernel
theorem dMo_asks_92 : decode prog_10_method_25_code 92 = .ok (.iconst (-1), 1) := by decide +kernel
theorem dMo_asks_93 : decode prog_10_method_25_code 93 = .ok (.ireturn, 1) := by decide +kernel
theorem dMo_tilt_0 : decode prog_10_method_26_code 0 = .ok (.aload_n 0, 1) := by decide +kernel
theorem dMo_tilt_1 : decode prog_10_method_26_code 1 = .ok (.invokevirtual 154, 3) := by decide +kernel
theorem dMo_tilt_4 : decode prog_10_method_26_code 4 = .ok (.istore_n 2, 1) := by decide +kernel
theorem dMo_tilt_5 : decode prog_10_method_26_code 5 = .ok (.iload_n 1, 1) := by decide +kernel
theorem dMo_tilt_6 : decode prog_10_method_26_code 6 = .ok (.tableswitch 63 0 2 #[26, 31, 49], 26) := by decide +kernel
theorem dMo_tilt_32 : decode prog_10_method_26_code 32 = .ok (.iload_n 2, 1) := by decide +kernel
theorem dMo_tilt_33 : decode prog_10_method_26_code 33 = .ok (.invokestatic 163, 3) := by decide +kernel
theorem dMo_tilt_36 : decode prog_10_method_26_code 36 = .ok (.ireturn, 1) := by decide +kernel
theorem dMo_tilt_37 : decode prog_10_method_26_code 37 = .ok (.iload_n 2, 1) := by decide +kernel
theorem dMo_tilt_38 : decode prog_10_method_26_code 38 = .ok (.ifCond .ne 7, 3) := by decide +kernel
theorem dMo_tilt_41 : decode prog_10_method_26_code 41 = .ok (.iconst 0, 1) := by decide +kernel
theorem dMo_tilt_42 : decode prog_10_method_26_code 42 = .ok (.goto 12, 3) := by decide +kernel
theorem dMo_tilt_45 : decode prog_10_method_26_code 45 = .ok (.iload_n 2, 1) := by decide +kernel
theorem dMo_tilt_46 : decode prog_10_method_26_code 46 = .ok (.ifCond .ge 7, 3) := by decide +kernel
theorem dMo_tilt_49 : decode prog_10_method_26_code 49 = .ok (.iconst 1, 1) := by decide +kernel
theorem dMo_tilt_50 : decode prog_10_method_26_code 50 = .ok (.goto 4, 3) := by decide +kernel
theorem dMo_tilt_53 : decode prog_10_method_26_code 53 = .ok (.iconst 2, 1) := by decide +kernel
theorem dMo_tilt_54 : decode prog_10_method_26_code 54 = .ok (.ireturn, 1) := by decide +kernel
theorem dMo_tilt_55 : decode prog_10_method_26_code 55 = .ok (.aload_n 0, 1) := by decide +kernel
theorem dMo_tilt_56 : decode prog_10_method_26_code 56 = .ok (.iload_n 2, 1) := by decide +kernel
theorem dMo_tilt_57 : decode prog_10_method_26_code 57 = .ok (.invokevirtual 166, 3) := by decide +kernel
theorem dMo_tilt_60 : decode prog_10_method_26_code 60 = .ok (.ifCond .eq 7, 3) := by decide +kernel
theorem dMo_tilt_63 : decode prog_10_method_26_code 63 = .ok (.iconst 1, 1) := by decide +kernel
theorem dMo_tilt_64 : decode prog_10_method_26_code 64 = .ok (.goto 4, 3) := by decide +kernel
theorem dMo_tilt_67 : decode prog_10_method_26_code 67 = .ok (.iconst 0, 1) := by decide +kernel
theorem dMo_tilt_68 : decode prog_10_method_26_code 68 = .ok (.ireturn, 1) := by decide +kernel
theorem dMo_tilt_69 : decode prog_10_method_26_code 69 = .ok (.iconst (-1), 1) := by decide +kernel
theorem dMo_tilt_70 : decode prog_10_method_26_code 70 = .ok (.ireturn, 1) := by decide +kernel
theorem dMo_orders_0 : decode prog_10_method_132_code 0 = .ok (.aload_n 0, 1) := by decide +kernel
theorem dMo_orders_1 : decode prog_10_method_132_code 1 = .ok (.iconst (-1), 1) := by decide +kernel
theorem dMo_orders_2 : decode prog_10_method_132_code 2 = .ok (.putfield 101, 3) := by decide +kernel
theorem dMo_orders_5 : decode prog_10_method_132_code 5 = .ok (.aload_n 0, 1) := by decide +kernel
theorem dMo_orders_6 : decode prog_10_method_132_code 6 = .ok (.iconst 1, 1) := by decide +kernel
theorem dMo_orders_7 : decode prog_10_method_132_code 7 = .ok (.invokevirtual 273, 3) := by decide +kernel
theorem dMo_orders_10 : decode prog_10_method_132_code 10 = .ok (.ifCond .ne 10, 3) := by decide +kernel
theorem dMo_orders_13 : decode prog_10_method_132_code 13 = .ok (.aload_n 0, 1) := by decide +kernel
theorem dMo_orders_14 : decode prog_10_method_132_code 14 = .ok (.bipush (-6), 2) := by decide +kernel
theorem dMo_orders_16 : decode prog_10_method_132_code 16 = .ok (.invokevirtual 113, 3) := by decide +kernel
theorem dMo_orders_19 : decode prog_10_method_132_code 19 = .ok (.ireturn, 1) := by decide +kernel
theorem dMo_orders_20 : decode prog_10_method_132_code 20 = .ok (.aload_n 0, 1) := by decide +kernel
theorem dMo_orders_21 : decode prog_10_method_132_code 21 = .ok (.iconst 1, 1) := by decide +kernel
theorem dMo_orders_22 : decode prog_10_method_132_code 22 = .ok (.invokevirtual 468, 3) := by decide +kernel
theorem dMo_orders_25 : decode prog_10_method_132_code 25 = .ok (.iconst 0, 1) := by decide +kernel
theorem dMo_orders_26 : decode prog_10_method_132_code 26 = .ok (.istore_n 1, 1) := by decide +kernel
theorem dMo_orders_27 : decode prog_10_method_132_code 27 = .ok (.iload_n 1, 1) := by decide +kernel
theorem dMo_orders_28 : decode prog_10_method_132_code 28 = .ok (.sipush 256, 3) := by decide +kernel
theorem dMo_orders_31 : decode prog_10_method_132_code 31 = .ok (.if_icmp .ge 21, 3) := by decide +kernel
theorem dMo_orders_34 : decode prog_10_method_132_code 34 = .ok (.aload_n 0, 1) := by decide +kernel
theorem dMo_orders_35 : decode prog_10_method_132_code 35 = .ok (.getfield 72, 3) := by decide +kernel
theorem dMo_orders_38 : decode prog_10_method_132_code 38 = .ok (.iload_n 1, 1) := by decide +kernel
theorem dMo_orders_39 : decode prog_10_method_132_code 39 = .ok (.aload_n 0, 1) := by decide +kernel
theorem dMo_orders_40 : decode prog_10_method_132_code 40 = .ok (.getfield 69, 3) := by decide +kernel
theorem dMo_orders_43 : decode prog_10_method_132_code 43 = .ok (.iload_n 1, 1) := by decide +kernel
theorem dMo_orders_44 : decode prog_10_method_132_code 44 = .ok (.iaload, 1) := by decide +kernel
theorem dMo_orders_45 : decode prog_10_method_132_code 45 = .ok (.iastore, 1) := by decide +kernel
theorem dMo_orders_46 : decode prog_10_method_132_code 46 = .ok (.iinc 1 1, 3) := by decide +kernel
theorem dMo_orders_49 : decode prog_10_method_132_code 49 = .ok (.goto (-22), 3) := by decide +kernel
theorem dMo_orders_52 : decode prog_10_method_132_code 52 = .ok (.aload_n 0, 1) := by decide +kernel
theorem dMo_orders_53 : decode prog_10_method_132_code 53 = .ok (.getfield 11, 3) := by decide +kernel
theorem dMo_orders_56 : decode prog_10_method_132_code 56 = .ok (.istore_n 1, 1) := by decide +kernel
theorem dMo_orders_57 : decode prog_10_method_132_code 57 = .ok (.aload_n 0, 1) := by decide +kernel
theorem dMo_orders_58 : decode prog_10_method_132_code 58 = .ok (.bipush 6, 2) := by decide +kernel
theorem dMo_orders_60 : decode prog_10_method_132_code 60 = .ok (.invokevirtual 277, 3) := by decide +kernel
theorem dMo_orders_63 : decode prog_10_method_132_code 63 = .ok (.aload_n 0, 1) := by decide +kernel
theorem dMo_orders_64 : decode prog_10_method_132_code 64 = .ok (.iconst 0, 1) := by decide +kernel
theorem dMo_orders_65 : decode prog_10_method_132_code 65 = .ok (.putfield 322, 3) := by decide +kernel
theorem dMo_orders_68 : decode prog_10_method_132_code 68 = .ok (.aload_n 0, 1) := by decide +kernel
theorem dMo_orders_69 : decode prog_10_method_132_code 69 = .ok (.iconst (-1), 1) := by decide +kernel
theorem dMo_orders_70 : decode prog_10_method_132_code 70 = .ok (.putfield 325, 3) := by decide +kernel
theorem dMo_orders_73 : decode prog_10_method_132_code 73 = .ok (.aload_n 0, 1) := by decide +kernel
theorem dMo_orders_74 : decode prog_10_method_132_code 74 = .ok (.sipush 2400, 3) := by decide +kernel
theorem dMo_orders_77 : decode prog_10_method_132_code 77 = .ok (.putfield 471, 3) := by decide +kernel
theorem dMo_orders_80 : decode prog_10_method_132_code 80 = .ok (.aload_n 0, 1) := by decide +kernel
theorem dMo_orders_81 : decode prog_10_method_132_code 81 = .ok (.getfield 471, 3) := by decide +kernel
theorem dMo_orders_84 : decode prog_10_method_132_code 84 = .ok (.aload_n 0, 1) := by decide +kernel
theorem dMo_orders_85 : decode prog_10_method_132_code 85 = .ok (.getfield 28, 3) := by decide +kernel
theorem dMo_orders_88 : decode prog_10_method_132_code 88 = .ok (.bipush 53, 2) := by decide +kernel
theorem dMo_orders_90 : decode prog_10_method_132_code 90 = .ok (.iaload, 1) := by decide +kernel
theorem dMo_orders_91 : decode prog_10_method_132_code 91 = .ok (.iadd, 1) := by decide +kernel
theorem dMo_orders_92 : decode prog_10_method_132_code 92 = .ok (.istore_n 2, 1) := by decide +kernel
theorem dMo_orders_93 : decode prog_10_method_132_code 93 = .ok (.iconst 0, 1) := by decide +kernel
theorem dMo_orders_94 : decode prog_10_method_132_code 94 = .ok (.istore_n 3, 1) := by decide +kernel
theorem dMo_orders_95 : decode prog_10_method_132_code 95 = .ok (.aload_n 0, 1) := by decide +kernel
theorem dMo_orders_96 : decode prog_10_method_132_code 96 = .ok (.getfield 471, 3) := by decide +kernel
theorem dMo_orders_99 : decode prog_10_method_132_code 99 = .ok (.iload_n 2, 1) := by decide +kernel
theorem dMo_orders_100 : decode prog_10_method_132_code 100 = .ok (.if_icmp .ge 73, 3) := by decide +kernel
theorem dMo_orders_103 : decode prog_10_method_132_code 103 = .ok (.aload_n 0, 1) := by decide +kernel
theorem dMo_orders_104 : decode prog_10_method_132_code 104 = .ok (.iload_n 2, 1) := by decide +kernel
theorem dMo_orders_105 : decode prog_10_method_132_code 105 = .ok (.invokevirtual 474, 3) := by decide +kernel
theorem dMo_orders_108 : decode prog_10_method_132_code 108 = .ok (.ifCond .eq 6, 3) := by decide +kernel
theorem dMo_orders_111 : decode prog_10_method_132_code 111 = .ok (.goto 56, 3) := by decide +kernel
theorem dMo_orders_114 : decode prog_10_method_132_code 114 = .ok (.aload_n 0, 1) := by decide +kernel
theorem dMo_orders_115 : decode prog_10_method_132_code 115 = .ok (.iconst 1, 1) := by decide +kernel
theorem dMo_orders_116 : decode prog_10_method_132_code 116 = .ok (.invokevirtual 477, 3) := by decide +kernel
theorem dMo_orders_119 : decode prog_10_method_132_code 119 = .ok (.iconst 0, 1) := by decide +kernel
theorem dMo_orders_120 : decode prog_10_method_132_code 120 = .ok (.istore 4, 2) := by decide +kernel
theorem dMo_orders_122 : decode prog_10_method_132_code 122 = .ok (.iload 4, 2) := by decide +kernel
theorem dMo_orders_124 : decode prog_10_method_132_code 124 = .ok (.sipush 256, 3) := by decide +kernel
theorem dMo_orders_127 : decode prog_10_method_132_code 127 = .ok (.if_icmp .ge 23, 3) := by decide +kernel
theorem dMo_orders_130 : decode prog_10_method_132_code 130 = .ok (.aload_n 0, 1) := by decide +kernel
theorem dMo_orders_131 : decode prog_10_method_132_code 131 = .ok (.getfield 69, 3) := by decide +kernel
theorem dMo_orders_134 : decode prog_10_method_132_code 134 = .ok (.iload 4, 2) := by decide +kernel
theorem dMo_orders_136 : decode prog_10_method_132_code 136 = .ok (.aload_n 0, 1) := by decide +kernel
theorem dMo_orders_137 : decode prog_10_method_132_code 137 = .ok (.getfield 72, 3) := by decide +kernel
theorem dMo_orders_140 : decode prog_10_method_132_code 140 = .ok (.iload 4, 2) := by decide +kernel
theorem dMo_orders_142 : decode prog_10_method_132_code 142 = .ok (.iaload, 1) := by decide +kernel
theorem dMo_orders_143 : decode prog_10_method_132_code 143 = .ok (.iastore, 1) := by decide +kernel
theorem dMo_orders_144 : decode prog_10_method_132_code 144 = .ok (.iinc 4 1, 3) := by decide +kernel
theorem dMo_orders_147 : decode prog_10_method_132_code 147 = .ok (.goto (-25), 3) := by decide +kernel
theorem dMo_orders_150 : decode prog_10_method_132_code 150 = .ok (.aload_n 0, 1) := by decide +kernel
theorem dMo_orders_151 : decode prog_10_method_132_code 151 = .ok (.iload_n 1, 1) := by decide +kernel
theorem dMo_orders_152 : decode prog_10_method_132_code 152 = .ok (.putfield 11, 3) := by decide +kernel
theorem dMo_orders_155 : decode prog_10_method_132_code 155 = .ok (.aload_n 0, 1) := by decide +kernel
theorem dMo_orders_156 : decode prog_10_method_132_code 156 = .ok (.iload_n 3, 1) := by decide +kernel
theorem dMo_orders_157 : decode prog_10_method_132_code 157 = .ok (.putfield 101, 3) := by decide +kernel
theorem dMo_orders_160 : decode prog_10_method_132_code 160 = .ok (.aload_n 0, 1) := by decide +kernel
theorem dMo_orders_161 : decode prog_10_method_132_code 161 = .ok (.bipush (-3), 2) := by decide +kernel
theorem dMo_orders_163 : decode prog_10_method_132_code 163 = .ok (.invokevirtual 113, 3) := by decide +kernel
theorem dMo_orders_166 : decode prog_10_method_132_code 166 = .ok (.ireturn, 1) := by decide +kernel
theorem dMo_orders_167 : decode prog_10_method_132_code 167 = .ok (.iinc 3 1, 3) := by decide +kernel
theorem dMo_orders_170 : decode prog_10_method_132_code 170 = .ok (.goto (-75), 3) := by decide +kernel
theorem dMo_orders_173 : decode prog_10_method_132_code 173 = .ok (.aload_n 0, 1) := by decide +kernel
theorem dMo_orders_174 : decode prog_10_method_132_code 174 = .ok (.aload_n 0, 1) := by decide +kernel
theorem dMo_orders_175 : decode prog_10_method_132_code 175 = .ok (.getfield 322, 3) := by decide +kernel
theorem dMo_orders_178 : decode prog_10_method_132_code 178 = .ok (.invokevirtual 14, 3) := by decide +kernel
theorem dMo_orders_181 : decode prog_10_method_132_code 181 = .ok (.ireturn, 1) := by decide +kernel
