def yTe_copy : MethodName := ⟨R_Te, "copy", "()LSeeSaws$Text;"⟩
theorem kTe_copy : sw_yv yTe_copy prog_8_method_2_code 2 (some (.object "SeeSaws$Text")) 0 := ⟨⟨tb_mem 660 (by decide +kernel) (by decide +kernel), tb_mem 5 (by decide +kernel) (by decide +kernel), by decide +kernel, by decide +kernel, by decide +kernel⟩, tb_mem 658 (by decide +kernel) (by decide +kernel), tb_mem 659 (by decide +kernel) (by decide +kernel)⟩
def ySx_law : MethodName := ⟨R_Sx, "law", "()I"⟩
theorem kSx_law : sw_yv ySx_law prog_1_method_11_code 1 (some .int) 0 := ⟨⟨tb_mem 468 (by decide +kernel) (by decide +kernel), tb_mem 1 (by decide +kernel) (by decide +kernel), by decide +kernel, by decide +kernel, by decide +kernel⟩, tb_mem 466 (by decide +kernel) (by decide +kernel), tb_mem 467 (by decide +kernel) (by decide +kernel)⟩
def ySx_image : MethodName := ⟨R_Sx, "image", "(I)I"⟩
theorem kSx_image : sw_yv ySx_image prog_1_method_37_code 3 (some .int) 1 := ⟨⟨tb_mem 967 (by decide +kernel) (by decide +kernel), tb_mem 1 (by decide +kernel) (by decide +kernel), by decide +kernel, by decide +kernel, by decide +kernel⟩, tb_mem 965 (by decide +kernel) (by decide +kernel), tb_mem 966 (by decide +kernel) (by decide +kernel)⟩
def ySx_few : MethodName := ⟨R_Sx, "few", "(II)J"⟩
theorem kSx_few : sw_yv ySx_few prog_1_method_33_code 8 (some .long) 2 := ⟨⟨tb_mem 939 (by decide +kernel) (by decide +kernel), tb_mem 1 (by decide +kernel) (by decide +kernel), by decide +kernel, by decide +kernel, by decide +kernel⟩, tb_mem 937 (by decide +kernel) (by decide +kernel), tb_mem 938 (by decide +kernel) (by decide +kernel)⟩
abbrev rmSx_law_o : Room := { frames := 833, cells := 0, slots := 0, locals := 21426 }
abbrev rmSx_image_o : Room := { frames := 2, cells := 0, slots := 0, locals := 82 }
abbrev rmSx_few_o : Room := { frames := 0, cells := 0, slots := 0, locals := 0 }
abbrev rmTe_copy (n : Nat) : Room := { frames := 4, cells := 7, slots := (68 + n), locals := 120 }
abbrev rmSx_law (n : Nat) : Room := { frames := 833, cells := 7, slots := (68 + n), locals := 21463 }
abbrev rmSx_image : Room := { frames := 4, cells := 9, slots := 61, locals := 120 }
abbrev rmSx_few : Room := { frames := 4, cells := 1, slots := 20, locals := 120 }
theorem wc_Sx_305 : Cond.constantLong R_Sx 305 (-1 : Int64) ∈ sw_tb := tb_mem 940 (by decide +kernel) (by decide +kernel)
theorem wc_Sx_307 : Cond.constantLong R_Sx 307 (1000000000000 : Int64) ∈ sw_tb := tb_mem 941 (by decide +kernel) (by decide +kernel)
theorem wc_Sx_309 : Cond.constantLong R_Sx 309 (10 : Int64) ∈ sw_tb := tb_mem 942 (by decide +kernel) (by decide +kernel)
theorem wf_Te_15 : Cond.fieldLink R_Te 15 R_Te (F_Te 2).2.1 (F_Te 2).2.2.1 ∈ sw_tb := tb_mem 132 (by decide +kernel) (by decide +kernel)
theorem wf_Te_18 : Cond.fieldLink R_Te 18 R_Te (F_Te 3).2.1 (F_Te 3).2.2.1 ∈ sw_tb := tb_mem 136 (by decide +kernel) (by decide +kernel)
theorem wf_Te_21 : Cond.fieldLink R_Te 21 R_Te (F_Te 4).2.1 (F_Te 4).2.2.1 ∈ sw_tb := tb_mem 139 (by decide +kernel) (by decide +kernel)
theorem wf_Te_24 : Cond.fieldLink R_Te 24 R_Te (F_Te 5).2.1 (F_Te 5).2.2.1 ∈ sw_tb := tb_mem 142 (by decide +kernel) (by decide +kernel)
theorem wf_Te_33 : Cond.fieldLink R_Te 33 R_Te (F_Te 7).2.1 (F_Te 7).2.2.1 ∈ sw_tb := tb_mem 149 (by decide +kernel) (by decide +kernel)
theorem wf_Te_36 : Cond.fieldLink R_Te 36 R_Te (F_Te 6).2.1 (F_Te 6).2.2.1 ∈ sw_tb := tb_mem 146 (by decide +kernel) (by decide +kernel)
theorem wf_Te_43 : Cond.fieldLink R_Te 43 R_Te (F_Te 0).2.1 (F_Te 0).2.2.1 ∈ sw_tb := tb_mem 124 (by decide +kernel) (by decide +kernel)
theorem wf_Te_9 : Cond.fieldLink R_Te 9 R_Te (F_Te 1).2.1 (F_Te 1).2.2.1 ∈ sw_tb := tb_mem 128 (by decide +kernel) (by decide +kernel)
theorem wm_Sx_186 : Cond.methodLink R_Sx 186 yPl_addLaw ∈ sw_tb := tb_mem 666 (by decide +kernel) (by decide +kernel)
theorem wm_Te_46 : Cond.methodLink R_Te 46 arraycopyName ∈ sw_tb := tb_mem 663 (by decide +kernel) (by decide +kernel)
theorem dSx_few_0 : decode prog_1_method_33_code 0 = .ok (.iload_n 1, 1) := by decide +kernel
theorem dSx_few_1 : decode prog_1_method_33_code 1 = .ok (.iconst 1, 1) := by decide +kernel
theorem dSx_few_2 : decode prog_1_method_33_code 2 = .ok (.if_icmp .lt 19, 3) := by decide +kernel
theorem dSx_few_5 : decode prog_1_method_33_code 5 = .ok (.iload_n 1, 1) := by decide +kernel
theorem dSx_few_6 : decode prog_1_method_33_code 6 = .ok (.bipush 20, 2) := by decide +kernel
theorem dSx_few_8 : decode prog_1_method_33_code 8 = .ok (.if_icmp .gt 13, 3) := by decide +kernel
theorem dSx_few_11 : decode prog_1_method_33_code 11 = .ok (.iload_n 2, 1) := by decide +kernel
theorem dSx_few_12 : decode prog_1_method_33_code 12 = .ok (.ifCond .lt 9, 3) := by decide +kernel
theorem dSx_few_15 : decode prog_1_method_33_code 15 = .ok (.iload_n 2, 1) := by decide +kernel
theorem dSx_few_16 : decode prog_1_method_33_code 16 = .ok (.bipush 99, 2) := by decide +kernel
theorem dSx_few_18 : decode prog_1_method_33_code 18 = .ok (.if_icmp .le 7, 3) := by decide +kernel
theorem dSx_few_21 : decode prog_1_method_33_code 21 = .ok (.ldc2_w 305, 3) := by decide +kernel
theorem dSx_few_24 : decode prog_1_method_33_code 24 = .ok (.lreturn, 1) := by decide +kernel
theorem dSx_few_25 : decode prog_1_method_33_code 25 = .ok (.bipush 20, 2) := by decide +kernel
theorem dSx_few_27 : decode prog_1_method_33_code 27 = .ok (.newarray .long, 2) := by decide +kernel
theorem dSx_few_29 : decode prog_1_method_33_code 29 = .ok (.astore_n 3, 1) := by decide +kernel
theorem dSx_few_30 : decode prog_1_method_33_code 30 = .ok (.aload_n 3, 1) := by decide +kernel
theorem dSx_few_31 : decode prog_1_method_33_code 31 = .ok (.iconst 0, 1) := by decide +kernel
theorem dSx_few_32 : decode prog_1_method_33_code 32 = .ok (.ldc2_w 307, 3) := by decide +kernel
theorem dSx_few_35 : decode prog_1_method_33_code 35 = .ok (.lastore, 1) := by decide +kernel
theorem dSx_few_36 : decode prog_1_method_33_code 36 = .ok (.aload_n 0, 1) := by decide +kernel
theorem dSx_few_37 : decode prog_1_method_33_code 37 = .ok (.getfield 12, 3) := by decide +kernel
theorem dSx_few_40 : decode prog_1_method_33_code 40 = .ok (.getfield 153, 3) := by decide +kernel
theorem dSx_few_43 : decode prog_1_method_33_code 43 = .ok (.iconst 1, 1) := by decide +kernel
theorem dSx_few_44 : decode prog_1_method_33_code 44 = .ok (.iaload, 1) := by decide +kernel
theorem dSx_few_45 : decode prog_1_method_33_code 45 = .ok (.istore 4, 2) := by decide +kernel
theorem dSx_few_47 : decode prog_1_method_33_code 47 = .ok (.iconst 0, 1) := by decide +kernel
theorem dSx_few_48 : decode prog_1_method_33_code 48 = .ok (.istore 5, 2) := by decide +kernel
theorem dSx_few_50 : decode prog_1_method_33_code 50 = .ok (.iload 5, 2) := by decide +kernel
theorem dSx_few_52 : decode prog_1_method_33_code 52 = .ok (.iload_n 2, 1) := by decide +kernel
theorem dSx_few_53 : decode prog_1_method_33_code 53 = .ok (.if_icmp .ge 76, 3) := by decide +kernel
theorem dSx_few_56 : decode prog_1_method_33_code 56 = .ok (.iload_n 1, 1) := by decide +kernel
theorem dSx_few_57 : decode prog_1_method_33_code 57 = .ok (.iconst 1, 1) := by decide +kernel
theorem dSx_few_58 : decode prog_1_method_33_code 58 = .ok (.isub, 1) := by decide +kernel
theorem dSx_few_59 : decode prog_1_method_33_code 59 = .ok (.istore 6, 2) := by decide +kernel
theorem dSx_few_61 : decode prog_1_method_33_code 61 = .ok (.iload 6, 2) := by decide +kernel
theorem dSx_few_63 : decode prog_1_method_33_code 63 = .ok (.ifCond .le 43, 3) := by decide +kernel
theorem dSx_few_66 : decode prog_1_method_33_code 66 = .ok (.aload_n 3, 1) := by decide +kernel
theorem dSx_few_67 : decode prog_1_method_33_code 67 = .ok (.iload 6, 2) := by decide +kernel
theorem dSx_few_69 : decode prog_1_method_33_code 69 = .ok (.aload_n 3, 1) := by decide +kernel
theorem dSx_few_70 : decode prog_1_method_33_code 70 = .ok (.iload 6, 2) := by decide +kernel
theorem dSx_few_72 : decode prog_1_method_33_code 72 = .ok (.laload, 1) := by decide +kernel
theorem dSx_few_73 : decode prog_1_method_33_code 73 = .ok (.bipush 10, 2) := by decide +kernel
theorem dSx_few_75 : decode prog_1_method_33_code 75 = .ok (.iload 4, 2) := by decide +kernel
theorem dSx_few_77 : decode prog_1_method_33_code 77 = .ok (.isub, 1) := by decide +kernel
theorem dSx_few_78 : decode prog_1_method_33_code 78 = .ok (.i2l, 1) := by decide +kernel
theorem dSx_few_79 : decode prog_1_method_33_code 79 = .ok (.lmul, 1) := by decide +kernel
theorem dSx_few_80 : decode prog_1_method_33_code 80 = .ok (.ldc2_w 309, 3) := by decide +kernel
theorem dSx_few_83 : decode prog_1_method_33_code 83 = .ok (.ldiv, 1) := by decide +kernel
theorem dSx_few_84 : decode prog_1_method_33_code 84 = .ok (.aload_n 3, 1) := by decide +kernel
theorem dSx_few_85 : decode prog_1_method_33_code 85 = .ok (.iload 6, 2) := by decide +kernel
theorem dSx_few_87 : decode prog_1_method_33_code 87 = .ok (.iconst 1, 1) := by decide +kernel
theorem dSx_few_88 : decode prog_1_method_33_code 88 = .ok (.isub, 1) := by decide +kernel
theorem dSx_few_89 : decode prog_1_method_33_code 89 = .ok (.laload, 1) := by decide +kernel
theorem dSx_few_90 : decode prog_1_method_33_code 90 = .ok (.iload 4, 2) := by decide +kernel
theorem dSx_few_92 : decode prog_1_method_33_code 92 = .ok (.i2l, 1) := by decide +kernel
theorem dSx_few_93 : decode prog_1_method_33_code 93 = .ok (.lmul, 1) := by decide +kernel
theorem dSx_few_94 : decode prog_1_method_33_code 94 = .ok (.ldc2_w 309, 3) := by decide +kernel
theorem dSx_few_97 : decode prog_1_method_33_code 97 = .ok (.ldiv, 1) := by decide +kernel
theorem dSx_few_98 : decode prog_1_method_33_code 98 = .ok (.ladd, 1) := by decide +kernel
theorem dSx_few_99 : decode prog_1_method_33_code 99 = .ok (.lastore, 1) := by decide +kernel
theorem dSx_few_100 : decode prog_1_method_33_code 100 = .ok (.iinc 6 (-1), 3) := by decide +kernel
theorem dSx_few_103 : decode prog_1_method_33_code 103 = .ok (.goto (-42), 3) := by decide +kernel
theorem dSx_few_106 : decode prog_1_method_33_code 106 = .ok (.aload_n 3, 1) := by decide +kernel
theorem dSx_few_107 : decode prog_1_method_33_code 107 = .ok (.iconst 0, 1) := by decide +kernel
theorem dSx_few_108 : decode prog_1_method_33_code 108 = .ok (.aload_n 3, 1) := by decide +kernel
theorem dSx_few_109 : decode prog_1_method_33_code 109 = .ok (.iconst 0, 1) := by decide +kernel
theorem dSx_few_110 : decode prog_1_method_33_code 110 = .ok (.laload, 1) := by decide +kernel
theorem dSx_few_111 : decode prog_1_method_33_code 111 = .ok (.bipush 10, 2) := by decide +kernel
theorem dSx_few_113 : decode prog_1_method_33_code 113 = .ok (.iload 4, 2) := by decide +kernel
theorem dSx_few_115 : decode prog_1_method_33_code 115 = .ok (.isub, 1) := by decide +kernel
theorem dSx_few_116 : decode prog_1_method_33_code 116 = .ok (.i2l, 1) := by decide +kernel
theorem dSx_few_117 : decode prog_1_method_33_code 117 = .ok (.lmul, 1) := by decide +kernel
theorem dSx_few_118 : decode prog_1_method_33_code 118 = .ok (.ldc2_w 309, 3) := by decide +kernel
theorem dSx_few_121 : decode prog_1_method_33_code 121 = .ok (.ldiv, 1) := by decide +kernel
theorem dSx_few_122 : decode prog_1_method_33_code 122 = .ok (.lastore, 1) := by decide +kernel
theorem dSx_few_123 : decode prog_1_method_33_code 123 = .ok (.iinc 5 1, 3) := by decide +kernel
theorem dSx_few_126 : decode prog_1_method_33_code 126 = .ok (.goto (-76), 3) := by decide +kernel
theorem dSx_few_129 : decode prog_1_method_33_code 129 = .ok (.lconst 0, 1) := by decide +kernel
theorem dSx_few_130 : decode prog_1_method_33_code 130 = .ok (.lstore 5, 2) := by decide +kernel
theorem dSx_few_132 : decode prog_1_method_33_code 132 = .ok (.iconst 0, 1) := by decide +kernel
theorem dSx_few_133 : decode prog_1_method_33_code 133 = .ok (.istore 7, 2) := by decide +kernel
theorem dSx_few_135 : decode prog_1_method_33_code 135 = .ok (.iload 7, 2) := by decide +kernel
theorem dSx_few_137 : decode prog_1_method_33_code 137 = .ok (.iload_n 1, 1) := by decide +kernel
theorem dSx_few_138 : decode prog_1_method_33_code 138 = .ok (.if_icmp .ge 18, 3) := by decide +kernel
theorem dSx_few_141 : decode prog_1_method_33_code 141 = .ok (.lload 5, 2) := by decide +kernel
theorem dSx_few_143 : decode prog_1_method_33_code 143 = .ok (.aload_n 3, 1) := by decide +kernel
theorem dSx_few_144 : decode prog_1_method_33_code 144 = .ok (.iload 7, 2) := by decide +kernel
theorem dSx_few_146 : decode prog_1_method_33_code 146 = .ok (.laload, 1) := by decide +kernel
theorem dSx_few_147 : decode prog_1_method_33_code 147 = .ok (.ladd, 1) := by decide +kernel
theorem dSx_few_148 : decode prog_1_method_33_code 148 = .ok (.lstore 5, 2) := by decide +kernel
theorem dSx_few_150 : decode prog_1_method_33_code 150 = .ok (.iinc 7 1, 3) := by decide +kernel
theorem dSx_few_153 : decode prog_1_method_33_code 153 = .ok (.goto (-18), 3) := by decide +kernel
theorem dSx_few_156 : decode prog_1_method_33_code 156 = .ok (.lload 5, 2) := by decide +kernel
theorem dSx_few_158 : decode prog_1_method_33_code 158 = .ok (.lreturn, 1) := by decide +kernel
theorem dSx_image_0 : decode prog_1_method_37_code 0 = .ok (.iload_n 1, 1) := by decide +kernel
theorem dSx_image_1 : decode prog_1_method_37_code 1 = .ok (.ifCond .lt 8, 3) := by decide +kernel
theorem dSx_image_4 : decode prog_1_method_37_code 4 = .ok (.iload_n 1, 1) := by decide +kernel
theorem dSx_image_5 : decode prog_1_method_37_code 5 = .ok (.iconst 2, 1) := by decide +kernel
theorem dSx_image_6 : decode prog_1_method_37_code 6 = .ok (.if_icmp .lt 9, 3) := by decide +kernel
theorem dSx_image_9 : decode prog_1_method_37_code 9 = .ok (.aload_n 0, 1) := by decide +kernel
theorem dSx_image_10 : decode prog_1_method_37_code 10 = .ok (.iconst (-1), 1) := by decide +kernel
theorem dSx_image_11 : decode prog_1_method_37_code 11 = .ok (.invokevirtual 85, 3) := by decide +kernel
theorem dSx_image_14 : decode prog_1_method_37_code 14 = .ok (.ireturn, 1) := by decide +kernel
theorem dSx_image_15 : decode prog_1_method_37_code 15 = .ok (.aload_n 0, 1) := by decide +kernel
theorem dSx_image_16 : decode prog_1_method_37_code 16 = .ok (.getfield 22, 3) := by decide +kernel
theorem dSx_image_19 : decode prog_1_method_37_code 19 = .ok (.iload_n 1, 1) := by decide +kernel
theorem dSx_image_20 : decode prog_1_method_37_code 20 = .ok (.aaload, 1) := by decide +kernel
theorem dSx_image_21 : decode prog_1_method_37_code 21 = .ok (.astore_n 2, 1) := by decide +kernel
theorem dSx_image_22 : decode prog_1_method_37_code 22 = .ok (.aload_n 2, 1) := by decide +kernel
theorem dSx_image_23 : decode prog_1_method_37_code 23 = .ok (.ifnonnull 18, 3) := by decide +kernel
theorem dSx_image_26 : decode prog_1_method_37_code 26 = .ok (.new 9, 3) := by decide +kernel
theorem dSx_image_29 : decode prog_1_method_37_code 29 = .ok (.dup, 1) := by decide +kernel
theorem dSx_image_30 : decode prog_1_method_37_code 30 = .ok (.invokespecial 11, 3) := by decide +kernel
theorem dSx_image_33 : decode prog_1_method_37_code 33 = .ok (.astore_n 2, 1) := by decide +kernel
theorem dSx_image_34 : decode prog_1_method_37_code 34 = .ok (.aload_n 0, 1) := by decide +kernel
theorem dSx_image_35 : decode prog_1_method_37_code 35 = .ok (.getfield 22, 3) := by decide +kernel
theorem dSx_image_38 : decode prog_1_method_37_code 38 = .ok (.iload_n 1, 1) := by decide +kernel
theorem dSx_image_39 : decode prog_1_method_37_code 39 = .ok (.aload_n 2, 1) := by decide +kernel
theorem dSx_image_40 : decode prog_1_method_37_code 40 = .ok (.aastore, 1) := by decide +kernel
theorem dSx_image_41 : decode prog_1_method_37_code 41 = .ok (.aload_n 2, 1) := by decide +kernel
theorem dSx_image_42 : decode prog_1_method_37_code 42 = .ok (.aload_n 0, 1) := by decide +kernel
theorem dSx_image_43 : decode prog_1_method_37_code 43 = .ok (.getfield 12, 3) := by decide +kernel
theorem dSx_image_46 : decode prog_1_method_37_code 46 = .ok (.invokevirtual 190, 3) := by decide +kernel
theorem dSx_image_49 : decode prog_1_method_37_code 49 = .ok (.aload_n 0, 1) := by decide +kernel
theorem dSx_image_50 : decode prog_1_method_37_code 50 = .ok (.iconst 0, 1) := by decide +kernel
theorem dSx_image_51 : decode prog_1_method_37_code 51 = .ok (.invokevirtual 99, 3) := by decide +kernel
theorem dSx_image_54 : decode prog_1_method_37_code 54 = .ok (.ireturn, 1) := by decide +kernel
theorem dSx_law_0 : decode prog_1_method_11_code 0 = .ok (.aload_n 0, 1) := by decide +kernel
theorem dSx_law_1 : decode prog_1_method_11_code 1 = .ok (.getfield 12, 3) := by decide +kernel
theorem dSx_law_4 : decode prog_1_method_11_code 4 = .ok (.getfield 169, 3) := by decide +kernel
theorem dSx_law_7 : decode prog_1_method_11_code 7 = .ok (.bipush 6, 2) := by decide +kernel
theorem dSx_law_9 : decode prog_1_method_11_code 9 = .ok (.if_icmp .lt 18, 3) := by decide +kernel
theorem dSx_law_12 : decode prog_1_method_11_code 12 = .ok (.aload_n 0, 1) := by decide +kernel
theorem dSx_law_13 : decode prog_1_method_11_code 13 = .ok (.getfield 39, 3) := by decide +kernel
theorem dSx_law_16 : decode prog_1_method_11_code 16 = .ok (.iconst 0, 1) := by decide +kernel
theorem dSx_law_17 : decode prog_1_method_11_code 17 = .ok (.putfield 156, 3) := by decide +kernel
theorem dSx_law_20 : decode prog_1_method_11_code 20 = .ok (.aload_n 0, 1) := by decide +kernel
theorem dSx_law_21 : decode prog_1_method_11_code 21 = .ok (.bipush (-5), 2) := by decide +kernel
theorem dSx_law_23 : decode prog_1_method_11_code 23 = .ok (.invokevirtual 85, 3) := by decide +kernel
theorem dSx_law_26 : decode prog_1_method_11_code 26 = .ok (.ireturn, 1) := by decide +kernel
theorem dSx_law_27 : decode prog_1_method_11_code 27 = .ok (.aload_n 0, 1) := by decide +kernel
theorem dSx_law_28 : decode prog_1_method_11_code 28 = .ok (.getfield 39, 3) := by decide +kernel
theorem dSx_law_31 : decode prog_1_method_11_code 31 = .ok (.iconst 1, 1) := by decide +kernel
theorem dSx_law_32 : decode prog_1_method_11_code 32 = .ok (.invokevirtual 172, 3) := by decide +kernel
theorem dSx_law_35 : decode prog_1_method_11_code 35 = .ok (.ifCond .ne 10, 3) := by decide +kernel
theorem dSx_law_38 : decode prog_1_method_11_code 38 = .ok (.aload_n 0, 1) := by decide +kernel
theorem dSx_law_39 : decode prog_1_method_11_code 39 = .ok (.bipush (-6), 2) := by decide +kernel
theorem dSx_law_41 : decode prog_1_method_11_code 41 = .ok (.invokevirtual 85, 3) := by decide +kernel
theorem dSx_law_44 : decode prog_1_method_11_code 44 = .ok (.ireturn, 1) := by decide +kernel
theorem dSx_law_45 : decode prog_1_method_11_code 45 = .ok (.aload_n 0, 1) := by decide +kernel
theorem dSx_law_46 : decode prog_1_method_11_code 46 = .ok (.aload_n 0, 1) := by decide +kernel
theorem dSx_law_47 : decode prog_1_method_11_code 47 = .ok (.getfield 12, 3) := by decide +kernel
theorem dSx_law_50 : decode prog_1_method_11_code 50 = .ok (.aload_n 0, 1) := by decide +kernel
theorem dSx_law_51 : decode prog_1_method_11_code 51 = .ok (.getfield 39, 3) := by decide +kernel
theorem dSx_law_54 : decode prog_1_method_11_code 54 = .ok (.getfield 176, 3) := by decide +kernel
theorem dSx_law_57 : decode prog_1_method_11_code 57 = .ok (.invokevirtual 180, 3) := by decide +kernel
theorem dSx_law_60 : decode prog_1_method_11_code 60 = .ok (.invokevirtual 186, 3) := by decide +kernel
theorem dSx_law_63 : decode prog_1_method_11_code 63 = .ok (.invokevirtual 99, 3) := by decide +kernel
theorem dSx_law_66 : decode prog_1_method_11_code 66 = .ok (.ireturn, 1) := by decide +kernel
theorem dTe_copy_0 : decode prog_8_method_2_code 0 = .ok (.new 10, 3) := by decide +kernel
theorem dTe_copy_3 : decode prog_8_method_2_code 3 = .ok (.dup, 1) := by decide +kernel
theorem dTe_copy_4 : decode prog_8_method_2_code 4 = .ok (.aload_n 0, 1) := by decide +kernel
theorem dTe_copy_5 : decode prog_8_method_2_code 5 = .ok (.getfield 36, 3) := by decide +kernel
theorem dTe_copy_8 : decode prog_8_method_2_code 8 = .ok (.invokespecial 40, 3) := by decide +kernel
theorem dTe_copy_11 : decode prog_8_method_2_code 11 = .ok (.astore_n 1, 1) := by decide +kernel
theorem dTe_copy_12 : decode prog_8_method_2_code 12 = .ok (.aload_n 1, 1) := by decide +kernel
theorem dTe_copy_13 : decode prog_8_method_2_code 13 = .ok (.aload_n 0, 1) := by decide +kernel
theorem dTe_copy_14 : decode prog_8_method_2_code 14 = .ok (.getfield 43, 3) := by decide +kernel
theorem dTe_copy_17 : decode prog_8_method_2_code 17 = .ok (.putfield 43, 3) := by decide +kernel
theorem dTe_copy_20 : decode prog_8_method_2_code 20 = .ok (.aload_n 0, 1) := by decide +kernel
theorem dTe_copy_21 : decode prog_8_method_2_code 21 = .ok (.getfield 9, 3) := by decide +kernel
theorem dTe_copy_24 : decode prog_8_method_2_code 24 = .ok (.iconst 0, 1) := by decide +kernel
theorem dTe_copy_25 : decode prog_8_method_2_code 25 = .ok (.aload_n 1, 1) := by decide +kernel
theorem dTe_copy_26 : decode prog_8_method_2_code 26 = .ok (.getfield 9, 3) := by decide +kernel
theorem dTe_copy_29 : decode prog_8_method_2_code 29 = .ok (.iconst 0, 1) := by decide +kernel
theorem dTe_copy_30 : decode prog_8_method_2_code 30 = .ok (.bipush 12, 2) := by decide +kernel
theorem dTe_copy_32 : decode prog_8_method_2_code 32 = .ok (.invokestatic 46, 3) := by decide +kernel
theorem dTe_copy_35 : decode prog_8_method_2_code 35 = .ok (.aload_n 0, 1) := by decide +kernel
theorem dTe_copy_36 : decode prog_8_method_2_code 36 = .ok (.getfield 15, 3) := by decide +kernel
theorem dTe_copy_39 : decode prog_8_method_2_code 39 = .ok (.iconst 0, 1) := by decide +kernel
theorem dTe_copy_40 : decode prog_8_method_2_code 40 = .ok (.aload_n 1, 1) := by decide +kernel
theorem dTe_copy_41 : decode prog_8_method_2_code 41 = .ok (.getfield 15, 3) := by decide +kernel
theorem dTe_copy_44 : decode prog_8_method_2_code 44 = .ok (.iconst 0, 1) := by decide +kernel
theorem dTe_copy_45 : decode prog_8_method_2_code 45 = .ok (.bipush 12, 2) := by decide +kernel
theorem dTe_copy_47 : decode prog_8_method_2_code 47 = .ok (.invokestatic 46, 3) := by decide +kernel
theorem dTe_copy_50 : decode prog_8_method_2_code 50 = .ok (.aload_n 0, 1) := by decide +kernel
theorem dTe_copy_51 : decode prog_8_method_2_code 51 = .ok (.getfield 18, 3) := by decide +kernel
theorem dTe_copy_54 : decode prog_8_method_2_code 54 = .ok (.iconst 0, 1) := by decide +kernel
theorem dTe_copy_55 : decode prog_8_method_2_code 55 = .ok (.aload_n 1, 1) := by decide +kernel
theorem dTe_copy_56 : decode prog_8_method_2_code 56 = .ok (.getfield 18, 3) := by decide +kernel
theorem dTe_copy_59 : decode prog_8_method_2_code 59 = .ok (.iconst 0, 1) := by decide +kernel
theorem dTe_copy_60 : decode prog_8_method_2_code 60 = .ok (.bipush 12, 2) := by decide +kernel
theorem dTe_copy_62 : decode prog_8_method_2_code 62 = .ok (.invokestatic 46, 3) := by decide +kernel
theorem dTe_copy_65 : decode prog_8_method_2_code 65 = .ok (.aload_n 0, 1) := by decide +kernel
theorem dTe_copy_66 : decode prog_8_method_2_code 66 = .ok (.getfield 21, 3) := by decide +kernel
theorem dTe_copy_69 : decode prog_8_method_2_code 69 = .ok (.iconst 0, 1) := by decide +kernel
theorem dTe_copy_70 : decode prog_8_method_2_code 70 = .ok (.aload_n 1, 1) := by decide +kernel
theorem dTe_copy_71 : decode prog_8_method_2_code 71 = .ok (.getfield 21, 3) := by decide +kernel
theorem dTe_copy_74 : decode prog_8_method_2_code 74 = .ok (.iconst 0, 1) := by decide +kernel
theorem dTe_copy_75 : decode prog_8_method_2_code 75 = .ok (.bipush 12, 2) := by decide +kernel
theorem dTe_copy_77 : decode prog_8_method_2_code 77 = .ok (.invokestatic 46, 3) := by decide +kernel
theorem dTe_copy_80 : decode prog_8_method_2_code 80 = .ok (.aload_n 0, 1) := by decide +kernel
theorem dTe_copy_81 : decode prog_8_method_2_code 81 = .ok (.getfield 24, 3) := by decide +kernel
theorem dTe_copy_84 : decode prog_8_method_2_code 84 = .ok (.iconst 0, 1) := by decide +kernel
theorem dTe_copy_85 : decode prog_8_method_2_code 85 = .ok (.aload_n 1, 1) := by decide +kernel
theorem dTe_copy_86 : decode prog_8_method_2_code 86 = .ok (.getfield 24, 3) := by decide +kernel
theorem dTe_copy_89 : decode prog_8_method_2_code 89 = .ok (.iconst 0, 1) := by decide +kernel
theorem dTe_copy_90 : decode prog_8_method_2_code 90 = .ok (.bipush 12, 2) := by decide +kernel
theorem dTe_copy_92 : decode prog_8_method_2_code 92 = .ok (.invokestatic 46, 3) := by decide +kernel
theorem dTe_copy_95 : decode prog_8_method_2_code 95 = .ok (.aload_n 1, 1) := by decide +kernel
theorem dTe_copy_96 : decode prog_8_method_2_code 96 = .ok (.aload_n 0, 1) := by decide +kernel
theorem dTe_copy_97 : decode prog_8_method_2_code 97 = .ok (.getfield 36, 3) := by decide +kernel
theorem dTe_copy_100 : decode prog_8_method_2_code 100 = .ok (.putfield 36, 3) := by decide +kernel
theorem dTe_copy_103 : decode prog_8_method_2_code 103 = .ok (.aload_n 0, 1) := by decide +kernel
theorem dTe_copy_104 : decode prog_8_method_2_code 104 = .ok (.getfield 33, 3) := by decide +kernel
theorem dTe_copy_107 : decode prog_8_method_2_code 107 = .ok (.iconst 0, 1) := by decide +kernel
theorem dTe_copy_108 : decode prog_8_method_2_code 108 = .ok (.aload_n 1, 1) := by decide +kernel
theorem dTe_copy_109 : decode prog_8_method_2_code 109 = .ok (.getfield 33, 3) := by decide +kernel
theorem dTe_copy_112 : decode prog_8_method_2_code 112 = .ok (.iconst 0, 1) := by decide +kernel
theorem dTe_copy_113 : decode prog_8_method_2_code 113 = .ok (.aload_n 0, 1) := by decide +kernel
theorem dTe_copy_114 : decode prog_8_method_2_code 114 = .ok (.getfield 36, 3) := by decide +kernel
theorem dTe_copy_117 : decode prog_8_method_2_code 117 = .ok (.invokestatic 46, 3) := by decide +kernel
theorem dTe_copy_120 : decode prog_8_method_2_code 120 = .ok (.aload_n 1, 1) := by decide +kernel
theorem dTe_copy_121 : decode prog_8_method_2_code 121 = .ok (.areturn, 1) := by decide +kernel
def fSx_law_o (N : Nat) (ln : Nat → Nat) (g : sw_g) : Option (Int32 × sw_g) := (if (g.1 1 9) < (6 : Int32) then (fRe_reads N ln g (1 : Int32)).bind fun ⟨v3, g2⟩ => (if v3 = 0 then (fSx_refuse N ln g2 (-6 : Int32)).bind fun ⟨v6, g5⟩ => some (v6, g5) else none) else nm (gI g 33 0 (0 : Int32)) fun g7 => (fSx_refuse N ln g7 (-5 : Int32)).bind fun ⟨v10, g9⟩ => some (v10, g9))
def fSx_image_o_9 (N : Nat) (ln : Nat → Nat)  (g : sw_g)  : Option (Int32 × sw_g) := (fSx_refuse N ln g (-1 : Int32)).bind fun ⟨v3, g2⟩ => some (v3, g2)
def fSx_image_o_41 (N : Nat) (ln : Nat → Nat)  (g : sw_g) (u2 : Nat) : Option (Int32 × sw_g) := (fPl_become N ln g u2 1).bind fun g7 => (fSx_told ln g7 (0 : Int32)).bind fun ⟨v10, g9⟩ => some (v10, g9)
def fSx_image_o (N : Nat) (ln : Nat → Nat) (g : sw_g) (a1 : Int32) : Option (Int32 × sw_g) := (if a1 < 0 then fSx_image_o_9 N ln g else (if a1 < (2 : Int32) then rd 2 a1 (g.2.2 28) fun t4 => (match t4 with | none => none | some p5 => fSx_image_o_41 N ln g p5) else fSx_image_o_9 N ln g))
def fSx_few_o (ln : Nat → Nat) (g : sw_g) (a1 : Int32) (a2 : Int32) : Option (Int64 × sw_g) := (if a1 < (1 : Int32) then some ((-1 : Int64), g) else (if (20 : Int32) < a1 then some ((-1 : Int64), g) else (if a2 < 0 then some ((-1 : Int64), g) else (if a2 ≤ (99 : Int32) then none else some ((-1 : Int64), g)))))
def fTe_copy_t_12t (N : Nat) (ln : Nat → Nat) (q0 : Nat) (qn : Nat)  (g : sw_g)  : Option (Option Nat × sw_g) := nm (gI g qn 0 (g.1 q0 0)) fun g1 => cp 12 12 (0 : Int32) (0 : Int32) (12 : Int32) (fun a b c => gW g1 (qn + 1) (va_cpy (g1.1 (q0 + 1)) (g1.1 (qn + 1)) a b c)) fun g2 => cp 12 12 (0 : Int32) (0 : Int32) (12 : Int32) (fun a b c => gW g2 (qn + 2) (va_cpy (g2.1 (q0 + 2)) (g2.1 (qn + 2)) a b c)) fun g3 => cp 12 12 (0 : Int32) (0 : Int32) (12 : Int32) (fun a b c => gW g3 (qn + 3) (va_cpy (g3.1 (q0 + 3)) (g3.1 (qn + 3)) a b c)) fun g4 => cp 12 12 (0 : Int32) (0 : Int32) (12 : Int32) (fun a b c => gW g4 (qn + 4) (va_cpy (g4.1 (q0 + 4)) (g4.1 (qn + 4)) a b c)) fun g5 => cp 12 12 (0 : Int32) (0 : Int32) (12 : Int32) (fun a b c => gW g5 (qn + 5) (va_cpy (g5.1 (q0 + 5)) (g5.1 (qn + 5)) a b c)) fun g6 => nm (gI g6 qn 6 (g6.1 q0 6)) fun g7 => cp (ln (q0 + 6)) (ln (qn + 6)) (0 : Int32) (0 : Int32) (g7.1 q0 6) (fun a b c => gW g7 (qn + 6) (va_cpy (g7.1 (q0 + 6)) (g7.1 (qn + 6)) a b c)) fun g8 => some (some qn, g8)
def fSx_law_t_60t (N : Nat) (ln : Nat → Nat) (qn : Nat)  (g : sw_g)  : Option (Int32 × sw_g) := (fPl_addLaw ln g 1 qn).bind fun ⟨v3, g2⟩ => (fSx_told ln g2 v3).bind fun ⟨v6, g5⟩ => some (v6, g5)
def fSx_image_t_41t (N : Nat) (ln : Nat → Nat) (qn : Nat)  (g : sw_g)  : Option (Int32 × sw_g) := (fPl_become N ln g qn 1).bind fun g3 => (fSx_told ln g3 (0 : Int32)).bind fun ⟨v6, g5⟩ => some (v6, g5)
def fSx_image_t_33t (N : Nat) (ln : Nat → Nat) (qn : Nat)  (g : sw_g) (u1 : Int32) : Option (Int32 × sw_g) := wr 2 u1 (fun j => gR g 28 j (some qn)) fun g1 => fSx_image_t_41t N ln qn g1
def fSx_few_t_61t (N : Nat) (ln : Nat → Nat) (qn : Nat) (k50 : sw_g → Int32 → Int32 → Int32 → Int32 → Option (Int64 × sw_g)) : Nat → sw_g → Int32 → Int32 → Int32 → Int32 → Int32 → Option (Int64 × sw_g)
  | 0, _, _, _, _, _, _ => none
  | fu + 1, g, u1, u2, u4, u5, u6 => (if u6 ≤ 0 then rd 20 (0 : Int32) (g.2.1 qn) fun v7 => wr 20 (0 : Int32) (fun j => gL g qn j ((v7 * ((((10 : Int32) - u4)).toInt64)) / (10 : Int64))) fun g8 => nm (u5 + (1 : Int32)) fun x9 => k50 g8 u1 u2 u4 x9 else rd 20 u6 (g.2.1 qn) fun v10 => rd 20 (u6 - (1 : Int32)) (g.2.1 qn) fun v11 => wr 20 u6 (fun j => gL g qn j (((v10 * ((((10 : Int32) - u4)).toInt64)) / (10 : Int64)) + ((v11 * ((u4).toInt64)) / (10 : Int64)))) fun g12 => nm (u6 + (-1 : Int32)) fun x13 => (fSx_few_t_61t N ln qn k50 fu) g12 u1 u2 u4 u5 x13)
def fSx_few_t_135t (N : Nat) (ln : Nat → Nat) (qn : Nat)  : Nat → sw_g → Int32 → Int64 → Int32 → Option (Int64 × sw_g)
  | 0, _, _, _, _ => none
  | fu + 1, g, u1, u5, u7 => (if u1 ≤ u7 then some (u5, g) else rd 20 u7 (g.2.1 qn) fun v3 => nm (u5 + v3) fun x4 => nm (u7 + (1 : Int32)) fun x5 => (fSx_few_t_135t N ln qn  fu) g u1 x4 x5)
def fSx_few_t_50t (N : Nat) (ln : Nat → Nat) (qn : Nat)  : Nat → sw_g → Int32 → Int32 → Int32 → Int32 → Option (Int64 × sw_g)
  | 0, _, _, _, _, _ => none
  | fu + 1, g, u1, u2, u4, u5 => (if u2 ≤ u5 then fSx_few_t_135t N ln qn N g u1 (0 : Int64) (0 : Int32) else nm (u1 - (1 : Int32)) fun x6 => fSx_few_t_61t N ln qn (fSx_few_t_50t N ln qn  fu) N g u1 u2 u4 u5 x6)
def fSx_few_t_29t (N : Nat) (ln : Nat → Nat) (qn : Nat)  (g : sw_g) (u1 : Int32) (u2 : Int32) : Option (Int64 × sw_g) := wr 20 (0 : Int32) (fun j => gL g qn j (1000000000000 : Int64)) fun g1 => rd 4 (1 : Int32) (g1.1 5) fun v2 => fSx_few_t_50t N ln qn N g1 u1 u2 v2 (0 : Int32)
set_option maxHeartbeats 4000000 in
set_option maxRecDepth 100000 in
theorem cSx_law_o (l : Launch) (N : Nat) {Γ : sw_C} {A : Nat → Prop} {ξ : sw_x} {g : sw_g} {μ : sw_m} (hf : sw_wf ξ g.2.2) {res : Int32 × sw_g} (hm : fSx_law_o N ξ.2.2.1 g = some res) : Met l ySx_law (Cond.code ySx_law prog_1_method_11_code 1 (some .int) :: sw_tb) rmSx_law_o (va_Pc [.ref (ξ.2.2.2.1 0)] (sw_V Γ A ξ g μ)) (sw_Qi Γ A ξ res.2 μ res.1 (sw_wf ξ res.2.2.2)) 0 0 A := by
  refine Met.ofW (cc := prog_1_method_11_code) (maxL := 1) (ret := some .int) (by decide) rfl ?_
  intro p e s m args below meth c s₁ B hml hv
  obtain ⟨rfl, hv⟩ := hv
  have S : CallFix p m c prog_1_method_11_code 1 s _ (Cond.code ySx_law prog_1_method_11_code 1 (some .int) :: sw_tb) R_Sx := ⟨B.exec, B.bytes, hml, findClass_of_methodNamed B.named, atoms_spec (ws := (Cond.code ySx_law prog_1_method_11_code 1 (some .int) :: sw_tb)) B.pre⟩
  have hr := B.returns
  have hlk := B.notSynchronized
  have hw := sw_begin hv
  have hl := lv_entry [.ref (ξ.2.2.2.1 0)] (n := 1) (Nat.le_of_ble_eq_true rfl)
  rw [lg_entry_eq]
  generalize (lg_sl [.ref (ξ.2.2.2.1 0)] ++ List.replicate (1 - (lg_sl [.ref (ξ.2.2.2.1 0)]).length) Slot.unset).toArray = ls at hl ⊢
  have hl : lv_has ls 1 [(0, .ref (ξ.2.2.2.1 0))] := hl
  unfold fSx_law_o at hm
  refine lv_aload_n S.1 S.2.1 dSx_law_0 rfl (lv_at hl 0 rfl) ?_
  refine get_Sx (v := .ref (ξ.2.2.2.1 1)) S hw (is_0 hf) 0 (by decide) rfl wf_Sx_12 dSx_law_1 ?_
  refine get_Pl (v := .int (g.1 1 9)) S hw (is_1 hf) 9 (by decide) rfl wf_Sx_169 dSx_law_4 ?_
  refine lv_bipush (v := (6 : Int32)) S.1 S.2.1 dSx_law_7 (by decide) ?_
  refine bicmp_lt (tgt := 27) S.1 S.2.1 hm dSx_law_9 (by decide) (fun hm => ?_) (fun hm => ?_)
  · refine lv_aload_n S.1 S.2.1 dSx_law_27 rfl (lv_at hl 0 rfl) ?_
    refine get_Sx (v := .ref (ξ.2.2.2.1 33)) S hw (is_0 hf) 6 (by decide) rfl wf_Sx_39 dSx_law_28 ?_
    refine lv_iconst (v := (1 : Int32)) S.1 S.2.1 dSx_law_31 (by decide) ?_
    obtain ⟨⟨v3, g2⟩, h1, hm⟩ := ob hm
    refine sw_Vi (q := 33) (rest := []) S hw (cRe_reads l N hf (1 : Int32) h1) kRe_reads wm_Sx_172 (is_33 hf).1 (e_Re (is_33 hf)) rfl rfl rfl rfl hl.1 (Nat.le_of_ble_eq_true rfl) ⟨rfl, rfl, Nat.le_of_ble_eq_true rfl, Nat.le_of_ble_eq_true rfl⟩ ⟨Nat.le_of_ble_eq_true rfl, Nat.le_of_ble_eq_true rfl⟩ dSx_law_32 (fun H locs hw hf => ?_)
    refine bif_ne (tgt := 45) S.1 S.2.1 hm dSx_law_35 (by decide) (fun hm => ?_) (fun hm => ?_)
    · refine lv_aload_n S.1 S.2.1 dSx_law_45 rfl (lv_at hl 0 rfl) ?_
      refine lv_aload_n S.1 S.2.1 dSx_law_46 rfl (lv_at hl 0 rfl) ?_
      refine get_Sx (v := .ref (ξ.2.2.2.1 1)) S hw (is_0 hf) 0 (by decide) rfl wf_Sx_12 dSx_law_47 ?_
      refine lv_aload_n S.1 S.2.1 dSx_law_50 rfl (lv_at hl 0 rfl) ?_
      refine get_Sx (v := .ref (ξ.2.2.2.1 33)) S hw (is_0 hf) 6 (by decide) rfl wf_Sx_39 dSx_law_51 ?_
      refine get_Re (v := .ref (ξ.2.2.2.1 35)) S hw (is_33 hf) 3 (by decide) rfl wf_Sx_176 dSx_law_54 ?_
      cases hm
    · refine lv_aload_n S.1 S.2.1 dSx_law_38 rfl (lv_at hl 0 rfl) ?_
      refine lv_bipush (v := (-6 : Int32)) S.1 S.2.1 dSx_law_39 (by decide) ?_
      obtain ⟨⟨v6, g5⟩, h4, hm⟩ := ob hm
      refine sw_Vi (q := 0) (rest := []) S hw (cSx_refuse l N hf (-6 : Int32) h4) kSx_refuse wm_Sx_85 (is_0 hf).1 (e_Sx (is_0 hf)) rfl rfl rfl rfl hl.1 (Nat.le_of_ble_eq_true rfl) ⟨rfl, rfl, Nat.le_of_ble_eq_true rfl, Nat.le_of_ble_eq_true rfl⟩ ⟨Nat.le_of_ble_eq_true rfl, Nat.le_of_ble_eq_true rfl⟩ dSx_law_41 (fun H locs hw hf => ?_)
      obtain rfl := Option.some.inj hm
      exact sw_iret S hr hlk hw hf dSx_law_44
  · refine lv_aload_n S.1 S.2.1 dSx_law_12 rfl (lv_at hl 0 rfl) ?_
    refine get_Sx (v := .ref (ξ.2.2.2.1 33)) S hw (is_0 hf) 6 (by decide) rfl wf_Sx_39 dSx_law_13 ?_
    refine lv_iconst (v := (0 : Int32)) S.1 S.2.1 dSx_law_16 (by decide) ?_
    refine put_Re S hw hf (is_33 hf) 0 (by decide) ps_Re_0 rfl rfl rfl wf_Sx_156 hm dSx_law_17 (fun g7 H locs hf hm hw => ?_)
    refine lv_aload_n S.1 S.2.1 dSx_law_20 rfl (lv_at hl 0 rfl) ?_
    refine lv_bipush (v := (-5 : Int32)) S.1 S.2.1 dSx_law_21 (by decide) ?_
    obtain ⟨⟨v10, g9⟩, h8, hm⟩ := ob hm
    refine sw_Vi (q := 0) (rest := []) S hw (cSx_refuse l N hf (-5 : Int32) h8) kSx_refuse wm_Sx_85 (is_0 hf).1 (e_Sx (is_0 hf)) rfl rfl rfl rfl hl.1 (Nat.le_of_ble_eq_true rfl) ⟨rfl, rfl, Nat.le_of_ble_eq_true rfl, Nat.le_of_ble_eq_true rfl⟩ ⟨Nat.le_of_ble_eq_true rfl, Nat.le_of_ble_eq_true rfl⟩ dSx_law_23 (fun H locs hw hf => ?_)
    obtain rfl := Option.some.inj hm
    exact sw_iret S hr hlk hw hf dSx_law_26
set_option maxHeartbeats 4000000 in
set_option maxRecDepth 100000 in
theorem wSx_image_o9 {l : Launch} {p : Program} {e : Env} {s : State} {m : MethodId} {args : Array Value} {below : List Frame} {meth : Method} {c : Code} {Γ : sw_C} {A : Nat → Prop} {ξ : sw_x} {μ : sw_m} {res : Int32 × sw_g} (S : CallFix p m c prog_1_method_37_code 3 s args (Cond.code ySx_image prog_1_method_37_code 3 (some .int) :: sw_tb) R_Sx) (hr : meth.sig.returnType = some .int) (hlk : meth.locks = false) (N : Nat) : ∀ (g : sw_g)  (H : Heap) (locs : List Loc) (ls : Array Slot), fSx_image_o_9 N ξ.2.2.1  g = some res → sw_S Γ A ξ g μ s H locs → sw_wf ξ g.2.2 → lv_has ls 3 [(0, .ref (ξ.2.2.2.1 0))] → W p l e (headSpec (Cond.code ySx_image prog_1_method_37_code 3 (some .int) :: sw_tb) rmSx_image_o).room s m args below meth c H locs 0 0 (MQ below (sw_Qi Γ A ξ res.2 μ res.1 (sw_wf ξ res.2.2.2)) args s 0 0 A) (F0 m 9 ls []) := by
  intro g H locs ls hm hw hf hl
  unfold fSx_image_o_9 at hm
  refine lv_aload_n S.1 S.2.1 dSx_image_9 rfl (lv_at hl 0 rfl) ?_
  refine lv_iconst (v := (-1 : Int32)) S.1 S.2.1 dSx_image_10 (by decide) ?_
  obtain ⟨⟨v3, g2⟩, h1, hm⟩ := ob hm
  refine sw_Vi (q := 0) (rest := []) S hw (cSx_refuse l N hf (-1 : Int32) h1) kSx_refuse wm_Sx_85 (is_0 hf).1 (e_Sx (is_0 hf)) rfl rfl rfl rfl hl.1 (Nat.le_of_ble_eq_true rfl) ⟨rfl, rfl, Nat.le_of_ble_eq_true rfl, Nat.le_of_ble_eq_true rfl⟩ ⟨Nat.le_of_ble_eq_true rfl, Nat.le_of_ble_eq_true rfl⟩ dSx_image_11 (fun H locs hw hf => ?_)
  obtain rfl := Option.some.inj hm
  exact sw_iret S hr hlk hw hf dSx_image_14
set_option maxHeartbeats 4000000 in
set_option maxRecDepth 100000 in
theorem wSx_image_o41 {l : Launch} {p : Program} {e : Env} {s : State} {m : MethodId} {args : Array Value} {below : List Frame} {meth : Method} {c : Code} {Γ : sw_C} {A : Nat → Prop} {ξ : sw_x} {μ : sw_m} {res : Int32 × sw_g} (S : CallFix p m c prog_1_method_37_code 3 s args (Cond.code ySx_image prog_1_method_37_code 3 (some .int) :: sw_tb) R_Sx) (hr : meth.sig.returnType = some .int) (hlk : meth.locks = false) (N : Nat) : ∀ (g : sw_g) (u2 : Nat) (H : Heap) (locs : List Loc) (ls : Array Slot), fSx_image_o_41 N ξ.2.2.1  g u2 = some res → sw_S Γ A ξ g μ s H locs → sw_wf ξ g.2.2 → sw_ik ξ u2 3 → lv_has ls 3 [(0, .ref (ξ.2.2.2.1 0)), (2, .ref (ξ.2.2.2.1 u2))] → W p l e (headSpec (Cond.code ySx_image prog_1_method_37_code 3 (some .int) :: sw_tb) rmSx_image_o).room s m args below meth c H locs 0 0 (MQ below (sw_Qi Γ A ξ res.2 μ res.1 (sw_wf ξ res.2.2.2)) args s 0 0 A) (F0 m 41 ls []) := by
  intro g u2 H locs ls hm hw hf hu2 hl
  unfold fSx_image_o_41 at hm
  refine lv_aload_n S.1 S.2.1 dSx_image_41 rfl (lv_at hl 1 rfl) ?_
  refine lv_aload_n S.1 S.2.1 dSx_image_42 rfl (lv_at hl 0 rfl) ?_
  refine get_Sx (v := .ref (ξ.2.2.2.1 1)) S hw (is_0 hf) 0 (by decide) rfl wf_Sx_12 dSx_image_43 ?_
  obtain ⟨g7, h6, hm⟩ := ob hm
  refine sw_Vv (q := u2) (rest := []) S hw (cPl_become l N hf u2 1 hu2 (is_1 hf) h6) kPl_become wm_Sx_190 hu2.1 (e_Pl hu2) rfl rfl rfl rfl hl.1 (Nat.le_of_ble_eq_true rfl) ⟨rfl, rfl, Nat.le_of_ble_eq_true rfl, Nat.le_of_ble_eq_true rfl⟩ ⟨Nat.le_of_ble_eq_true rfl, Nat.le_of_ble_eq_true rfl⟩ dSx_image_46 (fun H locs hw hf => ?_)
  refine lv_aload_n S.1 S.2.1 dSx_image_49 rfl (lv_at hl 0 rfl) ?_
  refine lv_iconst (v := (0 : Int32)) S.1 S.2.1 dSx_image_50 (by decide) ?_
  obtain ⟨⟨v10, g9⟩, h8, hm⟩ := ob hm
  refine sw_Vi (q := 0) (rest := []) S hw (cSx_told l  hf (0 : Int32) h8) kSx_told wm_Sx_99 (is_0 hf).1 (e_Sx (is_0 hf)) rfl rfl rfl rfl hl.1 (Nat.le_of_ble_eq_true rfl) ⟨rfl, rfl, Nat.le_of_ble_eq_true rfl, Nat.le_of_ble_eq_true rfl⟩ ⟨Nat.le_of_ble_eq_true rfl, Nat.le_of_ble_eq_true rfl⟩ dSx_image_51 (fun H locs hw hf => ?_)
  obtain rfl := Option.some.inj hm
  exact sw_iret S hr hlk hw hf dSx_image_54
set_option maxHeartbeats 4000000 in
set_option maxRecDepth 100000 in
theorem cSx_image_o (l : Launch) (N : Nat) {Γ : sw_C} {A : Nat → Prop} {ξ : sw_x} {g : sw_g} {μ : sw_m} (hf : sw_wf ξ g.2.2) (a1 : Int32) {res : Int32 × sw_g} (hm : fSx_image_o N ξ.2.2.1 g a1 = some res) : Met l ySx_image (Cond.code ySx_image prog_1_method_37_code 3 (some .int) :: sw_tb) rmSx_image_o (va_Pc [.ref (ξ.2.2.2.1 0), .int a1] (sw_V Γ A ξ g μ)) (sw_Qi Γ A ξ res.2 μ res.1 (sw_wf ξ res.2.2.2)) 0 0 A := by
  refine Met.ofW (cc := prog_1_method_37_code) (maxL := 3) (ret := some .int) (by decide) rfl ?_
  intro p e s m args below meth c s₁ B hml hv
  obtain ⟨rfl, hv⟩ := hv
  have S : CallFix p m c prog_1_method_37_code 3 s _ (Cond.code ySx_image prog_1_method_37_code 3 (some .int) :: sw_tb) R_Sx := ⟨B.exec, B.bytes, hml, findClass_of_methodNamed B.named, atoms_spec (ws := (Cond.code ySx_image prog_1_method_37_code 3 (some .int) :: sw_tb)) B.pre⟩
  have hr := B.returns
  have hlk := B.notSynchronized
  have hw := sw_begin hv
  have hl := lv_entry [.ref (ξ.2.2.2.1 0), .int a1] (n := 3) (Nat.le_of_ble_eq_true rfl)
  rw [lg_entry_eq]
  generalize (lg_sl [.ref (ξ.2.2.2.1 0), .int a1] ++ List.replicate (3 - (lg_sl [.ref (ξ.2.2.2.1 0), .int a1]).length) Slot.unset).toArray = ls at hl ⊢
  have hl : lv_has ls 3 [(0, .ref (ξ.2.2.2.1 0)), (1, .int a1)] := hl
  unfold fSx_image_o at hm
  refine lv_iload_n S.1 S.2.1 dSx_image_0 rfl (lv_at hl 1 rfl) ?_
  refine bif_lt (tgt := 9) S.1 S.2.1 hm dSx_image_1 (by decide) (fun hm => ?_) (fun hm => ?_)
  · exact wSx_image_o9 S hr hlk N  g _ _ _ hm hw hf (lv_sub hl [0] rfl)
  · refine lv_iload_n S.1 S.2.1 dSx_image_4 rfl (lv_at hl 1 rfl) ?_
    refine lv_iconst (v := (2 : Int32)) S.1 S.2.1 dSx_image_5 (by decide) ?_
    refine bicmp_lt (tgt := 15) S.1 S.2.1 hm dSx_image_6 (by decide) (fun hm => ?_) (fun hm => ?_)
    · refine lv_aload_n S.1 S.2.1 dSx_image_15 rfl (lv_at hl 0 rfl) ?_
      refine get_Sx (v := .ref (ξ.2.2.2.1 28)) S hw (is_0 hf) 3 (by decide) rfl wf_Sx_22 dSx_image_16 ?_
      refine lv_iload_n S.1 S.2.1 dSx_image_19 rfl (lv_at hl 1 rfl) ?_
      refine sx_pald S hw (is_28 hf) hm dSx_image_20 (fun jt4 t4 et4 hm => ?_)
      cases t4 with
      | none =>
        refine W.eq (g2 := F0 m 21 ls [.null]) rfl ?_
        refine lv_astore_nN (lv' := [(2, .null), (0, .ref (ξ.2.2.2.1 0)), (1, .int a1)]) S.1 S.2.1 dSx_image_21 rfl hl (by decide) rfl (fun ls hl => ?_)
        refine lv_aload_nN S.1 S.2.1 dSx_image_22 rfl (lv_at hl 0 rfl) ?_
        refine lv_ifnonnullN S.1 S.2.1 dSx_image_23 ?_
        cases hm
      | some p5 =>
        have hp5 : sw_ik ξ p5 3 := hf.2.2.2.2.2 _ _ _ ⟨(is_28 hf).1, (is_28 hf).2.1⟩ et4
        refine W.eq (g2 := F0 m 21 ls [.ref (ξ.2.2.2.1 p5)]) rfl ?_
        refine lv_astore_n (lv' := [(2, .ref (ξ.2.2.2.1 p5)), (0, .ref (ξ.2.2.2.1 0)), (1, .int a1)]) S.1 S.2.1 dSx_image_21 rfl hl (by decide) rfl (fun ls hl => ?_)
        refine lv_aload_n S.1 S.2.1 dSx_image_22 rfl (lv_at hl 0 rfl) ?_
        refine lv_ifnonnull (tgt := 41) S.1 S.2.1 dSx_image_23 (by decide) ?_
        exact wSx_image_o41 S hr hlk N  g p5 _ _ _ hm hw hf hp5 (lv_sub hl [1, 0] rfl)
    · exact wSx_image_o9 S hr hlk N  g _ _ _ hm hw hf (lv_sub hl [0] rfl)
set_option maxHeartbeats 4000000 in
set_option maxRecDepth 100000 in
theorem cSx_few_o (l : Launch) {Γ : sw_C} {A : Nat → Prop} {ξ : sw_x} {g : sw_g} {μ : sw_m} (hf : sw_wf ξ g.2.2) (a1 : Int32) (a2 : Int32) {res : Int64 × sw_g} (hm : fSx_few_o ξ.2.2.1 g a1 a2 = some res) : Met l ySx_few (Cond.code ySx_few prog_1_method_33_code 8 (some .long) :: sw_tb) rmSx_few_o (va_Pc [.ref (ξ.2.2.2.1 0), .int a1, .int a2] (sw_V Γ A ξ g μ)) (sw_Ql Γ A ξ res.2 μ res.1 (sw_wf ξ res.2.2.2)) 0 0 A := by
  refine Met.ofW (cc := prog_1_method_33_code) (maxL := 8) (ret := some .long) (by decide) rfl ?_
  intro p e s m args below meth c s₁ B hml hv
  obtain ⟨rfl, hv⟩ := hv
  have S : CallFix p m c prog_1_method_33_code 8 s _ (Cond.code ySx_few prog_1_method_33_code 8 (some .long) :: sw_tb) R_Sx := ⟨B.exec, B.bytes, hml, findClass_of_methodNamed B.named, atoms_spec (ws := (Cond.code ySx_few prog_1_method_33_code 8 (some .long) :: sw_tb)) B.pre⟩
  have hr := B.returns
  have hlk := B.notSynchronized
  have hw := sw_begin hv
  have hl := lv_entry [.ref (ξ.2.2.2.1 0), .int a1, .int a2] (n := 8) (Nat.le_of_ble_eq_true rfl)
  rw [lg_entry_eq]
  generalize (lg_sl [.ref (ξ.2.2.2.1 0), .int a1, .int a2] ++ List.replicate (8 - (lg_sl [.ref (ξ.2.2.2.1 0), .int a1, .int a2]).length) Slot.unset).toArray = ls at hl ⊢
  have hl : lv_has ls 8 [(0, .ref (ξ.2.2.2.1 0)), (1, .int a1), (2, .int a2)] := hl
  unfold fSx_few_o at hm
  refine lv_iload_n S.1 S.2.1 dSx_few_0 rfl (lv_at hl 1 rfl) ?_
  refine lv_iconst (v := (1 : Int32)) S.1 S.2.1 dSx_few_1 (by decide) ?_
  refine bicmp_lt (tgt := 21) S.1 S.2.1 hm dSx_few_2 (by decide) (fun hm => ?_) (fun hm => ?_)
  · refine lv_ldc2 S.1 S.2.1 S.2.2.2.1 (sw_word S wc_Sx_305) dSx_few_21 ?_
    obtain rfl := Option.some.inj hm
    exact sw_lret S hr hlk hw hf dSx_few_24
  · refine lv_iload_n S.1 S.2.1 dSx_few_5 rfl (lv_at hl 1 rfl) ?_
    refine lv_bipush (v := (20 : Int32)) S.1 S.2.1 dSx_few_6 (by decide) ?_
    refine bicmp_gt (tgt := 21) S.1 S.2.1 hm dSx_few_8 (by decide) (fun hm => ?_) (fun hm => ?_)
    · refine lv_ldc2 S.1 S.2.1 S.2.2.2.1 (sw_word S wc_Sx_305) dSx_few_21 ?_
      obtain rfl := Option.some.inj hm
      exact sw_lret S hr hlk hw hf dSx_few_24
    · refine lv_iload_n S.1 S.2.1 dSx_few_11 rfl (lv_at hl 2 rfl) ?_
      refine bif_lt (tgt := 21) S.1 S.2.1 hm dSx_few_12 (by decide) (fun hm => ?_) (fun hm => ?_)
      · refine lv_ldc2 S.1 S.2.1 S.2.2.2.1 (sw_word S wc_Sx_305) dSx_few_21 ?_
        obtain rfl := Option.some.inj hm
        exact sw_lret S hr hlk hw hf dSx_few_24
      · refine lv_iload_n S.1 S.2.1 dSx_few_15 rfl (lv_at hl 2 rfl) ?_
        refine lv_bipush (v := (99 : Int32)) S.1 S.2.1 dSx_few_16 (by decide) ?_
        refine bicmp_le (tgt := 25) S.1 S.2.1 hm dSx_few_18 (by decide) (fun hm => ?_) (fun hm => ?_)
        · refine lv_bipush (v := (20 : Int32)) S.1 S.2.1 dSx_few_25 (by decide) ?_
          cases hm
        · refine lv_ldc2 S.1 S.2.1 S.2.2.2.1 (sw_word S wc_Sx_305) dSx_few_21 ?_
          obtain rfl := Option.some.inj hm
          exact sw_lret S hr hlk hw hf dSx_few_24
set_option maxHeartbeats 4000000 in
set_option maxRecDepth 100000 in
theorem wTe_copy_12t {l : Launch} {p : Program} {e : Env} {s : State} {m : MethodId} {args : Array Value} {below : List Frame} {meth : Method} {c : Code} {Γ : sw_C} {A : Nat → Prop} {ξ : sw_x} {μ : sw_m} {res : Option Nat × sw_g} (S : CallFix p m c prog_8_method_2_code 2 s args (Cond.code yTe_copy prog_8_method_2_code 2 (some (.object "SeeSaws$Text")) :: sw_tb) R_Te) (hr : meth.sig.returnType = some (.object "SeeSaws$Text")) (hlk : meth.locks = false) {n : Nat} (q0 : Nat) (qn : Nat) (h0 : sw_ik ξ q0 7) (hqn : sw_ik ξ qn 7) (N : Nat) : ∀ (g : sw_g)  (H : Heap) (locs : List Loc) (ls : Array Slot), fTe_copy_t_12t N ξ.2.2.1 q0 qn  g = some res → sw_S Γ A ξ g μ s H locs → sw_wf ξ g.2.2 → lv_has ls 2 [(0, .ref (ξ.2.2.2.1 q0)), (1, .ref (ξ.2.2.2.1 qn))] → W p l e (headSpec (Cond.code yTe_copy prog_8_method_2_code 2 (some (.object "SeeSaws$Text")) :: sw_tb) (rmTe_copy n)).room s m args below meth c H locs 7 (68 + n) (MQ below (sw_Qq Γ A ξ res.2 μ (Option.map ξ.2.2.2.1 res.1) (sw_wf ξ res.2.2.2 ∧ ∀ q, res.1 = some q → sw_ik ξ q 7)) args s 7 (68 + n) A) (F0 m 12 ls []) := by
  intro g H locs ls hm hw hf hl
  unfold fTe_copy_t_12t at hm
  refine lv_aload_n S.1 S.2.1 dTe_copy_12 rfl (lv_at hl 1 rfl) ?_
  refine lv_aload_n S.1 S.2.1 dTe_copy_13 rfl (lv_at hl 0 rfl) ?_
  refine get_Te (v := .int (g.1 q0 0)) S hw h0 0 (by decide) rfl wf_Te_43 dTe_copy_14 ?_
  refine put_Te S hw hf hqn 0 (by decide) ps_Te_0 rfl rfl rfl wf_Te_43 hm dTe_copy_17 (fun g1 H locs hf hm hw => ?_)
  refine lv_aload_n S.1 S.2.1 dTe_copy_20 rfl (lv_at hl 0 rfl) ?_
  refine get_Te (v := .ref (ξ.2.2.2.1 (q0 + 1))) S hw h0 1 (by decide) rfl wf_Te_9 dTe_copy_21 ?_
  refine lv_iconst (v := (0 : Int32)) S.1 S.2.1 dTe_copy_24 (by decide) ?_
  refine lv_aload_n S.1 S.2.1 dTe_copy_25 rfl (lv_at hl 1 rfl) ?_
  refine get_Te (v := .ref (ξ.2.2.2.1 (qn + 1))) S hw hqn 1 (by decide) rfl wf_Te_9 dTe_copy_26 ?_
  refine lv_iconst (v := (0 : Int32)) S.1 S.2.1 dTe_copy_29 (by decide) ?_
  refine lv_bipush (v := (12 : Int32)) S.1 S.2.1 dTe_copy_30 (by decide) ?_
  refine sx_copy (rest := []) S hw hf hl.1 wm_Te_46 (is_Te_verb hf h0) (is_Te_verb hf hqn) hm (Nat.le_of_ble_eq_true rfl) (Nat.le_of_ble_eq_true rfl) dTe_copy_32 (fun g2 H locs hf hm hw => ?_)
  refine lv_aload_n S.1 S.2.1 dTe_copy_35 rfl (lv_at hl 0 rfl) ?_
  refine get_Te (v := .ref (ξ.2.2.2.1 (q0 + 2))) S hw h0 2 (by decide) rfl wf_Te_15 dTe_copy_36 ?_
  refine lv_iconst (v := (0 : Int32)) S.1 S.2.1 dTe_copy_39 (by decide) ?_
  refine lv_aload_n S.1 S.2.1 dTe_copy_40 rfl (lv_at hl 1 rfl) ?_
  refine get_Te (v := .ref (ξ.2.2.2.1 (qn + 2))) S hw hqn 2 (by decide) rfl wf_Te_15 dTe_copy_41 ?_
  refine lv_iconst (v := (0 : Int32)) S.1 S.2.1 dTe_copy_44 (by decide) ?_
  refine lv_bipush (v := (12 : Int32)) S.1 S.2.1 dTe_copy_45 (by decide) ?_
  refine sx_copy (rest := []) S hw hf hl.1 wm_Te_46 (is_Te_first hf h0) (is_Te_first hf hqn) hm (Nat.le_of_ble_eq_true rfl) (Nat.le_of_ble_eq_true rfl) dTe_copy_47 (fun g3 H locs hf hm hw => ?_)
  refine lv_aload_n S.1 S.2.1 dTe_copy_50 rfl (lv_at hl 0 rfl) ?_
  refine get_Te (v := .ref (ξ.2.2.2.1 (q0 + 3))) S hw h0 3 (by decide) rfl wf_Te_18 dTe_copy_51 ?_
  refine lv_iconst (v := (0 : Int32)) S.1 S.2.1 dTe_copy_54 (by decide) ?_
  refine lv_aload_n S.1 S.2.1 dTe_copy_55 rfl (lv_at hl 1 rfl) ?_
  refine get_Te (v := .ref (ξ.2.2.2.1 (qn + 3))) S hw hqn 3 (by decide) rfl wf_Te_18 dTe_copy_56 ?_
  refine lv_iconst (v := (0 : Int32)) S.1 S.2.1 dTe_copy_59 (by decide) ?_
  refine lv_bipush (v := (12 : Int32)) S.1 S.2.1 dTe_copy_60 (by decide) ?_
  refine sx_copy (rest := []) S hw hf hl.1 wm_Te_46 (is_Te_second hf h0) (is_Te_second hf hqn) hm (Nat.le_of_ble_eq_true rfl) (Nat.le_of_ble_eq_true rfl) dTe_copy_62 (fun g4 H locs hf hm hw => ?_)
  refine lv_aload_n S.1 S.2.1 dTe_copy_65 rfl (lv_at hl 0 rfl) ?_
  refine get_Te (v := .ref (ξ.2.2.2.1 (q0 + 4))) S hw h0 4 (by decide) rfl wf_Te_21 dTe_copy_66 ?_
  refine lv_iconst (v := (0 : Int32)) S.1 S.2.1 dTe_copy_69 (by decide) ?_
  refine lv_aload_n S.1 S.2.1 dTe_copy_70 rfl (lv_at hl 1 rfl) ?_
  refine get_Te (v := .ref (ξ.2.2.2.1 (qn + 4))) S hw hqn 4 (by decide) rfl wf_Te_21 dTe_copy_71 ?_
  refine lv_iconst (v := (0 : Int32)) S.1 S.2.1 dTe_copy_74 (by decide) ?_
  refine lv_bipush (v := (12 : Int32)) S.1 S.2.1 dTe_copy_75 (by decide) ?_
  refine sx_copy (rest := []) S hw hf hl.1 wm_Te_46 (is_Te_times hf h0) (is_Te_times hf hqn) hm (Nat.le_of_ble_eq_true rfl) (Nat.le_of_ble_eq_true rfl) dTe_copy_77 (fun g5 H locs hf hm hw => ?_)
  refine lv_aload_n S.1 S.2.1 dTe_copy_80 rfl (lv_at hl 0 rfl) ?_
  refine get_Te (v := .ref (ξ.2.2.2.1 (q0 + 5))) S hw h0 5 (by decide) rfl wf_Te_24 dTe_copy_81 ?_
  refine lv_iconst (v := (0 : Int32)) S.1 S.2.1 dTe_copy_84 (by decide) ?_
  refine lv_aload_n S.1 S.2.1 dTe_copy_85 rfl (lv_at hl 1 rfl) ?_
  refine get_Te (v := .ref (ξ.2.2.2.1 (qn + 5))) S hw hqn 5 (by decide) rfl wf_Te_24 dTe_copy_86 ?_
  refine lv_iconst (v := (0 : Int32)) S.1 S.2.1 dTe_copy_89 (by decide) ?_
  refine lv_bipush (v := (12 : Int32)) S.1 S.2.1 dTe_copy_90 (by decide) ?_
  refine sx_copy (rest := []) S hw hf hl.1 wm_Te_46 (is_Te_test hf h0) (is_Te_test hf hqn) hm (Nat.le_of_ble_eq_true rfl) (Nat.le_of_ble_eq_true rfl) dTe_copy_92 (fun g6 H locs hf hm hw => ?_)
  refine lv_aload_n S.1 S.2.1 dTe_copy_95 rfl (lv_at hl 1 rfl) ?_
  refine lv_aload_n S.1 S.2.1 dTe_copy_96 rfl (lv_at hl 0 rfl) ?_
  refine get_Te (v := .int (g6.1 q0 6)) S hw h0 6 (by decide) rfl wf_Te_36 dTe_copy_97 ?_
  refine put_Te S hw hf hqn 6 (by decide) ps_Te_6 rfl rfl rfl wf_Te_36 hm dTe_copy_100 (fun g7 H locs hf hm hw => ?_)
  refine lv_aload_n S.1 S.2.1 dTe_copy_103 rfl (lv_at hl 0 rfl) ?_
  refine get_Te (v := .ref (ξ.2.2.2.1 (q0 + 6))) S hw h0 7 (by decide) rfl wf_Te_33 dTe_copy_104 ?_
  refine lv_iconst (v := (0 : Int32)) S.1 S.2.1 dTe_copy_107 (by decide) ?_
  refine lv_aload_n S.1 S.2.1 dTe_copy_108 rfl (lv_at hl 1 rfl) ?_
  refine get_Te (v := .ref (ξ.2.2.2.1 (qn + 6))) S hw hqn 7 (by decide) rfl wf_Te_33 dTe_copy_109 ?_
  refine lv_iconst (v := (0 : Int32)) S.1 S.2.1 dTe_copy_112 (by decide) ?_
  refine lv_aload_n S.1 S.2.1 dTe_copy_113 rfl (lv_at hl 0 rfl) ?_
  refine get_Te (v := .int (g7.1 q0 6)) S hw h0 6 (by decide) rfl wf_Te_36 dTe_copy_114 ?_
  refine sx_copy (rest := []) S hw hf hl.1 wm_Te_46 (is_Te_code hf h0) (is_Te_code hf hqn) hm (Nat.le_of_ble_eq_true rfl) (Nat.le_of_ble_eq_true rfl) dTe_copy_117 (fun g8 H locs hf hm hw => ?_)
  refine lv_aload_n S.1 S.2.1 dTe_copy_120 rfl (lv_at hl 1 rfl) ?_
  obtain rfl := Option.some.inj hm
  exact sw_qret (t := some qn) S hr hlk hw ⟨hf, fun q hq => by cases hq; exact hqn⟩ dTe_copy_121
set_option maxHeartbeats 4000000 in
set_option maxRecDepth 100000 in
theorem wSx_law_60t {l : Launch} {p : Program} {e : Env} {s : State} {m : MethodId} {args : Array Value} {below : List Frame} {meth : Method} {c : Code} {Γ : sw_C} {A : Nat → Prop} {ξ : sw_x} {μ : sw_m} {res : Int32 × sw_g} (S : CallFix p m c prog_1_method_11_code 1 s args (Cond.code ySx_law prog_1_method_11_code 1 (some .int) :: sw_tb) R_Sx) (hr : meth.sig.returnType = some .int) (hlk : meth.locks = false) {n : Nat} (qn : Nat) (hqn : sw_ik ξ qn 7) (N : Nat) : ∀ (g : sw_g)  (H : Heap) (locs : List Loc) (ls : Array Slot), fSx_law_t_60t N ξ.2.2.1 qn  g = some res → sw_S Γ A ξ g μ s H locs → sw_wf ξ g.2.2 → lv_has ls 1 [(0, .ref (ξ.2.2.2.1 0))] → W p l e (headSpec (Cond.code ySx_law prog_1_method_11_code 1 (some .int) :: sw_tb) (rmSx_law n)).room s m args below meth c H locs 7 (68 + n) (MQ below (sw_Qi Γ A ξ res.2 μ res.1 (sw_wf ξ res.2.2.2)) args s 7 (68 + n) A) (F0 m 60 ls [.ref (ξ.2.2.2.1 qn), .ref (ξ.2.2.2.1 1), .ref (ξ.2.2.2.1 0)]) := by
  intro g H locs ls hm hw hf hl
  unfold fSx_law_t_60t at hm
  obtain ⟨⟨v3, g2⟩, h1, hm⟩ := ob hm
  refine sw_Vi (q := 1) (rest := [.ref (ξ.2.2.2.1 0)]) S hw (cPl_addLaw l  hf 1 qn (is_1 hf) hqn h1) kPl_addLaw wm_Sx_186 (is_1 hf).1 (e_Pl (is_1 hf)) rfl rfl rfl rfl hl.1 (Nat.le_of_ble_eq_true rfl) ⟨rfl, rfl, Nat.le_of_ble_eq_true rfl, Nat.le_of_ble_eq_true rfl⟩ ⟨Nat.le_of_ble_eq_true rfl, Nat.le_refl _⟩ dSx_law_60 (fun H locs hw hf => ?_)
  obtain ⟨⟨v6, g5⟩, h4, hm⟩ := ob hm
  refine sw_Vi (q := 0) (rest := []) S hw (cSx_told l  hf v3 h4) kSx_told wm_Sx_99 (is_0 hf).1 (e_Sx (is_0 hf)) rfl rfl rfl rfl hl.1 (Nat.le_of_ble_eq_true rfl) ⟨rfl, rfl, Nat.le_of_ble_eq_true rfl, Nat.le_of_ble_eq_true rfl⟩ ⟨Nat.le_of_ble_eq_true rfl, Nat.le_refl _⟩ dSx_law_63 (fun H locs hw hf => ?_)
  obtain rfl := Option.some.inj hm
  exact sw_iret S hr hlk hw hf dSx_law_66
set_option maxHeartbeats 4000000 in
set_option maxRecDepth 100000 in
theorem wSx_image_41t {l : Launch} {p : Program} {e : Env} {s : State} {m : MethodId} {args : Array Value} {below : List Frame} {meth : Method} {c : Code} {Γ : sw_C} {A : Nat → Prop} {ξ : sw_x} {μ : sw_m} {res : Int32 × sw_g} (S : CallFix p m c prog_1_method_37_code 3 s args (Cond.code ySx_image prog_1_method_37_code 3 (some .int) :: sw_tb) R_Sx) (hr : meth.sig.returnType = some .int) (hlk : meth.locks = false) (qn : Nat) (hqn : sw_ik ξ qn 3) (N : Nat) : ∀ (g : sw_g)  (H : Heap) (locs : List Loc) (ls : Array Slot), fSx_image_t_41t N ξ.2.2.1 qn  g = some res → sw_S Γ A ξ g μ s H locs → sw_wf ξ g.2.2 → lv_has ls 3 [(0, .ref (ξ.2.2.2.1 0)), (2, .ref (ξ.2.2.2.1 qn))] → W p l e (headSpec (Cond.code ySx_image prog_1_method_37_code 3 (some .int) :: sw_tb) rmSx_image).room s m args below meth c H locs 9 61 (MQ below (sw_Qi Γ A ξ res.2 μ res.1 (sw_wf ξ res.2.2.2)) args s 9 61 A) (F0 m 41 ls []) := by
  intro g H locs ls hm hw hf hl
  unfold fSx_image_t_41t at hm
  refine lv_aload_n S.1 S.2.1 dSx_image_41 rfl (lv_at hl 1 rfl) ?_
  refine lv_aload_n S.1 S.2.1 dSx_image_42 rfl (lv_at hl 0 rfl) ?_
  refine get_Sx (v := .ref (ξ.2.2.2.1 1)) S hw (is_0 hf) 0 (by decide) rfl wf_Sx_12 dSx_image_43 ?_
  obtain ⟨g3, h2, hm⟩ := ob hm
  refine sw_Vv (q := qn) (rest := []) S hw (cPl_become l N hf qn 1 hqn (is_1 hf) h2) kPl_become wm_Sx_190 hqn.1 (e_Pl hqn) rfl rfl rfl rfl hl.1 (Nat.le_of_ble_eq_true rfl) ⟨rfl, rfl, Nat.le_of_ble_eq_true rfl, Nat.le_of_ble_eq_true rfl⟩ ⟨Nat.le_of_ble_eq_true rfl, Nat.le_of_ble_eq_true rfl⟩ dSx_image_46 (fun H locs hw hf => ?_)
  refine lv_aload_n S.1 S.2.1 dSx_image_49 rfl (lv_at hl 0 rfl) ?_
  refine lv_iconst (v := (0 : Int32)) S.1 S.2.1 dSx_image_50 (by decide) ?_
  obtain ⟨⟨v6, g5⟩, h4, hm⟩ := ob hm
  refine sw_Vi (q := 0) (rest := []) S hw (cSx_told l  hf (0 : Int32) h4) kSx_told wm_Sx_99 (is_0 hf).1 (e_Sx (is_0 hf)) rfl rfl rfl rfl hl.1 (Nat.le_of_ble_eq_true rfl) ⟨rfl, rfl, Nat.le_of_ble_eq_true rfl, Nat.le_of_ble_eq_true rfl⟩ ⟨Nat.le_of_ble_eq_true rfl, Nat.le_of_ble_eq_true rfl⟩ dSx_image_51 (fun H locs hw hf => ?_)
  obtain rfl := Option.some.inj hm
  exact sw_iret S hr hlk hw hf dSx_image_54
set_option maxHeartbeats 4000000 in
set_option maxRecDepth 100000 in
theorem wSx_image_33t {l : Launch} {p : Program} {e : Env} {s : State} {m : MethodId} {args : Array Value} {below : List Frame} {meth : Method} {c : Code} {Γ : sw_C} {A : Nat → Prop} {ξ : sw_x} {μ : sw_m} {res : Int32 × sw_g} (S : CallFix p m c prog_1_method_37_code 3 s args (Cond.code ySx_image prog_1_method_37_code 3 (some .int) :: sw_tb) R_Sx) (hr : meth.sig.returnType = some .int) (hlk : meth.locks = false) (qn : Nat) (hqn : sw_ik ξ qn 3) (N : Nat) : ∀ (g : sw_g) (u1 : Int32) (H : Heap) (locs : List Loc) (ls : Array Slot), fSx_image_t_33t N ξ.2.2.1 qn  g u1 = some res → sw_S Γ A ξ g μ s H locs → sw_wf ξ g.2.2 → lv_has ls 3 [(0, .ref (ξ.2.2.2.1 0)), (1, .int u1)] → W p l e (headSpec (Cond.code ySx_image prog_1_method_37_code 3 (some .int) :: sw_tb) rmSx_image).room s m args below meth c H locs 9 61 (MQ below (sw_Qi Γ A ξ res.2 μ res.1 (sw_wf ξ res.2.2.2)) args s 9 61 A) (F0 m 33 ls [.ref (ξ.2.2.2.1 qn)]) := by
  intro g u1 H locs ls hm hw hf hl
  unfold fSx_image_t_33t at hm
  refine lv_astore_n (lv' := [(2, .ref (ξ.2.2.2.1 qn)), (0, .ref (ξ.2.2.2.1 0)), (1, .int u1)]) S.1 S.2.1 dSx_image_33 rfl hl (by decide) rfl (fun ls hl => ?_)
  refine lv_aload_n S.1 S.2.1 dSx_image_34 rfl (lv_at hl 1 rfl) ?_
  refine get_Sx (v := .ref (ξ.2.2.2.1 28)) S hw (is_0 hf) 3 (by decide) rfl wf_Sx_22 dSx_image_35 ?_
  refine lv_iload_n S.1 S.2.1 dSx_image_38 rfl (lv_at hl 2 rfl) ?_
  refine lv_aload_n S.1 S.2.1 dSx_image_39 rfl (lv_at hl 0 rfl) ?_
  refine sx_past S hw hf (is_28 hf) hqn hm dSx_image_40 (fun g1 H locs hf hm hw => ?_)
  exact wSx_image_41t S hr hlk qn hqn N  g1 _ _ _ hm hw hf (lv_sub hl [1, 0] rfl)
set_option maxHeartbeats 4000000 in
set_option maxRecDepth 100000 in
theorem wSx_few_61t {l : Launch} {p : Program} {e : Env} {s : State} {m : MethodId} {args : Array Value} {below : List Frame} {meth : Method} {c : Code} {Γ : sw_C} {A : Nat → Prop} {ξ : sw_x} {μ : sw_m} {res : Int64 × sw_g} (S : CallFix p m c prog_1_method_33_code 8 s args (Cond.code ySx_few prog_1_method_33_code 8 (some .long) :: sw_tb) R_Sx) (hr : meth.sig.returnType = some .long) (hlk : meth.locks = false) (qn : Nat) (hqn : sw_is ξ qn 11 20) (N : Nat) (k50 : sw_g → Int32 → Int32 → Int32 → Int32 → Option (Int64 × sw_g)) (hk50 : ∀ (g : sw_g) (u1 : Int32) (u2 : Int32) (u4 : Int32) (u5 : Int32) (H : Heap) (locs : List Loc) (ls : Array Slot), k50 g u1 u2 u4 u5 = some res → sw_S Γ A ξ g μ s H locs → sw_wf ξ g.2.2 → lv_has ls 8 [(1, .int u1), (2, .int u2), (3, .ref (ξ.2.2.2.1 qn)), (4, .int u4), (5, .int u5)] → W p l e (headSpec (Cond.code ySx_few prog_1_method_33_code 8 (some .long) :: sw_tb) rmSx_few).room s m args below meth c H locs 1 20 (MQ below (sw_Ql Γ A ξ res.2 μ res.1 (sw_wf ξ res.2.2.2)) args s 1 20 A) (F0 m 50 ls [])) : ∀ (fu : Nat) (g : sw_g) (u1 : Int32) (u2 : Int32) (u4 : Int32) (u5 : Int32) (u6 : Int32) (H : Heap) (locs : List Loc) (ls : Array Slot), fSx_few_t_61t N ξ.2.2.1 qn k50 fu g u1 u2 u4 u5 u6 = some res → sw_S Γ A ξ g μ s H locs → sw_wf ξ g.2.2 → lv_has ls 8 [(1, .int u1), (2, .int u2), (3, .ref (ξ.2.2.2.1 qn)), (4, .int u4), (5, .int u5), (6, .int u6)] → W p l e (headSpec (Cond.code ySx_few prog_1_method_33_code 8 (some .long) :: sw_tb) rmSx_few).room s m args below meth c H locs 1 20 (MQ below (sw_Ql Γ A ξ res.2 μ res.1 (sw_wf ξ res.2.2.2)) args s 1 20 A) (F0 m 61 ls []) := by
  intro fu
  induction fu with
  | zero => intro g u1 u2 u4 u5 u6 H locs ls hm; rw [fSx_few_t_61t.eq_1] at hm; cases hm
  | succ fu ih =>
    intro g u1 u2 u4 u5 u6 H locs ls hm hw hf hl
    rw [fSx_few_t_61t.eq_2] at hm
    refine lv_iload S.1 S.2.1 dSx_few_61 (lv_at hl 5 rfl) ?_
    refine bif_le (tgt := 106) S.1 S.2.1 hm dSx_few_63 (by decide) (fun hm => ?_) (fun hm => ?_)
    · refine lv_aload_n S.1 S.2.1 dSx_few_106 rfl (lv_at hl 2 rfl) ?_
      refine lv_iconst (v := (0 : Int32)) S.1 S.2.1 dSx_few_107 (by decide) ?_
      refine lv_aload_n S.1 S.2.1 dSx_few_108 rfl (lv_at hl 2 rfl) ?_
      refine lv_iconst (v := (0 : Int32)) S.1 S.2.1 dSx_few_109 (by decide) ?_
      refine sx_lald S hw hqn hm dSx_few_110 (fun v7 hm => ?_)
      refine lv_bipush (v := (10 : Int32)) S.1 S.2.1 dSx_few_111 (by decide) ?_
      refine lv_iload S.1 S.2.1 dSx_few_113 (lv_at hl 3 rfl) ?_
      refine lv_isub S.1 S.2.1 dSx_few_115 ?_
      refine lv_i2l (v := (((10 : Int32) - u4)).toInt64) S.1 S.2.1 dSx_few_116 rfl ?_
      refine lv_lmul S.1 S.2.1 dSx_few_117 ?_
      refine lv_ldc2 S.1 S.2.1 S.2.2.2.1 (sw_word S wc_Sx_309) dSx_few_118 ?_
      refine lv_ldiv S.1 S.2.1 dSx_few_121 (by decide) ?_
      refine sx_last S hw hf hqn hm dSx_few_122 (fun g8 H locs hf hm hw => ?_)
      obtain ⟨x9, ex9, hm⟩ := nm_x hm
      refine lv_iinc (v := x9) (lv' := [(5, .int x9), (1, .int u1), (2, .int u2), (3, .ref (ξ.2.2.2.1 qn)), (4, .int u4), (6, .int u6)]) S.1 S.2.1 dSx_few_123 hl (k := 4) rfl (by rw [ex9]; rfl) (by decide) rfl (fun ls hl => ?_)
      refine lv_goto (tgt := 50) S.1 S.2.1 dSx_few_126 (by decide) ?_
      exact hk50 g8 u1 u2 u4 x9 _ _ _ hm hw hf (lv_sub hl [1, 2, 3, 4, 0] rfl)
    · refine lv_aload_n S.1 S.2.1 dSx_few_66 rfl (lv_at hl 2 rfl) ?_
      refine lv_iload S.1 S.2.1 dSx_few_67 (lv_at hl 5 rfl) ?_
      refine lv_aload_n S.1 S.2.1 dSx_few_69 rfl (lv_at hl 2 rfl) ?_
      refine lv_iload S.1 S.2.1 dSx_few_70 (lv_at hl 5 rfl) ?_
      refine sx_lald S hw hqn hm dSx_few_72 (fun v10 hm => ?_)
      refine lv_bipush (v := (10 : Int32)) S.1 S.2.1 dSx_few_73 (by decide) ?_
      refine lv_iload S.1 S.2.1 dSx_few_75 (lv_at hl 3 rfl) ?_
      refine lv_isub S.1 S.2.1 dSx_few_77 ?_
      refine lv_i2l (v := (((10 : Int32) - u4)).toInt64) S.1 S.2.1 dSx_few_78 rfl ?_
      refine lv_lmul S.1 S.2.1 dSx_few_79 ?_
      refine lv_ldc2 S.1 S.2.1 S.2.2.2.1 (sw_word S wc_Sx_309) dSx_few_80 ?_
      refine lv_ldiv S.1 S.2.1 dSx_few_83 (by decide) ?_
      refine lv_aload_n S.1 S.2.1 dSx_few_84 rfl (lv_at hl 2 rfl) ?_
      refine lv_iload S.1 S.2.1 dSx_few_85 (lv_at hl 5 rfl) ?_
      refine lv_iconst (v := (1 : Int32)) S.1 S.2.1 dSx_few_87 (by decide) ?_
      refine lv_isub S.1 S.2.1 dSx_few_88 ?_
      refine sx_lald S hw hqn hm dSx_few_89 (fun v11 hm => ?_)
      refine lv_iload S.1 S.2.1 dSx_few_90 (lv_at hl 3 rfl) ?_
      refine lv_i2l (v := (u4).toInt64) S.1 S.2.1 dSx_few_92 rfl ?_
      refine lv_lmul S.1 S.2.1 dSx_few_93 ?_
      refine lv_ldc2 S.1 S.2.1 S.2.2.2.1 (sw_word S wc_Sx_309) dSx_few_94 ?_
      refine lv_ldiv S.1 S.2.1 dSx_few_97 (by decide) ?_
      refine lv_ladd S.1 S.2.1 dSx_few_98 ?_
      refine sx_last S hw hf hqn hm dSx_few_99 (fun g12 H locs hf hm hw => ?_)
      obtain ⟨x13, ex13, hm⟩ := nm_x hm
      refine lv_iinc (v := x13) (lv' := [(6, .int x13), (1, .int u1), (2, .int u2), (3, .ref (ξ.2.2.2.1 qn)), (4, .int u4), (5, .int u5)]) S.1 S.2.1 dSx_few_100 hl (k := 5) rfl (by rw [ex13]; rfl) (by decide) rfl (fun ls hl => ?_)
      refine lv_goto (tgt := 61) S.1 S.2.1 dSx_few_103 (by decide) ?_
      exact ih g12 u1 u2 u4 u5 x13 _ _ _ hm hw hf (lv_sub hl [1, 2, 3, 4, 5, 0] rfl)
set_option maxHeartbeats 4000000 in
set_option maxRecDepth 100000 in
theorem wSx_few_135t {l : Launch} {p : Program} {e : Env} {s : State} {m : MethodId} {args : Array Value} {below : List Frame} {meth : Method} {c : Code} {Γ : sw_C} {A : Nat → Prop} {ξ : sw_x} {μ : sw_m} {res : Int64 × sw_g} (S : CallFix p m c prog_1_method_33_code 8 s args (Cond.code ySx_few prog_1_method_33_code 8 (some .long) :: sw_tb) R_Sx) (hr : meth.sig.returnType = some .long) (hlk : meth.locks = false) (qn : Nat) (hqn : sw_is ξ qn 11 20) (N : Nat) : ∀ (fu : Nat) (g : sw_g) (u1 : Int32) (u5 : Int64) (u7 : Int32) (H : Heap) (locs : List Loc) (ls : Array Slot), fSx_few_t_135t N ξ.2.2.1 qn  fu g u1 u5 u7 = some res → sw_S Γ A ξ g μ s H locs → sw_wf ξ g.2.2 → lv_has ls 8 [(1, .int u1), (3, .ref (ξ.2.2.2.1 qn)), (5, .long u5), (7, .int u7)] → W p l e (headSpec (Cond.code ySx_few prog_1_method_33_code 8 (some .long) :: sw_tb) rmSx_few).room s m args below meth c H locs 1 20 (MQ below (sw_Ql Γ A ξ res.2 μ res.1 (sw_wf ξ res.2.2.2)) args s 1 20 A) (F0 m 135 ls []) := by
  intro fu
  induction fu with
  | zero => intro g u1 u5 u7 H locs ls hm; rw [fSx_few_t_135t.eq_1] at hm; cases hm
  | succ fu ih =>
    intro g u1 u5 u7 H locs ls hm hw hf hl
    rw [fSx_few_t_135t.eq_2] at hm
    refine lv_iload S.1 S.2.1 dSx_few_135 (lv_at hl 3 rfl) ?_
    refine lv_iload_n S.1 S.2.1 dSx_few_137 rfl (lv_at hl 0 rfl) ?_
    refine bicmp_ge (tgt := 156) S.1 S.2.1 hm dSx_few_138 (by decide) (fun hm => ?_) (fun hm => ?_)
    · refine lv_lload S.1 S.2.1 dSx_few_156 (lv_at hl 2 rfl) ?_
      obtain rfl := Option.some.inj hm
      exact sw_lret S hr hlk hw hf dSx_few_158
    · refine lv_lload S.1 S.2.1 dSx_few_141 (lv_at hl 2 rfl) ?_
      refine lv_aload_n S.1 S.2.1 dSx_few_143 rfl (lv_at hl 1 rfl) ?_
      refine lv_iload S.1 S.2.1 dSx_few_144 (lv_at hl 3 rfl) ?_
      refine sx_lald S hw hqn hm dSx_few_146 (fun v3 hm => ?_)
      refine lv_ladd S.1 S.2.1 dSx_few_147 ?_
      refine nm_l hm (fun x4 hm => ?_)
      refine lv_lstore (lv' := [(5, .long x4), (1, .int u1), (3, .ref (ξ.2.2.2.1 qn)), (7, .int u7)]) S.1 S.2.1 dSx_few_148 hl (by decide) rfl (fun ls hl => ?_)
      obtain ⟨x5, ex5, hm⟩ := nm_x hm
      refine lv_iinc (v := x5) (lv' := [(7, .int x5), (5, .long x4), (1, .int u1), (3, .ref (ξ.2.2.2.1 qn))]) S.1 S.2.1 dSx_few_150 hl (k := 3) rfl (by rw [ex5]; rfl) (by decide) rfl (fun ls hl => ?_)
      refine lv_goto (tgt := 135) S.1 S.2.1 dSx_few_153 (by decide) ?_
      exact ih g u1 x4 x5 _ _ _ hm hw hf (lv_sub hl [2, 3, 1, 0] rfl)
set_option maxHeartbeats 4000000 in
set_option maxRecDepth 100000 in
theorem wSx_few_50t {l : Launch} {p : Program} {e : Env} {s : State} {m : MethodId} {args : Array Value} {below : List Frame} {meth : Method} {c : Code} {Γ : sw_C} {A : Nat → Prop} {ξ : sw_x} {μ : sw_m} {res : Int64 × sw_g} (S : CallFix p m c prog_1_method_33_code 8 s args (Cond.code ySx_few prog_1_method_33_code 8 (some .long) :: sw_tb) R_Sx) (hr : meth.sig.returnType = some .long) (hlk : meth.locks = false) (qn : Nat) (hqn : sw_is ξ qn 11 20) (N : Nat) : ∀ (fu : Nat) (g : sw_g) (u1 : Int32) (u2 : Int32) (u4 : Int32) (u5 : Int32) (H : Heap) (locs : List Loc) (ls : Array Slot), fSx_few_t_50t N ξ.2.2.1 qn  fu g u1 u2 u4 u5 = some res → sw_S Γ A ξ g μ s H locs → sw_wf ξ g.2.2 → lv_has ls 8 [(1, .int u1), (2, .int u2), (3, .ref (ξ.2.2.2.1 qn)), (4, .int u4), (5, .int u5)] → W p l e (headSpec (Cond.code ySx_few prog_1_method_33_code 8 (some .long) :: sw_tb) rmSx_few).room s m args below meth c H locs 1 20 (MQ below (sw_Ql Γ A ξ res.2 μ res.1 (sw_wf ξ res.2.2.2)) args s 1 20 A) (F0 m 50 ls []) := by
  intro fu
  induction fu with
  | zero => intro g u1 u2 u4 u5 H locs ls hm; rw [fSx_few_t_50t.eq_1] at hm; cases hm
  | succ fu ih =>
    intro g u1 u2 u4 u5 H locs ls hm hw hf hl
    rw [fSx_few_t_50t.eq_2] at hm
    refine lv_iload S.1 S.2.1 dSx_few_50 (lv_at hl 4 rfl) ?_
    refine lv_iload_n S.1 S.2.1 dSx_few_52 rfl (lv_at hl 1 rfl) ?_
    refine bicmp_ge (tgt := 129) S.1 S.2.1 hm dSx_few_53 (by decide) (fun hm => ?_) (fun hm => ?_)
    · refine lv_lconst (v := (0 : Int64)) S.1 S.2.1 dSx_few_129 (by decide) ?_
      refine lv_lstore (lv' := [(5, .long (0 : Int64)), (1, .int u1), (2, .int u2), (3, .ref (ξ.2.2.2.1 qn)), (4, .int u4)]) S.1 S.2.1 dSx_few_130 hl (by decide) rfl (fun ls hl => ?_)
      refine lv_iconst (v := (0 : Int32)) S.1 S.2.1 dSx_few_132 (by decide) ?_
      refine lv_istore (lv' := [(7, .int (0 : Int32)), (5, .long (0 : Int64)), (1, .int u1), (2, .int u2), (3, .ref (ξ.2.2.2.1 qn)), (4, .int u4)]) S.1 S.2.1 dSx_few_133 hl (by decide) rfl (fun ls hl => ?_)
      exact wSx_few_135t S hr hlk qn hqn N  N g u1 (0 : Int64) (0 : Int32) _ _ _ hm hw hf (lv_sub hl [2, 4, 1, 0] rfl)
    · refine lv_iload_n S.1 S.2.1 dSx_few_56 rfl (lv_at hl 0 rfl) ?_
      refine lv_iconst (v := (1 : Int32)) S.1 S.2.1 dSx_few_57 (by decide) ?_
      refine lv_isub S.1 S.2.1 dSx_few_58 ?_
      refine nm_i hm (fun x6 hm => ?_)
      refine lv_istore (lv' := [(6, .int x6), (1, .int u1), (2, .int u2), (3, .ref (ξ.2.2.2.1 qn)), (4, .int u4), (5, .int u5)]) S.1 S.2.1 dSx_few_59 hl (by decide) rfl (fun ls hl => ?_)
      exact wSx_few_61t S hr hlk qn hqn N (fSx_few_t_50t N ξ.2.2.1 qn  fu) ih N g u1 u2 u4 u5 x6 _ _ _ hm hw hf (lv_sub hl [1, 2, 3, 4, 5, 0] rfl)
set_option maxHeartbeats 4000000 in
set_option maxRecDepth 100000 in
theorem wSx_few_29t {l : Launch} {p : Program} {e : Env} {s : State} {m : MethodId} {args : Array Value} {below : List Frame} {meth : Method} {c : Code} {Γ : sw_C} {A : Nat → Prop} {ξ : sw_x} {μ : sw_m} {res : Int64 × sw_g} (S : CallFix p m c prog_1_method_33_code 8 s args (Cond.code ySx_few prog_1_method_33_code 8 (some .long) :: sw_tb) R_Sx) (hr : meth.sig.returnType = some .long) (hlk : meth.locks = false) (qn : Nat) (hqn : sw_is ξ qn 11 20) (N : Nat) : ∀ (g : sw_g) (u1 : Int32) (u2 : Int32) (H : Heap) (locs : List Loc) (ls : Array Slot), fSx_few_t_29t N ξ.2.2.1 qn  g u1 u2 = some res → sw_S Γ A ξ g μ s H locs → sw_wf ξ g.2.2 → lv_has ls 8 [(0, .ref (ξ.2.2.2.1 0)), (1, .int u1), (2, .int u2)] → W p l e (headSpec (Cond.code ySx_few prog_1_method_33_code 8 (some .long) :: sw_tb) rmSx_few).room s m args below meth c H locs 1 20 (MQ below (sw_Ql Γ A ξ res.2 μ res.1 (sw_wf ξ res.2.2.2)) args s 1 20 A) (F0 m 29 ls [.ref (ξ.2.2.2.1 qn)]) := by
  intro g u1 u2 H locs ls hm hw hf hl
  unfold fSx_few_t_29t at hm
  refine lv_astore_n (lv' := [(3, .ref (ξ.2.2.2.1 qn)), (0, .ref (ξ.2.2.2.1 0)), (1, .int u1), (2, .int u2)]) S.1 S.2.1 dSx_few_29 rfl hl (by decide) rfl (fun ls hl => ?_)
  refine lv_aload_n S.1 S.2.1 dSx_few_30 rfl (lv_at hl 0 rfl) ?_
  refine lv_iconst (v := (0 : Int32)) S.1 S.2.1 dSx_few_31 (by decide) ?_
  refine lv_ldc2 S.1 S.2.1 S.2.2.2.1 (sw_word S wc_Sx_307) dSx_few_32 ?_
  refine sx_last S hw hf hqn hm dSx_few_35 (fun g1 H locs hf hm hw => ?_)
  refine lv_aload_n S.1 S.2.1 dSx_few_36 rfl (lv_at hl 1 rfl) ?_
  refine get_Sx (v := .ref (ξ.2.2.2.1 1)) S hw (is_0 hf) 0 (by decide) rfl wf_Sx_12 dSx_few_37 ?_
  refine get_Pl (v := .ref (ξ.2.2.2.1 5)) S hw (is_1 hf) 4 (by decide) rfl wf_Sx_153 dSx_few_40 ?_
  refine lv_iconst (v := (1 : Int32)) S.1 S.2.1 dSx_few_43 (by decide) ?_
  refine sx_iald S hw (is_5 hf) hm dSx_few_44 (fun v2 hm => ?_)
  refine lv_istore (lv' := [(4, .int v2), (3, .ref (ξ.2.2.2.1 qn)), (0, .ref (ξ.2.2.2.1 0)), (1, .int u1), (2, .int u2)]) S.1 S.2.1 dSx_few_45 hl (by decide) rfl (fun ls hl => ?_)
  refine lv_iconst (v := (0 : Int32)) S.1 S.2.1 dSx_few_47 (by decide) ?_
  refine lv_istore (lv' := [(5, .int (0 : Int32)), (4, .int v2), (3, .ref (ξ.2.2.2.1 qn)), (0, .ref (ξ.2.2.2.1 0)), (1, .int u1), (2, .int u2)]) S.1 S.2.1 dSx_few_48 hl (by decide) rfl (fun ls hl => ?_)
  exact wSx_few_50t S hr hlk qn hqn N  N g1 u1 u2 v2 (0 : Int32) _ _ _ hm hw hf (lv_sub hl [4, 5, 2, 1, 0] rfl)
