def R_Ar : String := "java/util/Arrays"
def R_In : String := "java/lang/Integer"
def yIn_bitCount : MethodName := ⟨R_In, "bitCount", "(I)I"⟩
theorem kIn_bitCount : sw_ys yIn_bitCount prog_11_method_49_code 1 (some .int) 1 := ⟨⟨tb_mem 700 (by decide +kernel) (by decide +kernel), tb_mem 16 (by decide +kernel) (by decide +kernel), by decide +kernel, by decide +kernel, by decide +kernel⟩, tb_mem 699 (by decide +kernel) (by decide +kernel)⟩
abbrev rmIn_bitCount : Room := { frames := 0, cells := 0, slots := 0, locals := 0 }
def yAr_fill : MethodName := ⟨R_Ar, "fill", "([II)V"⟩
theorem kAr_fill : sw_ys yAr_fill prog_17_method_103_code 4 (none) 2 := ⟨⟨tb_mem 785 (by decide +kernel) (by decide +kernel), tb_mem 17 (by decide +kernel) (by decide +kernel), by decide +kernel, by decide +kernel, by decide +kernel⟩, tb_mem 784 (by decide +kernel) (by decide +kernel)⟩
abbrev rmAr_fill : Room := { frames := 0, cells := 0, slots := 0, locals := 0 }
def yPl_hasClaim : MethodName := ⟨R_Pl, "hasClaim", "(I)Z"⟩
theorem kPl_hasClaim : sw_yv yPl_hasClaim prog_4_method_2_code 2 (some .boolean) 1 := ⟨⟨tb_mem 351 (by decide +kernel) (by decide +kernel), tb_mem 2 (by decide +kernel) (by decide +kernel), by decide +kernel, by decide +kernel, by decide +kernel⟩, tb_mem 349 (by decide +kernel) (by decide +kernel), tb_mem 350 (by decide +kernel) (by decide +kernel)⟩
abbrev rmPl_hasClaim : Room := { frames := 0, cells := 0, slots := 0, locals := 0 }
def yPl_isOn : MethodName := ⟨R_Pl, "isOn", "(I)Z"⟩
theorem kPl_isOn : sw_yv yPl_isOn prog_4_method_3_code 2 (some .boolean) 1 := ⟨⟨tb_mem 355 (by decide +kernel) (by decide +kernel), tb_mem 2 (by decide +kernel) (by decide +kernel), by decide +kernel, by decide +kernel, by decide +kernel⟩, tb_mem 353 (by decide +kernel) (by decide +kernel), tb_mem 354 (by decide +kernel) (by decide +kernel)⟩
abbrev rmPl_isOn : Room := { frames := 1, cells := 0, slots := 0, locals := 21 }
def yPl_hasLaw : MethodName := ⟨R_Pl, "hasLaw", "(I)Z"⟩
theorem kPl_hasLaw : sw_yv yPl_hasLaw prog_4_method_4_code 2 (some .boolean) 1 := ⟨⟨tb_mem 372 (by decide +kernel) (by decide +kernel), tb_mem 2 (by decide +kernel) (by decide +kernel), by decide +kernel, by decide +kernel, by decide +kernel⟩, tb_mem 370 (by decide +kernel) (by decide +kernel), tb_mem 371 (by decide +kernel) (by decide +kernel)⟩
abbrev rmPl_hasLaw : Room := { frames := 0, cells := 0, slots := 0, locals := 0 }
def yPl_textOf : MethodName := ⟨R_Pl, "textOf", "(I)LSeeSaws$Text;"⟩
theorem kPl_textOf : sw_yv yPl_textOf prog_4_method_5_code 2 (some (.object "SeeSaws$Text")) 1 := ⟨⟨tb_mem 368 (by decide +kernel) (by decide +kernel), tb_mem 2 (by decide +kernel) (by decide +kernel), by decide +kernel, by decide +kernel, by decide +kernel⟩, tb_mem 366 (by decide +kernel) (by decide +kernel), tb_mem 367 (by decide +kernel) (by decide +kernel)⟩
abbrev rmPl_textOf : Room := { frames := 1, cells := 0, slots := 0, locals := 21 }
def yPl_onBits : MethodName := ⟨R_Pl, "onBits", "()I"⟩
theorem kPl_onBits : sw_yv yPl_onBits prog_4_method_6_code 3 (some .int) 0 := ⟨⟨tb_mem 696 (by decide +kernel) (by decide +kernel), tb_mem 2 (by decide +kernel) (by decide +kernel), by decide +kernel, by decide +kernel, by decide +kernel⟩, tb_mem 694 (by decide +kernel) (by decide +kernel), tb_mem 695 (by decide +kernel) (by decide +kernel)⟩
abbrev rmPl_onBits : Room := { frames := 2, cells := 0, slots := 0, locals := 42 }
def yPl_heavyOfAll : MethodName := ⟨R_Pl, "heavyOfAll", "()I"⟩
theorem kPl_heavyOfAll : sw_yv yPl_heavyOfAll prog_4_method_7_code 3 (some .int) 0 := ⟨⟨tb_mem 979 (by decide +kernel) (by decide +kernel), tb_mem 2 (by decide +kernel) (by decide +kernel), by decide +kernel, by decide +kernel, by decide +kernel⟩, tb_mem 977 (by decide +kernel) (by decide +kernel), tb_mem 978 (by decide +kernel) (by decide +kernel)⟩
abbrev rmPl_heavyOfAll : Room := { frames := 1, cells := 0, slots := 0, locals := 21 }
def yPl_addClaim : MethodName := ⟨R_Pl, "addClaim", "(II)I"⟩
theorem kPl_addClaim : sw_yv yPl_addClaim prog_4_method_8_code 3 (some .int) 2 := ⟨⟨tb_mem 339 (by decide +kernel) (by decide +kernel), tb_mem 2 (by decide +kernel) (by decide +kernel), by decide +kernel, by decide +kernel, by decide +kernel⟩, tb_mem 337 (by decide +kernel) (by decide +kernel), tb_mem 338 (by decide +kernel) (by decide +kernel)⟩
abbrev rmPl_addClaim : Room := { frames := 0, cells := 0, slots := 0, locals := 0 }
def yPl_addLaw : MethodName := ⟨R_Pl, "addLaw", "(LSeeSaws$Text;)I"⟩
theorem kPl_addLaw : sw_yv yPl_addLaw prog_4_method_9_code 2 (some .int) 1 := ⟨⟨tb_mem 669 (by decide +kernel) (by decide +kernel), tb_mem 2 (by decide +kernel) (by decide +kernel), by decide +kernel, by decide +kernel, by decide +kernel⟩, tb_mem 667 (by decide +kernel) (by decide +kernel), tb_mem 668 (by decide +kernel) (by decide +kernel)⟩
abbrev rmPl_addLaw : Room := { frames := 0, cells := 0, slots := 0, locals := 0 }
def yPl_addWeighing : MethodName := ⟨R_Pl, "addWeighing", "(III)I"⟩
theorem kPl_addWeighing : sw_yv yPl_addWeighing prog_4_method_10_code 4 (some .int) 3 := ⟨⟨tb_mem 908 (by decide +kernel) (by decide +kernel), tb_mem 2 (by decide +kernel) (by decide +kernel), by decide +kernel, by decide +kernel, by decide +kernel⟩, tb_mem 906 (by decide +kernel) (by decide +kernel), tb_mem 907 (by decide +kernel) (by decide +kernel)⟩
abbrev rmPl_addWeighing : Room := { frames := 0, cells := 0, slots := 0, locals := 0 }
def yPl_become : MethodName := ⟨R_Pl, "become", "(LSeeSaws$Plank;)V"⟩
theorem kPl_become : sw_yv yPl_become prog_4_method_11_code 3 (none) 1 := ⟨⟨tb_mem 678 (by decide +kernel) (by decide +kernel), tb_mem 2 (by decide +kernel) (by decide +kernel), by decide +kernel, by decide +kernel, by decide +kernel⟩, tb_mem 676 (by decide +kernel) (by decide +kernel), tb_mem 677 (by decide +kernel) (by decide +kernel)⟩
abbrev rmPl_become : Room := { frames := 1, cells := 0, slots := 0, locals := 60 }
def yHi_clear : MethodName := ⟨R_Hi, "clear", "()V"⟩
theorem kHi_clear : sw_yv yHi_clear prog_2_method_2_code 1 (none) 0 := ⟨⟨tb_mem 335 (by decide +kernel) (by decide +kernel), tb_mem 3 (by decide +kernel) (by decide +kernel), by decide +kernel, by decide +kernel, by decide +kernel⟩, tb_mem 333 (by decide +kernel) (by decide +kernel), tb_mem 334 (by decide +kernel) (by decide +kernel)⟩
abbrev rmHi_clear : Room := { frames := 0, cells := 0, slots := 0, locals := 0 }
def yHi_keep : MethodName := ⟨R_Hi, "keep", "(ILSeeSaws$Plank;)V"⟩
theorem kHi_keep : sw_yv yHi_keep prog_2_method_3_code 4 (none) 2 := ⟨⟨tb_mem 716 (by decide +kernel) (by decide +kernel), tb_mem 3 (by decide +kernel) (by decide +kernel), by decide +kernel, by decide +kernel, by decide +kernel⟩, tb_mem 714 (by decide +kernel) (by decide +kernel), tb_mem 715 (by decide +kernel) (by decide +kernel)⟩
abbrev rmHi_keep : Room := { frames := 1, cells := 0, slots := 0, locals := 60 }
def yHi_giveBack : MethodName := ⟨R_Hi, "giveBack", "(LSeeSaws$Plank;)I"⟩
theorem kHi_giveBack : sw_yv yHi_giveBack prog_2_method_4_code 3 (some .int) 1 := ⟨⟨tb_mem 770 (by decide +kernel) (by decide +kernel), tb_mem 3 (by decide +kernel) (by decide +kernel), by decide +kernel, by decide +kernel, by decide +kernel⟩, tb_mem 768 (by decide +kernel) (by decide +kernel), tb_mem 769 (by decide +kernel) (by decide +kernel)⟩
abbrev rmHi_giveBack : Room := { frames := 1, cells := 0, slots := 0, locals := 60 }
def yHi_become : MethodName := ⟨R_Hi, "become", "(LSeeSaws$History;)V"⟩
theorem kHi_become : sw_yv yHi_become prog_2_method_5_code 2 (none) 1 := ⟨⟨tb_mem 683 (by decide +kernel) (by decide +kernel), tb_mem 3 (by decide +kernel) (by decide +kernel), by decide +kernel, by decide +kernel, by decide +kernel⟩, tb_mem 681 (by decide +kernel) (by decide +kernel), tb_mem 682 (by decide +kernel) (by decide +kernel)⟩
abbrev rmHi_become : Room := { frames := 1, cells := 0, slots := 0, locals := 60 }
def yRk_combine : MethodName := ⟨R_Rk, "combine", "(IJJ)J"⟩
theorem kRk_combine : sw_ys yRk_combine prog_6_method_3_code 5 (some .long) 3 := ⟨⟨tb_mem 390 (by decide +kernel) (by decide +kernel), tb_mem 8 (by decide +kernel) (by decide +kernel), by decide +kernel, by decide +kernel, by decide +kernel⟩, tb_mem 389 (by decide +kernel) (by decide +kernel)⟩
abbrev rmRk_combine : Room := { frames := 0, cells := 0, slots := 0, locals := 0 }
def yJu_ask : MethodName := ⟨R_Ju, "ask", "(LSeeSaws$Plank;II)V"⟩
theorem kJu_ask : sw_yv yJu_ask prog_3_method_7_code 4 (none) 3 := ⟨⟨tb_mem 364 (by decide +kernel) (by decide +kernel), tb_mem 7 (by decide +kernel) (by decide +kernel), by decide +kernel, by decide +kernel, by decide +kernel⟩, tb_mem 363 (by decide +kernel) (by decide +kernel), ts_mem 2 (by decide +kernel) (by decide +kernel)⟩
abbrev rmJu_ask : Room := { frames := 0, cells := 0, slots := 0, locals := 0 }
def yRe_append : MethodName := ⟨R_Re, "append", "(I)V"⟩
theorem kRe_append : sw_yv yRe_append prog_5_method_2_code 3 (none) 1 := ⟨⟨tb_mem 452 (by decide +kernel) (by decide +kernel), tb_mem 4 (by decide +kernel) (by decide +kernel), by decide +kernel, by decide +kernel, by decide +kernel⟩, tb_mem 450 (by decide +kernel) (by decide +kernel), tb_mem 451 (by decide +kernel) (by decide +kernel)⟩
abbrev rmRe_append : Room := { frames := 0, cells := 0, slots := 0, locals := 0 }
def yRe_fail : MethodName := ⟨R_Re, "fail", "()V"⟩
theorem kRe_fail : sw_yv yRe_fail prog_5_method_4_code 1 (none) 0 := ⟨⟨tb_mem 565 (by decide +kernel) (by decide +kernel), tb_mem 4 (by decide +kernel) (by decide +kernel), by decide +kernel, by decide +kernel, by decide +kernel⟩, tb_mem 564 (by decide +kernel) (by decide +kernel), ts_mem 18 (by decide +kernel) (by decide +kernel)⟩
abbrev rmRe_fail : Room := { frames := 0, cells := 0, slots := 0, locals := 0 }
def yRe_sortOf : MethodName := ⟨R_Re, "sortOf", "(I)I"⟩
theorem kRe_sortOf : sw_ys yRe_sortOf prog_5_method_6_code 1 (some .int) 1 := ⟨⟨tb_mem 479 (by decide +kernel) (by decide +kernel), tb_mem 4 (by decide +kernel) (by decide +kernel), by decide +kernel, by decide +kernel, by decide +kernel⟩, tb_mem 478 (by decide +kernel) (by decide +kernel)⟩
abbrev rmRe_sortOf : Room := { frames := 0, cells := 0, slots := 0, locals := 0 }
def yRe_isToken : MethodName := ⟨R_Re, "isToken", "(Ljava/lang/String;)Z"⟩
theorem kRe_isToken : sw_yv yRe_isToken prog_5_method_7_code 3 (some .boolean) 1 := ⟨⟨tb_mem 492 (by decide +kernel) (by decide +kernel), tb_mem 4 (by decide +kernel) (by decide +kernel), by decide +kernel, by decide +kernel, by decide +kernel⟩, tb_mem 491 (by decide +kernel) (by decide +kernel), ts_mem 12 (by decide +kernel) (by decide +kernel)⟩
abbrev rmRe_isToken : Room := { frames := 4, cells := 0, slots := 0, locals := 120 }
def yRe_numberFrom : MethodName := ⟨R_Re, "numberFrom", "(II)I"⟩
theorem kRe_numberFrom : sw_yv yRe_numberFrom prog_5_method_10_code 5 (some .int) 2 := ⟨⟨tb_mem 574 (by decide +kernel) (by decide +kernel), tb_mem 4 (by decide +kernel) (by decide +kernel), by decide +kernel, by decide +kernel, by decide +kernel⟩, tb_mem 573 (by decide +kernel) (by decide +kernel), ts_mem 20 (by decide +kernel) (by decide +kernel)⟩
abbrev rmRe_numberFrom : Room := { frames := 1, cells := 0, slots := 0, locals := 21 }
def yRe_emit : MethodName := ⟨R_Re, "emit", "(II)V"⟩
theorem kRe_emit : sw_yv yRe_emit prog_5_method_12_code 3 (none) 2 := ⟨⟨tb_mem 600 (by decide +kernel) (by decide +kernel), tb_mem 4 (by decide +kernel) (by decide +kernel), by decide +kernel, by decide +kernel, by decide +kernel⟩, tb_mem 599 (by decide +kernel) (by decide +kernel), ts_mem 23 (by decide +kernel) (by decide +kernel)⟩
abbrev rmRe_emit : Room := { frames := 1, cells := 0, slots := 0, locals := 20 }
def yRe_leadHere : MethodName := ⟨R_Re, "leadHere", "(II)V"⟩
theorem kRe_leadHere : sw_yv yRe_leadHere prog_5_method_13_code 3 (none) 2 := ⟨⟨tb_mem 654 (by decide +kernel) (by decide +kernel), tb_mem 4 (by decide +kernel) (by decide +kernel), by decide +kernel, by decide +kernel, by decide +kernel⟩, tb_mem 653 (by decide +kernel) (by decide +kernel), ts_mem 31 (by decide +kernel) (by decide +kernel)⟩
abbrev rmRe_leadHere : Room := { frames := 0, cells := 0, slots := 0, locals := 0 }
def yRe_lawWord : MethodName := ⟨R_Re, "lawWord", "()I"⟩
theorem kRe_lawWord : sw_yv yRe_lawWord prog_5_method_26_code 1 (some .int) 0 := ⟨⟨tb_mem 579 (by decide +kernel) (by decide +kernel), tb_mem 4 (by decide +kernel) (by decide +kernel), by decide +kernel, by decide +kernel, by decide +kernel⟩, tb_mem 578 (by decide +kernel) (by decide +kernel), ts_mem 21 (by decide +kernel) (by decide +kernel)⟩
abbrev rmRe_lawWord : Room := { frames := 5, cells := 0, slots := 0, locals := 142 }
def yRe_orderWord : MethodName := ⟨R_Re, "orderWord", "()I"⟩
theorem kRe_orderWord : sw_yv yRe_orderWord prog_5_method_27_code 1 (some .int) 0 := ⟨⟨tb_mem 591 (by decide +kernel) (by decide +kernel), tb_mem 4 (by decide +kernel) (by decide +kernel), by decide +kernel, by decide +kernel, by decide +kernel⟩, tb_mem 590 (by decide +kernel) (by decide +kernel), ts_mem 22 (by decide +kernel) (by decide +kernel)⟩
abbrev rmRe_orderWord : Room := { frames := 5, cells := 0, slots := 0, locals := 142 }
def yRo_clear : MethodName := ⟨R_Ro, "clear", "()V"⟩
theorem kRo_clear : sw_yv yRo_clear prog_7_method_2_code 1 (none) 0 := ⟨⟨tb_mem 782 (by decide +kernel) (by decide +kernel), tb_mem 9 (by decide +kernel) (by decide +kernel), by decide +kernel, by decide +kernel, by decide +kernel⟩, tb_mem 780 (by decide +kernel) (by decide +kernel), tb_mem 781 (by decide +kernel) (by decide +kernel)⟩
abbrev rmRo_clear : Room := { frames := 1, cells := 0, slots := 0, locals := 23 }
def yRo_offer : MethodName := ⟨R_Ro, "offer", "(IIII)V"⟩
theorem kRo_offer : sw_yv yRo_offer prog_7_method_3_code 6 (none) 4 := ⟨⟨tb_mem 789 (by decide +kernel) (by decide +kernel), tb_mem 9 (by decide +kernel) (by decide +kernel), by decide +kernel, by decide +kernel, by decide +kernel⟩, tb_mem 787 (by decide +kernel) (by decide +kernel), tb_mem 788 (by decide +kernel) (by decide +kernel)⟩
abbrev rmRo_offer : Room := { frames := 0, cells := 0, slots := 0, locals := 0 }
def yRo_tallyFrom : MethodName := ⟨R_Ro, "tallyFrom", "(III)V"⟩
theorem kRo_tallyFrom : sw_yv yRo_tallyFrom prog_7_method_5_code 5 (none) 3 := ⟨⟨tb_mem 797 (by decide +kernel) (by decide +kernel), tb_mem 9 (by decide +kernel) (by decide +kernel), by decide +kernel, by decide +kernel, by decide +kernel⟩, tb_mem 796 (by decide +kernel) (by decide +kernel), ts_mem 40 (by decide +kernel) (by decide +kernel)⟩
abbrev rgRo_tallyFrom (rr : Room) : Room := { frames := rr.frames + 1, cells := 0, slots := 0, locals := rr.locals + 24 }
def yRo_manyTails : MethodName := ⟨R_Ro, "manyTails", "(II)I"⟩
theorem kRo_manyTails : sw_yv yRo_manyTails prog_7_method_8_code 6 (some .int) 2 := ⟨⟨tb_mem 809 (by decide +kernel) (by decide +kernel), tb_mem 9 (by decide +kernel) (by decide +kernel), by decide +kernel, by decide +kernel, by decide +kernel⟩, tb_mem 808 (by decide +kernel) (by decide +kernel), ts_mem 42 (by decide +kernel) (by decide +kernel)⟩
abbrev rmRo_manyTails : Room := { frames := 1, cells := 0, slots := 0, locals := 21 }
def yRo_findsFrom : MethodName := ⟨R_Ro, "findsFrom", "(III)Z"⟩
theorem kRo_findsFrom : sw_yv yRo_findsFrom prog_7_method_10_code 5 (some .boolean) 3 := ⟨⟨tb_mem 819 (by decide +kernel) (by decide +kernel), tb_mem 9 (by decide +kernel) (by decide +kernel), by decide +kernel, by decide +kernel, by decide +kernel⟩, tb_mem 818 (by decide +kernel) (by decide +kernel), ts_mem 43 (by decide +kernel) (by decide +kernel)⟩
abbrev rgRo_findsFrom (rr : Room) : Room := { frames := rr.frames + 2, cells := 0, slots := 0, locals := rr.locals + 46 }
def ySx_feed : MethodName := ⟨R_Sx, "feed", "(IIIII)I"⟩
theorem kSx_feed : sw_yv ySx_feed prog_1_method_7_code 6 (some .int) 5 := ⟨⟨tb_mem 448 (by decide +kernel) (by decide +kernel), tb_mem 1 (by decide +kernel) (by decide +kernel), by decide +kernel, by decide +kernel, by decide +kernel⟩, tb_mem 446 (by decide +kernel) (by decide +kernel), tb_mem 447 (by decide +kernel) (by decide +kernel)⟩
abbrev rmSx_feed : Room := { frames := 1, cells := 0, slots := 0, locals := 22 }
def ySx_end : MethodName := ⟨R_Sx, "end", "(I)I"⟩
theorem kSx_end : sw_yv ySx_end prog_1_method_8_code 2 (some .int) 1 := ⟨⟨tb_mem 456 (by decide +kernel) (by decide +kernel), tb_mem 1 (by decide +kernel) (by decide +kernel), by decide +kernel, by decide +kernel, by decide +kernel⟩, tb_mem 454 (by decide +kernel) (by decide +kernel), tb_mem 455 (by decide +kernel) (by decide +kernel)⟩
abbrev rmSx_end : Room := { frames := 0, cells := 0, slots := 0, locals := 0 }
def ySx_sawdust : MethodName := ⟨R_Sx, "sawdust", "()I"⟩
theorem kSx_sawdust : sw_yv ySx_sawdust prog_1_method_10_code 1 (some .int) 0 := ⟨⟨tb_mem 464 (by decide +kernel) (by decide +kernel), tb_mem 1 (by decide +kernel) (by decide +kernel), by decide +kernel, by decide +kernel, by decide +kernel⟩, tb_mem 462 (by decide +kernel) (by decide +kernel), tb_mem 463 (by decide +kernel) (by decide +kernel)⟩
abbrev rmSx_sawdust : Room := { frames := 0, cells := 0, slots := 0, locals := 0 }
def ySx_fault : MethodName := ⟨R_Sx, "fault", "()I"⟩
theorem kSx_fault : sw_yv ySx_fault prog_1_method_13_code 1 (some .int) 0 := ⟨⟨tb_mem 737 (by decide +kernel) (by decide +kernel), tb_mem 1 (by decide +kernel) (by decide +kernel), by decide +kernel, by decide +kernel, by decide +kernel⟩, tb_mem 735 (by decide +kernel) (by decide +kernel), tb_mem 736 (by decide +kernel) (by decide +kernel)⟩
abbrev rmSx_fault : Room := { frames := 0, cells := 0, slots := 0, locals := 0 }
def ySx_stopped : MethodName := ⟨R_Sx, "stopped", "()I"⟩
theorem kSx_stopped : sw_yv ySx_stopped prog_1_method_14_code 1 (some .int) 0 := ⟨⟨tb_mem 741 (by decide +kernel) (by decide +kernel), tb_mem 1 (by decide +kernel) (by decide +kernel), by decide +kernel, by decide +kernel, by decide +kernel⟩, tb_mem 739 (by decide +kernel) (by decide +kernel), tb_mem 740 (by decide +kernel) (by decide +kernel)⟩
abbrev rmSx_stopped : Room := { frames := 0, cells := 0, slots := 0, locals := 0 }
def ySx_forget : MethodName := ⟨R_Sx, "forget", "()I"⟩
theorem kSx_forget : sw_yv ySx_forget prog_1_method_30_code 2 (some .int) 0 := ⟨⟨tb_mem 912 (by decide +kernel) (by decide +kernel), tb_mem 1 (by decide +kernel) (by decide +kernel), by decide +kernel, by decide +kernel, by decide +kernel⟩, tb_mem 910 (by decide +kernel) (by decide +kernel), tb_mem 911 (by decide +kernel) (by decide +kernel)⟩
abbrev rmSx_forget : Room := { frames := 0, cells := 0, slots := 0, locals := 0 }
def ySx_drawn : MethodName := ⟨R_Sx, "drawn", "(II)I"⟩
theorem kSx_drawn : sw_yv ySx_drawn prog_1_method_36_code 3 (some .int) 2 := ⟨⟨tb_mem 963 (by decide +kernel) (by decide +kernel), tb_mem 1 (by decide +kernel) (by decide +kernel), by decide +kernel, by decide +kernel, by decide +kernel⟩, tb_mem 961 (by decide +kernel) (by decide +kernel), tb_mem 962 (by decide +kernel) (by decide +kernel)⟩
abbrev rmSx_drawn : Room := { frames := 1, cells := 0, slots := 0, locals := 21 }
def ySx_count : MethodName := ⟨R_Sx, "count", "(I)I"⟩
theorem kSx_count : sw_yv ySx_count prog_1_method_39_code 2 (some .int) 1 := ⟨⟨tb_mem 975 (by decide +kernel) (by decide +kernel), tb_mem 1 (by decide +kernel) (by decide +kernel), by decide +kernel, by decide +kernel, by decide +kernel⟩, tb_mem 973 (by decide +kernel) (by decide +kernel), tb_mem 974 (by decide +kernel) (by decide +kernel)⟩
abbrev rmSx_count : Room := { frames := 3, cells := 0, slots := 0, locals := 64 }
def ySx_status : MethodName := ⟨R_Sx, "status", "()I"⟩
theorem kSx_status : sw_yv ySx_status prog_1_method_40_code 1 (some .int) 0 := ⟨⟨tb_mem 983 (by decide +kernel) (by decide +kernel), tb_mem 1 (by decide +kernel) (by decide +kernel), by decide +kernel, by decide +kernel, by decide +kernel⟩, tb_mem 981 (by decide +kernel) (by decide +kernel), tb_mem 982 (by decide +kernel) (by decide +kernel)⟩
abbrev rmSx_status : Room := { frames := 0, cells := 0, slots := 0, locals := 0 }
def ySx_told : MethodName := ⟨R_Sx, "told", "(I)I"⟩
theorem kSx_told : sw_yv ySx_told prog_1_method_41_code 2 (some .int) 1 := ⟨⟨tb_mem 343 (by decide +kernel) (by decide +kernel), tb_mem 1 (by decide +kernel) (by decide +kernel), by decide +kernel, by decide +kernel, by decide +kernel⟩, tb_mem 342 (by decide +kernel) (by decide +kernel), ts_mem 1 (by decide +kernel) (by decide +kernel)⟩
abbrev rmSx_told : Room := { frames := 0, cells := 0, slots := 0, locals := 0 }
def ySx_refuse : MethodName := ⟨R_Sx, "refuse", "(I)I"⟩
theorem kSx_refuse : sw_yv ySx_refuse prog_1_method_42_code 3 (some .int) 1 := ⟨⟨tb_mem 331 (by decide +kernel) (by decide +kernel), tb_mem 1 (by decide +kernel) (by decide +kernel), by decide +kernel, by decide +kernel, by decide +kernel⟩, tb_mem 330 (by decide +kernel) (by decide +kernel), ts_mem 0 (by decide +kernel) (by decide +kernel)⟩
abbrev rmSx_refuse : Room := { frames := 0, cells := 0, slots := 0, locals := 0 }
def ySx_canBeHeavy : MethodName := ⟨R_Sx, "canBeHeavy", "(I)Z"⟩
theorem kSx_canBeHeavy : sw_ys ySx_canBeHeavy prog_1_method_44_code 1 (some .boolean) 1 := ⟨⟨tb_mem 327 (by decide +kernel) (by decide +kernel), tb_mem 1 (by decide +kernel) (by decide +kernel), by decide +kernel, by decide +kernel, by decide +kernel⟩, tb_mem 326 (by decide +kernel) (by decide +kernel)⟩
abbrev rmSx_canBeHeavy : Room := { frames := 0, cells := 0, slots := 0, locals := 0 }
def ySx_isPlace : MethodName := ⟨R_Sx, "isPlace", "(I)Z"⟩
theorem kSx_isPlace : sw_ys ySx_isPlace prog_1_method_45_code 1 (some .boolean) 1 := ⟨⟨tb_mem 405 (by decide +kernel) (by decide +kernel), tb_mem 1 (by decide +kernel) (by decide +kernel), by decide +kernel, by decide +kernel, by decide +kernel⟩, tb_mem 404 (by decide +kernel) (by decide +kernel)⟩
abbrev rmSx_isPlace : Room := { frames := 0, cells := 0, slots := 0, locals := 0 }
def ySx_areBits : MethodName := ⟨R_Sx, "areBits", "(I)Z"⟩
theorem kSx_areBits : sw_ys ySx_areBits prog_1_method_46_code 1 (some .boolean) 1 := ⟨⟨tb_mem 904 (by decide +kernel) (by decide +kernel), tb_mem 1 (by decide +kernel) (by decide +kernel), by decide +kernel, by decide +kernel, by decide +kernel⟩, tb_mem 903 (by decide +kernel) (by decide +kernel)⟩
abbrev rmSx_areBits : Room := { frames := 0, cells := 0, slots := 0, locals := 0 }
def ySx_takes : MethodName := ⟨R_Sx, "takes", "(I)I"⟩
theorem kSx_takes : sw_yv ySx_takes prog_1_method_48_code 2 (some .int) 1 := ⟨⟨tb_mem 721 (by decide +kernel) (by decide +kernel), tb_mem 1 (by decide +kernel) (by decide +kernel), by decide +kernel, by decide +kernel, by decide +kernel⟩, tb_mem 720 (by decide +kernel) (by decide +kernel), ts_mem 36 (by decide +kernel) (by decide +kernel)⟩
abbrev rmSx_takes : Room := { frames := 2, cells := 0, slots := 0, locals := 83 }
def ySx_pads : MethodName := ⟨R_Sx, "pads", "(II)I"⟩
theorem kSx_pads : sw_yv ySx_pads prog_1_method_49_code 4 (some .int) 2 := ⟨⟨tb_mem 725 (by decide +kernel) (by decide +kernel), tb_mem 1 (by decide +kernel) (by decide +kernel), by decide +kernel, by decide +kernel, by decide +kernel⟩, tb_mem 724 (by decide +kernel) (by decide +kernel), ts_mem 37 (by decide +kernel) (by decide +kernel)⟩
abbrev rmSx_pads : Room := { frames := 2, cells := 0, slots := 0, locals := 83 }
def ySx_isLevel : MethodName := ⟨R_Sx, "isLevel", "(I)Z"⟩
theorem kSx_isLevel : sw_yv ySx_isLevel prog_1_method_55_code 2 (some .boolean) 1 := ⟨⟨tb_mem 438 (by decide +kernel) (by decide +kernel), tb_mem 1 (by decide +kernel) (by decide +kernel), by decide +kernel, by decide +kernel, by decide +kernel⟩, tb_mem 437 (by decide +kernel) (by decide +kernel), ts_mem 8 (by decide +kernel) (by decide +kernel)⟩
abbrev rmSx_isLevel : Room := { frames := 1, cells := 0, slots := 0, locals := 21 }
def ySx_sumWith : MethodName := ⟨R_Sx, "sumWith", "(II)V"⟩
theorem kSx_sumWith : sw_yv ySx_sumWith prog_1_method_64_code 5 (none) 2 := ⟨⟨tb_mem 865 (by decide +kernel) (by decide +kernel), tb_mem 1 (by decide +kernel) (by decide +kernel), by decide +kernel, by decide +kernel, by decide +kernel⟩, tb_mem 864 (by decide +kernel) (by decide +kernel), ts_mem 48 (by decide +kernel) (by decide +kernel)⟩
abbrev rmSx_sumWith : Room := { frames := 0, cells := 0, slots := 0, locals := 0 }
def ySx_canTake : MethodName := ⟨R_Sx, "canTake", "(II)Z"⟩
theorem kSx_canTake : sw_yv ySx_canTake prog_1_method_65_code 4 (some .boolean) 2 := ⟨⟨tb_mem 881 (by decide +kernel) (by decide +kernel), tb_mem 1 (by decide +kernel) (by decide +kernel), by decide +kernel, by decide +kernel, by decide +kernel⟩, tb_mem 880 (by decide +kernel) (by decide +kernel), ts_mem 51 (by decide +kernel) (by decide +kernel)⟩
abbrev rmSx_canTake : Room := { frames := 2, cells := 0, slots := 0, locals := 42 }
def ySx_findOrders : MethodName := ⟨R_Sx, "findOrders", "(I)V"⟩
theorem kSx_findOrders : sw_yv ySx_findOrders prog_1_method_66_code 5 (none) 1 := ⟨⟨tb_mem 877 (by decide +kernel) (by decide +kernel), tb_mem 1 (by decide +kernel) (by decide +kernel), by decide +kernel, by decide +kernel, by decide +kernel⟩, tb_mem 876 (by decide +kernel) (by decide +kernel), ts_mem 50 (by decide +kernel) (by decide +kernel)⟩
abbrev rmSx_findOrders : Room := { frames := 3, cells := 0, slots := 0, locals := 65 }
def ySx_firstWithOrders : MethodName := ⟨R_Sx, "firstWithOrders", "(I)I"⟩
theorem kSx_firstWithOrders : sw_yv ySx_firstWithOrders prog_1_method_67_code 3 (some .int) 1 := ⟨⟨tb_mem 885 (by decide +kernel) (by decide +kernel), tb_mem 1 (by decide +kernel) (by decide +kernel), by decide +kernel, by decide +kernel, by decide +kernel⟩, tb_mem 884 (by decide +kernel) (by decide +kernel), ts_mem 52 (by decide +kernel) (by decide +kernel)⟩
abbrev rmSx_firstWithOrders : Room := { frames := 3, cells := 0, slots := 0, locals := 65 }
def ySx_winningClaim : MethodName := ⟨R_Sx, "winningClaim", "(I)I"⟩
theorem kSx_winningClaim : sw_yv ySx_winningClaim prog_1_method_69_code 3 (some .int) 1 := ⟨⟨tb_mem 897 (by decide +kernel) (by decide +kernel), tb_mem 1 (by decide +kernel) (by decide +kernel), by decide +kernel, by decide +kernel, by decide +kernel⟩, tb_mem 896 (by decide +kernel) (by decide +kernel), ts_mem 54 (by decide +kernel) (by decide +kernel)⟩
abbrev rmSx_winningClaim : Room := { frames := 3, cells := 0, slots := 0, locals := 65 }
def ySx_fits : MethodName := ⟨R_Sx, "fits", "(II)Z"⟩
theorem kSx_fits : sw_yv ySx_fits prog_1_method_70_code 6 (some .boolean) 2 := ⟨⟨tb_mem 920 (by decide +kernel) (by decide +kernel), tb_mem 1 (by decide +kernel) (by decide +kernel), by decide +kernel, by decide +kernel, by decide +kernel⟩, tb_mem 919 (by decide +kernel) (by decide +kernel), ts_mem 55 (by decide +kernel) (by decide +kernel)⟩
abbrev rmSx_fits : Room := { frames := 0, cells := 0, slots := 0, locals := 0 }
def ySx_mostAlike : MethodName := ⟨R_Sx, "mostAlike", "(IIII)I"⟩
theorem kSx_mostAlike : sw_ys ySx_mostAlike prog_1_method_72_code 4 (some .int) 4 := ⟨⟨tb_mem 933 (by decide +kernel) (by decide +kernel), tb_mem 1 (by decide +kernel) (by decide +kernel), by decide +kernel, by decide +kernel, by decide +kernel⟩, tb_mem 932 (by decide +kernel) (by decide +kernel)⟩
abbrev rmSx_mostAlike : Room := { frames := 1, cells := 0, slots := 0, locals := 21 }
def ySx_nextSeed : MethodName := ⟨R_Sx, "nextSeed", "(I)I"⟩
theorem kSx_nextSeed : sw_ys ySx_nextSeed prog_1_method_73_code 1 (some .int) 1 := ⟨⟨tb_mem 954 (by decide +kernel) (by decide +kernel), tb_mem 1 (by decide +kernel) (by decide +kernel), by decide +kernel, by decide +kernel, by decide +kernel⟩, tb_mem 953 (by decide +kernel) (by decide +kernel)⟩
abbrev rmSx_nextSeed : Room := { frames := 0, cells := 0, slots := 0, locals := 0 }
def yRk_works : MethodName := ⟨R_Rk, "works", "(LSeeSaws$Text;I[I)Z"⟩
theorem kRk_works : sw_yv yRk_works prog_6_method_2_code 11 (some .boolean) 3 := ⟨⟨tb_mem 387 (by decide +kernel) (by decide +kernel), tb_mem 8 (by decide +kernel) (by decide +kernel), by decide +kernel, by decide +kernel, by decide +kernel⟩, tb_mem 385 (by decide +kernel) (by decide +kernel), tb_mem 386 (by decide +kernel) (by decide +kernel)⟩
abbrev rmRk_works : Room := { frames := 1, cells := 0, slots := 0, locals := 24 }
def yJu_holds : MethodName := ⟨R_Ju, "holds", "(LSeeSaws$Text;I)Z"⟩
theorem kJu_holds : sw_yv yJu_holds prog_3_method_9_code 4 (some .boolean) 2 := ⟨⟨tb_mem 383 (by decide +kernel) (by decide +kernel), tb_mem 7 (by decide +kernel) (by decide +kernel), by decide +kernel, by decide +kernel, by decide +kernel⟩, tb_mem 382 (by decide +kernel) (by decide +kernel), ts_mem 4 (by decide +kernel) (by decide +kernel)⟩
abbrev rmJu_holds : Room := { frames := 2, cells := 0, slots := 0, locals := 54 }
def yRe_advance : MethodName := ⟨R_Re, "advance", "()V"⟩
theorem kRe_advance : sw_yv yRe_advance prog_5_method_5_code 3 (none) 0 := ⟨⟨tb_mem 476 (by decide +kernel) (by decide +kernel), tb_mem 4 (by decide +kernel) (by decide +kernel), by decide +kernel, by decide +kernel, by decide +kernel⟩, tb_mem 475 (by decide +kernel) (by decide +kernel), ts_mem 9 (by decide +kernel) (by decide +kernel)⟩
abbrev rmRe_advance : Room := { frames := 1, cells := 0, slots := 0, locals := 20 }
def yRe_accepts : MethodName := ⟨R_Re, "accepts", "(Ljava/lang/String;)Z"⟩
theorem kRe_accepts : sw_yv yRe_accepts prog_5_method_8_code 2 (some .boolean) 1 := ⟨⟨tb_mem 488 (by decide +kernel) (by decide +kernel), tb_mem 4 (by decide +kernel) (by decide +kernel), by decide +kernel, by decide +kernel, by decide +kernel⟩, tb_mem 487 (by decide +kernel) (by decide +kernel), ts_mem 11 (by decide +kernel) (by decide +kernel)⟩
abbrev rmRe_accepts : Room := { frames := 5, cells := 0, slots := 0, locals := 142 }
def yRe_expect : MethodName := ⟨R_Re, "expect", "(Ljava/lang/String;)V"⟩
theorem kRe_expect : sw_yv yRe_expect prog_5_method_9_code 2 (none) 1 := ⟨⟨tb_mem 616 (by decide +kernel) (by decide +kernel), tb_mem 4 (by decide +kernel) (by decide +kernel), by decide +kernel, by decide +kernel, by decide +kernel⟩, tb_mem 615 (by decide +kernel) (by decide +kernel), ts_mem 25 (by decide +kernel) (by decide +kernel)⟩
abbrev rmRe_expect : Room := { frames := 6, cells := 0, slots := 0, locals := 163 }
def yRe_expectNumber : MethodName := ⟨R_Re, "expectNumber", "(II)I"⟩
theorem kRe_expectNumber : sw_yv yRe_expectNumber prog_5_method_11_code 4 (some .int) 2 := ⟨⟨tb_mem 604 (by decide +kernel) (by decide +kernel), tb_mem 4 (by decide +kernel) (by decide +kernel), by decide +kernel, by decide +kernel, by decide +kernel⟩, tb_mem 603 (by decide +kernel) (by decide +kernel), ts_mem 24 (by decide +kernel) (by decide +kernel)⟩
abbrev rmRe_expectNumber : Room := { frames := 2, cells := 0, slots := 0, locals := 45 }
def yRe_opens : MethodName := ⟨R_Re, "opens", "()Z"⟩
theorem kRe_opens : sw_yv yRe_opens prog_5_method_24_code 1 (some .boolean) 0 := ⟨⟨tb_mem 561 (by decide +kernel) (by decide +kernel), tb_mem 4 (by decide +kernel) (by decide +kernel), by decide +kernel, by decide +kernel, by decide +kernel⟩, tb_mem 560 (by decide +kernel) (by decide +kernel), ts_mem 17 (by decide +kernel) (by decide +kernel)⟩
abbrev rmRe_opens : Room := { frames := 2, cells := 0, slots := 0, locals := 42 }
def yRe_closes : MethodName := ⟨R_Re, "closes", "(Ljava/lang/String;)V"⟩
theorem kRe_closes : sw_yv yRe_closes prog_5_method_25_code 2 (none) 1 := ⟨⟨tb_mem 570 (by decide +kernel) (by decide +kernel), tb_mem 4 (by decide +kernel) (by decide +kernel), by decide +kernel, by decide +kernel, by decide +kernel⟩, tb_mem 569 (by decide +kernel) (by decide +kernel), ts_mem 19 (by decide +kernel) (by decide +kernel)⟩
abbrev rmRe_closes : Room := { frames := 5, cells := 0, slots := 0, locals := 142 }
def yRo_tallyTails : MethodName := ⟨R_Ro, "tallyTails", "()V"⟩
theorem kRo_tallyTails : sw_yv yRo_tallyTails prog_7_method_4_code 3 (none) 0 := ⟨⟨tb_mem 793 (by decide +kernel) (by decide +kernel), tb_mem 9 (by decide +kernel) (by decide +kernel), by decide +kernel, by decide +kernel, by decide +kernel⟩, tb_mem 791 (by decide +kernel) (by decide +kernel), tb_mem 792 (by decide +kernel) (by decide +kernel)⟩
abbrev rmRo_tallyTails : Room := { frames := 11, cells := 0, slots := 0, locals := 264 }
def yRo_manyFrom : MethodName := ⟨R_Ro, "manyFrom", "(III)I"⟩
theorem kRo_manyFrom : sw_yv yRo_manyFrom prog_7_method_7_code 6 (some .int) 3 := ⟨⟨tb_mem 805 (by decide +kernel) (by decide +kernel), tb_mem 9 (by decide +kernel) (by decide +kernel), by decide +kernel, by decide +kernel, by decide +kernel⟩, tb_mem 804 (by decide +kernel) (by decide +kernel), ts_mem 41 (by decide +kernel) (by decide +kernel)⟩
abbrev rgRo_manyFrom (rr : Room) : Room := { frames := rr.frames + 2, cells := 0, slots := 0, locals := rr.locals + 46 }
def yRo_finds : MethodName := ⟨R_Ro, "finds", "(II)Z"⟩
theorem kRo_finds : sw_yv yRo_finds prog_7_method_9_code 3 (some .boolean) 2 := ⟨⟨tb_mem 815 (by decide +kernel) (by decide +kernel), tb_mem 9 (by decide +kernel) (by decide +kernel), by decide +kernel, by decide +kernel, by decide +kernel⟩, tb_mem 813 (by decide +kernel) (by decide +kernel), tb_mem 814 (by decide +kernel) (by decide +kernel)⟩
abbrev rmRo_finds : Room := { frames := 21, cells := 0, slots := 0, locals := 484 }
def yRo_leastWeight : MethodName := ⟨R_Ro, "leastWeight", "()I"⟩
theorem kRo_leastWeight : sw_yv yRo_leastWeight prog_7_method_11_code 5 (some .int) 0 := ⟨⟨tb_mem 828 (by decide +kernel) (by decide +kernel), tb_mem 9 (by decide +kernel) (by decide +kernel), by decide +kernel, by decide +kernel, by decide +kernel⟩, tb_mem 826 (by decide +kernel) (by decide +kernel), tb_mem 827 (by decide +kernel) (by decide +kernel)⟩
abbrev rmRo_leastWeight : Room := { frames := 22, cells := 0, slots := 0, locals := 506 }
def ySx_terms : MethodName := ⟨R_Sx, "terms", "(II)I"⟩
theorem kSx_terms : sw_yv ySx_terms prog_1_method_6_code 4 (some .int) 2 := ⟨⟨tb_mem 442 (by decide +kernel) (by decide +kernel), tb_mem 1 (by decide +kernel) (by decide +kernel), by decide +kernel, by decide +kernel, by decide +kernel⟩, tb_mem 440 (by decide +kernel) (by decide +kernel), tb_mem 441 (by decide +kernel) (by decide +kernel)⟩
abbrev rmSx_terms : Room := { frames := 1, cells := 0, slots := 0, locals := 22 }
def ySx_force : MethodName := ⟨R_Sx, "force", "(I)I"⟩
theorem kSx_force : sw_yv ySx_force prog_1_method_15_code 3 (some .int) 1 := ⟨⟨tb_mem 745 (by decide +kernel) (by decide +kernel), tb_mem 1 (by decide +kernel) (by decide +kernel), by decide +kernel, by decide +kernel, by decide +kernel⟩, tb_mem 743 (by decide +kernel) (by decide +kernel), tb_mem 744 (by decide +kernel) (by decide +kernel)⟩
abbrev rmSx_force : Room := { frames := 1, cells := 0, slots := 0, locals := 22 }
def ySx_pad : MethodName := ⟨R_Sx, "pad", "(II)I"⟩
theorem kSx_pad : sw_yv ySx_pad prog_1_method_18_code 4 (some .int) 2 := ⟨⟨tb_mem 758 (by decide +kernel) (by decide +kernel), tb_mem 1 (by decide +kernel) (by decide +kernel), by decide +kernel, by decide +kernel, by decide +kernel⟩, tb_mem 756 (by decide +kernel) (by decide +kernel), tb_mem 757 (by decide +kernel) (by decide +kernel)⟩
abbrev rmSx_pad : Room := { frames := 3, cells := 0, slots := 0, locals := 106 }
def ySx_undo : MethodName := ⟨R_Sx, "undo", "()I"⟩
theorem kSx_undo : sw_yv ySx_undo prog_1_method_20_code 1 (some .int) 0 := ⟨⟨tb_mem 766 (by decide +kernel) (by decide +kernel), tb_mem 1 (by decide +kernel) (by decide +kernel), by decide +kernel, by decide +kernel, by decide +kernel⟩, tb_mem 764 (by decide +kernel) (by decide +kernel), tb_mem 765 (by decide +kernel) (by decide +kernel)⟩
abbrev rmSx_undo : Room := { frames := 2, cells := 0, slots := 0, locals := 82 }
def ySx_weighed : MethodName := ⟨R_Sx, "weighed", "(III)I"⟩
theorem kSx_weighed : sw_yv ySx_weighed prog_1_method_29_code 4 (some .int) 3 := ⟨⟨tb_mem 901 (by decide +kernel) (by decide +kernel), tb_mem 1 (by decide +kernel) (by decide +kernel), by decide +kernel, by decide +kernel, by decide +kernel⟩, tb_mem 899 (by decide +kernel) (by decide +kernel), tb_mem 900 (by decide +kernel) (by decide +kernel)⟩
abbrev rmSx_weighed : Room := { frames := 1, cells := 0, slots := 0, locals := 23 }
def ySx_back : MethodName := ⟨R_Sx, "back", "(I)I"⟩
theorem kSx_back : sw_yv ySx_back prog_1_method_38_code 3 (some .int) 1 := ⟨⟨tb_mem 971 (by decide +kernel) (by decide +kernel), tb_mem 1 (by decide +kernel) (by decide +kernel), by decide +kernel, by decide +kernel, by decide +kernel⟩, tb_mem 969 (by decide +kernel) (by decide +kernel), tb_mem 970 (by decide +kernel) (by decide +kernel)⟩
abbrev rmSx_back : Room := { frames := 2, cells := 0, slots := 0, locals := 82 }
def ySx_canBeClaim : MethodName := ⟨R_Sx, "canBeClaim", "(II)Z"⟩
theorem kSx_canBeClaim : sw_ys ySx_canBeClaim prog_1_method_43_code 2 (some .boolean) 2 := ⟨⟨tb_mem 324 (by decide +kernel) (by decide +kernel), tb_mem 1 (by decide +kernel) (by decide +kernel), by decide +kernel, by decide +kernel, by decide +kernel⟩, tb_mem 323 (by decide +kernel) (by decide +kernel)⟩
abbrev rmSx_canBeClaim : Room := { frames := 1, cells := 0, slots := 0, locals := 20 }
def ySx_sumHeavies : MethodName := ⟨R_Sx, "sumHeavies", "()V"⟩
theorem kSx_sumHeavies : sw_yv ySx_sumHeavies prog_1_method_62_code 2 (none) 0 := ⟨⟨tb_mem 861 (by decide +kernel) (by decide +kernel), tb_mem 1 (by decide +kernel) (by decide +kernel), by decide +kernel, by decide +kernel, by decide +kernel⟩, tb_mem 860 (by decide +kernel) (by decide +kernel), ts_mem 47 (by decide +kernel) (by decide +kernel)⟩
abbrev rmSx_sumHeavies : Room := { frames := 1, cells := 0, slots := 0, locals := 24 }
def ySx_findWins : MethodName := ⟨R_Sx, "findWins", "(I)V"⟩
theorem kSx_findWins : sw_yv ySx_findWins prog_1_method_68_code 3 (none) 1 := ⟨⟨tb_mem 893 (by decide +kernel) (by decide +kernel), tb_mem 1 (by decide +kernel) (by decide +kernel), by decide +kernel, by decide +kernel, by decide +kernel⟩, tb_mem 892 (by decide +kernel) (by decide +kernel), ts_mem 53 (by decide +kernel) (by decide +kernel)⟩
abbrev rmSx_findWins : Room := { frames := 4, cells := 0, slots := 0, locals := 87 }
def ySx_bestWeighing : MethodName := ⟨R_Sx, "bestWeighing", "(I)I"⟩
theorem kSx_bestWeighing : sw_yv ySx_bestWeighing prog_1_method_71_code 12 (some .int) 1 := ⟨⟨tb_mem 929 (by decide +kernel) (by decide +kernel), tb_mem 1 (by decide +kernel) (by decide +kernel), by decide +kernel, by decide +kernel, by decide +kernel⟩, tb_mem 928 (by decide +kernel) (by decide +kernel), ts_mem 56 (by decide +kernel) (by decide +kernel)⟩
abbrev rmSx_bestWeighing : Room := { frames := 2, cells := 0, slots := 0, locals := 44 }
def yJu_barsAt : MethodName := ⟨R_Ju, "barsAt", "(LSeeSaws$Plank;II)Z"⟩
theorem kJu_barsAt : sw_yv yJu_barsAt prog_3_method_4_code 6 (some .boolean) 3 := ⟨⟨tb_mem 409 (by decide +kernel) (by decide +kernel), tb_mem 7 (by decide +kernel) (by decide +kernel), by decide +kernel, by decide +kernel, by decide +kernel⟩, tb_mem 407 (by decide +kernel) (by decide +kernel), tb_mem 408 (by decide +kernel) (by decide +kernel)⟩
abbrev rmJu_barsAt : Room := { frames := 3, cells := 0, slots := 0, locals := 77 }
def yJu_lastTold : MethodName := ⟨R_Ju, "lastTold", "(LSeeSaws$Text;III)I"⟩
theorem kJu_lastTold : sw_yv yJu_lastTold prog_3_method_8_code 6 (some .int) 4 := ⟨⟨tb_mem 376 (by decide +kernel) (by decide +kernel), tb_mem 7 (by decide +kernel) (by decide +kernel), by decide +kernel, by decide +kernel, by decide +kernel⟩, tb_mem 375 (by decide +kernel) (by decide +kernel), ts_mem 3 (by decide +kernel) (by decide +kernel)⟩
abbrev rmJu_lastTold : Room := { frames := 3, cells := 0, slots := 0, locals := 77 }
def yRe_readPart : MethodName := ⟨R_Re, "readPart", "()V"⟩
theorem kRe_readPart : sw_yv yRe_readPart prog_5_method_23_code 3 (none) 0 := ⟨⟨tb_mem 556 (by decide +kernel) (by decide +kernel), tb_mem 4 (by decide +kernel) (by decide +kernel), by decide +kernel, by decide +kernel, by decide +kernel⟩, tb_mem 555 (by decide +kernel) (by decide +kernel), ts_mem 16 (by decide +kernel) (by decide +kernel)⟩
abbrev rgRe_readPart (rr : Room) : Room := { frames := rr.frames + 6, cells := 0, slots := 0, locals := rr.locals + 163 }
def yRo_howMany : MethodName := ⟨R_Ro, "howMany", "(II)I"⟩
theorem kRo_howMany : sw_yv yRo_howMany prog_7_method_6_code 3 (some .int) 2 := ⟨⟨tb_mem 801 (by decide +kernel) (by decide +kernel), tb_mem 9 (by decide +kernel) (by decide +kernel), by decide +kernel, by decide +kernel, by decide +kernel⟩, tb_mem 799 (by decide +kernel) (by decide +kernel), tb_mem 800 (by decide +kernel) (by decide +kernel)⟩
abbrev rmRo_howMany : Room := { frames := 21, cells := 0, slots := 0, locals := 485 }
def ySx_claim : MethodName := ⟨R_Sx, "claim", "(II)I"⟩
theorem kSx_claim : sw_yv ySx_claim prog_1_method_2_code 3 (some .int) 2 := ⟨⟨tb_mem 321 (by decide +kernel) (by decide +kernel), tb_mem 1 (by decide +kernel) (by decide +kernel), by decide +kernel, by decide +kernel, by decide +kernel⟩, tb_mem 319 (by decide +kernel) (by decide +kernel), tb_mem 320 (by decide +kernel) (by decide +kernel)⟩
abbrev rmSx_claim : Room := { frames := 2, cells := 0, slots := 0, locals := 41 }
def ySx_row : MethodName := ⟨R_Sx, "row", "()I"⟩
theorem kSx_row : sw_yv ySx_row prog_1_method_9_code 4 (some .int) 0 := ⟨⟨tb_mem 460 (by decide +kernel) (by decide +kernel), tb_mem 1 (by decide +kernel) (by decide +kernel), by decide +kernel, by decide +kernel, by decide +kernel⟩, tb_mem 458 (by decide +kernel) (by decide +kernel), tb_mem 459 (by decide +kernel) (by decide +kernel)⟩
abbrev rmSx_row : Room := { frames := 2, cells := 0, slots := 0, locals := 41 }
def ySx_shares : MethodName := ⟨R_Sx, "shares", "(I)I"⟩
theorem kSx_shares : sw_yv ySx_shares prog_1_method_26_code 8 (some .int) 1 := ⟨⟨tb_mem 857 (by decide +kernel) (by decide +kernel), tb_mem 1 (by decide +kernel) (by decide +kernel), by decide +kernel, by decide +kernel, by decide +kernel⟩, tb_mem 855 (by decide +kernel) (by decide +kernel), tb_mem 856 (by decide +kernel) (by decide +kernel)⟩
abbrev rmSx_shares : Room := { frames := 2, cells := 0, slots := 0, locals := 45 }
def ySx_canBe : MethodName := ⟨R_Sx, "canBe", "()I"⟩
theorem kSx_canBe : sw_yv ySx_canBe prog_1_method_31_code 3 (some .int) 0 := ⟨⟨tb_mem 916 (by decide +kernel) (by decide +kernel), tb_mem 1 (by decide +kernel) (by decide +kernel), by decide +kernel, by decide +kernel, by decide +kernel⟩, tb_mem 914 (by decide +kernel) (by decide +kernel), tb_mem 915 (by decide +kernel) (by decide +kernel)⟩
abbrev rmSx_canBe : Room := { frames := 2, cells := 0, slots := 0, locals := 45 }
def ySx_weigh : MethodName := ⟨R_Sx, "weigh", "(I)I"⟩
theorem kSx_weigh : sw_yv ySx_weigh prog_1_method_32_code 4 (some .int) 1 := ⟨⟨tb_mem 924 (by decide +kernel) (by decide +kernel), tb_mem 1 (by decide +kernel) (by decide +kernel), by decide +kernel, by decide +kernel, by decide +kernel⟩, tb_mem 922 (by decide +kernel) (by decide +kernel), tb_mem 923 (by decide +kernel) (by decide +kernel)⟩
abbrev rmSx_weigh : Room := { frames := 3, cells := 0, slots := 0, locals := 75 }
def ySx_canPut : MethodName := ⟨R_Sx, "canPut", "(LSeeSaws$Plank;II)Z"⟩
theorem kSx_canPut : sw_yv ySx_canPut prog_1_method_51_code 4 (some .boolean) 3 := ⟨⟨tb_mem 712 (by decide +kernel) (by decide +kernel), tb_mem 1 (by decide +kernel) (by decide +kernel), by decide +kernel, by decide +kernel, by decide +kernel⟩, tb_mem 711 (by decide +kernel) (by decide +kernel), ts_mem 35 (by decide +kernel) (by decide +kernel)⟩
abbrev rmSx_canPut : Room := { frames := 4, cells := 0, slots := 0, locals := 102 }
def ySx_canExchange : MethodName := ⟨R_Sx, "canExchange", "(II)Z"⟩
theorem kSx_canExchange : sw_yv ySx_canExchange prog_1_method_59_code 3 (some .boolean) 2 := ⟨⟨tb_mem 849 (by decide +kernel) (by decide +kernel), tb_mem 1 (by decide +kernel) (by decide +kernel), by decide +kernel, by decide +kernel, by decide +kernel⟩, tb_mem 848 (by decide +kernel) (by decide +kernel), ts_mem 45 (by decide +kernel) (by decide +kernel)⟩
abbrev rmSx_canExchange : Room := { frames := 4, cells := 0, slots := 0, locals := 102 }
def ySx_drawOnPaper : MethodName := ⟨R_Sx, "drawOnPaper", "(III)V"⟩
theorem kSx_drawOnPaper : sw_yv ySx_drawOnPaper prog_1_method_74_code 4 (none) 3 := ⟨⟨tb_mem 959 (by decide +kernel) (by decide +kernel), tb_mem 1 (by decide +kernel) (by decide +kernel), by decide +kernel, by decide +kernel, by decide +kernel⟩, tb_mem 958 (by decide +kernel) (by decide +kernel), ts_mem 57 (by decide +kernel) (by decide +kernel)⟩
abbrev rmSx_drawOnPaper : Room := { frames := 5, cells := 0, slots := 0, locals := 125 }
def yJu_countAt : MethodName := ⟨R_Ju, "countAt", "(LSeeSaws$Plank;II)I"⟩
theorem kJu_countAt : sw_yv yJu_countAt prog_3_method_2_code 4 (some .int) 3 := ⟨⟨tb_mem 360 (by decide +kernel) (by decide +kernel), tb_mem 7 (by decide +kernel) (by decide +kernel), by decide +kernel, by decide +kernel, by decide +kernel⟩, tb_mem 358 (by decide +kernel) (by decide +kernel), tb_mem 359 (by decide +kernel) (by decide +kernel)⟩
abbrev rmJu_countAt : Room := { frames := 4, cells := 0, slots := 0, locals := 102 }
def yJu_shedAt : MethodName := ⟨R_Ju, "shedAt", "(LSeeSaws$Plank;II)I"⟩
theorem kJu_shedAt : sw_yv yJu_shedAt prog_3_method_3_code 4 (some .int) 3 := ⟨⟨tb_mem 398 (by decide +kernel) (by decide +kernel), tb_mem 7 (by decide +kernel) (by decide +kernel), by decide +kernel, by decide +kernel, by decide +kernel⟩, tb_mem 396 (by decide +kernel) (by decide +kernel), tb_mem 397 (by decide +kernel) (by decide +kernel)⟩
abbrev rmJu_shedAt : Room := { frames := 4, cells := 0, slots := 0, locals := 102 }
def yJu_tiltBy : MethodName := ⟨R_Ju, "tiltBy", "(LSeeSaws$Plank;LSeeSaws$Text;)I"⟩
theorem kJu_tiltBy : sw_yv yJu_tiltBy prog_3_method_5_code 6 (some .int) 2 := ⟨⟨tb_mem 422 (by decide +kernel) (by decide +kernel), tb_mem 7 (by decide +kernel) (by decide +kernel), by decide +kernel, by decide +kernel, by decide +kernel⟩, tb_mem 420 (by decide +kernel) (by decide +kernel), tb_mem 421 (by decide +kernel) (by decide +kernel)⟩
abbrev rmJu_tiltBy : Room := { frames := 4, cells := 0, slots := 0, locals := 102 }
def yJu_passDay : MethodName := ⟨R_Ju, "passDay", "(LSeeSaws$Plank;)I"⟩
theorem kJu_passDay : sw_yv yJu_passDay prog_3_method_6_code 6 (some .int) 1 := ⟨⟨tb_mem 733 (by decide +kernel) (by decide +kernel), tb_mem 7 (by decide +kernel) (by decide +kernel), by decide +kernel, by decide +kernel, by decide +kernel⟩, tb_mem 731 (by decide +kernel) (by decide +kernel), tb_mem 732 (by decide +kernel) (by decide +kernel)⟩
abbrev rmJu_passDay : Room := { frames := 4, cells := 0, slots := 0, locals := 102 }
def yRe_readTerm : MethodName := ⟨R_Re, "readTerm", "()V"⟩
theorem kRe_readTerm : sw_yv yRe_readTerm prog_5_method_22_code 3 (none) 0 := ⟨⟨tb_mem 552 (by decide +kernel) (by decide +kernel), tb_mem 4 (by decide +kernel) (by decide +kernel), by decide +kernel, by decide +kernel, by decide +kernel⟩, tb_mem 551 (by decide +kernel) (by decide +kernel), ts_mem 15 (by decide +kernel) (by decide +kernel)⟩
abbrev rgRe_readTerm (rr : Room) : Room := { frames := rr.frames + 7, cells := 0, slots := 0, locals := rr.locals + 185 }
def ySx_of : MethodName := ⟨R_Sx, "of", "(II)I"⟩
theorem kSx_of : sw_yv ySx_of prog_1_method_3_code 4 (some .int) 2 := ⟨⟨tb_mem 347 (by decide +kernel) (by decide +kernel), tb_mem 1 (by decide +kernel) (by decide +kernel), by decide +kernel, by decide +kernel, by decide +kernel⟩, tb_mem 345 (by decide +kernel) (by decide +kernel), tb_mem 346 (by decide +kernel) (by decide +kernel)⟩
abbrev rmSx_of : Room := { frames := 5, cells := 0, slots := 0, locals := 125 }
def ySx_compare : MethodName := ⟨R_Sx, "compare", "(I)I"⟩
theorem kSx_compare : sw_yv ySx_compare prog_1_method_34_code 2 (some .int) 1 := ⟨⟨tb_mem 946 (by decide +kernel) (by decide +kernel), tb_mem 1 (by decide +kernel) (by decide +kernel), by decide +kernel, by decide +kernel, by decide +kernel⟩, tb_mem 944 (by decide +kernel) (by decide +kernel), tb_mem 945 (by decide +kernel) (by decide +kernel)⟩
abbrev rmSx_compare : Room := { frames := 5, cells := 0, slots := 0, locals := 127 }
def ySx_days : MethodName := ⟨R_Sx, "days", "(II)I"⟩
theorem kSx_days : sw_yv ySx_days prog_1_method_35_code 7 (some .int) 2 := ⟨⟨tb_mem 950 (by decide +kernel) (by decide +kernel), tb_mem 1 (by decide +kernel) (by decide +kernel), by decide +kernel, by decide +kernel, by decide +kernel⟩, tb_mem 948 (by decide +kernel) (by decide +kernel), tb_mem 949 (by decide +kernel) (by decide +kernel)⟩
abbrev rmSx_days : Room := { frames := 6, cells := 0, slots := 0, locals := 148 }
def ySx_puts : MethodName := ⟨R_Sx, "puts", "(II)I"⟩
theorem kSx_puts : sw_yv ySx_puts prog_1_method_47_code 3 (some .int) 2 := ⟨⟨tb_mem 708 (by decide +kernel) (by decide +kernel), tb_mem 1 (by decide +kernel) (by decide +kernel), by decide +kernel, by decide +kernel, by decide +kernel⟩, tb_mem 707 (by decide +kernel) (by decide +kernel), ts_mem 34 (by decide +kernel) (by decide +kernel)⟩
abbrev rmSx_puts : Room := { frames := 5, cells := 0, slots := 0, locals := 125 }
def ySx_passes : MethodName := ⟨R_Sx, "passes", "()I"⟩
theorem kSx_passes : sw_yv ySx_passes prog_1_method_50_code 1 (some .int) 0 := ⟨⟨tb_mem 729 (by decide +kernel) (by decide +kernel), tb_mem 1 (by decide +kernel) (by decide +kernel), by decide +kernel, by decide +kernel, by decide +kernel⟩, tb_mem 728 (by decide +kernel) (by decide +kernel), ts_mem 38 (by decide +kernel) (by decide +kernel)⟩
abbrev rmSx_passes : Room := { frames := 5, cells := 0, slots := 0, locals := 127 }
def ySx_tellWords : MethodName := ⟨R_Sx, "tellWords", "()V"⟩
theorem kSx_tellWords : sw_yv ySx_tellWords prog_1_method_53_code 3 (none) 0 := ⟨⟨tb_mem 692 (by decide +kernel) (by decide +kernel), tb_mem 1 (by decide +kernel) (by decide +kernel), by decide +kernel, by decide +kernel, by decide +kernel⟩, tb_mem 691 (by decide +kernel) (by decide +kernel), ts_mem 33 (by decide +kernel) (by decide +kernel)⟩
abbrev rmSx_tellWords : Room := { frames := 5, cells := 0, slots := 0, locals := 127 }
def ySx_tiltNow : MethodName := ⟨R_Sx, "tiltNow", "()I"⟩
theorem kSx_tiltNow : sw_yv ySx_tiltNow prog_1_method_54_code 1 (some .int) 0 := ⟨⟨tb_mem 417 (by decide +kernel) (by decide +kernel), tb_mem 1 (by decide +kernel) (by decide +kernel), by decide +kernel, by decide +kernel, by decide +kernel⟩, tb_mem 416 (by decide +kernel) (by decide +kernel), ts_mem 6 (by decide +kernel) (by decide +kernel)⟩
abbrev rmSx_tiltNow : Room := { frames := 5, cells := 0, slots := 0, locals := 127 }
def ySx_weightAt : MethodName := ⟨R_Sx, "weightAt", "(II)I"⟩
theorem kSx_weightAt : sw_yv ySx_weightAt prog_1_method_56_code 3 (some .int) 2 := ⟨⟨tb_mem 427 (by decide +kernel) (by decide +kernel), tb_mem 1 (by decide +kernel) (by decide +kernel), by decide +kernel, by decide +kernel, by decide +kernel⟩, tb_mem 426 (by decide +kernel) (by decide +kernel), ts_mem 7 (by decide +kernel) (by decide +kernel)⟩
abbrev rmSx_weightAt : Room := { frames := 5, cells := 0, slots := 0, locals := 125 }
def ySx_tiltWithout : MethodName := ⟨R_Sx, "tiltWithout", "(I)I"⟩
theorem kSx_tiltWithout : sw_yv ySx_tiltWithout prog_1_method_57_code 3 (some .int) 1 := ⟨⟨tb_mem 413 (by decide +kernel) (by decide +kernel), tb_mem 1 (by decide +kernel) (by decide +kernel), by decide +kernel, by decide +kernel, by decide +kernel⟩, tb_mem 412 (by decide +kernel) (by decide +kernel), ts_mem 5 (by decide +kernel) (by decide +kernel)⟩
abbrev rmSx_tiltWithout : Room := { frames := 6, cells := 0, slots := 0, locals := 147 }
def ySx_levelsAlone : MethodName := ⟨R_Sx, "levelsAlone", "(II)Z"⟩
theorem kSx_levelsAlone : sw_yv ySx_levelsAlone prog_1_method_58_code 4 (some .boolean) 2 := ⟨⟨tb_mem 841 (by decide +kernel) (by decide +kernel), tb_mem 1 (by decide +kernel) (by decide +kernel), by decide +kernel, by decide +kernel, by decide +kernel⟩, tb_mem 840 (by decide +kernel) (by decide +kernel), ts_mem 44 (by decide +kernel) (by decide +kernel)⟩
abbrev rmSx_levelsAlone : Room := { frames := 6, cells := 0, slots := 0, locals := 147 }
def ySx_tiltByExchange : MethodName := ⟨R_Sx, "tiltByExchange", "(II)I"⟩
theorem kSx_tiltByExchange : sw_yv ySx_tiltByExchange prog_1_method_60_code 5 (some .int) 2 := ⟨⟨tb_mem 853 (by decide +kernel) (by decide +kernel), tb_mem 1 (by decide +kernel) (by decide +kernel), by decide +kernel, by decide +kernel, by decide +kernel⟩, tb_mem 852 (by decide +kernel) (by decide +kernel), ts_mem 46 (by decide +kernel) (by decide +kernel)⟩
abbrev rmSx_tiltByExchange : Room := { frames := 6, cells := 0, slots := 0, locals := 147 }
def ySx_offerPlaces : MethodName := ⟨R_Sx, "offerPlaces", "(Z)V"⟩
theorem kSx_offerPlaces : sw_yv ySx_offerPlaces prog_1_method_61_code 6 (none) 1 := ⟨⟨tb_mem 778 (by decide +kernel) (by decide +kernel), tb_mem 1 (by decide +kernel) (by decide +kernel), by decide +kernel, by decide +kernel, by decide +kernel⟩, tb_mem 777 (by decide +kernel) (by decide +kernel), ts_mem 39 (by decide +kernel) (by decide +kernel)⟩
abbrev rmSx_offerPlaces : Room := { frames := 12, cells := 0, slots := 0, locals := 286 }
def ySx_sumTilts : MethodName := ⟨R_Sx, "sumTilts", "()V"⟩
theorem kSx_sumTilts : sw_yv ySx_sumTilts prog_1_method_63_code 2 (none) 0 := ⟨⟨tb_mem 873 (by decide +kernel) (by decide +kernel), tb_mem 1 (by decide +kernel) (by decide +kernel), by decide +kernel, by decide +kernel, by decide +kernel⟩, tb_mem 872 (by decide +kernel) (by decide +kernel), ts_mem 49 (by decide +kernel) (by decide +kernel)⟩
abbrev rmSx_sumTilts : Room := { frames := 6, cells := 0, slots := 0, locals := 147 }
def yRe_readSum : MethodName := ⟨R_Re, "readSum", "()V"⟩
theorem kRe_readSum : sw_yv yRe_readSum prog_5_method_21_code 3 (none) 0 := ⟨⟨tb_mem 548 (by decide +kernel) (by decide +kernel), tb_mem 4 (by decide +kernel) (by decide +kernel), by decide +kernel, by decide +kernel, by decide +kernel⟩, tb_mem 547 (by decide +kernel) (by decide +kernel), ts_mem 14 (by decide +kernel) (by decide +kernel)⟩
abbrev rgRe_readSum (rr : Room) : Room := { frames := rr.frames + 8, cells := 0, slots := 0, locals := rr.locals + 207 }
def ySx_asks : MethodName := ⟨R_Sx, "asks", "(III)I"⟩
theorem kSx_asks : sw_yv ySx_asks prog_1_method_4_code 4 (some .int) 3 := ⟨⟨tb_mem 402 (by decide +kernel) (by decide +kernel), tb_mem 1 (by decide +kernel) (by decide +kernel), by decide +kernel, by decide +kernel, by decide +kernel⟩, tb_mem 400 (by decide +kernel) (by decide +kernel), tb_mem 401 (by decide +kernel) (by decide +kernel)⟩
abbrev rmSx_asks : Room := { frames := 7, cells := 0, slots := 0, locals := 169 }
def ySx_tilt : MethodName := ⟨R_Sx, "tilt", "(I)I"⟩
theorem kSx_tilt : sw_yv ySx_tilt prog_1_method_5_code 3 (some .int) 1 := ⟨⟨tb_mem 434 (by decide +kernel) (by decide +kernel), tb_mem 1 (by decide +kernel) (by decide +kernel), by decide +kernel, by decide +kernel, by decide +kernel⟩, tb_mem 432 (by decide +kernel) (by decide +kernel), tb_mem 433 (by decide +kernel) (by decide +kernel)⟩
abbrev rmSx_tilt : Room := { frames := 6, cells := 0, slots := 0, locals := 147 }
def ySx_put : MethodName := ⟨R_Sx, "put", "(II)I"⟩
theorem kSx_put : sw_yv ySx_put prog_1_method_16_code 4 (some .int) 2 := ⟨⟨tb_mem 750 (by decide +kernel) (by decide +kernel), tb_mem 1 (by decide +kernel) (by decide +kernel), by decide +kernel, by decide +kernel, by decide +kernel⟩, tb_mem 748 (by decide +kernel) (by decide +kernel), tb_mem 749 (by decide +kernel) (by decide +kernel)⟩
abbrev rmSx_put : Room := { frames := 6, cells := 0, slots := 0, locals := 147 }
def ySx_take : MethodName := ⟨R_Sx, "take", "(I)I"⟩
theorem kSx_take : sw_yv ySx_take prog_1_method_17_code 3 (some .int) 1 := ⟨⟨tb_mem 754 (by decide +kernel) (by decide +kernel), tb_mem 1 (by decide +kernel) (by decide +kernel), by decide +kernel, by decide +kernel, by decide +kernel⟩, tb_mem 752 (by decide +kernel) (by decide +kernel), tb_mem 753 (by decide +kernel) (by decide +kernel)⟩
abbrev rmSx_take : Room := { frames := 6, cells := 0, slots := 0, locals := 147 }
def ySx_pass : MethodName := ⟨R_Sx, "pass", "()I"⟩
theorem kSx_pass : sw_yv ySx_pass prog_1_method_19_code 2 (some .int) 0 := ⟨⟨tb_mem 762 (by decide +kernel) (by decide +kernel), tb_mem 1 (by decide +kernel) (by decide +kernel), by decide +kernel, by decide +kernel, by decide +kernel⟩, tb_mem 760 (by decide +kernel) (by decide +kernel), tb_mem 761 (by decide +kernel) (by decide +kernel)⟩
abbrev rmSx_pass : Room := { frames := 6, cells := 0, slots := 0, locals := 147 }
def ySx_settle : MethodName := ⟨R_Sx, "settle", "(I)I"⟩
theorem kSx_settle : sw_yv ySx_settle prog_1_method_21_code 4 (some .int) 1 := ⟨⟨tb_mem 774 (by decide +kernel) (by decide +kernel), tb_mem 1 (by decide +kernel) (by decide +kernel), by decide +kernel, by decide +kernel, by decide +kernel⟩, tb_mem 772 (by decide +kernel) (by decide +kernel), tb_mem 773 (by decide +kernel) (by decide +kernel)⟩
abbrev rmSx_settle : Room := { frames := 22, cells := 0, slots := 0, locals := 507 }
def ySx_least : MethodName := ⟨R_Sx, "least", "(I)I"⟩
theorem kSx_least : sw_yv ySx_least prog_1_method_22_code 3 (some .int) 1 := ⟨⟨tb_mem 824 (by decide +kernel) (by decide +kernel), tb_mem 1 (by decide +kernel) (by decide +kernel), by decide +kernel, by decide +kernel, by decide +kernel⟩, tb_mem 822 (by decide +kernel) (by decide +kernel), tb_mem 823 (by decide +kernel) (by decide +kernel)⟩
abbrev rmSx_least : Room := { frames := 23, cells := 0, slots := 0, locals := 530 }
def ySx_moved : MethodName := ⟨R_Sx, "moved", "(I)I"⟩
theorem kSx_moved : sw_yv ySx_moved prog_1_method_23_code 3 (some .int) 1 := ⟨⟨tb_mem 833 (by decide +kernel) (by decide +kernel), tb_mem 1 (by decide +kernel) (by decide +kernel), by decide +kernel, by decide +kernel, by decide +kernel⟩, tb_mem 831 (by decide +kernel) (by decide +kernel), tb_mem 832 (by decide +kernel) (by decide +kernel)⟩
abbrev rmSx_moved : Room := { frames := 22, cells := 0, slots := 0, locals := 506 }
def ySx_alone : MethodName := ⟨R_Sx, "alone", "()I"⟩
theorem kSx_alone : sw_yv ySx_alone prog_1_method_24_code 4 (some .int) 0 := ⟨⟨tb_mem 837 (by decide +kernel) (by decide +kernel), tb_mem 1 (by decide +kernel) (by decide +kernel), by decide +kernel, by decide +kernel, by decide +kernel⟩, tb_mem 835 (by decide +kernel) (by decide +kernel), tb_mem 836 (by decide +kernel) (by decide +kernel)⟩
abbrev rmSx_alone : Room := { frames := 7, cells := 0, slots := 0, locals := 170 }
def ySx_exchanged : MethodName := ⟨R_Sx, "exchanged", "(I)I"⟩
theorem kSx_exchanged : sw_yv ySx_exchanged prog_1_method_25_code 8 (some .int) 1 := ⟨⟨tb_mem 845 (by decide +kernel) (by decide +kernel), tb_mem 1 (by decide +kernel) (by decide +kernel), by decide +kernel, by decide +kernel, by decide +kernel⟩, tb_mem 843 (by decide +kernel) (by decide +kernel), tb_mem 844 (by decide +kernel) (by decide +kernel)⟩
abbrev rmSx_exchanged : Room := { frames := 7, cells := 0, slots := 0, locals := 171 }
def ySx_off : MethodName := ⟨R_Sx, "off", "(I)I"⟩
theorem kSx_off : sw_yv ySx_off prog_1_method_27_code 5 (some .int) 1 := ⟨⟨tb_mem 869 (by decide +kernel) (by decide +kernel), tb_mem 1 (by decide +kernel) (by decide +kernel), by decide +kernel, by decide +kernel, by decide +kernel⟩, tb_mem 867 (by decide +kernel) (by decide +kernel), tb_mem 868 (by decide +kernel) (by decide +kernel)⟩
abbrev rmSx_off : Room := { frames := 7, cells := 0, slots := 0, locals := 168 }
def ySx_byTurns : MethodName := ⟨R_Sx, "byTurns", "(I)I"⟩
theorem kSx_byTurns : sw_yv ySx_byTurns prog_1_method_28_code 3 (some .int) 1 := ⟨⟨tb_mem 889 (by decide +kernel) (by decide +kernel), tb_mem 1 (by decide +kernel) (by decide +kernel), by decide +kernel, by decide +kernel, by decide +kernel⟩, tb_mem 887 (by decide +kernel) (by decide +kernel), tb_mem 888 (by decide +kernel) (by decide +kernel)⟩
abbrev rmSx_byTurns : Room := { frames := 7, cells := 0, slots := 0, locals := 168 }
def ySx_runsOnce : MethodName := ⟨R_Sx, "runsOnce", "(LSeeSaws$Text;I)Z"⟩
theorem kSx_runsOnce : sw_yv ySx_runsOnce prog_1_method_52_code 8 (some .boolean) 2 := ⟨⟨tb_mem 688 (by decide +kernel) (by decide +kernel), tb_mem 1 (by decide +kernel) (by decide +kernel), by decide +kernel, by decide +kernel, by decide +kernel⟩, tb_mem 687 (by decide +kernel) (by decide +kernel), ts_mem 32 (by decide +kernel) (by decide +kernel)⟩
abbrev rmSx_runsOnce : Room := { frames := 6, cells := 0, slots := 0, locals := 149 }
def yRe_placeOfSum : MethodName := ⟨R_Re, "placeOfSum", "()I"⟩
theorem kRe_placeOfSum : sw_yv yRe_placeOfSum prog_5_method_16_code 2 (some .int) 0 := ⟨⟨tb_mem 544 (by decide +kernel) (by decide +kernel), tb_mem 4 (by decide +kernel) (by decide +kernel), by decide +kernel, by decide +kernel, by decide +kernel⟩, tb_mem 543 (by decide +kernel) (by decide +kernel), ts_mem 13 (by decide +kernel) (by decide +kernel)⟩
abbrev rmRe_placeOfSum : Room := { frames := 81, cells := 0, slots := 0, locals := 2092 }
def yRe_readPlain : MethodName := ⟨R_Re, "readPlain", "()V"⟩
theorem kRe_readPlain : sw_yv yRe_readPlain prog_5_method_20_code 3 (none) 0 := ⟨⟨tb_mem 643 (by decide +kernel) (by decide +kernel), tb_mem 4 (by decide +kernel) (by decide +kernel), by decide +kernel, by decide +kernel, by decide +kernel⟩, tb_mem 642 (by decide +kernel) (by decide +kernel), ts_mem 30 (by decide +kernel) (by decide +kernel)⟩
abbrev rgRe_readPlain (rr : Room) : Room := { frames := rr.frames + 81, cells := 0, slots := 0, locals := rr.locals + 2092 }
def yRe_readRule : MethodName := ⟨R_Re, "readRule", "(I)V"⟩
theorem kRe_readRule : sw_yv yRe_readRule prog_5_method_14_code 2 (none) 1 := ⟨⟨tb_mem 483 (by decide +kernel) (by decide +kernel), tb_mem 4 (by decide +kernel) (by decide +kernel), by decide +kernel, by decide +kernel, by decide +kernel⟩, tb_mem 482 (by decide +kernel) (by decide +kernel), ts_mem 10 (by decide +kernel) (by decide +kernel)⟩
abbrev rmRe_readRule : Room := { frames := 82, cells := 0, slots := 0, locals := 2113 }
def yRe_readOrder : MethodName := ⟨R_Re, "readOrder", "(I)V"⟩
theorem kRe_readOrder : sw_yv yRe_readOrder prog_5_method_15_code 2 (none) 1 := ⟨⟨tb_mem 620 (by decide +kernel) (by decide +kernel), tb_mem 4 (by decide +kernel) (by decide +kernel), by decide +kernel, by decide +kernel, by decide +kernel⟩, tb_mem 619 (by decide +kernel) (by decide +kernel), ts_mem 26 (by decide +kernel) (by decide +kernel)⟩
abbrev rmRe_readOrder : Room := { frames := 82, cells := 0, slots := 0, locals := 2113 }
def yRe_readBoth : MethodName := ⟨R_Re, "readBoth", "()V"⟩
theorem kRe_readBoth : sw_yv yRe_readBoth prog_5_method_19_code 3 (none) 0 := ⟨⟨tb_mem 639 (by decide +kernel) (by decide +kernel), tb_mem 4 (by decide +kernel) (by decide +kernel), by decide +kernel, by decide +kernel, by decide +kernel⟩, tb_mem 638 (by decide +kernel) (by decide +kernel), ts_mem 29 (by decide +kernel) (by decide +kernel)⟩
abbrev rgRe_readBoth (rr : Room) : Room := { frames := rr.frames + 82, cells := 0, slots := 0, locals := rr.locals + 2114 }
def yRe_readTest : MethodName := ⟨R_Re, "readTest", "()V"⟩
theorem kRe_readTest : sw_yv yRe_readTest prog_5_method_18_code 3 (none) 0 := ⟨⟨tb_mem 635 (by decide +kernel) (by decide +kernel), tb_mem 4 (by decide +kernel) (by decide +kernel), by decide +kernel, by decide +kernel, by decide +kernel⟩, tb_mem 634 (by decide +kernel) (by decide +kernel), ts_mem 28 (by decide +kernel) (by decide +kernel)⟩
abbrev rgRe_readTest (rr : Room) : Room := { frames := rr.frames + 83, cells := 0, slots := 0, locals := rr.locals + 2136 }
def yRe_readIf : MethodName := ⟨R_Re, "readIf", "(I)V"⟩
theorem kRe_readIf : sw_yv yRe_readIf prog_5_method_17_code 2 (none) 1 := ⟨⟨tb_mem 630 (by decide +kernel) (by decide +kernel), tb_mem 4 (by decide +kernel) (by decide +kernel), by decide +kernel, by decide +kernel, by decide +kernel⟩, tb_mem 629 (by decide +kernel) (by decide +kernel), ts_mem 27 (by decide +kernel) (by decide +kernel)⟩
abbrev rmRe_readIf : Room := { frames := 831, cells := 0, slots := 0, locals := 21382 }
def yRe_reads : MethodName := ⟨R_Re, "reads", "(Z)Z"⟩
theorem kRe_reads : sw_yv yRe_reads prog_5_method_3_code 4 (some .boolean) 1 := ⟨⟨tb_mem 472 (by decide +kernel) (by decide +kernel), tb_mem 4 (by decide +kernel) (by decide +kernel), by decide +kernel, by decide +kernel, by decide +kernel⟩, tb_mem 470 (by decide +kernel) (by decide +kernel), tb_mem 471 (by decide +kernel) (by decide +kernel)⟩
abbrev rmRe_reads : Room := { frames := 832, cells := 0, slots := 0, locals := 21403 }
def ySx_orders : MethodName := ⟨R_Sx, "orders", "()I"⟩
theorem kSx_orders : sw_yv ySx_orders prog_1_method_12_code 4 (some .int) 0 := ⟨⟨tb_mem 674 (by decide +kernel) (by decide +kernel), tb_mem 1 (by decide +kernel) (by decide +kernel), by decide +kernel, by decide +kernel, by decide +kernel⟩, tb_mem 672 (by decide +kernel) (by decide +kernel), tb_mem 673 (by decide +kernel) (by decide +kernel)⟩
abbrev rmSx_orders : Room := { frames := 833, cells := 0, slots := 0, locals := 21426 }
theorem wc_In_265 : Cond.constant R_In 265 (1431655765 : Int32) ∈ sw_tb := tb_mem 701 (by decide +kernel) (by decide +kernel)
theorem wc_In_266 : Cond.constant R_In 266 (858993459 : Int32) ∈ sw_tb := tb_mem 702 (by decide +kernel) (by decide +kernel)
theorem wc_In_267 : Cond.constant R_In 267 (252645135 : Int32) ∈ sw_tb := tb_mem 703 (by decide +kernel) (by decide +kernel)
theorem wc_Rk_32 : Cond.constantLong R_Rk 32 (1000000000 : Int64) ∈ sw_tb := tb_mem 392 (by decide +kernel) (by decide +kernel)
theorem wc_Rk_34 : Cond.constantLong R_Rk 34 (-1000000000 : Int64) ∈ sw_tb := tb_mem 393 (by decide +kernel) (by decide +kernel)
theorem wc_Rk_36 : Cond.constantLong R_Rk 36 (1000000001 : Int64) ∈ sw_tb := tb_mem 391 (by decide +kernel) (by decide +kernel)
theorem wc_Sx_319 : Cond.constant R_Sx 319 (1000000 : Int32) ∈ sw_tb := tb_mem 951 (by decide +kernel) (by decide +kernel)
theorem wc_Sx_390 : Cond.constant R_Sx 390 (2097152 : Int32) ∈ sw_tb := tb_mem 930 (by decide +kernel) (by decide +kernel)
theorem wc_Sx_401 : Cond.constant R_Sx 401 (1000003 : Int32) ∈ sw_tb := tb_mem 955 (by decide +kernel) (by decide +kernel)
theorem wf_Hi_11 : Cond.fieldLink R_Hi 11 R_Hi (F_Hi 2).2.1 (F_Hi 2).2.2.1 ∈ sw_tb := tb_mem 101 (by decide +kernel) (by decide +kernel)
theorem wf_Hi_15 : Cond.fieldLink R_Hi 15 R_Hi (F_Hi 0).2.1 (F_Hi 0).2.2.1 ∈ sw_tb := tb_mem 98 (by decide +kernel) (by decide +kernel)
theorem wf_Hi_19 : Cond.fieldLink R_Hi 19 R_Hi (F_Hi 1).2.1 (F_Hi 1).2.2.1 ∈ sw_tb := tb_mem 100 (by decide +kernel) (by decide +kernel)
theorem wf_Hi_22 : Cond.fieldLink R_Hi 22 R_Pl (F_Pl 1).2.1 (F_Pl 1).2.2.1 ∈ sw_tb := tb_mem 38 (by decide +kernel) (by decide +kernel)
theorem wf_Hi_33 : Cond.fieldLink R_Hi 33 R_Pl (F_Pl 3).2.1 (F_Pl 3).2.2.1 ∈ sw_tb := tb_mem 45 (by decide +kernel) (by decide +kernel)
theorem wf_Hi_36 : Cond.fieldLink R_Hi 36 R_Pl (F_Pl 4).2.1 (F_Pl 4).2.2.1 ∈ sw_tb := tb_mem 48 (by decide +kernel) (by decide +kernel)
theorem wf_Ju_12 : Cond.fieldLink R_Ju 12 R_Ju (F_Ju 0).2.1 (F_Ju 0).2.2.1 ∈ sw_tb := tb_mem 223 (by decide +kernel) (by decide +kernel)
theorem wf_Ju_18 : Cond.fieldLink R_Ju 18 R_Ju (F_Ju 1).2.1 (F_Ju 1).2.2.1 ∈ sw_tb := tb_mem 224 (by decide +kernel) (by decide +kernel)
theorem wf_Ju_26 : Cond.fieldLink R_Ju 26 R_Pl (F_Pl 11).2.1 (F_Pl 11).2.2.1 ∈ sw_tb := tb_mem 63 (by decide +kernel) (by decide +kernel)
theorem wf_Ju_36 : Cond.fieldLink R_Ju 36 R_Pl (F_Pl 1).2.1 (F_Pl 1).2.2.1 ∈ sw_tb := tb_mem 37 (by decide +kernel) (by decide +kernel)
theorem wf_Ju_43 : Cond.fieldLink R_Ju 43 R_Te (F_Te 0).2.1 (F_Te 0).2.2.1 ∈ sw_tb := tb_mem 126 (by decide +kernel) (by decide +kernel)
theorem wf_Ju_48 : Cond.fieldLink R_Ju 48 R_Te (F_Te 1).2.1 (F_Te 1).2.2.1 ∈ sw_tb := tb_mem 129 (by decide +kernel) (by decide +kernel)
theorem wf_Ju_59 : Cond.fieldLink R_Ju 59 R_Pl (F_Pl 3).2.1 (F_Pl 3).2.2.1 ∈ sw_tb := tb_mem 46 (by decide +kernel) (by decide +kernel)
theorem wf_Ju_68 : Cond.fieldLink R_Ju 68 R_Pl (F_Pl 4).2.1 (F_Pl 4).2.2.1 ∈ sw_tb := tb_mem 50 (by decide +kernel) (by decide +kernel)
theorem wf_Ju_71 : Cond.fieldLink R_Ju 71 R_Pl (F_Pl 2).2.1 (F_Pl 2).2.2.1 ∈ sw_tb := tb_mem 42 (by decide +kernel) (by decide +kernel)
theorem wf_Ju_77 : Cond.fieldLink R_Ju 77 R_Te (F_Te 2).2.1 (F_Te 2).2.2.1 ∈ sw_tb := tb_mem 133 (by decide +kernel) (by decide +kernel)
theorem wf_Ju_84 : Cond.fieldLink R_Ju 84 R_Rk (F_Rk 0).2.1 (F_Rk 0).2.2.1 ∈ sw_tb := tb_mem 214 (by decide +kernel) (by decide +kernel)
theorem wf_Ju_87 : Cond.fieldLink R_Ju 87 R_Te (F_Te 5).2.1 (F_Te 5).2.2.1 ∈ sw_tb := tb_mem 143 (by decide +kernel) (by decide +kernel)
theorem wf_Pl_15 : Cond.fieldLink R_Pl 15 R_Pl (F_Pl 2).2.1 (F_Pl 2).2.2.1 ∈ sw_tb := tb_mem 40 (by decide +kernel) (by decide +kernel)
theorem wf_Pl_18 : Cond.fieldLink R_Pl 18 R_Pl (F_Pl 3).2.1 (F_Pl 3).2.2.1 ∈ sw_tb := tb_mem 43 (by decide +kernel) (by decide +kernel)
theorem wf_Pl_21 : Cond.fieldLink R_Pl 21 R_Pl (F_Pl 4).2.1 (F_Pl 4).2.2.1 ∈ sw_tb := tb_mem 47 (by decide +kernel) (by decide +kernel)
theorem wf_Pl_24 : Cond.fieldLink R_Pl 24 R_Pl (F_Pl 6).2.1 (F_Pl 6).2.2.1 ∈ sw_tb := tb_mem 53 (by decide +kernel) (by decide +kernel)
theorem wf_Pl_27 : Cond.fieldLink R_Pl 27 R_Pl (F_Pl 7).2.1 (F_Pl 7).2.2.1 ∈ sw_tb := tb_mem 55 (by decide +kernel) (by decide +kernel)
theorem wf_Pl_30 : Cond.fieldLink R_Pl 30 R_Pl (F_Pl 8).2.1 (F_Pl 8).2.2.1 ∈ sw_tb := tb_mem 57 (by decide +kernel) (by decide +kernel)
theorem wf_Pl_35 : Cond.fieldLink R_Pl 35 R_Pl (F_Pl 10).2.1 (F_Pl 10).2.2.1 ∈ sw_tb := tb_mem 61 (by decide +kernel) (by decide +kernel)
theorem wf_Pl_39 : Cond.fieldLink R_Pl 39 R_Pl (F_Pl 11).2.1 (F_Pl 11).2.2.1 ∈ sw_tb := tb_mem 62 (by decide +kernel) (by decide +kernel)
theorem wf_Pl_43 : Cond.fieldLink R_Pl 43 R_Pl (F_Pl 0).2.1 (F_Pl 0).2.2.1 ∈ sw_tb := tb_mem 34 (by decide +kernel) (by decide +kernel)
theorem wf_Pl_50 : Cond.fieldLink R_Pl 50 R_Pl (F_Pl 9).2.1 (F_Pl 9).2.2.1 ∈ sw_tb := tb_mem 59 (by decide +kernel) (by decide +kernel)
theorem wf_Pl_59 : Cond.fieldLink R_Pl 59 R_Pl (F_Pl 5).2.1 (F_Pl 5).2.2.1 ∈ sw_tb := tb_mem 51 (by decide +kernel) (by decide +kernel)
theorem wf_Pl_9 : Cond.fieldLink R_Pl 9 R_Pl (F_Pl 1).2.1 (F_Pl 1).2.2.1 ∈ sw_tb := tb_mem 36 (by decide +kernel) (by decide +kernel)
theorem wf_Re_102 : Cond.fieldLink R_Re 102 R_Te (F_Te 7).2.1 (F_Te 7).2.2.1 ∈ sw_tb := tb_mem 151 (by decide +kernel) (by decide +kernel)
theorem wf_Re_107 : Cond.fieldLink R_Re 107 R_Te (F_Te 1).2.1 (F_Te 1).2.2.1 ∈ sw_tb := tb_mem 130 (by decide +kernel) (by decide +kernel)
theorem wf_Re_110 : Cond.fieldLink R_Re 110 R_Te (F_Te 2).2.1 (F_Te 2).2.2.1 ∈ sw_tb := tb_mem 134 (by decide +kernel) (by decide +kernel)
theorem wf_Re_128 : Cond.fieldLink R_Re 128 R_Te (F_Te 3).2.1 (F_Te 3).2.2.1 ∈ sw_tb := tb_mem 137 (by decide +kernel) (by decide +kernel)
theorem wf_Re_150 : Cond.fieldLink R_Re 150 R_Te (F_Te 5).2.1 (F_Te 5).2.2.1 ∈ sw_tb := tb_mem 144 (by decide +kernel) (by decide +kernel)
theorem wf_Re_20 : Cond.fieldLink R_Re 20 R_Re (F_Re 3).2.1 (F_Re 3).2.2.1 ∈ sw_tb := tb_mem 175 (by decide +kernel) (by decide +kernel)
theorem wf_Re_24 : Cond.fieldLink R_Re 24 R_Re (F_Re 2).2.1 (F_Re 2).2.2.1 ∈ sw_tb := tb_mem 173 (by decide +kernel) (by decide +kernel)
theorem wf_Re_28 : Cond.fieldLink R_Re 28 R_Re (F_Re 0).2.1 (F_Re 0).2.2.1 ∈ sw_tb := tb_mem 169 (by decide +kernel) (by decide +kernel)
theorem wf_Re_31 : Cond.fieldLink R_Re 31 R_Re (F_Re 4).2.1 (F_Re 4).2.2.1 ∈ sw_tb := tb_mem 177 (by decide +kernel) (by decide +kernel)
theorem wf_Re_35 : Cond.fieldLink R_Re 35 R_Re (F_Re 6).2.1 (F_Re 6).2.2.1 ∈ sw_tb := tb_mem 179 (by decide +kernel) (by decide +kernel)
theorem wf_Re_38 : Cond.fieldLink R_Re 38 R_Re (F_Re 7).2.1 (F_Re 7).2.2.1 ∈ sw_tb := tb_mem 180 (by decide +kernel) (by decide +kernel)
theorem wf_Re_41 : Cond.fieldLink R_Re 41 R_Re (F_Re 8).2.1 (F_Re 8).2.2.1 ∈ sw_tb := tb_mem 181 (by decide +kernel) (by decide +kernel)
theorem wf_Re_44 : Cond.fieldLink R_Re 44 R_Te (F_Te 6).2.1 (F_Te 6).2.2.1 ∈ sw_tb := tb_mem 148 (by decide +kernel) (by decide +kernel)
theorem wf_Re_50 : Cond.fieldLink R_Re 50 R_Te (F_Te 0).2.1 (F_Te 0).2.2.1 ∈ sw_tb := tb_mem 125 (by decide +kernel) (by decide +kernel)
theorem wf_Re_53 : Cond.fieldLink R_Re 53 R_Te (F_Te 4).2.1 (F_Te 4).2.2.1 ∈ sw_tb := tb_mem 140 (by decide +kernel) (by decide +kernel)
theorem wf_Re_71 : Cond.fieldLink R_Re 71 R_Re (F_Re 5).2.1 (F_Re 5).2.2.1 ∈ sw_tb := tb_mem 178 (by decide +kernel) (by decide +kernel)
theorem wf_Re_9 : Cond.fieldLink R_Re 9 R_Re (F_Re 1).2.1 (F_Re 1).2.2.1 ∈ sw_tb := tb_mem 171 (by decide +kernel) (by decide +kernel)
theorem wf_Rk_15 : Cond.fieldLink R_Rk 15 R_Te (F_Te 6).2.1 (F_Te 6).2.2.1 ∈ sw_tb := tb_mem 147 (by decide +kernel) (by decide +kernel)
theorem wf_Rk_21 : Cond.fieldLink R_Rk 21 R_Te (F_Te 7).2.1 (F_Te 7).2.2.1 ∈ sw_tb := tb_mem 150 (by decide +kernel) (by decide +kernel)
theorem wf_Rk_25 : Cond.fieldLink R_Rk 25 R_Rk (F_Rk 0).2.1 (F_Rk 0).2.2.1 ∈ sw_tb := tb_mem 213 (by decide +kernel) (by decide +kernel)
theorem wf_Rk_9 : Cond.fieldLink R_Rk 9 R_Rk (F_Rk 1).2.1 (F_Rk 1).2.2.1 ∈ sw_tb := tb_mem 216 (by decide +kernel) (by decide +kernel)
theorem wf_Ro_11 : Cond.fieldLink R_Ro 11 R_Ro (F_Ro 0).2.1 (F_Ro 0).2.2.1 ∈ sw_tb := tb_mem 240 (by decide +kernel) (by decide +kernel)
theorem wf_Ro_15 : Cond.fieldLink R_Ro 15 R_Ro (F_Ro 1).2.1 (F_Ro 1).2.2.1 ∈ sw_tb := tb_mem 242 (by decide +kernel) (by decide +kernel)
theorem wf_Ro_20 : Cond.fieldLink R_Ro 20 R_Ro (F_Ro 2).2.1 (F_Ro 2).2.2.1 ∈ sw_tb := tb_mem 243 (by decide +kernel) (by decide +kernel)
theorem wf_Ro_23 : Cond.fieldLink R_Ro 23 R_Ro (F_Ro 3).2.1 (F_Ro 3).2.2.1 ∈ sw_tb := tb_mem 244 (by decide +kernel) (by decide +kernel)
theorem wf_Ro_26 : Cond.fieldLink R_Ro 26 R_Ro (F_Ro 4).2.1 (F_Ro 4).2.2.1 ∈ sw_tb := tb_mem 245 (by decide +kernel) (by decide +kernel)
theorem wf_Ro_29 : Cond.fieldLink R_Ro 29 R_Ro (F_Ro 5).2.1 (F_Ro 5).2.2.1 ∈ sw_tb := tb_mem 246 (by decide +kernel) (by decide +kernel)
theorem wf_Ro_42 : Cond.fieldLink R_Ro 42 R_Ro (F_Ro 6).2.1 (F_Ro 6).2.2.1 ∈ sw_tb := tb_mem 247 (by decide +kernel) (by decide +kernel)
theorem wf_Ro_46 : Cond.fieldLink R_Ro 46 R_Ro (F_Ro 7).2.1 (F_Ro 7).2.2.1 ∈ sw_tb := tb_mem 248 (by decide +kernel) (by decide +kernel)
theorem wf_Sx_106 : Cond.fieldLink R_Sx 106 R_Pl (F_Pl 3).2.1 (F_Pl 3).2.2.1 ∈ sw_tb := tb_mem 44 (by decide +kernel) (by decide +kernel)
theorem wf_Sx_109 : Cond.fieldLink R_Sx 109 R_Pl (F_Pl 1).2.1 (F_Pl 1).2.2.1 ∈ sw_tb := tb_mem 39 (by decide +kernel) (by decide +kernel)
theorem wf_Sx_112 : Cond.fieldLink R_Sx 112 R_Pl (F_Pl 2).2.1 (F_Pl 2).2.2.1 ∈ sw_tb := tb_mem 41 (by decide +kernel) (by decide +kernel)
theorem wf_Sx_12 : Cond.fieldLink R_Sx 12 R_Sx (F_Sx 0).2.1 (F_Sx 0).2.2.1 ∈ sw_tb := tb_mem 266 (by decide +kernel) (by decide +kernel)
theorem wf_Sx_150 : Cond.fieldLink R_Sx 150 "SeeSaws" "MOST_OF_TERM" "[I" ∈ sw_tb := tb_mem 443 (by decide +kernel) (by decide +kernel)
theorem wf_Sx_153 : Cond.fieldLink R_Sx 153 R_Pl (F_Pl 4).2.1 (F_Pl 4).2.2.1 ∈ sw_tb := tb_mem 49 (by decide +kernel) (by decide +kernel)
theorem wf_Sx_156 : Cond.fieldLink R_Sx 156 R_Re (F_Re 0).2.1 (F_Re 0).2.2.1 ∈ sw_tb := tb_mem 170 (by decide +kernel) (by decide +kernel)
theorem wf_Sx_16 : Cond.fieldLink R_Sx 16 R_Sx (F_Sx 1).2.1 (F_Sx 1).2.2.1 ∈ sw_tb := tb_mem 267 (by decide +kernel) (by decide +kernel)
theorem wf_Sx_163 : Cond.fieldLink R_Sx 163 R_Sx (F_Sx 15).2.1 (F_Sx 15).2.2.1 ∈ sw_tb := tb_mem 281 (by decide +kernel) (by decide +kernel)
theorem wf_Sx_166 : Cond.fieldLink R_Sx 166 R_Re (F_Re 1).2.1 (F_Re 1).2.2.1 ∈ sw_tb := tb_mem 172 (by decide +kernel) (by decide +kernel)
theorem wf_Sx_169 : Cond.fieldLink R_Sx 169 R_Pl (F_Pl 9).2.1 (F_Pl 9).2.2.1 ∈ sw_tb := tb_mem 60 (by decide +kernel) (by decide +kernel)
theorem wf_Sx_176 : Cond.fieldLink R_Sx 176 R_Re (F_Re 3).2.1 (F_Re 3).2.2.1 ∈ sw_tb := tb_mem 176 (by decide +kernel) (by decide +kernel)
theorem wf_Sx_19 : Cond.fieldLink R_Sx 19 R_Sx (F_Sx 2).2.1 (F_Sx 2).2.2.1 ∈ sw_tb := tb_mem 268 (by decide +kernel) (by decide +kernel)
theorem wf_Sx_197 : Cond.fieldLink R_Sx 197 R_Te (F_Te 0).2.1 (F_Te 0).2.2.1 ∈ sw_tb := tb_mem 127 (by decide +kernel) (by decide +kernel)
theorem wf_Sx_200 : Cond.fieldLink R_Sx 200 R_Te (F_Te 4).2.1 (F_Te 4).2.2.1 ∈ sw_tb := tb_mem 141 (by decide +kernel) (by decide +kernel)
theorem wf_Sx_207 : Cond.fieldLink R_Sx 207 R_Re (F_Re 2).2.1 (F_Re 2).2.2.1 ∈ sw_tb := tb_mem 174 (by decide +kernel) (by decide +kernel)
theorem wf_Sx_213 : Cond.fieldLink R_Sx 213 R_Pl (F_Pl 11).2.1 (F_Pl 11).2.2.1 ∈ sw_tb := tb_mem 64 (by decide +kernel) (by decide +kernel)
theorem wf_Sx_22 : Cond.fieldLink R_Sx 22 R_Sx (F_Sx 3).2.1 (F_Sx 3).2.2.1 ∈ sw_tb := tb_mem 269 (by decide +kernel) (by decide +kernel)
theorem wf_Sx_228 : Cond.fieldLink R_Sx 228 R_Hi (F_Hi 0).2.1 (F_Hi 0).2.2.1 ∈ sw_tb := tb_mem 99 (by decide +kernel) (by decide +kernel)
theorem wf_Sx_245 : Cond.fieldLink R_Sx 245 R_Ro (F_Ro 0).2.1 (F_Ro 0).2.2.1 ∈ sw_tb := tb_mem 241 (by decide +kernel) (by decide +kernel)
theorem wf_Sx_289 : Cond.fieldLink R_Sx 289 R_Pl (F_Pl 5).2.1 (F_Pl 5).2.2.1 ∈ sw_tb := tb_mem 52 (by decide +kernel) (by decide +kernel)
theorem wf_Sx_29 : Cond.fieldLink R_Sx 29 R_Sx (F_Sx 4).2.1 (F_Sx 4).2.2.1 ∈ sw_tb := tb_mem 270 (by decide +kernel) (by decide +kernel)
theorem wf_Sx_33 : Cond.fieldLink R_Sx 33 R_Sx (F_Sx 5).2.1 (F_Sx 5).2.2.1 ∈ sw_tb := tb_mem 271 (by decide +kernel) (by decide +kernel)
theorem wf_Sx_333 : Cond.fieldLink R_Sx 333 R_Sx (F_Sx 14).2.1 (F_Sx 14).2.2.1 ∈ sw_tb := tb_mem 280 (by decide +kernel) (by decide +kernel)
theorem wf_Sx_349 : Cond.fieldLink R_Sx 349 R_Te (F_Te 5).2.1 (F_Te 5).2.2.1 ∈ sw_tb := tb_mem 145 (by decide +kernel) (by decide +kernel)
theorem wf_Sx_356 : Cond.fieldLink R_Sx 356 R_Rk (F_Rk 0).2.1 (F_Rk 0).2.2.1 ∈ sw_tb := tb_mem 215 (by decide +kernel) (by decide +kernel)
theorem wf_Sx_359 : Cond.fieldLink R_Sx 359 R_Te (F_Te 1).2.1 (F_Te 1).2.2.1 ∈ sw_tb := tb_mem 131 (by decide +kernel) (by decide +kernel)
theorem wf_Sx_362 : Cond.fieldLink R_Sx 362 R_Te (F_Te 2).2.1 (F_Te 2).2.2.1 ∈ sw_tb := tb_mem 135 (by decide +kernel) (by decide +kernel)
theorem wf_Sx_363 : Cond.fieldLink R_Sx 363 R_Te (F_Te 3).2.1 (F_Te 3).2.2.1 ∈ sw_tb := tb_mem 138 (by decide +kernel) (by decide +kernel)
theorem wf_Sx_381 : Cond.fieldLink R_Sx 381 R_Pl (F_Pl 6).2.1 (F_Pl 6).2.2.1 ∈ sw_tb := tb_mem 54 (by decide +kernel) (by decide +kernel)
theorem wf_Sx_384 : Cond.fieldLink R_Sx 384 R_Pl (F_Pl 7).2.1 (F_Pl 7).2.2.1 ∈ sw_tb := tb_mem 56 (by decide +kernel) (by decide +kernel)
theorem wf_Sx_387 : Cond.fieldLink R_Sx 387 R_Pl (F_Pl 8).2.1 (F_Pl 8).2.2.1 ∈ sw_tb := tb_mem 58 (by decide +kernel) (by decide +kernel)
theorem wf_Sx_39 : Cond.fieldLink R_Sx 39 R_Sx (F_Sx 6).2.1 (F_Sx 6).2.2.1 ∈ sw_tb := tb_mem 272 (by decide +kernel) (by decide +kernel)
theorem wf_Sx_46 : Cond.fieldLink R_Sx 46 R_Sx (F_Sx 7).2.1 (F_Sx 7).2.2.1 ∈ sw_tb := tb_mem 273 (by decide +kernel) (by decide +kernel)
theorem wf_Sx_53 : Cond.fieldLink R_Sx 53 R_Sx (F_Sx 8).2.1 (F_Sx 8).2.2.1 ∈ sw_tb := tb_mem 274 (by decide +kernel) (by decide +kernel)
theorem wf_Sx_57 : Cond.fieldLink R_Sx 57 R_Sx (F_Sx 9).2.1 (F_Sx 9).2.2.1 ∈ sw_tb := tb_mem 275 (by decide +kernel) (by decide +kernel)
theorem wf_Sx_64 : Cond.fieldLink R_Sx 64 R_Sx (F_Sx 10).2.1 (F_Sx 10).2.2.1 ∈ sw_tb := tb_mem 276 (by decide +kernel) (by decide +kernel)
theorem wf_Sx_68 : Cond.fieldLink R_Sx 68 R_Sx (F_Sx 11).2.1 (F_Sx 11).2.2.1 ∈ sw_tb := tb_mem 277 (by decide +kernel) (by decide +kernel)
theorem wf_Sx_71 : Cond.fieldLink R_Sx 71 R_Sx (F_Sx 12).2.1 (F_Sx 12).2.2.1 ∈ sw_tb := tb_mem 278 (by decide +kernel) (by decide +kernel)
theorem wf_Sx_74 : Cond.fieldLink R_Sx 74 R_Sx (F_Sx 13).2.1 (F_Sx 13).2.2.1 ∈ sw_tb := tb_mem 279 (by decide +kernel) (by decide +kernel)
theorem wf_Sx_77 : Cond.fieldLink R_Sx 77 R_Sx (F_Sx 16).2.1 (F_Sx 16).2.2.1 ∈ sw_tb := tb_mem 282 (by decide +kernel) (by decide +kernel)
theorem wf_Sx_89 : Cond.fieldLink R_Sx 89 R_Pl (F_Pl 0).2.1 (F_Pl 0).2.2.1 ∈ sw_tb := tb_mem 35 (by decide +kernel) (by decide +kernel)
theorem wm_Hi_27 : Cond.methodLink R_Hi 27 arraycopyName ∈ sw_tb := tb_mem 684 (by decide +kernel) (by decide +kernel)
theorem wm_Hi_39 : Cond.methodLink R_Hi 39 Lib.Math.min.name ∈ sw_tb := tb_mem 717 (by decide +kernel) (by decide +kernel)
theorem wm_Ju_22 : Cond.methodLink R_Ju 22 yJu_ask ∈ sw_tb := tb_mem 361 (by decide +kernel) (by decide +kernel)
theorem wm_Ju_32 : Cond.methodLink R_Ju 32 yPl_textOf ∈ sw_tb := tb_mem 365 (by decide +kernel) (by decide +kernel)
theorem wm_Ju_39 : Cond.methodLink R_Ju 39 yJu_lastTold ∈ sw_tb := tb_mem 373 (by decide +kernel) (by decide +kernel)
theorem wm_Ju_51 : Cond.methodLink R_Ju 51 yJu_holds ∈ sw_tb := tb_mem 380 (by decide +kernel) (by decide +kernel)
theorem wm_Ju_55 : Cond.methodLink R_Ju 55 yPl_isOn ∈ sw_tb := tb_mem 423 (by decide +kernel) (by decide +kernel)
theorem wm_Ju_62 : Cond.methodLink R_Ju 62 Lib.Math.max.name ∈ sw_tb := tb_mem 394 (by decide +kernel) (by decide +kernel)
theorem wm_Ju_74 : Cond.methodLink R_Ju 74 Lib.Math.min.name ∈ sw_tb := tb_mem 377 (by decide +kernel) (by decide +kernel)
theorem wm_Ju_80 : Cond.methodLink R_Ju 80 yRk_works ∈ sw_tb := tb_mem 384 (by decide +kernel) (by decide +kernel)
theorem wm_Pl_46 : Cond.methodLink R_Pl 46 yPl_hasClaim ∈ sw_tb := tb_mem 356 (by decide +kernel) (by decide +kernel)
theorem wm_Pl_53 : Cond.methodLink R_Pl 53 yPl_hasLaw ∈ sw_tb := tb_mem 369 (by decide +kernel) (by decide +kernel)
theorem wm_Pl_56 : Cond.methodLink R_Pl 56 yPl_isOn ∈ sw_tb := tb_mem 697 (by decide +kernel) (by decide +kernel)
theorem wm_Pl_62 : Cond.methodLink R_Pl 62 arraycopyName ∈ sw_tb := tb_mem 679 (by decide +kernel) (by decide +kernel)
theorem wm_Re_113 : Cond.methodLink R_Re 113 yRe_placeOfSum ∈ sw_tb := tb_mem 541 (by decide +kernel) (by decide +kernel)
theorem wm_Re_120 : Cond.methodLink R_Re 120 yRe_expect ∈ sw_tb := tb_mem 613 (by decide +kernel) (by decide +kernel)
theorem wm_Re_140 : Cond.methodLink R_Re 140 yRe_expectNumber ∈ sw_tb := tb_mem 601 (by decide +kernel) (by decide +kernel)
theorem wm_Re_143 : Cond.methodLink R_Re 143 yRe_readSum ∈ sw_tb := tb_mem 545 (by decide +kernel) (by decide +kernel)
theorem wm_Re_146 : Cond.methodLink R_Re 146 yRe_emit ∈ sw_tb := tb_mem 597 (by decide +kernel) (by decide +kernel)
theorem wm_Re_155 : Cond.methodLink R_Re 155 yRe_readTest ∈ sw_tb := tb_mem 632 (by decide +kernel) (by decide +kernel)
theorem wm_Re_158 : Cond.methodLink R_Re 158 yRe_readBoth ∈ sw_tb := tb_mem 636 (by decide +kernel) (by decide +kernel)
theorem wm_Re_163 : Cond.methodLink R_Re 163 yRe_leadHere ∈ sw_tb := tb_mem 651 (by decide +kernel) (by decide +kernel)
theorem wm_Re_166 : Cond.methodLink R_Re 166 yRe_readPlain ∈ sw_tb := tb_mem 640 (by decide +kernel) (by decide +kernel)
theorem wm_Re_175 : Cond.methodLink R_Re 175 yRe_opens ∈ sw_tb := tb_mem 558 (by decide +kernel) (by decide +kernel)
theorem wm_Re_181 : Cond.methodLink R_Re 181 yRe_closes ∈ sw_tb := tb_mem 567 (by decide +kernel) (by decide +kernel)
theorem wm_Re_190 : Cond.methodLink R_Re 190 yRe_readTerm ∈ sw_tb := tb_mem 549 (by decide +kernel) (by decide +kernel)
theorem wm_Re_197 : Cond.methodLink R_Re 197 yRe_readPart ∈ sw_tb := tb_mem 553 (by decide +kernel) (by decide +kernel)
theorem wm_Re_210 : Cond.methodLink R_Re 210 yRe_lawWord ∈ sw_tb := tb_mem 576 (by decide +kernel) (by decide +kernel)
theorem wm_Re_213 : Cond.methodLink R_Re 213 yRe_orderWord ∈ sw_tb := tb_mem 588 (by decide +kernel) (by decide +kernel)
theorem wm_Re_216 : Cond.methodLink R_Re 216 Lib.Math.max.name ∈ sw_tb := tb_mem 605 (by decide +kernel) (by decide +kernel)
theorem wm_Re_47 : Cond.methodLink R_Re 47 yRe_advance ∈ sw_tb := tb_mem 473 (by decide +kernel) (by decide +kernel)
theorem wm_Re_56 : Cond.methodLink R_Re 56 yRe_readRule ∈ sw_tb := tb_mem 480 (by decide +kernel) (by decide +kernel)
theorem wm_Re_59 : Cond.methodLink R_Re 59 yRe_readOrder ∈ sw_tb := tb_mem 617 (by decide +kernel) (by decide +kernel)
theorem wm_Re_62 : Cond.methodLink R_Re 62 yRe_readIf ∈ sw_tb := tb_mem 627 (by decide +kernel) (by decide +kernel)
theorem wm_Re_67 : Cond.methodLink R_Re 67 yRe_accepts ∈ sw_tb := tb_mem 485 (by decide +kernel) (by decide +kernel)
theorem wm_Re_74 : Cond.methodLink R_Re 74 yRe_fail ∈ sw_tb := tb_mem 562 (by decide +kernel) (by decide +kernel)
theorem wm_Re_77 : Cond.methodLink R_Re 77 yRe_sortOf ∈ sw_tb := tb_mem 477 (by decide +kernel) (by decide +kernel)
theorem wm_Re_81 : Cond.methodLink R_Re 81 ySt_length ∈ sw_tb := tb_mem 493 (by decide +kernel) (by decide +kernel)
theorem wm_Re_86 : Cond.methodLink R_Re 86 ySt_charAt ∈ sw_tb := tb_mem 503 (by decide +kernel) (by decide +kernel)
theorem wm_Re_90 : Cond.methodLink R_Re 90 yRe_isToken ∈ sw_tb := tb_mem 489 (by decide +kernel) (by decide +kernel)
theorem wm_Re_93 : Cond.methodLink R_Re 93 Lib.Math.min.name ∈ sw_tb := tb_mem 575 (by decide +kernel) (by decide +kernel)
theorem wm_Re_99 : Cond.methodLink R_Re 99 yRe_numberFrom ∈ sw_tb := tb_mem 571 (by decide +kernel) (by decide +kernel)
theorem wm_Rk_28 : Cond.methodLink R_Rk 28 yRk_combine ∈ sw_tb := tb_mem 388 (by decide +kernel) (by decide +kernel)
theorem wm_Ro_32 : Cond.methodLink R_Ro 32 yAr_fill ∈ sw_tb := tb_mem 783 (by decide +kernel) (by decide +kernel)
theorem wm_Ro_38 : Cond.methodLink R_Ro 38 yRo_tallyFrom ∈ sw_tb := tb_mem 794 (by decide +kernel) (by decide +kernel)
theorem wm_Ro_49 : Cond.methodLink R_Ro 49 yRo_manyFrom ∈ sw_tb := tb_mem 802 (by decide +kernel) (by decide +kernel)
theorem wm_Ro_53 : Cond.methodLink R_Ro 53 yRo_manyTails ∈ sw_tb := tb_mem 806 (by decide +kernel) (by decide +kernel)
theorem wm_Ro_57 : Cond.methodLink R_Ro 57 Lib.Math.max.name ∈ sw_tb := tb_mem 810 (by decide +kernel) (by decide +kernel)
theorem wm_Ro_62 : Cond.methodLink R_Ro 62 Lib.Math.min.name ∈ sw_tb := tb_mem 811 (by decide +kernel) (by decide +kernel)
theorem wm_Ro_65 : Cond.methodLink R_Ro 65 yRo_findsFrom ∈ sw_tb := tb_mem 816 (by decide +kernel) (by decide +kernel)
theorem wm_Ro_69 : Cond.methodLink R_Ro 69 Lib.Math.abs.name ∈ sw_tb := tb_mem 820 (by decide +kernel) (by decide +kernel)
theorem wm_Ro_73 : Cond.methodLink R_Ro 73 yRo_finds ∈ sw_tb := tb_mem 829 (by decide +kernel) (by decide +kernel)
theorem wm_Sx_102 : Cond.methodLink R_Sx 102 yPl_hasClaim ∈ sw_tb := tb_mem 348 (by decide +kernel) (by decide +kernel)
theorem wm_Sx_115 : Cond.methodLink R_Sx 115 yPl_isOn ∈ sw_tb := tb_mem 352 (by decide +kernel) (by decide +kernel)
theorem wm_Sx_118 : Cond.methodLink R_Sx 118 yJu_countAt ∈ sw_tb := tb_mem 357 (by decide +kernel) (by decide +kernel)
theorem wm_Sx_122 : Cond.methodLink R_Sx 122 yJu_shedAt ∈ sw_tb := tb_mem 395 (by decide +kernel) (by decide +kernel)
theorem wm_Sx_125 : Cond.methodLink R_Sx 125 ySx_isPlace ∈ sw_tb := tb_mem 403 (by decide +kernel) (by decide +kernel)
theorem wm_Sx_128 : Cond.methodLink R_Sx 128 yJu_barsAt ∈ sw_tb := tb_mem 406 (by decide +kernel) (by decide +kernel)
theorem wm_Sx_132 : Cond.methodLink R_Sx 132 ySx_tiltWithout ∈ sw_tb := tb_mem 410 (by decide +kernel) (by decide +kernel)
theorem wm_Sx_135 : Cond.methodLink R_Sx 135 ySx_weightAt ∈ sw_tb := tb_mem 424 (by decide +kernel) (by decide +kernel)
theorem wm_Sx_138 : Cond.methodLink R_Sx 138 Lib.Math.abs.name ∈ sw_tb := tb_mem 428 (by decide +kernel) (by decide +kernel)
theorem wm_Sx_143 : Cond.methodLink R_Sx 143 ySx_tiltNow ∈ sw_tb := tb_mem 414 (by decide +kernel) (by decide +kernel)
theorem wm_Sx_147 : Cond.methodLink R_Sx 147 ySx_isLevel ∈ sw_tb := tb_mem 435 (by decide +kernel) (by decide +kernel)
theorem wm_Sx_159 : Cond.methodLink R_Sx 159 yRe_append ∈ sw_tb := tb_mem 449 (by decide +kernel) (by decide +kernel)
theorem wm_Sx_172 : Cond.methodLink R_Sx 172 yRe_reads ∈ sw_tb := tb_mem 469 (by decide +kernel) (by decide +kernel)
theorem wm_Sx_190 : Cond.methodLink R_Sx 190 yPl_become ∈ sw_tb := tb_mem 675 (by decide +kernel) (by decide +kernel)
theorem wm_Sx_194 : Cond.methodLink R_Sx 194 yHi_become ∈ sw_tb := tb_mem 680 (by decide +kernel) (by decide +kernel)
theorem wm_Sx_203 : Cond.methodLink R_Sx 203 ySx_runsOnce ∈ sw_tb := tb_mem 685 (by decide +kernel) (by decide +kernel)
theorem wm_Sx_210 : Cond.methodLink R_Sx 210 yPl_hasLaw ∈ sw_tb := tb_mem 746 (by decide +kernel) (by decide +kernel)
theorem wm_Sx_216 : Cond.methodLink R_Sx 216 ySx_puts ∈ sw_tb := tb_mem 705 (by decide +kernel) (by decide +kernel)
theorem wm_Sx_219 : Cond.methodLink R_Sx 219 ySx_takes ∈ sw_tb := tb_mem 718 (by decide +kernel) (by decide +kernel)
theorem wm_Sx_222 : Cond.methodLink R_Sx 222 ySx_pads ∈ sw_tb := tb_mem 722 (by decide +kernel) (by decide +kernel)
theorem wm_Sx_225 : Cond.methodLink R_Sx 225 ySx_passes ∈ sw_tb := tb_mem 726 (by decide +kernel) (by decide +kernel)
theorem wm_Sx_231 : Cond.methodLink R_Sx 231 yHi_giveBack ∈ sw_tb := tb_mem 767 (by decide +kernel) (by decide +kernel)
theorem wm_Sx_235 : Cond.methodLink R_Sx 235 ySx_offerPlaces ∈ sw_tb := tb_mem 775 (by decide +kernel) (by decide +kernel)
theorem wm_Sx_239 : Cond.methodLink R_Sx 239 yRo_howMany ∈ sw_tb := tb_mem 798 (by decide +kernel) (by decide +kernel)
theorem wm_Sx_242 : Cond.methodLink R_Sx 242 yRo_finds ∈ sw_tb := tb_mem 812 (by decide +kernel) (by decide +kernel)
theorem wm_Sx_248 : Cond.methodLink R_Sx 248 yRo_leastWeight ∈ sw_tb := tb_mem 825 (by decide +kernel) (by decide +kernel)
theorem wm_Sx_251 : Cond.methodLink R_Sx 251 ySx_levelsAlone ∈ sw_tb := tb_mem 838 (by decide +kernel) (by decide +kernel)
theorem wm_Sx_254 : Cond.methodLink R_Sx 254 ySx_canExchange ∈ sw_tb := tb_mem 846 (by decide +kernel) (by decide +kernel)
theorem wm_Sx_257 : Cond.methodLink R_Sx 257 ySx_tiltByExchange ∈ sw_tb := tb_mem 850 (by decide +kernel) (by decide +kernel)
theorem wm_Sx_260 : Cond.methodLink R_Sx 260 ySx_sumHeavies ∈ sw_tb := tb_mem 858 (by decide +kernel) (by decide +kernel)
theorem wm_Sx_263 : Cond.methodLink R_Sx 263 yPl_onBits ∈ sw_tb := tb_mem 693 (by decide +kernel) (by decide +kernel)
theorem wm_Sx_266 : Cond.methodLink R_Sx 266 ySx_sumTilts ∈ sw_tb := tb_mem 870 (by decide +kernel) (by decide +kernel)
theorem wm_Sx_269 : Cond.methodLink R_Sx 269 ySx_findOrders ∈ sw_tb := tb_mem 874 (by decide +kernel) (by decide +kernel)
theorem wm_Sx_272 : Cond.methodLink R_Sx 272 yIn_bitCount ∈ sw_tb := tb_mem 698 (by decide +kernel) (by decide +kernel)
theorem wm_Sx_277 : Cond.methodLink R_Sx 277 ySx_firstWithOrders ∈ sw_tb := tb_mem 882 (by decide +kernel) (by decide +kernel)
theorem wm_Sx_280 : Cond.methodLink R_Sx 280 ySx_findWins ∈ sw_tb := tb_mem 890 (by decide +kernel) (by decide +kernel)
theorem wm_Sx_283 : Cond.methodLink R_Sx 283 ySx_winningClaim ∈ sw_tb := tb_mem 894 (by decide +kernel) (by decide +kernel)
theorem wm_Sx_286 : Cond.methodLink R_Sx 286 ySx_areBits ∈ sw_tb := tb_mem 902 (by decide +kernel) (by decide +kernel)
theorem wm_Sx_292 : Cond.methodLink R_Sx 292 yPl_addWeighing ∈ sw_tb := tb_mem 905 (by decide +kernel) (by decide +kernel)
theorem wm_Sx_296 : Cond.methodLink R_Sx 296 ySx_fits ∈ sw_tb := tb_mem 917 (by decide +kernel) (by decide +kernel)
theorem wm_Sx_299 : Cond.methodLink R_Sx 299 ySx_canBe ∈ sw_tb := tb_mem 925 (by decide +kernel) (by decide +kernel)
theorem wm_Sx_302 : Cond.methodLink R_Sx 302 ySx_bestWeighing ∈ sw_tb := tb_mem 926 (by decide +kernel) (by decide +kernel)
theorem wm_Sx_311 : Cond.methodLink R_Sx 311 yPl_textOf ∈ sw_tb := tb_mem 418 (by decide +kernel) (by decide +kernel)
theorem wm_Sx_315 : Cond.methodLink R_Sx 315 yJu_tiltBy ∈ sw_tb := tb_mem 419 (by decide +kernel) (by decide +kernel)
theorem wm_Sx_320 : Cond.methodLink R_Sx 320 ySx_nextSeed ∈ sw_tb := tb_mem 952 (by decide +kernel) (by decide +kernel)
theorem wm_Sx_323 : Cond.methodLink R_Sx 323 ySx_drawOnPaper ∈ sw_tb := tb_mem 956 (by decide +kernel) (by decide +kernel)
theorem wm_Sx_327 : Cond.methodLink R_Sx 327 yJu_passDay ∈ sw_tb := tb_mem 730 (by decide +kernel) (by decide +kernel)
theorem wm_Sx_330 : Cond.methodLink R_Sx 330 yPl_heavyOfAll ∈ sw_tb := tb_mem 976 (by decide +kernel) (by decide +kernel)
theorem wm_Sx_336 : Cond.methodLink R_Sx 336 ySx_canBeHeavy ∈ sw_tb := tb_mem 325 (by decide +kernel) (by decide +kernel)
theorem wm_Sx_339 : Cond.methodLink R_Sx 339 ySx_canPut ∈ sw_tb := tb_mem 709 (by decide +kernel) (by decide +kernel)
theorem wm_Sx_342 : Cond.methodLink R_Sx 342 yHi_keep ∈ sw_tb := tb_mem 713 (by decide +kernel) (by decide +kernel)
theorem wm_Sx_346 : Cond.methodLink R_Sx 346 ySx_tellWords ∈ sw_tb := tb_mem 689 (by decide +kernel) (by decide +kernel)
theorem wm_Sx_352 : Cond.methodLink R_Sx 352 yRk_works ∈ sw_tb := tb_mem 704 (by decide +kernel) (by decide +kernel)
theorem wm_Sx_366 : Cond.methodLink R_Sx 366 yRo_clear ∈ sw_tb := tb_mem 779 (by decide +kernel) (by decide +kernel)
theorem wm_Sx_367 : Cond.methodLink R_Sx 367 yRo_offer ∈ sw_tb := tb_mem 786 (by decide +kernel) (by decide +kernel)
theorem wm_Sx_371 : Cond.methodLink R_Sx 371 yRo_tallyTails ∈ sw_tb := tb_mem 790 (by decide +kernel) (by decide +kernel)
theorem wm_Sx_374 : Cond.methodLink R_Sx 374 ySx_sumWith ∈ sw_tb := tb_mem 862 (by decide +kernel) (by decide +kernel)
theorem wm_Sx_378 : Cond.methodLink R_Sx 378 ySx_canTake ∈ sw_tb := tb_mem 878 (by decide +kernel) (by decide +kernel)
theorem wm_Sx_391 : Cond.methodLink R_Sx 391 ySx_mostAlike ∈ sw_tb := tb_mem 931 (by decide +kernel) (by decide +kernel)
theorem wm_Sx_395 : Cond.methodLink R_Sx 395 Lib.Math.min.name ∈ sw_tb := tb_mem 935 (by decide +kernel) (by decide +kernel)
theorem wm_Sx_398 : Cond.methodLink R_Sx 398 Lib.Math.max.name ∈ sw_tb := tb_mem 934 (by decide +kernel) (by decide +kernel)
theorem wm_Sx_81 : Cond.methodLink R_Sx 81 ySx_canBeClaim ∈ sw_tb := tb_mem 322 (by decide +kernel) (by decide +kernel)
theorem wm_Sx_85 : Cond.methodLink R_Sx 85 ySx_refuse ∈ sw_tb := tb_mem 328 (by decide +kernel) (by decide +kernel)
theorem wm_Sx_92 : Cond.methodLink R_Sx 92 yHi_clear ∈ sw_tb := tb_mem 332 (by decide +kernel) (by decide +kernel)
theorem wm_Sx_95 : Cond.methodLink R_Sx 95 yPl_addClaim ∈ sw_tb := tb_mem 336 (by decide +kernel) (by decide +kernel)
theorem wm_Sx_99 : Cond.methodLink R_Sx 99 ySx_told ∈ sw_tb := tb_mem 340 (by decide +kernel) (by decide +kernel)
