def yMo_lies : MethodName := ⟨R_Mo, "lies", "(III)Z"⟩
theorem kMo_lies : sw_ys yMo_lies prog_10_method_1_code 3 (some .boolean) 3 := ⟨⟨tb_mem 1158 (by decide +kernel) (by decide +kernel), tb_mem 10 (by decide +kernel) (by decide +kernel), by decide +kernel, by decide +kernel, by decide +kernel⟩, tb_mem 1157 (by decide +kernel) (by decide +kernel)⟩
abbrev rmMo_lies : Room := { frames := 0, cells := 0, slots := 0, locals := 0 }
def yMo_lesser : MethodName := ⟨R_Mo, "lesser", "(II)I"⟩
theorem kMo_lesser : sw_ys yMo_lesser prog_10_method_2_code 2 (some .int) 2 := ⟨⟨tb_mem 1537 (by decide +kernel) (by decide +kernel), tb_mem 10 (by decide +kernel) (by decide +kernel), by decide +kernel, by decide +kernel, by decide +kernel⟩, tb_mem 1536 (by decide +kernel) (by decide +kernel)⟩
abbrev rmMo_lesser : Room := { frames := 0, cells := 0, slots := 0, locals := 0 }
def yMo_greater : MethodName := ⟨R_Mo, "greater", "(II)I"⟩
theorem kMo_greater : sw_ys yMo_greater prog_10_method_3_code 2 (some .int) 2 := ⟨⟨tb_mem 1494 (by decide +kernel) (by decide +kernel), tb_mem 10 (by decide +kernel) (by decide +kernel), by decide +kernel, by decide +kernel, by decide +kernel⟩, tb_mem 1493 (by decide +kernel) (by decide +kernel)⟩
abbrev rmMo_greater : Room := { frames := 0, cells := 0, slots := 0, locals := 0 }
def yMo_either : MethodName := ⟨R_Mo, "either", "(I)I"⟩
theorem kMo_either : sw_ys yMo_either prog_10_method_4_code 1 (some .int) 1 := ⟨⟨tb_mem 1298 (by decide +kernel) (by decide +kernel), tb_mem 10 (by decide +kernel) (by decide +kernel), by decide +kernel, by decide +kernel, by decide +kernel⟩, tb_mem 1297 (by decide +kernel) (by decide +kernel)⟩
abbrev rmMo_either : Room := { frames := 0, cells := 0, slots := 0, locals := 0 }
def yMo_refuses : MethodName := ⟨R_Mo, "refuses", "(I)I"⟩
theorem kMo_refuses : sw_yv yMo_refuses prog_10_method_5_code 2 (some .int) 1 := ⟨⟨tb_mem 1162 (by decide +kernel) (by decide +kernel), tb_mem 10 (by decide +kernel) (by decide +kernel), by decide +kernel, by decide +kernel, by decide +kernel⟩, tb_mem 1161 (by decide +kernel) (by decide +kernel), ts_mem 58 (by decide +kernel) (by decide +kernel)⟩
abbrev rmMo_refuses : Room := { frames := 0, cells := 0, slots := 0, locals := 0 }
def yMo_good : MethodName := ⟨R_Mo, "good", "(I)I"⟩
theorem kMo_good : sw_yv yMo_good prog_10_method_6_code 2 (some .int) 1 := ⟨⟨tb_mem 1166 (by decide +kernel) (by decide +kernel), tb_mem 10 (by decide +kernel) (by decide +kernel), by decide +kernel, by decide +kernel, by decide +kernel⟩, tb_mem 1165 (by decide +kernel) (by decide +kernel), ts_mem 59 (by decide +kernel) (by decide +kernel)⟩
abbrev rmMo_good : Room := { frames := 0, cells := 0, slots := 0, locals := 0 }
def yMo_settled : MethodName := ⟨R_Mo, "settled", "(I)I"⟩
theorem kMo_settled : sw_yv yMo_settled prog_10_method_7_code 2 (some .int) 1 := ⟨⟨tb_mem 1174 (by decide +kernel) (by decide +kernel), tb_mem 10 (by decide +kernel) (by decide +kernel), by decide +kernel, by decide +kernel, by decide +kernel⟩, tb_mem 1173 (by decide +kernel) (by decide +kernel), ts_mem 60 (by decide +kernel) (by decide +kernel)⟩
abbrev rmMo_settled : Room := { frames := 1, cells := 0, slots := 0, locals := 21 }
def yMo_isIn : MethodName := ⟨R_Mo, "isIn", "(II)Z"⟩
theorem kMo_isIn : sw_ys yMo_isIn prog_10_method_8_code 2 (some .boolean) 2 := ⟨⟨tb_mem 1584 (by decide +kernel) (by decide +kernel), tb_mem 10 (by decide +kernel) (by decide +kernel), by decide +kernel, by decide +kernel, by decide +kernel⟩, tb_mem 1583 (by decide +kernel) (by decide +kernel)⟩
abbrev rmMo_isIn : Room := { frames := 0, cells := 0, slots := 0, locals := 0 }
def yMo_isPlace : MethodName := ⟨R_Mo, "isPlace", "(I)Z"⟩
theorem kMo_isPlace : sw_ys yMo_isPlace prog_10_method_9_code 1 (some .boolean) 1 := ⟨⟨tb_mem 1283 (by decide +kernel) (by decide +kernel), tb_mem 10 (by decide +kernel) (by decide +kernel), by decide +kernel, by decide +kernel, by decide +kernel⟩, tb_mem 1282 (by decide +kernel) (by decide +kernel)⟩
abbrev rmMo_isPlace : Room := { frames := 1, cells := 0, slots := 0, locals := 22 }
def yMo_isHeavy : MethodName := ⟨R_Mo, "isHeavy", "(I)Z"⟩
theorem kMo_isHeavy : sw_ys yMo_isHeavy prog_10_method_10_code 1 (some .boolean) 1 := ⟨⟨tb_mem 1184 (by decide +kernel) (by decide +kernel), tb_mem 10 (by decide +kernel) (by decide +kernel), by decide +kernel, by decide +kernel, by decide +kernel⟩, tb_mem 1183 (by decide +kernel) (by decide +kernel)⟩
abbrev rmMo_isHeavy : Room := { frames := 1, cells := 0, slots := 0, locals := 22 }
def yMo_armOf : MethodName := ⟨R_Mo, "armOf", "(I)I"⟩
theorem kMo_armOf : sw_ys yMo_armOf prog_10_method_11_code 1 (some .int) 1 := ⟨⟨tb_mem 1219 (by decide +kernel) (by decide +kernel), tb_mem 10 (by decide +kernel) (by decide +kernel), by decide +kernel, by decide +kernel, by decide +kernel⟩, tb_mem 1218 (by decide +kernel) (by decide +kernel)⟩
abbrev rmMo_armOf : Room := { frames := 0, cells := 0, slots := 0, locals := 0 }
def yMo_laysAside : MethodName := ⟨R_Mo, "laysAside", "(I)V"⟩
theorem kMo_laysAside : sw_yv yMo_laysAside prog_10_method_13_code 3 (none) 1 := ⟨⟨tb_mem 1664 (by decide +kernel) (by decide +kernel), tb_mem 10 (by decide +kernel) (by decide +kernel), by decide +kernel, by decide +kernel, by decide +kernel⟩, tb_mem 1663 (by decide +kernel) (by decide +kernel), ts_mem 138 (by decide +kernel) (by decide +kernel)⟩
abbrev rmMo_laysAside : Room := { frames := 0, cells := 0, slots := 0, locals := 0 }
def yMo_takesBack : MethodName := ⟨R_Mo, "takesBack", "(I)V"⟩
theorem kMo_takesBack : sw_yv yMo_takesBack prog_10_method_14_code 3 (none) 1 := ⟨⟨tb_mem 1684 (by decide +kernel) (by decide +kernel), tb_mem 10 (by decide +kernel) (by decide +kernel), by decide +kernel, by decide +kernel, by decide +kernel⟩, tb_mem 1683 (by decide +kernel) (by decide +kernel), ts_mem 142 (by decide +kernel) (by decide +kernel)⟩
abbrev rmMo_takesBack : Room := { frames := 0, cells := 0, slots := 0, locals := 0 }
def yMo_image : MethodName := ⟨R_Mo, "image", "(I)I"⟩
theorem kMo_image : sw_yv yMo_image prog_10_method_15_code 3 (some .int) 1 := ⟨⟨tb_mem 1155 (by decide +kernel) (by decide +kernel), tb_mem 10 (by decide +kernel) (by decide +kernel), by decide +kernel, by decide +kernel, by decide +kernel⟩, tb_mem 1153 (by decide +kernel) (by decide +kernel), tb_mem 1154 (by decide +kernel) (by decide +kernel)⟩
abbrev rmMo_image : Room := { frames := 1, cells := 0, slots := 0, locals := 22 }
def yMo_back : MethodName := ⟨R_Mo, "back", "(I)I"⟩
theorem kMo_back : sw_yv yMo_back prog_10_method_16_code 3 (some .int) 1 := ⟨⟨tb_mem 1170 (by decide +kernel) (by decide +kernel), tb_mem 10 (by decide +kernel) (by decide +kernel), by decide +kernel, by decide +kernel, by decide +kernel⟩, tb_mem 1168 (by decide +kernel) (by decide +kernel), tb_mem 1169 (by decide +kernel) (by decide +kernel)⟩
abbrev rmMo_back : Room := { frames := 2, cells := 0, slots := 0, locals := 42 }
def yMo_many : MethodName := ⟨R_Mo, "many", "()I"⟩
theorem kMo_many : sw_yv yMo_many prog_10_method_17_code 1 (some .int) 0 := ⟨⟨tb_mem 1188 (by decide +kernel) (by decide +kernel), tb_mem 10 (by decide +kernel) (by decide +kernel), by decide +kernel, by decide +kernel, by decide +kernel⟩, tb_mem 1187 (by decide +kernel) (by decide +kernel), ts_mem 61 (by decide +kernel) (by decide +kernel)⟩
abbrev rmMo_many : Room := { frames := 0, cells := 0, slots := 0, locals := 0 }
def yMo_everything : MethodName := ⟨R_Mo, "everything", "()I"⟩
theorem kMo_everything : sw_yv yMo_everything prog_10_method_18_code 1 (some .int) 0 := ⟨⟨tb_mem 1577 (by decide +kernel) (by decide +kernel), tb_mem 10 (by decide +kernel) (by decide +kernel), by decide +kernel, by decide +kernel, by decide +kernel⟩, tb_mem 1576 (by decide +kernel) (by decide +kernel), ts_mem 127 (by decide +kernel) (by decide +kernel)⟩
abbrev rmMo_everything : Room := { frames := 1, cells := 0, slots := 0, locals := 20 }
def yMo_isClaim : MethodName := ⟨R_Mo, "isClaim", "(I)Z"⟩
theorem kMo_isClaim : sw_yv yMo_isClaim prog_10_method_19_code 2 (some .boolean) 1 := ⟨⟨tb_mem 1200 (by decide +kernel) (by decide +kernel), tb_mem 10 (by decide +kernel) (by decide +kernel), by decide +kernel, by decide +kernel, by decide +kernel⟩, tb_mem 1199 (by decide +kernel) (by decide +kernel), ts_mem 63 (by decide +kernel) (by decide +kernel)⟩
abbrev rmMo_isClaim : Room := { frames := 1, cells := 0, slots := 0, locals := 22 }
def yMo_isOn : MethodName := ⟨R_Mo, "isOn", "(I)Z"⟩
theorem kMo_isOn : sw_yv yMo_isOn prog_10_method_20_code 2 (some .boolean) 1 := ⟨⟨tb_mem 1204 (by decide +kernel) (by decide +kernel), tb_mem 10 (by decide +kernel) (by decide +kernel), by decide +kernel, by decide +kernel, by decide +kernel⟩, tb_mem 1203 (by decide +kernel) (by decide +kernel), ts_mem 64 (by decide +kernel) (by decide +kernel)⟩
abbrev rmMo_isOn : Room := { frames := 0, cells := 0, slots := 0, locals := 0 }
def yMo_canBe0 : MethodName := ⟨R_Mo, "canBe0", "(II)Z"⟩
theorem kMo_canBe0 : sw_ys yMo_canBe0 prog_10_method_21_code 2 (some .boolean) 2 := ⟨⟨tb_mem 1181 (by decide +kernel) (by decide +kernel), tb_mem 10 (by decide +kernel) (by decide +kernel), by decide +kernel, by decide +kernel, by decide +kernel⟩, tb_mem 1180 (by decide +kernel) (by decide +kernel)⟩
abbrev rmMo_canBe0 : Room := { frames := 2, cells := 0, slots := 0, locals := 42 }
def yMo_adds : MethodName := ⟨R_Mo, "adds", "(II)V"⟩
theorem kMo_adds : sw_yv yMo_adds prog_10_method_22_code 4 (none) 2 := ⟨⟨tb_mem 1192 (by decide +kernel) (by decide +kernel), tb_mem 10 (by decide +kernel) (by decide +kernel), by decide +kernel, by decide +kernel, by decide +kernel⟩, tb_mem 1191 (by decide +kernel) (by decide +kernel), ts_mem 62 (by decide +kernel) (by decide +kernel)⟩
abbrev rmMo_adds : Room := { frames := 1, cells := 0, slots := 0, locals := 20 }
def yMo_claim : MethodName := ⟨R_Mo, "claim", "(II)I"⟩
theorem kMo_claim : sw_yv yMo_claim prog_10_method_23_code 3 (some .int) 2 := ⟨⟨tb_mem 1178 (by decide +kernel) (by decide +kernel), tb_mem 10 (by decide +kernel) (by decide +kernel), by decide +kernel, by decide +kernel, by decide +kernel⟩, tb_mem 1176 (by decide +kernel) (by decide +kernel), tb_mem 1177 (by decide +kernel) (by decide +kernel)⟩
abbrev rmMo_claim : Room := { frames := 3, cells := 0, slots := 0, locals := 63 }
def yMo_isTerm : MethodName := ⟨R_Mo, "isTerm", "(II)Z"⟩
theorem kMo_isTerm : sw_ys yMo_isTerm prog_10_method_27_code 2 (some .boolean) 2 := ⟨⟨tb_mem 1313 (by decide +kernel) (by decide +kernel), tb_mem 10 (by decide +kernel) (by decide +kernel), by decide +kernel, by decide +kernel, by decide +kernel⟩, tb_mem 1312 (by decide +kernel) (by decide +kernel)⟩
abbrev rmMo_isTerm : Room := { frames := 1, cells := 0, slots := 0, locals := 22 }
def yMo_termAt : MethodName := ⟨R_Mo, "termAt", "(I)I"⟩
theorem kMo_termAt : sw_ys yMo_termAt prog_10_method_28_code 1 (some .int) 1 := ⟨⟨tb_mem 1316 (by decide +kernel) (by decide +kernel), tb_mem 10 (by decide +kernel) (by decide +kernel), by decide +kernel, by decide +kernel, by decide +kernel⟩, tb_mem 1315 (by decide +kernel) (by decide +kernel)⟩
abbrev rmMo_termAt : Room := { frames := 0, cells := 0, slots := 0, locals := 0 }
def yMo_terms : MethodName := ⟨R_Mo, "terms", "(II)I"⟩
theorem kMo_terms : sw_yv yMo_terms prog_10_method_29_code 4 (some .int) 2 := ⟨⟨tb_mem 1310 (by decide +kernel) (by decide +kernel), tb_mem 10 (by decide +kernel) (by decide +kernel), by decide +kernel, by decide +kernel, by decide +kernel⟩, tb_mem 1308 (by decide +kernel) (by decide +kernel), tb_mem 1309 (by decide +kernel) (by decide +kernel)⟩
abbrev rmMo_terms : Room := { frames := 2, cells := 0, slots := 0, locals := 43 }
def yMo_row : MethodName := ⟨R_Mo, "row", "()I"⟩
theorem kMo_row : sw_yv yMo_row prog_10_method_30_code 5 (some .int) 0 := ⟨⟨tb_mem 1320 (by decide +kernel) (by decide +kernel), tb_mem 10 (by decide +kernel) (by decide +kernel), by decide +kernel, by decide +kernel, by decide +kernel⟩, tb_mem 1318 (by decide +kernel) (by decide +kernel), tb_mem 1319 (by decide +kernel) (by decide +kernel)⟩
abbrev rmMo_row : Room := { frames := 3, cells := 0, slots := 0, locals := 63 }
def yMo_sawdust : MethodName := ⟨R_Mo, "sawdust", "()I"⟩
theorem kMo_sawdust : sw_yv yMo_sawdust prog_10_method_31_code 1 (some .int) 0 := ⟨⟨tb_mem 1324 (by decide +kernel) (by decide +kernel), tb_mem 10 (by decide +kernel) (by decide +kernel), by decide +kernel, by decide +kernel, by decide +kernel⟩, tb_mem 1322 (by decide +kernel) (by decide +kernel), tb_mem 1323 (by decide +kernel) (by decide +kernel)⟩
abbrev rmMo_sawdust : Room := { frames := 0, cells := 0, slots := 0, locals := 0 }
def yMo_feed : MethodName := ⟨R_Mo, "feed", "(IIIII)I"⟩
theorem kMo_feed : sw_yv yMo_feed prog_10_method_32_code 7 (some .int) 5 := ⟨⟨tb_mem 1328 (by decide +kernel) (by decide +kernel), tb_mem 10 (by decide +kernel) (by decide +kernel), by decide +kernel, by decide +kernel, by decide +kernel⟩, tb_mem 1326 (by decide +kernel) (by decide +kernel), tb_mem 1327 (by decide +kernel) (by decide +kernel)⟩
abbrev rmMo_feed : Room := { frames := 0, cells := 0, slots := 0, locals := 0 }
def yMo_end : MethodName := ⟨R_Mo, "end", "(I)I"⟩
theorem kMo_end : sw_yv yMo_end prog_10_method_33_code 2 (some .int) 1 := ⟨⟨tb_mem 1332 (by decide +kernel) (by decide +kernel), tb_mem 10 (by decide +kernel) (by decide +kernel), by decide +kernel, by decide +kernel, by decide +kernel⟩, tb_mem 1330 (by decide +kernel) (by decide +kernel), tb_mem 1331 (by decide +kernel) (by decide +kernel)⟩
abbrev rmMo_end : Room := { frames := 1, cells := 0, slots := 0, locals := 22 }
def yMo_isSmall : MethodName := ⟨R_Mo, "isSmall", "(I)Z"⟩
theorem kMo_isSmall : sw_ys yMo_isSmall prog_10_method_34_code 1 (some .boolean) 1 := ⟨⟨tb_mem 1351 (by decide +kernel) (by decide +kernel), tb_mem 10 (by decide +kernel) (by decide +kernel), by decide +kernel, by decide +kernel, by decide +kernel⟩, tb_mem 1350 (by decide +kernel) (by decide +kernel)⟩
abbrev rmMo_isSmall : Room := { frames := 0, cells := 0, slots := 0, locals := 0 }
def yMo_isDigit : MethodName := ⟨R_Mo, "isDigit", "(I)Z"⟩
theorem kMo_isDigit : sw_ys yMo_isDigit prog_10_method_35_code 1 (some .boolean) 1 := ⟨⟨tb_mem 1354 (by decide +kernel) (by decide +kernel), tb_mem 10 (by decide +kernel) (by decide +kernel), by decide +kernel, by decide +kernel, by decide +kernel⟩, tb_mem 1353 (by decide +kernel) (by decide +kernel)⟩
abbrev rmMo_isDigit : Room := { frames := 0, cells := 0, slots := 0, locals := 0 }
def yMo_wordOf : MethodName := ⟨R_Mo, "wordOf", "(II)I"⟩
theorem kMo_wordOf : sw_yv yMo_wordOf prog_10_method_36_code 8 (some .int) 2 := ⟨⟨tb_mem 1358 (by decide +kernel) (by decide +kernel), tb_mem 10 (by decide +kernel) (by decide +kernel), by decide +kernel, by decide +kernel, by decide +kernel⟩, tb_mem 1357 (by decide +kernel) (by decide +kernel), ts_mem 88 (by decide +kernel) (by decide +kernel)⟩
abbrev rmMo_wordOf : Room := { frames := 0, cells := 0, slots := 0, locals := 0 }
def yMo_splits : MethodName := ⟨R_Mo, "splits", "(I)V"⟩
theorem kMo_splits : sw_yv yMo_splits prog_10_method_37_code 6 (none) 1 := ⟨⟨tb_mem 1348 (by decide +kernel) (by decide +kernel), tb_mem 10 (by decide +kernel) (by decide +kernel), by decide +kernel, by decide +kernel, by decide +kernel⟩, tb_mem 1347 (by decide +kernel) (by decide +kernel), ts_mem 87 (by decide +kernel) (by decide +kernel)⟩
abbrev rmMo_splits : Room := { frames := 1, cells := 0, slots := 0, locals := 27 }
def yMo_fine : MethodName := ⟨R_Mo, "fine", "()Z"⟩
theorem kMo_fine : sw_yv yMo_fine prog_10_method_38_code 1 (some .boolean) 0 := ⟨⟨tb_mem 1375 (by decide +kernel) (by decide +kernel), tb_mem 10 (by decide +kernel) (by decide +kernel), by decide +kernel, by decide +kernel, by decide +kernel⟩, tb_mem 1374 (by decide +kernel) (by decide +kernel), ts_mem 92 (by decide +kernel) (by decide +kernel)⟩
abbrev rmMo_fine : Room := { frames := 0, cells := 0, slots := 0, locals := 0 }
def yMo_faults : MethodName := ⟨R_Mo, "faults", "()V"⟩
theorem kMo_faults : sw_yv yMo_faults prog_10_method_39_code 1 (none) 0 := ⟨⟨tb_mem 1395 (by decide +kernel) (by decide +kernel), tb_mem 10 (by decide +kernel) (by decide +kernel), by decide +kernel, by decide +kernel, by decide +kernel⟩, tb_mem 1394 (by decide +kernel) (by decide +kernel), ts_mem 97 (by decide +kernel) (by decide +kernel)⟩
abbrev rmMo_faults : Room := { frames := 1, cells := 0, slots := 0, locals := 20 }
def yMo_takes0 : MethodName := ⟨R_Mo, "takes0", "(I)Z"⟩
theorem kMo_takes0 : sw_yv yMo_takes0 prog_10_method_40_code 3 (some .boolean) 1 := ⟨⟨tb_mem 1371 (by decide +kernel) (by decide +kernel), tb_mem 10 (by decide +kernel) (by decide +kernel), by decide +kernel, by decide +kernel, by decide +kernel⟩, tb_mem 1370 (by decide +kernel) (by decide +kernel), ts_mem 91 (by decide +kernel) (by decide +kernel)⟩
abbrev rmMo_takes0 : Room := { frames := 1, cells := 0, slots := 0, locals := 20 }
def yMo_must : MethodName := ⟨R_Mo, "must", "(I)V"⟩
theorem kMo_must : sw_yv yMo_must prog_10_method_41_code 2 (none) 1 := ⟨⟨tb_mem 1399 (by decide +kernel) (by decide +kernel), tb_mem 10 (by decide +kernel) (by decide +kernel), by decide +kernel, by decide +kernel, by decide +kernel⟩, tb_mem 1398 (by decide +kernel) (by decide +kernel), ts_mem 98 (by decide +kernel) (by decide +kernel)⟩
abbrev rmMo_must : Room := { frames := 2, cells := 0, slots := 0, locals := 42 }
def yMo_leaf : MethodName := ⟨R_Mo, "leaf", "()V"⟩
theorem kMo_leaf : sw_yv yMo_leaf prog_10_method_42_code 1 (none) 0 := ⟨⟨tb_mem 1403 (by decide +kernel) (by decide +kernel), tb_mem 10 (by decide +kernel) (by decide +kernel), by decide +kernel, by decide +kernel, by decide +kernel⟩, tb_mem 1402 (by decide +kernel) (by decide +kernel), ts_mem 99 (by decide +kernel) (by decide +kernel)⟩
abbrev rmMo_leaf : Room := { frames := 2, cells := 0, slots := 0, locals := 40 }
def yMo_sign : MethodName := ⟨R_Mo, "sign", "(C)I"⟩
theorem kMo_sign : sw_ys yMo_sign prog_10_method_43_code 1 (some .int) 1 := ⟨⟨tb_mem 1238 (by decide +kernel) (by decide +kernel), tb_mem 10 (by decide +kernel) (by decide +kernel), by decide +kernel, by decide +kernel, by decide +kernel⟩, tb_mem 1237 (by decide +kernel) (by decide +kernel)⟩
abbrev rmMo_sign : Room := { frames := 0, cells := 0, slots := 0, locals := 0 }
def yMo_mustNumber : MethodName := ⟨R_Mo, "mustNumber", "(II)V"⟩
theorem kMo_mustNumber : sw_yv yMo_mustNumber prog_10_method_44_code 3 (none) 2 := ⟨⟨tb_mem 1407 (by decide +kernel) (by decide +kernel), tb_mem 10 (by decide +kernel) (by decide +kernel), by decide +kernel, by decide +kernel, by decide +kernel⟩, tb_mem 1406 (by decide +kernel) (by decide +kernel), ts_mem 100 (by decide +kernel) (by decide +kernel)⟩
abbrev rmMo_mustNumber : Room := { frames := 2, cells := 0, slots := 0, locals := 40 }
def yMo_readPart : MethodName := ⟨R_Mo, "readPart", "(I)V"⟩
theorem kMo_readPart : sw_yv yMo_readPart prog_10_method_54_code 3 (none) 1 := ⟨⟨tb_mem 1391 (by decide +kernel) (by decide +kernel), tb_mem 10 (by decide +kernel) (by decide +kernel), by decide +kernel, by decide +kernel, by decide +kernel⟩, tb_mem 1390 (by decide +kernel) (by decide +kernel), ts_mem 96 (by decide +kernel) (by decide +kernel)⟩
abbrev rgMo_readPart (rr : Room) : Room := { frames := rr.frames + 3, cells := 0, slots := 0, locals := rr.locals + 63 }
def yMo_lays : MethodName := ⟨R_Mo, "lays", "(I)V"⟩
theorem kMo_lays : sw_yv yMo_lays prog_10_method_57_code 3 (none) 1 := ⟨⟨tb_mem 1427 (by decide +kernel) (by decide +kernel), tb_mem 10 (by decide +kernel) (by decide +kernel), by decide +kernel, by decide +kernel, by decide +kernel⟩, tb_mem 1426 (by decide +kernel) (by decide +kernel), ts_mem 105 (by decide +kernel) (by decide +kernel)⟩
abbrev rmMo_lays : Room := { frames := 0, cells := 0, slots := 0, locals := 0 }
def yMo_fault : MethodName := ⟨R_Mo, "fault", "()I"⟩
theorem kMo_fault : sw_yv yMo_fault prog_10_method_59_code 1 (some .int) 0 := ⟨⟨tb_mem 1431 (by decide +kernel) (by decide +kernel), tb_mem 10 (by decide +kernel) (by decide +kernel), by decide +kernel, by decide +kernel, by decide +kernel⟩, tb_mem 1429 (by decide +kernel) (by decide +kernel), tb_mem 1430 (by decide +kernel) (by decide +kernel)⟩
abbrev rmMo_fault : Room := { frames := 0, cells := 0, slots := 0, locals := 0 }
def yMo_isLaw : MethodName := ⟨R_Mo, "isLaw", "(I)Z"⟩
theorem kMo_isLaw : sw_yv yMo_isLaw prog_10_method_60_code 2 (some .boolean) 1 := ⟨⟨tb_mem 1439 (by decide +kernel) (by decide +kernel), tb_mem 10 (by decide +kernel) (by decide +kernel), by decide +kernel, by decide +kernel, by decide +kernel⟩, tb_mem 1438 (by decide +kernel) (by decide +kernel), ts_mem 106 (by decide +kernel) (by decide +kernel)⟩
abbrev rmMo_isLaw : Room := { frames := 1, cells := 0, slots := 0, locals := 22 }
def yMo_force : MethodName := ⟨R_Mo, "force", "(I)I"⟩
theorem kMo_force : sw_yv yMo_force prog_10_method_61_code 3 (some .int) 1 := ⟨⟨tb_mem 1435 (by decide +kernel) (by decide +kernel), tb_mem 10 (by decide +kernel) (by decide +kernel), by decide +kernel, by decide +kernel, by decide +kernel⟩, tb_mem 1433 (by decide +kernel) (by decide +kernel), tb_mem 1434 (by decide +kernel) (by decide +kernel)⟩
abbrev rmMo_force : Room := { frames := 2, cells := 0, slots := 0, locals := 43 }
def yMo_codeAt : MethodName := ⟨R_Mo, "codeAt", "(I)I"⟩
theorem kMo_codeAt : sw_yv yMo_codeAt prog_10_method_62_code 2 (some .int) 1 := ⟨⟨tb_mem 1223 (by decide +kernel) (by decide +kernel), tb_mem 10 (by decide +kernel) (by decide +kernel), by decide +kernel, by decide +kernel, by decide +kernel⟩, tb_mem 1222 (by decide +kernel) (by decide +kernel), ts_mem 68 (by decide +kernel) (by decide +kernel)⟩
abbrev rmMo_codeAt : Room := { frames := 0, cells := 0, slots := 0, locals := 0 }
def yMo_passes0 : MethodName := ⟨R_Mo, "passes0", "(I)Z"⟩
theorem kMo_passes0 : sw_yv yMo_passes0 prog_10_method_63_code 3 (some .boolean) 1 := ⟨⟨tb_mem 1242 (by decide +kernel) (by decide +kernel), tb_mem 10 (by decide +kernel) (by decide +kernel), by decide +kernel, by decide +kernel, by decide +kernel⟩, tb_mem 1241 (by decide +kernel) (by decide +kernel), ts_mem 72 (by decide +kernel) (by decide +kernel)⟩
abbrev rmMo_passes0 : Room := { frames := 1, cells := 0, slots := 0, locals := 21 }
def yMo_bounded : MethodName := ⟨R_Mo, "bounded", "(JZ)J"⟩
theorem kMo_bounded : sw_yv yMo_bounded prog_10_method_64_code 4 (some .long) 2 := ⟨⟨tb_mem 1254 (by decide +kernel) (by decide +kernel), tb_mem 10 (by decide +kernel) (by decide +kernel), by decide +kernel, by decide +kernel, by decide +kernel⟩, tb_mem 1253 (by decide +kernel) (by decide +kernel), ts_mem 75 (by decide +kernel) (by decide +kernel)⟩
abbrev rmMo_bounded : Room := { frames := 0, cells := 0, slots := 0, locals := 0 }
def yMo_onMany : MethodName := ⟨R_Mo, "onMany", "()I"⟩
theorem kMo_onMany : sw_yv yMo_onMany prog_10_method_68_code 3 (some .int) 0 := ⟨⟨tb_mem 1250 (by decide +kernel) (by decide +kernel), tb_mem 10 (by decide +kernel) (by decide +kernel), by decide +kernel, by decide +kernel, by decide +kernel⟩, tb_mem 1249 (by decide +kernel) (by decide +kernel), ts_mem 74 (by decide +kernel) (by decide +kernel)⟩
abbrev rmMo_onMany : Room := { frames := 1, cells := 0, slots := 0, locals := 21 }
def yMo_orderValue : MethodName := ⟨R_Mo, "orderValue", "(II)I"⟩
theorem kMo_orderValue : sw_yv yMo_orderValue prog_10_method_69_code 3 (some .int) 2 := ⟨⟨tb_mem 1246 (by decide +kernel) (by decide +kernel), tb_mem 10 (by decide +kernel) (by decide +kernel), by decide +kernel, by decide +kernel, by decide +kernel⟩, tb_mem 1245 (by decide +kernel) (by decide +kernel), ts_mem 73 (by decide +kernel) (by decide +kernel)⟩
abbrev rmMo_orderValue : Room := { frames := 2, cells := 0, slots := 0, locals := 43 }
def yMo_setsAsked : MethodName := ⟨R_Mo, "setsAsked", "(II)V"⟩
theorem kMo_setsAsked : sw_yv yMo_setsAsked prog_10_method_74_code 3 (none) 2 := ⟨⟨tb_mem 1216 (by decide +kernel) (by decide +kernel), tb_mem 10 (by decide +kernel) (by decide +kernel), by decide +kernel, by decide +kernel, by decide +kernel⟩, tb_mem 1215 (by decide +kernel) (by decide +kernel), ts_mem 67 (by decide +kernel) (by decide +kernel)⟩
abbrev rmMo_setsAsked : Room := { frames := 1, cells := 0, slots := 0, locals := 20 }
def yMo_isLevel : MethodName := ⟨R_Mo, "isLevel", "(I)Z"⟩
theorem kMo_isLevel : sw_yv yMo_isLevel prog_10_method_81_code 2 (some .boolean) 1 := ⟨⟨tb_mem 1306 (by decide +kernel) (by decide +kernel), tb_mem 10 (by decide +kernel) (by decide +kernel), by decide +kernel, by decide +kernel, by decide +kernel⟩, tb_mem 1305 (by decide +kernel) (by decide +kernel), ts_mem 84 (by decide +kernel) (by decide +kernel)⟩
abbrev rmMo_isLevel : Room := { frames := 1, cells := 0, slots := 0, locals := 20 }
def yMo_keeps : MethodName := ⟨R_Mo, "keeps", "(I)V"⟩
theorem kMo_keeps : sw_yv yMo_keeps prog_10_method_83_code 4 (none) 1 := ⟨⟨tb_mem 1459 (by decide +kernel) (by decide +kernel), tb_mem 10 (by decide +kernel) (by decide +kernel), by decide +kernel, by decide +kernel, by decide +kernel⟩, tb_mem 1458 (by decide +kernel) (by decide +kernel), ts_mem 109 (by decide +kernel) (by decide +kernel)⟩
abbrev rmMo_keeps : Room := { frames := 0, cells := 0, slots := 0, locals := 0 }
def yMo_undo : MethodName := ⟨R_Mo, "undo", "()I"⟩
theorem kMo_undo : sw_yv yMo_undo prog_10_method_84_code 3 (some .int) 0 := ⟨⟨tb_mem 1443 (by decide +kernel) (by decide +kernel), tb_mem 10 (by decide +kernel) (by decide +kernel), by decide +kernel, by decide +kernel, by decide +kernel⟩, tb_mem 1441 (by decide +kernel) (by decide +kernel), tb_mem 1442 (by decide +kernel) (by decide +kernel)⟩
abbrev rmMo_undo : Room := { frames := 1, cells := 0, slots := 0, locals := 21 }
def yMo_goodOr : MethodName := ⟨R_Mo, "goodOr", "(I)I"⟩
theorem kMo_goodOr : sw_yv yMo_goodOr prog_10_method_85_code 2 (some .int) 1 := ⟨⟨tb_mem 1463 (by decide +kernel) (by decide +kernel), tb_mem 10 (by decide +kernel) (by decide +kernel), by decide +kernel, by decide +kernel, by decide +kernel⟩, tb_mem 1462 (by decide +kernel) (by decide +kernel), ts_mem 110 (by decide +kernel) (by decide +kernel)⟩
abbrev rmMo_goodOr : Room := { frames := 1, cells := 0, slots := 0, locals := 21 }
def yMo_padsKept : MethodName := ⟨R_Mo, "padsKept", "(II)I"⟩
theorem kMo_padsKept : sw_yv yMo_padsKept prog_10_method_89_code 4 (some .int) 2 := ⟨⟨tb_mem 1479 (by decide +kernel) (by decide +kernel), tb_mem 10 (by decide +kernel) (by decide +kernel), by decide +kernel, by decide +kernel, by decide +kernel⟩, tb_mem 1478 (by decide +kernel) (by decide +kernel), ts_mem 112 (by decide +kernel) (by decide +kernel)⟩
abbrev rmMo_padsKept : Room := { frames := 2, cells := 0, slots := 0, locals := 43 }
def yMo_pad : MethodName := ⟨R_Mo, "pad", "(II)I"⟩
theorem kMo_pad : sw_yv yMo_pad prog_10_method_93_code 3 (some .int) 2 := ⟨⟨tb_mem 1475 (by decide +kernel) (by decide +kernel), tb_mem 10 (by decide +kernel) (by decide +kernel), by decide +kernel, by decide +kernel, by decide +kernel⟩, tb_mem 1473 (by decide +kernel) (by decide +kernel), tb_mem 1474 (by decide +kernel) (by decide +kernel)⟩
abbrev rmMo_pad : Room := { frames := 3, cells := 0, slots := 0, locals := 66 }
def yMo_canRow : MethodName := ⟨R_Mo, "canRow", "(II)Z"⟩
theorem kMo_canRow : sw_yv yMo_canRow prog_10_method_96_code 5 (some .boolean) 2 := ⟨⟨tb_mem 1530 (by decide +kernel) (by decide +kernel), tb_mem 10 (by decide +kernel) (by decide +kernel), by decide +kernel, by decide +kernel, by decide +kernel⟩, tb_mem 1529 (by decide +kernel) (by decide +kernel), ts_mem 122 (by decide +kernel) (by decide +kernel)⟩
abbrev rmMo_canRow : Room := { frames := 1, cells := 0, slots := 0, locals := 21 }
def yMo_endsAt : MethodName := ⟨R_Mo, "endsAt", "(I)I"⟩
theorem kMo_endsAt : sw_yv yMo_endsAt prog_10_method_97_code 2 (some .int) 1 := ⟨⟨tb_mem 1514 (by decide +kernel) (by decide +kernel), tb_mem 10 (by decide +kernel) (by decide +kernel), by decide +kernel, by decide +kernel, by decide +kernel⟩, tb_mem 1513 (by decide +kernel) (by decide +kernel), ts_mem 118 (by decide +kernel) (by decide +kernel)⟩
abbrev rmMo_endsAt : Room := { frames := 2, cells := 0, slots := 0, locals := 41 }
def yMo_bestAt : MethodName := ⟨R_Mo, "bestAt", "(II)I"⟩
theorem kMo_bestAt : sw_yv yMo_bestAt prog_10_method_98_code 3 (some .int) 2 := ⟨⟨tb_mem 1526 (by decide +kernel) (by decide +kernel), tb_mem 10 (by decide +kernel) (by decide +kernel), by decide +kernel, by decide +kernel, by decide +kernel⟩, tb_mem 1525 (by decide +kernel) (by decide +kernel), ts_mem 121 (by decide +kernel) (by decide +kernel)⟩
abbrev rmMo_bestAt : Room := { frames := 0, cells := 0, slots := 0, locals := 0 }
def yMo_bestBy : MethodName := ⟨R_Mo, "bestBy", "(III)I"⟩
theorem kMo_bestBy : sw_yv yMo_bestBy prog_10_method_99_code 5 (some .int) 3 := ⟨⟨tb_mem 1534 (by decide +kernel) (by decide +kernel), tb_mem 10 (by decide +kernel) (by decide +kernel), by decide +kernel, by decide +kernel, by decide +kernel⟩, tb_mem 1533 (by decide +kernel) (by decide +kernel), ts_mem 123 (by decide +kernel) (by decide +kernel)⟩
abbrev rmMo_bestBy : Room := { frames := 1, cells := 0, slots := 0, locals := 22 }
def yMo_staysOff : MethodName := ⟨R_Mo, "staysOff", "(I)Z"⟩
theorem kMo_staysOff : sw_yv yMo_staysOff prog_10_method_100_code 2 (some .boolean) 1 := ⟨⟨tb_mem 1522 (by decide +kernel) (by decide +kernel), tb_mem 10 (by decide +kernel) (by decide +kernel), by decide +kernel, by decide +kernel, by decide +kernel⟩, tb_mem 1521 (by decide +kernel) (by decide +kernel), ts_mem 120 (by decide +kernel) (by decide +kernel)⟩
abbrev rmMo_staysOff : Room := { frames := 1, cells := 0, slots := 0, locals := 21 }
def yMo_bestOf : MethodName := ⟨R_Mo, "bestOf", "(II)I"⟩
theorem kMo_bestOf : sw_yv yMo_bestOf prog_10_method_101_code 6 (some .int) 2 := ⟨⟨tb_mem 1518 (by decide +kernel) (by decide +kernel), tb_mem 10 (by decide +kernel) (by decide +kernel), by decide +kernel, by decide +kernel, by decide +kernel⟩, tb_mem 1517 (by decide +kernel) (by decide +kernel), ts_mem 119 (by decide +kernel) (by decide +kernel)⟩
abbrev rmMo_bestOf : Room := { frames := 2, cells := 0, slots := 0, locals := 46 }
def yMo_placeIn : MethodName := ⟨R_Mo, "placeIn", "(I)I"⟩
theorem kMo_placeIn : sw_yv yMo_placeIn prog_10_method_103_code 5 (some .int) 1 := ⟨⟨tb_mem 1545 (by decide +kernel) (by decide +kernel), tb_mem 10 (by decide +kernel) (by decide +kernel), by decide +kernel, by decide +kernel, by decide +kernel⟩, tb_mem 1544 (by decide +kernel) (by decide +kernel), ts_mem 125 (by decide +kernel) (by decide +kernel)⟩
abbrev rmMo_placeIn : Room := { frames := 2, cells := 0, slots := 0, locals := 46 }
def yMo_heavyOf : MethodName := ⟨R_Mo, "heavyOf", "(I)I"⟩
theorem kMo_heavyOf : sw_yv yMo_heavyOf prog_10_method_113_code 4 (some .int) 1 := ⟨⟨tb_mem 1581 (by decide +kernel) (by decide +kernel), tb_mem 10 (by decide +kernel) (by decide +kernel), by decide +kernel, by decide +kernel, by decide +kernel⟩, tb_mem 1580 (by decide +kernel) (by decide +kernel), ts_mem 128 (by decide +kernel) (by decide +kernel)⟩
abbrev rmMo_heavyOf : Room := { frames := 1, cells := 0, slots := 0, locals := 21 }
def yMo_shares : MethodName := ⟨R_Mo, "shares", "(I)I"⟩
theorem kMo_shares : sw_yv yMo_shares prog_10_method_114_code 7 (some .int) 1 := ⟨⟨tb_mem 1573 (by decide +kernel) (by decide +kernel), tb_mem 10 (by decide +kernel) (by decide +kernel), by decide +kernel, by decide +kernel, by decide +kernel⟩, tb_mem 1571 (by decide +kernel) (by decide +kernel), tb_mem 1572 (by decide +kernel) (by decide +kernel)⟩
abbrev rmMo_shares : Room := { frames := 2, cells := 0, slots := 0, locals := 44 }
def yMo_onNow : MethodName := ⟨R_Mo, "onNow", "()I"⟩
theorem kMo_onNow : sw_yv yMo_onNow prog_10_method_115_code 3 (some .int) 0 := ⟨⟨tb_mem 1600 (by decide +kernel) (by decide +kernel), tb_mem 10 (by decide +kernel) (by decide +kernel), by decide +kernel, by decide +kernel, by decide +kernel⟩, tb_mem 1599 (by decide +kernel) (by decide +kernel), ts_mem 131 (by decide +kernel) (by decide +kernel)⟩
abbrev rmMo_onNow : Room := { frames := 1, cells := 0, slots := 0, locals := 21 }
def yMo_canOff : MethodName := ⟨R_Mo, "canOff", "(II)Z"⟩
theorem kMo_canOff : sw_yv yMo_canOff prog_10_method_117_code 3 (some .boolean) 2 := ⟨⟨tb_mem 1604 (by decide +kernel) (by decide +kernel), tb_mem 10 (by decide +kernel) (by decide +kernel), by decide +kernel, by decide +kernel, by decide +kernel⟩, tb_mem 1603 (by decide +kernel) (by decide +kernel), ts_mem 132 (by decide +kernel) (by decide +kernel)⟩
abbrev rmMo_canOff : Room := { frames := 2, cells := 0, slots := 0, locals := 41 }
def yMo_winsBy : MethodName := ⟨R_Mo, "winsBy", "(I)I"⟩
theorem kMo_winsBy : sw_yv yMo_winsBy prog_10_method_120_code 4 (some .int) 1 := ⟨⟨tb_mem 1612 (by decide +kernel) (by decide +kernel), tb_mem 10 (by decide +kernel) (by decide +kernel), by decide +kernel, by decide +kernel, by decide +kernel⟩, tb_mem 1611 (by decide +kernel) (by decide +kernel), ts_mem 133 (by decide +kernel) (by decide +kernel)⟩
abbrev rmMo_winsBy : Room := { frames := 3, cells := 0, slots := 0, locals := 63 }
def yMo_weighed : MethodName := ⟨R_Mo, "weighed", "(III)I"⟩
theorem kMo_weighed : sw_yv yMo_weighed prog_10_method_122_code 5 (some .int) 3 := ⟨⟨tb_mem 1616 (by decide +kernel) (by decide +kernel), tb_mem 10 (by decide +kernel) (by decide +kernel), by decide +kernel, by decide +kernel, by decide +kernel⟩, tb_mem 1614 (by decide +kernel) (by decide +kernel), tb_mem 1615 (by decide +kernel) (by decide +kernel)⟩
abbrev rmMo_weighed : Room := { frames := 2, cells := 0, slots := 0, locals := 40 }
def yMo_forget : MethodName := ⟨R_Mo, "forget", "()I"⟩
theorem kMo_forget : sw_yv yMo_forget prog_10_method_123_code 2 (some .int) 0 := ⟨⟨tb_mem 1620 (by decide +kernel) (by decide +kernel), tb_mem 10 (by decide +kernel) (by decide +kernel), by decide +kernel, by decide +kernel, by decide +kernel⟩, tb_mem 1618 (by decide +kernel) (by decide +kernel), tb_mem 1619 (by decide +kernel) (by decide +kernel)⟩
abbrev rmMo_forget : Room := { frames := 0, cells := 0, slots := 0, locals := 0 }
def yMo_heavyBy : MethodName := ⟨R_Mo, "heavyBy", "(II)I"⟩
theorem kMo_heavyBy : sw_yv yMo_heavyBy prog_10_method_124_code 4 (some .int) 2 := ⟨⟨tb_mem 1636 (by decide +kernel) (by decide +kernel), tb_mem 10 (by decide +kernel) (by decide +kernel), by decide +kernel, by decide +kernel, by decide +kernel⟩, tb_mem 1635 (by decide +kernel) (by decide +kernel), ts_mem 136 (by decide +kernel) (by decide +kernel)⟩
abbrev rmMo_heavyBy : Room := { frames := 2, cells := 0, slots := 0, locals := 44 }
def yMo_comesOf : MethodName := ⟨R_Mo, "comesOf", "(III)I"⟩
theorem kMo_comesOf : sw_yv yMo_comesOf prog_10_method_125_code 5 (some .int) 3 := ⟨⟨tb_mem 1632 (by decide +kernel) (by decide +kernel), tb_mem 10 (by decide +kernel) (by decide +kernel), by decide +kernel, by decide +kernel, by decide +kernel⟩, tb_mem 1631 (by decide +kernel) (by decide +kernel), ts_mem 135 (by decide +kernel) (by decide +kernel)⟩
abbrev rmMo_comesOf : Room := { frames := 3, cells := 0, slots := 0, locals := 67 }
def yMo_isSo : MethodName := ⟨R_Mo, "isSo", "(I)Z"⟩
theorem kMo_isSo : sw_yv yMo_isSo prog_10_method_126_code 5 (some .boolean) 1 := ⟨⟨tb_mem 1628 (by decide +kernel) (by decide +kernel), tb_mem 10 (by decide +kernel) (by decide +kernel), by decide +kernel, by decide +kernel, by decide +kernel⟩, tb_mem 1627 (by decide +kernel) (by decide +kernel), ts_mem 134 (by decide +kernel) (by decide +kernel)⟩
abbrev rmMo_isSo : Room := { frames := 4, cells := 0, slots := 0, locals := 91 }
def yMo_canBe : MethodName := ⟨R_Mo, "canBe", "()I"⟩
theorem kMo_canBe : sw_yv yMo_canBe prog_10_method_127_code 3 (some .int) 0 := ⟨⟨tb_mem 1624 (by decide +kernel) (by decide +kernel), tb_mem 10 (by decide +kernel) (by decide +kernel), by decide +kernel, by decide +kernel, by decide +kernel⟩, tb_mem 1622 (by decide +kernel) (by decide +kernel), tb_mem 1623 (by decide +kernel) (by decide +kernel)⟩
abbrev rmMo_canBe : Room := { frames := 5, cells := 0, slots := 0, locals := 115 }
def yMo_mostAlike : MethodName := ⟨R_Mo, "mostAlike", "(III)I"⟩
theorem kMo_mostAlike : sw_yv yMo_mostAlike prog_10_method_128_code 7 (some .int) 3 := ⟨⟨tb_mem 1645 (by decide +kernel) (by decide +kernel), tb_mem 10 (by decide +kernel) (by decide +kernel), by decide +kernel, by decide +kernel, by decide +kernel⟩, tb_mem 1644 (by decide +kernel) (by decide +kernel), ts_mem 137 (by decide +kernel) (by decide +kernel)⟩
abbrev rmMo_mostAlike : Room := { frames := 4, cells := 0, slots := 0, locals := 91 }
def yMo_weigh : MethodName := ⟨R_Mo, "weigh", "(I)I"⟩
theorem kMo_weigh : sw_yv yMo_weigh prog_10_method_129_code 9 (some .int) 1 := ⟨⟨tb_mem 1640 (by decide +kernel) (by decide +kernel), tb_mem 10 (by decide +kernel) (by decide +kernel), by decide +kernel, by decide +kernel, by decide +kernel⟩, tb_mem 1638 (by decide +kernel) (by decide +kernel), tb_mem 1639 (by decide +kernel) (by decide +kernel)⟩
abbrev rmMo_weigh : Room := { frames := 6, cells := 0, slots := 0, locals := 137 }
def yMo_few : MethodName := ⟨R_Mo, "few", "(II)J"⟩
theorem kMo_few : sw_yv yMo_few prog_10_method_130_code 6 (some .long) 2 := ⟨⟨tb_mem 1649 (by decide +kernel) (by decide +kernel), tb_mem 10 (by decide +kernel) (by decide +kernel), by decide +kernel, by decide +kernel, by decide +kernel⟩, tb_mem 1647 (by decide +kernel) (by decide +kernel), tb_mem 1648 (by decide +kernel) (by decide +kernel)⟩
abbrev rmMo_few : Room := { frames := 1, cells := 0, slots := 0, locals := 22 }
def yMo_stopped : MethodName := ⟨R_Mo, "stopped", "()I"⟩
theorem kMo_stopped : sw_yv yMo_stopped prog_10_method_131_code 1 (some .int) 0 := ⟨⟨tb_mem 1656 (by decide +kernel) (by decide +kernel), tb_mem 10 (by decide +kernel) (by decide +kernel), by decide +kernel, by decide +kernel, by decide +kernel⟩, tb_mem 1654 (by decide +kernel) (by decide +kernel), tb_mem 1655 (by decide +kernel) (by decide +kernel)⟩
abbrev rmMo_stopped : Room := { frames := 0, cells := 0, slots := 0, locals := 0 }
def yMo_small : MethodName := ⟨R_Mo, "small", "(J)I"⟩
theorem kMo_small : sw_ys yMo_small prog_10_method_134_code 2 (some .int) 1 := ⟨⟨tb_mem 1679 (by decide +kernel) (by decide +kernel), tb_mem 10 (by decide +kernel) (by decide +kernel), by decide +kernel, by decide +kernel, by decide +kernel⟩, tb_mem 1678 (by decide +kernel) (by decide +kernel)⟩
abbrev rmMo_small : Room := { frames := 0, cells := 0, slots := 0, locals := 0 }
def yMo_draws : MethodName := ⟨R_Mo, "draws", "(I)I"⟩
theorem kMo_draws : sw_yv yMo_draws prog_10_method_137_code 2 (some .int) 1 := ⟨⟨tb_mem 1692 (by decide +kernel) (by decide +kernel), tb_mem 10 (by decide +kernel) (by decide +kernel), by decide +kernel, by decide +kernel, by decide +kernel⟩, tb_mem 1691 (by decide +kernel) (by decide +kernel), ts_mem 143 (by decide +kernel) (by decide +kernel)⟩
abbrev rmMo_draws : Room := { frames := 0, cells := 0, slots := 0, locals := 0 }
def yMo_drawn : MethodName := ⟨R_Mo, "drawn", "(II)I"⟩
theorem kMo_drawn : sw_yv yMo_drawn prog_10_method_139_code 3 (some .int) 2 := ⟨⟨tb_mem 1699 (by decide +kernel) (by decide +kernel), tb_mem 10 (by decide +kernel) (by decide +kernel), by decide +kernel, by decide +kernel, by decide +kernel⟩, tb_mem 1697 (by decide +kernel) (by decide +kernel), tb_mem 1698 (by decide +kernel) (by decide +kernel)⟩
abbrev rmMo_drawn : Room := { frames := 1, cells := 0, slots := 0, locals := 22 }
def yMo_count : MethodName := ⟨R_Mo, "count", "(I)I"⟩
theorem kMo_count : sw_yv yMo_count prog_10_method_140_code 2 (some .int) 1 := ⟨⟨tb_mem 1703 (by decide +kernel) (by decide +kernel), tb_mem 10 (by decide +kernel) (by decide +kernel), by decide +kernel, by decide +kernel, by decide +kernel⟩, tb_mem 1701 (by decide +kernel) (by decide +kernel), tb_mem 1702 (by decide +kernel) (by decide +kernel)⟩
abbrev rmMo_count : Room := { frames := 2, cells := 0, slots := 0, locals := 44 }
def yMo_status : MethodName := ⟨R_Mo, "status", "()I"⟩
theorem kMo_status : sw_yv yMo_status prog_10_method_141_code 1 (some .int) 0 := ⟨⟨tb_mem 1707 (by decide +kernel) (by decide +kernel), tb_mem 10 (by decide +kernel) (by decide +kernel), by decide +kernel, by decide +kernel, by decide +kernel⟩, tb_mem 1705 (by decide +kernel) (by decide +kernel), tb_mem 1706 (by decide +kernel) (by decide +kernel)⟩
abbrev rmMo_status : Room := { frames := 0, cells := 0, slots := 0, locals := 0 }
def yMo_readTerm : MethodName := ⟨R_Mo, "readTerm", "(I)V"⟩
theorem kMo_readTerm : sw_yv yMo_readTerm prog_10_method_53_code 2 (none) 1 := ⟨⟨tb_mem 1387 (by decide +kernel) (by decide +kernel), tb_mem 10 (by decide +kernel) (by decide +kernel), by decide +kernel, by decide +kernel, by decide +kernel⟩, tb_mem 1386 (by decide +kernel) (by decide +kernel), ts_mem 95 (by decide +kernel) (by decide +kernel)⟩
abbrev rgMo_readTerm (rr : Room) : Room := { frames := rr.frames + 4, cells := 0, slots := 0, locals := rr.locals + 85 }
def yMo_partOf : MethodName := ⟨R_Mo, "partOf", "(Z)J"⟩
theorem kMo_partOf : sw_yv yMo_partOf prog_10_method_67_code 4 (some .long) 1 := ⟨⟨tb_mem 1235 (by decide +kernel) (by decide +kernel), tb_mem 10 (by decide +kernel) (by decide +kernel), by decide +kernel, by decide +kernel, by decide +kernel⟩, tb_mem 1234 (by decide +kernel) (by decide +kernel), ts_mem 71 (by decide +kernel) (by decide +kernel)⟩
abbrev rgMo_partOf (rr : Room) : Room := { frames := rr.frames + 3, cells := 0, slots := 0, locals := rr.locals + 65 }
def yMo_readSum : MethodName := ⟨R_Mo, "readSum", "(I)V"⟩
theorem kMo_readSum : sw_yv yMo_readSum prog_10_method_52_code 2 (none) 1 := ⟨⟨tb_mem 1383 (by decide +kernel) (by decide +kernel), tb_mem 10 (by decide +kernel) (by decide +kernel), by decide +kernel, by decide +kernel, by decide +kernel⟩, tb_mem 1382 (by decide +kernel) (by decide +kernel), ts_mem 94 (by decide +kernel) (by decide +kernel)⟩
abbrev rgMo_readSum (rr : Room) : Room := { frames := rr.frames + 5, cells := 0, slots := 0, locals := rr.locals + 106 }
def yMo_termOf : MethodName := ⟨R_Mo, "termOf", "(Z)J"⟩
theorem kMo_termOf : sw_yv yMo_termOf prog_10_method_66_code 7 (some .long) 1 := ⟨⟨tb_mem 1231 (by decide +kernel) (by decide +kernel), tb_mem 10 (by decide +kernel) (by decide +kernel), by decide +kernel, by decide +kernel, by decide +kernel⟩, tb_mem 1230 (by decide +kernel) (by decide +kernel), ts_mem 70 (by decide +kernel) (by decide +kernel)⟩
abbrev rgMo_termOf (rr : Room) : Room := { frames := rr.frames + 4, cells := 0, slots := 0, locals := rr.locals + 88 }
def yMo_readTwo : MethodName := ⟨R_Mo, "readTwo", "(I)V"⟩
theorem kMo_readTwo : sw_yv yMo_readTwo prog_10_method_46_code 2 (none) 1 := ⟨⟨tb_mem 1379 (by decide +kernel) (by decide +kernel), tb_mem 10 (by decide +kernel) (by decide +kernel), by decide +kernel, by decide +kernel, by decide +kernel⟩, tb_mem 1378 (by decide +kernel) (by decide +kernel), ts_mem 93 (by decide +kernel) (by decide +kernel)⟩
abbrev rmMo_readTwo : Room := { frames := 51, cells := 0, slots := 0, locals := 1081 }
def yMo_readPlain : MethodName := ⟨R_Mo, "readPlain", "(I)V"⟩
theorem kMo_readPlain : sw_yv yMo_readPlain prog_10_method_51_code 4 (none) 1 := ⟨⟨tb_mem 1419 (by decide +kernel) (by decide +kernel), tb_mem 10 (by decide +kernel) (by decide +kernel), by decide +kernel, by decide +kernel, by decide +kernel⟩, tb_mem 1418 (by decide +kernel) (by decide +kernel), ts_mem 103 (by decide +kernel) (by decide +kernel)⟩
abbrev rgMo_readPlain (rr : Room) : Room := { frames := rr.frames + 51, cells := 0, slots := 0, locals := rr.locals + 1081 }
def yMo_sumOf : MethodName := ⟨R_Mo, "sumOf", "(Z)J"⟩
theorem kMo_sumOf : sw_yv yMo_sumOf prog_10_method_65_code 7 (some .long) 1 := ⟨⟨tb_mem 1227 (by decide +kernel) (by decide +kernel), tb_mem 10 (by decide +kernel) (by decide +kernel), by decide +kernel, by decide +kernel, by decide +kernel⟩, tb_mem 1226 (by decide +kernel) (by decide +kernel), ts_mem 69 (by decide +kernel) (by decide +kernel)⟩
abbrev rgMo_sumOf (rr : Room) : Room := { frames := rr.frames + 5, cells := 0, slots := 0, locals := rr.locals + 114 }
def yMo_positiveOf : MethodName := ⟨R_Mo, "positiveOf", "(Z)Z"⟩
theorem kMo_positiveOf : sw_yv yMo_positiveOf prog_10_method_73_code 7 (some .boolean) 1 := ⟨⟨tb_mem 1272 (by decide +kernel) (by decide +kernel), tb_mem 10 (by decide +kernel) (by decide +kernel), by decide +kernel, by decide +kernel, by decide +kernel⟩, tb_mem 1271 (by decide +kernel) (by decide +kernel), ts_mem 79 (by decide +kernel) (by decide +kernel)⟩
abbrev rgMo_positiveOf (rr : Room) : Room := { frames := rr.frames + 51, cells := 0, slots := 0, locals := rr.locals + 1166 }
def yMo_readBoth : MethodName := ⟨R_Mo, "readBoth", "(I)V"⟩
theorem kMo_readBoth : sw_yv yMo_readBoth prog_10_method_50_code 2 (none) 1 := ⟨⟨tb_mem 1415 (by decide +kernel) (by decide +kernel), tb_mem 10 (by decide +kernel) (by decide +kernel), by decide +kernel, by decide +kernel, by decide +kernel⟩, tb_mem 1414 (by decide +kernel) (by decide +kernel), ts_mem 102 (by decide +kernel) (by decide +kernel)⟩
abbrev rgMo_readBoth (rr : Room) : Room := { frames := rr.frames + 52, cells := 0, slots := 0, locals := rr.locals + 1104 }
def yMo_plainOf : MethodName := ⟨R_Mo, "plainOf", "(Z)Z"⟩
theorem kMo_plainOf : sw_yv yMo_plainOf prog_10_method_72_code 3 (some .boolean) 1 := ⟨⟨tb_mem 1268 (by decide +kernel) (by decide +kernel), tb_mem 10 (by decide +kernel) (by decide +kernel), by decide +kernel, by decide +kernel, by decide +kernel⟩, tb_mem 1267 (by decide +kernel) (by decide +kernel), ts_mem 78 (by decide +kernel) (by decide +kernel)⟩
abbrev rgMo_plainOf (rr : Room) : Room := { frames := rr.frames + 52, cells := 0, slots := 0, locals := rr.locals + 1192 }
def yMo_readTest : MethodName := ⟨R_Mo, "readTest", "(I)V"⟩
theorem kMo_readTest : sw_yv yMo_readTest prog_10_method_49_code 2 (none) 1 := ⟨⟨tb_mem 1411 (by decide +kernel) (by decide +kernel), tb_mem 10 (by decide +kernel) (by decide +kernel), by decide +kernel, by decide +kernel, by decide +kernel⟩, tb_mem 1410 (by decide +kernel) (by decide +kernel), ts_mem 101 (by decide +kernel) (by decide +kernel)⟩
abbrev rgMo_readTest (rr : Room) : Room := { frames := rr.frames + 53, cells := 0, slots := 0, locals := rr.locals + 1125 }
def yMo_bothOf : MethodName := ⟨R_Mo, "bothOf", "(Z)Z"⟩
theorem kMo_bothOf : sw_yv yMo_bothOf prog_10_method_71_code 4 (some .boolean) 1 := ⟨⟨tb_mem 1264 (by decide +kernel) (by decide +kernel), tb_mem 10 (by decide +kernel) (by decide +kernel), by decide +kernel, by decide +kernel, by decide +kernel⟩, tb_mem 1263 (by decide +kernel) (by decide +kernel), ts_mem 77 (by decide +kernel) (by decide +kernel)⟩
abbrev rgMo_bothOf (rr : Room) : Room := { frames := rr.frames + 53, cells := 0, slots := 0, locals := rr.locals + 1214 }
def yMo_readClause : MethodName := ⟨R_Mo, "readClause", "()V"⟩
theorem kMo_readClause : sw_yv yMo_readClause prog_10_method_45_code 1 (none) 0 := ⟨⟨tb_mem 1423 (by decide +kernel) (by decide +kernel), tb_mem 10 (by decide +kernel) (by decide +kernel), by decide +kernel, by decide +kernel, by decide +kernel⟩, tb_mem 1422 (by decide +kernel) (by decide +kernel), ts_mem 104 (by decide +kernel) (by decide +kernel)⟩
abbrev rmMo_readClause : Room := { frames := 531, cells := 0, slots := 0, locals := 11271 }
def yMo_readOrder : MethodName := ⟨R_Mo, "readOrder", "()V"⟩
theorem kMo_readOrder : sw_yv yMo_readOrder prog_10_method_47_code 1 (none) 0 := ⟨⟨tb_mem 1367 (by decide +kernel) (by decide +kernel), tb_mem 10 (by decide +kernel) (by decide +kernel), by decide +kernel, by decide +kernel, by decide +kernel⟩, tb_mem 1366 (by decide +kernel) (by decide +kernel), ts_mem 90 (by decide +kernel) (by decide +kernel)⟩
abbrev rmMo_readOrder : Room := { frames := 531, cells := 0, slots := 0, locals := 11271 }
def yMo_readOne : MethodName := ⟨R_Mo, "readOne", "()V"⟩
theorem kMo_readOne : sw_yv yMo_readOne prog_10_method_48_code 1 (none) 0 := ⟨⟨tb_mem 1363 (by decide +kernel) (by decide +kernel), tb_mem 10 (by decide +kernel) (by decide +kernel), by decide +kernel, by decide +kernel, by decide +kernel⟩, tb_mem 1362 (by decide +kernel) (by decide +kernel), ts_mem 89 (by decide +kernel) (by decide +kernel)⟩
abbrev rmMo_readOne : Room := { frames := 532, cells := 0, slots := 0, locals := 11291 }
def yMo_reads : MethodName := ⟨R_Mo, "reads", "()Z"⟩
theorem kMo_reads : sw_yv yMo_reads prog_10_method_55_code 2 (some .boolean) 0 := ⟨⟨tb_mem 1344 (by decide +kernel) (by decide +kernel), tb_mem 10 (by decide +kernel) (by decide +kernel), by decide +kernel, by decide +kernel, by decide +kernel⟩, tb_mem 1343 (by decide +kernel) (by decide +kernel), ts_mem 86 (by decide +kernel) (by decide +kernel)⟩
abbrev rmMo_reads : Room := { frames := 533, cells := 0, slots := 0, locals := 11311 }
def yMo_readsAs : MethodName := ⟨R_Mo, "readsAs", "(Z)Z"⟩
theorem kMo_readsAs : sw_yv yMo_readsAs prog_10_method_56_code 2 (some .boolean) 1 := ⟨⟨tb_mem 1340 (by decide +kernel) (by decide +kernel), tb_mem 10 (by decide +kernel) (by decide +kernel), by decide +kernel, by decide +kernel, by decide +kernel⟩, tb_mem 1339 (by decide +kernel) (by decide +kernel), ts_mem 85 (by decide +kernel) (by decide +kernel)⟩
abbrev rmMo_readsAs : Room := { frames := 534, cells := 0, slots := 0, locals := 11332 }
def yMo_law : MethodName := ⟨R_Mo, "law", "()I"⟩
theorem kMo_law : sw_yv yMo_law prog_10_method_58_code 1 (some .int) 0 := ⟨⟨tb_mem 1336 (by decide +kernel) (by decide +kernel), tb_mem 10 (by decide +kernel) (by decide +kernel), by decide +kernel, by decide +kernel, by decide +kernel⟩, tb_mem 1334 (by decide +kernel) (by decide +kernel), tb_mem 1335 (by decide +kernel) (by decide +kernel)⟩
abbrev rmMo_law : Room := { frames := 535, cells := 0, slots := 0, locals := 11353 }
def yMo_testOf : MethodName := ⟨R_Mo, "testOf", "(Z)Z"⟩
theorem kMo_testOf : sw_yv yMo_testOf prog_10_method_70_code 4 (some .boolean) 1 := ⟨⟨tb_mem 1260 (by decide +kernel) (by decide +kernel), tb_mem 10 (by decide +kernel) (by decide +kernel), by decide +kernel, by decide +kernel, by decide +kernel⟩, tb_mem 1259 (by decide +kernel) (by decide +kernel), ts_mem 76 (by decide +kernel) (by decide +kernel)⟩
abbrev rgMo_testOf (rr : Room) : Room := { frames := rr.frames + 54, cells := 0, slots := 0, locals := rr.locals + 1237 }
def yMo_tells : MethodName := ⟨R_Mo, "tells", "(IIIII)I"⟩
theorem kMo_tells : sw_yv yMo_tells prog_10_method_75_code 13 (some .int) 5 := ⟨⟨tb_mem 1212 (by decide +kernel) (by decide +kernel), tb_mem 10 (by decide +kernel) (by decide +kernel), by decide +kernel, by decide +kernel, by decide +kernel⟩, tb_mem 1211 (by decide +kernel) (by decide +kernel), ts_mem 66 (by decide +kernel) (by decide +kernel)⟩
abbrev rmMo_tells : Room := { frames := 541, cells := 0, slots := 0, locals := 12393 }
def yMo_countsAt : MethodName := ⟨R_Mo, "countsAt", "(II)I"⟩
theorem kMo_countsAt : sw_yv yMo_countsAt prog_10_method_76_code 3 (some .int) 2 := ⟨⟨tb_mem 1208 (by decide +kernel) (by decide +kernel), tb_mem 10 (by decide +kernel) (by decide +kernel), by decide +kernel, by decide +kernel, by decide +kernel⟩, tb_mem 1207 (by decide +kernel) (by decide +kernel), ts_mem 65 (by decide +kernel) (by decide +kernel)⟩
abbrev rmMo_countsAt : Room := { frames := 542, cells := 0, slots := 0, locals := 12425 }
def yMo_shedsAt : MethodName := ⟨R_Mo, "shedsAt", "(II)I"⟩
theorem kMo_shedsAt : sw_yv yMo_shedsAt prog_10_method_77_code 3 (some .int) 2 := ⟨⟨tb_mem 1276 (by decide +kernel) (by decide +kernel), tb_mem 10 (by decide +kernel) (by decide +kernel), by decide +kernel, by decide +kernel, by decide +kernel⟩, tb_mem 1275 (by decide +kernel) (by decide +kernel), ts_mem 80 (by decide +kernel) (by decide +kernel)⟩
abbrev rmMo_shedsAt : Room := { frames := 542, cells := 0, slots := 0, locals := 12425 }
def yMo_isBarred : MethodName := ⟨R_Mo, "isBarred", "(II)Z"⟩
theorem kMo_isBarred : sw_yv yMo_isBarred prog_10_method_78_code 3 (some .boolean) 2 := ⟨⟨tb_mem 1287 (by decide +kernel) (by decide +kernel), tb_mem 10 (by decide +kernel) (by decide +kernel), by decide +kernel, by decide +kernel, by decide +kernel⟩, tb_mem 1286 (by decide +kernel) (by decide +kernel), ts_mem 81 (by decide +kernel) (by decide +kernel)⟩
abbrev rmMo_isBarred : Room := { frames := 542, cells := 0, slots := 0, locals := 12425 }
def yMo_pullOf : MethodName := ⟨R_Mo, "pullOf", "(I)I"⟩
theorem kMo_pullOf : sw_yv yMo_pullOf prog_10_method_79_code 2 (some .int) 1 := ⟨⟨tb_mem 1295 (by decide +kernel) (by decide +kernel), tb_mem 10 (by decide +kernel) (by decide +kernel), by decide +kernel, by decide +kernel, by decide +kernel⟩, tb_mem 1294 (by decide +kernel) (by decide +kernel), ts_mem 83 (by decide +kernel) (by decide +kernel)⟩
abbrev rmMo_pullOf : Room := { frames := 543, cells := 0, slots := 0, locals := 12447 }
def yMo_tiltNow : MethodName := ⟨R_Mo, "tiltNow", "()I"⟩
theorem kMo_tiltNow : sw_yv yMo_tiltNow prog_10_method_80_code 3 (some .int) 0 := ⟨⟨tb_mem 1291 (by decide +kernel) (by decide +kernel), tb_mem 10 (by decide +kernel) (by decide +kernel), by decide +kernel, by decide +kernel, by decide +kernel⟩, tb_mem 1290 (by decide +kernel) (by decide +kernel), ts_mem 82 (by decide +kernel) (by decide +kernel)⟩
abbrev rmMo_tiltNow : Room := { frames := 544, cells := 0, slots := 0, locals := 12468 }
def yMo_dayPasses : MethodName := ⟨R_Mo, "dayPasses", "()I"⟩
theorem kMo_dayPasses : sw_yv yMo_dayPasses prog_10_method_82_code 4 (some .int) 0 := ⟨⟨tb_mem 1491 (by decide +kernel) (by decide +kernel), tb_mem 10 (by decide +kernel) (by decide +kernel), by decide +kernel, by decide +kernel, by decide +kernel⟩, tb_mem 1490 (by decide +kernel) (by decide +kernel), ts_mem 114 (by decide +kernel) (by decide +kernel)⟩
abbrev rmMo_dayPasses : Room := { frames := 543, cells := 0, slots := 0, locals := 12447 }
def yMo_canPut : MethodName := ⟨R_Mo, "canPut", "(II)Z"⟩
theorem kMo_canPut : sw_yv yMo_canPut prog_10_method_86_code 3 (some .boolean) 2 := ⟨⟨tb_mem 1455 (by decide +kernel) (by decide +kernel), tb_mem 10 (by decide +kernel) (by decide +kernel), by decide +kernel, by decide +kernel, by decide +kernel⟩, tb_mem 1454 (by decide +kernel) (by decide +kernel), ts_mem 108 (by decide +kernel) (by decide +kernel)⟩
abbrev rmMo_canPut : Room := { frames := 543, cells := 0, slots := 0, locals := 12447 }
def yMo_putsKept : MethodName := ⟨R_Mo, "putsKept", "(II)I"⟩
theorem kMo_putsKept : sw_yv yMo_putsKept prog_10_method_87_code 3 (some .int) 2 := ⟨⟨tb_mem 1451 (by decide +kernel) (by decide +kernel), tb_mem 10 (by decide +kernel) (by decide +kernel), by decide +kernel, by decide +kernel, by decide +kernel⟩, tb_mem 1450 (by decide +kernel) (by decide +kernel), ts_mem 107 (by decide +kernel) (by decide +kernel)⟩
abbrev rmMo_putsKept : Room := { frames := 545, cells := 0, slots := 0, locals := 12490 }
def yMo_takesKept : MethodName := ⟨R_Mo, "takesKept", "(I)I"⟩
theorem kMo_takesKept : sw_yv yMo_takesKept prog_10_method_88_code 2 (some .int) 1 := ⟨⟨tb_mem 1471 (by decide +kernel) (by decide +kernel), tb_mem 10 (by decide +kernel) (by decide +kernel), by decide +kernel, by decide +kernel, by decide +kernel⟩, tb_mem 1470 (by decide +kernel) (by decide +kernel), ts_mem 111 (by decide +kernel) (by decide +kernel)⟩
abbrev rmMo_takesKept : Room := { frames := 545, cells := 0, slots := 0, locals := 12490 }
def yMo_passesKept : MethodName := ⟨R_Mo, "passesKept", "()I"⟩
theorem kMo_passesKept : sw_yv yMo_passesKept prog_10_method_90_code 1 (some .int) 0 := ⟨⟨tb_mem 1487 (by decide +kernel) (by decide +kernel), tb_mem 10 (by decide +kernel) (by decide +kernel), by decide +kernel, by decide +kernel, by decide +kernel⟩, tb_mem 1486 (by decide +kernel) (by decide +kernel), ts_mem 113 (by decide +kernel) (by decide +kernel)⟩
abbrev rmMo_passesKept : Room := { frames := 544, cells := 0, slots := 0, locals := 12470 }
def yMo_put : MethodName := ⟨R_Mo, "put", "(II)I"⟩
theorem kMo_put : sw_yv yMo_put prog_10_method_91_code 3 (some .int) 2 := ⟨⟨tb_mem 1447 (by decide +kernel) (by decide +kernel), tb_mem 10 (by decide +kernel) (by decide +kernel), by decide +kernel, by decide +kernel, by decide +kernel⟩, tb_mem 1445 (by decide +kernel) (by decide +kernel), tb_mem 1446 (by decide +kernel) (by decide +kernel)⟩
abbrev rmMo_put : Room := { frames := 546, cells := 0, slots := 0, locals := 12512 }
def yMo_take : MethodName := ⟨R_Mo, "take", "(I)I"⟩
theorem kMo_take : sw_yv yMo_take prog_10_method_92_code 2 (some .int) 1 := ⟨⟨tb_mem 1467 (by decide +kernel) (by decide +kernel), tb_mem 10 (by decide +kernel) (by decide +kernel), by decide +kernel, by decide +kernel, by decide +kernel⟩, tb_mem 1465 (by decide +kernel) (by decide +kernel), tb_mem 1466 (by decide +kernel) (by decide +kernel)⟩
abbrev rmMo_take : Room := { frames := 546, cells := 0, slots := 0, locals := 12511 }
def yMo_pass : MethodName := ⟨R_Mo, "pass", "()I"⟩
theorem kMo_pass : sw_yv yMo_pass prog_10_method_94_code 1 (some .int) 0 := ⟨⟨tb_mem 1483 (by decide +kernel) (by decide +kernel), tb_mem 10 (by decide +kernel) (by decide +kernel), by decide +kernel, by decide +kernel, by decide +kernel⟩, tb_mem 1481 (by decide +kernel) (by decide +kernel), tb_mem 1482 (by decide +kernel) (by decide +kernel)⟩
abbrev rmMo_pass : Room := { frames := 545, cells := 0, slots := 0, locals := 12490 }
def yMo_laysPulls : MethodName := ⟨R_Mo, "laysPulls", "()V"⟩
theorem kMo_laysPulls : sw_yv yMo_laysPulls prog_10_method_95_code 3 (none) 0 := ⟨⟨tb_mem 1510 (by decide +kernel) (by decide +kernel), tb_mem 10 (by decide +kernel) (by decide +kernel), by decide +kernel, by decide +kernel, by decide +kernel⟩, tb_mem 1509 (by decide +kernel) (by decide +kernel), ts_mem 117 (by decide +kernel) (by decide +kernel)⟩
abbrev rmMo_laysPulls : Room := { frames := 543, cells := 0, slots := 0, locals := 12447 }
def yMo_laysBest : MethodName := ⟨R_Mo, "laysBest", "(I)V"⟩
theorem kMo_laysBest : sw_yv yMo_laysBest prog_10_method_102_code 5 (none) 1 := ⟨⟨tb_mem 1506 (by decide +kernel) (by decide +kernel), tb_mem 10 (by decide +kernel) (by decide +kernel), by decide +kernel, by decide +kernel, by decide +kernel⟩, tb_mem 1505 (by decide +kernel) (by decide +kernel), ts_mem 116 (by decide +kernel) (by decide +kernel)⟩
abbrev rmMo_laysBest : Room := { frames := 544, cells := 0, slots := 0, locals := 12469 }
def yMo_rowTold : MethodName := ⟨R_Mo, "rowTold", "(II)I"⟩
theorem kMo_rowTold : sw_yv yMo_rowTold prog_10_method_104_code 4 (some .int) 2 := ⟨⟨tb_mem 1541 (by decide +kernel) (by decide +kernel), tb_mem 10 (by decide +kernel) (by decide +kernel), by decide +kernel, by decide +kernel, by decide +kernel⟩, tb_mem 1540 (by decide +kernel) (by decide +kernel), ts_mem 124 (by decide +kernel) (by decide +kernel)⟩
abbrev rmMo_rowTold : Room := { frames := 545, cells := 0, slots := 0, locals := 12493 }
def yMo_rowMany : MethodName := ⟨R_Mo, "rowMany", "()I"⟩
theorem kMo_rowMany : sw_yv yMo_rowMany prog_10_method_105_code 1 (some .int) 0 := ⟨⟨tb_mem 1502 (by decide +kernel) (by decide +kernel), tb_mem 10 (by decide +kernel) (by decide +kernel), by decide +kernel, by decide +kernel, by decide +kernel⟩, tb_mem 1501 (by decide +kernel) (by decide +kernel), ts_mem 115 (by decide +kernel) (by decide +kernel)⟩
abbrev rmMo_rowMany : Room := { frames := 545, cells := 0, slots := 0, locals := 12493 }
def yMo_settle : MethodName := ⟨R_Mo, "settle", "(I)I"⟩
theorem kMo_settle : sw_yv yMo_settle prog_10_method_106_code 3 (some .int) 1 := ⟨⟨tb_mem 1498 (by decide +kernel) (by decide +kernel), tb_mem 10 (by decide +kernel) (by decide +kernel), by decide +kernel, by decide +kernel, by decide +kernel⟩, tb_mem 1496 (by decide +kernel) (by decide +kernel), tb_mem 1497 (by decide +kernel) (by decide +kernel)⟩
abbrev rmMo_settle : Room := { frames := 546, cells := 0, slots := 0, locals := 12516 }
def yMo_least : MethodName := ⟨R_Mo, "least", "(I)I"⟩
theorem kMo_least : sw_yv yMo_least prog_10_method_107_code 2 (some .int) 1 := ⟨⟨tb_mem 1549 (by decide +kernel) (by decide +kernel), tb_mem 10 (by decide +kernel) (by decide +kernel), by decide +kernel, by decide +kernel, by decide +kernel⟩, tb_mem 1547 (by decide +kernel) (by decide +kernel), tb_mem 1548 (by decide +kernel) (by decide +kernel)⟩
abbrev rmMo_least : Room := { frames := 546, cells := 0, slots := 0, locals := 12516 }
def yMo_moved : MethodName := ⟨R_Mo, "moved", "(I)I"⟩
theorem kMo_moved : sw_yv yMo_moved prog_10_method_108_code 2 (some .int) 1 := ⟨⟨tb_mem 1553 (by decide +kernel) (by decide +kernel), tb_mem 10 (by decide +kernel) (by decide +kernel), by decide +kernel, by decide +kernel, by decide +kernel⟩, tb_mem 1551 (by decide +kernel) (by decide +kernel), tb_mem 1552 (by decide +kernel) (by decide +kernel)⟩
abbrev rmMo_moved : Room := { frames := 546, cells := 0, slots := 0, locals := 12516 }
def yMo_alone : MethodName := ⟨R_Mo, "alone", "()I"⟩
theorem kMo_alone : sw_yv yMo_alone prog_10_method_109_code 5 (some .int) 0 := ⟨⟨tb_mem 1557 (by decide +kernel) (by decide +kernel), tb_mem 10 (by decide +kernel) (by decide +kernel), by decide +kernel, by decide +kernel, by decide +kernel⟩, tb_mem 1555 (by decide +kernel) (by decide +kernel), tb_mem 1556 (by decide +kernel) (by decide +kernel)⟩
abbrev rmMo_alone : Room := { frames := 545, cells := 0, slots := 0, locals := 12490 }
def yMo_tiltWith : MethodName := ⟨R_Mo, "tiltWith", "(II)I"⟩
theorem kMo_tiltWith : sw_yv yMo_tiltWith prog_10_method_110_code 5 (some .int) 2 := ⟨⟨tb_mem 1565 (by decide +kernel) (by decide +kernel), tb_mem 10 (by decide +kernel) (by decide +kernel), by decide +kernel, by decide +kernel, by decide +kernel⟩, tb_mem 1564 (by decide +kernel) (by decide +kernel), ts_mem 126 (by decide +kernel) (by decide +kernel)⟩
abbrev rmMo_tiltWith : Room := { frames := 545, cells := 0, slots := 0, locals := 12490 }
def yMo_exchanged : MethodName := ⟨R_Mo, "exchanged", "(I)I"⟩
theorem kMo_exchanged : sw_yv yMo_exchanged prog_10_method_111_code 7 (some .int) 1 := ⟨⟨tb_mem 1561 (by decide +kernel) (by decide +kernel), tb_mem 10 (by decide +kernel) (by decide +kernel), by decide +kernel, by decide +kernel, by decide +kernel⟩, tb_mem 1559 (by decide +kernel) (by decide +kernel), tb_mem 1560 (by decide +kernel) (by decide +kernel)⟩
abbrev rmMo_exchanged : Room := { frames := 546, cells := 0, slots := 0, locals := 12514 }
def yMo_compare : MethodName := ⟨R_Mo, "compare", "(I)I"⟩
theorem kMo_compare : sw_yv yMo_compare prog_10_method_112_code 4 (some .int) 1 := ⟨⟨tb_mem 1569 (by decide +kernel) (by decide +kernel), tb_mem 10 (by decide +kernel) (by decide +kernel), by decide +kernel, by decide +kernel, by decide +kernel⟩, tb_mem 1567 (by decide +kernel) (by decide +kernel), tb_mem 1568 (by decide +kernel) (by decide +kernel)⟩
abbrev rmMo_compare : Room := { frames := 545, cells := 0, slots := 0, locals := 12490 }
def yMo_laysTilts : MethodName := ⟨R_Mo, "laysTilts", "()V"⟩
theorem kMo_laysTilts : sw_yv yMo_laysTilts prog_10_method_116_code 5 (none) 0 := ⟨⟨tb_mem 1596 (by decide +kernel) (by decide +kernel), tb_mem 10 (by decide +kernel) (by decide +kernel), by decide +kernel, by decide +kernel, by decide +kernel⟩, tb_mem 1595 (by decide +kernel) (by decide +kernel), ts_mem 130 (by decide +kernel) (by decide +kernel)⟩
abbrev rmMo_laysTilts : Room := { frames := 544, cells := 0, slots := 0, locals := 12468 }
def yMo_laysOff : MethodName := ⟨R_Mo, "laysOff", "()V"⟩
theorem kMo_laysOff : sw_yv yMo_laysOff prog_10_method_118_code 4 (none) 0 := ⟨⟨tb_mem 1592 (by decide +kernel) (by decide +kernel), tb_mem 10 (by decide +kernel) (by decide +kernel), by decide +kernel, by decide +kernel, by decide +kernel⟩, tb_mem 1591 (by decide +kernel) (by decide +kernel), ts_mem 129 (by decide +kernel) (by decide +kernel)⟩
abbrev rmMo_laysOff : Room := { frames := 545, cells := 0, slots := 0, locals := 12492 }
def yMo_off : MethodName := ⟨R_Mo, "off", "(I)I"⟩
theorem kMo_off : sw_yv yMo_off prog_10_method_119_code 5 (some .int) 1 := ⟨⟨tb_mem 1588 (by decide +kernel) (by decide +kernel), tb_mem 10 (by decide +kernel) (by decide +kernel), by decide +kernel, by decide +kernel, by decide +kernel⟩, tb_mem 1586 (by decide +kernel) (by decide +kernel), tb_mem 1587 (by decide +kernel) (by decide +kernel)⟩
abbrev rmMo_off : Room := { frames := 546, cells := 0, slots := 0, locals := 12515 }
def yMo_byTurns : MethodName := ⟨R_Mo, "byTurns", "(I)I"⟩
theorem kMo_byTurns : sw_yv yMo_byTurns prog_10_method_121_code 4 (some .int) 1 := ⟨⟨tb_mem 1608 (by decide +kernel) (by decide +kernel), tb_mem 10 (by decide +kernel) (by decide +kernel), by decide +kernel, by decide +kernel, by decide +kernel⟩, tb_mem 1606 (by decide +kernel) (by decide +kernel), tb_mem 1607 (by decide +kernel) (by decide +kernel)⟩
abbrev rmMo_byTurns : Room := { frames := 545, cells := 0, slots := 0, locals := 12492 }
def yMo_goesAlong : MethodName := ⟨R_Mo, "goesAlong", "(IZ)V"⟩
theorem kMo_goesAlong : sw_yv yMo_goesAlong prog_10_method_133_code 5 (none) 2 := ⟨⟨tb_mem 1672 (by decide +kernel) (by decide +kernel), tb_mem 10 (by decide +kernel) (by decide +kernel), by decide +kernel, by decide +kernel, by decide +kernel⟩, tb_mem 1671 (by decide +kernel) (by decide +kernel), ts_mem 140 (by decide +kernel) (by decide +kernel)⟩
abbrev rmMo_goesAlong : Room := { frames := 545, cells := 0, slots := 0, locals := 12490 }
def yMo_obeys : MethodName := ⟨R_Mo, "obeys", "()I"⟩
theorem kMo_obeys : sw_yv yMo_obeys prog_10_method_135_code 3 (some .int) 0 := ⟨⟨tb_mem 1676 (by decide +kernel) (by decide +kernel), tb_mem 10 (by decide +kernel) (by decide +kernel), by decide +kernel, by decide +kernel, by decide +kernel⟩, tb_mem 1675 (by decide +kernel) (by decide +kernel), ts_mem 141 (by decide +kernel) (by decide +kernel)⟩
abbrev rmMo_obeys : Room := { frames := 546, cells := 0, slots := 0, locals := 12512 }
def yMo_runs : MethodName := ⟨R_Mo, "runs", "(I)Z"⟩
theorem kMo_runs : sw_yv yMo_runs prog_10_method_136_code 5 (some .boolean) 1 := ⟨⟨tb_mem 1668 (by decide +kernel) (by decide +kernel), tb_mem 10 (by decide +kernel) (by decide +kernel), by decide +kernel, by decide +kernel, by decide +kernel⟩, tb_mem 1667 (by decide +kernel) (by decide +kernel), ts_mem 139 (by decide +kernel) (by decide +kernel)⟩
abbrev rmMo_runs : Room := { frames := 547, cells := 0, slots := 0, locals := 12534 }
def yMo_days : MethodName := ⟨R_Mo, "days", "(II)I"⟩
theorem kMo_days : sw_yv yMo_days prog_10_method_138_code 7 (some .int) 2 := ⟨⟨tb_mem 1688 (by decide +kernel) (by decide +kernel), tb_mem 10 (by decide +kernel) (by decide +kernel), by decide +kernel, by decide +kernel, by decide +kernel⟩, tb_mem 1686 (by decide +kernel) (by decide +kernel), tb_mem 1687 (by decide +kernel) (by decide +kernel)⟩
abbrev rmMo_days : Room := { frames := 545, cells := 0, slots := 0, locals := 12490 }
def yMo_of : MethodName := ⟨R_Mo, "of", "(II)I"⟩
theorem kMo_of : sw_yv yMo_of prog_10_method_24_code 3 (some .int) 2 := ⟨⟨tb_mem 1196 (by decide +kernel) (by decide +kernel), tb_mem 10 (by decide +kernel) (by decide +kernel), by decide +kernel, by decide +kernel, by decide +kernel⟩, tb_mem 1194 (by decide +kernel) (by decide +kernel), tb_mem 1195 (by decide +kernel) (by decide +kernel)⟩
abbrev rmMo_of : Room := { frames := 543, cells := 0, slots := 0, locals := 12447 }
def yMo_asks : MethodName := ⟨R_Mo, "asks", "(III)I"⟩
theorem kMo_asks : sw_yv yMo_asks prog_10_method_25_code 4 (some .int) 3 := ⟨⟨tb_mem 1280 (by decide +kernel) (by decide +kernel), tb_mem 10 (by decide +kernel) (by decide +kernel), by decide +kernel, by decide +kernel, by decide +kernel⟩, tb_mem 1278 (by decide +kernel) (by decide +kernel), tb_mem 1279 (by decide +kernel) (by decide +kernel)⟩
abbrev rmMo_asks : Room := { frames := 545, cells := 0, slots := 0, locals := 12490 }
def yMo_tilt : MethodName := ⟨R_Mo, "tilt", "(I)I"⟩
theorem kMo_tilt : sw_yv yMo_tilt prog_10_method_26_code 3 (some .int) 1 := ⟨⟨tb_mem 1302 (by decide +kernel) (by decide +kernel), tb_mem 10 (by decide +kernel) (by decide +kernel), by decide +kernel, by decide +kernel, by decide +kernel⟩, tb_mem 1300 (by decide +kernel) (by decide +kernel), tb_mem 1301 (by decide +kernel) (by decide +kernel)⟩
abbrev rmMo_tilt : Room := { frames := 545, cells := 0, slots := 0, locals := 12490 }
def yMo_orders : MethodName := ⟨R_Mo, "orders", "()I"⟩
theorem kMo_orders : sw_yv yMo_orders prog_10_method_132_code 5 (some .int) 0 := ⟨⟨tb_mem 1660 (by decide +kernel) (by decide +kernel), tb_mem 10 (by decide +kernel) (by decide +kernel), by decide +kernel, by decide +kernel, by decide +kernel⟩, tb_mem 1658 (by decide +kernel) (by decide +kernel), tb_mem 1659 (by decide +kernel) (by decide +kernel)⟩
abbrev rmMo_orders : Room := { frames := 548, cells := 0, slots := 0, locals := 12558 }
theorem wc_Mo_193 : Cond.constant R_Mo 193 (1000000 : Int32) ∈ sw_tb := tb_mem 1359 (by decide +kernel) (by decide +kernel)
theorem wc_Mo_292 : Cond.constantLong R_Mo 292 (1000000000 : Int64) ∈ sw_tb := tb_mem 1255 (by decide +kernel) (by decide +kernel)
theorem wc_Mo_294 : Cond.constantLong R_Mo 294 (-1000000000 : Int64) ∈ sw_tb := tb_mem 1256 (by decide +kernel) (by decide +kernel)
theorem wc_Mo_462 : Cond.constantLong R_Mo 462 (-1 : Int64) ∈ sw_tb := tb_mem 1650 (by decide +kernel) (by decide +kernel)
theorem wc_Mo_464 : Cond.constantLong R_Mo 464 (1000000000000 : Int64) ∈ sw_tb := tb_mem 1651 (by decide +kernel) (by decide +kernel)
theorem wc_Mo_466 : Cond.constantLong R_Mo 466 (10 : Int64) ∈ sw_tb := tb_mem 1652 (by decide +kernel) (by decide +kernel)
theorem wc_Mo_492 : Cond.constantLong R_Mo 492 (1000000 : Int64) ∈ sw_tb := tb_mem 1680 (by decide +kernel) (by decide +kernel)
theorem wc_Mo_505 : Cond.constantLong R_Mo 505 (1103 : Int64) ∈ sw_tb := tb_mem 1693 (by decide +kernel) (by decide +kernel)
theorem wc_Mo_510 : Cond.constantLong R_Mo 510 (12345 : Int64) ∈ sw_tb := tb_mem 1694 (by decide +kernel) (by decide +kernel)
theorem wc_Mo_512 : Cond.constantLong R_Mo 512 (1000003 : Int64) ∈ sw_tb := tb_mem 1695 (by decide +kernel) (by decide +kernel)
theorem wf_Mo_101 : Cond.fieldLink R_Mo 101 R_Mo (F_Mo 43).2.1 (F_Mo 43).2.2.1 ∈ sw_tb := tb_mem 1034 (by decide +kernel) (by decide +kernel)
theorem wf_Mo_104 : Cond.fieldLink R_Mo 104 R_Mo (F_Mo 49).2.1 (F_Mo 49).2.2.1 ∈ sw_tb := tb_mem 1040 (by decide +kernel) (by decide +kernel)
theorem wf_Mo_107 : Cond.fieldLink R_Mo 107 R_Mo (F_Mo 50).2.1 (F_Mo 50).2.2.1 ∈ sw_tb := tb_mem 1041 (by decide +kernel) (by decide +kernel)
theorem wf_Mo_11 : Cond.fieldLink R_Mo 11 R_Mo (F_Mo 33).2.1 (F_Mo 33).2.2.1 ∈ sw_tb := tb_mem 1024 (by decide +kernel) (by decide +kernel)
theorem wf_Mo_110 : Cond.fieldLink R_Mo 110 R_Mo (F_Mo 51).2.1 (F_Mo 51).2.2.1 ∈ sw_tb := tb_mem 1042 (by decide +kernel) (by decide +kernel)
theorem wf_Mo_175 : Cond.fieldLink R_Mo 175 R_Mo (F_Mo 13).2.1 (F_Mo 13).2.2.1 ∈ sw_tb := tb_mem 1004 (by decide +kernel) (by decide +kernel)
theorem wf_Mo_178 : Cond.fieldLink R_Mo 178 R_Mo (F_Mo 6).2.1 (F_Mo 6).2.2.1 ∈ sw_tb := tb_mem 997 (by decide +kernel) (by decide +kernel)
theorem wf_Mo_181 : Cond.fieldLink R_Mo 181 R_Mo (F_Mo 18).2.1 (F_Mo 18).2.2.1 ∈ sw_tb := tb_mem 1009 (by decide +kernel) (by decide +kernel)
theorem wf_Mo_194 : Cond.fieldLink R_Mo 194 R_Mo (F_Mo 21).2.1 (F_Mo 21).2.2.1 ∈ sw_tb := tb_mem 1012 (by decide +kernel) (by decide +kernel)
theorem wf_Mo_201 : Cond.fieldLink R_Mo 201 R_Mo (F_Mo 19).2.1 (F_Mo 19).2.2.1 ∈ sw_tb := tb_mem 1010 (by decide +kernel) (by decide +kernel)
theorem wf_Mo_210 : Cond.fieldLink R_Mo 210 R_Mo (F_Mo 20).2.1 (F_Mo 20).2.2.1 ∈ sw_tb := tb_mem 1011 (by decide +kernel) (by decide +kernel)
theorem wf_Mo_229 : Cond.fieldLink R_Mo 229 R_Mo (F_Mo 10).2.1 (F_Mo 10).2.2.1 ∈ sw_tb := tb_mem 1001 (by decide +kernel) (by decide +kernel)
theorem wf_Mo_255 : Cond.fieldLink R_Mo 255 R_Mo (F_Mo 8).2.1 (F_Mo 8).2.2.1 ∈ sw_tb := tb_mem 999 (by decide +kernel) (by decide +kernel)
theorem wf_Mo_258 : Cond.fieldLink R_Mo 258 R_Mo (F_Mo 9).2.1 (F_Mo 9).2.2.1 ∈ sw_tb := tb_mem 1000 (by decide +kernel) (by decide +kernel)
theorem wf_Mo_28 : Cond.fieldLink R_Mo 28 R_Mo (F_Mo 2).2.1 (F_Mo 2).2.2.1 ∈ sw_tb := tb_mem 993 (by decide +kernel) (by decide +kernel)
theorem wf_Mo_283 : Cond.fieldLink R_Mo 283 R_Mo (F_Mo 23).2.1 (F_Mo 23).2.2.1 ∈ sw_tb := tb_mem 1014 (by decide +kernel) (by decide +kernel)
theorem wf_Mo_286 : Cond.fieldLink R_Mo 286 R_Mo (F_Mo 22).2.1 (F_Mo 22).2.2.1 ∈ sw_tb := tb_mem 1013 (by decide +kernel) (by decide +kernel)
theorem wf_Mo_296 : Cond.fieldLink R_Mo 296 R_Mo (F_Mo 24).2.1 (F_Mo 24).2.2.1 ∈ sw_tb := tb_mem 1015 (by decide +kernel) (by decide +kernel)
theorem wf_Mo_3 : Cond.fieldLink R_Mo 3 R_Mo (F_Mo 0).2.1 (F_Mo 0).2.2.1 ∈ sw_tb := tb_mem 991 (by decide +kernel) (by decide +kernel)
theorem wf_Mo_31 : Cond.fieldLink R_Mo 31 R_Mo (F_Mo 3).2.1 (F_Mo 3).2.2.1 ∈ sw_tb := tb_mem 994 (by decide +kernel) (by decide +kernel)
theorem wf_Mo_316 : Cond.fieldLink R_Mo 316 R_Mo (F_Mo 25).2.1 (F_Mo 25).2.2.1 ∈ sw_tb := tb_mem 1016 (by decide +kernel) (by decide +kernel)
theorem wf_Mo_322 : Cond.fieldLink R_Mo 322 R_Mo (F_Mo 27).2.1 (F_Mo 27).2.2.1 ∈ sw_tb := tb_mem 1018 (by decide +kernel) (by decide +kernel)
theorem wf_Mo_325 : Cond.fieldLink R_Mo 325 R_Mo (F_Mo 28).2.1 (F_Mo 28).2.2.1 ∈ sw_tb := tb_mem 1019 (by decide +kernel) (by decide +kernel)
theorem wf_Mo_328 : Cond.fieldLink R_Mo 328 R_Mo (F_Mo 29).2.1 (F_Mo 29).2.2.1 ∈ sw_tb := tb_mem 1020 (by decide +kernel) (by decide +kernel)
theorem wf_Mo_34 : Cond.fieldLink R_Mo 34 R_Mo (F_Mo 4).2.1 (F_Mo 4).2.2.1 ∈ sw_tb := tb_mem 995 (by decide +kernel) (by decide +kernel)
theorem wf_Mo_38 : Cond.fieldLink R_Mo 38 R_Mo (F_Mo 5).2.1 (F_Mo 5).2.2.1 ∈ sw_tb := tb_mem 996 (by decide +kernel) (by decide +kernel)
theorem wf_Mo_380 : Cond.fieldLink R_Mo 380 R_Mo (F_Mo 37).2.1 (F_Mo 37).2.2.1 ∈ sw_tb := tb_mem 1028 (by decide +kernel) (by decide +kernel)
theorem wf_Mo_41 : Cond.fieldLink R_Mo 41 R_Mo (F_Mo 7).2.1 (F_Mo 7).2.2.1 ∈ sw_tb := tb_mem 998 (by decide +kernel) (by decide +kernel)
theorem wf_Mo_45 : Cond.fieldLink R_Mo 45 R_Mo (F_Mo 11).2.1 (F_Mo 11).2.2.1 ∈ sw_tb := tb_mem 1002 (by decide +kernel) (by decide +kernel)
theorem wf_Mo_471 : Cond.fieldLink R_Mo 471 R_Mo (F_Mo 44).2.1 (F_Mo 44).2.2.1 ∈ sw_tb := tb_mem 1035 (by decide +kernel) (by decide +kernel)
theorem wf_Mo_48 : Cond.fieldLink R_Mo 48 R_Mo (F_Mo 12).2.1 (F_Mo 12).2.2.1 ∈ sw_tb := tb_mem 1003 (by decide +kernel) (by decide +kernel)
theorem wf_Mo_480 : Cond.fieldLink R_Mo 480 R_Mo (F_Mo 46).2.1 (F_Mo 46).2.2.1 ∈ sw_tb := tb_mem 1037 (by decide +kernel) (by decide +kernel)
theorem wf_Mo_483 : Cond.fieldLink R_Mo 483 R_Mo (F_Mo 47).2.1 (F_Mo 47).2.2.1 ∈ sw_tb := tb_mem 1038 (by decide +kernel) (by decide +kernel)
theorem wf_Mo_486 : Cond.fieldLink R_Mo 486 R_Mo (F_Mo 45).2.1 (F_Mo 45).2.2.1 ∈ sw_tb := tb_mem 1036 (by decide +kernel) (by decide +kernel)
theorem wf_Mo_489 : Cond.fieldLink R_Mo 489 R_Mo (F_Mo 48).2.1 (F_Mo 48).2.2.1 ∈ sw_tb := tb_mem 1039 (by decide +kernel) (by decide +kernel)
theorem wf_Mo_507 : Cond.fieldLink R_Mo 507 R_Mo (F_Mo 52).2.1 (F_Mo 52).2.2.1 ∈ sw_tb := tb_mem 1043 (by decide +kernel) (by decide +kernel)
theorem wf_Mo_51 : Cond.fieldLink R_Mo 51 R_Mo (F_Mo 14).2.1 (F_Mo 14).2.2.1 ∈ sw_tb := tb_mem 1005 (by decide +kernel) (by decide +kernel)
theorem wf_Mo_54 : Cond.fieldLink R_Mo 54 R_Mo (F_Mo 15).2.1 (F_Mo 15).2.2.1 ∈ sw_tb := tb_mem 1006 (by decide +kernel) (by decide +kernel)
theorem wf_Mo_57 : Cond.fieldLink R_Mo 57 R_Mo (F_Mo 16).2.1 (F_Mo 16).2.2.1 ∈ sw_tb := tb_mem 1007 (by decide +kernel) (by decide +kernel)
theorem wf_Mo_60 : Cond.fieldLink R_Mo 60 R_Mo (F_Mo 17).2.1 (F_Mo 17).2.2.1 ∈ sw_tb := tb_mem 1008 (by decide +kernel) (by decide +kernel)
theorem wf_Mo_63 : Cond.fieldLink R_Mo 63 R_Mo (F_Mo 26).2.1 (F_Mo 26).2.2.1 ∈ sw_tb := tb_mem 1017 (by decide +kernel) (by decide +kernel)
theorem wf_Mo_66 : Cond.fieldLink R_Mo 66 R_Mo (F_Mo 30).2.1 (F_Mo 30).2.2.1 ∈ sw_tb := tb_mem 1021 (by decide +kernel) (by decide +kernel)
theorem wf_Mo_69 : Cond.fieldLink R_Mo 69 R_Mo (F_Mo 31).2.1 (F_Mo 31).2.2.1 ∈ sw_tb := tb_mem 1022 (by decide +kernel) (by decide +kernel)
theorem wf_Mo_7 : Cond.fieldLink R_Mo 7 R_Mo (F_Mo 1).2.1 (F_Mo 1).2.2.1 ∈ sw_tb := tb_mem 992 (by decide +kernel) (by decide +kernel)
theorem wf_Mo_72 : Cond.fieldLink R_Mo 72 R_Mo (F_Mo 32).2.1 (F_Mo 32).2.2.1 ∈ sw_tb := tb_mem 1023 (by decide +kernel) (by decide +kernel)
theorem wf_Mo_75 : Cond.fieldLink R_Mo 75 R_Mo (F_Mo 34).2.1 (F_Mo 34).2.2.1 ∈ sw_tb := tb_mem 1025 (by decide +kernel) (by decide +kernel)
theorem wf_Mo_78 : Cond.fieldLink R_Mo 78 R_Mo (F_Mo 35).2.1 (F_Mo 35).2.2.1 ∈ sw_tb := tb_mem 1026 (by decide +kernel) (by decide +kernel)
theorem wf_Mo_82 : Cond.fieldLink R_Mo 82 R_Mo (F_Mo 36).2.1 (F_Mo 36).2.2.1 ∈ sw_tb := tb_mem 1027 (by decide +kernel) (by decide +kernel)
theorem wf_Mo_85 : Cond.fieldLink R_Mo 85 R_Mo (F_Mo 38).2.1 (F_Mo 38).2.2.1 ∈ sw_tb := tb_mem 1029 (by decide +kernel) (by decide +kernel)
theorem wf_Mo_88 : Cond.fieldLink R_Mo 88 R_Mo (F_Mo 39).2.1 (F_Mo 39).2.2.1 ∈ sw_tb := tb_mem 1030 (by decide +kernel) (by decide +kernel)
theorem wf_Mo_91 : Cond.fieldLink R_Mo 91 R_Mo (F_Mo 40).2.1 (F_Mo 40).2.2.1 ∈ sw_tb := tb_mem 1031 (by decide +kernel) (by decide +kernel)
theorem wf_Mo_94 : Cond.fieldLink R_Mo 94 R_Mo (F_Mo 41).2.1 (F_Mo 41).2.2.1 ∈ sw_tb := tb_mem 1032 (by decide +kernel) (by decide +kernel)
theorem wf_Mo_97 : Cond.fieldLink R_Mo 97 R_Mo (F_Mo 42).2.1 (F_Mo 42).2.2.1 ∈ sw_tb := tb_mem 1033 (by decide +kernel) (by decide +kernel)
theorem wm_Mo_113 : Cond.methodLink R_Mo 113 yMo_refuses ∈ sw_tb := tb_mem 1159 (by decide +kernel) (by decide +kernel)
theorem wm_Mo_116 : Cond.methodLink R_Mo 116 yMo_settled ∈ sw_tb := tb_mem 1171 (by decide +kernel) (by decide +kernel)
theorem wm_Mo_119 : Cond.methodLink R_Mo 119 yMo_many ∈ sw_tb := tb_mem 1185 (by decide +kernel) (by decide +kernel)
theorem wm_Mo_123 : Cond.methodLink R_Mo 123 yMo_isHeavy ∈ sw_tb := tb_mem 1182 (by decide +kernel) (by decide +kernel)
theorem wm_Mo_127 : Cond.methodLink R_Mo 127 yMo_canBe0 ∈ sw_tb := tb_mem 1179 (by decide +kernel) (by decide +kernel)
theorem wm_Mo_131 : Cond.methodLink R_Mo 131 yMo_adds ∈ sw_tb := tb_mem 1189 (by decide +kernel) (by decide +kernel)
theorem wm_Mo_135 : Cond.methodLink R_Mo 135 yMo_isClaim ∈ sw_tb := tb_mem 1197 (by decide +kernel) (by decide +kernel)
theorem wm_Mo_138 : Cond.methodLink R_Mo 138 yMo_isOn ∈ sw_tb := tb_mem 1201 (by decide +kernel) (by decide +kernel)
theorem wm_Mo_14 : Cond.methodLink R_Mo 14 yMo_good ∈ sw_tb := tb_mem 1163 (by decide +kernel) (by decide +kernel)
theorem wm_Mo_141 : Cond.methodLink R_Mo 141 yMo_countsAt ∈ sw_tb := tb_mem 1205 (by decide +kernel) (by decide +kernel)
theorem wm_Mo_145 : Cond.methodLink R_Mo 145 yMo_shedsAt ∈ sw_tb := tb_mem 1273 (by decide +kernel) (by decide +kernel)
theorem wm_Mo_148 : Cond.methodLink R_Mo 148 yMo_isPlace ∈ sw_tb := tb_mem 1281 (by decide +kernel) (by decide +kernel)
theorem wm_Mo_151 : Cond.methodLink R_Mo 151 yMo_isBarred ∈ sw_tb := tb_mem 1284 (by decide +kernel) (by decide +kernel)
theorem wm_Mo_154 : Cond.methodLink R_Mo 154 yMo_tiltNow ∈ sw_tb := tb_mem 1288 (by decide +kernel) (by decide +kernel)
theorem wm_Mo_157 : Cond.methodLink R_Mo 157 yMo_pullOf ∈ sw_tb := tb_mem 1292 (by decide +kernel) (by decide +kernel)
theorem wm_Mo_160 : Cond.methodLink R_Mo 160 yMo_armOf ∈ sw_tb := tb_mem 1217 (by decide +kernel) (by decide +kernel)
theorem wm_Mo_163 : Cond.methodLink R_Mo 163 yMo_either ∈ sw_tb := tb_mem 1296 (by decide +kernel) (by decide +kernel)
theorem wm_Mo_166 : Cond.methodLink R_Mo 166 yMo_isLevel ∈ sw_tb := tb_mem 1303 (by decide +kernel) (by decide +kernel)
theorem wm_Mo_169 : Cond.methodLink R_Mo 169 yMo_isTerm ∈ sw_tb := tb_mem 1311 (by decide +kernel) (by decide +kernel)
theorem wm_Mo_172 : Cond.methodLink R_Mo 172 yMo_termAt ∈ sw_tb := tb_mem 1314 (by decide +kernel) (by decide +kernel)
theorem wm_Mo_18 : Cond.methodLink R_Mo 18 yMo_lies ∈ sw_tb := tb_mem 1156 (by decide +kernel) (by decide +kernel)
theorem wm_Mo_184 : Cond.methodLink R_Mo 184 yMo_isSmall ∈ sw_tb := tb_mem 1349 (by decide +kernel) (by decide +kernel)
theorem wm_Mo_187 : Cond.methodLink R_Mo 187 yMo_isDigit ∈ sw_tb := tb_mem 1352 (by decide +kernel) (by decide +kernel)
theorem wm_Mo_190 : Cond.methodLink R_Mo 190 yMo_wordOf ∈ sw_tb := tb_mem 1355 (by decide +kernel) (by decide +kernel)
theorem wm_Mo_197 : Cond.methodLink R_Mo 197 yMo_fine ∈ sw_tb := tb_mem 1372 (by decide +kernel) (by decide +kernel)
theorem wm_Mo_204 : Cond.methodLink R_Mo 204 yMo_takes0 ∈ sw_tb := tb_mem 1368 (by decide +kernel) (by decide +kernel)
theorem wm_Mo_207 : Cond.methodLink R_Mo 207 yMo_faults ∈ sw_tb := tb_mem 1392 (by decide +kernel) (by decide +kernel)
theorem wm_Mo_213 : Cond.methodLink R_Mo 213 yMo_readSum ∈ sw_tb := tb_mem 1380 (by decide +kernel) (by decide +kernel)
theorem wm_Mo_217 : Cond.methodLink R_Mo 217 yMo_must ∈ sw_tb := tb_mem 1396 (by decide +kernel) (by decide +kernel)
theorem wm_Mo_220 : Cond.methodLink R_Mo 220 yMo_readTest ∈ sw_tb := tb_mem 1408 (by decide +kernel) (by decide +kernel)
theorem wm_Mo_223 : Cond.methodLink R_Mo 223 yMo_readTwo ∈ sw_tb := tb_mem 1376 (by decide +kernel) (by decide +kernel)
theorem wm_Mo_226 : Cond.methodLink R_Mo 226 yMo_mustNumber ∈ sw_tb := tb_mem 1404 (by decide +kernel) (by decide +kernel)
theorem wm_Mo_233 : Cond.methodLink R_Mo 233 yMo_readOrder ∈ sw_tb := tb_mem 1364 (by decide +kernel) (by decide +kernel)
theorem wm_Mo_236 : Cond.methodLink R_Mo 236 yMo_readClause ∈ sw_tb := tb_mem 1420 (by decide +kernel) (by decide +kernel)
theorem wm_Mo_239 : Cond.methodLink R_Mo 239 yMo_readBoth ∈ sw_tb := tb_mem 1412 (by decide +kernel) (by decide +kernel)
theorem wm_Mo_242 : Cond.methodLink R_Mo 242 yMo_readPlain ∈ sw_tb := tb_mem 1416 (by decide +kernel) (by decide +kernel)
theorem wm_Mo_245 : Cond.methodLink R_Mo 245 yMo_sign ∈ sw_tb := tb_mem 1236 (by decide +kernel) (by decide +kernel)
theorem wm_Mo_249 : Cond.methodLink R_Mo 249 yMo_readTerm ∈ sw_tb := tb_mem 1384 (by decide +kernel) (by decide +kernel)
theorem wm_Mo_252 : Cond.methodLink R_Mo 252 yMo_readPart ∈ sw_tb := tb_mem 1388 (by decide +kernel) (by decide +kernel)
theorem wm_Mo_261 : Cond.methodLink R_Mo 261 yMo_leaf ∈ sw_tb := tb_mem 1400 (by decide +kernel) (by decide +kernel)
theorem wm_Mo_264 : Cond.methodLink R_Mo 264 yMo_splits ∈ sw_tb := tb_mem 1345 (by decide +kernel) (by decide +kernel)
theorem wm_Mo_267 : Cond.methodLink R_Mo 267 yMo_readOne ∈ sw_tb := tb_mem 1360 (by decide +kernel) (by decide +kernel)
theorem wm_Mo_270 : Cond.methodLink R_Mo 270 yMo_reads ∈ sw_tb := tb_mem 1341 (by decide +kernel) (by decide +kernel)
theorem wm_Mo_273 : Cond.methodLink R_Mo 273 yMo_readsAs ∈ sw_tb := tb_mem 1337 (by decide +kernel) (by decide +kernel)
theorem wm_Mo_277 : Cond.methodLink R_Mo 277 yMo_lays ∈ sw_tb := tb_mem 1424 (by decide +kernel) (by decide +kernel)
theorem wm_Mo_280 : Cond.methodLink R_Mo 280 yMo_isLaw ∈ sw_tb := tb_mem 1436 (by decide +kernel) (by decide +kernel)
theorem wm_Mo_289 : Cond.methodLink R_Mo 289 yMo_codeAt ∈ sw_tb := tb_mem 1220 (by decide +kernel) (by decide +kernel)
theorem wm_Mo_299 : Cond.methodLink R_Mo 299 yMo_termOf ∈ sw_tb := tb_mem 1228 (by decide +kernel) (by decide +kernel)
theorem wm_Mo_303 : Cond.methodLink R_Mo 303 yMo_bounded ∈ sw_tb := tb_mem 1251 (by decide +kernel) (by decide +kernel)
theorem wm_Mo_307 : Cond.methodLink R_Mo 307 yMo_partOf ∈ sw_tb := tb_mem 1232 (by decide +kernel) (by decide +kernel)
theorem wm_Mo_310 : Cond.methodLink R_Mo 310 yMo_passes0 ∈ sw_tb := tb_mem 1239 (by decide +kernel) (by decide +kernel)
theorem wm_Mo_313 : Cond.methodLink R_Mo 313 yMo_sumOf ∈ sw_tb := tb_mem 1224 (by decide +kernel) (by decide +kernel)
theorem wm_Mo_319 : Cond.methodLink R_Mo 319 yMo_orderValue ∈ sw_tb := tb_mem 1243 (by decide +kernel) (by decide +kernel)
theorem wm_Mo_331 : Cond.methodLink R_Mo 331 yMo_onMany ∈ sw_tb := tb_mem 1247 (by decide +kernel) (by decide +kernel)
theorem wm_Mo_334 : Cond.methodLink R_Mo 334 yMo_bothOf ∈ sw_tb := tb_mem 1261 (by decide +kernel) (by decide +kernel)
theorem wm_Mo_337 : Cond.methodLink R_Mo 337 yMo_plainOf ∈ sw_tb := tb_mem 1265 (by decide +kernel) (by decide +kernel)
theorem wm_Mo_340 : Cond.methodLink R_Mo 340 yMo_positiveOf ∈ sw_tb := tb_mem 1269 (by decide +kernel) (by decide +kernel)
theorem wm_Mo_343 : Cond.methodLink R_Mo 343 yMo_testOf ∈ sw_tb := tb_mem 1257 (by decide +kernel) (by decide +kernel)
theorem wm_Mo_346 : Cond.methodLink R_Mo 346 yMo_setsAsked ∈ sw_tb := tb_mem 1213 (by decide +kernel) (by decide +kernel)
theorem wm_Mo_349 : Cond.methodLink R_Mo 349 yMo_tells ∈ sw_tb := tb_mem 1209 (by decide +kernel) (by decide +kernel)
theorem wm_Mo_353 : Cond.methodLink R_Mo 353 yMo_greater ∈ sw_tb := tb_mem 1492 (by decide +kernel) (by decide +kernel)
theorem wm_Mo_356 : Cond.methodLink R_Mo 356 yMo_canPut ∈ sw_tb := tb_mem 1452 (by decide +kernel) (by decide +kernel)
theorem wm_Mo_359 : Cond.methodLink R_Mo 359 yMo_keeps ∈ sw_tb := tb_mem 1456 (by decide +kernel) (by decide +kernel)
theorem wm_Mo_362 : Cond.methodLink R_Mo 362 yMo_dayPasses ∈ sw_tb := tb_mem 1488 (by decide +kernel) (by decide +kernel)
theorem wm_Mo_365 : Cond.methodLink R_Mo 365 yMo_putsKept ∈ sw_tb := tb_mem 1448 (by decide +kernel) (by decide +kernel)
theorem wm_Mo_368 : Cond.methodLink R_Mo 368 yMo_goodOr ∈ sw_tb := tb_mem 1460 (by decide +kernel) (by decide +kernel)
theorem wm_Mo_371 : Cond.methodLink R_Mo 371 yMo_takesKept ∈ sw_tb := tb_mem 1468 (by decide +kernel) (by decide +kernel)
theorem wm_Mo_374 : Cond.methodLink R_Mo 374 yMo_padsKept ∈ sw_tb := tb_mem 1476 (by decide +kernel) (by decide +kernel)
theorem wm_Mo_377 : Cond.methodLink R_Mo 377 yMo_passesKept ∈ sw_tb := tb_mem 1484 (by decide +kernel) (by decide +kernel)
theorem wm_Mo_383 : Cond.methodLink R_Mo 383 yMo_bestAt ∈ sw_tb := tb_mem 1523 (by decide +kernel) (by decide +kernel)
theorem wm_Mo_386 : Cond.methodLink R_Mo 386 yMo_lesser ∈ sw_tb := tb_mem 1535 (by decide +kernel) (by decide +kernel)
theorem wm_Mo_389 : Cond.methodLink R_Mo 389 yMo_staysOff ∈ sw_tb := tb_mem 1519 (by decide +kernel) (by decide +kernel)
theorem wm_Mo_392 : Cond.methodLink R_Mo 392 yMo_canRow ∈ sw_tb := tb_mem 1527 (by decide +kernel) (by decide +kernel)
theorem wm_Mo_395 : Cond.methodLink R_Mo 395 yMo_bestBy ∈ sw_tb := tb_mem 1531 (by decide +kernel) (by decide +kernel)
theorem wm_Mo_399 : Cond.methodLink R_Mo 399 yMo_laysPulls ∈ sw_tb := tb_mem 1507 (by decide +kernel) (by decide +kernel)
theorem wm_Mo_402 : Cond.methodLink R_Mo 402 yMo_endsAt ∈ sw_tb := tb_mem 1511 (by decide +kernel) (by decide +kernel)
theorem wm_Mo_405 : Cond.methodLink R_Mo 405 yMo_bestOf ∈ sw_tb := tb_mem 1515 (by decide +kernel) (by decide +kernel)
theorem wm_Mo_408 : Cond.methodLink R_Mo 408 yMo_laysBest ∈ sw_tb := tb_mem 1503 (by decide +kernel) (by decide +kernel)
theorem wm_Mo_411 : Cond.methodLink R_Mo 411 yMo_placeIn ∈ sw_tb := tb_mem 1542 (by decide +kernel) (by decide +kernel)
theorem wm_Mo_414 : Cond.methodLink R_Mo 414 yMo_rowMany ∈ sw_tb := tb_mem 1499 (by decide +kernel) (by decide +kernel)
theorem wm_Mo_417 : Cond.methodLink R_Mo 417 yMo_rowTold ∈ sw_tb := tb_mem 1538 (by decide +kernel) (by decide +kernel)
theorem wm_Mo_420 : Cond.methodLink R_Mo 420 yMo_tiltWith ∈ sw_tb := tb_mem 1562 (by decide +kernel) (by decide +kernel)
theorem wm_Mo_423 : Cond.methodLink R_Mo 423 yMo_isIn ∈ sw_tb := tb_mem 1582 (by decide +kernel) (by decide +kernel)
theorem wm_Mo_426 : Cond.methodLink R_Mo 426 yMo_everything ∈ sw_tb := tb_mem 1574 (by decide +kernel) (by decide +kernel)
theorem wm_Mo_429 : Cond.methodLink R_Mo 429 yMo_heavyOf ∈ sw_tb := tb_mem 1578 (by decide +kernel) (by decide +kernel)
theorem wm_Mo_432 : Cond.methodLink R_Mo 432 yMo_onNow ∈ sw_tb := tb_mem 1597 (by decide +kernel) (by decide +kernel)
theorem wm_Mo_435 : Cond.methodLink R_Mo 435 yMo_laysTilts ∈ sw_tb := tb_mem 1593 (by decide +kernel) (by decide +kernel)
theorem wm_Mo_438 : Cond.methodLink R_Mo 438 yMo_canOff ∈ sw_tb := tb_mem 1601 (by decide +kernel) (by decide +kernel)
theorem wm_Mo_441 : Cond.methodLink R_Mo 441 yMo_laysOff ∈ sw_tb := tb_mem 1589 (by decide +kernel) (by decide +kernel)
theorem wm_Mo_444 : Cond.methodLink R_Mo 444 yMo_winsBy ∈ sw_tb := tb_mem 1609 (by decide +kernel) (by decide +kernel)
theorem wm_Mo_447 : Cond.methodLink R_Mo 447 yMo_heavyBy ∈ sw_tb := tb_mem 1633 (by decide +kernel) (by decide +kernel)
theorem wm_Mo_450 : Cond.methodLink R_Mo 450 yMo_comesOf ∈ sw_tb := tb_mem 1629 (by decide +kernel) (by decide +kernel)
theorem wm_Mo_453 : Cond.methodLink R_Mo 453 yMo_isSo ∈ sw_tb := tb_mem 1625 (by decide +kernel) (by decide +kernel)
theorem wm_Mo_456 : Cond.methodLink R_Mo 456 yMo_canBe ∈ sw_tb := tb_mem 1641 (by decide +kernel) (by decide +kernel)
theorem wm_Mo_459 : Cond.methodLink R_Mo 459 yMo_mostAlike ∈ sw_tb := tb_mem 1642 (by decide +kernel) (by decide +kernel)
theorem wm_Mo_468 : Cond.methodLink R_Mo 468 yMo_laysAside ∈ sw_tb := tb_mem 1661 (by decide +kernel) (by decide +kernel)
theorem wm_Mo_474 : Cond.methodLink R_Mo 474 yMo_runs ∈ sw_tb := tb_mem 1665 (by decide +kernel) (by decide +kernel)
theorem wm_Mo_477 : Cond.methodLink R_Mo 477 yMo_takesBack ∈ sw_tb := tb_mem 1681 (by decide +kernel) (by decide +kernel)
theorem wm_Mo_494 : Cond.methodLink R_Mo 494 yMo_small ∈ sw_tb := tb_mem 1677 (by decide +kernel) (by decide +kernel)
theorem wm_Mo_498 : Cond.methodLink R_Mo 498 yMo_goesAlong ∈ sw_tb := tb_mem 1669 (by decide +kernel) (by decide +kernel)
theorem wm_Mo_502 : Cond.methodLink R_Mo 502 yMo_obeys ∈ sw_tb := tb_mem 1673 (by decide +kernel) (by decide +kernel)
theorem wm_Mo_514 : Cond.methodLink R_Mo 514 yMo_draws ∈ sw_tb := tb_mem 1689 (by decide +kernel) (by decide +kernel)
