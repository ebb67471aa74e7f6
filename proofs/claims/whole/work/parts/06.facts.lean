set_option maxRecDepth 20000
theorem iw_C : ∀ w ∈ u_ws "CitingLetters" jTC 13, w ∈ jw := jw_l [415, 417, 419, 421, 423, 425, 427, 429, 431, 433, 435, 437, 439] (by decide +kernel) (by decide +kernel)
theorem iw_H : ∀ w ∈ u_ws "CitingLetters$Habits" jTH 13, w ∈ jw := jw_l [65, 67, 69, 71, 73, 75, 77, 79, 81, 83, 85, 87, 89] (by decide +kernel) (by decide +kernel)
theorem iw_R : ∀ w ∈ u_ws "CitingLetters$TextReader" jTR 13, w ∈ jw := jw_l [148, 150, 152, 154, 156, 158, 160, 162, 164, 166, 168, 170, 172] (by decide +kernel) (by decide +kernel)
theorem iw_S : ∀ w ∈ u_ws "CitingLetters$Scanner" jTS 6, w ∈ jw := jw_l [120, 122, 124, 126, 128, 130] (by decide +kernel) (by decide +kernel)
theorem iw_L : ∀ w ∈ u_ws "CitingLetters$Ledger" jTL 17, w ∈ jw := jw_l [217, 219, 221, 223, 225, 227, 229, 231, 233, 235, 237, 239, 241, 243, 245, 247, 249] (by decide +kernel) (by decide +kernel)
theorem iw_P : ∀ w ∈ u_ws "CitingLetters$Post" jTP 11, w ∈ jw := jw_l [277, 279, 281, 283, 285, 287, 289, 291, 293, 295, 297] (by decide +kernel) (by decide +kernel)
theorem iw_D : ∀ w ∈ u_ws "CitingLetters$Desks" jTD 5, w ∈ jw := jw_l [316, 318, 320, 322, 324] (by decide +kernel) (by decide +kernel)
theorem iw_U : ∀ w ∈ u_ws "CitingLetters$Doubts" jTU 2, w ∈ jw := jw_l [335, 337] (by decide +kernel) (by decide +kernel)
theorem iw_N : ∀ w ∈ u_ws "CitingLetters$Chains" jTN 5, w ∈ jw := jw_l [351, 353, 355, 357, 359] (by decide +kernel) (by decide +kernel)
theorem iw_O : ∀ w ∈ u_ws "CitingLetters$Orders" jTO 10, w ∈ jw := jw_l [381, 383, 385, 387, 389, 391, 393, 395, 397, 399] (by decide +kernel) (by decide +kernel)
theorem iw_M : ∀ w ∈ u_ws "CitingLettersModel" jTM 71, w ∈ jw := jw_l [1338, 1340, 1342, 1344, 1346, 1348, 1350, 1352, 1354, 1356, 1358, 1360, 1362, 1364, 1366, 1368, 1370, 1372, 1374, 1376, 1378, 1380, 1382, 1384, 1386, 1388, 1390, 1392, 1394, 1396, 1398, 1400, 1402, 1404, 1406, 1408, 1410, 1412, 1414, 1416, 1418, 1420, 1422, 1424, 1426, 1428, 1430, 1432, 1434, 1436, 1438, 1440, 1442, 1444, 1446, 1448, 1450, 1452, 1454, 1456, 1458, 1460, 1462, 1464, 1466, 1468, 1470, 1472, 1474, 1476, 1478] (by decide +kernel) (by decide +kernel)
theorem cc_0 : ∃ T N, jcl[0]? = some ("CitingLetters", T, N) := ⟨jTC, 13, rfl⟩
theorem cc_1 : ∃ T N, jcl[1]? = some ("CitingLetters$Habits", T, N) := ⟨jTH, 13, rfl⟩
theorem cc_2 : ∃ T N, jcl[2]? = some ("CitingLetters$TextReader", T, N) := ⟨jTR, 13, rfl⟩
theorem cc_3 : ∃ T N, jcl[3]? = some ("CitingLetters$Scanner", T, N) := ⟨jTS, 6, rfl⟩
theorem cc_4 : ∃ T N, jcl[4]? = some ("CitingLetters$Ledger", T, N) := ⟨jTL, 17, rfl⟩
theorem cc_5 : ∃ T N, jcl[5]? = some ("CitingLetters$Post", T, N) := ⟨jTP, 11, rfl⟩
theorem cc_6 : ∃ T N, jcl[6]? = some ("CitingLetters$Desks", T, N) := ⟨jTD, 5, rfl⟩
theorem cc_7 : ∃ T N, jcl[7]? = some ("CitingLetters$Doubts", T, N) := ⟨jTU, 2, rfl⟩
theorem cc_8 : ∃ T N, jcl[8]? = some ("CitingLetters$Chains", T, N) := ⟨jTN, 5, rfl⟩
theorem cc_9 : ∃ T N, jcl[9]? = some ("CitingLetters$Orders", T, N) := ⟨jTO, 10, rfl⟩
theorem cc_10 : ∃ T N, jcl[10]? = some ("CitingLettersModel", T, N) := ⟨jTM, 71, rfl⟩
abbrev Y_C_putBytes : jY := (⟨"CitingLetters", "putBytes", "(I)V"⟩, prog_1_method_47_code, 3, none, 1, 0, 0)
theorem mi_C_putBytes : jMi ⟨"CitingLetters", "putBytes", "(I)V"⟩ prog_1_method_47_code 3 none 1 := ⟨jt_2 209 rfl rfl, jt_1 1 rfl rfl, ⟨by decide +kernel, by decide +kernel, by decide +kernel⟩, by decide, by decide +kernel⟩
theorem mv_C_putBytes : jMv ⟨"CitingLetters", "putBytes", "(I)V"⟩ := ⟨jt_2 208 rfl rfl, jw_p 0 rfl rfl⟩
abbrev Y_C_feed : jY := (⟨"CitingLetters", "feed", "(IIIII)I"⟩, prog_1_method_2_code, 6, (some .int), 2, 0, 0)
theorem mi_C_feed : jMi ⟨"CitingLetters", "feed", "(IIIII)I"⟩ prog_1_method_2_code 6 (some .int) 5 := ⟨jt_2 205 rfl rfl, jt_1 1 rfl rfl, ⟨by decide +kernel, by decide +kernel, by decide +kernel⟩, by decide, by decide +kernel⟩
theorem mv_C_feed : jMv ⟨"CitingLetters", "feed", "(IIIII)I"⟩ := ⟨jt_2 203 rfl rfl, jt_2 204 rfl rfl⟩
abbrev Y_H_clear : jY := (⟨"CitingLetters$Habits", "clear", "()V"⟩, prog_6_method_2_code, 1, none, 1, 0, 0)
theorem mi_H_clear : jMi ⟨"CitingLetters$Habits", "clear", "()V"⟩ prog_6_method_2_code 1 none 0 := ⟨jt_3 75 rfl rfl, jt_1 2 rfl rfl, ⟨by decide +kernel, by decide +kernel, by decide +kernel⟩, by decide, by decide +kernel⟩
theorem mv_H_clear : jMv ⟨"CitingLetters$Habits", "clear", "()V"⟩ := ⟨jt_3 73 rfl rfl, jt_3 74 rfl rfl⟩
abbrev Y_S_isDigit : jY := (⟨"CitingLetters$Scanner", "isDigit", "(I)Z"⟩, prog_10_method_6_code, 1, (some .boolean), 1, 0, 0)
theorem mi_S_isDigit : jMi ⟨"CitingLetters$Scanner", "isDigit", "(I)Z"⟩ prog_10_method_6_code 1 (some .boolean) 1 := ⟨jt_2 227 rfl rfl, jt_1 6 rfl rfl, ⟨by decide +kernel, by decide +kernel, by decide +kernel⟩, by decide, by decide +kernel⟩
theorem ms_S_isDigit : jMs ⟨"CitingLetters$Scanner", "isDigit", "(I)Z"⟩ := jt_2 226 rfl rfl
abbrev Y_S_isOneSign : jY := (⟨"CitingLetters$Scanner", "isOneSign", "(II)Z"⟩, prog_10_method_8_code, 2, (some .boolean), 1, 0, 0)
theorem mi_S_isOneSign : jMi ⟨"CitingLetters$Scanner", "isOneSign", "(II)Z"⟩ prog_10_method_8_code 2 (some .boolean) 2 := ⟨jt_3 7 rfl rfl, jt_1 6 rfl rfl, ⟨by decide +kernel, by decide +kernel, by decide +kernel⟩, by decide, by decide +kernel⟩
theorem ms_S_isOneSign : jMs ⟨"CitingLetters$Scanner", "isOneSign", "(II)Z"⟩ := jt_3 6 rfl rfl
abbrev Y_S_isSmallLetter : jY := (⟨"CitingLetters$Scanner", "isSmallLetter", "(I)Z"⟩, prog_10_method_7_code, 1, (some .boolean), 1, 0, 0)
theorem mi_S_isSmallLetter : jMi ⟨"CitingLetters$Scanner", "isSmallLetter", "(I)Z"⟩ prog_10_method_7_code 1 (some .boolean) 1 := ⟨jt_3 4 rfl rfl, jt_1 6 rfl rfl, ⟨by decide +kernel, by decide +kernel, by decide +kernel⟩, by decide, by decide +kernel⟩
theorem ms_S_isSmallLetter : jMs ⟨"CitingLetters$Scanner", "isSmallLetter", "(I)Z"⟩ := jt_3 3 rfl rfl
abbrev Y_S_endOf : jY := (⟨"CitingLetters$Scanner", "endOf", "(I)I"⟩, prog_10_method_4_code, 3, (some .int), 2, 0, 0)
theorem mi_S_endOf : jMi ⟨"CitingLetters$Scanner", "endOf", "(I)I"⟩ prog_10_method_4_code 3 (some .int) 1 := ⟨jt_3 1 rfl rfl, jt_1 6 rfl rfl, ⟨by decide +kernel, by decide +kernel, by decide +kernel⟩, by decide, by decide +kernel⟩
theorem mv_S_endOf : jMv ⟨"CitingLetters$Scanner", "endOf", "(I)I"⟩ := ⟨jt_3 0 rfl rfl, jw_p 3 rfl rfl⟩
abbrev Y_S_put : jY := (⟨"CitingLetters$Scanner", "put", "(LCitingLetters$Token;II)V"⟩, prog_10_method_3_code, 4, none, 1, 0, 0)
theorem mi_S_put : jMi ⟨"CitingLetters$Scanner", "put", "(LCitingLetters$Token;II)V"⟩ prog_10_method_3_code 4 none 3 := ⟨jt_2 237 rfl rfl, jt_1 6 rfl rfl, ⟨by decide +kernel, by decide +kernel, by decide +kernel⟩, by decide, by decide +kernel⟩
theorem mv_S_put : jMv ⟨"CitingLetters$Scanner", "put", "(LCitingLetters$Token;II)V"⟩ := ⟨jt_2 236 rfl rfl, jw_p 2 rfl rfl⟩
abbrev Y_S_spells : jY := (⟨"CitingLetters$Scanner", "spells", "(Ljava/lang/String;II)Z"⟩, prog_10_method_10_code, 5, (some .boolean), 5, 0, 0)
theorem mi_S_spells : jMi ⟨"CitingLetters$Scanner", "spells", "(Ljava/lang/String;II)Z"⟩ prog_10_method_10_code 5 (some .boolean) 3 := ⟨jt_3 17 rfl rfl, jt_1 6 rfl rfl, ⟨by decide +kernel, by decide +kernel, by decide +kernel⟩, by decide, by decide +kernel⟩
theorem mv_S_spells : jMv ⟨"CitingLetters$Scanner", "spells", "(Ljava/lang/String;II)Z"⟩ := ⟨jt_3 16 rfl rfl, jw_p 5 rfl rfl⟩
abbrev Y_S_spelled : jY := (⟨"CitingLetters$Scanner", "spelled", "(II)LCitingLetters$Token;"⟩, prog_10_method_9_code, 7, (some (.object "CitingLetters$Token")), 6, 0, 0)
theorem mi_S_spelled : jMi ⟨"CitingLetters$Scanner", "spelled", "(II)LCitingLetters$Token;"⟩ prog_10_method_9_code 7 (some (.object "CitingLetters$Token")) 2 := ⟨jt_3 11 rfl rfl, jt_1 6 rfl rfl, ⟨by decide +kernel, by decide +kernel, by decide +kernel⟩, by decide, by decide +kernel⟩
theorem mv_S_spelled : jMv ⟨"CitingLetters$Scanner", "spelled", "(II)LCitingLetters$Token;"⟩ := ⟨jt_3 10 rfl rfl, jw_p 4 rfl rfl⟩
abbrev Y_S_worthOf : jY := (⟨"CitingLetters$Scanner", "worthOf", "(I)I"⟩, prog_10_method_5_code, 4, (some .int), 2, 0, 0)
theorem mi_S_worthOf : jMi ⟨"CitingLetters$Scanner", "worthOf", "(I)I"⟩ prog_10_method_5_code 4 (some .int) 1 := ⟨jt_2 233 rfl rfl, jt_1 6 rfl rfl, ⟨by decide +kernel, by decide +kernel, by decide +kernel⟩, by decide, by decide +kernel⟩
theorem mv_S_worthOf : jMv ⟨"CitingLetters$Scanner", "worthOf", "(I)I"⟩ := ⟨jt_2 232 rfl rfl, jw_p 1 rfl rfl⟩
abbrev Y_S_cut : jY := (⟨"CitingLetters$Scanner", "cut", "(I)V"⟩, prog_10_method_2_code, 3, none, 7, 0, 0)
theorem mi_S_cut : jMi ⟨"CitingLetters$Scanner", "cut", "(I)V"⟩ prog_10_method_2_code 3 none 1 := ⟨jt_2 221 rfl rfl, jt_1 6 rfl rfl, ⟨by decide +kernel, by decide +kernel, by decide +kernel⟩, by decide, by decide +kernel⟩
theorem mv_S_cut : jMv ⟨"CitingLetters$Scanner", "cut", "(I)V"⟩ := ⟨jt_2 219 rfl rfl, jt_2 220 rfl rfl⟩
abbrev Y_R_fail : jY := (⟨"CitingLetters$TextReader", "fail", "(I)V"⟩, prog_11_method_4_code, 2, none, 1, 0, 0)
theorem mi_R_fail : jMi ⟨"CitingLetters$TextReader", "fail", "(I)V"⟩ prog_11_method_4_code 2 none 1 := ⟨jt_3 89 rfl rfl, jt_1 3 rfl rfl, ⟨by decide +kernel, by decide +kernel, by decide +kernel⟩, by decide, by decide +kernel⟩
theorem mv_R_fail : jMv ⟨"CitingLetters$TextReader", "fail", "(I)V"⟩ := ⟨jt_3 88 rfl rfl, jw_p 8 rfl rfl⟩
abbrev Y_R_stepTo : jY := (⟨"CitingLetters$TextReader", "stepTo", "(I)V"⟩, prog_11_method_3_code, 3, none, 1, 0, 0)
theorem mi_R_stepTo : jMi ⟨"CitingLetters$TextReader", "stepTo", "(I)V"⟩ prog_11_method_3_code 3 none 1 := ⟨jt_3 79 rfl rfl, jt_1 3 rfl rfl, ⟨by decide +kernel, by decide +kernel, by decide +kernel⟩, by decide, by decide +kernel⟩
theorem mv_R_stepTo : jMv ⟨"CitingLetters$TextReader", "stepTo", "(I)V"⟩ := ⟨jt_3 78 rfl rfl, jw_p 6 rfl rfl⟩
abbrev Y_H_addHabit : jY := (⟨"CitingLetters$Habits", "addHabit", "(ZII)V"⟩, prog_6_method_5_code, 4, none, 1, 0, 0)
theorem mi_H_addHabit : jMi ⟨"CitingLetters$Habits", "addHabit", "(ZII)V"⟩ prog_6_method_5_code 4 none 3 := ⟨jt_3 167 rfl rfl, jt_1 2 rfl rfl, ⟨by decide +kernel, by decide +kernel, by decide +kernel⟩, by decide, by decide +kernel⟩
theorem mv_H_addHabit : jMv ⟨"CitingLetters$Habits", "addHabit", "(ZII)V"⟩ := ⟨jt_3 165 rfl rfl, jt_3 166 rfl rfl⟩
abbrev Y_C_bit : jY := (⟨"CitingLetters", "bit", "(I)I"⟩, prog_1_method_44_code, 1, (some .int), 1, 0, 0)
theorem mi_C_bit : jMi ⟨"CitingLetters", "bit", "(I)I"⟩ prog_1_method_44_code 1 (some .int) 1 := ⟨jt_3 100 rfl rfl, jt_1 1 rfl rfl, ⟨by decide +kernel, by decide +kernel, by decide +kernel⟩, by decide, by decide +kernel⟩
theorem ms_C_bit : jMs ⟨"CitingLetters", "bit", "(I)I"⟩ := jt_3 99 rfl rfl
abbrev Y_C_isIn : jY := (⟨"CitingLetters", "isIn", "(II)Z"⟩, prog_1_method_45_code, 2, (some .boolean), 1, 0, 0)
theorem mi_C_isIn : jMi ⟨"CitingLetters", "isIn", "(II)Z"⟩ prog_1_method_45_code 2 (some .boolean) 2 := ⟨jt_3 97 rfl rfl, jt_1 1 rfl rfl, ⟨by decide +kernel, by decide +kernel, by decide +kernel⟩, by decide, by decide +kernel⟩
theorem ms_C_isIn : jMs ⟨"CitingLetters", "isIn", "(II)Z"⟩ := jt_3 96 rfl rfl
abbrev Y_R_takeWriters : jY := (⟨"CitingLetters$TextReader", "takeWriters", "(I)I"⟩, prog_11_method_8_code, 4, (some .int), 2, 0, 0)
theorem mi_R_takeWriters : jMi ⟨"CitingLetters$TextReader", "takeWriters", "(I)I"⟩ prog_11_method_8_code 4 (some .int) 1 := ⟨jt_3 93 rfl rfl, jt_1 3 rfl rfl, ⟨by decide +kernel, by decide +kernel, by decide +kernel⟩, by decide, by decide +kernel⟩
theorem mv_R_takeWriters : jMv ⟨"CitingLetters$TextReader", "takeWriters", "(I)I"⟩ := ⟨jt_3 92 rfl rfl, jw_p 9 rfl rfl⟩
abbrev Y_R_takeBy : jY := (⟨"CitingLetters$TextReader", "takeBy", "()I"⟩, prog_11_method_7_code, 1, (some .int), 3, 0, 0)
theorem mi_R_takeBy : jMi ⟨"CitingLetters$TextReader", "takeBy", "()I"⟩ prog_11_method_7_code 1 (some .int) 0 := ⟨jt_3 161 rfl rfl, jt_1 3 rfl rfl, ⟨by decide +kernel, by decide +kernel, by decide +kernel⟩, by decide, by decide +kernel⟩
theorem mv_R_takeBy : jMv ⟨"CitingLetters$TextReader", "takeBy", "()I"⟩ := ⟨jt_3 160 rfl rfl, jw_p 19 rfl rfl⟩
abbrev Y_H_addKnot : jY := (⟨"CitingLetters$Habits", "addKnot", "(LCitingLetters$Token;I)V"⟩, prog_6_method_6_code, 3, none, 1, 0, 0)
theorem mi_H_addKnot : jMi ⟨"CitingLetters$Habits", "addKnot", "(LCitingLetters$Token;I)V"⟩ prog_6_method_6_code 3 none 2 := ⟨jt_3 127 rfl rfl, jt_1 2 rfl rfl, ⟨by decide +kernel, by decide +kernel, by decide +kernel⟩, by decide, by decide +kernel⟩
theorem mv_H_addKnot : jMv ⟨"CitingLetters$Habits", "addKnot", "(LCitingLetters$Token;I)V"⟩ := ⟨jt_3 125 rfl rfl, jt_3 126 rfl rfl⟩
abbrev Y_R_settle : jY := (⟨"CitingLetters$TextReader", "settle", "(I)V"⟩, prog_11_method_16_code, 4, none, 2, 0, 0)
theorem mi_R_settle : jMi ⟨"CitingLetters$TextReader", "settle", "(I)V"⟩ prog_11_method_16_code 4 none 1 := ⟨jt_3 153 rfl rfl, jt_1 3 rfl rfl, ⟨by decide +kernel, by decide +kernel, by decide +kernel⟩, by decide, by decide +kernel⟩
theorem mv_R_settle : jMv ⟨"CitingLetters$TextReader", "settle", "(I)V"⟩ := ⟨jt_3 152 rfl rfl, jw_p 17 rfl rfl⟩
abbrev Y_R_closeBracket : jY := (⟨"CitingLetters$TextReader", "closeBracket", "()V"⟩, prog_11_method_12_code, 1, none, 3, 0, 0)
theorem mi_R_closeBracket : jMi ⟨"CitingLetters$TextReader", "closeBracket", "()V"⟩ prog_11_method_12_code 1 none 0 := ⟨jt_3 149 rfl rfl, jt_1 3 rfl rfl, ⟨by decide +kernel, by decide +kernel, by decide +kernel⟩, by decide, by decide +kernel⟩
theorem mv_R_closeBracket : jMv ⟨"CitingLetters$TextReader", "closeBracket", "()V"⟩ := ⟨jt_3 148 rfl rfl, jw_p 16 rfl rfl⟩
abbrev Y_R_pend : jY := (⟨"CitingLetters$TextReader", "pend", "()V"⟩, prog_11_method_15_code, 1, none, 1, 0, 0)
theorem mi_R_pend : jMi ⟨"CitingLetters$TextReader", "pend", "()V"⟩ prog_11_method_15_code 1 none 0 := ⟨jt_3 137 rfl rfl, jt_1 3 rfl rfl, ⟨by decide +kernel, by decide +kernel, by decide +kernel⟩, by decide, by decide +kernel⟩
theorem mv_R_pend : jMv ⟨"CitingLetters$TextReader", "pend", "()V"⟩ := ⟨jt_3 136 rfl rfl, jw_p 14 rfl rfl⟩
abbrev Y_R_takePending : jY := (⟨"CitingLetters$TextReader", "takePending", "()V"⟩, prog_11_method_14_code, 1, none, 2, 0, 0)
theorem mi_R_takePending : jMi ⟨"CitingLetters$TextReader", "takePending", "()V"⟩ prog_11_method_14_code 1 none 0 := ⟨jt_3 143 rfl rfl, jt_1 3 rfl rfl, ⟨by decide +kernel, by decide +kernel, by decide +kernel⟩, by decide, by decide +kernel⟩
theorem mv_R_takePending : jMv ⟨"CitingLetters$TextReader", "takePending", "()V"⟩ := ⟨jt_3 142 rfl rfl, jw_p 15 rfl rfl⟩
abbrev Y_R_takeJoint : jY := (⟨"CitingLetters$TextReader", "takeJoint", "()V"⟩, prog_11_method_13_code, 2, none, 3, 0, 0)
theorem mi_R_takeJoint : jMi ⟨"CitingLetters$TextReader", "takeJoint", "()V"⟩ prog_11_method_13_code 2 none 0 := ⟨jt_3 157 rfl rfl, jt_1 3 rfl rfl, ⟨by decide +kernel, by decide +kernel, by decide +kernel⟩, by decide, by decide +kernel⟩
theorem mv_R_takeJoint : jMv ⟨"CitingLetters$TextReader", "takeJoint", "()V"⟩ := ⟨jt_3 156 rfl rfl, jw_p 18 rfl rfl⟩
abbrev Y_R_openBracket : jY := (⟨"CitingLetters$TextReader", "openBracket", "()V"⟩, prog_11_method_11_code, 1, none, 2, 0, 0)
theorem mi_R_openBracket : jMi ⟨"CitingLetters$TextReader", "openBracket", "()V"⟩ prog_11_method_11_code 1 none 0 := ⟨jt_3 133 rfl rfl, jt_1 3 rfl rfl, ⟨by decide +kernel, by decide +kernel, by decide +kernel⟩, by decide, by decide +kernel⟩
theorem mv_R_openBracket : jMv ⟨"CitingLetters$TextReader", "openBracket", "()V"⟩ := ⟨jt_3 132 rfl rfl, jw_p 13 rfl rfl⟩
abbrev Y_R_takeValue : jY := (⟨"CitingLetters$TextReader", "takeValue", "()V"⟩, prog_11_method_10_code, 1, none, 3, 0, 0)
theorem mi_R_takeValue : jMi ⟨"CitingLetters$TextReader", "takeValue", "()V"⟩ prog_11_method_10_code 1 none 0 := ⟨jt_3 123 rfl rfl, jt_1 3 rfl rfl, ⟨by decide +kernel, by decide +kernel, by decide +kernel⟩, by decide, by decide +kernel⟩
theorem mv_R_takeValue : jMv ⟨"CitingLetters$TextReader", "takeValue", "()V"⟩ := ⟨jt_3 122 rfl rfl, jw_p 12 rfl rfl⟩
abbrev Y_R_takeExpression : jY := (⟨"CitingLetters$TextReader", "takeExpression", "()V"⟩, prog_11_method_9_code, 2, none, 4, 0, 0)
theorem mi_R_takeExpression : jMi ⟨"CitingLetters$TextReader", "takeExpression", "()V"⟩ prog_11_method_9_code 2 none 0 := ⟨jt_3 119 rfl rfl, jt_1 3 rfl rfl, ⟨by decide +kernel, by decide +kernel, by decide +kernel⟩, by decide, by decide +kernel⟩
theorem mv_R_takeExpression : jMv ⟨"CitingLetters$TextReader", "takeExpression", "()V"⟩ := ⟨jt_3 118 rfl rfl, jw_p 11 rfl rfl⟩
abbrev Y_R_takeHabit : jY := (⟨"CitingLetters$TextReader", "takeHabit", "()V"⟩, prog_11_method_6_code, 4, none, 5, 0, 0)
theorem mi_R_takeHabit : jMi ⟨"CitingLetters$TextReader", "takeHabit", "()V"⟩ prog_11_method_6_code 4 none 0 := ⟨jt_3 115 rfl rfl, jt_1 3 rfl rfl, ⟨by decide +kernel, by decide +kernel, by decide +kernel⟩, by decide, by decide +kernel⟩
theorem mv_R_takeHabit : jMv ⟨"CitingLetters$TextReader", "takeHabit", "()V"⟩ := ⟨jt_3 114 rfl rfl, jw_p 10 rfl rfl⟩
abbrev Y_H_addRule : jY := (⟨"CitingLetters$Habits", "addRule", "(LCitingLetters$Token;I)V"⟩, prog_6_method_4_code, 4, none, 2, 0, 0)
theorem mi_H_addRule : jMi ⟨"CitingLetters$Habits", "addRule", "(LCitingLetters$Token;I)V"⟩ prog_6_method_4_code 4 none 2 := ⟨jt_3 106 rfl rfl, jt_1 2 rfl rfl, ⟨by decide +kernel, by decide +kernel, by decide +kernel⟩, by decide, by decide +kernel⟩
theorem mv_H_addRule : jMv ⟨"CitingLetters$Habits", "addRule", "(LCitingLetters$Token;I)V"⟩ := ⟨jt_3 104 rfl rfl, jt_3 105 rfl rfl⟩
abbrev Y_R_takeRule : jY := (⟨"CitingLetters$TextReader", "takeRule", "()V"⟩, prog_11_method_5_code, 3, none, 3, 0, 0)
theorem mi_R_takeRule : jMi ⟨"CitingLetters$TextReader", "takeRule", "()V"⟩ prog_11_method_5_code 3 none 0 := ⟨jt_3 85 rfl rfl, jt_1 3 rfl rfl, ⟨by decide +kernel, by decide +kernel, by decide +kernel⟩, by decide, by decide +kernel⟩
theorem mv_R_takeRule : jMv ⟨"CitingLetters$TextReader", "takeRule", "()V"⟩ := ⟨jt_3 84 rfl rfl, jw_p 7 rfl rfl⟩
abbrev Y_R_takes : jY := (⟨"CitingLetters$TextReader", "takes", "(ILCitingLetters$Habits;)Z"⟩, prog_11_method_2_code, 4, (some .boolean), 8, 0, 0)
theorem mi_R_takes : jMi ⟨"CitingLetters$TextReader", "takes", "(ILCitingLetters$Habits;)Z"⟩ prog_11_method_2_code 4 (some .boolean) 2 := ⟨jt_2 217 rfl rfl, jt_1 3 rfl rfl, ⟨by decide +kernel, by decide +kernel, by decide +kernel⟩, by decide, by decide +kernel⟩
theorem mv_R_takes : jMv ⟨"CitingLetters$TextReader", "takes", "(ILCitingLetters$Habits;)Z"⟩ := ⟨jt_2 215 rfl rfl, jt_2 216 rfl rfl⟩
abbrev Y_C_text : jY := (⟨"CitingLetters", "text", "(I)I"⟩, prog_1_method_3_code, 3, (some .int), 9, 0, 0)
theorem mi_C_text : jMi ⟨"CitingLetters", "text", "(I)I"⟩ prog_1_method_3_code 3 (some .int) 1 := ⟨jt_2 213 rfl rfl, jt_1 1 rfl rfl, ⟨by decide +kernel, by decide +kernel, by decide +kernel⟩, by decide, by decide +kernel⟩
theorem mv_C_text : jMv ⟨"CitingLetters", "text", "(I)I"⟩ := ⟨jt_2 211 rfl rfl, jt_2 212 rfl rfl⟩
abbrev Y_C_fault : jY := (⟨"CitingLetters", "fault", "(I)I"⟩, prog_1_method_4_code, 2, (some .int), 1, 0, 0)
theorem mi_C_fault : jMi ⟨"CitingLetters", "fault", "(I)I"⟩ prog_1_method_4_code 2 (some .int) 1 := ⟨jt_3 171 rfl rfl, jt_1 1 rfl rfl, ⟨by decide +kernel, by decide +kernel, by decide +kernel⟩, by decide, by decide +kernel⟩
theorem mv_C_fault : jMv ⟨"CitingLetters", "fault", "(I)I"⟩ := ⟨jt_3 169 rfl rfl, jt_3 170 rfl rfl⟩
abbrev Y_C_isWriter : jY := (⟨"CitingLetters", "isWriter", "(I)Z"⟩, prog_1_method_42_code, 1, (some .boolean), 1, 0, 0)
theorem mi_C_isWriter : jMi ⟨"CitingLetters", "isWriter", "(I)Z"⟩ prog_1_method_42_code 1 (some .boolean) 1 := ⟨jt_3 178 rfl rfl, jt_1 1 rfl rfl, ⟨by decide +kernel, by decide +kernel, by decide +kernel⟩, by decide, by decide +kernel⟩
theorem ms_C_isWriter : jMs ⟨"CitingLetters", "isWriter", "(I)Z"⟩ := jt_3 177 rfl rfl
abbrev Y_P_shortenBy : jY := (⟨"CitingLetters$Post", "shortenBy", "(I)V"⟩, prog_9_method_5_code, 4, none, 1, 0, 0)
theorem mi_P_shortenBy : jMi ⟨"CitingLetters$Post", "shortenBy", "(I)V"⟩ prog_9_method_5_code 4 none 1 := ⟨jt_3 189 rfl rfl, jt_1 8 rfl rfl, ⟨by decide +kernel, by decide +kernel, by decide +kernel⟩, by decide, by decide +kernel⟩
theorem mv_P_shortenBy : jMv ⟨"CitingLetters$Post", "shortenBy", "(I)V"⟩ := ⟨jt_3 188 rfl rfl, jw_p 20 rfl rfl⟩
abbrev Y_P_setWay : jY := (⟨"CitingLetters$Post", "setWay", "(III)V"⟩, prog_9_method_4_code, 5, none, 2, 0, 0)
theorem mi_P_setWay : jMi ⟨"CitingLetters$Post", "setWay", "(III)V"⟩ prog_9_method_4_code 5 none 3 := ⟨jt_3 182 rfl rfl, jt_1 8 rfl rfl, ⟨by decide +kernel, by decide +kernel, by decide +kernel⟩, by decide, by decide +kernel⟩
theorem mv_P_setWay : jMv ⟨"CitingLetters$Post", "setWay", "(III)V"⟩ := ⟨jt_3 180 rfl rfl, jt_3 181 rfl rfl⟩
abbrev Y_C_way : jY := (⟨"CitingLetters", "way", "(III)Z"⟩, prog_1_method_5_code, 4, (some .boolean), 3, 0, 0)
theorem mi_C_way : jMi ⟨"CitingLetters", "way", "(III)Z"⟩ prog_1_method_5_code 4 (some .boolean) 3 := ⟨jt_3 175 rfl rfl, jt_1 1 rfl rfl, ⟨by decide +kernel, by decide +kernel, by decide +kernel⟩, by decide, by decide +kernel⟩
theorem mv_C_way : jMv ⟨"CitingLetters", "way", "(III)Z"⟩ := ⟨jt_3 173 rfl rfl, jt_3 174 rfl rfl⟩
abbrev Y_C_knownTo : jY := (⟨"CitingLetters", "knownTo", "(I)I"⟩, prog_1_method_48_code, 2, (some .int), 2, 0, 0)
theorem mi_C_knownTo : jMi ⟨"CitingLetters", "knownTo", "(I)I"⟩ prog_1_method_48_code 2 (some .int) 1 := ⟨jt_3 203 rfl rfl, jt_1 1 rfl rfl, ⟨by decide +kernel, by decide +kernel, by decide +kernel⟩, by decide, by decide +kernel⟩
theorem mv_C_knownTo : jMv ⟨"CitingLetters", "knownTo", "(I)I"⟩ := ⟨jt_3 202 rfl rfl, jw_p 22 rfl rfl⟩
abbrev Y_L_allOf : jY := (⟨"CitingLetters$Ledger", "allOf", "(I[I)I"⟩, prog_7_method_7_code, 5, (some .int), 2, 0, 0)
theorem mi_L_allOf : jMi ⟨"CitingLetters$Ledger", "allOf", "(I[I)I"⟩ prog_7_method_7_code 5 (some .int) 2 := ⟨jt_3 222 rfl rfl, jt_1 7 rfl rfl, ⟨by decide +kernel, by decide +kernel, by decide +kernel⟩, by decide, by decide +kernel⟩
theorem mv_L_allOf : jMv ⟨"CitingLetters$Ledger", "allOf", "(I[I)I"⟩ := ⟨jt_3 221 rfl rfl, jw_p 24 rfl rfl⟩
abbrev Y_L_answered : jY := (⟨"CitingLetters$Ledger", "answered", "(I)I"⟩, prog_7_method_9_code, 3, (some .int), 2, 0, 0)
theorem mi_L_answered : jMi ⟨"CitingLetters$Ledger", "answered", "(I)I"⟩ prog_7_method_9_code 3 (some .int) 1 := ⟨jt_3 227 rfl rfl, jt_1 7 rfl rfl, ⟨by decide +kernel, by decide +kernel, by decide +kernel⟩, by decide, by decide +kernel⟩
theorem mv_L_answered : jMv ⟨"CitingLetters$Ledger", "answered", "(I)I"⟩ := ⟨jt_3 225 rfl rfl, jt_3 226 rfl rfl⟩
abbrev Y_L_greatestSum : jY := (⟨"CitingLetters$Ledger", "greatestSum", "(I)I"⟩, prog_7_method_8_code, 4, (some .int), 2, 0, 0)
theorem mi_L_greatestSum : jMi ⟨"CitingLetters$Ledger", "greatestSum", "(I)I"⟩ prog_7_method_8_code 4 (some .int) 1 := ⟨jt_3 232 rfl rfl, jt_1 7 rfl rfl, ⟨by decide +kernel, by decide +kernel, by decide +kernel⟩, by decide, by decide +kernel⟩
theorem mv_L_greatestSum : jMv ⟨"CitingLetters$Ledger", "greatestSum", "(I)I"⟩ := ⟨jt_3 231 rfl rfl, jw_p 25 rfl rfl⟩
abbrev Y_L_add : jY := (⟨"CitingLetters$Ledger", "add", "(IIIIIII)I"⟩, prog_7_method_6_code, 10, (some .int), 3, 0, 0)
theorem mi_L_add : jMi ⟨"CitingLetters$Ledger", "add", "(IIIIIII)I"⟩ prog_7_method_6_code 10 (some .int) 7 := ⟨jt_3 217 rfl rfl, jt_1 7 rfl rfl, ⟨by decide +kernel, by decide +kernel, by decide +kernel⟩, by decide, by decide +kernel⟩
theorem mv_L_add : jMv ⟨"CitingLetters$Ledger", "add", "(IIIIIII)I"⟩ := ⟨jt_3 215 rfl rfl, jt_3 216 rfl rfl⟩
abbrev Y_P_throughSplit : jY := (⟨"CitingLetters$Post", "throughSplit", "(III)I"⟩, prog_9_method_9_code, 5, (some .int), 2, 0, 0)
theorem mi_P_throughSplit : jMi ⟨"CitingLetters$Post", "throughSplit", "(III)I"⟩ prog_9_method_9_code 5 (some .int) 3 := ⟨jt_4 2 rfl rfl, jt_1 8 rfl rfl, ⟨by decide +kernel, by decide +kernel, by decide +kernel⟩, by decide, by decide +kernel⟩
theorem mv_P_throughSplit : jMv ⟨"CitingLetters$Post", "throughSplit", "(III)I"⟩ := ⟨jt_4 1 rfl rfl, jw_p 26 rfl rfl⟩
abbrev Y_P_send : jY := (⟨"CitingLetters$Post", "send", "(IIII)I"⟩, prog_9_method_7_code, 6, (some .int), 3, 0, 0)
theorem mi_P_send : jMi ⟨"CitingLetters$Post", "send", "(IIII)I"⟩ prog_9_method_7_code 6 (some .int) 4 := ⟨jt_3 237 rfl rfl, jt_1 8 rfl rfl, ⟨by decide +kernel, by decide +kernel, by decide +kernel⟩, by decide, by decide +kernel⟩
theorem mv_P_send : jMv ⟨"CitingLetters$Post", "send", "(IIII)I"⟩ := ⟨jt_3 235 rfl rfl, jt_3 236 rfl rfl⟩
abbrev Y_JI_bitCount : jY := (⟨"java/lang/Integer", "bitCount", "(I)I"⟩, prog_21_method_49_code, 1, (some .int), 1, 0, 0)
theorem mi_JI_bitCount : jMi ⟨"java/lang/Integer", "bitCount", "(I)I"⟩ prog_21_method_49_code 1 (some .int) 1 := ⟨jt_3 210 rfl rfl, jt_1 20 rfl rfl, ⟨by decide +kernel, by decide +kernel, by decide +kernel⟩, by decide, by decide +kernel⟩
theorem ms_JI_bitCount : jMs ⟨"java/lang/Integer", "bitCount", "(I)I"⟩ := jt_3 209 rfl rfl
abbrev Y_C_enter : jY := (⟨"CitingLetters", "enter", "(IIIII)I"⟩, prog_1_method_50_code, 8, (some .int), 4, 0, 0)
theorem mi_C_enter : jMi ⟨"CitingLetters", "enter", "(IIIII)I"⟩ prog_1_method_50_code 8 (some .int) 5 := ⟨jt_3 207 rfl rfl, jt_1 1 rfl rfl, ⟨by decide +kernel, by decide +kernel, by decide +kernel⟩, by decide, by decide +kernel⟩
theorem mv_C_enter : jMv ⟨"CitingLetters", "enter", "(IIIII)I"⟩ := ⟨jt_3 206 rfl rfl, jw_p 23 rfl rfl⟩
abbrev Y_C_mayAnswer : jY := (⟨"CitingLetters", "mayAnswer", "(IIII)Z"⟩, prog_1_method_49_code, 6, (some .boolean), 3, 0, 0)
theorem mi_C_mayAnswer : jMi ⟨"CitingLetters", "mayAnswer", "(IIII)Z"⟩ prog_1_method_49_code 6 (some .boolean) 4 := ⟨jt_3 199 rfl rfl, jt_1 1 rfl rfl, ⟨by decide +kernel, by decide +kernel, by decide +kernel⟩, by decide, by decide +kernel⟩
theorem mv_C_mayAnswer : jMv ⟨"CitingLetters", "mayAnswer", "(IIII)Z"⟩ := ⟨jt_3 198 rfl rfl, jw_p 21 rfl rfl⟩
abbrev Y_C_write : jY := (⟨"CitingLetters", "write", "(IIIII)I"⟩, prog_1_method_6_code, 6, (some .int), 5, 0, 0)
theorem mi_C_write : jMi ⟨"CitingLetters", "write", "(IIIII)I"⟩ prog_1_method_6_code 6 (some .int) 5 := ⟨jt_3 194 rfl rfl, jt_1 1 rfl rfl, ⟨by decide +kernel, by decide +kernel, by decide +kernel⟩, by decide, by decide +kernel⟩
theorem mv_C_write : jMv ⟨"CitingLetters", "write", "(IIIII)I"⟩ := ⟨jt_3 192 rfl rfl, jt_3 193 rfl rfl⟩
abbrev Y_P_delay : jY := (⟨"CitingLetters$Post", "delay", "(II)I"⟩, prog_9_method_8_code, 3, (some .int), 3, 0, 0)
theorem mi_P_delay : jMi ⟨"CitingLetters$Post", "delay", "(II)I"⟩ prog_9_method_8_code 3 (some .int) 2 := ⟨jt_4 19 rfl rfl, jt_1 8 rfl rfl, ⟨by decide +kernel, by decide +kernel, by decide +kernel⟩, by decide, by decide +kernel⟩
theorem mv_P_delay : jMv ⟨"CitingLetters$Post", "delay", "(II)I"⟩ := ⟨jt_4 17 rfl rfl, jt_4 18 rfl rfl⟩
abbrev Y_P_isCopy : jY := (⟨"CitingLetters$Post", "isCopy", "(I)Z"⟩, prog_9_method_2_code, 2, (some .boolean), 1, 0, 0)
theorem mi_P_isCopy : jMi ⟨"CitingLetters$Post", "isCopy", "(I)Z"⟩ prog_9_method_2_code 2 (some .boolean) 1 := ⟨jt_4 15 rfl rfl, jt_1 8 rfl rfl, ⟨by decide +kernel, by decide +kernel, by decide +kernel⟩, by decide, by decide +kernel⟩
theorem mv_P_isCopy : jMv ⟨"CitingLetters$Post", "isCopy", "(I)Z"⟩ := ⟨jt_4 13 rfl rfl, jt_4 14 rfl rfl⟩
abbrev Y_P_isUnderWay : jY := (⟨"CitingLetters$Post", "isUnderWay", "(I)Z"⟩, prog_9_method_3_code, 2, (some .boolean), 2, 0, 0)
theorem mi_P_isUnderWay : jMi ⟨"CitingLetters$Post", "isUnderWay", "(I)Z"⟩ prog_9_method_3_code 2 (some .boolean) 1 := ⟨jt_4 11 rfl rfl, jt_1 8 rfl rfl, ⟨by decide +kernel, by decide +kernel, by decide +kernel⟩, by decide, by decide +kernel⟩
theorem mv_P_isUnderWay : jMv ⟨"CitingLetters$Post", "isUnderWay", "(I)Z"⟩ := ⟨jt_4 9 rfl rfl, jt_4 10 rfl rfl⟩
abbrev Y_C_late : jY := (⟨"CitingLetters", "late", "(II)I"⟩, prog_1_method_7_code, 3, (some .int), 4, 0, 0)
theorem mi_C_late : jMi ⟨"CitingLetters", "late", "(II)I"⟩ prog_1_method_7_code 3 (some .int) 2 := ⟨jt_4 7 rfl rfl, jt_1 1 rfl rfl, ⟨by decide +kernel, by decide +kernel, by decide +kernel⟩, by decide, by decide +kernel⟩
theorem mv_C_late : jMv ⟨"CitingLetters", "late", "(II)I"⟩ := ⟨jt_4 5 rfl rfl, jt_4 6 rfl rfl⟩
abbrev Y_C_lose : jY := (⟨"CitingLetters", "lose", "(I)Z"⟩, prog_1_method_8_code, 2, (some .boolean), 3, 0, 0)
theorem mi_C_lose : jMi ⟨"CitingLetters", "lose", "(I)Z"⟩ prog_1_method_8_code 2 (some .boolean) 1 := ⟨jt_4 23 rfl rfl, jt_1 1 rfl rfl, ⟨by decide +kernel, by decide +kernel, by decide +kernel⟩, by decide, by decide +kernel⟩
theorem mv_C_lose : jMv ⟨"CitingLetters", "lose", "(I)Z"⟩ := ⟨jt_4 21 rfl rfl, jt_4 22 rfl rfl⟩
abbrev Y_L_isLetter : jY := (⟨"CitingLetters$Ledger", "isLetter", "(I)Z"⟩, prog_7_method_2_code, 2, (some .boolean), 1, 0, 0)
theorem mi_L_isLetter : jMi ⟨"CitingLetters$Ledger", "isLetter", "(I)Z"⟩ prog_7_method_2_code 2 (some .boolean) 1 := ⟨jt_4 31 rfl rfl, jt_1 7 rfl rfl, ⟨by decide +kernel, by decide +kernel, by decide +kernel⟩, by decide, by decide +kernel⟩
theorem mv_L_isLetter : jMv ⟨"CitingLetters$Ledger", "isLetter", "(I)Z"⟩ := ⟨jt_4 29 rfl rfl, jt_4 30 rfl rfl⟩
abbrev Y_C_again : jY := (⟨"CitingLetters", "again", "(III)I"⟩, prog_1_method_9_code, 4, (some .int), 4, 0, 0)
theorem mi_C_again : jMi ⟨"CitingLetters", "again", "(III)I"⟩ prog_1_method_9_code 4 (some .int) 3 := ⟨jt_4 27 rfl rfl, jt_1 1 rfl rfl, ⟨by decide +kernel, by decide +kernel, by decide +kernel⟩, by decide, by decide +kernel⟩
theorem mv_C_again : jMv ⟨"CitingLetters", "again", "(III)I"⟩ := ⟨jt_4 25 rfl rfl, jt_4 26 rfl rfl⟩
abbrev Y_P_setSplit : jY := (⟨"CitingLetters$Post", "setSplit", "(III)V"⟩, prog_9_method_6_code, 4, none, 1, 0, 0)
theorem mi_P_setSplit : jMi ⟨"CitingLetters$Post", "setSplit", "(III)V"⟩ prog_9_method_6_code 4 none 3 := ⟨jt_4 39 rfl rfl, jt_1 8 rfl rfl, ⟨by decide +kernel, by decide +kernel, by decide +kernel⟩, by decide, by decide +kernel⟩
theorem mv_P_setSplit : jMv ⟨"CitingLetters$Post", "setSplit", "(III)V"⟩ := ⟨jt_4 37 rfl rfl, jt_4 38 rfl rfl⟩
abbrev Y_C_split : jY := (⟨"CitingLetters", "split", "(III)Z"⟩, prog_1_method_10_code, 4, (some .boolean), 2, 0, 0)
theorem mi_C_split : jMi ⟨"CitingLetters", "split", "(III)Z"⟩ prog_1_method_10_code 4 (some .boolean) 3 := ⟨jt_4 35 rfl rfl, jt_1 1 rfl rfl, ⟨by decide +kernel, by decide +kernel, by decide +kernel⟩, by decide, by decide +kernel⟩
theorem mv_C_split : jMv ⟨"CitingLetters", "split", "(III)Z"⟩ := ⟨jt_4 33 rfl rfl, jt_4 34 rfl rfl⟩
abbrev Y_D_holds : jY := (⟨"CitingLetters$Desks", "holds", "(II)Z"⟩, prog_4_method_2_code, 3, (some .boolean), 2, 0, 0)
theorem mi_D_holds : jMi ⟨"CitingLetters$Desks", "holds", "(II)Z"⟩ prog_4_method_2_code 3 (some .boolean) 2 := ⟨jt_4 55 rfl rfl, jt_1 9 rfl rfl, ⟨by decide +kernel, by decide +kernel, by decide +kernel⟩, by decide, by decide +kernel⟩
theorem mv_D_holds : jMv ⟨"CitingLetters$Desks", "holds", "(II)Z"⟩ := ⟨jt_4 53 rfl rfl, jt_4 54 rfl rfl⟩
abbrev Y_D_put : jY := (⟨"CitingLetters$Desks", "put", "(II)V"⟩, prog_4_method_4_code, 3, none, 2, 0, 0)
theorem mi_D_put : jMi ⟨"CitingLetters$Desks", "put", "(II)V"⟩ prog_4_method_4_code 3 none 2 := ⟨jt_4 61 rfl rfl, jt_1 9 rfl rfl, ⟨by decide +kernel, by decide +kernel, by decide +kernel⟩, by decide, by decide +kernel⟩
theorem mv_D_put : jMv ⟨"CitingLetters$Desks", "put", "(II)V"⟩ := ⟨jt_4 59 rfl rfl, jt_4 60 rfl rfl⟩
abbrev Y_C_bring : jY := (⟨"CitingLetters", "bring", "(II)V"⟩, prog_1_method_52_code, 3, none, 3, 0, 0)
theorem mi_C_bring : jMi ⟨"CitingLetters", "bring", "(II)V"⟩ prog_1_method_52_code 3 none 2 := ⟨jt_4 51 rfl rfl, jt_1 1 rfl rfl, ⟨by decide +kernel, by decide +kernel, by decide +kernel⟩, by decide, by decide +kernel⟩
theorem mv_C_bring : jMv ⟨"CitingLetters", "bring", "(II)V"⟩ := ⟨jt_4 50 rfl rfl, jw_p 28 rfl rfl⟩
abbrev Y_C_bringCopies : jY := (⟨"CitingLetters", "bringCopies", "()V"⟩, prog_1_method_51_code, 2, none, 4, 0, 0)
theorem mi_C_bringCopies : jMi ⟨"CitingLetters", "bringCopies", "()V"⟩ prog_1_method_51_code 2 none 0 := ⟨jt_4 47 rfl rfl, jt_1 1 rfl rfl, ⟨by decide +kernel, by decide +kernel, by decide +kernel⟩, by decide, by decide +kernel⟩
theorem mv_C_bringCopies : jMv ⟨"CitingLetters", "bringCopies", "()V"⟩ := ⟨jt_4 46 rfl rfl, jw_p 27 rfl rfl⟩
abbrev Y_H_ruleOf : jY := (⟨"CitingLetters$Habits", "ruleOf", "(I)LCitingLetters$Token;"⟩, prog_6_method_3_code, 2, (some (.object "CitingLetters$Token")), 2, 0, 0)
theorem mi_H_ruleOf : jMi ⟨"CitingLetters$Habits", "ruleOf", "(I)LCitingLetters$Token;"⟩ prog_6_method_3_code 2 (some (.object "CitingLetters$Token")) 1 := ⟨jt_4 74 rfl rfl, jt_1 2 rfl rfl, ⟨by decide +kernel, by decide +kernel, by decide +kernel⟩, by decide, by decide +kernel⟩
theorem mv_H_ruleOf : jMv ⟨"CitingLetters$Habits", "ruleOf", "(I)LCitingLetters$Token;"⟩ := ⟨jt_4 72 rfl rfl, jt_4 73 rfl rfl⟩
abbrev Y_C_missing : jY := (⟨"CitingLetters", "missing", "(II)I"⟩, prog_1_method_55_code, 5, (some .int), 3, 0, 0)
theorem mi_C_missing : jMi ⟨"CitingLetters", "missing", "(II)I"⟩ prog_1_method_55_code 5 (some .int) 2 := ⟨jt_4 86 rfl rfl, jt_1 1 rfl rfl, ⟨by decide +kernel, by decide +kernel, by decide +kernel⟩, by decide, by decide +kernel⟩
theorem mv_C_missing : jMv ⟨"CitingLetters", "missing", "(II)I"⟩ := ⟨jt_4 85 rfl rfl, jw_p 31 rfl rfl⟩
abbrev Y_D_letterAt : jY := (⟨"CitingLetters$Desks", "letterAt", "(II)I"⟩, prog_4_method_3_code, 3, (some .int), 2, 0, 0)
theorem mi_D_letterAt : jMi ⟨"CitingLetters$Desks", "letterAt", "(II)I"⟩ prog_4_method_3_code 3 (some .int) 2 := ⟨jt_4 82 rfl rfl, jt_1 9 rfl rfl, ⟨by decide +kernel, by decide +kernel, by decide +kernel⟩, by decide, by decide +kernel⟩
theorem mv_D_letterAt : jMv ⟨"CitingLetters$Desks", "letterAt", "(II)I"⟩ := ⟨jt_4 80 rfl rfl, jt_4 81 rfl rfl⟩
abbrev Y_C_firstThatRuleLets : jY := (⟨"CitingLetters", "firstThatRuleLets", "(I)I"⟩, prog_1_method_54_code, 4, (some .int), 4, 0, 0)
theorem mi_C_firstThatRuleLets : jMi ⟨"CitingLetters", "firstThatRuleLets", "(I)I"⟩ prog_1_method_54_code 4 (some .int) 1 := ⟨jt_4 70 rfl rfl, jt_1 1 rfl rfl, ⟨by decide +kernel, by decide +kernel, by decide +kernel⟩, by decide, by decide +kernel⟩
theorem mv_C_firstThatRuleLets : jMv ⟨"CitingLetters", "firstThatRuleLets", "(I)I"⟩ := ⟨jt_4 69 rfl rfl, jw_p 30 rfl rfl⟩
abbrev Y_C_gatherFacts : jY := (⟨"CitingLetters", "gatherFacts", "(II)V"⟩, prog_1_method_57_code, 3, none, 3, 0, 0)
theorem mi_C_gatherFacts : jMi ⟨"CitingLetters", "gatherFacts", "(II)V"⟩ prog_1_method_57_code 3 none 2 := ⟨jt_4 107 rfl rfl, jt_1 1 rfl rfl, ⟨by decide +kernel, by decide +kernel, by decide +kernel⟩, by decide, by decide +kernel⟩
theorem mv_C_gatherFacts : jMv ⟨"CitingLetters", "gatherFacts", "(II)V"⟩ := ⟨jt_4 106 rfl rfl, jw_p 33 rfl rfl⟩
abbrev Y_D_take : jY := (⟨"CitingLetters$Desks", "take", "(III)V"⟩, prog_4_method_5_code, 6, none, 3, 0, 0)
theorem mi_D_take : jMi ⟨"CitingLetters$Desks", "take", "(III)V"⟩ prog_4_method_5_code 6 none 3 := ⟨jt_4 102 rfl rfl, jt_1 9 rfl rfl, ⟨by decide +kernel, by decide +kernel, by decide +kernel⟩, by decide, by decide +kernel⟩
theorem mv_D_take : jMv ⟨"CitingLetters$Desks", "take", "(III)V"⟩ := ⟨jt_4 100 rfl rfl, jt_4 101 rfl rfl⟩
abbrev Y_C_truth : jY := (⟨"CitingLetters", "truth", "(Z)I"⟩, prog_1_method_46_code, 1, (some .int), 1, 0, 0)
theorem mi_C_truth : jMi ⟨"CitingLetters", "truth", "(Z)I"⟩ prog_1_method_46_code 1 (some .int) 1 := ⟨jt_4 120 rfl rfl, jt_1 1 rfl rfl, ⟨by decide +kernel, by decide +kernel, by decide +kernel⟩, by decide, by decide +kernel⟩
theorem ms_C_truth : jMs ⟨"CitingLetters", "truth", "(Z)I"⟩ := jt_4 119 rfl rfl
abbrev Y_H_joined : jY := (⟨"CitingLetters$Habits", "joined", "(LCitingLetters$Token;II)I"⟩, prog_6_method_9_code, 3, (some .int), 2, 0, 0)
theorem mi_H_joined : jMi ⟨"CitingLetters$Habits", "joined", "(LCitingLetters$Token;II)I"⟩ prog_6_method_9_code 3 (some .int) 3 := ⟨jt_4 123 rfl rfl, jt_1 2 rfl rfl, ⟨by decide +kernel, by decide +kernel, by decide +kernel⟩, by decide, by decide +kernel⟩
theorem ms_H_joined : jMs ⟨"CitingLetters$Habits", "joined", "(LCitingLetters$Token;II)I"⟩ := jt_4 122 rfl rfl
abbrev Y_H_workOut : jY := (⟨"CitingLetters$Habits", "workOut", "(II[I)I"⟩, prog_6_method_8_code, 5, (some .int), 3, 0, 0)
theorem mi_H_workOut : jMi ⟨"CitingLetters$Habits", "workOut", "(II[I)I"⟩ prog_6_method_8_code 5 (some .int) 3 := ⟨jt_4 115 rfl rfl, jt_1 2 rfl rfl, ⟨by decide +kernel, by decide +kernel, by decide +kernel⟩, by decide, by decide +kernel⟩
theorem mv_H_workOut : jMv ⟨"CitingLetters$Habits", "workOut", "(II[I)I"⟩ := ⟨jt_4 114 rfl rfl, jw_p 34 rfl rfl⟩
abbrev Y_H_holds : jY := (⟨"CitingLetters$Habits", "holds", "(I[I)Z"⟩, prog_6_method_7_code, 5, (some .boolean), 4, 0, 0)
theorem mi_H_holds : jMi ⟨"CitingLetters$Habits", "holds", "(I[I)Z"⟩ prog_6_method_7_code 5 (some .boolean) 2 := ⟨jt_4 111 rfl rfl, jt_1 2 rfl rfl, ⟨by decide +kernel, by decide +kernel, by decide +kernel⟩, by decide, by decide +kernel⟩
theorem mv_H_holds : jMv ⟨"CitingLetters$Habits", "holds", "(I[I)Z"⟩ := ⟨jt_4 109 rfl rfl, jt_4 110 rfl rfl⟩
abbrev Y_C_takeUp : jY := (⟨"CitingLetters", "takeUp", "(II)V"⟩, prog_1_method_56_code, 5, none, 5, 0, 0)
theorem mi_C_takeUp : jMi ⟨"CitingLetters", "takeUp", "(II)V"⟩ prog_1_method_56_code 5 none 2 := ⟨jt_4 98 rfl rfl, jt_1 1 rfl rfl, ⟨by decide +kernel, by decide +kernel, by decide +kernel⟩, by decide, by decide +kernel⟩
theorem mv_C_takeUp : jMv ⟨"CitingLetters", "takeUp", "(II)V"⟩ := ⟨jt_4 97 rfl rfl, jw_p 32 rfl rfl⟩
abbrev Y_C_clearDesk : jY := (⟨"CitingLetters", "clearDesk", "(I)V"⟩, prog_1_method_53_code, 4, none, 6, 0, 0)
theorem mi_C_clearDesk : jMi ⟨"CitingLetters", "clearDesk", "(I)V"⟩ prog_1_method_53_code 4 none 1 := ⟨jt_4 66 rfl rfl, jt_1 1 rfl rfl, ⟨by decide +kernel, by decide +kernel, by decide +kernel⟩, by decide, by decide +kernel⟩
theorem mv_C_clearDesk : jMv ⟨"CitingLetters", "clearDesk", "(I)V"⟩ := ⟨jt_4 65 rfl rfl, jw_p 29 rfl rfl⟩
abbrev Y_C_days : jY := (⟨"CitingLetters", "days", "(I)I"⟩, prog_1_method_11_code, 4, (some .int), 7, 0, 0)
theorem mi_C_days : jMi ⟨"CitingLetters", "days", "(I)I"⟩ prog_1_method_11_code 4 (some .int) 1 := ⟨jt_4 43 rfl rfl, jt_1 1 rfl rfl, ⟨by decide +kernel, by decide +kernel, by decide +kernel⟩, by decide, by decide +kernel⟩
theorem mv_C_days : jMv ⟨"CitingLetters", "days", "(I)I"⟩ := ⟨jt_4 41 rfl rfl, jt_4 42 rfl rfl⟩
abbrev Y_C_read : jY := (⟨"CitingLetters", "read", "(II)I"⟩, prog_1_method_12_code, 3, (some .int), 6, 0, 0)
theorem mi_C_read : jMi ⟨"CitingLetters", "read", "(II)I"⟩ prog_1_method_12_code 3 (some .int) 2 := ⟨jt_4 135 rfl rfl, jt_1 1 rfl rfl, ⟨by decide +kernel, by decide +kernel, by decide +kernel⟩, by decide, by decide +kernel⟩
theorem mv_C_read : jMv ⟨"CitingLetters", "read", "(II)I"⟩ := ⟨jt_4 133 rfl rfl, jt_4 134 rfl rfl⟩
abbrev Y_C_copy : jY := (⟨"CitingLetters", "copy", "(II)I"⟩, prog_1_method_14_code, 3, (some .int), 2, 0, 0)
theorem mi_C_copy : jMi ⟨"CitingLetters", "copy", "(II)I"⟩ prog_1_method_14_code 3 (some .int) 2 := ⟨jt_4 139 rfl rfl, jt_1 1 rfl rfl, ⟨by decide +kernel, by decide +kernel, by decide +kernel⟩, by decide, by decide +kernel⟩
theorem mv_C_copy : jMv ⟨"CitingLetters", "copy", "(II)I"⟩ := ⟨jt_4 137 rfl rfl, jt_4 138 rfl rfl⟩
abbrev Y_C_desk : jY := (⟨"CitingLetters", "desk", "(II)I"⟩, prog_1_method_15_code, 3, (some .int), 3, 0, 0)
theorem mi_C_desk : jMi ⟨"CitingLetters", "desk", "(II)I"⟩ prog_1_method_15_code 3 (some .int) 2 := ⟨jt_4 144 rfl rfl, jt_1 1 rfl rfl, ⟨by decide +kernel, by decide +kernel, by decide +kernel⟩, by decide, by decide +kernel⟩
theorem mv_C_desk : jMv ⟨"CitingLetters", "desk", "(II)I"⟩ := ⟨jt_4 142 rfl rfl, jt_4 143 rfl rfl⟩
abbrev Y_L_areTwo : jY := (⟨"CitingLetters$Ledger", "areTwo", "(II)Z"⟩, prog_7_method_3_code, 3, (some .boolean), 2, 0, 0)
theorem mi_L_areTwo : jMi ⟨"CitingLetters$Ledger", "areTwo", "(II)Z"⟩ prog_7_method_3_code 3 (some .boolean) 2 := ⟨jt_4 152 rfl rfl, jt_1 7 rfl rfl, ⟨by decide +kernel, by decide +kernel, by decide +kernel⟩, by decide, by decide +kernel⟩
theorem mv_L_areTwo : jMv ⟨"CitingLetters$Ledger", "areTwo", "(II)Z"⟩ := ⟨jt_4 150 rfl rfl, jt_4 151 rfl rfl⟩
abbrev Y_C_before : jY := (⟨"CitingLetters", "before", "(II)I"⟩, prog_1_method_16_code, 3, (some .int), 3, 0, 0)
theorem mi_C_before : jMi ⟨"CitingLetters", "before", "(II)I"⟩ prog_1_method_16_code 3 (some .int) 2 := ⟨jt_4 148 rfl rfl, jt_1 1 rfl rfl, ⟨by decide +kernel, by decide +kernel, by decide +kernel⟩, by decide, by decide +kernel⟩
theorem mv_C_before : jMv ⟨"CitingLetters", "before", "(II)I"⟩ := ⟨jt_4 146 rfl rfl, jt_4 147 rfl rfl⟩
abbrev Y_L_firstThatKnew : jY := (⟨"CitingLetters$Ledger", "firstThatKnew", "(II)I"⟩, prog_7_method_16_code, 4, (some .int), 2, 0, 0)
theorem mi_L_firstThatKnew : jMi ⟨"CitingLetters$Ledger", "firstThatKnew", "(II)I"⟩ prog_7_method_16_code 4 (some .int) 2 := ⟨jt_4 169 rfl rfl, jt_1 7 rfl rfl, ⟨by decide +kernel, by decide +kernel, by decide +kernel⟩, by decide, by decide +kernel⟩
theorem mv_L_firstThatKnew : jMv ⟨"CitingLetters$Ledger", "firstThatKnew", "(II)I"⟩ := ⟨jt_4 168 rfl rfl, jw_p 36 rfl rfl⟩
abbrev Y_L_ringsRound : jY := (⟨"CitingLetters$Ledger", "ringsRound", "(II)I"⟩, prog_7_method_15_code, 5, (some .int), 3, 0, 0)
theorem mi_L_ringsRound : jMi ⟨"CitingLetters$Ledger", "ringsRound", "(II)I"⟩ prog_7_method_15_code 5 (some .int) 2 := ⟨jt_4 165 rfl rfl, jt_1 7 rfl rfl, ⟨by decide +kernel, by decide +kernel, by decide +kernel⟩, by decide, by decide +kernel⟩
theorem mv_L_ringsRound : jMv ⟨"CitingLetters$Ledger", "ringsRound", "(II)I"⟩ := ⟨jt_4 164 rfl rfl, jw_p 35 rfl rfl⟩
abbrev Y_L_onShortestWay : jY := (⟨"CitingLetters$Ledger", "onShortestWay", "(III)I"⟩, prog_7_method_14_code, 7, (some .int), 4, 0, 0)
theorem mi_L_onShortestWay : jMi ⟨"CitingLetters$Ledger", "onShortestWay", "(III)I"⟩ prog_7_method_14_code 7 (some .int) 3 := ⟨jt_4 161 rfl rfl, jt_1 7 rfl rfl, ⟨by decide +kernel, by decide +kernel, by decide +kernel⟩, by decide, by decide +kernel⟩
theorem mv_L_onShortestWay : jMv ⟨"CitingLetters$Ledger", "onShortestWay", "(III)I"⟩ := ⟨jt_4 159 rfl rfl, jt_4 160 rfl rfl⟩
abbrev Y_C_path : jY := (⟨"CitingLetters", "path", "(III)I"⟩, prog_1_method_17_code, 4, (some .int), 5, 0, 0)
theorem mi_C_path : jMi ⟨"CitingLetters", "path", "(III)I"⟩ prog_1_method_17_code 4 (some .int) 3 := ⟨jt_4 157 rfl rfl, jt_1 1 rfl rfl, ⟨by decide +kernel, by decide +kernel, by decide +kernel⟩, by decide, by decide +kernel⟩
theorem mv_C_path : jMv ⟨"CitingLetters", "path", "(III)I"⟩ := ⟨jt_4 155 rfl rfl, jt_4 156 rfl rfl⟩
abbrev Y_C_sum : jY := (⟨"CitingLetters", "sum", "(I)I"⟩, prog_1_method_18_code, 2, (some .int), 2, 0, 0)
theorem mi_C_sum : jMi ⟨"CitingLetters", "sum", "(I)I"⟩ prog_1_method_18_code 2 (some .int) 1 := ⟨jt_4 173 rfl rfl, jt_1 1 rfl rfl, ⟨by decide +kernel, by decide +kernel, by decide +kernel⟩, by decide, by decide +kernel⟩
theorem mv_C_sum : jMv ⟨"CitingLetters", "sum", "(I)I"⟩ := ⟨jt_4 171 rfl rfl, jt_4 172 rfl rfl⟩
abbrev Y_L_numberFor : jY := (⟨"CitingLetters$Ledger", "numberFor", "(II)I"⟩, prog_7_method_10_code, 3, (some .int), 2, 0, 0)
theorem mi_L_numberFor : jMi ⟨"CitingLetters$Ledger", "numberFor", "(II)I"⟩ prog_7_method_10_code 3 (some .int) 2 := ⟨jt_4 181 rfl rfl, jt_1 7 rfl rfl, ⟨by decide +kernel, by decide +kernel, by decide +kernel⟩, by decide, by decide +kernel⟩
theorem mv_L_numberFor : jMv ⟨"CitingLetters$Ledger", "numberFor", "(II)I"⟩ := ⟨jt_4 179 rfl rfl, jt_4 180 rfl rfl⟩
abbrev Y_C_number : jY := (⟨"CitingLetters", "number", "(II)I"⟩, prog_1_method_19_code, 3, (some .int), 3, 0, 0)
theorem mi_C_number : jMi ⟨"CitingLetters", "number", "(II)I"⟩ prog_1_method_19_code 3 (some .int) 2 := ⟨jt_4 177 rfl rfl, jt_1 1 rfl rfl, ⟨by decide +kernel, by decide +kernel, by decide +kernel⟩, by decide, by decide +kernel⟩
theorem mv_C_number : jMv ⟨"CitingLetters", "number", "(II)I"⟩ := ⟨jt_4 175 rfl rfl, jt_4 176 rfl rfl⟩
abbrev Y_L_numberOfNumber : jY := (⟨"CitingLetters$Ledger", "numberOfNumber", "(III)I"⟩, prog_7_method_11_code, 7, (some .int), 3, 0, 0)
theorem mi_L_numberOfNumber : jMi ⟨"CitingLetters$Ledger", "numberOfNumber", "(III)I"⟩ prog_7_method_11_code 7 (some .int) 3 := ⟨jt_4 190 rfl rfl, jt_1 7 rfl rfl, ⟨by decide +kernel, by decide +kernel, by decide +kernel⟩, by decide, by decide +kernel⟩
theorem mv_L_numberOfNumber : jMv ⟨"CitingLetters$Ledger", "numberOfNumber", "(III)I"⟩ := ⟨jt_4 188 rfl rfl, jt_4 189 rfl rfl⟩
abbrev Y_C_pair : jY := (⟨"CitingLetters", "pair", "(III)I"⟩, prog_1_method_20_code, 4, (some .int), 4, 0, 0)
theorem mi_C_pair : jMi ⟨"CitingLetters", "pair", "(III)I"⟩ prog_1_method_20_code 4 (some .int) 3 := ⟨jt_4 186 rfl rfl, jt_1 1 rfl rfl, ⟨by decide +kernel, by decide +kernel, by decide +kernel⟩, by decide, by decide +kernel⟩
theorem mv_C_pair : jMv ⟨"CitingLetters", "pair", "(III)I"⟩ := ⟨jt_4 184 rfl rfl, jt_4 185 rfl rfl⟩
abbrev Y_C_list : jY := (⟨"CitingLetters", "list", "(I)I"⟩, prog_1_method_21_code, 2, (some .int), 2, 0, 0)
theorem mi_C_list : jMi ⟨"CitingLetters", "list", "(I)I"⟩ prog_1_method_21_code 2 (some .int) 1 := ⟨jt_4 195 rfl rfl, jt_1 1 rfl rfl, ⟨by decide +kernel, by decide +kernel, by decide +kernel⟩, by decide, by decide +kernel⟩
theorem mv_C_list : jMv ⟨"CitingLetters", "list", "(I)I"⟩ := ⟨jt_4 193 rfl rfl, jt_4 194 rfl rfl⟩
abbrev Y_C_isBearing : jY := (⟨"CitingLetters", "isBearing", "(I)Z"⟩, prog_1_method_43_code, 1, (some .boolean), 1, 0, 0)
theorem mi_C_isBearing : jMi ⟨"CitingLetters", "isBearing", "(I)Z"⟩ prog_1_method_43_code 1 (some .boolean) 1 := ⟨jt_4 202 rfl rfl, jt_1 1 rfl rfl, ⟨by decide +kernel, by decide +kernel, by decide +kernel⟩, by decide, by decide +kernel⟩
theorem ms_C_isBearing : jMs ⟨"CitingLetters", "isBearing", "(I)Z"⟩ := jt_4 201 rfl rfl
abbrev Y_L_isTold : jY := (⟨"CitingLetters$Ledger", "isTold", "(III)Z"⟩, prog_7_method_12_code, 4, (some .boolean), 3, 0, 0)
theorem mi_L_isTold : jMi ⟨"CitingLetters$Ledger", "isTold", "(III)Z"⟩ prog_7_method_12_code 4 (some .boolean) 3 := ⟨jt_4 206 rfl rfl, jt_1 7 rfl rfl, ⟨by decide +kernel, by decide +kernel, by decide +kernel⟩, by decide, by decide +kernel⟩
theorem mv_L_isTold : jMv ⟨"CitingLetters$Ledger", "isTold", "(III)Z"⟩ := ⟨jt_4 204 rfl rfl, jt_4 205 rfl rfl⟩
abbrev Y_C_tells : jY := (⟨"CitingLetters", "tells", "(III)I"⟩, prog_1_method_22_code, 4, (some .int), 4, 0, 0)
theorem mi_C_tells : jMi ⟨"CitingLetters", "tells", "(III)I"⟩ prog_1_method_22_code 4 (some .int) 3 := ⟨jt_4 199 rfl rfl, jt_1 1 rfl rfl, ⟨by decide +kernel, by decide +kernel, by decide +kernel⟩, by decide, by decide +kernel⟩
theorem mv_C_tells : jMv ⟨"CitingLetters", "tells", "(III)I"⟩ := ⟨jt_4 197 rfl rfl, jt_4 198 rfl rfl⟩
abbrev Y_L_toldWrongly : jY := (⟨"CitingLetters$Ledger", "toldWrongly", "(I)I"⟩, prog_7_method_13_code, 5, (some .int), 4, 0, 0)
theorem mi_L_toldWrongly : jMi ⟨"CitingLetters$Ledger", "toldWrongly", "(I)I"⟩ prog_7_method_13_code 5 (some .int) 1 := ⟨jt_4 215 rfl rfl, jt_1 7 rfl rfl, ⟨by decide +kernel, by decide +kernel, by decide +kernel⟩, by decide, by decide +kernel⟩
theorem mv_L_toldWrongly : jMv ⟨"CitingLetters$Ledger", "toldWrongly", "(I)I"⟩ := ⟨jt_4 213 rfl rfl, jt_4 214 rfl rfl⟩
abbrev Y_C_errs : jY := (⟨"CitingLetters", "errs", "(I)I"⟩, prog_1_method_23_code, 2, (some .int), 5, 0, 0)
theorem mi_C_errs : jMi ⟨"CitingLetters", "errs", "(I)I"⟩ prog_1_method_23_code 2 (some .int) 1 := ⟨jt_4 211 rfl rfl, jt_1 1 rfl rfl, ⟨by decide +kernel, by decide +kernel, by decide +kernel⟩, by decide, by decide +kernel⟩
theorem mv_C_errs : jMv ⟨"CitingLetters", "errs", "(I)I"⟩ := ⟨jt_4 209 rfl rfl, jt_4 210 rfl rfl⟩
abbrev Y_N_moveOver : jY := (⟨"CitingLetters$Chains", "moveOver", "(I)V"⟩, prog_3_method_4_code, 6, none, 1, 0, 0)
theorem mi_N_moveOver : jMi ⟨"CitingLetters$Chains", "moveOver", "(I)V"⟩ prog_3_method_4_code 6 none 1 := ⟨jt_4 239 rfl rfl, jt_1 11 rfl rfl, ⟨by decide +kernel, by decide +kernel, by decide +kernel⟩, by decide, by decide +kernel⟩
theorem mv_N_moveOver : jMv ⟨"CitingLetters$Chains", "moveOver", "(I)V"⟩ := ⟨jt_4 238 rfl rfl, jw_p 38 rfl rfl⟩
abbrev Y_N_putOneBehind : jY := (⟨"CitingLetters$Chains", "putOneBehind", "(II)Z"⟩, prog_3_method_3_code, 7, (some .boolean), 2, 0, 0)
theorem mi_N_putOneBehind : jMi ⟨"CitingLetters$Chains", "putOneBehind", "(II)Z"⟩ prog_3_method_3_code 7 (some .boolean) 2 := ⟨jt_4 234 rfl rfl, jt_1 11 rfl rfl, ⟨by decide +kernel, by decide +kernel, by decide +kernel⟩, by decide, by decide +kernel⟩
theorem mv_N_putOneBehind : jMv ⟨"CitingLetters$Chains", "putOneBehind", "(II)Z"⟩ := ⟨jt_4 233 rfl rfl, jw_p 37 rfl rfl⟩
abbrev Y_N_fewest : jY := (⟨"CitingLetters$Chains", "fewest", "(I)I"⟩, prog_3_method_2_code, 4, (some .int), 3, 0, 0)
theorem mi_N_fewest : jMi ⟨"CitingLetters$Chains", "fewest", "(I)I"⟩ prog_3_method_2_code 4 (some .int) 1 := ⟨jt_4 228 rfl rfl, jt_1 11 rfl rfl, ⟨by decide +kernel, by decide +kernel, by decide +kernel⟩, by decide, by decide +kernel⟩
theorem mv_N_fewest : jMv ⟨"CitingLetters$Chains", "fewest", "(I)I"⟩ := ⟨jt_4 226 rfl rfl, jt_4 227 rfl rfl⟩
abbrev Y_L_isSet : jY := (⟨"CitingLetters$Ledger", "isSet", "(I)Z"⟩, prog_7_method_5_code, 2, (some .boolean), 2, 0, 0)
theorem mi_L_isSet : jMi ⟨"CitingLetters$Ledger", "isSet", "(I)Z"⟩ prog_7_method_5_code 2 (some .boolean) 1 := ⟨jt_4 224 rfl rfl, jt_1 7 rfl rfl, ⟨by decide +kernel, by decide +kernel, by decide +kernel⟩, by decide, by decide +kernel⟩
theorem mv_L_isSet : jMv ⟨"CitingLetters$Ledger", "isSet", "(I)Z"⟩ := ⟨jt_4 222 rfl rfl, jt_4 223 rfl rfl⟩
abbrev Y_C_chains : jY := (⟨"CitingLetters", "chains", "(I)I"⟩, prog_1_method_24_code, 2, (some .int), 4, 0, 0)
theorem mi_C_chains : jMi ⟨"CitingLetters", "chains", "(I)I"⟩ prog_1_method_24_code 2 (some .int) 1 := ⟨jt_4 220 rfl rfl, jt_1 1 rfl rfl, ⟨by decide +kernel, by decide +kernel, by decide +kernel⟩, by decide, by decide +kernel⟩
theorem mv_C_chains : jMv ⟨"CitingLetters", "chains", "(I)I"⟩ := ⟨jt_4 218 rfl rfl, jt_4 219 rfl rfl⟩
abbrev Y_C_waits : jY := (⟨"CitingLetters", "waits", "(II)I"⟩, prog_1_method_25_code, 3, (some .int), 4, 0, 0)
theorem mi_C_waits : jMi ⟨"CitingLetters", "waits", "(II)I"⟩ prog_1_method_25_code 3 (some .int) 2 := ⟨jt_5 4 rfl rfl, jt_1 1 rfl rfl, ⟨by decide +kernel, by decide +kernel, by decide +kernel⟩, by decide, by decide +kernel⟩
theorem mv_C_waits : jMv ⟨"CitingLetters", "waits", "(II)I"⟩ := ⟨jt_5 2 rfl rfl, jt_5 3 rfl rfl⟩
abbrev Y_P_onTheWayTo : jY := (⟨"CitingLetters$Post", "onTheWayTo", "(I)I"⟩, prog_9_method_11_code, 4, (some .int), 2, 0, 0)
theorem mi_P_onTheWayTo : jMi ⟨"CitingLetters$Post", "onTheWayTo", "(I)I"⟩ prog_9_method_11_code 4 (some .int) 1 := ⟨jt_5 12 rfl rfl, jt_1 8 rfl rfl, ⟨by decide +kernel, by decide +kernel, by decide +kernel⟩, by decide, by decide +kernel⟩
theorem mv_P_onTheWayTo : jMv ⟨"CitingLetters$Post", "onTheWayTo", "(I)I"⟩ := ⟨jt_5 10 rfl rfl, jt_5 11 rfl rfl⟩
abbrev Y_C_ever : jY := (⟨"CitingLetters", "ever", "(I)I"⟩, prog_1_method_26_code, 6, (some .int), 4, 0, 0)
theorem mi_C_ever : jMi ⟨"CitingLetters", "ever", "(I)I"⟩ prog_1_method_26_code 6 (some .int) 1 := ⟨jt_5 8 rfl rfl, jt_1 1 rfl rfl, ⟨by decide +kernel, by decide +kernel, by decide +kernel⟩, by decide, by decide +kernel⟩
theorem mv_C_ever : jMv ⟨"CitingLetters", "ever", "(I)I"⟩ := ⟨jt_5 6 rfl rfl, jt_5 7 rfl rfl⟩
abbrev Y_C_dayKnown : jY := (⟨"CitingLetters", "dayKnown", "(II)I"⟩, prog_1_method_58_code, 3, (some .int), 2, 0, 0)
theorem mi_C_dayKnown : jMi ⟨"CitingLetters", "dayKnown", "(II)I"⟩ prog_1_method_58_code 3 (some .int) 2 := ⟨jt_5 25 rfl rfl, jt_1 1 rfl rfl, ⟨by decide +kernel, by decide +kernel, by decide +kernel⟩, by decide, by decide +kernel⟩
theorem mv_C_dayKnown : jMv ⟨"CitingLetters", "dayKnown", "(II)I"⟩ := ⟨jt_5 24 rfl rfl, jw_p 40 rfl rfl⟩
abbrev Y_C_whoKnewBy : jY := (⟨"CitingLetters", "whoKnewBy", "(II)I"⟩, prog_1_method_59_code, 6, (some .int), 3, 0, 0)
theorem mi_C_whoKnewBy : jMi ⟨"CitingLetters", "whoKnewBy", "(II)I"⟩ prog_1_method_59_code 6 (some .int) 2 := ⟨jt_5 21 rfl rfl, jt_1 1 rfl rfl, ⟨by decide +kernel, by decide +kernel, by decide +kernel⟩, by decide, by decide +kernel⟩
theorem mv_C_whoKnewBy : jMv ⟨"CitingLetters", "whoKnewBy", "(II)I"⟩ := ⟨jt_5 20 rfl rfl, jw_p 39 rfl rfl⟩
abbrev Y_C_has : jY := (⟨"CitingLetters", "has", "(I)I"⟩, prog_1_method_27_code, 2, (some .int), 4, 0, 0)
theorem mi_C_has : jMi ⟨"CitingLetters", "has", "(I)I"⟩ prog_1_method_27_code 2 (some .int) 1 := ⟨jt_5 17 rfl rfl, jt_1 1 rfl rfl, ⟨by decide +kernel, by decide +kernel, by decide +kernel⟩, by decide, by decide +kernel⟩
theorem mv_C_has : jMv ⟨"CitingLetters", "has", "(I)I"⟩ := ⟨jt_5 15 rfl rfl, jt_5 16 rfl rfl⟩
abbrev Y_C_readOn : jY := (⟨"CitingLetters", "readOn", "(II)I"⟩, prog_1_method_28_code, 3, (some .int), 3, 0, 0)
theorem mi_C_readOn : jMi ⟨"CitingLetters", "readOn", "(II)I"⟩ prog_1_method_28_code 3 (some .int) 2 := ⟨jt_5 29 rfl rfl, jt_1 1 rfl rfl, ⟨by decide +kernel, by decide +kernel, by decide +kernel⟩, by decide, by decide +kernel⟩
theorem mv_C_readOn : jMv ⟨"CitingLetters", "readOn", "(II)I"⟩ := ⟨jt_5 27 rfl rfl, jt_5 28 rfl rfl⟩
abbrev Y_C_spread : jY := (⟨"CitingLetters", "spread", "(II)I"⟩, prog_1_method_29_code, 3, (some .int), 4, 0, 0)
theorem mi_C_spread : jMi ⟨"CitingLetters", "spread", "(II)I"⟩ prog_1_method_29_code 3 (some .int) 2 := ⟨jt_5 33 rfl rfl, jt_1 1 rfl rfl, ⟨by decide +kernel, by decide +kernel, by decide +kernel⟩, by decide, by decide +kernel⟩
theorem mv_C_spread : jMv ⟨"CitingLetters", "spread", "(II)I"⟩ := ⟨jt_5 31 rfl rfl, jt_5 32 rfl rfl⟩
abbrev Y_C_all : jY := (⟨"CitingLetters", "all", "(I)I"⟩, prog_1_method_30_code, 5, (some .int), 3, 0, 0)
theorem mi_C_all : jMi ⟨"CitingLetters", "all", "(I)I"⟩ prog_1_method_30_code 5 (some .int) 1 := ⟨jt_5 37 rfl rfl, jt_1 1 rfl rfl, ⟨by decide +kernel, by decide +kernel, by decide +kernel⟩, by decide, by decide +kernel⟩
theorem mv_C_all : jMv ⟨"CitingLetters", "all", "(I)I"⟩ := ⟨jt_5 35 rfl rfl, jt_5 36 rfl rfl⟩
abbrev Y_L_isLeft : jY := (⟨"CitingLetters$Ledger", "isLeft", "(I)Z"⟩, prog_7_method_4_code, 2, (some .boolean), 2, 0, 0)
theorem mi_L_isLeft : jMi ⟨"CitingLetters$Ledger", "isLeft", "(I)Z"⟩ prog_7_method_4_code 2 (some .boolean) 1 := ⟨jt_5 46 rfl rfl, jt_1 7 rfl rfl, ⟨by decide +kernel, by decide +kernel, by decide +kernel⟩, by decide, by decide +kernel⟩
theorem mv_L_isLeft : jMv ⟨"CitingLetters$Ledger", "isLeft", "(I)Z"⟩ := ⟨jt_5 44 rfl rfl, jt_5 45 rfl rfl⟩
abbrev Y_C_burn : jY := (⟨"CitingLetters", "burn", "(I)I"⟩, prog_1_method_31_code, 2, (some .int), 3, 0, 0)
theorem mi_C_burn : jMi ⟨"CitingLetters", "burn", "(I)I"⟩ prog_1_method_31_code 2 (some .int) 1 := ⟨jt_5 42 rfl rfl, jt_1 1 rfl rfl, ⟨by decide +kernel, by decide +kernel, by decide +kernel⟩, by decide, by decide +kernel⟩
theorem mv_C_burn : jMv ⟨"CitingLetters", "burn", "(I)I"⟩ := ⟨jt_5 40 rfl rfl, jt_5 41 rfl rfl⟩
abbrev Y_U_mayHaveKnown : jY := (⟨"CitingLetters$Doubts", "mayHaveKnown", "(II)Z"⟩, prog_5_method_2_code, 5, (some .boolean), 1, 0, 0)
theorem mi_U_mayHaveKnown : jMi ⟨"CitingLetters$Doubts", "mayHaveKnown", "(II)Z"⟩ prog_5_method_2_code 5 (some .boolean) 2 := ⟨jt_5 58 rfl rfl, jt_1 10 rfl rfl, ⟨by decide +kernel, by decide +kernel, by decide +kernel⟩, by decide, by decide +kernel⟩
theorem mv_U_mayHaveKnown : jMv ⟨"CitingLetters$Doubts", "mayHaveKnown", "(II)Z"⟩ := ⟨jt_5 56 rfl rfl, jt_5 57 rfl rfl⟩
abbrev Y_L_citesThroughLeft : jY := (⟨"CitingLetters$Ledger", "citesThroughLeft", "(II)Z"⟩, prog_7_method_17_code, 5, (some .boolean), 3, 0, 0)
theorem mi_L_citesThroughLeft : jMi ⟨"CitingLetters$Ledger", "citesThroughLeft", "(II)Z"⟩ prog_7_method_17_code 5 (some .boolean) 2 := ⟨jt_5 54 rfl rfl, jt_1 7 rfl rfl, ⟨by decide +kernel, by decide +kernel, by decide +kernel⟩, by decide, by decide +kernel⟩
theorem mv_L_citesThroughLeft : jMv ⟨"CitingLetters$Ledger", "citesThroughLeft", "(II)Z"⟩ := ⟨jt_5 52 rfl rfl, jt_5 53 rfl rfl⟩
abbrev Y_C_could : jY := (⟨"CitingLetters", "could", "(II)I"⟩, prog_1_method_32_code, 3, (some .int), 4, 0, 0)
theorem mi_C_could : jMi ⟨"CitingLetters", "could", "(II)I"⟩ prog_1_method_32_code 3 (some .int) 2 := ⟨jt_5 50 rfl rfl, jt_1 1 rfl rfl, ⟨by decide +kernel, by decide +kernel, by decide +kernel⟩, by decide, by decide +kernel⟩
theorem mv_C_could : jMv ⟨"CitingLetters", "could", "(II)I"⟩ := ⟨jt_5 48 rfl rfl, jt_5 49 rfl rfl⟩
abbrev Y_U_numberIn : jY := (⟨"CitingLetters$Doubts", "numberIn", "(II)I"⟩, prog_5_method_4_code, 2, (some .int), 1, 0, 0)
theorem mi_U_numberIn : jMi ⟨"CitingLetters$Doubts", "numberIn", "(II)I"⟩ prog_5_method_4_code 2 (some .int) 2 := ⟨jt_5 78 rfl rfl, jt_1 10 rfl rfl, ⟨by decide +kernel, by decide +kernel, by decide +kernel⟩, by decide, by decide +kernel⟩
theorem ms_U_numberIn : jMs ⟨"CitingLetters$Doubts", "numberIn", "(II)I"⟩ := jt_5 77 rfl rfl
abbrev Y_U_bearsMore : jY := (⟨"CitingLetters$Doubts", "bearsMore", "(II)Z"⟩, prog_5_method_8_code, 4, (some .boolean), 3, 0, 0)
theorem mi_U_bearsMore : jMi ⟨"CitingLetters$Doubts", "bearsMore", "(II)Z"⟩ prog_5_method_8_code 4 (some .boolean) 2 := ⟨jt_5 90 rfl rfl, jt_1 10 rfl rfl, ⟨by decide +kernel, by decide +kernel, by decide +kernel⟩, by decide, by decide +kernel⟩
theorem mv_U_bearsMore : jMv ⟨"CitingLetters$Doubts", "bearsMore", "(II)Z"⟩ := ⟨jt_5 89 rfl rfl, jw_p 43 rfl rfl⟩
abbrev Y_L_ofWriter : jY := (⟨"CitingLetters$Ledger", "ofWriter", "(II)I"⟩, prog_7_method_21_code, 5, (some .int), 1, 0, 0)
theorem mi_L_ofWriter : jMi ⟨"CitingLetters$Ledger", "ofWriter", "(II)I"⟩ prog_7_method_21_code 5 (some .int) 2 := ⟨jt_5 86 rfl rfl, jt_1 7 rfl rfl, ⟨by decide +kernel, by decide +kernel, by decide +kernel⟩, by decide, by decide +kernel⟩
theorem mv_L_ofWriter : jMv ⟨"CitingLetters$Ledger", "ofWriter", "(II)I"⟩ := ⟨jt_5 84 rfl rfl, jt_5 85 rfl rfl⟩
abbrev Y_U_doesLack : jY := (⟨"CitingLetters$Doubts", "doesLack", "(III)Z"⟩, prog_5_method_6_code, 7, (some .boolean), 4, 0, 0)
theorem mi_U_doesLack : jMi ⟨"CitingLetters$Doubts", "doesLack", "(III)Z"⟩ prog_5_method_6_code 7 (some .boolean) 3 := ⟨jt_5 82 rfl rfl, jt_1 10 rfl rfl, ⟨by decide +kernel, by decide +kernel, by decide +kernel⟩, by decide, by decide +kernel⟩
theorem mv_U_doesLack : jMv ⟨"CitingLetters$Doubts", "doesLack", "(III)Z"⟩ := ⟨jt_5 81 rfl rfl, jw_p 42 rfl rfl⟩
abbrev Y_L_writtenBy : jY := (⟨"CitingLetters$Ledger", "writtenBy", "(II)I"⟩, prog_7_method_20_code, 5, (some .int), 1, 0, 0)
theorem mi_L_writtenBy : jMi ⟨"CitingLetters$Ledger", "writtenBy", "(II)I"⟩ prog_7_method_20_code 5 (some .int) 2 := ⟨jt_5 74 rfl rfl, jt_1 7 rfl rfl, ⟨by decide +kernel, by decide +kernel, by decide +kernel⟩, by decide, by decide +kernel⟩
theorem mv_L_writtenBy : jMv ⟨"CitingLetters$Ledger", "writtenBy", "(II)I"⟩ := ⟨jt_5 72 rfl rfl, jt_5 73 rfl rfl⟩
abbrev Y_U_goesBack : jY := (⟨"CitingLetters$Doubts", "goesBack", "(III)Z"⟩, prog_5_method_7_code, 5, (some .boolean), 4, 0, 0)
theorem mi_U_goesBack : jMi ⟨"CitingLetters$Doubts", "goesBack", "(III)Z"⟩ prog_5_method_7_code 5 (some .boolean) 3 := ⟨jt_5 95 rfl rfl, jt_1 10 rfl rfl, ⟨by decide +kernel, by decide +kernel, by decide +kernel⟩, by decide, by decide +kernel⟩
theorem mv_U_goesBack : jMv ⟨"CitingLetters$Doubts", "goesBack", "(III)Z"⟩ := ⟨jt_5 94 rfl rfl, jw_p 44 rfl rfl⟩
abbrev Y_U_isTooMuch : jY := (⟨"CitingLetters$Doubts", "isTooMuch", "(III)Z"⟩, prog_5_method_5_code, 6, (some .boolean), 2, 0, 0)
theorem mi_U_isTooMuch : jMi ⟨"CitingLetters$Doubts", "isTooMuch", "(III)Z"⟩ prog_5_method_5_code 6 (some .boolean) 3 := ⟨jt_5 70 rfl rfl, jt_1 10 rfl rfl, ⟨by decide +kernel, by decide +kernel, by decide +kernel⟩, by decide, by decide +kernel⟩
theorem mv_U_isTooMuch : jMv ⟨"CitingLetters$Doubts", "isTooMuch", "(III)Z"⟩ := ⟨jt_5 69 rfl rfl, jw_p 41 rfl rfl⟩
abbrev Y_U_verdict : jY := (⟨"CitingLetters$Doubts", "verdict", "(III)I"⟩, prog_5_method_3_code, 4, (some .int), 5, 0, 0)
theorem mi_U_verdict : jMi ⟨"CitingLetters$Doubts", "verdict", "(III)I"⟩ prog_5_method_3_code 4 (some .int) 3 := ⟨jt_5 66 rfl rfl, jt_1 10 rfl rfl, ⟨by decide +kernel, by decide +kernel, by decide +kernel⟩, by decide, by decide +kernel⟩
theorem mv_U_verdict : jMv ⟨"CitingLetters$Doubts", "verdict", "(III)I"⟩ := ⟨jt_5 64 rfl rfl, jt_5 65 rfl rfl⟩
abbrev Y_C_forged : jY := (⟨"CitingLetters", "forged", "(III)I"⟩, prog_1_method_33_code, 4, (some .int), 6, 0, 0)
theorem mi_C_forged : jMi ⟨"CitingLetters", "forged", "(III)I"⟩ prog_1_method_33_code 4 (some .int) 3 := ⟨jt_5 62 rfl rfl, jt_1 1 rfl rfl, ⟨by decide +kernel, by decide +kernel, by decide +kernel⟩, by decide, by decide +kernel⟩
theorem mv_C_forged : jMv ⟨"CitingLetters", "forged", "(III)I"⟩ := ⟨jt_5 60 rfl rfl, jt_5 61 rfl rfl⟩
abbrev Y_C_forgers : jY := (⟨"CitingLetters", "forgers", "(II)I"⟩, prog_1_method_34_code, 5, (some .int), 6, 0, 0)
theorem mi_C_forgers : jMi ⟨"CitingLetters", "forgers", "(II)I"⟩ prog_1_method_34_code 5 (some .int) 2 := ⟨jt_5 99 rfl rfl, jt_1 1 rfl rfl, ⟨by decide +kernel, by decide +kernel, by decide +kernel⟩, by decide, by decide +kernel⟩
theorem mv_C_forgers : jMv ⟨"CitingLetters", "forgers", "(II)I"⟩ := ⟨jt_5 97 rfl rfl, jt_5 98 rfl rfl⟩
abbrev Y_O_goesAgainst : jY := (⟨"CitingLetters$Orders", "goesAgainst", "(II)Z"⟩, prog_8_method_3_code, 6, (some .boolean), 2, 0, 0)
theorem mi_O_goesAgainst : jMi ⟨"CitingLetters$Orders", "goesAgainst", "(II)Z"⟩ prog_8_method_3_code 6 (some .boolean) 2 := ⟨jt_5 107 rfl rfl, jt_1 12 rfl rfl, ⟨by decide +kernel, by decide +kernel, by decide +kernel⟩, by decide, by decide +kernel⟩
theorem mv_O_goesAgainst : jMv ⟨"CitingLetters$Orders", "goesAgainst", "(II)Z"⟩ := ⟨jt_5 105 rfl rfl, jt_5 106 rfl rfl⟩
abbrev Y_O_tell : jY := (⟨"CitingLetters$Orders", "tell", "(II)V"⟩, prog_8_method_2_code, 3, none, 1, 0, 0)
theorem mi_O_tell : jMi ⟨"CitingLetters$Orders", "tell", "(II)V"⟩ prog_8_method_2_code 3 none 2 := ⟨jt_5 113 rfl rfl, jt_1 12 rfl rfl, ⟨by decide +kernel, by decide +kernel, by decide +kernel⟩, by decide, by decide +kernel⟩
theorem mv_O_tell : jMv ⟨"CitingLetters$Orders", "tell", "(II)V"⟩ := ⟨jt_5 111 rfl rfl, jt_5 112 rfl rfl⟩
abbrev Y_C_ahead : jY := (⟨"CitingLetters", "ahead", "(II)I"⟩, prog_1_method_35_code, 3, (some .int), 3, 0, 0)
theorem mi_C_ahead : jMi ⟨"CitingLetters", "ahead", "(II)I"⟩ prog_1_method_35_code 3 (some .int) 2 := ⟨jt_5 103 rfl rfl, jt_1 1 rfl rfl, ⟨by decide +kernel, by decide +kernel, by decide +kernel⟩, by decide, by decide +kernel⟩
theorem mv_C_ahead : jMv ⟨"CitingLetters", "ahead", "(II)I"⟩ := ⟨jt_5 101 rfl rfl, jt_5 102 rfl rfl⟩
abbrev Y_O_mayFollow : jY := (⟨"CitingLetters$Orders", "mayFollow", "(II)Z"⟩, prog_8_method_7_code, 3, (some .boolean), 2, 0, 0)
theorem mi_O_mayFollow : jMi ⟨"CitingLetters$Orders", "mayFollow", "(II)Z"⟩ prog_8_method_7_code 3 (some .boolean) 2 := ⟨jt_5 139 rfl rfl, jt_1 12 rfl rfl, ⟨by decide +kernel, by decide +kernel, by decide +kernel⟩, by decide, by decide +kernel⟩
theorem mv_O_mayFollow : jMv ⟨"CitingLetters$Orders", "mayFollow", "(II)Z"⟩ := ⟨jt_5 138 rfl rfl, jw_p 46 rfl rfl⟩
abbrev Y_O_howMany : jY := (⟨"CitingLetters$Orders", "howMany", "()I"⟩, prog_8_method_8_code, 5, (some .int), 3, 0, 0)
theorem mi_O_howMany : jMi ⟨"CitingLetters$Orders", "howMany", "()I"⟩ prog_8_method_8_code 5 (some .int) 0 := ⟨jt_5 135 rfl rfl, jt_1 12 rfl rfl, ⟨by decide +kernel, by decide +kernel, by decide +kernel⟩, by decide, by decide +kernel⟩
theorem mv_O_howMany : jMv ⟨"CitingLetters$Orders", "howMany", "()I"⟩ := ⟨jt_5 133 rfl rfl, jt_5 134 rfl rfl⟩
abbrev Y_O_placesOf : jY := (⟨"CitingLetters$Orders", "placesOf", "(I)I"⟩, prog_8_method_5_code, 4, (some .int), 2, 0, 0)
theorem mi_O_placesOf : jMi ⟨"CitingLetters$Orders", "placesOf", "(I)I"⟩ prog_8_method_5_code 4 (some .int) 1 := ⟨jt_5 127 rfl rfl, jt_1 12 rfl rfl, ⟨by decide +kernel, by decide +kernel, by decide +kernel⟩, by decide, by decide +kernel⟩
theorem mv_O_placesOf : jMv ⟨"CitingLetters$Orders", "placesOf", "(I)I"⟩ := ⟨jt_5 126 rfl rfl, jw_p 45 rfl rfl⟩
abbrev Y_O_demand : jY := (⟨"CitingLetters$Orders", "demand", "(II)V"⟩, prog_8_method_6_code, 4, none, 3, 0, 0)
theorem mi_O_demand : jMi ⟨"CitingLetters$Orders", "demand", "(II)V"⟩ prog_8_method_6_code 4 none 2 := ⟨jt_5 131 rfl rfl, jt_1 12 rfl rfl, ⟨by decide +kernel, by decide +kernel, by decide +kernel⟩, by decide, by decide +kernel⟩
theorem mv_O_demand : jMv ⟨"CitingLetters$Orders", "demand", "(II)V"⟩ := ⟨jt_5 129 rfl rfl, jt_5 130 rfl rfl⟩
abbrev Y_O_takesSet : jY := (⟨"CitingLetters$Orders", "takesSet", "(I)Z"⟩, prog_8_method_4_code, 3, (some .boolean), 4, 0, 0)
theorem mi_O_takesSet : jMi ⟨"CitingLetters$Orders", "takesSet", "(I)Z"⟩ prog_8_method_4_code 3 (some .boolean) 1 := ⟨jt_5 121 rfl rfl, jt_1 12 rfl rfl, ⟨by decide +kernel, by decide +kernel, by decide +kernel⟩, by decide, by decide +kernel⟩
theorem mv_O_takesSet : jMv ⟨"CitingLetters$Orders", "takesSet", "(I)Z"⟩ := ⟨jt_5 119 rfl rfl, jt_5 120 rfl rfl⟩
abbrev Y_C_orders : jY := (⟨"CitingLetters", "orders", "(I)I"⟩, prog_1_method_36_code, 2, (some .int), 5, 0, 0)
theorem mi_C_orders : jMi ⟨"CitingLetters", "orders", "(I)I"⟩ prog_1_method_36_code 2 (some .int) 1 := ⟨jt_5 117 rfl rfl, jt_1 1 rfl rfl, ⟨by decide +kernel, by decide +kernel, by decide +kernel⟩, by decide, by decide +kernel⟩
theorem mv_C_orders : jMv ⟨"CitingLetters", "orders", "(I)I"⟩ := ⟨jt_5 115 rfl rfl, jt_5 116 rfl rfl⟩
abbrev Y_O_waysAhead : jY := (⟨"CitingLetters$Orders", "waysAhead", "(II)I"⟩, prog_8_method_11_code, 5, (some .int), 3, 0, 0)
theorem mi_O_waysAhead : jMi ⟨"CitingLetters$Orders", "waysAhead", "(II)I"⟩ prog_8_method_11_code 5 (some .int) 2 := ⟨jt_5 156 rfl rfl, jt_1 12 rfl rfl, ⟨by decide +kernel, by decide +kernel, by decide +kernel⟩, by decide, by decide +kernel⟩
theorem mv_O_waysAhead : jMv ⟨"CitingLetters$Orders", "waysAhead", "(II)I"⟩ := ⟨jt_5 155 rfl rfl, jw_p 48 rfl rfl⟩
abbrev Y_O_memberAt : jY := (⟨"CitingLetters$Orders", "memberAt", "(II)I"⟩, prog_8_method_10_code, 4, (some .int), 4, 0, 0)
theorem mi_O_memberAt : jMi ⟨"CitingLetters$Orders", "memberAt", "(II)I"⟩ prog_8_method_10_code 4 (some .int) 2 := ⟨jt_5 152 rfl rfl, jt_1 12 rfl rfl, ⟨by decide +kernel, by decide +kernel, by decide +kernel⟩, by decide, by decide +kernel⟩
theorem mv_O_memberAt : jMv ⟨"CitingLetters$Orders", "memberAt", "(II)I"⟩ := ⟨jt_5 151 rfl rfl, jw_p 47 rfl rfl⟩
abbrev Y_O_letterAt : jY := (⟨"CitingLetters$Orders", "letterAt", "(II)I"⟩, prog_8_method_9_code, 8, (some .int), 5, 0, 0)
theorem mi_O_letterAt : jMi ⟨"CitingLetters$Orders", "letterAt", "(II)I"⟩ prog_8_method_9_code 8 (some .int) 2 := ⟨jt_5 147 rfl rfl, jt_1 12 rfl rfl, ⟨by decide +kernel, by decide +kernel, by decide +kernel⟩, by decide, by decide +kernel⟩
theorem mv_O_letterAt : jMv ⟨"CitingLetters$Orders", "letterAt", "(II)I"⟩ := ⟨jt_5 145 rfl rfl, jt_5 146 rfl rfl⟩
abbrev Y_C_order : jY := (⟨"CitingLetters", "order", "(III)I"⟩, prog_1_method_37_code, 4, (some .int), 6, 0, 0)
theorem mi_C_order : jMi ⟨"CitingLetters", "order", "(III)I"⟩ prog_1_method_37_code 4 (some .int) 3 := ⟨jt_5 143 rfl rfl, jt_1 1 rfl rfl, ⟨by decide +kernel, by decide +kernel, by decide +kernel⟩, by decide, by decide +kernel⟩
theorem mv_C_order : jMv ⟨"CitingLetters", "order", "(III)I"⟩ := ⟨jt_5 141 rfl rfl, jt_5 142 rfl rfl⟩
abbrev Y_C_first : jY := (⟨"CitingLetters", "first", "(III)I"⟩, prog_1_method_38_code, 4, (some .int), 5, 0, 0)
theorem mi_C_first : jMi ⟨"CitingLetters", "first", "(III)I"⟩ prog_1_method_38_code 4 (some .int) 3 := ⟨jt_5 160 rfl rfl, jt_1 1 rfl rfl, ⟨by decide +kernel, by decide +kernel, by decide +kernel⟩, by decide, by decide +kernel⟩
theorem mv_C_first : jMv ⟨"CitingLetters", "first", "(III)I"⟩ := ⟨jt_5 158 rfl rfl, jt_5 159 rfl rfl⟩
abbrev Y_O_goOnFrom : jY := (⟨"CitingLetters$Orders", "goOnFrom", "(I)V"⟩, prog_8_method_14_code, 6, none, 3, 0, 0)
theorem mi_O_goOnFrom : jMi ⟨"CitingLetters$Orders", "goOnFrom", "(I)V"⟩ prog_8_method_14_code 6 none 1 := ⟨jt_5 177 rfl rfl, jt_1 12 rfl rfl, ⟨by decide +kernel, by decide +kernel, by decide +kernel⟩, by decide, by decide +kernel⟩
theorem mv_O_goOnFrom : jMv ⟨"CitingLetters$Orders", "goOnFrom", "(I)V"⟩ := ⟨jt_5 176 rfl rfl, jw_p 50 rfl rfl⟩
abbrev Y_O_countAhead : jY := (⟨"CitingLetters$Orders", "countAhead", "()V"⟩, prog_8_method_13_code, 3, none, 4, 0, 0)
theorem mi_O_countAhead : jMi ⟨"CitingLetters$Orders", "countAhead", "()V"⟩ prog_8_method_13_code 3 none 0 := ⟨jt_5 173 rfl rfl, jt_1 12 rfl rfl, ⟨by decide +kernel, by decide +kernel, by decide +kernel⟩, by decide, by decide +kernel⟩
theorem mv_O_countAhead : jMv ⟨"CitingLetters$Orders", "countAhead", "()V"⟩ := ⟨jt_5 172 rfl rfl, jw_p 49 rfl rfl⟩
abbrev Y_O_bestQuestion : jY := (⟨"CitingLetters$Orders", "bestQuestion", "()I"⟩, prog_8_method_12_code, 7, (some .int), 5, 0, 0)
theorem mi_O_bestQuestion : jMi ⟨"CitingLetters$Orders", "bestQuestion", "()I"⟩ prog_8_method_12_code 7 (some .int) 0 := ⟨jt_5 169 rfl rfl, jt_1 12 rfl rfl, ⟨by decide +kernel, by decide +kernel, by decide +kernel⟩, by decide, by decide +kernel⟩
theorem mv_O_bestQuestion : jMv ⟨"CitingLetters$Orders", "bestQuestion", "()I"⟩ := ⟨jt_5 167 rfl rfl, jt_5 168 rfl rfl⟩
abbrev Y_C_ask : jY := (⟨"CitingLetters", "ask", "(I)I"⟩, prog_1_method_39_code, 2, (some .int), 6, 0, 0)
theorem mi_C_ask : jMi ⟨"CitingLetters", "ask", "(I)I"⟩ prog_1_method_39_code 2 (some .int) 1 := ⟨jt_5 165 rfl rfl, jt_1 1 rfl rfl, ⟨by decide +kernel, by decide +kernel, by decide +kernel⟩, by decide, by decide +kernel⟩
theorem mv_C_ask : jMv ⟨"CitingLetters", "ask", "(I)I"⟩ := ⟨jt_5 163 rfl rfl, jt_5 164 rfl rfl⟩
abbrev Y_L_hanging : jY := (⟨"CitingLetters$Ledger", "hanging", "(IZ)I"⟩, prog_7_method_19_code, 5, (some .int), 2, 0, 0)
theorem mi_L_hanging : jMi ⟨"CitingLetters$Ledger", "hanging", "(IZ)I"⟩ prog_7_method_19_code 5 (some .int) 2 := ⟨jt_5 190 rfl rfl, jt_1 7 rfl rfl, ⟨by decide +kernel, by decide +kernel, by decide +kernel⟩, by decide, by decide +kernel⟩
theorem mv_L_hanging : jMv ⟨"CitingLetters$Ledger", "hanging", "(IZ)I"⟩ := ⟨jt_5 188 rfl rfl, jt_5 189 rfl rfl⟩
abbrev Y_L_isTakenBack : jY := (⟨"CitingLetters$Ledger", "isTakenBack", "(I)Z"⟩, prog_7_method_18_code, 3, (some .boolean), 1, 0, 0)
theorem mi_L_isTakenBack : jMi ⟨"CitingLetters$Ledger", "isTakenBack", "(I)Z"⟩ prog_7_method_18_code 3 (some .boolean) 1 := ⟨jt_5 186 rfl rfl, jt_1 7 rfl rfl, ⟨by decide +kernel, by decide +kernel, by decide +kernel⟩, by decide, by decide +kernel⟩
theorem mv_L_isTakenBack : jMv ⟨"CitingLetters$Ledger", "isTakenBack", "(I)Z"⟩ := ⟨jt_5 184 rfl rfl, jt_5 185 rfl rfl⟩
abbrev Y_C_hangs : jY := (⟨"CitingLetters", "hangs", "(II)I"⟩, prog_1_method_40_code, 3, (some .int), 3, 0, 0)
theorem mi_C_hangs : jMi ⟨"CitingLetters", "hangs", "(II)I"⟩ prog_1_method_40_code 3 (some .int) 2 := ⟨jt_5 182 rfl rfl, jt_1 1 rfl rfl, ⟨by decide +kernel, by decide +kernel, by decide +kernel⟩, by decide, by decide +kernel⟩
theorem mv_C_hangs : jMv ⟨"CitingLetters", "hangs", "(II)I"⟩ := ⟨jt_5 180 rfl rfl, jt_5 181 rfl rfl⟩
abbrev Y_D_allHeld : jY := (⟨"CitingLetters$Desks", "allHeld", "()I"⟩, prog_4_method_6_code, 3, (some .int), 1, 0, 0)
theorem mi_D_allHeld : jMi ⟨"CitingLetters$Desks", "allHeld", "()I"⟩ prog_4_method_6_code 3 (some .int) 0 := ⟨jt_5 203 rfl rfl, jt_1 9 rfl rfl, ⟨by decide +kernel, by decide +kernel, by decide +kernel⟩, by decide, by decide +kernel⟩
theorem mv_D_allHeld : jMv ⟨"CitingLetters$Desks", "allHeld", "()I"⟩ := ⟨jt_5 201 rfl rfl, jt_5 202 rfl rfl⟩
abbrev Y_D_allRead : jY := (⟨"CitingLetters$Desks", "allRead", "()I"⟩, prog_4_method_7_code, 3, (some .int), 2, 0, 0)
theorem mi_D_allRead : jMi ⟨"CitingLetters$Desks", "allRead", "()I"⟩ prog_4_method_7_code 3 (some .int) 0 := ⟨jt_5 207 rfl rfl, jt_1 9 rfl rfl, ⟨by decide +kernel, by decide +kernel, by decide +kernel⟩, by decide, by decide +kernel⟩
theorem mv_D_allRead : jMv ⟨"CitingLetters$Desks", "allRead", "()I"⟩ := ⟨jt_5 205 rfl rfl, jt_5 206 rfl rfl⟩
abbrev Y_P_howManyUnderWay : jY := (⟨"CitingLetters$Post", "howManyUnderWay", "()I"⟩, prog_9_method_10_code, 3, (some .int), 2, 0, 0)
theorem mi_P_howManyUnderWay : jMi ⟨"CitingLetters$Post", "howManyUnderWay", "()I"⟩ prog_9_method_10_code 3 (some .int) 0 := ⟨jt_5 198 rfl rfl, jt_1 8 rfl rfl, ⟨by decide +kernel, by decide +kernel, by decide +kernel⟩, by decide, by decide +kernel⟩
theorem mv_P_howManyUnderWay : jMv ⟨"CitingLetters$Post", "howManyUnderWay", "()I"⟩ := ⟨jt_5 196 rfl rfl, jt_5 197 rfl rfl⟩
abbrev Y_C_count : jY := (⟨"CitingLetters", "count", "(I)I"⟩, prog_1_method_41_code, 2, (some .int), 3, 0, 0)
theorem mi_C_count : jMi ⟨"CitingLetters", "count", "(I)I"⟩ prog_1_method_41_code 2 (some .int) 1 := ⟨jt_5 194 rfl rfl, jt_1 1 rfl rfl, ⟨by decide +kernel, by decide +kernel, by decide +kernel⟩, by decide, by decide +kernel⟩
theorem mv_C_count : jMv ⟨"CitingLetters", "count", "(I)I"⟩ := ⟨jt_5 192 rfl rfl, jt_5 193 rfl rfl⟩
abbrev Y_M_thrown : jY := (⟨"CitingLettersModel", "thrown", "()I"⟩, prog_14_method_2_code, 1, (some .int), 1, 0, 0)
theorem mi_M_thrown : jMi ⟨"CitingLettersModel", "thrown", "()I"⟩ prog_14_method_2_code 1 (some .int) 0 := ⟨jt_7 44 rfl rfl, jt_1 13 rfl rfl, ⟨by decide +kernel, by decide +kernel, by decide +kernel⟩, by decide, by decide +kernel⟩
theorem mv_M_thrown : jMv ⟨"CitingLettersModel", "thrown", "()I"⟩ := ⟨jt_7 42 rfl rfl, jt_7 43 rfl rfl⟩
abbrev Y_M_feed : jY := (⟨"CitingLettersModel", "feed", "(IIIII)I"⟩, prog_14_method_3_code, 8, (some .int), 1, 0, 0)
theorem mi_M_feed : jMi ⟨"CitingLettersModel", "feed", "(IIIII)I"⟩ prog_14_method_3_code 8 (some .int) 5 := ⟨jt_7 48 rfl rfl, jt_1 13 rfl rfl, ⟨by decide +kernel, by decide +kernel, by decide +kernel⟩, by decide, by decide +kernel⟩
theorem mv_M_feed : jMv ⟨"CitingLettersModel", "feed", "(IIIII)I"⟩ := ⟨jt_7 46 rfl rfl, jt_7 47 rfl rfl⟩
abbrev Y_M_here : jY := (⟨"CitingLettersModel", "here", "()I"⟩, prog_14_method_4_code, 1, (some .int), 1, 0, 0)
theorem mi_M_here : jMi ⟨"CitingLettersModel", "here", "()I"⟩ prog_14_method_4_code 1 (some .int) 0 := ⟨jt_7 60 rfl rfl, jt_1 13 rfl rfl, ⟨by decide +kernel, by decide +kernel, by decide +kernel⟩, by decide, by decide +kernel⟩
theorem mv_M_here : jMv ⟨"CitingLettersModel", "here", "()I"⟩ := ⟨jt_7 59 rfl rfl, jw_p 53 rfl rfl⟩
abbrev Y_M_isSmall : jY := (⟨"CitingLettersModel", "isSmall", "(I)Z"⟩, prog_14_method_5_code, 1, (some .boolean), 1, 0, 0)
theorem mi_M_isSmall : jMi ⟨"CitingLettersModel", "isSmall", "(I)Z"⟩ prog_14_method_5_code 1 (some .boolean) 1 := ⟨jt_7 63 rfl rfl, jt_1 13 rfl rfl, ⟨by decide +kernel, by decide +kernel, by decide +kernel⟩, by decide, by decide +kernel⟩
theorem ms_M_isSmall : jMs ⟨"CitingLettersModel", "isSmall", "(I)Z"⟩ := jt_7 62 rfl rfl
abbrev Y_M_isDigit : jY := (⟨"CitingLettersModel", "isDigit", "(I)Z"⟩, prog_14_method_6_code, 1, (some .boolean), 1, 0, 0)
theorem mi_M_isDigit : jMi ⟨"CitingLettersModel", "isDigit", "(I)Z"⟩ prog_14_method_6_code 1 (some .boolean) 1 := ⟨jt_7 73 rfl rfl, jt_1 13 rfl rfl, ⟨by decide +kernel, by decide +kernel, by decide +kernel⟩, by decide, by decide +kernel⟩
theorem ms_M_isDigit : jMs ⟨"CitingLettersModel", "isDigit", "(I)Z"⟩ := jt_7 72 rfl rfl
abbrev Y_M_word : jY := (⟨"CitingLettersModel", "word", "()I"⟩, prog_14_method_8_code, 4, (some .int), 5, 0, 0)
theorem mi_M_word : jMi ⟨"CitingLettersModel", "word", "()I"⟩ prog_14_method_8_code 4 (some .int) 0 := ⟨jt_7 67 rfl rfl, jt_1 13 rfl rfl, ⟨by decide +kernel, by decide +kernel, by decide +kernel⟩, by decide, by decide +kernel⟩
theorem mv_M_word : jMv ⟨"CitingLettersModel", "word", "()I"⟩ := ⟨jt_7 66 rfl rfl, jw_p 54 rfl rfl⟩
abbrev Y_M_next : jY := (⟨"CitingLettersModel", "next", "()V"⟩, prog_14_method_7_code, 2, none, 6, 0, 0)
theorem mi_M_next : jMi ⟨"CitingLettersModel", "next", "()V"⟩ prog_14_method_7_code 2 none 0 := ⟨jt_7 56 rfl rfl, jt_1 13 rfl rfl, ⟨by decide +kernel, by decide +kernel, by decide +kernel⟩, by decide, by decide +kernel⟩
theorem mv_M_next : jMv ⟨"CitingLettersModel", "next", "()V"⟩ := ⟨jt_7 55 rfl rfl, jw_p 52 rfl rfl⟩
abbrev Y_M_wrong : jY := (⟨"CitingLettersModel", "wrong", "(I)V"⟩, prog_14_method_9_code, 2, none, 1, 0, 0)
theorem mi_M_wrong : jMi ⟨"CitingLettersModel", "wrong", "(I)V"⟩ prog_14_method_9_code 2 none 1 := ⟨jt_7 81 rfl rfl, jt_1 13 rfl rfl, ⟨by decide +kernel, by decide +kernel, by decide +kernel⟩, by decide, by decide +kernel⟩
theorem mv_M_wrong : jMv ⟨"CitingLettersModel", "wrong", "(I)V"⟩ := ⟨jt_7 80 rfl rfl, jw_p 56 rfl rfl⟩
abbrev Y_M_isSign : jY := (⟨"CitingLettersModel", "isSign", "(I)Z"⟩, prog_14_method_10_code, 2, (some .boolean), 1, 0, 0)
theorem mi_M_isSign : jMi ⟨"CitingLettersModel", "isSign", "(I)Z"⟩ prog_14_method_10_code 2 (some .boolean) 1 := ⟨jt_7 93 rfl rfl, jt_1 13 rfl rfl, ⟨by decide +kernel, by decide +kernel, by decide +kernel⟩, by decide, by decide +kernel⟩
theorem mv_M_isSign : jMv ⟨"CitingLettersModel", "isSign", "(I)Z"⟩ := ⟨jt_7 92 rfl rfl, jw_p 59 rfl rfl⟩
abbrev Y_M_writers : jY := (⟨"CitingLettersModel", "writers", "(I)I"⟩, prog_14_method_11_code, 3, (some .int), 7, 0, 0)
theorem mi_M_writers : jMi ⟨"CitingLettersModel", "writers", "(I)I"⟩ prog_14_method_11_code 3 (some .int) 1 := ⟨jt_7 89 rfl rfl, jt_1 13 rfl rfl, ⟨by decide +kernel, by decide +kernel, by decide +kernel⟩, by decide, by decide +kernel⟩
theorem mv_M_writers : jMv ⟨"CitingLettersModel", "writers", "(I)I"⟩ := ⟨jt_7 88 rfl rfl, jw_p 58 rfl rfl⟩
abbrev Y_M_bind : jY := (⟨"CitingLettersModel", "bind", "(I)I"⟩, prog_14_method_15_code, 1, (some .int), 1, 0, 0)
theorem mi_M_bind : jMi ⟨"CitingLettersModel", "bind", "(I)I"⟩ prog_14_method_15_code 1 (some .int) 1 := ⟨jt_7 120 rfl rfl, jt_1 13 rfl rfl, ⟨by decide +kernel, by decide +kernel, by decide +kernel⟩, by decide, by decide +kernel⟩
theorem ms_M_bind : jMs ⟨"CitingLettersModel", "bind", "(I)I"⟩ := jt_7 119 rfl rfl
abbrev Y_M_between : jY := (⟨"CitingLettersModel", "between", "()I"⟩, prog_14_method_20_code, 1, (some .int), 2, 0, 0)
theorem mi_M_between : jMi ⟨"CitingLettersModel", "between", "()I"⟩ prog_14_method_20_code 1 (some .int) 0 := ⟨jt_7 124 rfl rfl, jt_1 13 rfl rfl, ⟨by decide +kernel, by decide +kernel, by decide +kernel⟩, by decide, by decide +kernel⟩
theorem mv_M_between : jMv ⟨"CitingLettersModel", "between", "()I"⟩ := ⟨jt_7 123 rfl rfl, jw_p 66 rfl rfl⟩
abbrev Y_M_knot : jY := (⟨"CitingLettersModel", "knot", "()V"⟩, prog_14_method_16_code, 1, none, 2, 0, 0)
theorem mi_M_knot : jMi ⟨"CitingLettersModel", "knot", "()V"⟩ prog_14_method_16_code 1 none 0 := ⟨jt_7 109 rfl rfl, jt_1 13 rfl rfl, ⟨by decide +kernel, by decide +kernel, by decide +kernel⟩, by decide, by decide +kernel⟩
theorem mv_M_knot : jMv ⟨"CitingLettersModel", "knot", "()V"⟩ := ⟨jt_7 108 rfl rfl, jw_p 63 rfl rfl⟩
abbrev Y_M_out : jY := (⟨"CitingLettersModel", "out", "(II)V"⟩, prog_14_method_17_code, 3, none, 1, 0, 0)
theorem mi_M_out : jMi ⟨"CitingLettersModel", "out", "(II)V"⟩ prog_14_method_17_code 3 none 2 := ⟨jt_7 113 rfl rfl, jt_1 13 rfl rfl, ⟨by decide +kernel, by decide +kernel, by decide +kernel⟩, by decide, by decide +kernel⟩
theorem mv_M_out : jMv ⟨"CitingLettersModel", "out", "(II)V"⟩ := ⟨jt_7 112 rfl rfl, jw_p 64 rfl rfl⟩
abbrev Y_M_awaits : jY := (⟨"CitingLettersModel", "waits", "(I)V"⟩, prog_14_method_19_code, 2, none, 7, 0, 0)
theorem mi_M_awaits : jMi ⟨"CitingLettersModel", "waits", "(I)V"⟩ prog_14_method_19_code 2 none 1 := ⟨jt_7 117 rfl rfl, jt_1 13 rfl rfl, ⟨by decide +kernel, by decide +kernel, by decide +kernel⟩, by decide, by decide +kernel⟩
theorem mv_M_awaits : jMv ⟨"CitingLettersModel", "waits", "(I)V"⟩ := ⟨jt_7 116 rfl rfl, jw_p 65 rfl rfl⟩
abbrev Y_M_operand : jY := (⟨"CitingLettersModel", "operand", "()Z"⟩, prog_14_method_23_code, 2, (some .boolean), 8, 0, 0)
theorem mi_M_operand : jMi ⟨"CitingLettersModel", "operand", "()Z"⟩ prog_14_method_23_code 2 (some .boolean) 0 := ⟨jt_7 105 rfl rfl, jt_1 13 rfl rfl, ⟨by decide +kernel, by decide +kernel, by decide +kernel⟩, by decide, by decide +kernel⟩
theorem mv_M_operand : jMv ⟨"CitingLettersModel", "operand", "()Z"⟩ := ⟨jt_7 104 rfl rfl, jw_p 62 rfl rfl⟩
abbrev Y_M_pour : jY := (⟨"CitingLettersModel", "pour", "(I)V"⟩, prog_14_method_18_code, 2, none, 2, 0, 0)
theorem mi_M_pour : jMi ⟨"CitingLettersModel", "pour", "(I)V"⟩ prog_14_method_18_code 2 none 1 := ⟨jt_7 132 rfl rfl, jt_1 13 rfl rfl, ⟨by decide +kernel, by decide +kernel, by decide +kernel⟩, by decide, by decide +kernel⟩
theorem mv_M_pour : jMv ⟨"CitingLettersModel", "pour", "(I)V"⟩ := ⟨jt_7 131 rfl rfl, jw_p 68 rfl rfl⟩
abbrev Y_M_sign : jY := (⟨"CitingLettersModel", "sign", "(I)V"⟩, prog_14_method_22_code, 2, none, 8, 0, 0)
theorem mi_M_sign : jMi ⟨"CitingLettersModel", "sign", "(I)V"⟩ prog_14_method_22_code 2 none 1 := ⟨jt_7 128 rfl rfl, jt_1 13 rfl rfl, ⟨by decide +kernel, by decide +kernel, by decide +kernel⟩, by decide, by decide +kernel⟩
theorem mv_M_sign : jMv ⟨"CitingLettersModel", "sign", "(I)V"⟩ := ⟨jt_7 127 rfl rfl, jw_p 67 rfl rfl⟩
abbrev Y_M_expression : jY := (⟨"CitingLettersModel", "expression", "()V"⟩, prog_14_method_21_code, 4, none, 9, 0, 0)
theorem mi_M_expression : jMi ⟨"CitingLettersModel", "expression", "()V"⟩ prog_14_method_21_code 4 none 0 := ⟨jt_7 101 rfl rfl, jt_1 13 rfl rfl, ⟨by decide +kernel, by decide +kernel, by decide +kernel⟩, by decide, by decide +kernel⟩
theorem mv_M_expression : jMv ⟨"CitingLettersModel", "expression", "()V"⟩ := ⟨jt_7 100 rfl rfl, jw_p 61 rfl rfl⟩
abbrev Y_M_habit : jY := (⟨"CitingLettersModel", "habit", "(Z)V"⟩, prog_14_method_14_code, 3, none, 10, 0, 0)
theorem mi_M_habit : jMi ⟨"CitingLettersModel", "habit", "(Z)V"⟩ prog_14_method_14_code 3 none 1 := ⟨jt_7 97 rfl rfl, jt_1 13 rfl rfl, ⟨by decide +kernel, by decide +kernel, by decide +kernel⟩, by decide, by decide +kernel⟩
theorem mv_M_habit : jMv ⟨"CitingLettersModel", "habit", "(Z)V"⟩ := ⟨jt_7 96 rfl rfl, jw_p 60 rfl rfl⟩
abbrev Y_M_reads : jY := (⟨"CitingLettersModel", "reads", "()V"⟩, prog_14_method_13_code, 4, none, 8, 0, 0)
theorem mi_M_reads : jMi ⟨"CitingLettersModel", "reads", "()V"⟩ prog_14_method_13_code 4 none 0 := ⟨jt_7 85 rfl rfl, jt_1 13 rfl rfl, ⟨by decide +kernel, by decide +kernel, by decide +kernel⟩, by decide, by decide +kernel⟩
theorem mv_M_reads : jMv ⟨"CitingLettersModel", "reads", "()V"⟩ := ⟨jt_7 84 rfl rfl, jw_p 57 rfl rfl⟩
abbrev Y_M_line : jY := (⟨"CitingLettersModel", "line", "()V"⟩, prog_14_method_12_code, 2, none, 11, 0, 0)
theorem mi_M_line : jMi ⟨"CitingLettersModel", "line", "()V"⟩ prog_14_method_12_code 2 none 0 := ⟨jt_7 77 rfl rfl, jt_1 13 rfl rfl, ⟨by decide +kernel, by decide +kernel, by decide +kernel⟩, by decide, by decide +kernel⟩
theorem mv_M_line : jMv ⟨"CitingLettersModel", "line", "()V"⟩ := ⟨jt_7 76 rfl rfl, jw_p 55 rfl rfl⟩
abbrev Y_M_text : jY := (⟨"CitingLettersModel", "text", "(I)I"⟩, prog_14_method_24_code, 3, (some .int), 12, 0, 0)
theorem mi_M_text : jMi ⟨"CitingLettersModel", "text", "(I)I"⟩ prog_14_method_24_code 3 (some .int) 1 := ⟨jt_7 52 rfl rfl, jt_1 13 rfl rfl, ⟨by decide +kernel, by decide +kernel, by decide +kernel⟩, by decide, by decide +kernel⟩
theorem mv_M_text : jMv ⟨"CitingLettersModel", "text", "(I)I"⟩ := ⟨jt_7 50 rfl rfl, jt_7 51 rfl rfl⟩
abbrev Y_M_fault : jY := (⟨"CitingLettersModel", "fault", "(I)I"⟩, prog_14_method_25_code, 2, (some .int), 1, 0, 0)
theorem mi_M_fault : jMi ⟨"CitingLettersModel", "fault", "(I)I"⟩ prog_14_method_25_code 2 (some .int) 1 := ⟨jt_7 136 rfl rfl, jt_1 13 rfl rfl, ⟨by decide +kernel, by decide +kernel, by decide +kernel⟩, by decide, by decide +kernel⟩
theorem mv_M_fault : jMv ⟨"CitingLettersModel", "fault", "(I)I"⟩ := ⟨jt_7 134 rfl rfl, jt_7 135 rfl rfl⟩
abbrev Y_M_is : jY := (⟨"CitingLettersModel", "is", "(Z)I"⟩, prog_14_method_26_code, 1, (some .int), 1, 0, 0)
theorem mi_M_is : jMi ⟨"CitingLettersModel", "is", "(Z)I"⟩ prog_14_method_26_code 1 (some .int) 1 := ⟨jt_7 230 rfl rfl, jt_1 13 rfl rfl, ⟨by decide +kernel, by decide +kernel, by decide +kernel⟩, by decide, by decide +kernel⟩
theorem ms_M_is : jMs ⟨"CitingLettersModel", "is", "(Z)I"⟩ := jt_7 229 rfl rfl
abbrev Y_M_does : jY := (⟨"CitingLettersModel", "does", "(I)V"⟩, prog_14_method_27_code, 4, none, 2, 0, 0)
theorem mi_M_does : jMi ⟨"CitingLettersModel", "does", "(I)V"⟩ prog_14_method_27_code 4 none 1 := ⟨jt_7 238 rfl rfl, jt_1 13 rfl rfl, ⟨by decide +kernel, by decide +kernel, by decide +kernel⟩, by decide, by decide +kernel⟩
theorem mv_M_does : jMv ⟨"CitingLettersModel", "does", "(I)V"⟩ := ⟨jt_7 237 rfl rfl, jw_p 84 rfl rfl⟩
abbrev Y_M_holdsE : jY := (⟨"CitingLettersModel", "holdsE", "(I)Z"⟩, prog_14_method_28_code, 3, (some .boolean), 3, 0, 0)
theorem mi_M_holdsE : jMi ⟨"CitingLettersModel", "holdsE", "(I)Z"⟩ prog_14_method_28_code 3 (some .boolean) 1 := ⟨jt_7 234 rfl rfl, jt_1 13 rfl rfl, ⟨by decide +kernel, by decide +kernel, by decide +kernel⟩, by decide, by decide +kernel⟩
theorem mv_M_holdsE : jMv ⟨"CitingLettersModel", "holdsE", "(I)Z"⟩ := ⟨jt_7 233 rfl rfl, jw_p 83 rfl rfl⟩
abbrev Y_M_isWriter : jY := (⟨"CitingLettersModel", "isWriter", "(I)Z"⟩, prog_14_method_29_code, 1, (some .boolean), 1, 0, 0)
theorem mi_M_isWriter : jMi ⟨"CitingLettersModel", "isWriter", "(I)Z"⟩ prog_14_method_29_code 1 (some .boolean) 1 := ⟨jt_7 143 rfl rfl, jt_1 13 rfl rfl, ⟨by decide +kernel, by decide +kernel, by decide +kernel⟩, by decide, by decide +kernel⟩
theorem ms_M_isWriter : jMs ⟨"CitingLettersModel", "isWriter", "(I)Z"⟩ := jt_7 142 rfl rfl
abbrev Y_M_isLetter : jY := (⟨"CitingLettersModel", "isLetter", "(I)Z"⟩, prog_14_method_30_code, 2, (some .boolean), 1, 0, 0)
theorem mi_M_isLetter : jMi ⟨"CitingLettersModel", "isLetter", "(I)Z"⟩ prog_14_method_30_code 2 (some .boolean) 1 := ⟨jt_7 155 rfl rfl, jt_1 13 rfl rfl, ⟨by decide +kernel, by decide +kernel, by decide +kernel⟩, by decide, by decide +kernel⟩
theorem mv_M_isLetter : jMv ⟨"CitingLettersModel", "isLetter", "(I)Z"⟩ := ⟨jt_7 154 rfl rfl, jw_p 70 rfl rfl⟩
abbrev Y_M_isDay : jY := (⟨"CitingLettersModel", "isDay", "(I)Z"⟩, prog_14_method_31_code, 1, (some .boolean), 1, 0, 0)
theorem mi_M_isDay : jMi ⟨"CitingLettersModel", "isDay", "(I)Z"⟩ prog_14_method_31_code 1 (some .boolean) 1 := ⟨jt_8 114 rfl rfl, jt_1 13 rfl rfl, ⟨by decide +kernel, by decide +kernel, by decide +kernel⟩, by decide, by decide +kernel⟩
theorem ms_M_isDay : jMs ⟨"CitingLettersModel", "isDay", "(I)Z"⟩ := jt_8 113 rfl rfl
abbrev Y_M_bits : jY := (⟨"CitingLettersModel", "bits", "(I)I"⟩, prog_14_method_32_code, 3, (some .int), 1, 0, 0)
theorem mi_M_bits : jMi ⟨"CitingLettersModel", "bits", "(I)I"⟩ prog_14_method_32_code 3 (some .int) 1 := ⟨jt_7 162 rfl rfl, jt_1 13 rfl rfl, ⟨by decide +kernel, by decide +kernel, by decide +kernel⟩, by decide, by decide +kernel⟩
theorem ms_M_bits : jMs ⟨"CitingLettersModel", "bits", "(I)I"⟩ := jt_7 161 rfl rfl
abbrev Y_M_way : jY := (⟨"CitingLettersModel", "way", "(III)Z"⟩, prog_14_method_33_code, 4, (some .boolean), 2, 0, 0)
theorem mi_M_way : jMi ⟨"CitingLettersModel", "way", "(III)Z"⟩ prog_14_method_33_code 4 (some .boolean) 3 := ⟨jt_7 140 rfl rfl, jt_1 13 rfl rfl, ⟨by decide +kernel, by decide +kernel, by decide +kernel⟩, by decide, by decide +kernel⟩
theorem mv_M_way : jMv ⟨"CitingLettersModel", "way", "(III)Z"⟩ := ⟨jt_7 138 rfl rfl, jt_7 139 rfl rfl⟩
abbrev Y_M_parted : jY := (⟨"CitingLettersModel", "parted", "(III)I"⟩, prog_14_method_34_code, 4, (some .int), 1, 0, 0)
theorem mi_M_parted : jMi ⟨"CitingLettersModel", "parted", "(III)I"⟩ prog_14_method_34_code 4 (some .int) 3 := ⟨jt_7 174 rfl rfl, jt_1 13 rfl rfl, ⟨by decide +kernel, by decide +kernel, by decide +kernel⟩, by decide, by decide +kernel⟩
theorem mv_M_parted : jMv ⟨"CitingLettersModel", "parted", "(III)I"⟩ := ⟨jt_7 173 rfl rfl, jw_p 74 rfl rfl⟩
abbrev Y_M_post : jY := (⟨"CitingLettersModel", "post", "(III)V"⟩, prog_14_method_35_code, 4, none, 2, 0, 0)
theorem mi_M_post : jMi ⟨"CitingLettersModel", "post", "(III)V"⟩ prog_14_method_35_code 4 none 3 := ⟨jt_7 170 rfl rfl, jt_1 13 rfl rfl, ⟨by decide +kernel, by decide +kernel, by decide +kernel⟩, by decide, by decide +kernel⟩
theorem mv_M_post : jMv ⟨"CitingLettersModel", "post", "(III)V"⟩ := ⟨jt_7 169 rfl rfl, jw_p 73 rfl rfl⟩
abbrev Y_M_written : jY := (⟨"CitingLettersModel", "written", "(IIIII)V"⟩, prog_14_method_36_code, 8, none, 3, 0, 0)
theorem mi_M_written : jMi ⟨"CitingLettersModel", "written", "(IIIII)V"⟩ prog_14_method_36_code 8 none 5 := ⟨jt_7 166 rfl rfl, jt_1 13 rfl rfl, ⟨by decide +kernel, by decide +kernel, by decide +kernel⟩, by decide, by decide +kernel⟩
theorem mv_M_written : jMv ⟨"CitingLettersModel", "written", "(IIIII)V"⟩ := ⟨jt_7 165 rfl rfl, jw_p 72 rfl rfl⟩
abbrev Y_M_hasRoom : jY := (⟨"CitingLettersModel", "hasRoom", "(I)Z"⟩, prog_14_method_37_code, 2, (some .boolean), 2, 0, 0)
theorem mi_M_hasRoom : jMi ⟨"CitingLettersModel", "hasRoom", "(I)Z"⟩ prog_14_method_37_code 2 (some .boolean) 1 := ⟨jt_7 159 rfl rfl, jt_1 13 rfl rfl, ⟨by decide +kernel, by decide +kernel, by decide +kernel⟩, by decide, by decide +kernel⟩
theorem mv_M_hasRoom : jMv ⟨"CitingLettersModel", "hasRoom", "(I)Z"⟩ := ⟨jt_7 158 rfl rfl, jw_p 71 rfl rfl⟩
abbrev Y_M_isKnown : jY := (⟨"CitingLettersModel", "isKnown", "(II)Z"⟩, prog_14_method_38_code, 3, (some .boolean), 2, 0, 0)
theorem mi_M_isKnown : jMi ⟨"CitingLettersModel", "isKnown", "(II)Z"⟩ prog_14_method_38_code 3 (some .boolean) 2 := ⟨jt_7 151 rfl rfl, jt_1 13 rfl rfl, ⟨by decide +kernel, by decide +kernel, by decide +kernel⟩, by decide, by decide +kernel⟩
theorem mv_M_isKnown : jMv ⟨"CitingLettersModel", "isKnown", "(II)Z"⟩ := ⟨jt_7 150 rfl rfl, jw_p 69 rfl rfl⟩
abbrev Y_M_write : jY := (⟨"CitingLettersModel", "write", "(IIIII)I"⟩, prog_14_method_39_code, 6, (some .int), 4, 0, 0)
theorem mi_M_write : jMi ⟨"CitingLettersModel", "write", "(IIIII)I"⟩ prog_14_method_39_code 6 (some .int) 5 := ⟨jt_7 147 rfl rfl, jt_1 13 rfl rfl, ⟨by decide +kernel, by decide +kernel, by decide +kernel⟩, by decide, by decide +kernel⟩
theorem mv_M_write : jMv ⟨"CitingLettersModel", "write", "(IIIII)I"⟩ := ⟨jt_7 145 rfl rfl, jt_7 146 rfl rfl⟩
abbrev Y_M_isUnderWay : jY := (⟨"CitingLettersModel", "isUnderWay", "(I)Z"⟩, prog_14_method_40_code, 2, (some .boolean), 1, 0, 0)
theorem mi_M_isUnderWay : jMi ⟨"CitingLettersModel", "isUnderWay", "(I)Z"⟩ prog_14_method_40_code 2 (some .boolean) 1 := ⟨jt_7 182 rfl rfl, jt_1 13 rfl rfl, ⟨by decide +kernel, by decide +kernel, by decide +kernel⟩, by decide, by decide +kernel⟩
theorem mv_M_isUnderWay : jMv ⟨"CitingLettersModel", "isUnderWay", "(I)Z"⟩ := ⟨jt_7 181 rfl rfl, jw_p 75 rfl rfl⟩
abbrev Y_M_late : jY := (⟨"CitingLettersModel", "late", "(II)I"⟩, prog_14_method_41_code, 3, (some .int), 2, 0, 0)
theorem mi_M_late : jMi ⟨"CitingLettersModel", "late", "(II)I"⟩ prog_14_method_41_code 3 (some .int) 2 := ⟨jt_7 178 rfl rfl, jt_1 13 rfl rfl, ⟨by decide +kernel, by decide +kernel, by decide +kernel⟩, by decide, by decide +kernel⟩
theorem mv_M_late : jMv ⟨"CitingLettersModel", "late", "(II)I"⟩ := ⟨jt_7 176 rfl rfl, jt_7 177 rfl rfl⟩
abbrev Y_M_lose : jY := (⟨"CitingLettersModel", "lose", "(I)Z"⟩, prog_14_method_42_code, 2, (some .boolean), 2, 0, 0)
theorem mi_M_lose : jMi ⟨"CitingLettersModel", "lose", "(I)Z"⟩ prog_14_method_42_code 2 (some .boolean) 1 := ⟨jt_7 186 rfl rfl, jt_1 13 rfl rfl, ⟨by decide +kernel, by decide +kernel, by decide +kernel⟩, by decide, by decide +kernel⟩
theorem mv_M_lose : jMv ⟨"CitingLettersModel", "lose", "(I)Z"⟩ := ⟨jt_7 184 rfl rfl, jt_7 185 rfl rfl⟩
abbrev Y_M_again : jY := (⟨"CitingLettersModel", "again", "(III)I"⟩, prog_14_method_43_code, 4, (some .int), 3, 0, 0)
theorem mi_M_again : jMi ⟨"CitingLettersModel", "again", "(III)I"⟩ prog_14_method_43_code 4 (some .int) 3 := ⟨jt_7 190 rfl rfl, jt_1 13 rfl rfl, ⟨by decide +kernel, by decide +kernel, by decide +kernel⟩, by decide, by decide +kernel⟩
theorem mv_M_again : jMv ⟨"CitingLettersModel", "again", "(III)I"⟩ := ⟨jt_7 188 rfl rfl, jt_7 189 rfl rfl⟩
abbrev Y_M_split : jY := (⟨"CitingLettersModel", "split", "(III)Z"⟩, prog_14_method_44_code, 4, (some .boolean), 1, 0, 0)
theorem mi_M_split : jMi ⟨"CitingLettersModel", "split", "(III)Z"⟩ prog_14_method_44_code 4 (some .boolean) 3 := ⟨jt_7 194 rfl rfl, jt_1 13 rfl rfl, ⟨by decide +kernel, by decide +kernel, by decide +kernel⟩, by decide, by decide +kernel⟩
theorem mv_M_split : jMv ⟨"CitingLettersModel", "split", "(III)Z"⟩ := ⟨jt_7 192 rfl rfl, jt_7 193 rfl rfl⟩
abbrev Y_M_deskPlace : jY := (⟨"CitingLettersModel", "deskPlace", "(II)I"⟩, prog_14_method_45_code, 4, (some .int), 1, 0, 0)
theorem mi_M_deskPlace : jMi ⟨"CitingLettersModel", "deskPlace", "(II)I"⟩ prog_14_method_45_code 4 (some .int) 2 := ⟨jt_7 206 rfl rfl, jt_1 13 rfl rfl, ⟨by decide +kernel, by decide +kernel, by decide +kernel⟩, by decide, by decide +kernel⟩
theorem mv_M_deskPlace : jMv ⟨"CitingLettersModel", "deskPlace", "(II)I"⟩ := ⟨jt_7 205 rfl rfl, jw_p 77 rfl rfl⟩
abbrev Y_M_waitsFor : jY := (⟨"CitingLettersModel", "waitsFor", "(II)I"⟩, prog_14_method_46_code, 6, (some .int), 1, 0, 0)
theorem mi_M_waitsFor : jMi ⟨"CitingLettersModel", "waitsFor", "(II)I"⟩ prog_14_method_46_code 6 (some .int) 2 := ⟨jt_7 210 rfl rfl, jt_1 13 rfl rfl, ⟨by decide +kernel, by decide +kernel, by decide +kernel⟩, by decide, by decide +kernel⟩
theorem mv_M_waitsFor : jMv ⟨"CitingLettersModel", "waitsFor", "(II)I"⟩ := ⟨jt_7 209 rfl rfl, jw_p 78 rfl rfl⟩
abbrev Y_M_isBefore : jY := (⟨"CitingLettersModel", "isBefore", "(II)Z"⟩, prog_14_method_55_code, 3, (some .boolean), 1, 0, 0)
theorem mi_M_isBefore : jMi ⟨"CitingLettersModel", "isBefore", "(II)Z"⟩ prog_14_method_55_code 3 (some .boolean) 2 := ⟨jt_7 226 rfl rfl, jt_1 13 rfl rfl, ⟨by decide +kernel, by decide +kernel, by decide +kernel⟩, by decide, by decide +kernel⟩
theorem mv_M_isBefore : jMv ⟨"CitingLettersModel", "isBefore", "(II)Z"⟩ := ⟨jt_7 225 rfl rfl, jw_p 82 rfl rfl⟩
abbrev Y_M_sumOf : jY := (⟨"CitingLettersModel", "sumOf", "(I)I"⟩, prog_14_method_58_code, 5, (some .int), 2, 0, 0)
theorem mi_M_sumOf : jMi ⟨"CitingLettersModel", "sumOf", "(I)I"⟩ prog_14_method_58_code 5 (some .int) 1 := ⟨jt_7 222 rfl rfl, jt_1 13 rfl rfl, ⟨by decide +kernel, by decide +kernel, by decide +kernel⟩, by decide, by decide +kernel⟩
theorem mv_M_sumOf : jMv ⟨"CitingLettersModel", "sumOf", "(I)I"⟩ := ⟨jt_7 221 rfl rfl, jw_p 81 rfl rfl⟩
abbrev Y_M_answers : jY := (⟨"CitingLettersModel", "answers", "(III)V"⟩, prog_14_method_48_code, 5, none, 4, 0, 0)
theorem mi_M_answers : jMi ⟨"CitingLettersModel", "answers", "(III)V"⟩ prog_14_method_48_code 5 none 3 := ⟨jt_7 218 rfl rfl, jt_1 13 rfl rfl, ⟨by decide +kernel, by decide +kernel, by decide +kernel⟩, by decide, by decide +kernel⟩
theorem mv_M_answers : jMv ⟨"CitingLettersModel", "answers", "(III)V"⟩ := ⟨jt_7 217 rfl rfl, jw_p 80 rfl rfl⟩
abbrev Y_M_readsNow : jY := (⟨"CitingLettersModel", "readsNow", "(II)V"⟩, prog_14_method_47_code, 5, none, 5, 0, 0)
theorem mi_M_readsNow : jMi ⟨"CitingLettersModel", "readsNow", "(II)V"⟩ prog_14_method_47_code 5 none 2 := ⟨jt_7 214 rfl rfl, jt_1 13 rfl rfl, ⟨by decide +kernel, by decide +kernel, by decide +kernel⟩, by decide, by decide +kernel⟩
theorem mv_M_readsNow : jMv ⟨"CitingLettersModel", "readsNow", "(II)V"⟩ := ⟨jt_7 213 rfl rfl, jw_p 79 rfl rfl⟩
abbrev Y_M_goesBy : jY := (⟨"CitingLettersModel", "goesBy", "()V"⟩, prog_14_method_49_code, 4, none, 6, 0, 0)
theorem mi_M_goesBy : jMi ⟨"CitingLettersModel", "goesBy", "()V"⟩ prog_14_method_49_code 4 none 0 := ⟨jt_7 202 rfl rfl, jt_1 13 rfl rfl, ⟨by decide +kernel, by decide +kernel, by decide +kernel⟩, by decide, by decide +kernel⟩
theorem mv_M_goesBy : jMv ⟨"CitingLettersModel", "goesBy", "()V"⟩ := ⟨jt_7 201 rfl rfl, jw_p 76 rfl rfl⟩
abbrev Y_M_days : jY := (⟨"CitingLettersModel", "days", "(I)I"⟩, prog_14_method_50_code, 3, (some .int), 7, 0, 0)
theorem mi_M_days : jMi ⟨"CitingLettersModel", "days", "(I)I"⟩ prog_14_method_50_code 3 (some .int) 1 := ⟨jt_7 198 rfl rfl, jt_1 13 rfl rfl, ⟨by decide +kernel, by decide +kernel, by decide +kernel⟩, by decide, by decide +kernel⟩
theorem mv_M_days : jMv ⟨"CitingLettersModel", "days", "(I)I"⟩ := ⟨jt_7 196 rfl rfl, jt_7 197 rfl rfl⟩
abbrev Y_M_read : jY := (⟨"CitingLettersModel", "read", "(II)I"⟩, prog_14_method_51_code, 3, (some .int), 6, 0, 0)
theorem mi_M_read : jMi ⟨"CitingLettersModel", "read", "(II)I"⟩ prog_14_method_51_code 3 (some .int) 2 := ⟨jt_8 2 rfl rfl, jt_1 13 rfl rfl, ⟨by decide +kernel, by decide +kernel, by decide +kernel⟩, by decide, by decide +kernel⟩
theorem mv_M_read : jMv ⟨"CitingLettersModel", "read", "(II)I"⟩ := ⟨jt_8 0 rfl rfl, jt_8 1 rfl rfl⟩
abbrev Y_M_look : jY := (⟨"CitingLettersModel", "look", "(II)I"⟩, prog_14_method_52_code, 3, (some .int), 2, 0, 0)
theorem mi_M_look : jMi ⟨"CitingLettersModel", "look", "(II)I"⟩ prog_14_method_52_code 3 (some .int) 2 := ⟨jt_8 6 rfl rfl, jt_1 13 rfl rfl, ⟨by decide +kernel, by decide +kernel, by decide +kernel⟩, by decide, by decide +kernel⟩
theorem mv_M_look : jMv ⟨"CitingLettersModel", "look", "(II)I"⟩ := ⟨jt_8 4 rfl rfl, jt_8 5 rfl rfl⟩
abbrev Y_M_copy : jY := (⟨"CitingLettersModel", "copy", "(II)I"⟩, prog_14_method_53_code, 3, (some .int), 1, 0, 0)
theorem mi_M_copy : jMi ⟨"CitingLettersModel", "copy", "(II)I"⟩ prog_14_method_53_code 3 (some .int) 2 := ⟨jt_8 10 rfl rfl, jt_1 13 rfl rfl, ⟨by decide +kernel, by decide +kernel, by decide +kernel⟩, by decide, by decide +kernel⟩
theorem mv_M_copy : jMv ⟨"CitingLettersModel", "copy", "(II)I"⟩ := ⟨jt_8 8 rfl rfl, jt_8 9 rfl rfl⟩
abbrev Y_M_desk : jY := (⟨"CitingLettersModel", "desk", "(II)I"⟩, prog_14_method_54_code, 3, (some .int), 2, 0, 0)
theorem mi_M_desk : jMi ⟨"CitingLettersModel", "desk", "(II)I"⟩ prog_14_method_54_code 3 (some .int) 2 := ⟨jt_8 14 rfl rfl, jt_1 13 rfl rfl, ⟨by decide +kernel, by decide +kernel, by decide +kernel⟩, by decide, by decide +kernel⟩
theorem mv_M_desk : jMv ⟨"CitingLettersModel", "desk", "(II)I"⟩ := ⟨jt_8 12 rfl rfl, jt_8 13 rfl rfl⟩
abbrev Y_M_before : jY := (⟨"CitingLettersModel", "before", "(II)I"⟩, prog_14_method_56_code, 3, (some .int), 2, 0, 0)
theorem mi_M_before : jMi ⟨"CitingLettersModel", "before", "(II)I"⟩ prog_14_method_56_code 3 (some .int) 2 := ⟨jt_8 18 rfl rfl, jt_1 13 rfl rfl, ⟨by decide +kernel, by decide +kernel, by decide +kernel⟩, by decide, by decide +kernel⟩
theorem mv_M_before : jMv ⟨"CitingLettersModel", "before", "(II)I"⟩ := ⟨jt_8 16 rfl rfl, jt_8 17 rfl rfl⟩
abbrev Y_M_path : jY := (⟨"CitingLettersModel", "path", "(III)I"⟩, prog_14_method_57_code, 7, (some .int), 2, 0, 0)
theorem mi_M_path : jMi ⟨"CitingLettersModel", "path", "(III)I"⟩ prog_14_method_57_code 7 (some .int) 3 := ⟨jt_8 22 rfl rfl, jt_1 13 rfl rfl, ⟨by decide +kernel, by decide +kernel, by decide +kernel⟩, by decide, by decide +kernel⟩
theorem mv_M_path : jMv ⟨"CitingLettersModel", "path", "(III)I"⟩ := ⟨jt_8 20 rfl rfl, jt_8 21 rfl rfl⟩
abbrev Y_M_sum : jY := (⟨"CitingLettersModel", "sum", "(I)I"⟩, prog_14_method_59_code, 2, (some .int), 3, 0, 0)
theorem mi_M_sum : jMi ⟨"CitingLettersModel", "sum", "(I)I"⟩ prog_14_method_59_code 2 (some .int) 1 := ⟨jt_8 27 rfl rfl, jt_1 13 rfl rfl, ⟨by decide +kernel, by decide +kernel, by decide +kernel⟩, by decide, by decide +kernel⟩
theorem mv_M_sum : jMv ⟨"CitingLettersModel", "sum", "(I)I"⟩ := ⟨jt_8 25 rfl rfl, jt_8 26 rfl rfl⟩
abbrev Y_M_numberOf : jY := (⟨"CitingLettersModel", "numberOf", "(II)I"⟩, prog_14_method_60_code, 5, (some .int), 2, 0, 0)
theorem mi_M_numberOf : jMi ⟨"CitingLettersModel", "numberOf", "(II)I"⟩ prog_14_method_60_code 5 (some .int) 2 := ⟨jt_8 35 rfl rfl, jt_1 13 rfl rfl, ⟨by decide +kernel, by decide +kernel, by decide +kernel⟩, by decide, by decide +kernel⟩
theorem mv_M_numberOf : jMv ⟨"CitingLettersModel", "numberOf", "(II)I"⟩ := ⟨jt_8 34 rfl rfl, jw_p 85 rfl rfl⟩
abbrev Y_M_number : jY := (⟨"CitingLettersModel", "number", "(II)I"⟩, prog_14_method_61_code, 3, (some .int), 3, 0, 0)
theorem mi_M_number : jMi ⟨"CitingLettersModel", "number", "(II)I"⟩ prog_14_method_61_code 3 (some .int) 2 := ⟨jt_8 31 rfl rfl, jt_1 13 rfl rfl, ⟨by decide +kernel, by decide +kernel, by decide +kernel⟩, by decide, by decide +kernel⟩
theorem mv_M_number : jMv ⟨"CitingLettersModel", "number", "(II)I"⟩ := ⟨jt_8 29 rfl rfl, jt_8 30 rfl rfl⟩
abbrev Y_M_pair : jY := (⟨"CitingLettersModel", "pair", "(III)I"⟩, prog_14_method_62_code, 6, (some .int), 3, 0, 0)
theorem mi_M_pair : jMi ⟨"CitingLettersModel", "pair", "(III)I"⟩ prog_14_method_62_code 6 (some .int) 3 := ⟨jt_8 39 rfl rfl, jt_1 13 rfl rfl, ⟨by decide +kernel, by decide +kernel, by decide +kernel⟩, by decide, by decide +kernel⟩
theorem mv_M_pair : jMv ⟨"CitingLettersModel", "pair", "(III)I"⟩ := ⟨jt_8 37 rfl rfl, jt_8 38 rfl rfl⟩
abbrev Y_M_listOf : jY := (⟨"CitingLettersModel", "listOf", "(I)I"⟩, prog_14_method_63_code, 4, (some .int), 2, 0, 0)
theorem mi_M_listOf : jMi ⟨"CitingLettersModel", "listOf", "(I)I"⟩ prog_14_method_63_code 4 (some .int) 1 := ⟨jt_8 47 rfl rfl, jt_1 13 rfl rfl, ⟨by decide +kernel, by decide +kernel, by decide +kernel⟩, by decide, by decide +kernel⟩
theorem mv_M_listOf : jMv ⟨"CitingLettersModel", "listOf", "(I)I"⟩ := ⟨jt_8 46 rfl rfl, jw_p 86 rfl rfl⟩
abbrev Y_M_list : jY := (⟨"CitingLettersModel", "list", "(I)I"⟩, prog_14_method_64_code, 2, (some .int), 3, 0, 0)
theorem mi_M_list : jMi ⟨"CitingLettersModel", "list", "(I)I"⟩ prog_14_method_64_code 2 (some .int) 1 := ⟨jt_8 43 rfl rfl, jt_1 13 rfl rfl, ⟨by decide +kernel, by decide +kernel, by decide +kernel⟩, by decide, by decide +kernel⟩
theorem mv_M_list : jMv ⟨"CitingLettersModel", "list", "(I)I"⟩ := ⟨jt_8 41 rfl rfl, jt_8 42 rfl rfl⟩
abbrev Y_M_through : jY := (⟨"CitingLettersModel", "through", "(IIZ)V"⟩, prog_14_method_66_code, 4, none, 1, 0, 0)
theorem mi_M_through : jMi ⟨"CitingLettersModel", "through", "(IIZ)V"⟩ prog_14_method_66_code 4 none 3 := ⟨jt_8 63 rfl rfl, jt_1 13 rfl rfl, ⟨by decide +kernel, by decide +kernel, by decide +kernel⟩, by decide, by decide +kernel⟩
theorem mv_M_through : jMv ⟨"CitingLettersModel", "through", "(IIZ)V"⟩ := ⟨jt_8 62 rfl rfl, jw_p 89 rfl rfl⟩
abbrev Y_M_byAnswers : jY := (⟨"CitingLettersModel", "byAnswers", "(Z)V"⟩, prog_14_method_65_code, 3, none, 2, 0, 0)
theorem mi_M_byAnswers : jMi ⟨"CitingLettersModel", "byAnswers", "(Z)V"⟩ prog_14_method_65_code 3 none 1 := ⟨jt_8 59 rfl rfl, jt_1 13 rfl rfl, ⟨by decide +kernel, by decide +kernel, by decide +kernel⟩, by decide, by decide +kernel⟩
theorem mv_M_byAnswers : jMv ⟨"CitingLettersModel", "byAnswers", "(Z)V"⟩ := ⟨jt_8 58 rfl rfl, jw_p 88 rfl rfl⟩
abbrev Y_M_byLists : jY := (⟨"CitingLettersModel", "byLists", "()V"⟩, prog_14_method_67_code, 4, none, 3, 0, 0)
theorem mi_M_byLists : jMi ⟨"CitingLettersModel", "byLists", "()V"⟩ prog_14_method_67_code 4 none 0 := ⟨jt_8 67 rfl rfl, jt_1 13 rfl rfl, ⟨by decide +kernel, by decide +kernel, by decide +kernel⟩, by decide, by decide +kernel⟩
theorem mv_M_byLists : jMv ⟨"CitingLettersModel", "byLists", "()V"⟩ := ⟨jt_8 66 rfl rfl, jw_p 90 rfl rfl⟩
abbrev Y_M_bears : jY := (⟨"CitingLettersModel", "bears", "(I)V"⟩, prog_14_method_68_code, 2, none, 4, 0, 0)
theorem mi_M_bears : jMi ⟨"CitingLettersModel", "bears", "(I)V"⟩ prog_14_method_68_code 2 none 1 := ⟨jt_8 55 rfl rfl, jt_1 13 rfl rfl, ⟨by decide +kernel, by decide +kernel, by decide +kernel⟩, by decide, by decide +kernel⟩
theorem mv_M_bears : jMv ⟨"CitingLettersModel", "bears", "(I)V"⟩ := ⟨jt_8 54 rfl rfl, jw_p 87 rfl rfl⟩
abbrev Y_M_isTold : jY := (⟨"CitingLettersModel", "isTold", "(III)Z"⟩, prog_14_method_69_code, 4, (some .boolean), 3, 0, 0)
theorem mi_M_isTold : jMi ⟨"CitingLettersModel", "isTold", "(III)Z"⟩ prog_14_method_69_code 4 (some .boolean) 3 := ⟨jt_8 71 rfl rfl, jt_1 13 rfl rfl, ⟨by decide +kernel, by decide +kernel, by decide +kernel⟩, by decide, by decide +kernel⟩
theorem mv_M_isTold : jMv ⟨"CitingLettersModel", "isTold", "(III)Z"⟩ := ⟨jt_8 70 rfl rfl, jw_p 91 rfl rfl⟩
abbrev Y_M_tells : jY := (⟨"CitingLettersModel", "tells", "(III)I"⟩, prog_14_method_70_code, 4, (some .int), 5, 0, 0)
theorem mi_M_tells : jMi ⟨"CitingLettersModel", "tells", "(III)I"⟩ prog_14_method_70_code 4 (some .int) 3 := ⟨jt_8 51 rfl rfl, jt_1 13 rfl rfl, ⟨by decide +kernel, by decide +kernel, by decide +kernel⟩, by decide, by decide +kernel⟩
theorem mv_M_tells : jMv ⟨"CitingLettersModel", "tells", "(III)I"⟩ := ⟨jt_8 49 rfl rfl, jt_8 50 rfl rfl⟩
abbrev Y_M_errs : jY := (⟨"CitingLettersModel", "errs", "(I)I"⟩, prog_14_method_71_code, 5, (some .int), 5, 0, 0)
theorem mi_M_errs : jMi ⟨"CitingLettersModel", "errs", "(I)I"⟩ prog_14_method_71_code 5 (some .int) 1 := ⟨jt_8 75 rfl rfl, jt_1 13 rfl rfl, ⟨by decide +kernel, by decide +kernel, by decide +kernel⟩, by decide, by decide +kernel⟩
theorem mv_M_errs : jMv ⟨"CitingLettersModel", "errs", "(I)I"⟩ := ⟨jt_8 73 rfl rfl, jt_8 74 rfl rfl⟩
abbrev Y_M_isSet : jY := (⟨"CitingLettersModel", "isSet", "(I)Z"⟩, prog_14_method_72_code, 2, (some .boolean), 1, 0, 0)
theorem mi_M_isSet : jMi ⟨"CitingLettersModel", "isSet", "(I)Z"⟩ prog_14_method_72_code 2 (some .boolean) 1 := ⟨jt_8 83 rfl rfl, jt_1 13 rfl rfl, ⟨by decide +kernel, by decide +kernel, by decide +kernel⟩, by decide, by decide +kernel⟩
theorem mv_M_isSet : jMv ⟨"CitingLettersModel", "isSet", "(I)Z"⟩ := ⟨jt_8 82 rfl rfl, jw_p 92 rfl rfl⟩
abbrev Y_M_joins (dd : Nat) : jY := (⟨"CitingLettersModel", "joins", "(II)Z"⟩, prog_14_method_74_code, 4, (some .boolean), 2 + dd, 0, 0)
theorem mi_M_joins : jMi ⟨"CitingLettersModel", "joins", "(II)Z"⟩ prog_14_method_74_code 4 (some .boolean) 2 := ⟨jt_8 87 rfl rfl, jt_1 13 rfl rfl, ⟨by decide +kernel, by decide +kernel, by decide +kernel⟩, by decide, by decide +kernel⟩
theorem mv_M_joins : jMv ⟨"CitingLettersModel", "joins", "(II)Z"⟩ := ⟨jt_8 86 rfl rfl, jw_p 93 rfl rfl⟩
abbrev Y_M_chains : jY := (⟨"CitingLettersModel", "chains", "(I)I"⟩, prog_14_method_73_code, 4, (some .int), 43, 0, 0)
theorem mi_M_chains : jMi ⟨"CitingLettersModel", "chains", "(I)I"⟩ prog_14_method_73_code 4 (some .int) 1 := ⟨jt_8 79 rfl rfl, jt_1 13 rfl rfl, ⟨by decide +kernel, by decide +kernel, by decide +kernel⟩, by decide, by decide +kernel⟩
theorem mv_M_chains : jMv ⟨"CitingLettersModel", "chains", "(I)I"⟩ := ⟨jt_8 77 rfl rfl, jt_8 78 rfl rfl⟩
abbrev Y_M_waits : jY := (⟨"CitingLettersModel", "waits", "(II)I"⟩, prog_14_method_75_code, 3, (some .int), 2, 0, 0)
theorem mi_M_waits : jMi ⟨"CitingLettersModel", "waits", "(II)I"⟩ prog_14_method_75_code 3 (some .int) 2 := ⟨jt_8 91 rfl rfl, jt_1 13 rfl rfl, ⟨by decide +kernel, by decide +kernel, by decide +kernel⟩, by decide, by decide +kernel⟩
theorem mv_M_waits : jMv ⟨"CitingLettersModel", "waits", "(II)I"⟩ := ⟨jt_8 89 rfl rfl, jt_8 90 rfl rfl⟩
abbrev Y_M_isComing : jY := (⟨"CitingLettersModel", "isComing", "(II)Z"⟩, prog_14_method_76_code, 4, (some .boolean), 1, 0, 0)
theorem mi_M_isComing : jMi ⟨"CitingLettersModel", "isComing", "(II)Z"⟩ prog_14_method_76_code 4 (some .boolean) 2 := ⟨jt_8 99 rfl rfl, jt_1 13 rfl rfl, ⟨by decide +kernel, by decide +kernel, by decide +kernel⟩, by decide, by decide +kernel⟩
theorem mv_M_isComing : jMv ⟨"CitingLettersModel", "isComing", "(II)Z"⟩ := ⟨jt_8 98 rfl rfl, jw_p 94 rfl rfl⟩
abbrev Y_M_ever : jY := (⟨"CitingLettersModel", "ever", "(I)I"⟩, prog_14_method_77_code, 7, (some .int), 2, 0, 0)
theorem mi_M_ever : jMi ⟨"CitingLettersModel", "ever", "(I)I"⟩ prog_14_method_77_code 7 (some .int) 1 := ⟨jt_8 95 rfl rfl, jt_1 13 rfl rfl, ⟨by decide +kernel, by decide +kernel, by decide +kernel⟩, by decide, by decide +kernel⟩
theorem mv_M_ever : jMv ⟨"CitingLettersModel", "ever", "(I)I"⟩ := ⟨jt_8 93 rfl rfl, jt_8 94 rfl rfl⟩
abbrev Y_M_has : jY := (⟨"CitingLettersModel", "has", "(I)I"⟩, prog_14_method_78_code, 4, (some .int), 2, 0, 0)
theorem mi_M_has : jMi ⟨"CitingLettersModel", "has", "(I)I"⟩ prog_14_method_78_code 4 (some .int) 1 := ⟨jt_8 103 rfl rfl, jt_1 13 rfl rfl, ⟨by decide +kernel, by decide +kernel, by decide +kernel⟩, by decide, by decide +kernel⟩
theorem mv_M_has : jMv ⟨"CitingLettersModel", "has", "(I)I"⟩ := ⟨jt_8 101 rfl rfl, jt_8 102 rfl rfl⟩
abbrev Y_M_readOn : jY := (⟨"CitingLettersModel", "readOn", "(II)I"⟩, prog_14_method_79_code, 3, (some .int), 2, 0, 0)
theorem mi_M_readOn : jMi ⟨"CitingLettersModel", "readOn", "(II)I"⟩ prog_14_method_79_code 3 (some .int) 2 := ⟨jt_8 107 rfl rfl, jt_1 13 rfl rfl, ⟨by decide +kernel, by decide +kernel, by decide +kernel⟩, by decide, by decide +kernel⟩
theorem mv_M_readOn : jMv ⟨"CitingLettersModel", "readOn", "(II)I"⟩ := ⟨jt_8 105 rfl rfl, jt_8 106 rfl rfl⟩
abbrev Y_M_spread : jY := (⟨"CitingLettersModel", "spread", "(II)I"⟩, prog_14_method_80_code, 6, (some .int), 2, 0, 0)
theorem mi_M_spread : jMi ⟨"CitingLettersModel", "spread", "(II)I"⟩ prog_14_method_80_code 6 (some .int) 2 := ⟨jt_8 111 rfl rfl, jt_1 13 rfl rfl, ⟨by decide +kernel, by decide +kernel, by decide +kernel⟩, by decide, by decide +kernel⟩
theorem mv_M_spread : jMv ⟨"CitingLettersModel", "spread", "(II)I"⟩ := ⟨jt_8 109 rfl rfl, jt_8 110 rfl rfl⟩
abbrev Y_M_all : jY := (⟨"CitingLettersModel", "all", "(I)I"⟩, prog_14_method_81_code, 5, (some .int), 2, 0, 0)
theorem mi_M_all : jMi ⟨"CitingLettersModel", "all", "(I)I"⟩ prog_14_method_81_code 5 (some .int) 1 := ⟨jt_8 118 rfl rfl, jt_1 13 rfl rfl, ⟨by decide +kernel, by decide +kernel, by decide +kernel⟩, by decide, by decide +kernel⟩
theorem mv_M_all : jMv ⟨"CitingLettersModel", "all", "(I)I"⟩ := ⟨jt_8 116 rfl rfl, jt_8 117 rfl rfl⟩
abbrev Y_M_burn : jY := (⟨"CitingLettersModel", "burn", "(I)I"⟩, prog_14_method_82_code, 2, (some .int), 2, 0, 0)
theorem mi_M_burn : jMi ⟨"CitingLettersModel", "burn", "(I)I"⟩ prog_14_method_82_code 2 (some .int) 1 := ⟨jt_8 122 rfl rfl, jt_1 13 rfl rfl, ⟨by decide +kernel, by decide +kernel, by decide +kernel⟩, by decide, by decide +kernel⟩
theorem mv_M_burn : jMv ⟨"CitingLettersModel", "burn", "(I)I"⟩ := ⟨jt_8 120 rfl rfl, jt_8 121 rfl rfl⟩
abbrev Y_M_sums : jY := (⟨"CitingLettersModel", "sums", "()V"⟩, prog_14_method_83_code, 4, none, 1, 0, 0)
theorem mi_M_sums : jMi ⟨"CitingLettersModel", "sums", "()V"⟩ prog_14_method_83_code 4 none 0 := ⟨jt_8 130 rfl rfl, jt_1 13 rfl rfl, ⟨by decide +kernel, by decide +kernel, by decide +kernel⟩, by decide, by decide +kernel⟩
theorem mv_M_sums : jMv ⟨"CitingLettersModel", "sums", "()V"⟩ := ⟨jt_8 129 rfl rfl, jw_p 95 rfl rfl⟩
abbrev Y_M_could : jY := (⟨"CitingLettersModel", "could", "(II)I"⟩, prog_14_method_84_code, 3, (some .int), 3, 0, 0)
theorem mi_M_could : jMi ⟨"CitingLettersModel", "could", "(II)I"⟩ prog_14_method_84_code 3 (some .int) 2 := ⟨jt_8 126 rfl rfl, jt_1 13 rfl rfl, ⟨by decide +kernel, by decide +kernel, by decide +kernel⟩, by decide, by decide +kernel⟩
theorem mv_M_could : jMv ⟨"CitingLettersModel", "could", "(II)I"⟩ := ⟨jt_8 124 rfl rfl, jt_8 125 rfl rfl⟩
abbrev Y_M_listed : jY := (⟨"CitingLettersModel", "listed", "(II)I"⟩, prog_14_method_85_code, 2, (some .int), 1, 0, 0)
theorem mi_M_listed : jMi ⟨"CitingLettersModel", "listed", "(II)I"⟩ prog_14_method_85_code 2 (some .int) 2 := ⟨jt_8 145 rfl rfl, jt_1 13 rfl rfl, ⟨by decide +kernel, by decide +kernel, by decide +kernel⟩, by decide, by decide +kernel⟩
theorem ms_M_listed : jMs ⟨"CitingLettersModel", "listed", "(II)I"⟩ := jt_8 144 rfl rfl
abbrev Y_M_manyBy : jY := (⟨"CitingLettersModel", "manyBy", "(II)I"⟩, prog_14_method_86_code, 5, (some .int), 1, 0, 0)
theorem mi_M_manyBy : jMi ⟨"CitingLettersModel", "manyBy", "(II)I"⟩ prog_14_method_86_code 5 (some .int) 2 := ⟨jt_8 142 rfl rfl, jt_1 13 rfl rfl, ⟨by decide +kernel, by decide +kernel, by decide +kernel⟩, by decide, by decide +kernel⟩
theorem mv_M_manyBy : jMv ⟨"CitingLettersModel", "manyBy", "(II)I"⟩ := ⟨jt_8 141 rfl rfl, jw_p 97 rfl rfl⟩
abbrev Y_M_letterOf : jY := (⟨"CitingLettersModel", "letterOf", "(II)I"⟩, prog_14_method_87_code, 5, (some .int), 1, 0, 0)
theorem mi_M_letterOf : jMi ⟨"CitingLettersModel", "letterOf", "(II)I"⟩ prog_14_method_87_code 5 (some .int) 2 := ⟨jt_8 149 rfl rfl, jt_1 13 rfl rfl, ⟨by decide +kernel, by decide +kernel, by decide +kernel⟩, by decide, by decide +kernel⟩
theorem mv_M_letterOf : jMv ⟨"CitingLettersModel", "letterOf", "(II)I"⟩ := ⟨jt_8 148 rfl rfl, jw_p 98 rfl rfl⟩
abbrev Y_M_isMore : jY := (⟨"CitingLettersModel", "isMore", "(II)Z"⟩, prog_14_method_88_code, 4, (some .boolean), 3, 0, 0)
theorem mi_M_isMore : jMi ⟨"CitingLettersModel", "isMore", "(II)Z"⟩ prog_14_method_88_code 4 (some .boolean) 2 := ⟨jt_8 153 rfl rfl, jt_1 13 rfl rfl, ⟨by decide +kernel, by decide +kernel, by decide +kernel⟩, by decide, by decide +kernel⟩
theorem mv_M_isMore : jMv ⟨"CitingLettersModel", "isMore", "(II)Z"⟩ := ⟨jt_8 152 rfl rfl, jw_p 99 rfl rfl⟩
abbrev Y_M_forgedBy : jY := (⟨"CitingLettersModel", "forgedBy", "(III)I"⟩, prog_14_method_89_code, 6, (some .int), 4, 0, 0)
theorem mi_M_forgedBy : jMi ⟨"CitingLettersModel", "forgedBy", "(III)I"⟩ prog_14_method_89_code 6 (some .int) 3 := ⟨jt_8 138 rfl rfl, jt_1 13 rfl rfl, ⟨by decide +kernel, by decide +kernel, by decide +kernel⟩, by decide, by decide +kernel⟩
theorem mv_M_forgedBy : jMv ⟨"CitingLettersModel", "forgedBy", "(III)I"⟩ := ⟨jt_8 137 rfl rfl, jw_p 96 rfl rfl⟩
abbrev Y_M_forged : jY := (⟨"CitingLettersModel", "forged", "(III)I"⟩, prog_14_method_90_code, 4, (some .int), 5, 0, 0)
theorem mi_M_forged : jMi ⟨"CitingLettersModel", "forged", "(III)I"⟩ prog_14_method_90_code 4 (some .int) 3 := ⟨jt_8 134 rfl rfl, jt_1 13 rfl rfl, ⟨by decide +kernel, by decide +kernel, by decide +kernel⟩, by decide, by decide +kernel⟩
theorem mv_M_forged : jMv ⟨"CitingLettersModel", "forged", "(III)I"⟩ := ⟨jt_8 132 rfl rfl, jt_8 133 rfl rfl⟩
abbrev Y_M_forgers : jY := (⟨"CitingLettersModel", "forgers", "(II)I"⟩, prog_14_method_91_code, 5, (some .int), 5, 0, 0)
theorem mi_M_forgers : jMi ⟨"CitingLettersModel", "forgers", "(II)I"⟩ prog_14_method_91_code 5 (some .int) 2 := ⟨jt_8 157 rfl rfl, jt_1 13 rfl rfl, ⟨by decide +kernel, by decide +kernel, by decide +kernel⟩, by decide, by decide +kernel⟩
theorem mv_M_forgers : jMv ⟨"CitingLettersModel", "forgers", "(II)I"⟩ := ⟨jt_8 155 rfl rfl, jt_8 156 rfl rfl⟩
abbrev Y_M_leads : jY := (⟨"CitingLettersModel", "leads", "(II)Z"⟩, prog_14_method_92_code, 6, (some .boolean), 1, 0, 0)
theorem mi_M_leads : jMi ⟨"CitingLettersModel", "leads", "(II)Z"⟩ prog_14_method_92_code 6 (some .boolean) 2 := ⟨jt_8 165 rfl rfl, jt_1 13 rfl rfl, ⟨by decide +kernel, by decide +kernel, by decide +kernel⟩, by decide, by decide +kernel⟩
theorem mv_M_leads : jMv ⟨"CitingLettersModel", "leads", "(II)Z"⟩ := ⟨jt_8 164 rfl rfl, jw_p 100 rfl rfl⟩
abbrev Y_M_ahead : jY := (⟨"CitingLettersModel", "ahead", "(II)I"⟩, prog_14_method_93_code, 3, (some .int), 2, 0, 0)
theorem mi_M_ahead : jMi ⟨"CitingLettersModel", "ahead", "(II)I"⟩ prog_14_method_93_code 3 (some .int) 2 := ⟨jt_8 161 rfl rfl, jt_1 13 rfl rfl, ⟨by decide +kernel, by decide +kernel, by decide +kernel⟩, by decide, by decide +kernel⟩
theorem mv_M_ahead : jMv ⟨"CitingLettersModel", "ahead", "(II)I"⟩ := ⟨jt_8 159 rfl rfl, jt_8 160 rfl rfl⟩
abbrev Y_M_placeOf : jY := (⟨"CitingLettersModel", "placeOf", "(I)I"⟩, prog_14_method_95_code, 3, (some .int), 1, 0, 0)
theorem mi_M_placeOf : jMi ⟨"CitingLettersModel", "placeOf", "(I)I"⟩ prog_14_method_95_code 3 (some .int) 1 := ⟨jt_8 177 rfl rfl, jt_1 13 rfl rfl, ⟨by decide +kernel, by decide +kernel, by decide +kernel⟩, by decide, by decide +kernel⟩
theorem mv_M_placeOf : jMv ⟨"CitingLettersModel", "placeOf", "(I)I"⟩ := ⟨jt_8 176 rfl rfl, jw_p 102 rfl rfl⟩
abbrev Y_M_lay : jY := (⟨"CitingLettersModel", "lay", "(I)Z"⟩, prog_14_method_94_code, 4, (some .boolean), 2, 0, 0)
theorem mi_M_lay : jMi ⟨"CitingLettersModel", "lay", "(I)Z"⟩ prog_14_method_94_code 4 (some .boolean) 1 := ⟨jt_8 173 rfl rfl, jt_1 13 rfl rfl, ⟨by decide +kernel, by decide +kernel, by decide +kernel⟩, by decide, by decide +kernel⟩
theorem mv_M_lay : jMv ⟨"CitingLettersModel", "lay", "(I)Z"⟩ := ⟨jt_8 172 rfl rfl, jw_p 101 rfl rfl⟩
abbrev Y_M_countOrders : jY := (⟨"CitingLettersModel", "countOrders", "()I"⟩, prog_14_method_96_code, 4, (some .int), 1, 0, 0)
theorem mi_M_countOrders : jMi ⟨"CitingLettersModel", "countOrders", "()I"⟩ prog_14_method_96_code 4 (some .int) 0 := ⟨jt_8 181 rfl rfl, jt_1 13 rfl rfl, ⟨by decide +kernel, by decide +kernel, by decide +kernel⟩, by decide, by decide +kernel⟩
theorem mv_M_countOrders : jMv ⟨"CitingLettersModel", "countOrders", "()I"⟩ := ⟨jt_8 180 rfl rfl, jw_p 103 rfl rfl⟩
abbrev Y_M_orders : jY := (⟨"CitingLettersModel", "orders", "(I)I"⟩, prog_14_method_97_code, 2, (some .int), 3, 0, 0)
theorem mi_M_orders : jMi ⟨"CitingLettersModel", "orders", "(I)I"⟩ prog_14_method_97_code 2 (some .int) 1 := ⟨jt_8 169 rfl rfl, jt_1 13 rfl rfl, ⟨by decide +kernel, by decide +kernel, by decide +kernel⟩, by decide, by decide +kernel⟩
theorem mv_M_orders : jMv ⟨"CitingLettersModel", "orders", "(I)I"⟩ := ⟨jt_8 167 rfl rfl, jt_8 168 rfl rfl⟩
abbrev Y_M_order : jY := (⟨"CitingLettersModel", "order", "(III)I"⟩, prog_14_method_98_code, 8, (some .int), 3, 0, 0)
theorem mi_M_order : jMi ⟨"CitingLettersModel", "order", "(III)I"⟩ prog_14_method_98_code 8 (some .int) 3 := ⟨jt_8 185 rfl rfl, jt_1 13 rfl rfl, ⟨by decide +kernel, by decide +kernel, by decide +kernel⟩, by decide, by decide +kernel⟩
theorem mv_M_order : jMv ⟨"CitingLettersModel", "order", "(III)I"⟩ := ⟨jt_8 183 rfl rfl, jt_8 184 rfl rfl⟩
abbrev Y_M_firsts : jY := (⟨"CitingLettersModel", "firsts", "(II)I"⟩, prog_14_method_99_code, 5, (some .int), 2, 0, 0)
theorem mi_M_firsts : jMi ⟨"CitingLettersModel", "firsts", "(II)I"⟩ prog_14_method_99_code 5 (some .int) 2 := ⟨jt_8 193 rfl rfl, jt_1 13 rfl rfl, ⟨by decide +kernel, by decide +kernel, by decide +kernel⟩, by decide, by decide +kernel⟩
theorem mv_M_firsts : jMv ⟨"CitingLettersModel", "firsts", "(II)I"⟩ := ⟨jt_8 192 rfl rfl, jw_p 104 rfl rfl⟩
abbrev Y_M_first : jY := (⟨"CitingLettersModel", "first", "(III)I"⟩, prog_14_method_100_code, 4, (some .int), 3, 0, 0)
theorem mi_M_first : jMi ⟨"CitingLettersModel", "first", "(III)I"⟩ prog_14_method_100_code 4 (some .int) 3 := ⟨jt_8 189 rfl rfl, jt_1 13 rfl rfl, ⟨by decide +kernel, by decide +kernel, by decide +kernel⟩, by decide, by decide +kernel⟩
theorem mv_M_first : jMv ⟨"CitingLettersModel", "first", "(III)I"⟩ := ⟨jt_8 187 rfl rfl, jt_8 188 rfl rfl⟩
abbrev Y_M_ask : jY := (⟨"CitingLettersModel", "ask", "(I)I"⟩, prog_14_method_101_code, 9, (some .int), 3, 0, 0)
theorem mi_M_ask : jMi ⟨"CitingLettersModel", "ask", "(I)I"⟩ prog_14_method_101_code 9 (some .int) 1 := ⟨jt_8 197 rfl rfl, jt_1 13 rfl rfl, ⟨by decide +kernel, by decide +kernel, by decide +kernel⟩, by decide, by decide +kernel⟩
theorem mv_M_ask : jMv ⟨"CitingLettersModel", "ask", "(I)I"⟩ := ⟨jt_8 195 rfl rfl, jt_8 196 rfl rfl⟩
abbrev Y_M_hangs : jY := (⟨"CitingLettersModel", "hangs", "(II)I"⟩, prog_14_method_102_code, 7, (some .int), 2, 0, 0)
theorem mi_M_hangs : jMi ⟨"CitingLettersModel", "hangs", "(II)I"⟩ prog_14_method_102_code 7 (some .int) 2 := ⟨jt_8 201 rfl rfl, jt_1 13 rfl rfl, ⟨by decide +kernel, by decide +kernel, by decide +kernel⟩, by decide, by decide +kernel⟩
theorem mv_M_hangs : jMv ⟨"CitingLettersModel", "hangs", "(II)I"⟩ := ⟨jt_8 199 rfl rfl, jt_8 200 rfl rfl⟩
abbrev Y_M_count : jY := (⟨"CitingLettersModel", "count", "(I)I"⟩, prog_14_method_103_code, 4, (some .int), 1, 0, 0)
theorem mi_M_count : jMi ⟨"CitingLettersModel", "count", "(I)I"⟩ prog_14_method_103_code 4 (some .int) 1 := ⟨jt_8 205 rfl rfl, jt_1 13 rfl rfl, ⟨by decide +kernel, by decide +kernel, by decide +kernel⟩, by decide, by decide +kernel⟩
theorem mv_M_count : jMv ⟨"CitingLettersModel", "count", "(I)I"⟩ := ⟨jt_8 203 rfl rfl, jt_8 204 rfl rfl⟩
theorem lk_C_85 : jLk "CitingLetters" 85 ⟨"CitingLetters", "putBytes", "(I)V"⟩ := Or.inl (jt_2 206 rfl rfl)
theorem lk_C_89 : jLk "CitingLetters" 89 ⟨"CitingLetters$TextReader", "takes", "(ILCitingLetters$Habits;)Z"⟩ := Or.inl (jt_2 214 rfl rfl)
theorem lk_C_102 : jLk "CitingLetters" 102 ⟨"CitingLetters", "isWriter", "(I)Z"⟩ := Or.inl (jt_3 176 rfl rfl)
theorem lk_C_106 : jLk "CitingLetters" 106 ⟨"CitingLetters$Post", "setWay", "(III)V"⟩ := Or.inl (jt_3 179 rfl rfl)
theorem lk_C_110 : jLk "CitingLetters" 110 ⟨"CitingLetters", "isIn", "(II)Z"⟩ := Or.inl (jt_3 195 rfl rfl)
theorem lk_C_114 : jLk "CitingLetters" 114 ⟨"CitingLetters", "mayAnswer", "(IIII)Z"⟩ := Or.inl (jt_3 196 rfl rfl)
theorem lk_C_118 : jLk "CitingLetters" 118 ⟨"CitingLetters", "enter", "(IIIII)I"⟩ := Or.inl (jt_3 204 rfl rfl)
theorem lk_C_122 : jLk "CitingLetters" 122 ⟨"CitingLetters$Post", "isUnderWay", "(I)Z"⟩ := Or.inl (jt_4 8 rfl rfl)
theorem lk_C_125 : jLk "CitingLetters" 125 ⟨"CitingLetters$Post", "delay", "(II)I"⟩ := Or.inl (jt_4 16 rfl rfl)
theorem lk_C_132 : jLk "CitingLetters" 132 ⟨"CitingLetters$Ledger", "isLetter", "(I)Z"⟩ := Or.inl (jt_4 28 rfl rfl)
theorem lk_C_135 : jLk "CitingLetters" 135 ⟨"CitingLetters", "knownTo", "(I)I"⟩ := Or.inl (jt_3 200 rfl rfl)
theorem lk_C_142 : jLk "CitingLetters" 142 ⟨"CitingLetters$Post", "send", "(IIII)I"⟩ := Or.inl (jt_3 234 rfl rfl)
theorem lk_C_146 : jLk "CitingLetters" 146 ⟨"CitingLetters$Post", "setSplit", "(III)V"⟩ := Or.inl (jt_4 36 rfl rfl)
theorem lk_C_149 : jLk "CitingLetters" 149 ⟨"CitingLetters", "bringCopies", "()V"⟩ := Or.inl (jt_4 44 rfl rfl)
theorem lk_C_152 : jLk "CitingLetters" 152 ⟨"CitingLetters", "clearDesk", "(I)V"⟩ := Or.inl (jt_4 63 rfl rfl)
theorem lk_C_155 : jLk "CitingLetters" 155 ⟨"CitingLetters$Desks", "holds", "(II)Z"⟩ := Or.inl (jt_4 52 rfl rfl)
theorem lk_C_158 : jLk "CitingLetters" 158 ⟨"CitingLetters", "takeUp", "(II)V"⟩ := Or.inl (jt_4 95 rfl rfl)
theorem lk_C_195 : jLk "CitingLetters" 195 ⟨"CitingLetters$Post", "isCopy", "(I)Z"⟩ := Or.inl (jt_4 140 rfl rfl)
theorem lk_C_205 : jLk "CitingLetters" 205 ⟨"CitingLetters$Desks", "letterAt", "(II)I"⟩ := Or.inl (jt_4 79 rfl rfl)
theorem lk_C_208 : jLk "CitingLetters" 208 ⟨"CitingLetters$Ledger", "areTwo", "(II)Z"⟩ := Or.inl (jt_4 149 rfl rfl)
theorem lk_C_214 : jLk "CitingLetters" 214 ⟨"CitingLetters$Ledger", "onShortestWay", "(III)I"⟩ := Or.inl (jt_4 158 rfl rfl)
theorem lk_C_221 : jLk "CitingLetters" 221 ⟨"CitingLetters$Ledger", "numberFor", "(II)I"⟩ := Or.inl (jt_4 178 rfl rfl)
theorem lk_C_224 : jLk "CitingLetters" 224 ⟨"CitingLetters$Ledger", "numberOfNumber", "(III)I"⟩ := Or.inl (jt_4 187 rfl rfl)
theorem lk_C_230 : jLk "CitingLetters" 230 ⟨"CitingLetters", "isBearing", "(I)Z"⟩ := Or.inl (jt_4 200 rfl rfl)
theorem lk_C_233 : jLk "CitingLetters" 233 ⟨"CitingLetters$Ledger", "isTold", "(III)Z"⟩ := Or.inl (jt_4 203 rfl rfl)
theorem lk_C_237 : jLk "CitingLetters" 237 ⟨"CitingLetters", "truth", "(Z)I"⟩ := Or.inl (jt_4 207 rfl rfl)
theorem lk_C_241 : jLk "CitingLetters" 241 ⟨"CitingLetters$Ledger", "toldWrongly", "(I)I"⟩ := Or.inl (jt_4 212 rfl rfl)
theorem lk_C_244 : jLk "CitingLetters" 244 ⟨"CitingLetters$Ledger", "isSet", "(I)Z"⟩ := Or.inl (jt_4 221 rfl rfl)
theorem lk_C_247 : jLk "CitingLetters" 247 ⟨"CitingLetters$Chains", "fewest", "(I)I"⟩ := Or.inl (jt_4 225 rfl rfl)
theorem lk_C_250 : jLk "CitingLetters" 250 ⟨"CitingLetters", "missing", "(II)I"⟩ := Or.inl (jt_4 83 rfl rfl)
theorem lk_C_256 : jLk "CitingLetters" 256 ⟨"CitingLetters$Post", "onTheWayTo", "(I)I"⟩ := Or.inl (jt_5 9 rfl rfl)
theorem lk_C_262 : jLk "CitingLetters" 262 ⟨"CitingLetters", "bit", "(I)I"⟩ := Or.inl (jt_4 89 rfl rfl)
theorem lk_C_265 : jLk "CitingLetters" 265 ⟨"CitingLetters", "whoKnewBy", "(II)I"⟩ := Or.inl (jt_5 18 rfl rfl)
theorem lk_C_268 : jLk "CitingLetters" 268 ⟨"CitingLetters", "dayKnown", "(II)I"⟩ := Or.inl (jt_5 22 rfl rfl)
theorem lk_C_276 : jLk "CitingLetters" 276 ⟨"CitingLetters$Ledger", "isLeft", "(I)Z"⟩ := Or.inl (jt_5 43 rfl rfl)
theorem lk_C_282 : jLk "CitingLetters" 282 ⟨"java/lang/Integer", "bitCount", "(I)I"⟩ := Or.inl (jt_3 208 rfl rfl)
theorem lk_C_287 : jLk "CitingLetters" 287 ⟨"CitingLetters$Ledger", "citesThroughLeft", "(II)Z"⟩ := Or.inl (jt_5 51 rfl rfl)
theorem lk_C_290 : jLk "CitingLetters" 290 ⟨"CitingLetters$Doubts", "mayHaveKnown", "(II)Z"⟩ := Or.inl (jt_5 55 rfl rfl)
theorem lk_C_293 : jLk "CitingLetters" 293 ⟨"CitingLetters$Doubts", "verdict", "(III)I"⟩ := Or.inl (jt_5 63 rfl rfl)
theorem lk_C_299 : jLk "CitingLetters" 299 ⟨"CitingLetters$Orders", "goesAgainst", "(II)Z"⟩ := Or.inl (jt_5 104 rfl rfl)
theorem lk_C_302 : jLk "CitingLetters" 302 ⟨"CitingLetters$Orders", "tell", "(II)V"⟩ := Or.inl (jt_5 110 rfl rfl)
theorem lk_C_305 : jLk "CitingLetters" 305 ⟨"CitingLetters$Orders", "takesSet", "(I)Z"⟩ := Or.inl (jt_5 118 rfl rfl)
theorem lk_C_308 : jLk "CitingLetters" 308 ⟨"CitingLetters$Orders", "howMany", "()I"⟩ := Or.inl (jt_5 132 rfl rfl)
theorem lk_C_313 : jLk "CitingLetters" 313 ⟨"CitingLetters$Orders", "letterAt", "(II)I"⟩ := Or.inl (jt_5 144 rfl rfl)
theorem lk_C_314 : jLk "CitingLetters" 314 ⟨"CitingLetters$Orders", "demand", "(II)V"⟩ := Or.inl (jt_5 161 rfl rfl)
theorem lk_C_317 : jLk "CitingLetters" 317 ⟨"CitingLetters$Orders", "bestQuestion", "()I"⟩ := Or.inl (jt_5 166 rfl rfl)
theorem lk_C_320 : jLk "CitingLetters" 320 ⟨"CitingLetters$Ledger", "isTakenBack", "(I)Z"⟩ := Or.inl (jt_5 183 rfl rfl)
theorem lk_C_323 : jLk "CitingLetters" 323 ⟨"CitingLetters$Ledger", "hanging", "(IZ)I"⟩ := Or.inl (jt_5 187 rfl rfl)
theorem lk_C_328 : jLk "CitingLetters" 328 ⟨"CitingLetters$Post", "howManyUnderWay", "()I"⟩ := Or.inl (jt_5 195 rfl rfl)
theorem lk_C_331 : jLk "CitingLetters" 331 ⟨"CitingLetters$Desks", "allHeld", "()I"⟩ := Or.inl (jt_5 200 rfl rfl)
theorem lk_C_334 : jLk "CitingLetters" 334 ⟨"CitingLetters$Desks", "allRead", "()I"⟩ := Or.inl (jt_5 204 rfl rfl)
theorem lk_C_348 : jLk "CitingLetters" 348 ⟨"CitingLetters$Ledger", "add", "(IIIIIII)I"⟩ := Or.inl (jt_3 214 rfl rfl)
theorem lk_C_352 : jLk "CitingLetters" 352 ⟨"CitingLetters", "bring", "(II)V"⟩ := Or.inl (jt_4 48 rfl rfl)
theorem lk_C_355 : jLk "CitingLetters" 355 ⟨"CitingLetters$Desks", "put", "(II)V"⟩ := Or.inl (jt_4 58 rfl rfl)
theorem lk_C_358 : jLk "CitingLetters" 358 ⟨"CitingLetters", "firstThatRuleLets", "(I)I"⟩ := Or.inl (jt_4 67 rfl rfl)
theorem lk_C_361 : jLk "CitingLetters" 361 ⟨"CitingLetters$Habits", "ruleOf", "(I)LCitingLetters$Token;"⟩ := Or.inl (jt_4 71 rfl rfl)
theorem lk_C_380 : jLk "CitingLetters" 380 ⟨"CitingLetters$Ledger", "answered", "(I)I"⟩ := Or.inl (jt_4 92 rfl rfl)
theorem lk_C_386 : jLk "CitingLetters" 386 ⟨"CitingLetters$Desks", "take", "(III)V"⟩ := Or.inl (jt_4 99 rfl rfl)
theorem lk_C_392 : jLk "CitingLetters" 392 ⟨"CitingLetters", "gatherFacts", "(II)V"⟩ := Or.inl (jt_4 104 rfl rfl)
theorem lk_C_395 : jLk "CitingLetters" 395 ⟨"CitingLetters$Habits", "holds", "(I[I)Z"⟩ := Or.inl (jt_4 108 rfl rfl)
theorem lk_N_28 : jLk "CitingLetters$Chains" 28 ⟨"java/lang/Integer", "bitCount", "(I)I"⟩ := Or.inl (jt_4 229 rfl rfl)
theorem lk_N_40 : jLk "CitingLetters$Chains" 40 ⟨"CitingLetters", "isIn", "(II)Z"⟩ := Or.inr ⟨"CitingLetters", jn_4 230 rfl rfl⟩
theorem lk_N_44 : jLk "CitingLetters$Chains" 44 ⟨"CitingLetters$Chains", "putOneBehind", "(II)Z"⟩ := Or.inl (jt_4 231 rfl rfl)
theorem lk_N_47 : jLk "CitingLetters$Chains" 47 ⟨"CitingLetters", "truth", "(Z)I"⟩ := Or.inr ⟨"CitingLetters", jn_5 0 rfl rfl⟩
theorem lk_N_54 : jLk "CitingLetters$Chains" 54 ⟨"CitingLetters", "bit", "(I)I"⟩ := Or.inr ⟨"CitingLetters", jn_4 235 rfl rfl⟩
theorem lk_N_57 : jLk "CitingLetters$Chains" 57 ⟨"CitingLetters$Chains", "moveOver", "(I)V"⟩ := Or.inl (jt_4 236 rfl rfl)
theorem lk_D_29 : jLk "CitingLetters$Desks" 29 ⟨"CitingLetters", "isWriter", "(I)Z"⟩ := Or.inr ⟨"CitingLetters", jn_4 56 rfl rfl⟩
theorem lk_D_33 : jLk "CitingLetters$Desks" 33 ⟨"CitingLetters", "isIn", "(II)Z"⟩ := Or.inr ⟨"CitingLetters", jn_4 57 rfl rfl⟩
theorem lk_D_37 : jLk "CitingLetters$Desks" 37 ⟨"CitingLetters", "bit", "(I)I"⟩ := Or.inr ⟨"CitingLetters", jn_4 62 rfl rfl⟩
theorem lk_D_41 : jLk "CitingLetters$Desks" 41 ⟨"CitingLetters$Desks", "holds", "(II)Z"⟩ := Or.inl (jt_4 103 rfl rfl)
theorem lk_D_44 : jLk "CitingLetters$Desks" 44 ⟨"java/lang/Integer", "bitCount", "(I)I"⟩ := Or.inl (jt_5 208 rfl rfl)
theorem lk_U_34 : jLk "CitingLetters$Doubts" 34 ⟨"CitingLetters$Doubts", "isTooMuch", "(III)Z"⟩ := Or.inl (jt_5 67 rfl rfl)
theorem lk_U_38 : jLk "CitingLetters$Doubts" 38 ⟨"CitingLetters$Doubts", "doesLack", "(III)Z"⟩ := Or.inl (jt_5 79 rfl rfl)
theorem lk_U_41 : jLk "CitingLetters$Doubts" 41 ⟨"CitingLetters$Doubts", "goesBack", "(III)Z"⟩ := Or.inl (jt_5 92 rfl rfl)
theorem lk_U_44 : jLk "CitingLetters$Doubts" 44 ⟨"CitingLetters$Ledger", "writtenBy", "(II)I"⟩ := Or.inl (jt_5 71 rfl rfl)
theorem lk_U_48 : jLk "CitingLetters$Doubts" 48 ⟨"CitingLetters", "truth", "(Z)I"⟩ := Or.inr ⟨"CitingLetters", jn_5 75 rfl rfl⟩
theorem lk_U_52 : jLk "CitingLetters$Doubts" 52 ⟨"CitingLetters$Doubts", "numberIn", "(II)I"⟩ := Or.inl (jt_5 76 rfl rfl)
theorem lk_U_55 : jLk "CitingLetters$Doubts" 55 ⟨"CitingLetters$Ledger", "ofWriter", "(II)I"⟩ := Or.inl (jt_5 83 rfl rfl)
theorem lk_U_58 : jLk "CitingLetters$Doubts" 58 ⟨"CitingLetters$Doubts", "bearsMore", "(II)Z"⟩ := Or.inl (jt_5 87 rfl rfl)
theorem lk_U_62 : jLk "CitingLetters$Doubts" 62 ⟨"CitingLetters$Ledger", "numberFor", "(II)I"⟩ := Or.inl (jt_5 91 rfl rfl)
theorem lk_H_56 : jLk "CitingLetters$Habits" 56 ⟨"CitingLetters", "isIn", "(II)Z"⟩ := Or.inr ⟨"CitingLetters", jn_3 107 rfl rfl⟩
theorem lk_H_64 : jLk "CitingLetters$Habits" 64 ⟨"CitingLetters$Habits", "workOut", "(II[I)I"⟩ := Or.inl (jt_4 112 rfl rfl)
theorem lk_H_80 : jLk "CitingLetters$Habits" 80 ⟨"CitingLetters", "truth", "(Z)I"⟩ := Or.inr ⟨"CitingLetters", jn_4 118 rfl rfl⟩
theorem lk_H_84 : jLk "CitingLetters$Habits" 84 ⟨"CitingLetters$Habits", "joined", "(LCitingLetters$Token;II)I"⟩ := Or.inl (jt_4 121 rfl rfl)
theorem lk_L_61 : jLk "CitingLetters$Ledger" 61 ⟨"CitingLetters$Ledger", "isLetter", "(I)Z"⟩ := Or.inl (jt_4 153 rfl rfl)
theorem lk_L_68 : jLk "CitingLetters$Ledger" 68 ⟨"CitingLetters", "isIn", "(II)Z"⟩ := Or.inr ⟨"CitingLetters", jn_3 223 rfl rfl⟩
theorem lk_L_72 : jLk "CitingLetters$Ledger" 72 ⟨"CitingLetters", "bit", "(I)I"⟩ := Or.inr ⟨"CitingLetters", jn_3 228 rfl rfl⟩
theorem lk_L_76 : jLk "CitingLetters$Ledger" 76 ⟨"CitingLetters", "isWriter", "(I)Z"⟩ := Or.inr ⟨"CitingLetters", jn_3 218 rfl rfl⟩
theorem lk_L_79 : jLk "CitingLetters$Ledger" 79 ⟨"CitingLetters$Ledger", "allOf", "(I[I)I"⟩ := Or.inl (jt_3 219 rfl rfl)
theorem lk_L_83 : jLk "CitingLetters$Ledger" 83 ⟨"CitingLetters$Ledger", "answered", "(I)I"⟩ := Or.inl (jt_3 224 rfl rfl)
theorem lk_L_86 : jLk "CitingLetters$Ledger" 86 ⟨"CitingLetters$Ledger", "greatestSum", "(I)I"⟩ := Or.inl (jt_3 229 rfl rfl)
theorem lk_L_95 : jLk "CitingLetters$Ledger" 95 ⟨"java/lang/Integer", "bitCount", "(I)I"⟩ := Or.inl (jt_4 182 rfl rfl)
theorem lk_L_100 : jLk "CitingLetters$Ledger" 100 ⟨"CitingLetters$Ledger", "numberFor", "(II)I"⟩ := Or.inl (jt_4 191 rfl rfl)
theorem lk_L_103 : jLk "CitingLetters$Ledger" 103 ⟨"CitingLetters$Ledger", "isTold", "(III)Z"⟩ := Or.inl (jt_4 216 rfl rfl)
theorem lk_L_107 : jLk "CitingLetters$Ledger" 107 ⟨"CitingLetters$Ledger", "ringsRound", "(II)I"⟩ := Or.inl (jt_4 162 rfl rfl)
theorem lk_L_110 : jLk "CitingLetters$Ledger" 110 ⟨"CitingLetters$Ledger", "firstThatKnew", "(II)I"⟩ := Or.inl (jt_4 166 rfl rfl)
theorem lk_O_43 : jLk "CitingLetters$Orders" 43 ⟨"CitingLetters", "bit", "(I)I"⟩ := Or.inr ⟨"CitingLetters", jn_5 108 rfl rfl⟩
theorem lk_O_55 : jLk "CitingLetters$Orders" 55 ⟨"CitingLetters", "isIn", "(II)Z"⟩ := Or.inr ⟨"CitingLetters", jn_5 109 rfl rfl⟩
theorem lk_O_59 : jLk "CitingLetters$Orders" 59 ⟨"CitingLetters$Ledger", "isSet", "(I)Z"⟩ := Or.inl (jt_5 122 rfl rfl)
theorem lk_O_63 : jLk "CitingLetters$Orders" 63 ⟨"java/lang/Integer", "bitCount", "(I)I"⟩ := Or.inl (jt_5 123 rfl rfl)
theorem lk_O_69 : jLk "CitingLetters$Orders" 69 ⟨"CitingLetters$Orders", "placesOf", "(I)I"⟩ := Or.inl (jt_5 124 rfl rfl)
theorem lk_O_72 : jLk "CitingLetters$Orders" 72 ⟨"CitingLetters$Orders", "demand", "(II)V"⟩ := Or.inl (jt_5 128 rfl rfl)
theorem lk_O_76 : jLk "CitingLetters$Orders" 76 ⟨"CitingLetters$Orders", "mayFollow", "(II)Z"⟩ := Or.inl (jt_5 136 rfl rfl)
theorem lk_O_79 : jLk "CitingLetters$Orders" 79 ⟨"CitingLetters$Orders", "howMany", "()I"⟩ := Or.inl (jt_5 148 rfl rfl)
theorem lk_O_83 : jLk "CitingLetters$Orders" 83 ⟨"CitingLetters$Orders", "memberAt", "(II)I"⟩ := Or.inl (jt_5 149 rfl rfl)
theorem lk_O_87 : jLk "CitingLetters$Orders" 87 ⟨"CitingLetters$Orders", "waysAhead", "(II)I"⟩ := Or.inl (jt_5 153 rfl rfl)
theorem lk_O_90 : jLk "CitingLetters$Orders" 90 ⟨"CitingLetters$Orders", "countAhead", "()V"⟩ := Or.inl (jt_5 170 rfl rfl)
theorem lk_O_98 : jLk "CitingLetters$Orders" 98 ⟨"CitingLetters$Orders", "goOnFrom", "(I)V"⟩ := Or.inl (jt_5 174 rfl rfl)
theorem lk_P_39 : jLk "CitingLetters$Post" 39 ⟨"CitingLetters$Post", "isCopy", "(I)Z"⟩ := Or.inl (jt_4 12 rfl rfl)
theorem lk_P_49 : jLk "CitingLetters$Post" 49 ⟨"CitingLetters$Post", "shortenBy", "(I)V"⟩ := Or.inl (jt_3 186 rfl rfl)
theorem lk_P_68 : jLk "CitingLetters$Post" 68 ⟨"CitingLetters", "isWriter", "(I)Z"⟩ := Or.inr ⟨"CitingLetters", jn_3 238 rfl rfl⟩
theorem lk_P_71 : jLk "CitingLetters$Post" 71 ⟨"CitingLetters$Post", "throughSplit", "(III)I"⟩ := Or.inl (jt_3 239 rfl rfl)
theorem lk_P_75 : jLk "CitingLetters$Post" 75 ⟨"CitingLetters", "isIn", "(II)Z"⟩ := Or.inr ⟨"CitingLetters", jn_4 3 rfl rfl⟩
theorem lk_P_79 : jLk "CitingLetters$Post" 79 ⟨"CitingLetters", "truth", "(Z)I"⟩ := Or.inr ⟨"CitingLetters", jn_5 199 rfl rfl⟩
theorem lk_P_83 : jLk "CitingLetters$Post" 83 ⟨"CitingLetters", "bit", "(I)I"⟩ := Or.inr ⟨"CitingLetters", jn_5 13 rfl rfl⟩
theorem lk_S_40 : jLk "CitingLetters$Scanner" 40 ⟨"CitingLetters$Scanner", "isDigit", "(I)Z"⟩ := Or.inl (jt_2 225 rfl rfl)
theorem lk_S_48 : jLk "CitingLetters$Scanner" 48 ⟨"CitingLetters$Scanner", "worthOf", "(I)I"⟩ := Or.inl (jt_2 230 rfl rfl)
theorem lk_S_52 : jLk "CitingLetters$Scanner" 52 ⟨"CitingLetters$Scanner", "put", "(LCitingLetters$Token;II)V"⟩ := Or.inl (jt_2 234 rfl rfl)
theorem lk_S_56 : jLk "CitingLetters$Scanner" 56 ⟨"CitingLetters$Scanner", "endOf", "(I)I"⟩ := Or.inl (jt_2 238 rfl rfl)
theorem lk_S_59 : jLk "CitingLetters$Scanner" 59 ⟨"CitingLetters$Scanner", "spelled", "(II)LCitingLetters$Token;"⟩ := Or.inl (jt_3 8 rfl rfl)
theorem lk_S_69 : jLk "CitingLetters$Scanner" 69 ⟨"CitingLetters$Scanner", "isSmallLetter", "(I)Z"⟩ := Or.inl (jt_3 2 rfl rfl)
theorem lk_S_72 : jLk "CitingLetters$Scanner" 72 ⟨"CitingLetters$Scanner", "isOneSign", "(II)Z"⟩ := Or.inl (jt_3 5 rfl rfl)
theorem lk_S_83 : jLk "CitingLetters$Scanner" 83 ⟨"CitingLetters$Scanner", "spells", "(Ljava/lang/String;II)Z"⟩ := Or.inl (jt_3 14 rfl rfl)
theorem lk_R_45 : jLk "CitingLetters$TextReader" 45 ⟨"CitingLetters$Scanner", "cut", "(I)V"⟩ := Or.inl (jt_2 218 rfl rfl)
theorem lk_R_49 : jLk "CitingLetters$TextReader" 49 ⟨"CitingLetters$Habits", "clear", "()V"⟩ := Or.inl (jt_3 72 rfl rfl)
theorem lk_R_57 : jLk "CitingLetters$TextReader" 57 ⟨"CitingLetters$TextReader", "stepTo", "(I)V"⟩ := Or.inl (jt_3 76 rfl rfl)
theorem lk_R_66 : jLk "CitingLetters$TextReader" 66 ⟨"CitingLetters$TextReader", "takeRule", "()V"⟩ := Or.inl (jt_3 82 rfl rfl)
theorem lk_R_75 : jLk "CitingLetters$TextReader" 75 ⟨"CitingLetters$TextReader", "takeHabit", "()V"⟩ := Or.inl (jt_3 112 rfl rfl)
theorem lk_R_78 : jLk "CitingLetters$TextReader" 78 ⟨"CitingLetters$TextReader", "fail", "(I)V"⟩ := Or.inl (jt_3 86 rfl rfl)
theorem lk_R_101 : jLk "CitingLetters$TextReader" 101 ⟨"CitingLetters$TextReader", "takeWriters", "(I)I"⟩ := Or.inl (jt_3 90 rfl rfl)
theorem lk_R_108 : jLk "CitingLetters$TextReader" 108 ⟨"CitingLetters$Habits", "addRule", "(LCitingLetters$Token;I)V"⟩ := Or.inl (jt_3 103 rfl rfl)
theorem lk_R_116 : jLk "CitingLetters$TextReader" 116 ⟨"CitingLetters$TextReader", "takeExpression", "()V"⟩ := Or.inl (jt_3 116 rfl rfl)
theorem lk_R_119 : jLk "CitingLetters$TextReader" 119 ⟨"CitingLetters$TextReader", "takeBy", "()I"⟩ := Or.inl (jt_3 158 rfl rfl)
theorem lk_R_123 : jLk "CitingLetters$TextReader" 123 ⟨"CitingLetters$Habits", "addHabit", "(ZII)V"⟩ := Or.inl (jt_3 164 rfl rfl)
theorem lk_R_133 : jLk "CitingLetters$TextReader" 133 ⟨"CitingLetters", "isIn", "(II)Z"⟩ := Or.inr ⟨"CitingLetters", jn_3 95 rfl rfl⟩
theorem lk_R_137 : jLk "CitingLetters$TextReader" 137 ⟨"CitingLetters", "bit", "(I)I"⟩ := Or.inr ⟨"CitingLetters", jn_3 98 rfl rfl⟩
theorem lk_R_153 : jLk "CitingLetters$TextReader" 153 ⟨"CitingLetters$TextReader", "takeValue", "()V"⟩ := Or.inl (jt_3 120 rfl rfl)
theorem lk_R_159 : jLk "CitingLetters$TextReader" 159 ⟨"CitingLetters$TextReader", "closeBracket", "()V"⟩ := Or.inl (jt_3 146 rfl rfl)
theorem lk_R_162 : jLk "CitingLetters$TextReader" 162 ⟨"CitingLetters$TextReader", "takeJoint", "()V"⟩ := Or.inl (jt_3 154 rfl rfl)
theorem lk_R_165 : jLk "CitingLetters$TextReader" 165 ⟨"CitingLetters$TextReader", "settle", "(I)V"⟩ := Or.inl (jt_3 150 rfl rfl)
theorem lk_R_171 : jLk "CitingLetters$TextReader" 171 ⟨"CitingLetters$Habits", "addKnot", "(LCitingLetters$Token;I)V"⟩ := Or.inl (jt_3 124 rfl rfl)
theorem lk_R_177 : jLk "CitingLetters$TextReader" 177 ⟨"CitingLetters$TextReader", "openBracket", "()V"⟩ := Or.inl (jt_3 130 rfl rfl)
theorem lk_R_183 : jLk "CitingLetters$TextReader" 183 ⟨"CitingLetters$TextReader", "takePending", "()V"⟩ := Or.inl (jt_3 140 rfl rfl)
theorem lk_R_186 : jLk "CitingLetters$TextReader" 186 ⟨"CitingLetters$TextReader", "pend", "()V"⟩ := Or.inl (jt_3 134 rfl rfl)
theorem lk_M_144 : jLk "CitingLettersModel" 144 ⟨"CitingLettersModel", "here", "()I"⟩ := Or.inl (jt_7 57 rfl rfl)
theorem lk_M_154 : jLk "CitingLettersModel" 154 ⟨"CitingLettersModel", "isSmall", "(I)Z"⟩ := Or.inl (jt_7 61 rfl rfl)
theorem lk_M_158 : jLk "CitingLettersModel" 158 ⟨"CitingLettersModel", "word", "()I"⟩ := Or.inl (jt_7 64 rfl rfl)
theorem lk_M_164 : jLk "CitingLettersModel" 164 ⟨"CitingLettersModel", "isDigit", "(I)Z"⟩ := Or.inl (jt_7 71 rfl rfl)
theorem lk_M_184 : jLk "CitingLettersModel" 184 ⟨"CitingLettersModel", "wrong", "(I)V"⟩ := Or.inl (jt_7 78 rfl rfl)
theorem lk_M_188 : jLk "CitingLettersModel" 188 ⟨"CitingLettersModel", "next", "()V"⟩ := Or.inl (jt_7 53 rfl rfl)
theorem lk_M_194 : jLk "CitingLettersModel" 194 ⟨"CitingLettersModel", "reads", "()V"⟩ := Or.inl (jt_7 82 rfl rfl)
theorem lk_M_197 : jLk "CitingLettersModel" 197 ⟨"CitingLettersModel", "habit", "(Z)V"⟩ := Or.inl (jt_7 94 rfl rfl)
theorem lk_M_201 : jLk "CitingLettersModel" 201 ⟨"CitingLettersModel", "isSign", "(I)Z"⟩ := Or.inl (jt_7 90 rfl rfl)
theorem lk_M_210 : jLk "CitingLettersModel" 210 ⟨"CitingLettersModel", "writers", "(I)I"⟩ := Or.inl (jt_7 86 rfl rfl)
theorem lk_M_217 : jLk "CitingLettersModel" 217 ⟨"CitingLettersModel", "expression", "()V"⟩ := Or.inl (jt_7 98 rfl rfl)
theorem lk_M_226 : jLk "CitingLettersModel" 226 ⟨"CitingLettersModel", "bind", "(I)I"⟩ := Or.inl (jt_7 118 rfl rfl)
theorem lk_M_229 : jLk "CitingLettersModel" 229 ⟨"CitingLettersModel", "out", "(II)V"⟩ := Or.inl (jt_7 110 rfl rfl)
theorem lk_M_236 : jLk "CitingLettersModel" 236 ⟨"CitingLettersModel", "operand", "()Z"⟩ := Or.inl (jt_7 102 rfl rfl)
theorem lk_M_240 : jLk "CitingLettersModel" 240 ⟨"CitingLettersModel", "between", "()I"⟩ := Or.inl (jt_7 121 rfl rfl)
theorem lk_M_243 : jLk "CitingLettersModel" 243 ⟨"CitingLettersModel", "sign", "(I)V"⟩ := Or.inl (jt_7 125 rfl rfl)
theorem lk_M_246 : jLk "CitingLettersModel" 246 ⟨"CitingLettersModel", "pour", "(I)V"⟩ := Or.inl (jt_7 129 rfl rfl)
theorem lk_M_249 : jLk "CitingLettersModel" 249 ⟨"CitingLettersModel", "knot", "()V"⟩ := Or.inl (jt_7 106 rfl rfl)
theorem lk_M_252 : jLk "CitingLettersModel" 252 ⟨"CitingLettersModel", "waits", "(I)V"⟩ := Or.inl (jt_7 114 rfl rfl)
theorem lk_M_255 : jLk "CitingLettersModel" 255 ⟨"CitingLettersModel", "line", "()V"⟩ := Or.inl (jt_7 74 rfl rfl)
theorem lk_M_270 : jLk "CitingLettersModel" 270 ⟨"CitingLettersModel", "is", "(Z)I"⟩ := Or.inl (jt_7 228 rfl rfl)
theorem lk_M_274 : jLk "CitingLettersModel" 274 ⟨"CitingLettersModel", "does", "(I)V"⟩ := Or.inl (jt_7 235 rfl rfl)
theorem lk_M_280 : jLk "CitingLettersModel" 280 ⟨"CitingLettersModel", "isWriter", "(I)Z"⟩ := Or.inl (jt_7 141 rfl rfl)
theorem lk_M_298 : jLk "CitingLettersModel" 298 ⟨"CitingLettersModel", "parted", "(III)I"⟩ := Or.inl (jt_7 171 rfl rfl)
theorem lk_M_302 : jLk "CitingLettersModel" 302 ⟨"CitingLettersModel", "post", "(III)V"⟩ := Or.inl (jt_7 167 rfl rfl)
theorem lk_M_306 : jLk "CitingLettersModel" 306 ⟨"CitingLettersModel", "bits", "(I)I"⟩ := Or.inl (jt_7 160 rfl rfl)
theorem lk_M_309 : jLk "CitingLettersModel" 309 ⟨"CitingLettersModel", "isLetter", "(I)Z"⟩ := Or.inl (jt_7 152 rfl rfl)
theorem lk_M_312 : jLk "CitingLettersModel" 312 ⟨"CitingLettersModel", "isKnown", "(II)Z"⟩ := Or.inl (jt_7 148 rfl rfl)
theorem lk_M_316 : jLk "CitingLettersModel" 316 ⟨"CitingLettersModel", "hasRoom", "(I)Z"⟩ := Or.inl (jt_7 156 rfl rfl)
theorem lk_M_319 : jLk "CitingLettersModel" 319 ⟨"CitingLettersModel", "written", "(IIIII)V"⟩ := Or.inl (jt_7 163 rfl rfl)
theorem lk_M_323 : jLk "CitingLettersModel" 323 ⟨"CitingLettersModel", "isUnderWay", "(I)Z"⟩ := Or.inl (jt_7 179 rfl rfl)
theorem lk_M_326 : jLk "CitingLettersModel" 326 ⟨"CitingLettersModel", "deskPlace", "(II)I"⟩ := Or.inl (jt_7 203 rfl rfl)
theorem lk_M_332 : jLk "CitingLettersModel" 332 ⟨"CitingLettersModel", "answers", "(III)V"⟩ := Or.inl (jt_7 215 rfl rfl)
theorem lk_M_335 : jLk "CitingLettersModel" 335 ⟨"CitingLettersModel", "sumOf", "(I)I"⟩ := Or.inl (jt_7 219 rfl rfl)
theorem lk_M_338 : jLk "CitingLettersModel" 338 ⟨"CitingLettersModel", "holdsE", "(I)Z"⟩ := Or.inl (jt_7 231 rfl rfl)
theorem lk_M_341 : jLk "CitingLettersModel" 341 ⟨"CitingLettersModel", "waitsFor", "(II)I"⟩ := Or.inl (jt_7 207 rfl rfl)
theorem lk_M_344 : jLk "CitingLettersModel" 344 ⟨"CitingLettersModel", "readsNow", "(II)V"⟩ := Or.inl (jt_7 211 rfl rfl)
theorem lk_M_347 : jLk "CitingLettersModel" 347 ⟨"CitingLettersModel", "goesBy", "()V"⟩ := Or.inl (jt_7 199 rfl rfl)
theorem lk_M_350 : jLk "CitingLettersModel" 350 ⟨"CitingLettersModel", "isBefore", "(II)Z"⟩ := Or.inl (jt_7 223 rfl rfl)
theorem lk_M_361 : jLk "CitingLettersModel" 361 ⟨"CitingLettersModel", "numberOf", "(II)I"⟩ := Or.inl (jt_8 32 rfl rfl)
theorem lk_M_364 : jLk "CitingLettersModel" 364 ⟨"CitingLettersModel", "listOf", "(I)I"⟩ := Or.inl (jt_8 44 rfl rfl)
theorem lk_M_367 : jLk "CitingLettersModel" 367 ⟨"CitingLettersModel", "through", "(IIZ)V"⟩ := Or.inl (jt_8 60 rfl rfl)
theorem lk_M_371 : jLk "CitingLettersModel" 371 ⟨"CitingLettersModel", "byAnswers", "(Z)V"⟩ := Or.inl (jt_8 56 rfl rfl)
theorem lk_M_374 : jLk "CitingLettersModel" 374 ⟨"CitingLettersModel", "byLists", "()V"⟩ := Or.inl (jt_8 64 rfl rfl)
theorem lk_M_377 : jLk "CitingLettersModel" 377 ⟨"CitingLettersModel", "bears", "(I)V"⟩ := Or.inl (jt_8 52 rfl rfl)
theorem lk_M_380 : jLk "CitingLettersModel" 380 ⟨"CitingLettersModel", "isTold", "(III)Z"⟩ := Or.inl (jt_8 68 rfl rfl)
theorem lk_M_384 : jLk "CitingLettersModel" 384 ⟨"CitingLettersModel", "isSet", "(I)Z"⟩ := Or.inl (jt_8 80 rfl rfl)
theorem lk_M_390 : jLk "CitingLettersModel" 390 ⟨"CitingLettersModel", "joins", "(II)Z"⟩ := Or.inl (jt_8 84 rfl rfl)
theorem lk_M_393 : jLk "CitingLettersModel" 393 ⟨"CitingLettersModel", "isComing", "(II)Z"⟩ := Or.inl (jt_8 96 rfl rfl)
theorem lk_M_396 : jLk "CitingLettersModel" 396 ⟨"CitingLettersModel", "isDay", "(I)Z"⟩ := Or.inl (jt_8 112 rfl rfl)
theorem lk_M_402 : jLk "CitingLettersModel" 402 ⟨"CitingLettersModel", "sums", "()V"⟩ := Or.inl (jt_8 127 rfl rfl)
theorem lk_M_404 : jLk "CitingLettersModel" 404 ⟨"CitingLettersModel", "listed", "(II)I"⟩ := Or.inl (jt_8 143 rfl rfl)
theorem lk_M_407 : jLk "CitingLettersModel" 407 ⟨"CitingLettersModel", "manyBy", "(II)I"⟩ := Or.inl (jt_8 139 rfl rfl)
theorem lk_M_410 : jLk "CitingLettersModel" 410 ⟨"CitingLettersModel", "letterOf", "(II)I"⟩ := Or.inl (jt_8 146 rfl rfl)
theorem lk_M_413 : jLk "CitingLettersModel" 413 ⟨"CitingLettersModel", "isMore", "(II)Z"⟩ := Or.inl (jt_8 150 rfl rfl)
theorem lk_M_416 : jLk "CitingLettersModel" 416 ⟨"CitingLettersModel", "forgedBy", "(III)I"⟩ := Or.inl (jt_8 135 rfl rfl)
theorem lk_M_422 : jLk "CitingLettersModel" 422 ⟨"CitingLettersModel", "leads", "(II)Z"⟩ := Or.inl (jt_8 162 rfl rfl)
theorem lk_M_428 : jLk "CitingLettersModel" 428 ⟨"CitingLettersModel", "placeOf", "(I)I"⟩ := Or.inl (jt_8 174 rfl rfl)
theorem lk_M_431 : jLk "CitingLettersModel" 431 ⟨"CitingLettersModel", "lay", "(I)Z"⟩ := Or.inl (jt_8 170 rfl rfl)
theorem lk_M_434 : jLk "CitingLettersModel" 434 ⟨"CitingLettersModel", "countOrders", "()I"⟩ := Or.inl (jt_8 178 rfl rfl)
theorem lk_M_437 : jLk "CitingLettersModel" 437 ⟨"CitingLettersModel", "firsts", "(II)I"⟩ := Or.inl (jt_8 190 rfl rfl)
theorem fl_C_9 : jFl "CitingLetters" 9 0 0 := ⟨"CitingLetters", jTC, 13, rfl, by decide, rfl, iw_C, rfl, Or.inl (jt_2 162 rfl rfl)⟩
theorem fl_C_16 : jFl "CitingLetters" 16 0 2 := ⟨"CitingLetters", jTC, 13, rfl, by decide, rfl, iw_C, rfl, Or.inl (jt_2 164 rfl rfl)⟩
theorem fl_C_20 : jFl "CitingLetters" 20 0 3 := ⟨"CitingLetters", jTC, 13, rfl, by decide, rfl, iw_C, rfl, Or.inl (jt_2 165 rfl rfl)⟩
theorem fl_C_28 : jFl "CitingLetters" 28 0 4 := ⟨"CitingLetters", jTC, 13, rfl, by decide, rfl, iw_C, rfl, Or.inl (jt_2 166 rfl rfl)⟩
theorem fl_C_32 : jFl "CitingLetters" 32 0 5 := ⟨"CitingLetters", jTC, 13, rfl, by decide, rfl, iw_C, rfl, Or.inl (jt_2 167 rfl rfl)⟩
theorem fl_C_38 : jFl "CitingLetters" 38 0 7 := ⟨"CitingLetters", jTC, 13, rfl, by decide, rfl, iw_C, rfl, Or.inl (jt_2 169 rfl rfl)⟩
theorem fl_C_45 : jFl "CitingLetters" 45 0 8 := ⟨"CitingLetters", jTC, 13, rfl, by decide, rfl, iw_C, rfl, Or.inl (jt_2 170 rfl rfl)⟩
theorem fl_C_52 : jFl "CitingLetters" 52 0 9 := ⟨"CitingLetters", jTC, 13, rfl, by decide, rfl, iw_C, rfl, Or.inl (jt_2 171 rfl rfl)⟩
theorem fl_C_61 : jFl "CitingLetters" 61 0 10 := ⟨"CitingLetters", jTC, 13, rfl, by decide, rfl, iw_C, rfl, Or.inl (jt_2 172 rfl rfl)⟩
theorem fl_C_70 : jFl "CitingLetters" 70 0 11 := ⟨"CitingLetters", jTC, 13, rfl, by decide, rfl, iw_C, rfl, Or.inl (jt_2 173 rfl rfl)⟩
theorem fl_C_77 : jFl "CitingLetters" 77 0 12 := ⟨"CitingLetters", jTC, 13, rfl, by decide, rfl, iw_C, rfl, Or.inl (jt_2 174 rfl rfl)⟩
theorem fl_C_81 : jFl "CitingLetters" 81 0 1 := ⟨"CitingLetters", jTC, 13, rfl, by decide, rfl, iw_C, rfl, Or.inl (jt_2 163 rfl rfl)⟩
theorem fl_C_93 : jFl "CitingLetters" 93 1 2 := ⟨"CitingLetters$Habits", jTH, 13, rfl, by decide, rfl, iw_H, rfl, Or.inr ⟨"CitingLetters", jn_1 47 rfl rfl⟩⟩
theorem fl_C_96 : jFl "CitingLetters" 96 2 4 := ⟨"CitingLetters$TextReader", jTR, 13, rfl, by decide, rfl, iw_R, rfl, Or.inr ⟨"CitingLetters", jn_1 138 rfl rfl⟩⟩
theorem fl_C_99 : jFl "CitingLetters" 99 2 5 := ⟨"CitingLetters$TextReader", jTR, 13, rfl, by decide, rfl, iw_R, rfl, Or.inr ⟨"CitingLetters", jn_1 140 rfl rfl⟩⟩
theorem fl_C_129 : jFl "CitingLetters" 129 5 9 := ⟨"CitingLetters$Post", jTP, 11, rfl, by decide, rfl, iw_P, rfl, Or.inr ⟨"CitingLetters", jn_2 34 rfl rfl⟩⟩
theorem fl_C_139 : jFl "CitingLetters" 139 0 6 := ⟨"CitingLetters", jTC, 13, rfl, by decide, rfl, iw_C, rfl, Or.inl (jt_2 168 rfl rfl)⟩
theorem fl_C_162 : jFl "CitingLetters" 162 6 1 := ⟨"CitingLetters$Desks", jTD, 5, rfl, by decide, rfl, iw_D, rfl, Or.inr ⟨"CitingLetters", jn_2 69 rfl rfl⟩⟩
theorem fl_C_172 : jFl "CitingLetters" 172 4 0 := ⟨"CitingLetters$Ledger", jTL, 17, rfl, by decide, rfl, iw_L, rfl, Or.inr ⟨"CitingLetters", jn_1 183 rfl rfl⟩⟩
theorem fl_C_175 : jFl "CitingLetters" 175 4 1 := ⟨"CitingLetters$Ledger", jTL, 17, rfl, by decide, rfl, iw_L, rfl, Or.inr ⟨"CitingLetters", jn_1 186 rfl rfl⟩⟩
theorem fl_C_178 : jFl "CitingLetters" 178 4 2 := ⟨"CitingLetters$Ledger", jTL, 17, rfl, by decide, rfl, iw_L, rfl, Or.inr ⟨"CitingLetters", jn_1 188 rfl rfl⟩⟩
theorem fl_C_181 : jFl "CitingLetters" 181 4 3 := ⟨"CitingLetters$Ledger", jTL, 17, rfl, by decide, rfl, iw_L, rfl, Or.inr ⟨"CitingLetters", jn_1 190 rfl rfl⟩⟩
theorem fl_C_198 : jFl "CitingLetters" 198 5 5 := ⟨"CitingLetters$Post", jTP, 11, rfl, by decide, rfl, iw_P, rfl, Or.inr ⟨"CitingLetters", jn_2 27 rfl rfl⟩⟩
theorem fl_C_201 : jFl "CitingLetters" 201 5 7 := ⟨"CitingLetters$Post", jTP, 11, rfl, by decide, rfl, iw_P, rfl, Or.inr ⟨"CitingLetters", jn_2 30 rfl rfl⟩⟩
theorem fl_C_204 : jFl "CitingLetters" 204 5 8 := ⟨"CitingLetters$Post", jTP, 11, rfl, by decide, rfl, iw_P, rfl, Or.inr ⟨"CitingLetters", jn_2 32 rfl rfl⟩⟩
theorem fl_C_211 : jFl "CitingLetters" 211 4 7 := ⟨"CitingLetters$Ledger", jTL, 17, rfl, by decide, rfl, iw_L, rfl, Or.inr ⟨"CitingLetters", jn_1 199 rfl rfl⟩⟩
theorem fl_C_218 : jFl "CitingLetters" 218 4 11 := ⟨"CitingLetters$Ledger", jTL, 17, rfl, by decide, rfl, iw_L, rfl, Or.inr ⟨"CitingLetters", jn_1 205 rfl rfl⟩⟩
theorem fl_C_227 : jFl "CitingLetters" 227 4 9 := ⟨"CitingLetters$Ledger", jTL, 17, rfl, by decide, rfl, iw_L, rfl, Or.inr ⟨"CitingLetters", jn_1 202 rfl rfl⟩⟩
theorem fl_C_253 : jFl "CitingLetters" 253 6 2 := ⟨"CitingLetters$Desks", jTD, 5, rfl, by decide, rfl, iw_D, rfl, Or.inr ⟨"CitingLetters", jn_2 71 rfl rfl⟩⟩
theorem fl_C_259 : jFl "CitingLetters" 259 4 15 := ⟨"CitingLetters$Ledger", jTL, 17, rfl, by decide, rfl, iw_L, rfl, Or.inr ⟨"CitingLetters", jn_1 214 rfl rfl⟩⟩
theorem fl_C_279 : jFl "CitingLetters" 279 4 16 := ⟨"CitingLetters$Ledger", jTL, 17, rfl, by decide, rfl, iw_L, rfl, Or.inr ⟨"CitingLetters", jn_1 216 rfl rfl⟩⟩
theorem fl_C_296 : jFl "CitingLetters" 296 9 3 := ⟨"CitingLetters$Orders", jTO, 10, rfl, by decide, rfl, iw_O, rfl, Or.inr ⟨"CitingLetters", jn_2 133 rfl rfl⟩⟩
theorem fl_C_312 : jFl "CitingLetters" 312 9 6 := ⟨"CitingLetters$Orders", jTO, 10, rfl, by decide, rfl, iw_O, rfl, Or.inr ⟨"CitingLetters", jn_2 137 rfl rfl⟩⟩
theorem fl_C_327 : jFl "CitingLetters" 327 5 10 := ⟨"CitingLetters$Post", jTP, 11, rfl, by decide, rfl, iw_P, rfl, Or.inr ⟨"CitingLetters", jn_2 36 rfl rfl⟩⟩
theorem fl_C_337 : jFl "CitingLetters" 337 1 7 := ⟨"CitingLetters$Habits", jTH, 13, rfl, by decide, rfl, iw_H, rfl, Or.inr ⟨"CitingLetters", jn_1 56 rfl rfl⟩⟩
theorem fl_C_339 : jFl "CitingLetters" 339 1 11 := ⟨"CitingLetters$Habits", jTH, 13, rfl, by decide, rfl, iw_H, rfl, Or.inr ⟨"CitingLetters", jn_1 63 rfl rfl⟩⟩
theorem fl_C_342 : jFl "CitingLetters" 342 4 12 := ⟨"CitingLetters$Ledger", jTL, 17, rfl, by decide, rfl, iw_L, rfl, Or.inr ⟨"CitingLetters", jn_1 207 rfl rfl⟩⟩
theorem fl_C_345 : jFl "CitingLetters" 345 6 3 := ⟨"CitingLetters$Desks", jTD, 5, rfl, by decide, rfl, iw_D, rfl, Or.inr ⟨"CitingLetters", jn_2 73 rfl rfl⟩⟩
theorem fl_C_371 : jFl "CitingLetters" 371 4 13 := ⟨"CitingLetters$Ledger", jTL, 17, rfl, by decide, rfl, iw_L, rfl, Or.inr ⟨"CitingLetters", jn_1 209 rfl rfl⟩⟩
theorem fl_C_389 : jFl "CitingLetters" 389 1 4 := ⟨"CitingLetters$Habits", jTH, 13, rfl, by decide, rfl, iw_H, rfl, Or.inr ⟨"CitingLetters", jn_1 51 rfl rfl⟩⟩
theorem fl_C_398 : jFl "CitingLetters" 398 1 3 := ⟨"CitingLetters$Habits", jTH, 13, rfl, by decide, rfl, iw_H, rfl, Or.inr ⟨"CitingLetters", jn_1 49 rfl rfl⟩⟩
theorem fl_C_402 : jFl "CitingLetters" 402 6 4 := ⟨"CitingLetters$Desks", jTD, 5, rfl, by decide, rfl, iw_D, rfl, Or.inr ⟨"CitingLetters", jn_2 75 rfl rfl⟩⟩
theorem fl_N_9 : jFl "CitingLetters$Chains" 9 8 1 := ⟨"CitingLetters$Chains", jTN, 5, rfl, by decide, rfl, iw_N, rfl, Or.inl (jt_2 107 rfl rfl)⟩
theorem fl_N_15 : jFl "CitingLetters$Chains" 15 8 2 := ⟨"CitingLetters$Chains", jTN, 5, rfl, by decide, rfl, iw_N, rfl, Or.inl (jt_2 108 rfl rfl)⟩
theorem fl_N_18 : jFl "CitingLetters$Chains" 18 8 3 := ⟨"CitingLetters$Chains", jTN, 5, rfl, by decide, rfl, iw_N, rfl, Or.inl (jt_2 109 rfl rfl)⟩
theorem fl_N_21 : jFl "CitingLetters$Chains" 21 8 4 := ⟨"CitingLetters$Chains", jTN, 5, rfl, by decide, rfl, iw_N, rfl, Or.inl (jt_2 110 rfl rfl)⟩
theorem fl_N_24 : jFl "CitingLetters$Chains" 24 8 0 := ⟨"CitingLetters$Chains", jTN, 5, rfl, by decide, rfl, iw_N, rfl, Or.inl (jt_2 106 rfl rfl)⟩
theorem fl_N_34 : jFl "CitingLetters$Chains" 34 4 15 := ⟨"CitingLetters$Ledger", jTL, 17, rfl, by decide, rfl, iw_L, rfl, Or.inr ⟨"CitingLetters", jn_1 212 rfl rfl⟩⟩
theorem fl_N_51 : jFl "CitingLetters$Chains" 51 4 7 := ⟨"CitingLetters$Ledger", jTL, 17, rfl, by decide, rfl, iw_L, rfl, Or.inr ⟨"CitingLetters", jn_1 198 rfl rfl⟩⟩
theorem fl_D_11 : jFl "CitingLetters$Desks" 11 6 0 := ⟨"CitingLetters$Desks", jTD, 5, rfl, by decide, rfl, iw_D, rfl, Or.inl (jt_2 67 rfl rfl)⟩
theorem fl_D_16 : jFl "CitingLetters$Desks" 16 6 1 := ⟨"CitingLetters$Desks", jTD, 5, rfl, by decide, rfl, iw_D, rfl, Or.inl (jt_2 68 rfl rfl)⟩
theorem fl_D_20 : jFl "CitingLetters$Desks" 20 6 2 := ⟨"CitingLetters$Desks", jTD, 5, rfl, by decide, rfl, iw_D, rfl, Or.inl (jt_2 70 rfl rfl)⟩
theorem fl_D_23 : jFl "CitingLetters$Desks" 23 6 3 := ⟨"CitingLetters$Desks", jTD, 5, rfl, by decide, rfl, iw_D, rfl, Or.inl (jt_2 72 rfl rfl)⟩
theorem fl_D_26 : jFl "CitingLetters$Desks" 26 6 4 := ⟨"CitingLetters$Desks", jTD, 5, rfl, by decide, rfl, iw_D, rfl, Or.inl (jt_2 74 rfl rfl)⟩
theorem fl_U_9 : jFl "CitingLetters$Doubts" 9 7 0 := ⟨"CitingLetters$Doubts", jTU, 2, rfl, by decide, rfl, iw_U, rfl, Or.inl (jt_2 93 rfl rfl)⟩
theorem fl_U_15 : jFl "CitingLetters$Doubts" 15 7 1 := ⟨"CitingLetters$Doubts", jTU, 2, rfl, by decide, rfl, iw_U, rfl, Or.inl (jt_2 94 rfl rfl)⟩
theorem fl_U_19 : jFl "CitingLetters$Doubts" 19 4 0 := ⟨"CitingLetters$Ledger", jTL, 17, rfl, by decide, rfl, iw_L, rfl, Or.inr ⟨"CitingLetters", jn_1 182 rfl rfl⟩⟩
theorem fl_U_25 : jFl "CitingLetters$Doubts" 25 4 1 := ⟨"CitingLetters$Ledger", jTL, 17, rfl, by decide, rfl, iw_L, rfl, Or.inr ⟨"CitingLetters", jn_1 185 rfl rfl⟩⟩
theorem fl_U_28 : jFl "CitingLetters$Doubts" 28 5 1 := ⟨"CitingLetters$Post", jTP, 11, rfl, by decide, rfl, iw_P, rfl, Or.inr ⟨"CitingLetters", jn_2 22 rfl rfl⟩⟩
theorem fl_H_11 : jFl "CitingLetters$Habits" 11 1 0 := ⟨"CitingLetters$Habits", jTH, 13, rfl, by decide, rfl, iw_H, rfl, Or.inl (jt_1 43 rfl rfl)⟩
theorem fl_H_17 : jFl "CitingLetters$Habits" 17 1 3 := ⟨"CitingLetters$Habits", jTH, 13, rfl, by decide, rfl, iw_H, rfl, Or.inl (jt_1 48 rfl rfl)⟩
theorem fl_H_21 : jFl "CitingLetters$Habits" 21 1 4 := ⟨"CitingLetters$Habits", jTH, 13, rfl, by decide, rfl, iw_H, rfl, Or.inl (jt_1 50 rfl rfl)⟩
theorem fl_H_25 : jFl "CitingLetters$Habits" 25 1 5 := ⟨"CitingLetters$Habits", jTH, 13, rfl, by decide, rfl, iw_H, rfl, Or.inl (jt_1 52 rfl rfl)⟩
theorem fl_H_28 : jFl "CitingLetters$Habits" 28 1 6 := ⟨"CitingLetters$Habits", jTH, 13, rfl, by decide, rfl, iw_H, rfl, Or.inl (jt_1 53 rfl rfl)⟩
theorem fl_H_31 : jFl "CitingLetters$Habits" 31 1 8 := ⟨"CitingLetters$Habits", jTH, 13, rfl, by decide, rfl, iw_H, rfl, Or.inl (jt_1 57 rfl rfl)⟩
theorem fl_H_34 : jFl "CitingLetters$Habits" 34 1 9 := ⟨"CitingLetters$Habits", jTH, 13, rfl, by decide, rfl, iw_H, rfl, Or.inl (jt_1 58 rfl rfl)⟩
theorem fl_H_37 : jFl "CitingLetters$Habits" 37 1 12 := ⟨"CitingLetters$Habits", jTH, 13, rfl, by decide, rfl, iw_H, rfl, Or.inl (jt_1 64 rfl rfl)⟩
theorem fl_H_40 : jFl "CitingLetters$Habits" 40 1 1 := ⟨"CitingLetters$Habits", jTH, 13, rfl, by decide, rfl, iw_H, rfl, Or.inl (jt_1 44 rfl rfl)⟩
theorem fl_H_44 : jFl "CitingLetters$Habits" 44 1 2 := ⟨"CitingLetters$Habits", jTH, 13, rfl, by decide, rfl, iw_H, rfl, Or.inl (jt_1 46 rfl rfl)⟩
theorem fl_H_47 : jFl "CitingLetters$Habits" 47 1 7 := ⟨"CitingLetters$Habits", jTH, 13, rfl, by decide, rfl, iw_H, rfl, Or.inl (jt_1 54 rfl rfl)⟩
theorem fl_H_50 : jFl "CitingLetters$Habits" 50 1 10 := ⟨"CitingLetters$Habits", jTH, 13, rfl, by decide, rfl, iw_H, rfl, Or.inl (jt_1 59 rfl rfl)⟩
theorem fl_H_53 : jFl "CitingLetters$Habits" 53 1 11 := ⟨"CitingLetters$Habits", jTH, 13, rfl, by decide, rfl, iw_H, rfl, Or.inl (jt_1 61 rfl rfl)⟩
theorem fl_L_9 : jFl "CitingLetters$Ledger" 9 4 0 := ⟨"CitingLetters$Ledger", jTL, 17, rfl, by decide, rfl, iw_L, rfl, Or.inl (jt_1 181 rfl rfl)⟩
theorem fl_L_15 : jFl "CitingLetters$Ledger" 15 4 1 := ⟨"CitingLetters$Ledger", jTL, 17, rfl, by decide, rfl, iw_L, rfl, Or.inl (jt_1 184 rfl rfl)⟩
theorem fl_L_18 : jFl "CitingLetters$Ledger" 18 4 2 := ⟨"CitingLetters$Ledger", jTL, 17, rfl, by decide, rfl, iw_L, rfl, Or.inl (jt_1 187 rfl rfl)⟩
theorem fl_L_21 : jFl "CitingLetters$Ledger" 21 4 3 := ⟨"CitingLetters$Ledger", jTL, 17, rfl, by decide, rfl, iw_L, rfl, Or.inl (jt_1 189 rfl rfl)⟩
theorem fl_L_24 : jFl "CitingLetters$Ledger" 24 4 4 := ⟨"CitingLetters$Ledger", jTL, 17, rfl, by decide, rfl, iw_L, rfl, Or.inl (jt_1 191 rfl rfl)⟩
theorem fl_L_27 : jFl "CitingLetters$Ledger" 27 4 5 := ⟨"CitingLetters$Ledger", jTL, 17, rfl, by decide, rfl, iw_L, rfl, Or.inl (jt_1 193 rfl rfl)⟩
theorem fl_L_30 : jFl "CitingLetters$Ledger" 30 4 6 := ⟨"CitingLetters$Ledger", jTL, 17, rfl, by decide, rfl, iw_L, rfl, Or.inl (jt_1 195 rfl rfl)⟩
theorem fl_L_33 : jFl "CitingLetters$Ledger" 33 4 7 := ⟨"CitingLetters$Ledger", jTL, 17, rfl, by decide, rfl, iw_L, rfl, Or.inl (jt_1 196 rfl rfl)⟩
theorem fl_L_36 : jFl "CitingLetters$Ledger" 36 4 8 := ⟨"CitingLetters$Ledger", jTL, 17, rfl, by decide, rfl, iw_L, rfl, Or.inl (jt_1 200 rfl rfl)⟩
theorem fl_L_39 : jFl "CitingLetters$Ledger" 39 4 9 := ⟨"CitingLetters$Ledger", jTL, 17, rfl, by decide, rfl, iw_L, rfl, Or.inl (jt_1 201 rfl rfl)⟩
theorem fl_L_42 : jFl "CitingLetters$Ledger" 42 4 10 := ⟨"CitingLetters$Ledger", jTL, 17, rfl, by decide, rfl, iw_L, rfl, Or.inl (jt_1 203 rfl rfl)⟩
theorem fl_L_45 : jFl "CitingLetters$Ledger" 45 4 11 := ⟨"CitingLetters$Ledger", jTL, 17, rfl, by decide, rfl, iw_L, rfl, Or.inl (jt_1 204 rfl rfl)⟩
theorem fl_L_48 : jFl "CitingLetters$Ledger" 48 4 12 := ⟨"CitingLetters$Ledger", jTL, 17, rfl, by decide, rfl, iw_L, rfl, Or.inl (jt_1 206 rfl rfl)⟩
theorem fl_L_51 : jFl "CitingLetters$Ledger" 51 4 13 := ⟨"CitingLetters$Ledger", jTL, 17, rfl, by decide, rfl, iw_L, rfl, Or.inl (jt_1 208 rfl rfl)⟩
theorem fl_L_54 : jFl "CitingLetters$Ledger" 54 4 14 := ⟨"CitingLetters$Ledger", jTL, 17, rfl, by decide, rfl, iw_L, rfl, Or.inl (jt_1 210 rfl rfl)⟩
theorem fl_L_57 : jFl "CitingLetters$Ledger" 57 4 15 := ⟨"CitingLetters$Ledger", jTL, 17, rfl, by decide, rfl, iw_L, rfl, Or.inl (jt_1 211 rfl rfl)⟩
theorem fl_L_65 : jFl "CitingLetters$Ledger" 65 4 16 := ⟨"CitingLetters$Ledger", jTL, 17, rfl, by decide, rfl, iw_L, rfl, Or.inl (jt_1 215 rfl rfl)⟩
theorem fl_O_9 : jFl "CitingLetters$Orders" 9 9 1 := ⟨"CitingLetters$Orders", jTO, 10, rfl, by decide, rfl, iw_O, rfl, Or.inl (jt_2 130 rfl rfl)⟩
theorem fl_O_15 : jFl "CitingLetters$Orders" 15 9 2 := ⟨"CitingLetters$Orders", jTO, 10, rfl, by decide, rfl, iw_O, rfl, Or.inl (jt_2 131 rfl rfl)⟩
theorem fl_O_18 : jFl "CitingLetters$Orders" 18 9 4 := ⟨"CitingLetters$Orders", jTO, 10, rfl, by decide, rfl, iw_O, rfl, Or.inl (jt_2 134 rfl rfl)⟩
theorem fl_O_21 : jFl "CitingLetters$Orders" 21 9 5 := ⟨"CitingLetters$Orders", jTO, 10, rfl, by decide, rfl, iw_O, rfl, Or.inl (jt_2 135 rfl rfl)⟩
theorem fl_O_24 : jFl "CitingLetters$Orders" 24 9 7 := ⟨"CitingLetters$Orders", jTO, 10, rfl, by decide, rfl, iw_O, rfl, Or.inl (jt_2 138 rfl rfl)⟩
theorem fl_O_27 : jFl "CitingLetters$Orders" 27 9 8 := ⟨"CitingLetters$Orders", jTO, 10, rfl, by decide, rfl, iw_O, rfl, Or.inl (jt_2 139 rfl rfl)⟩
theorem fl_O_32 : jFl "CitingLetters$Orders" 32 9 9 := ⟨"CitingLetters$Orders", jTO, 10, rfl, by decide, rfl, iw_O, rfl, Or.inl (jt_2 140 rfl rfl)⟩
theorem fl_O_35 : jFl "CitingLetters$Orders" 35 9 0 := ⟨"CitingLetters$Orders", jTO, 10, rfl, by decide, rfl, iw_O, rfl, Or.inl (jt_2 129 rfl rfl)⟩
theorem fl_O_39 : jFl "CitingLetters$Orders" 39 9 3 := ⟨"CitingLetters$Orders", jTO, 10, rfl, by decide, rfl, iw_O, rfl, Or.inl (jt_2 132 rfl rfl)⟩
theorem fl_O_47 : jFl "CitingLetters$Orders" 47 4 15 := ⟨"CitingLetters$Ledger", jTL, 17, rfl, by decide, rfl, iw_L, rfl, Or.inr ⟨"CitingLetters", jn_1 213 rfl rfl⟩⟩
theorem fl_O_52 : jFl "CitingLetters$Orders" 52 4 7 := ⟨"CitingLetters$Ledger", jTL, 17, rfl, by decide, rfl, iw_L, rfl, Or.inr ⟨"CitingLetters", jn_1 197 rfl rfl⟩⟩
theorem fl_O_68 : jFl "CitingLetters$Orders" 68 9 6 := ⟨"CitingLetters$Orders", jTO, 10, rfl, by decide, rfl, iw_O, rfl, Or.inl (jt_2 136 rfl rfl)⟩
theorem fl_P_11 : jFl "CitingLetters$Post" 11 5 0 := ⟨"CitingLetters$Post", jTP, 11, rfl, by decide, rfl, iw_P, rfl, Or.inl (jt_2 20 rfl rfl)⟩
theorem fl_P_16 : jFl "CitingLetters$Post" 16 5 1 := ⟨"CitingLetters$Post", jTP, 11, rfl, by decide, rfl, iw_P, rfl, Or.inl (jt_2 21 rfl rfl)⟩
theorem fl_P_19 : jFl "CitingLetters$Post" 19 5 5 := ⟨"CitingLetters$Post", jTP, 11, rfl, by decide, rfl, iw_P, rfl, Or.inl (jt_2 26 rfl rfl)⟩
theorem fl_P_23 : jFl "CitingLetters$Post" 23 5 6 := ⟨"CitingLetters$Post", jTP, 11, rfl, by decide, rfl, iw_P, rfl, Or.inl (jt_2 28 rfl rfl)⟩
theorem fl_P_26 : jFl "CitingLetters$Post" 26 5 7 := ⟨"CitingLetters$Post", jTP, 11, rfl, by decide, rfl, iw_P, rfl, Or.inl (jt_2 29 rfl rfl)⟩
theorem fl_P_29 : jFl "CitingLetters$Post" 29 5 8 := ⟨"CitingLetters$Post", jTP, 11, rfl, by decide, rfl, iw_P, rfl, Or.inl (jt_2 31 rfl rfl)⟩
theorem fl_P_32 : jFl "CitingLetters$Post" 32 5 9 := ⟨"CitingLetters$Post", jTP, 11, rfl, by decide, rfl, iw_P, rfl, Or.inl (jt_2 33 rfl rfl)⟩
theorem fl_P_35 : jFl "CitingLetters$Post" 35 5 10 := ⟨"CitingLetters$Post", jTP, 11, rfl, by decide, rfl, iw_P, rfl, Or.inl (jt_2 35 rfl rfl)⟩
theorem fl_P_59 : jFl "CitingLetters$Post" 59 5 2 := ⟨"CitingLetters$Post", jTP, 11, rfl, by decide, rfl, iw_P, rfl, Or.inl (jt_2 23 rfl rfl)⟩
theorem fl_P_62 : jFl "CitingLetters$Post" 62 5 3 := ⟨"CitingLetters$Post", jTP, 11, rfl, by decide, rfl, iw_P, rfl, Or.inl (jt_2 24 rfl rfl)⟩
theorem fl_P_65 : jFl "CitingLetters$Post" 65 5 4 := ⟨"CitingLetters$Post", jTP, 11, rfl, by decide, rfl, iw_P, rfl, Or.inl (jt_2 25 rfl rfl)⟩
theorem fl_S_11 : jFl "CitingLetters$Scanner" 11 3 2 := ⟨"CitingLetters$Scanner", jTS, 6, rfl, by decide, rfl, iw_S, rfl, Or.inl (jt_1 112 rfl rfl)⟩
theorem fl_S_17 : jFl "CitingLetters$Scanner" 17 3 3 := ⟨"CitingLetters$Scanner", jTS, 6, rfl, by decide, rfl, iw_S, rfl, Or.inl (jt_1 114 rfl rfl)⟩
theorem fl_S_21 : jFl "CitingLetters$Scanner" 21 3 4 := ⟨"CitingLetters$Scanner", jTS, 6, rfl, by decide, rfl, iw_S, rfl, Or.inl (jt_1 116 rfl rfl)⟩
theorem fl_S_24 : jFl "CitingLetters$Scanner" 24 3 0 := ⟨"CitingLetters$Scanner", jTS, 6, rfl, by decide, rfl, iw_S, rfl, Or.inl (jt_1 110 rfl rfl)⟩
theorem fl_S_33 : jFl "CitingLetters$Scanner" 33 3 1 := ⟨"CitingLetters$Scanner", jTS, 6, rfl, by decide, rfl, iw_S, rfl, Or.inl (jt_1 111 rfl rfl)⟩
theorem fl_S_37 : jFl "CitingLetters$Scanner" 37 3 5 := ⟨"CitingLetters$Scanner", jTS, 6, rfl, by decide, rfl, iw_S, rfl, Or.inl (jt_1 118 rfl rfl)⟩
theorem fl_R_15 : jFl "CitingLetters$TextReader" 15 2 2 := ⟨"CitingLetters$TextReader", jTR, 13, rfl, by decide, rfl, iw_R, rfl, Or.inl (jt_1 135 rfl rfl)⟩
theorem fl_R_20 : jFl "CitingLetters$TextReader" 20 2 5 := ⟨"CitingLetters$TextReader", jTR, 13, rfl, by decide, rfl, iw_R, rfl, Or.inl (jt_1 139 rfl rfl)⟩
theorem fl_R_24 : jFl "CitingLetters$TextReader" 24 2 7 := ⟨"CitingLetters$TextReader", jTR, 13, rfl, by decide, rfl, iw_R, rfl, Or.inl (jt_1 142 rfl rfl)⟩
theorem fl_R_28 : jFl "CitingLetters$TextReader" 28 2 10 := ⟨"CitingLetters$TextReader", jTR, 13, rfl, by decide, rfl, iw_R, rfl, Or.inl (jt_1 145 rfl rfl)⟩
theorem fl_R_37 : jFl "CitingLetters$TextReader" 37 2 0 := ⟨"CitingLetters$TextReader", jTR, 13, rfl, by decide, rfl, iw_R, rfl, Or.inl (jt_1 133 rfl rfl)⟩
theorem fl_R_41 : jFl "CitingLetters$TextReader" 41 2 6 := ⟨"CitingLetters$TextReader", jTR, 13, rfl, by decide, rfl, iw_R, rfl, Or.inl (jt_1 141 rfl rfl)⟩
theorem fl_R_54 : jFl "CitingLetters$TextReader" 54 2 4 := ⟨"CitingLetters$TextReader", jTR, 13, rfl, by decide, rfl, iw_R, rfl, Or.inl (jt_1 137 rfl rfl)⟩
theorem fl_R_60 : jFl "CitingLetters$TextReader" 60 3 5 := ⟨"CitingLetters$Scanner", jTS, 6, rfl, by decide, rfl, iw_S, rfl, Or.inr ⟨"CitingLetters", jn_1 119 rfl rfl⟩⟩
theorem fl_R_81 : jFl "CitingLetters$TextReader" 81 2 1 := ⟨"CitingLetters$TextReader", jTR, 13, rfl, by decide, rfl, iw_R, rfl, Or.inl (jt_1 134 rfl rfl)⟩
theorem fl_R_84 : jFl "CitingLetters$TextReader" 84 3 2 := ⟨"CitingLetters$Scanner", jTS, 6, rfl, by decide, rfl, iw_S, rfl, Or.inr ⟨"CitingLetters", jn_1 113 rfl rfl⟩⟩
theorem fl_R_86 : jFl "CitingLetters$TextReader" 86 3 4 := ⟨"CitingLetters$Scanner", jTS, 6, rfl, by decide, rfl, iw_S, rfl, Or.inr ⟨"CitingLetters", jn_1 117 rfl rfl⟩⟩
theorem fl_R_90 : jFl "CitingLetters$TextReader" 90 2 3 := ⟨"CitingLetters$TextReader", jTR, 13, rfl, by decide, rfl, iw_R, rfl, Or.inl (jt_1 136 rfl rfl)⟩
theorem fl_R_92 : jFl "CitingLetters$TextReader" 92 3 3 := ⟨"CitingLetters$Scanner", jTS, 6, rfl, by decide, rfl, iw_S, rfl, Or.inr ⟨"CitingLetters", jn_1 115 rfl rfl⟩⟩
theorem fl_R_98 : jFl "CitingLetters$TextReader" 98 1 1 := ⟨"CitingLetters$Habits", jTH, 13, rfl, by decide, rfl, iw_H, rfl, Or.inr ⟨"CitingLetters", jn_1 45 rfl rfl⟩⟩
theorem fl_R_112 : jFl "CitingLetters$TextReader" 112 1 7 := ⟨"CitingLetters$Habits", jTH, 13, rfl, by decide, rfl, iw_H, rfl, Or.inr ⟨"CitingLetters", jn_1 55 rfl rfl⟩⟩
theorem fl_R_113 : jFl "CitingLetters$TextReader" 113 1 10 := ⟨"CitingLetters$Habits", jTH, 13, rfl, by decide, rfl, iw_H, rfl, Or.inr ⟨"CitingLetters", jn_1 60 rfl rfl⟩⟩
theorem fl_R_140 : jFl "CitingLetters$TextReader" 140 2 8 := ⟨"CitingLetters$TextReader", jTR, 13, rfl, by decide, rfl, iw_R, rfl, Or.inl (jt_1 143 rfl rfl)⟩
theorem fl_R_143 : jFl "CitingLetters$TextReader" 143 2 9 := ⟨"CitingLetters$TextReader", jTR, 13, rfl, by decide, rfl, iw_R, rfl, Or.inl (jt_1 144 rfl rfl)⟩
theorem fl_R_146 : jFl "CitingLetters$TextReader" 146 2 11 := ⟨"CitingLetters$TextReader", jTR, 13, rfl, by decide, rfl, iw_R, rfl, Or.inl (jt_1 146 rfl rfl)⟩
theorem fl_R_150 : jFl "CitingLetters$TextReader" 150 2 12 := ⟨"CitingLetters$TextReader", jTR, 13, rfl, by decide, rfl, iw_R, rfl, Or.inl (jt_1 147 rfl rfl)⟩
theorem fl_R_168 : jFl "CitingLetters$TextReader" 168 1 11 := ⟨"CitingLetters$Habits", jTH, 13, rfl, by decide, rfl, iw_H, rfl, Or.inr ⟨"CitingLetters", jn_1 62 rfl rfl⟩⟩
theorem fl_M_7 : jFl "CitingLettersModel" 7 10 1 := ⟨"CitingLettersModel", jTM, 71, rfl, by decide, rfl, iw_M, rfl, Or.inl (jt_6 68 rfl rfl)⟩
theorem fl_M_13 : jFl "CitingLettersModel" 13 10 3 := ⟨"CitingLettersModel", jTM, 71, rfl, by decide, rfl, iw_M, rfl, Or.inl (jt_6 70 rfl rfl)⟩
theorem fl_M_16 : jFl "CitingLettersModel" 16 10 4 := ⟨"CitingLettersModel", jTM, 71, rfl, by decide, rfl, iw_M, rfl, Or.inl (jt_6 71 rfl rfl)⟩
theorem fl_M_19 : jFl "CitingLettersModel" 19 10 8 := ⟨"CitingLettersModel", jTM, 71, rfl, by decide, rfl, iw_M, rfl, Or.inl (jt_6 75 rfl rfl)⟩
theorem fl_M_23 : jFl "CitingLettersModel" 23 10 9 := ⟨"CitingLettersModel", jTM, 71, rfl, by decide, rfl, iw_M, rfl, Or.inl (jt_6 76 rfl rfl)⟩
theorem fl_M_26 : jFl "CitingLettersModel" 26 10 10 := ⟨"CitingLettersModel", jTM, 71, rfl, by decide, rfl, iw_M, rfl, Or.inl (jt_6 77 rfl rfl)⟩
theorem fl_M_29 : jFl "CitingLettersModel" 29 10 13 := ⟨"CitingLettersModel", jTM, 71, rfl, by decide, rfl, iw_M, rfl, Or.inl (jt_6 80 rfl rfl)⟩
theorem fl_M_32 : jFl "CitingLettersModel" 32 10 24 := ⟨"CitingLettersModel", jTM, 71, rfl, by decide, rfl, iw_M, rfl, Or.inl (jt_6 91 rfl rfl)⟩
theorem fl_M_36 : jFl "CitingLettersModel" 36 10 25 := ⟨"CitingLettersModel", jTM, 71, rfl, by decide, rfl, iw_M, rfl, Or.inl (jt_6 92 rfl rfl)⟩
theorem fl_M_39 : jFl "CitingLettersModel" 39 10 28 := ⟨"CitingLettersModel", jTM, 71, rfl, by decide, rfl, iw_M, rfl, Or.inl (jt_6 95 rfl rfl)⟩
theorem fl_M_42 : jFl "CitingLettersModel" 42 10 29 := ⟨"CitingLettersModel", jTM, 71, rfl, by decide, rfl, iw_M, rfl, Or.inl (jt_6 96 rfl rfl)⟩
theorem fl_M_45 : jFl "CitingLettersModel" 45 10 32 := ⟨"CitingLettersModel", jTM, 71, rfl, by decide, rfl, iw_M, rfl, Or.inl (jt_6 99 rfl rfl)⟩
theorem fl_M_48 : jFl "CitingLettersModel" 48 10 34 := ⟨"CitingLettersModel", jTM, 71, rfl, by decide, rfl, iw_M, rfl, Or.inl (jt_6 101 rfl rfl)⟩
theorem fl_M_51 : jFl "CitingLettersModel" 51 10 35 := ⟨"CitingLettersModel", jTM, 71, rfl, by decide, rfl, iw_M, rfl, Or.inl (jt_6 102 rfl rfl)⟩
theorem fl_M_54 : jFl "CitingLettersModel" 54 10 36 := ⟨"CitingLettersModel", jTM, 71, rfl, by decide, rfl, iw_M, rfl, Or.inl (jt_6 103 rfl rfl)⟩
theorem fl_M_57 : jFl "CitingLettersModel" 57 10 37 := ⟨"CitingLettersModel", jTM, 71, rfl, by decide, rfl, iw_M, rfl, Or.inl (jt_6 104 rfl rfl)⟩
theorem fl_M_60 : jFl "CitingLettersModel" 60 10 38 := ⟨"CitingLettersModel", jTM, 71, rfl, by decide, rfl, iw_M, rfl, Or.inl (jt_6 105 rfl rfl)⟩
theorem fl_M_63 : jFl "CitingLettersModel" 63 10 39 := ⟨"CitingLettersModel", jTM, 71, rfl, by decide, rfl, iw_M, rfl, Or.inl (jt_6 106 rfl rfl)⟩
theorem fl_M_66 : jFl "CitingLettersModel" 66 10 40 := ⟨"CitingLettersModel", jTM, 71, rfl, by decide, rfl, iw_M, rfl, Or.inl (jt_6 107 rfl rfl)⟩
theorem fl_M_69 : jFl "CitingLettersModel" 69 10 41 := ⟨"CitingLettersModel", jTM, 71, rfl, by decide, rfl, iw_M, rfl, Or.inl (jt_6 108 rfl rfl)⟩
theorem fl_M_72 : jFl "CitingLettersModel" 72 10 42 := ⟨"CitingLettersModel", jTM, 71, rfl, by decide, rfl, iw_M, rfl, Or.inl (jt_6 109 rfl rfl)⟩
theorem fl_M_75 : jFl "CitingLettersModel" 75 10 45 := ⟨"CitingLettersModel", jTM, 71, rfl, by decide, rfl, iw_M, rfl, Or.inl (jt_6 112 rfl rfl)⟩
theorem fl_M_78 : jFl "CitingLettersModel" 78 10 46 := ⟨"CitingLettersModel", jTM, 71, rfl, by decide, rfl, iw_M, rfl, Or.inl (jt_6 113 rfl rfl)⟩
theorem fl_M_81 : jFl "CitingLettersModel" 81 10 47 := ⟨"CitingLettersModel", jTM, 71, rfl, by decide, rfl, iw_M, rfl, Or.inl (jt_6 114 rfl rfl)⟩
theorem fl_M_84 : jFl "CitingLettersModel" 84 10 48 := ⟨"CitingLettersModel", jTM, 71, rfl, by decide, rfl, iw_M, rfl, Or.inl (jt_6 115 rfl rfl)⟩
theorem fl_M_87 : jFl "CitingLettersModel" 87 10 49 := ⟨"CitingLettersModel", jTM, 71, rfl, by decide, rfl, iw_M, rfl, Or.inl (jt_6 116 rfl rfl)⟩
theorem fl_M_90 : jFl "CitingLettersModel" 90 10 53 := ⟨"CitingLettersModel", jTM, 71, rfl, by decide, rfl, iw_M, rfl, Or.inl (jt_6 120 rfl rfl)⟩
theorem fl_M_93 : jFl "CitingLettersModel" 93 10 54 := ⟨"CitingLettersModel", jTM, 71, rfl, by decide, rfl, iw_M, rfl, Or.inl (jt_6 121 rfl rfl)⟩
theorem fl_M_96 : jFl "CitingLettersModel" 96 10 55 := ⟨"CitingLettersModel", jTM, 71, rfl, by decide, rfl, iw_M, rfl, Or.inl (jt_6 122 rfl rfl)⟩
theorem fl_M_99 : jFl "CitingLettersModel" 99 10 56 := ⟨"CitingLettersModel", jTM, 71, rfl, by decide, rfl, iw_M, rfl, Or.inl (jt_6 123 rfl rfl)⟩
theorem fl_M_102 : jFl "CitingLettersModel" 102 10 58 := ⟨"CitingLettersModel", jTM, 71, rfl, by decide, rfl, iw_M, rfl, Or.inl (jt_6 125 rfl rfl)⟩
theorem fl_M_105 : jFl "CitingLettersModel" 105 10 59 := ⟨"CitingLettersModel", jTM, 71, rfl, by decide, rfl, iw_M, rfl, Or.inl (jt_6 126 rfl rfl)⟩
theorem fl_M_108 : jFl "CitingLettersModel" 108 10 60 := ⟨"CitingLettersModel", jTM, 71, rfl, by decide, rfl, iw_M, rfl, Or.inl (jt_6 127 rfl rfl)⟩
theorem fl_M_111 : jFl "CitingLettersModel" 111 10 61 := ⟨"CitingLettersModel", jTM, 71, rfl, by decide, rfl, iw_M, rfl, Or.inl (jt_6 128 rfl rfl)⟩
theorem fl_M_114 : jFl "CitingLettersModel" 114 10 63 := ⟨"CitingLettersModel", jTM, 71, rfl, by decide, rfl, iw_M, rfl, Or.inl (jt_6 130 rfl rfl)⟩
theorem fl_M_117 : jFl "CitingLettersModel" 117 10 65 := ⟨"CitingLettersModel", jTM, 71, rfl, by decide, rfl, iw_M, rfl, Or.inl (jt_6 132 rfl rfl)⟩
theorem fl_M_120 : jFl "CitingLettersModel" 120 10 66 := ⟨"CitingLettersModel", jTM, 71, rfl, by decide, rfl, iw_M, rfl, Or.inl (jt_6 133 rfl rfl)⟩
theorem fl_M_123 : jFl "CitingLettersModel" 123 10 68 := ⟨"CitingLettersModel", jTM, 71, rfl, by decide, rfl, iw_M, rfl, Or.inl (jt_6 135 rfl rfl)⟩
theorem fl_M_126 : jFl "CitingLettersModel" 126 10 69 := ⟨"CitingLettersModel", jTM, 71, rfl, by decide, rfl, iw_M, rfl, Or.inl (jt_6 136 rfl rfl)⟩
theorem fl_M_129 : jFl "CitingLettersModel" 129 10 70 := ⟨"CitingLettersModel", jTM, 71, rfl, by decide, rfl, iw_M, rfl, Or.inl (jt_6 137 rfl rfl)⟩
theorem fl_M_132 : jFl "CitingLettersModel" 132 10 0 := ⟨"CitingLettersModel", jTM, 71, rfl, by decide, rfl, iw_M, rfl, Or.inl (jt_6 67 rfl rfl)⟩
theorem fl_M_135 : jFl "CitingLettersModel" 135 10 2 := ⟨"CitingLettersModel", jTM, 71, rfl, by decide, rfl, iw_M, rfl, Or.inl (jt_6 69 rfl rfl)⟩
theorem fl_M_138 : jFl "CitingLettersModel" 138 10 17 := ⟨"CitingLettersModel", jTM, 71, rfl, by decide, rfl, iw_M, rfl, Or.inl (jt_6 84 rfl rfl)⟩
theorem fl_M_141 : jFl "CitingLettersModel" 141 10 16 := ⟨"CitingLettersModel", jTM, 71, rfl, by decide, rfl, iw_M, rfl, Or.inl (jt_6 83 rfl rfl)⟩
theorem fl_M_148 : jFl "CitingLettersModel" 148 10 18 := ⟨"CitingLettersModel", jTM, 71, rfl, by decide, rfl, iw_M, rfl, Or.inl (jt_6 85 rfl rfl)⟩
theorem fl_M_151 : jFl "CitingLettersModel" 151 10 19 := ⟨"CitingLettersModel", jTM, 71, rfl, by decide, rfl, iw_M, rfl, Or.inl (jt_6 86 rfl rfl)⟩
theorem fl_M_161 : jFl "CitingLettersModel" 161 10 20 := ⟨"CitingLettersModel", jTM, 71, rfl, by decide, rfl, iw_M, rfl, Or.inl (jt_6 87 rfl rfl)⟩
theorem fl_M_178 : jFl "CitingLettersModel" 178 10 21 := ⟨"CitingLettersModel", jTM, 71, rfl, by decide, rfl, iw_M, rfl, Or.inl (jt_6 88 rfl rfl)⟩
theorem fl_M_181 : jFl "CitingLettersModel" 181 10 22 := ⟨"CitingLettersModel", jTM, 71, rfl, by decide, rfl, iw_M, rfl, Or.inl (jt_6 89 rfl rfl)⟩
theorem fl_M_191 : jFl "CitingLettersModel" 191 10 12 := ⟨"CitingLettersModel", jTM, 71, rfl, by decide, rfl, iw_M, rfl, Or.inl (jt_6 79 rfl rfl)⟩
theorem fl_M_204 : jFl "CitingLettersModel" 204 10 15 := ⟨"CitingLettersModel", jTM, 71, rfl, by decide, rfl, iw_M, rfl, Or.inl (jt_6 82 rfl rfl)⟩
theorem fl_M_207 : jFl "CitingLettersModel" 207 10 14 := ⟨"CitingLettersModel", jTM, 71, rfl, by decide, rfl, iw_M, rfl, Or.inl (jt_6 81 rfl rfl)⟩
theorem fl_M_214 : jFl "CitingLettersModel" 214 10 5 := ⟨"CitingLettersModel", jTM, 71, rfl, by decide, rfl, iw_M, rfl, Or.inl (jt_6 72 rfl rfl)⟩
theorem fl_M_220 : jFl "CitingLettersModel" 220 10 7 := ⟨"CitingLettersModel", jTM, 71, rfl, by decide, rfl, iw_M, rfl, Or.inl (jt_6 74 rfl rfl)⟩
theorem fl_M_223 : jFl "CitingLettersModel" 223 10 26 := ⟨"CitingLettersModel", jTM, 71, rfl, by decide, rfl, iw_M, rfl, Or.inl (jt_6 93 rfl rfl)⟩
theorem fl_M_233 : jFl "CitingLettersModel" 233 10 27 := ⟨"CitingLettersModel", jTM, 71, rfl, by decide, rfl, iw_M, rfl, Or.inl (jt_6 94 rfl rfl)⟩
theorem fl_M_258 : jFl "CitingLettersModel" 258 10 23 := ⟨"CitingLettersModel", jTM, 71, rfl, by decide, rfl, iw_M, rfl, Or.inl (jt_6 90 rfl rfl)⟩
theorem fl_M_261 : jFl "CitingLettersModel" 261 10 11 := ⟨"CitingLettersModel", jTM, 71, rfl, by decide, rfl, iw_M, rfl, Or.inl (jt_6 78 rfl rfl)⟩
theorem fl_M_264 : jFl "CitingLettersModel" 264 10 6 := ⟨"CitingLettersModel", jTM, 71, rfl, by decide, rfl, iw_M, rfl, Or.inl (jt_6 73 rfl rfl)⟩
theorem fl_M_267 : jFl "CitingLettersModel" 267 10 30 := ⟨"CitingLettersModel", jTM, 71, rfl, by decide, rfl, iw_M, rfl, Or.inl (jt_6 97 rfl rfl)⟩
theorem fl_M_277 : jFl "CitingLettersModel" 277 10 33 := ⟨"CitingLettersModel", jTM, 71, rfl, by decide, rfl, iw_M, rfl, Or.inl (jt_6 100 rfl rfl)⟩
theorem fl_M_283 : jFl "CitingLettersModel" 283 10 50 := ⟨"CitingLettersModel", jTM, 71, rfl, by decide, rfl, iw_M, rfl, Or.inl (jt_6 117 rfl rfl)⟩
theorem fl_M_286 : jFl "CitingLettersModel" 286 10 51 := ⟨"CitingLettersModel", jTM, 71, rfl, by decide, rfl, iw_M, rfl, Or.inl (jt_6 118 rfl rfl)⟩
theorem fl_M_289 : jFl "CitingLettersModel" 289 10 52 := ⟨"CitingLettersModel", jTM, 71, rfl, by decide, rfl, iw_M, rfl, Or.inl (jt_6 119 rfl rfl)⟩
theorem fl_M_292 : jFl "CitingLettersModel" 292 10 44 := ⟨"CitingLettersModel", jTM, 71, rfl, by decide, rfl, iw_M, rfl, Or.inl (jt_6 111 rfl rfl)⟩
theorem fl_M_295 : jFl "CitingLettersModel" 295 10 31 := ⟨"CitingLettersModel", jTM, 71, rfl, by decide, rfl, iw_M, rfl, Or.inl (jt_6 98 rfl rfl)⟩
theorem fl_M_330 : jFl "CitingLettersModel" 330 10 57 := ⟨"CitingLettersModel", jTM, 71, rfl, by decide, rfl, iw_M, rfl, Or.inl (jt_6 124 rfl rfl)⟩
theorem fl_M_387 : jFl "CitingLettersModel" 387 10 62 := ⟨"CitingLettersModel", jTM, 71, rfl, by decide, rfl, iw_M, rfl, Or.inl (jt_6 129 rfl rfl)⟩
theorem fl_M_399 : jFl "CitingLettersModel" 399 10 43 := ⟨"CitingLettersModel", jTM, 71, rfl, by decide, rfl, iw_M, rfl, Or.inl (jt_6 110 rfl rfl)⟩
theorem fl_M_419 : jFl "CitingLettersModel" 419 10 64 := ⟨"CitingLettersModel", jTM, 71, rfl, by decide, rfl, iw_M, rfl, Or.inl (jt_6 131 rfl rfl)⟩
theorem fl_M_425 : jFl "CitingLettersModel" 425 10 67 := ⟨"CitingLettersModel", jTM, 71, rfl, by decide, rfl, iw_M, rfl, Or.inl (jt_6 134 rfl rfl)⟩
theorem fp_0_1 : jFp 0 1 .int := ⟨"CitingLetters", jTC, 13, jtC, rfl, jtC_ok, jnC_ok, rfl, by decide +kernel⟩
theorem fp_0_2 : jFp 0 2 (.object "CitingLetters$Habits") := ⟨"CitingLetters", jTC, 13, jtC, rfl, jtC_ok, jnC_ok, rfl, by decide +kernel⟩
theorem fp_0_3 : jFp 0 3 (.object "CitingLetters$Habits") := ⟨"CitingLetters", jTC, 13, jtC, rfl, jtC_ok, jnC_ok, rfl, by decide +kernel⟩
theorem fp_0_6 : jFp 0 6 .int := ⟨"CitingLetters", jTC, 13, jtC, rfl, jtC_ok, jnC_ok, rfl, by decide +kernel⟩
theorem fp_1_1 : jFp 1 1 .int := ⟨"CitingLetters$Habits", jTH, 13, jtH, rfl, jtH_ok, jnH_ok, rfl, by decide +kernel⟩
theorem fp_1_2 : jFp 1 2 .int := ⟨"CitingLetters$Habits", jTH, 13, jtH, rfl, jtH_ok, jnH_ok, rfl, by decide +kernel⟩
theorem fp_1_7 : jFp 1 7 .int := ⟨"CitingLetters$Habits", jTH, 13, jtH, rfl, jtH_ok, jnH_ok, rfl, by decide +kernel⟩
theorem fp_1_10 : jFp 1 10 .int := ⟨"CitingLetters$Habits", jTH, 13, jtH, rfl, jtH_ok, jnH_ok, rfl, by decide +kernel⟩
theorem fp_1_11 : jFp 1 11 .int := ⟨"CitingLetters$Habits", jTH, 13, jtH, rfl, jtH_ok, jnH_ok, rfl, by decide +kernel⟩
theorem fp_2_1 : jFp 2 1 .int := ⟨"CitingLetters$TextReader", jTR, 13, jtR, rfl, jtR_ok, jnR_ok, rfl, by decide +kernel⟩
theorem fp_2_2 : jFp 2 2 (.object "CitingLetters$Token") := ⟨"CitingLetters$TextReader", jTR, 13, jtR, rfl, jtR_ok, jnR_ok, rfl, by decide +kernel⟩
theorem fp_2_3 : jFp 2 3 .int := ⟨"CitingLetters$TextReader", jTR, 13, jtR, rfl, jtR_ok, jnR_ok, rfl, by decide +kernel⟩
theorem fp_2_4 : jFp 2 4 .int := ⟨"CitingLetters$TextReader", jTR, 13, jtR, rfl, jtR_ok, jnR_ok, rfl, by decide +kernel⟩
theorem fp_2_5 : jFp 2 5 .int := ⟨"CitingLetters$TextReader", jTR, 13, jtR, rfl, jtR_ok, jnR_ok, rfl, by decide +kernel⟩
theorem fp_2_6 : jFp 2 6 (.object "CitingLetters$Habits") := ⟨"CitingLetters$TextReader", jTR, 13, jtR, rfl, jtR_ok, jnR_ok, rfl, by decide +kernel⟩
theorem fp_2_8 : jFp 2 8 .int := ⟨"CitingLetters$TextReader", jTR, 13, jtR, rfl, jtR_ok, jnR_ok, rfl, by decide +kernel⟩
theorem fp_2_9 : jFp 2 9 .int := ⟨"CitingLetters$TextReader", jTR, 13, jtR, rfl, jtR_ok, jnR_ok, rfl, by decide +kernel⟩
theorem fp_2_11 : jFp 2 11 .boolean := ⟨"CitingLetters$TextReader", jTR, 13, jtR, rfl, jtR_ok, jnR_ok, rfl, by decide +kernel⟩
theorem fp_2_12 : jFp 2 12 .boolean := ⟨"CitingLetters$TextReader", jTR, 13, jtR, rfl, jtR_ok, jnR_ok, rfl, by decide +kernel⟩
theorem fp_3_1 : jFp 3 1 .int := ⟨"CitingLetters$Scanner", jTS, 6, jtS, rfl, jtS_ok, jnS_ok, rfl, by decide +kernel⟩
theorem fp_3_5 : jFp 3 5 .int := ⟨"CitingLetters$Scanner", jTS, 6, jtS, rfl, jtS_ok, jnS_ok, rfl, by decide +kernel⟩
theorem fp_4_15 : jFp 4 15 .int := ⟨"CitingLetters$Ledger", jTL, 17, jtL, rfl, jtL_ok, jnL_ok, rfl, by decide +kernel⟩
theorem fp_4_16 : jFp 4 16 .int := ⟨"CitingLetters$Ledger", jTL, 17, jtL, rfl, jtL_ok, jnL_ok, rfl, by decide +kernel⟩
theorem fp_5_2 : jFp 5 2 .int := ⟨"CitingLetters$Post", jTP, 11, jtP, rfl, jtP_ok, jnP_ok, rfl, by decide +kernel⟩
theorem fp_5_3 : jFp 5 3 .int := ⟨"CitingLetters$Post", jTP, 11, jtP, rfl, jtP_ok, jnP_ok, rfl, by decide +kernel⟩
theorem fp_5_4 : jFp 5 4 .int := ⟨"CitingLetters$Post", jTP, 11, jtP, rfl, jtP_ok, jnP_ok, rfl, by decide +kernel⟩
theorem fp_5_10 : jFp 5 10 .int := ⟨"CitingLetters$Post", jTP, 11, jtP, rfl, jtP_ok, jnP_ok, rfl, by decide +kernel⟩
theorem fp_9_3 : jFp 9 3 .int := ⟨"CitingLetters$Orders", jTO, 10, jtO, rfl, jtO_ok, jnO_ok, rfl, by decide +kernel⟩
theorem fp_9_6 : jFp 9 6 .int := ⟨"CitingLetters$Orders", jTO, 10, jtO, rfl, jtO_ok, jnO_ok, rfl, by decide +kernel⟩
theorem fp_10_0 : jFp 10 0 .int := ⟨"CitingLettersModel", jTM, 71, jtM, rfl, jtM_ok, jnM_ok, rfl, by decide +kernel⟩
theorem fp_10_2 : jFp 10 2 .int := ⟨"CitingLettersModel", jTM, 71, jtM, rfl, jtM_ok, jnM_ok, rfl, by decide +kernel⟩
theorem fp_10_5 : jFp 10 5 .int := ⟨"CitingLettersModel", jTM, 71, jtM, rfl, jtM_ok, jnM_ok, rfl, by decide +kernel⟩
theorem fp_10_6 : jFp 10 6 .int := ⟨"CitingLettersModel", jTM, 71, jtM, rfl, jtM_ok, jnM_ok, rfl, by decide +kernel⟩
theorem fp_10_7 : jFp 10 7 .int := ⟨"CitingLettersModel", jTM, 71, jtM, rfl, jtM_ok, jnM_ok, rfl, by decide +kernel⟩
theorem fp_10_11 : jFp 10 11 .int := ⟨"CitingLettersModel", jTM, 71, jtM, rfl, jtM_ok, jnM_ok, rfl, by decide +kernel⟩
theorem fp_10_12 : jFp 10 12 .int := ⟨"CitingLettersModel", jTM, 71, jtM, rfl, jtM_ok, jnM_ok, rfl, by decide +kernel⟩
theorem fp_10_14 : jFp 10 14 .int := ⟨"CitingLettersModel", jTM, 71, jtM, rfl, jtM_ok, jnM_ok, rfl, by decide +kernel⟩
theorem fp_10_15 : jFp 10 15 .int := ⟨"CitingLettersModel", jTM, 71, jtM, rfl, jtM_ok, jnM_ok, rfl, by decide +kernel⟩
theorem fp_10_16 : jFp 10 16 .int := ⟨"CitingLettersModel", jTM, 71, jtM, rfl, jtM_ok, jnM_ok, rfl, by decide +kernel⟩
theorem fp_10_17 : jFp 10 17 .int := ⟨"CitingLettersModel", jTM, 71, jtM, rfl, jtM_ok, jnM_ok, rfl, by decide +kernel⟩
theorem fp_10_18 : jFp 10 18 .int := ⟨"CitingLettersModel", jTM, 71, jtM, rfl, jtM_ok, jnM_ok, rfl, by decide +kernel⟩
theorem fp_10_19 : jFp 10 19 .int := ⟨"CitingLettersModel", jTM, 71, jtM, rfl, jtM_ok, jnM_ok, rfl, by decide +kernel⟩
theorem fp_10_20 : jFp 10 20 .int := ⟨"CitingLettersModel", jTM, 71, jtM, rfl, jtM_ok, jnM_ok, rfl, by decide +kernel⟩
theorem fp_10_21 : jFp 10 21 .int := ⟨"CitingLettersModel", jTM, 71, jtM, rfl, jtM_ok, jnM_ok, rfl, by decide +kernel⟩
theorem fp_10_22 : jFp 10 22 .int := ⟨"CitingLettersModel", jTM, 71, jtM, rfl, jtM_ok, jnM_ok, rfl, by decide +kernel⟩
theorem fp_10_23 : jFp 10 23 .int := ⟨"CitingLettersModel", jTM, 71, jtM, rfl, jtM_ok, jnM_ok, rfl, by decide +kernel⟩
theorem fp_10_24 : jFp 10 24 .int := ⟨"CitingLettersModel", jTM, 71, jtM, rfl, jtM_ok, jnM_ok, rfl, by decide +kernel⟩
theorem fp_10_26 : jFp 10 26 .int := ⟨"CitingLettersModel", jTM, 71, jtM, rfl, jtM_ok, jnM_ok, rfl, by decide +kernel⟩
theorem fp_10_27 : jFp 10 27 .int := ⟨"CitingLettersModel", jTM, 71, jtM, rfl, jtM_ok, jnM_ok, rfl, by decide +kernel⟩
theorem fp_10_30 : jFp 10 30 .int := ⟨"CitingLettersModel", jTM, 71, jtM, rfl, jtM_ok, jnM_ok, rfl, by decide +kernel⟩
theorem fp_10_31 : jFp 10 31 .int := ⟨"CitingLettersModel", jTM, 71, jtM, rfl, jtM_ok, jnM_ok, rfl, by decide +kernel⟩
theorem fp_10_33 : jFp 10 33 .int := ⟨"CitingLettersModel", jTM, 71, jtM, rfl, jtM_ok, jnM_ok, rfl, by decide +kernel⟩
theorem fp_10_43 : jFp 10 43 .int := ⟨"CitingLettersModel", jTM, 71, jtM, rfl, jtM_ok, jnM_ok, rfl, by decide +kernel⟩
theorem fp_10_44 : jFp 10 44 .int := ⟨"CitingLettersModel", jTM, 71, jtM, rfl, jtM_ok, jnM_ok, rfl, by decide +kernel⟩
theorem fp_10_50 : jFp 10 50 .int := ⟨"CitingLettersModel", jTM, 71, jtM, rfl, jtM_ok, jnM_ok, rfl, by decide +kernel⟩
theorem fp_10_51 : jFp 10 51 .int := ⟨"CitingLettersModel", jTM, 71, jtM, rfl, jtM_ok, jnM_ok, rfl, by decide +kernel⟩
theorem fp_10_52 : jFp 10 52 .int := ⟨"CitingLettersModel", jTM, 71, jtM, rfl, jtM_ok, jnM_ok, rfl, by decide +kernel⟩
theorem fp_10_57 : jFp 10 57 .int := ⟨"CitingLettersModel", jTM, 71, jtM, rfl, jtM_ok, jnM_ok, rfl, by decide +kernel⟩
theorem fp_10_62 : jFp 10 62 .int := ⟨"CitingLettersModel", jTM, 71, jtM, rfl, jtM_ok, jnM_ok, rfl, by decide +kernel⟩
theorem fp_10_64 : jFp 10 64 .int := ⟨"CitingLettersModel", jTM, 71, jtM, rfl, jtM_ok, jnM_ok, rfl, by decide +kernel⟩
theorem fp_10_67 : jFp 10 67 .int := ⟨"CitingLettersModel", jTM, 71, jtM, rfl, jtM_ok, jnM_ok, rfl, by decide +kernel⟩
theorem ck_1_0 : jtag 1 = 0 ∧ jpar 1 = 0 ∧ jkd 0 0 = 1 := ⟨rfl, rfl, rfl⟩
theorem ck_1_1 : jtag 1 = 0 ∧ jpar 1 = 0 ∧ jkd 0 1 = 0 := ⟨rfl, rfl, rfl⟩
theorem ck_1_2 : jtag 1 = 0 ∧ jpar 1 = 0 ∧ jkd 0 2 = 2 := ⟨rfl, rfl, rfl⟩
theorem ck_1_3 : jtag 1 = 0 ∧ jpar 1 = 0 ∧ jkd 0 3 = 2 := ⟨rfl, rfl, rfl⟩
theorem ck_1_4 : jtag 1 = 0 ∧ jpar 1 = 0 ∧ jkd 0 4 = 1 := ⟨rfl, rfl, rfl⟩
theorem ck_1_5 : jtag 1 = 0 ∧ jpar 1 = 0 ∧ jkd 0 5 = 1 := ⟨rfl, rfl, rfl⟩
theorem ck_1_6 : jtag 1 = 0 ∧ jpar 1 = 0 ∧ jkd 0 6 = 0 := ⟨rfl, rfl, rfl⟩
theorem ck_1_7 : jtag 1 = 0 ∧ jpar 1 = 0 ∧ jkd 0 7 = 1 := ⟨rfl, rfl, rfl⟩
theorem ck_1_8 : jtag 1 = 0 ∧ jpar 1 = 0 ∧ jkd 0 8 = 1 := ⟨rfl, rfl, rfl⟩
theorem ck_1_9 : jtag 1 = 0 ∧ jpar 1 = 0 ∧ jkd 0 9 = 1 := ⟨rfl, rfl, rfl⟩
theorem ck_1_10 : jtag 1 = 0 ∧ jpar 1 = 0 ∧ jkd 0 10 = 1 := ⟨rfl, rfl, rfl⟩
theorem ck_1_11 : jtag 1 = 0 ∧ jpar 1 = 0 ∧ jkd 0 11 = 1 := ⟨rfl, rfl, rfl⟩
theorem ck_1_12 : jtag 1 = 0 ∧ jpar 1 = 0 ∧ jkd 0 12 = 1 := ⟨rfl, rfl, rfl⟩
theorem ck_21_0 : jtag 21 = 0 ∧ jpar 21 = 2 ∧ jkd 2 0 = 1 := ⟨rfl, rfl, rfl⟩
theorem ck_21_1 : jtag 21 = 0 ∧ jpar 21 = 2 ∧ jkd 2 1 = 0 := ⟨rfl, rfl, rfl⟩
theorem ck_21_2 : jtag 21 = 0 ∧ jpar 21 = 2 ∧ jkd 2 2 = 2 := ⟨rfl, rfl, rfl⟩
theorem ck_21_3 : jtag 21 = 0 ∧ jpar 21 = 2 ∧ jkd 2 3 = 0 := ⟨rfl, rfl, rfl⟩
theorem ck_21_4 : jtag 21 = 0 ∧ jpar 21 = 2 ∧ jkd 2 4 = 0 := ⟨rfl, rfl, rfl⟩
theorem ck_21_5 : jtag 21 = 0 ∧ jpar 21 = 2 ∧ jkd 2 5 = 0 := ⟨rfl, rfl, rfl⟩
theorem ck_21_6 : jtag 21 = 0 ∧ jpar 21 = 2 ∧ jkd 2 6 = 2 := ⟨rfl, rfl, rfl⟩
theorem ck_21_7 : jtag 21 = 0 ∧ jpar 21 = 2 ∧ jkd 2 7 = 1 := ⟨rfl, rfl, rfl⟩
theorem ck_21_8 : jtag 21 = 0 ∧ jpar 21 = 2 ∧ jkd 2 8 = 0 := ⟨rfl, rfl, rfl⟩
theorem ck_21_9 : jtag 21 = 0 ∧ jpar 21 = 2 ∧ jkd 2 9 = 0 := ⟨rfl, rfl, rfl⟩
theorem ck_21_10 : jtag 21 = 0 ∧ jpar 21 = 2 ∧ jkd 2 10 = 1 := ⟨rfl, rfl, rfl⟩
theorem ck_21_11 : jtag 21 = 0 ∧ jpar 21 = 2 ∧ jkd 2 11 = 0 := ⟨rfl, rfl, rfl⟩
theorem ck_21_12 : jtag 21 = 0 ∧ jpar 21 = 2 ∧ jkd 2 12 = 0 := ⟨rfl, rfl, rfl⟩
theorem ck_24_0 : jtag 24 = 0 ∧ jpar 24 = 3 ∧ jkd 3 0 = 1 := ⟨rfl, rfl, rfl⟩
theorem ck_24_1 : jtag 24 = 0 ∧ jpar 24 = 3 ∧ jkd 3 1 = 0 := ⟨rfl, rfl, rfl⟩
theorem ck_24_2 : jtag 24 = 0 ∧ jpar 24 = 3 ∧ jkd 3 2 = 1 := ⟨rfl, rfl, rfl⟩
theorem ck_24_3 : jtag 24 = 0 ∧ jpar 24 = 3 ∧ jkd 3 3 = 1 := ⟨rfl, rfl, rfl⟩
theorem ck_24_4 : jtag 24 = 0 ∧ jpar 24 = 3 ∧ jkd 3 4 = 1 := ⟨rfl, rfl, rfl⟩
theorem ck_24_5 : jtag 24 = 0 ∧ jpar 24 = 3 ∧ jkd 3 5 = 0 := ⟨rfl, rfl, rfl⟩
theorem ck_29_0 : jtag 29 = 0 ∧ jpar 29 = 4 ∧ jkd 4 0 = 1 := ⟨rfl, rfl, rfl⟩
theorem ck_29_1 : jtag 29 = 0 ∧ jpar 29 = 4 ∧ jkd 4 1 = 1 := ⟨rfl, rfl, rfl⟩
theorem ck_29_2 : jtag 29 = 0 ∧ jpar 29 = 4 ∧ jkd 4 2 = 1 := ⟨rfl, rfl, rfl⟩
theorem ck_29_3 : jtag 29 = 0 ∧ jpar 29 = 4 ∧ jkd 4 3 = 1 := ⟨rfl, rfl, rfl⟩
theorem ck_29_4 : jtag 29 = 0 ∧ jpar 29 = 4 ∧ jkd 4 4 = 1 := ⟨rfl, rfl, rfl⟩
theorem ck_29_5 : jtag 29 = 0 ∧ jpar 29 = 4 ∧ jkd 4 5 = 1 := ⟨rfl, rfl, rfl⟩
theorem ck_29_6 : jtag 29 = 0 ∧ jpar 29 = 4 ∧ jkd 4 6 = 1 := ⟨rfl, rfl, rfl⟩
theorem ck_29_7 : jtag 29 = 0 ∧ jpar 29 = 4 ∧ jkd 4 7 = 1 := ⟨rfl, rfl, rfl⟩
theorem ck_29_8 : jtag 29 = 0 ∧ jpar 29 = 4 ∧ jkd 4 8 = 1 := ⟨rfl, rfl, rfl⟩
theorem ck_29_9 : jtag 29 = 0 ∧ jpar 29 = 4 ∧ jkd 4 9 = 1 := ⟨rfl, rfl, rfl⟩
theorem ck_29_10 : jtag 29 = 0 ∧ jpar 29 = 4 ∧ jkd 4 10 = 1 := ⟨rfl, rfl, rfl⟩
theorem ck_29_11 : jtag 29 = 0 ∧ jpar 29 = 4 ∧ jkd 4 11 = 1 := ⟨rfl, rfl, rfl⟩
theorem ck_29_12 : jtag 29 = 0 ∧ jpar 29 = 4 ∧ jkd 4 12 = 1 := ⟨rfl, rfl, rfl⟩
theorem ck_29_13 : jtag 29 = 0 ∧ jpar 29 = 4 ∧ jkd 4 13 = 1 := ⟨rfl, rfl, rfl⟩
theorem ck_29_14 : jtag 29 = 0 ∧ jpar 29 = 4 ∧ jkd 4 14 = 1 := ⟨rfl, rfl, rfl⟩
theorem ck_29_15 : jtag 29 = 0 ∧ jpar 29 = 4 ∧ jkd 4 15 = 0 := ⟨rfl, rfl, rfl⟩
theorem ck_29_16 : jtag 29 = 0 ∧ jpar 29 = 4 ∧ jkd 4 16 = 0 := ⟨rfl, rfl, rfl⟩
theorem ck_45_0 : jtag 45 = 0 ∧ jpar 45 = 5 ∧ jkd 5 0 = 1 := ⟨rfl, rfl, rfl⟩
theorem ck_45_1 : jtag 45 = 0 ∧ jpar 45 = 5 ∧ jkd 5 1 = 1 := ⟨rfl, rfl, rfl⟩
theorem ck_45_2 : jtag 45 = 0 ∧ jpar 45 = 5 ∧ jkd 5 2 = 0 := ⟨rfl, rfl, rfl⟩
theorem ck_45_3 : jtag 45 = 0 ∧ jpar 45 = 5 ∧ jkd 5 3 = 0 := ⟨rfl, rfl, rfl⟩
theorem ck_45_4 : jtag 45 = 0 ∧ jpar 45 = 5 ∧ jkd 5 4 = 0 := ⟨rfl, rfl, rfl⟩
theorem ck_45_5 : jtag 45 = 0 ∧ jpar 45 = 5 ∧ jkd 5 5 = 1 := ⟨rfl, rfl, rfl⟩
theorem ck_45_6 : jtag 45 = 0 ∧ jpar 45 = 5 ∧ jkd 5 6 = 1 := ⟨rfl, rfl, rfl⟩
theorem ck_45_7 : jtag 45 = 0 ∧ jpar 45 = 5 ∧ jkd 5 7 = 1 := ⟨rfl, rfl, rfl⟩
theorem ck_45_8 : jtag 45 = 0 ∧ jpar 45 = 5 ∧ jkd 5 8 = 1 := ⟨rfl, rfl, rfl⟩
theorem ck_45_9 : jtag 45 = 0 ∧ jpar 45 = 5 ∧ jkd 5 9 = 1 := ⟨rfl, rfl, rfl⟩
theorem ck_45_10 : jtag 45 = 0 ∧ jpar 45 = 5 ∧ jkd 5 10 = 0 := ⟨rfl, rfl, rfl⟩
theorem ck_65_0 : jtag 65 = 0 ∧ jpar 65 = 6 ∧ jkd 6 0 = 1 := ⟨rfl, rfl, rfl⟩
theorem ck_65_1 : jtag 65 = 0 ∧ jpar 65 = 6 ∧ jkd 6 1 = 1 := ⟨rfl, rfl, rfl⟩
theorem ck_65_2 : jtag 65 = 0 ∧ jpar 65 = 6 ∧ jkd 6 2 = 1 := ⟨rfl, rfl, rfl⟩
theorem ck_65_3 : jtag 65 = 0 ∧ jpar 65 = 6 ∧ jkd 6 3 = 1 := ⟨rfl, rfl, rfl⟩
theorem ck_65_4 : jtag 65 = 0 ∧ jpar 65 = 6 ∧ jkd 6 4 = 1 := ⟨rfl, rfl, rfl⟩
theorem ck_83_0 : jtag 83 = 0 ∧ jpar 83 = 7 ∧ jkd 7 0 = 1 := ⟨rfl, rfl, rfl⟩
theorem ck_83_1 : jtag 83 = 0 ∧ jpar 83 = 7 ∧ jkd 7 1 = 1 := ⟨rfl, rfl, rfl⟩
theorem ck_84_0 : jtag 84 = 0 ∧ jpar 84 = 8 ∧ jkd 8 0 = 1 := ⟨rfl, rfl, rfl⟩
theorem ck_84_1 : jtag 84 = 0 ∧ jpar 84 = 8 ∧ jkd 8 1 = 1 := ⟨rfl, rfl, rfl⟩
theorem ck_84_2 : jtag 84 = 0 ∧ jpar 84 = 8 ∧ jkd 8 2 = 1 := ⟨rfl, rfl, rfl⟩
theorem ck_84_3 : jtag 84 = 0 ∧ jpar 84 = 8 ∧ jkd 8 3 = 1 := ⟨rfl, rfl, rfl⟩
theorem ck_84_4 : jtag 84 = 0 ∧ jpar 84 = 8 ∧ jkd 8 4 = 1 := ⟨rfl, rfl, rfl⟩
theorem ck_89_0 : jtag 89 = 0 ∧ jpar 89 = 9 ∧ jkd 9 0 = 1 := ⟨rfl, rfl, rfl⟩
theorem ck_89_1 : jtag 89 = 0 ∧ jpar 89 = 9 ∧ jkd 9 1 = 1 := ⟨rfl, rfl, rfl⟩
theorem ck_89_2 : jtag 89 = 0 ∧ jpar 89 = 9 ∧ jkd 9 2 = 1 := ⟨rfl, rfl, rfl⟩
theorem ck_89_3 : jtag 89 = 0 ∧ jpar 89 = 9 ∧ jkd 9 3 = 0 := ⟨rfl, rfl, rfl⟩
theorem ck_89_4 : jtag 89 = 0 ∧ jpar 89 = 9 ∧ jkd 9 4 = 1 := ⟨rfl, rfl, rfl⟩
theorem ck_89_5 : jtag 89 = 0 ∧ jpar 89 = 9 ∧ jkd 9 5 = 1 := ⟨rfl, rfl, rfl⟩
theorem ck_89_6 : jtag 89 = 0 ∧ jpar 89 = 9 ∧ jkd 9 6 = 0 := ⟨rfl, rfl, rfl⟩
theorem ck_89_7 : jtag 89 = 0 ∧ jpar 89 = 9 ∧ jkd 9 7 = 1 := ⟨rfl, rfl, rfl⟩
theorem ck_89_8 : jtag 89 = 0 ∧ jpar 89 = 9 ∧ jkd 9 8 = 1 := ⟨rfl, rfl, rfl⟩
theorem ck_89_9 : jtag 89 = 0 ∧ jpar 89 = 9 ∧ jkd 9 9 = 1 := ⟨rfl, rfl, rfl⟩
theorem ck_109_0 : jtag 109 = 0 ∧ jpar 109 = 10 ∧ jkd 10 0 = 0 := ⟨rfl, rfl, rfl⟩
theorem ck_109_1 : jtag 109 = 0 ∧ jpar 109 = 10 ∧ jkd 10 1 = 1 := ⟨rfl, rfl, rfl⟩
theorem ck_109_2 : jtag 109 = 0 ∧ jpar 109 = 10 ∧ jkd 10 2 = 0 := ⟨rfl, rfl, rfl⟩
theorem ck_109_3 : jtag 109 = 0 ∧ jpar 109 = 10 ∧ jkd 10 3 = 1 := ⟨rfl, rfl, rfl⟩
theorem ck_109_4 : jtag 109 = 0 ∧ jpar 109 = 10 ∧ jkd 10 4 = 1 := ⟨rfl, rfl, rfl⟩
theorem ck_109_5 : jtag 109 = 0 ∧ jpar 109 = 10 ∧ jkd 10 5 = 0 := ⟨rfl, rfl, rfl⟩
theorem ck_109_6 : jtag 109 = 0 ∧ jpar 109 = 10 ∧ jkd 10 6 = 0 := ⟨rfl, rfl, rfl⟩
theorem ck_109_7 : jtag 109 = 0 ∧ jpar 109 = 10 ∧ jkd 10 7 = 0 := ⟨rfl, rfl, rfl⟩
theorem ck_109_8 : jtag 109 = 0 ∧ jpar 109 = 10 ∧ jkd 10 8 = 1 := ⟨rfl, rfl, rfl⟩
theorem ck_109_9 : jtag 109 = 0 ∧ jpar 109 = 10 ∧ jkd 10 9 = 1 := ⟨rfl, rfl, rfl⟩
theorem ck_109_10 : jtag 109 = 0 ∧ jpar 109 = 10 ∧ jkd 10 10 = 1 := ⟨rfl, rfl, rfl⟩
theorem ck_109_11 : jtag 109 = 0 ∧ jpar 109 = 10 ∧ jkd 10 11 = 0 := ⟨rfl, rfl, rfl⟩
theorem ck_109_12 : jtag 109 = 0 ∧ jpar 109 = 10 ∧ jkd 10 12 = 0 := ⟨rfl, rfl, rfl⟩
theorem ck_109_13 : jtag 109 = 0 ∧ jpar 109 = 10 ∧ jkd 10 13 = 1 := ⟨rfl, rfl, rfl⟩
theorem ck_109_14 : jtag 109 = 0 ∧ jpar 109 = 10 ∧ jkd 10 14 = 0 := ⟨rfl, rfl, rfl⟩
theorem ck_109_15 : jtag 109 = 0 ∧ jpar 109 = 10 ∧ jkd 10 15 = 0 := ⟨rfl, rfl, rfl⟩
theorem ck_109_16 : jtag 109 = 0 ∧ jpar 109 = 10 ∧ jkd 10 16 = 0 := ⟨rfl, rfl, rfl⟩
theorem ck_109_17 : jtag 109 = 0 ∧ jpar 109 = 10 ∧ jkd 10 17 = 0 := ⟨rfl, rfl, rfl⟩
theorem ck_109_18 : jtag 109 = 0 ∧ jpar 109 = 10 ∧ jkd 10 18 = 0 := ⟨rfl, rfl, rfl⟩
theorem ck_109_19 : jtag 109 = 0 ∧ jpar 109 = 10 ∧ jkd 10 19 = 0 := ⟨rfl, rfl, rfl⟩
theorem ck_109_20 : jtag 109 = 0 ∧ jpar 109 = 10 ∧ jkd 10 20 = 0 := ⟨rfl, rfl, rfl⟩
theorem ck_109_21 : jtag 109 = 0 ∧ jpar 109 = 10 ∧ jkd 10 21 = 0 := ⟨rfl, rfl, rfl⟩
theorem ck_109_22 : jtag 109 = 0 ∧ jpar 109 = 10 ∧ jkd 10 22 = 0 := ⟨rfl, rfl, rfl⟩
theorem ck_109_23 : jtag 109 = 0 ∧ jpar 109 = 10 ∧ jkd 10 23 = 0 := ⟨rfl, rfl, rfl⟩
theorem ck_109_24 : jtag 109 = 0 ∧ jpar 109 = 10 ∧ jkd 10 24 = 0 := ⟨rfl, rfl, rfl⟩
theorem ck_109_25 : jtag 109 = 0 ∧ jpar 109 = 10 ∧ jkd 10 25 = 1 := ⟨rfl, rfl, rfl⟩
theorem ck_109_26 : jtag 109 = 0 ∧ jpar 109 = 10 ∧ jkd 10 26 = 0 := ⟨rfl, rfl, rfl⟩
theorem ck_109_27 : jtag 109 = 0 ∧ jpar 109 = 10 ∧ jkd 10 27 = 0 := ⟨rfl, rfl, rfl⟩
theorem ck_109_28 : jtag 109 = 0 ∧ jpar 109 = 10 ∧ jkd 10 28 = 1 := ⟨rfl, rfl, rfl⟩
theorem ck_109_29 : jtag 109 = 0 ∧ jpar 109 = 10 ∧ jkd 10 29 = 1 := ⟨rfl, rfl, rfl⟩
theorem ck_109_30 : jtag 109 = 0 ∧ jpar 109 = 10 ∧ jkd 10 30 = 0 := ⟨rfl, rfl, rfl⟩
theorem ck_109_31 : jtag 109 = 0 ∧ jpar 109 = 10 ∧ jkd 10 31 = 0 := ⟨rfl, rfl, rfl⟩
theorem ck_109_32 : jtag 109 = 0 ∧ jpar 109 = 10 ∧ jkd 10 32 = 1 := ⟨rfl, rfl, rfl⟩
theorem ck_109_33 : jtag 109 = 0 ∧ jpar 109 = 10 ∧ jkd 10 33 = 0 := ⟨rfl, rfl, rfl⟩
theorem ck_109_34 : jtag 109 = 0 ∧ jpar 109 = 10 ∧ jkd 10 34 = 1 := ⟨rfl, rfl, rfl⟩
theorem ck_109_35 : jtag 109 = 0 ∧ jpar 109 = 10 ∧ jkd 10 35 = 1 := ⟨rfl, rfl, rfl⟩
theorem ck_109_36 : jtag 109 = 0 ∧ jpar 109 = 10 ∧ jkd 10 36 = 1 := ⟨rfl, rfl, rfl⟩
theorem ck_109_37 : jtag 109 = 0 ∧ jpar 109 = 10 ∧ jkd 10 37 = 1 := ⟨rfl, rfl, rfl⟩
theorem ck_109_38 : jtag 109 = 0 ∧ jpar 109 = 10 ∧ jkd 10 38 = 1 := ⟨rfl, rfl, rfl⟩
theorem ck_109_39 : jtag 109 = 0 ∧ jpar 109 = 10 ∧ jkd 10 39 = 1 := ⟨rfl, rfl, rfl⟩
theorem ck_109_40 : jtag 109 = 0 ∧ jpar 109 = 10 ∧ jkd 10 40 = 1 := ⟨rfl, rfl, rfl⟩
theorem ck_109_41 : jtag 109 = 0 ∧ jpar 109 = 10 ∧ jkd 10 41 = 1 := ⟨rfl, rfl, rfl⟩
theorem ck_109_42 : jtag 109 = 0 ∧ jpar 109 = 10 ∧ jkd 10 42 = 1 := ⟨rfl, rfl, rfl⟩
theorem ck_109_43 : jtag 109 = 0 ∧ jpar 109 = 10 ∧ jkd 10 43 = 0 := ⟨rfl, rfl, rfl⟩
theorem ck_109_44 : jtag 109 = 0 ∧ jpar 109 = 10 ∧ jkd 10 44 = 0 := ⟨rfl, rfl, rfl⟩
theorem ck_109_45 : jtag 109 = 0 ∧ jpar 109 = 10 ∧ jkd 10 45 = 1 := ⟨rfl, rfl, rfl⟩
theorem ck_109_46 : jtag 109 = 0 ∧ jpar 109 = 10 ∧ jkd 10 46 = 1 := ⟨rfl, rfl, rfl⟩
theorem ck_109_47 : jtag 109 = 0 ∧ jpar 109 = 10 ∧ jkd 10 47 = 1 := ⟨rfl, rfl, rfl⟩
theorem ck_109_48 : jtag 109 = 0 ∧ jpar 109 = 10 ∧ jkd 10 48 = 1 := ⟨rfl, rfl, rfl⟩
theorem ck_109_49 : jtag 109 = 0 ∧ jpar 109 = 10 ∧ jkd 10 49 = 1 := ⟨rfl, rfl, rfl⟩
theorem ck_109_50 : jtag 109 = 0 ∧ jpar 109 = 10 ∧ jkd 10 50 = 0 := ⟨rfl, rfl, rfl⟩
theorem ck_109_51 : jtag 109 = 0 ∧ jpar 109 = 10 ∧ jkd 10 51 = 0 := ⟨rfl, rfl, rfl⟩
theorem ck_109_52 : jtag 109 = 0 ∧ jpar 109 = 10 ∧ jkd 10 52 = 0 := ⟨rfl, rfl, rfl⟩
theorem ck_109_53 : jtag 109 = 0 ∧ jpar 109 = 10 ∧ jkd 10 53 = 1 := ⟨rfl, rfl, rfl⟩
theorem ck_109_54 : jtag 109 = 0 ∧ jpar 109 = 10 ∧ jkd 10 54 = 1 := ⟨rfl, rfl, rfl⟩
theorem ck_109_55 : jtag 109 = 0 ∧ jpar 109 = 10 ∧ jkd 10 55 = 1 := ⟨rfl, rfl, rfl⟩
theorem ck_109_56 : jtag 109 = 0 ∧ jpar 109 = 10 ∧ jkd 10 56 = 1 := ⟨rfl, rfl, rfl⟩
theorem ck_109_57 : jtag 109 = 0 ∧ jpar 109 = 10 ∧ jkd 10 57 = 0 := ⟨rfl, rfl, rfl⟩
theorem ck_109_58 : jtag 109 = 0 ∧ jpar 109 = 10 ∧ jkd 10 58 = 1 := ⟨rfl, rfl, rfl⟩
theorem ck_109_59 : jtag 109 = 0 ∧ jpar 109 = 10 ∧ jkd 10 59 = 1 := ⟨rfl, rfl, rfl⟩
theorem ck_109_60 : jtag 109 = 0 ∧ jpar 109 = 10 ∧ jkd 10 60 = 1 := ⟨rfl, rfl, rfl⟩
theorem ck_109_61 : jtag 109 = 0 ∧ jpar 109 = 10 ∧ jkd 10 61 = 1 := ⟨rfl, rfl, rfl⟩
theorem ck_109_62 : jtag 109 = 0 ∧ jpar 109 = 10 ∧ jkd 10 62 = 0 := ⟨rfl, rfl, rfl⟩
theorem ck_109_63 : jtag 109 = 0 ∧ jpar 109 = 10 ∧ jkd 10 63 = 1 := ⟨rfl, rfl, rfl⟩
theorem ck_109_64 : jtag 109 = 0 ∧ jpar 109 = 10 ∧ jkd 10 64 = 0 := ⟨rfl, rfl, rfl⟩
theorem ck_109_65 : jtag 109 = 0 ∧ jpar 109 = 10 ∧ jkd 10 65 = 1 := ⟨rfl, rfl, rfl⟩
theorem ck_109_66 : jtag 109 = 0 ∧ jpar 109 = 10 ∧ jkd 10 66 = 1 := ⟨rfl, rfl, rfl⟩
theorem ck_109_67 : jtag 109 = 0 ∧ jpar 109 = 10 ∧ jkd 10 67 = 0 := ⟨rfl, rfl, rfl⟩
theorem ck_109_68 : jtag 109 = 0 ∧ jpar 109 = 10 ∧ jkd 10 68 = 1 := ⟨rfl, rfl, rfl⟩
theorem ck_109_69 : jtag 109 = 0 ∧ jpar 109 = 10 ∧ jkd 10 69 = 1 := ⟨rfl, rfl, rfl⟩
theorem ck_109_70 : jtag 109 = 0 ∧ jpar 109 = 10 ∧ jkd 10 70 = 1 := ⟨rfl, rfl, rfl⟩
theorem cq_1 : jtag 1 = 0 ∧ jpar 1 = 0 := ⟨rfl, rfl⟩
theorem cq_21 : jtag 21 = 0 ∧ jpar 21 = 2 := ⟨rfl, rfl⟩
theorem cq_24 : jtag 24 = 0 ∧ jpar 24 = 3 := ⟨rfl, rfl⟩
theorem cq_29 : jtag 29 = 0 ∧ jpar 29 = 4 := ⟨rfl, rfl⟩
theorem cq_45 : jtag 45 = 0 ∧ jpar 45 = 5 := ⟨rfl, rfl⟩
theorem cq_65 : jtag 65 = 0 ∧ jpar 65 = 6 := ⟨rfl, rfl⟩
theorem cq_83 : jtag 83 = 0 ∧ jpar 83 = 7 := ⟨rfl, rfl⟩
theorem cq_84 : jtag 84 = 0 ∧ jpar 84 = 8 := ⟨rfl, rfl⟩
theorem cq_89 : jtag 89 = 0 ∧ jpar 89 = 9 := ⟨rfl, rfl⟩
theorem cq_109 : jtag 109 = 0 ∧ jpar 109 = 10 := ⟨rfl, rfl⟩
theorem kb_m2 : (Int8.ofInt (-2)).toInt32 = (-2 : Int32) := by decide
theorem kb_6 : (Int8.ofInt (6)).toInt32 = (6 : Int32) := by decide
theorem kb_8 : (Int8.ofInt (8)).toInt32 = (8 : Int32) := by decide
theorem kb_9 : (Int8.ofInt (9)).toInt32 = (9 : Int32) := by decide
theorem kb_10 : (Int8.ofInt (10)).toInt32 = (10 : Int32) := by decide
theorem kb_11 : (Int8.ofInt (11)).toInt32 = (11 : Int32) := by decide
theorem kb_12 : (Int8.ofInt (12)).toInt32 = (12 : Int32) := by decide
theorem kb_16 : (Int8.ofInt (16)).toInt32 = (16 : Int32) := by decide
theorem kb_20 : (Int8.ofInt (20)).toInt32 = (20 : Int32) := by decide
theorem kb_24 : (Int8.ofInt (24)).toInt32 = (24 : Int32) := by decide
theorem kb_30 : (Int8.ofInt (30)).toInt32 = (30 : Int32) := by decide
theorem kb_31 : (Int8.ofInt (31)).toInt32 = (31 : Int32) := by decide
theorem kb_32 : (Int8.ofInt (32)).toInt32 = (32 : Int32) := by decide
theorem kb_40 : (Int8.ofInt (40)).toInt32 = (40 : Int32) := by decide
theorem kb_41 : (Int8.ofInt (41)).toInt32 = (41 : Int32) := by decide
theorem kb_43 : (Int8.ofInt (43)).toInt32 = (43 : Int32) := by decide
theorem kb_45 : (Int8.ofInt (45)).toInt32 = (45 : Int32) := by decide
theorem kb_48 : (Int8.ofInt (48)).toInt32 = (48 : Int32) := by decide
theorem kb_57 : (Int8.ofInt (57)).toInt32 = (57 : Int32) := by decide
theorem kb_59 : (Int8.ofInt (59)).toInt32 = (59 : Int32) := by decide
theorem kb_60 : (Int8.ofInt (60)).toInt32 = (60 : Int32) := by decide
theorem kb_61 : (Int8.ofInt (61)).toInt32 = (61 : Int32) := by decide
theorem kb_62 : (Int8.ofInt (62)).toInt32 = (62 : Int32) := by decide
theorem kb_63 : (Int8.ofInt (63)).toInt32 = (63 : Int32) := by decide
theorem kb_64 : (Int8.ofInt (64)).toInt32 = (64 : Int32) := by decide
theorem kb_97 : (Int8.ofInt (97)).toInt32 = (97 : Int32) := by decide
theorem kb_99 : (Int8.ofInt (99)).toInt32 = (99 : Int32) := by decide
theorem kb_122 : (Int8.ofInt (122)).toInt32 = (122 : Int32) := by decide
theorem ki_m8 : Int32.ofInt (-8) = (-8 : Int32) := by decide
theorem ki_m1 : Int32.ofInt (-1) = (-1 : Int32) := by decide
theorem ki_0 : Int32.ofInt (0) = (0 : Int32) := by decide
theorem ki_1 : Int32.ofInt (1) = (1 : Int32) := by decide
theorem ki_2 : Int32.ofInt (2) = (2 : Int32) := by decide
theorem ki_3 : Int32.ofInt (3) = (3 : Int32) := by decide
theorem ki_4 : Int32.ofInt (4) = (4 : Int32) := by decide
theorem ki_5 : Int32.ofInt (5) = (5 : Int32) := by decide
theorem ks_150 : (Int16.ofInt (150)).toInt32 = (150 : Int32) := by decide
theorem ks_255 : (Int16.ofInt (255)).toInt32 = (255 : Int32) := by decide
theorem ks_256 : (Int16.ofInt (256)).toInt32 = (256 : Int32) := by decide
theorem ks_257 : (Int16.ofInt (257)).toInt32 = (257 : Int32) := by decide
theorem ks_258 : (Int16.ofInt (258)).toInt32 = (258 : Int32) := by decide
theorem ks_260 : (Int16.ofInt (260)).toInt32 = (260 : Int32) := by decide
theorem ks_261 : (Int16.ofInt (261)).toInt32 = (261 : Int32) := by decide
theorem ks_262 : (Int16.ofInt (262)).toInt32 = (262 : Int32) := by decide
theorem ks_380 : (Int16.ofInt (380)).toInt32 = (380 : Int32) := by decide
theorem ks_400 : (Int16.ofInt (400)).toInt32 = (400 : Int32) := by decide
theorem ks_998 : (Int16.ofInt (998)).toInt32 = (998 : Int32) := by decide
theorem ks_999 : (Int16.ofInt (999)).toInt32 = (999 : Int32) := by decide
theorem ks_1000 : (Int16.ofInt (1000)).toInt32 = (1000 : Int32) := by decide
abbrev Y_JS_length : jY := (⟨"java/lang/String", "length", "()I"⟩, prog_24_method_54_code, 1, (some .int), 2, 0, 0)
theorem mi_JS_length : jMi ⟨"java/lang/String", "length", "()I"⟩ prog_24_method_54_code 1 (some .int) 0 := ⟨jt_3 21 rfl rfl, jt_1 15 rfl rfl, ⟨by decide +kernel, by decide +kernel, by decide +kernel⟩, by decide, by decide +kernel⟩
theorem mv_JS_length : jMv ⟨"java/lang/String", "length", "()I"⟩ := ⟨jt_3 19 rfl rfl, jt_3 20 rfl rfl⟩
abbrev Y_JS_charAt : jY := (⟨"java/lang/String", "charAt", "(I)C"⟩, prog_24_method_56_code, 2, (some .char), 4, 0, 0)
theorem mi_JS_charAt : jMi ⟨"java/lang/String", "charAt", "(I)C"⟩ prog_24_method_56_code 2 (some .char) 1 := ⟨jt_3 31 rfl rfl, jt_1 15 rfl rfl, ⟨by decide +kernel, by decide +kernel, by decide +kernel⟩, by decide, by decide +kernel⟩
theorem mv_JS_charAt : jMv ⟨"java/lang/String", "charAt", "(I)C"⟩ := ⟨jt_3 29 rfl rfl, jt_3 30 rfl rfl⟩
abbrev Y_JS_coder : jY := (⟨"java/lang/String", "coder", "()B"⟩, prog_24_method_152_code, 1, (some .byte), 1, 0, 0)
theorem mi_JS_coder : jMi ⟨"java/lang/String", "coder", "()B"⟩ prog_24_method_152_code 1 (some .byte) 0 := ⟨jt_3 25 rfl rfl, jt_1 15 rfl rfl, ⟨by decide +kernel, by decide +kernel, by decide +kernel⟩, by decide, by decide +kernel⟩
theorem mv_JS_coder : jMv ⟨"java/lang/String", "coder", "()B"⟩ := ⟨jt_3 23 rfl rfl, jt_3 24 rfl rfl⟩
abbrev Y_JS_isLatin1 : jY := (⟨"java/lang/String", "isLatin1", "()Z"⟩, prog_24_method_154_code, 1, (some .boolean), 1, 0, 0)
theorem mi_JS_isLatin1 : jMi ⟨"java/lang/String", "isLatin1", "()Z"⟩ prog_24_method_154_code 1 (some .boolean) 0 := ⟨jt_3 35 rfl rfl, jt_1 15 rfl rfl, ⟨by decide +kernel, by decide +kernel, by decide +kernel⟩, by decide, by decide +kernel⟩
theorem mv_JS_isLatin1 : jMv ⟨"java/lang/String", "isLatin1", "()Z"⟩ := ⟨jt_3 33 rfl rfl, jt_3 34 rfl rfl⟩
abbrev Y_JS_checkIndex : jY := (⟨"java/lang/String", "checkIndex", "(II)V"⟩, prog_24_method_155_code, 2, none, 2, 0, 0)
theorem mi_JS_checkIndex : jMi ⟨"java/lang/String", "checkIndex", "(II)V"⟩ prog_24_method_155_code 2 none 2 := ⟨jt_3 41 rfl rfl, jt_1 15 rfl rfl, ⟨by decide +kernel, by decide +kernel, by decide +kernel⟩, by decide, by decide +kernel⟩
theorem ms_JS_checkIndex : jMs ⟨"java/lang/String", "checkIndex", "(II)V"⟩ := jt_3 40 rfl rfl
abbrev Y_JL_charAt : jY := (⟨"java/lang/StringLatin1", "charAt", "([BI)C"⟩, prog_25_method_2_code, 2, (some .char), 3, 0, 0)
theorem mi_JL_charAt : jMi ⟨"java/lang/StringLatin1", "charAt", "([BI)C"⟩ prog_25_method_2_code 2 (some .char) 2 := ⟨jt_3 38 rfl rfl, jt_1 16 rfl rfl, ⟨by decide +kernel, by decide +kernel, by decide +kernel⟩, by decide, by decide +kernel⟩
theorem ms_JL_charAt : jMs ⟨"java/lang/StringLatin1", "charAt", "([BI)C"⟩ := jt_3 37 rfl rfl
abbrev Y_JP_checkIndex : jY := (⟨"jdk/internal/util/Preconditions", "checkIndex", "(IILjava/util/function/BiFunction;)I"⟩, prog_32_method_11_code, 3, (some .int), 1, 0, 0)
theorem mi_JP_checkIndex : jMi ⟨"jdk/internal/util/Preconditions", "checkIndex", "(IILjava/util/function/BiFunction;)I"⟩ prog_32_method_11_code 3 (some .int) 3 := ⟨jt_3 46 rfl rfl, jt_1 17 rfl rfl, ⟨by decide +kernel, by decide +kernel, by decide +kernel⟩, by decide, by decide +kernel⟩
theorem ms_JP_checkIndex : jMs ⟨"jdk/internal/util/Preconditions", "checkIndex", "(IILjava/util/function/BiFunction;)I"⟩ := jt_3 45 rfl rfl
abbrev Y_JE_ordinal : jY := (⟨"java/lang/Enum", "ordinal", "()I"⟩, prog_18_method_2_code, 1, (some .int), 1, 0, 0)
theorem mi_JE_ordinal : jMi ⟨"java/lang/Enum", "ordinal", "()I"⟩ prog_18_method_2_code 1 (some .int) 0 := ⟨jt_4 131 rfl rfl, jt_1 4 rfl rfl, ⟨by decide +kernel, by decide +kernel, by decide +kernel⟩, by decide, by decide +kernel⟩
theorem wl_JS_coder : Cond.methodLink "java/lang/String" 335 ⟨"java/lang/String", "coder", "()B"⟩ ∈ jw := jt_3 22 rfl rfl
theorem wl_JS_isLatin1 : Cond.methodLink "java/lang/String" 492 ⟨"java/lang/String", "isLatin1", "()Z"⟩ ∈ jw := jt_3 32 rfl rfl
theorem wl_JL_charAt : Cond.methodLink "java/lang/String" 495 ⟨"java/lang/StringLatin1", "charAt", "([BI)C"⟩ ∈ jw := jt_3 36 rfl rfl
theorem wl_JS_checkIndex : Cond.methodLink "java/lang/StringLatin1" 9 ⟨"java/lang/String", "checkIndex", "(II)V"⟩ ∈ jw := jt_3 39 rfl rfl
theorem wl_JP_checkIndex : Cond.methodLink "java/lang/String" 1059 ⟨"jdk/internal/util/Preconditions", "checkIndex", "(IILjava/util/function/BiFunction;)I"⟩ ∈ jw := jt_3 44 rfl rfl
theorem wl_S_length : Cond.methodLink "CitingLetters$Scanner" 90 ⟨"java/lang/String", "length", "()I"⟩ ∈ jw := jt_3 18 rfl rfl
theorem wl_S_charAt : Cond.methodLink "CitingLetters$Scanner" 95 ⟨"java/lang/String", "charAt", "(I)C"⟩ ∈ jw := jt_3 28 rfl rfl
theorem wl_M_length : Cond.methodLink "CitingLettersModel" 169 ⟨"java/lang/String", "length", "()I"⟩ ∈ jw := jt_7 69 rfl rfl
theorem wl_M_charAt : Cond.methodLink "CitingLettersModel" 174 ⟨"java/lang/String", "charAt", "(I)C"⟩ ∈ jw := jt_7 70 rfl rfl
theorem wf_compact : Cond.fieldLink "java/lang/String" 38 "java/lang/String" "COMPACT_STRINGS" "Z" ∈ jw := jt_3 26 rfl rfl
theorem wf_sioobe : Cond.fieldLink "java/lang/String" 1053 "jdk/internal/util/Preconditions" "SIOOBE_FORMATTER" "Ljava/util/function/BiFunction;" ∈ jw := jt_3 42 rfl rfl
theorem wf_value : Cond.fieldLink "java/lang/String" 9 "java/lang/String" "value" "[B" ∈ jw := jt_8 225 rfl rfl
theorem wf_coder : Cond.fieldLink "java/lang/String" 15 "java/lang/String" "coder" "B" ∈ jw := jt_8 226 rfl rfl
theorem wf_ordinal : Cond.fieldLink "java/lang/Enum" 7 "java/lang/Enum" "ordinal" "I" ∈ jw := jt_8 231 rfl rfl
theorem wf_sw : Cond.fieldLink "CitingLetters$Habits" 88 "CitingLetters$1" "$SwitchMap$CitingLetters$Token" "[I" ∈ jw := jt_4 124 rfl rfl
theorem wn_each : Cond.fieldLinkNest "CitingLetters$Scanner" 76 "CitingLetters$Token" "EACH" "[LCitingLetters$Token;" "CitingLetters" ∈ jnest := jn_3 12 rfl rfl
theorem wo_ord : Cond.methodLink "CitingLetters$Habits" 93 ⟨"CitingLetters$Token", "ordinal", "()I"⟩ ∈ jw ∧ Cond.sameMethod "CitingLetters$Token" "java/lang/Enum" "ordinal" "()I" ∈ jw ∧ Cond.selects "CitingLetters$Token" ⟨"CitingLetters$Token", "ordinal", "()I"⟩ ⟨"java/lang/Enum", "ordinal", "()I"⟩ ∈ jw ∧ Cond.instanceMethod ⟨"java/lang/Enum", "ordinal", "()I"⟩ ∈ jw := ⟨jt_4 126 rfl rfl, jt_4 127 rfl rfl, jt_4 129 rfl rfl, jt_4 130 rfl rfl⟩
