/-! Constants, links, instructions -/
theorem qb_m120 : (Int8.ofInt (-120)).toInt32 = (-120) := by decide
theorem qb_m5 : (Int8.ofInt (-5)).toInt32 = (-5) := by decide
theorem qb_m4 : (Int8.ofInt (-4)).toInt32 = (-4) := by decide
theorem qb_m3 : (Int8.ofInt (-3)).toInt32 = (-3) := by decide
theorem qb_m2 : (Int8.ofInt (-2)).toInt32 = (-2) := by decide
theorem qb_6 : (Int8.ofInt 6).toInt32 = 6 := by decide
theorem qb_7 : (Int8.ofInt 7).toInt32 = 7 := by decide
theorem qb_8 : (Int8.ofInt 8).toInt32 = 8 := by decide
theorem qb_9 : (Int8.ofInt 9).toInt32 = 9 := by decide
theorem qb_10 : (Int8.ofInt 10).toInt32 = 10 := by decide
theorem qb_11 : (Int8.ofInt 11).toInt32 = 11 := by decide
theorem qb_12 : (Int8.ofInt 12).toInt32 = 12 := by decide
theorem qb_15 : (Int8.ofInt 15).toInt32 = 15 := by decide
theorem qb_19 : (Int8.ofInt 19).toInt32 = 19 := by decide
theorem qb_22 : (Int8.ofInt 22).toInt32 = 22 := by decide
theorem qb_24 : (Int8.ofInt 24).toInt32 = 24 := by decide
theorem qb_25 : (Int8.ofInt 25).toInt32 = 25 := by decide
theorem qb_28 : (Int8.ofInt 28).toInt32 = 28 := by decide
theorem qb_29 : (Int8.ofInt 29).toInt32 = 29 := by decide
theorem qb_30 : (Int8.ofInt 30).toInt32 = 30 := by decide
theorem qb_31 : (Int8.ofInt 31).toInt32 = 31 := by decide
theorem qb_32 : (Int8.ofInt 32).toInt32 = 32 := by decide
theorem qb_40 : (Int8.ofInt 40).toInt32 = 40 := by decide
theorem qb_60 : (Int8.ofInt 60).toInt32 = 60 := by decide
theorem qb_63 : (Int8.ofInt 63).toInt32 = 63 := by decide
theorem qb_64 : (Int8.ofInt 64).toInt32 = 64 := by decide
theorem qb_72 : (Int8.ofInt 72).toInt32 = 72 := by decide
theorem qb_100 : (Int8.ofInt 100).toInt32 = 100 := by decide
theorem qb_114 : (Int8.ofInt 114).toInt32 = 114 := by decide
theorem qc_m1 : Int32.ofInt (-1) = (-1) := by decide
theorem qc_0 : Int32.ofInt 0 = 0 := by decide
theorem qc_1 : Int32.ofInt 1 = 1 := by decide
theorem qc_2 : Int32.ofInt 2 = 2 := by decide
theorem qc_3 : Int32.ofInt 3 = 3 := by decide
theorem qc_4 : Int32.ofInt 4 = 4 := by decide
theorem qc_5 : Int32.ofInt 5 = 5 := by decide
theorem qc_7 : Int32.ofInt 7 = 7 := by decide
theorem qn_9 : Int32.ofNat 9 = 9 := by decide
theorem qn_10 : Int32.ofNat 10 = 10 := by decide
theorem qn_20 : Int32.ofNat 20 = 20 := by decide
theorem qn_60 : Int32.ofNat 60 = 60 := by decide
theorem qn_72 : Int32.ofNat 72 = 72 := by decide
theorem qn_366 : Int32.ofNat 366 = 366 := by decide
theorem qn_1098 : Int32.ofNat 1098 = 1098 := by decide
theorem qs_150 : (Int16.ofInt 150).toInt32 = 150 := by decide
theorem qs_200 : (Int16.ofInt 200).toInt32 = 200 := by decide
theorem qs_250 : (Int16.ofInt 250).toInt32 = 250 := by decide
theorem qs_320 : (Int16.ofInt 320).toInt32 = 320 := by decide
theorem qs_365 : (Int16.ofInt 365).toInt32 = 365 := by decide
theorem qs_366 : (Int16.ofInt 366).toInt32 = 366 := by decide
theorem qs_400 : (Int16.ofInt 400).toInt32 = 400 := by decide
theorem qs_451 : (Int16.ofInt 451).toInt32 = 451 := by decide
theorem qs_1900 : (Int16.ofInt 1900).toInt32 = 1900 := by decide
theorem qs_2000 : (Int16.ofInt 2000).toInt32 = 2000 := by decide
theorem qs_2199 : (Int16.ofInt 2199).toInt32 = 2199 := by decide
theorem qs_30000 : (Int16.ofInt 30000).toInt32 = 30000 := by decide
theorem l_fldT_0_11 : lk fldT 0 11 = some (0, 2, 152) := by decide +kernel
theorem l_fldT_0_15 : lk fldT 0 15 = some (0, 3, 153) := by decide +kernel
theorem l_fldT_0_18 : lk fldT 0 18 = some (0, 4, 154) := by decide +kernel
theorem l_fldT_0_21 : lk fldT 0 21 = some (0, 5, 155) := by decide +kernel
theorem l_fldT_0_24 : lk fldT 0 24 = some (0, 6, 156) := by decide +kernel
theorem l_fldT_0_27 : lk fldT 0 27 = some (0, 7, 157) := by decide +kernel
theorem l_fldT_0_31 : lk fldT 0 31 = some (0, 0, 150) := by decide +kernel
theorem l_fldT_0_35 : lk fldT 0 35 = some (0, 1, 151) := by decide +kernel
theorem l_fldT_0_57 : lk fldT 0 57 = some (0, 9, 159) := by decide +kernel
theorem l_fldT_0_91 : lk fldT 0 91 = some (0, 8, 158) := by decide +kernel
theorem l_fldT_1_11 : lk fldT 1 11 = some (1, 0, 237) := by decide +kernel
theorem l_fldT_1_15 : lk fldT 1 15 = some (1, 1, 238) := by decide +kernel
theorem l_fldT_1_18 : lk fldT 1 18 = some (1, 3, 240) := by decide +kernel
theorem l_fldT_1_22 : lk fldT 1 22 = some (1, 2, 239) := by decide +kernel
theorem l_fldT_2_11 : lk fldT 2 11 = some (2, 0, 289) := by decide +kernel
theorem l_fldT_2_15 : lk fldT 2 15 = some (2, 1, 290) := by decide +kernel
theorem l_fldT_2_18 : lk fldT 2 18 = some (2, 2, 291) := by decide +kernel
theorem l_fldT_2_21 : lk fldT 2 21 = some (2, 3, 292) := by decide +kernel
theorem l_fldT_2_24 : lk fldT 2 24 = some (2, 4, 293) := by decide +kernel
theorem l_fldT_2_27 : lk fldT 2 27 = some (2, 5, 294) := by decide +kernel
theorem l_fldT_2_39 : lk fldT 2 39 = some (2, 6, 295) := by decide +kernel
theorem l_fldT_4_9 : lk fldT 4 9 = some (3, 0, 119) := by decide +kernel
theorem l_fldT_4_15 : lk fldT 4 15 = some (3, 1, 120) := by decide +kernel
theorem l_fldT_4_18 : lk fldT 4 18 = some (3, 2, 121) := by decide +kernel
theorem l_fldT_4_21 : lk fldT 4 21 = some (3, 3, 122) := by decide +kernel
theorem l_fldT_4_24 : lk fldT 4 24 = some (3, 4, 123) := by decide +kernel
theorem l_fldT_4_27 : lk fldT 4 27 = some (3, 5, 124) := by decide +kernel
theorem l_fldT_4_30 : lk fldT 4 30 = some (3, 6, 125) := by decide +kernel
theorem l_fldT_4_34 : lk fldT 4 34 = some (3, 7, 126) := by decide +kernel
theorem l_fldT_5_11 : lk fldT 5 11 = some (4, 0, 187) := by decide +kernel
theorem l_fldT_5_15 : lk fldT 5 15 = some (4, 1, 188) := by decide +kernel
theorem l_fldT_5_18 : lk fldT 5 18 = some (4, 2, 189) := by decide +kernel
theorem l_fldT_5_21 : lk fldT 5 21 = some (4, 3, 190) := by decide +kernel
theorem l_fldT_5_24 : lk fldT 5 24 = some (4, 4, 191) := by decide +kernel
theorem l_fldT_5_27 : lk fldT 5 27 = some (4, 5, 192) := by decide +kernel
theorem l_fldT_5_30 : lk fldT 5 30 = some (4, 6, 193) := by decide +kernel
theorem l_fldT_5_33 : lk fldT 5 33 = some (4, 8, 195) := by decide +kernel
theorem l_fldT_5_37 : lk fldT 5 37 = some (4, 9, 196) := by decide +kernel
theorem l_fldT_5_56 : lk fldT 5 56 = some (4, 11, 198) := by decide +kernel
theorem l_fldT_5_69 : lk fldT 5 69 = some (4, 10, 197) := by decide +kernel
theorem l_fldT_5_103 : lk fldT 5 103 = some (4, 7, 194) := by decide +kernel
theorem l_fldT_6_11 : lk fldT 6 11 = some (5, 0, 317) := by decide +kernel
theorem l_fldT_6_15 : lk fldT 6 15 = some (5, 1, 318) := by decide +kernel
theorem l_fldT_6_20 : lk fldT 6 20 = some (5, 2, 319) := by decide +kernel
theorem l_fldT_6_23 : lk fldT 6 23 = some (5, 3, 320) := by decide +kernel
theorem l_fldT_6_32 : lk fldT 6 32 = some (5, 4, 321) := by decide +kernel
theorem l_fldT_7_9 : lk fldT 7 9 = some (6, 0, 89) := by decide +kernel
theorem l_fldT_7_15 : lk fldT 7 15 = some (6, 1, 90) := by decide +kernel
theorem l_fldT_7_19 : lk fldT 7 19 = some (6, 2, 91) := by decide +kernel
theorem l_fldT_7_22 : lk fldT 7 22 = some (6, 3, 92) := by decide +kernel
theorem l_fldT_7_25 : lk fldT 7 25 = some (6, 4, 93) := by decide +kernel
theorem l_fldT_7_28 : lk fldT 7 28 = some (6, 5, 94) := by decide +kernel
theorem l_fldT_7_45 : lk fldT 7 45 = some (6, 6, 95) := by decide +kernel
theorem l_fldT_8_11 : lk fldT 8 11 = some (7, 0, 250) := by decide +kernel
theorem l_fldT_8_18 : lk fldT 8 18 = some (7, 1, 251) := by decide +kernel
theorem l_fldT_8_22 : lk fldT 8 22 = some (7, 2, 252) := by decide +kernel
theorem l_fldT_8_33 : lk fldT 8 33 = some (7, 4, 254) := by decide +kernel
theorem l_fldT_8_44 : lk fldT 8 44 = some (7, 3, 253) := by decide +kernel
theorem l_fldT_9_11 : lk fldT 9 11 = some (8, 0, 273) := by decide +kernel
theorem l_fldT_9_15 : lk fldT 9 15 = some (8, 1, 274) := by decide +kernel
theorem l_fldT_9_19 : lk fldT 9 19 = some (8, 2, 275) := by decide +kernel
theorem l_fldT_10_10 : lk fldT 10 10 = some (9, 0, 333) := by decide +kernel
theorem l_fldT_10_19 : lk fldT 10 19 = some (9, 1, 334) := by decide +kernel
theorem l_fldT_10_28 : lk fldT 10 28 = some (9, 2, 335) := by decide +kernel
theorem l_fldT_10_35 : lk fldT 10 35 = some (9, 3, 336) := by decide +kernel
theorem l_fldT_10_41 : lk fldT 10 41 = some (9, 4, 337) := by decide +kernel
theorem l_fldT_10_48 : lk fldT 10 48 = some (9, 5, 338) := by decide +kernel
theorem l_fldT_10_56 : lk fldT 10 56 = some (9, 6, 339) := by decide +kernel
theorem l_fldT_10_63 : lk fldT 10 63 = some (9, 7, 340) := by decide +kernel
theorem l_fldT_11_32 : lk fldT 11 32 = some (10, 0, 1202) := by decide +kernel
theorem l_fldT_11_36 : lk fldT 11 36 = some (10, 2, 1204) := by decide +kernel
theorem l_fldT_11_40 : lk fldT 11 40 = some (10, 3, 1205) := by decide +kernel
theorem l_fldT_11_44 : lk fldT 11 44 = some (10, 4, 1206) := by decide +kernel
theorem l_fldT_11_47 : lk fldT 11 47 = some (10, 5, 1207) := by decide +kernel
theorem l_fldT_11_50 : lk fldT 11 50 = some (10, 6, 1208) := by decide +kernel
theorem l_fldT_11_53 : lk fldT 11 53 = some (10, 7, 1209) := by decide +kernel
theorem l_fldT_11_56 : lk fldT 11 56 = some (10, 15, 1217) := by decide +kernel
theorem l_fldT_11_66 : lk fldT 11 66 = some (10, 1, 1203) := by decide +kernel
theorem l_fldT_11_73 : lk fldT 11 73 = some (10, 8, 1210) := by decide +kernel
theorem l_fldT_11_76 : lk fldT 11 76 = some (10, 9, 1211) := by decide +kernel
theorem l_fldT_11_79 : lk fldT 11 79 = some (10, 10, 1212) := by decide +kernel
theorem l_fldT_11_82 : lk fldT 11 82 = some (10, 11, 1213) := by decide +kernel
theorem l_fldT_11_85 : lk fldT 11 85 = some (10, 12, 1214) := by decide +kernel
theorem l_fldT_11_88 : lk fldT 11 88 = some (10, 13, 1215) := by decide +kernel
theorem l_fldT_11_91 : lk fldT 11 91 = some (10, 14, 1216) := by decide +kernel
theorem l_fldT_11_97 : lk fldT 11 97 = some (10, 23, 1225) := by decide +kernel
theorem l_fldT_11_100 : lk fldT 11 100 = some (10, 22, 1224) := by decide +kernel
theorem l_fldT_11_103 : lk fldT 11 103 = some (10, 24, 1226) := by decide +kernel
theorem l_fldT_11_106 : lk fldT 11 106 = some (10, 25, 1227) := by decide +kernel
theorem l_fldT_11_109 : lk fldT 11 109 = some (10, 26, 1228) := by decide +kernel
theorem l_fldT_11_112 : lk fldT 11 112 = some (10, 27, 1229) := by decide +kernel
theorem l_fldT_11_115 : lk fldT 11 115 = some (10, 28, 1230) := by decide +kernel
theorem l_fldT_11_122 : lk fldT 11 122 = some (10, 29, 1231) := by decide +kernel
theorem l_fldT_11_129 : lk fldT 11 129 = some (10, 16, 1218) := by decide +kernel
theorem l_fldT_11_138 : lk fldT 11 138 = some (10, 17, 1219) := by decide +kernel
theorem l_fldT_11_158 : lk fldT 11 158 = some (10, 18, 1220) := by decide +kernel
theorem l_fldT_11_161 : lk fldT 11 161 = some (10, 19, 1221) := by decide +kernel
theorem l_fldT_11_164 : lk fldT 11 164 = some (10, 20, 1222) := by decide +kernel
theorem l_fldT_11_167 : lk fldT 11 167 = some (10, 21, 1223) := by decide +kernel
theorem l_fldT_11_173 : lk fldT 11 173 = some (10, 30, 1232) := by decide +kernel
theorem l_fldT_11_176 : lk fldT 11 176 = some (10, 31, 1233) := by decide +kernel
theorem l_fldT_11_198 : lk fldT 11 198 = some (10, 32, 1234) := by decide +kernel
theorem l_fldT_11_201 : lk fldT 11 201 = some (10, 33, 1235) := by decide +kernel
theorem l_fldT_11_204 : lk fldT 11 204 = some (10, 34, 1236) := by decide +kernel
theorem l_fldT_11_207 : lk fldT 11 207 = some (10, 35, 1237) := by decide +kernel
theorem l_fldT_11_210 : lk fldT 11 210 = some (10, 36, 1238) := by decide +kernel
theorem l_fldT_11_213 : lk fldT 11 213 = some (10, 37, 1239) := by decide +kernel
theorem l_fldT_11_216 : lk fldT 11 216 = some (10, 39, 1241) := by decide +kernel
theorem l_fldT_11_219 : lk fldT 11 219 = some (10, 40, 1242) := by decide +kernel
theorem l_fldT_11_222 : lk fldT 11 222 = some (10, 41, 1243) := by decide +kernel
theorem l_fldT_11_225 : lk fldT 11 225 = some (10, 43, 1245) := by decide +kernel
theorem l_fldT_11_228 : lk fldT 11 228 = some (10, 44, 1246) := by decide +kernel
theorem l_fldT_11_231 : lk fldT 11 231 = some (10, 45, 1247) := by decide +kernel
theorem l_fldT_11_234 : lk fldT 11 234 = some (10, 46, 1248) := by decide +kernel
theorem l_fldT_11_237 : lk fldT 11 237 = some (10, 47, 1249) := by decide +kernel
theorem l_fldT_11_240 : lk fldT 11 240 = some (10, 48, 1250) := by decide +kernel
theorem l_fldT_11_243 : lk fldT 11 243 = some (10, 49, 1251) := by decide +kernel
theorem l_fldT_11_246 : lk fldT 11 246 = some (10, 50, 1252) := by decide +kernel
theorem l_fldT_11_249 : lk fldT 11 249 = some (10, 51, 1253) := by decide +kernel
theorem l_fldT_11_252 : lk fldT 11 252 = some (10, 54, 1256) := by decide +kernel
theorem l_fldT_11_255 : lk fldT 11 255 = some (10, 55, 1257) := by decide +kernel
theorem l_fldT_11_258 : lk fldT 11 258 = some (10, 56, 1258) := by decide +kernel
theorem l_fldT_11_261 : lk fldT 11 261 = some (10, 57, 1259) := by decide +kernel
theorem l_fldT_11_264 : lk fldT 11 264 = some (10, 58, 1260) := by decide +kernel
theorem l_fldT_11_267 : lk fldT 11 267 = some (10, 60, 1262) := by decide +kernel
theorem l_fldT_11_270 : lk fldT 11 270 = some (10, 61, 1263) := by decide +kernel
theorem l_fldT_11_273 : lk fldT 11 273 = some (10, 62, 1264) := by decide +kernel
theorem l_fldT_11_276 : lk fldT 11 276 = some (10, 63, 1265) := by decide +kernel
theorem l_fldT_11_282 : lk fldT 11 282 = some (10, 38, 1240) := by decide +kernel
theorem l_fldT_11_288 : lk fldT 11 288 = some (10, 42, 1244) := by decide +kernel
theorem l_fldT_11_310 : lk fldT 11 310 = some (10, 52, 1254) := by decide +kernel
theorem l_fldT_11_313 : lk fldT 11 313 = some (10, 53, 1255) := by decide +kernel
theorem l_fldT_11_319 : lk fldT 11 319 = some (10, 59, 1261) := by decide +kernel
theorem l_gsT_3_23 : lk gsT 3 23 = some (1, 398) := by decide +kernel
theorem l_gsT_3_31 : lk gsT 3 31 = some (2, 383) := by decide +kernel
theorem l_invT_0_39 : lk invT 0 39 = some (11, 0, 483) := by decide +kernel
theorem l_invT_0_45 : lk invT 0 45 = some (43, 2, 486) := by decide +kernel
theorem l_invT_0_49 : lk invT 0 49 = some (13, 0, 484) := by decide +kernel
theorem l_invT_0_53 : lk invT 0 53 = some (12, 1, 485) := by decide +kernel
theorem l_invT_0_60 : lk invT 0 60 = some (18, 1, 548) := by decide +kernel
theorem l_invT_0_64 : lk invT 0 64 = some (78, 2, 636) := by decide +kernel
theorem l_invT_0_68 : lk invT 0 68 = some (81, 2, 648) := by decide +kernel
theorem l_invT_0_71 : lk invT 0 71 = some (72, 0, 615) := by decide +kernel
theorem l_invT_0_74 : lk invT 0 74 = some (73, 0, 618) := by decide +kernel
theorem l_invT_0_77 : lk invT 0 77 = some (82, 0, 652) := by decide +kernel
theorem l_invT_0_80 : lk invT 0 80 = some (74, 0, 621) := by decide +kernel
theorem l_invT_0_83 : lk invT 0 83 = some (79, 2, 640) := by decide +kernel
theorem l_invT_0_88 : lk invT 0 88 = some (80, 2, 644) := by decide +kernel
theorem l_invT_0_94 : lk invT 0 94 = some (77, 2, 684) := by decide +kernel
theorem l_invT_0_97 : lk invT 0 97 = some (50, 2, 524) := by decide +kernel
theorem l_invT_0_101 : lk invT 0 101 = some (15, 0, 490) := by decide +kernel
theorem l_invT_0_103 : lk invT 0 103 = some (44, 2, 491) := by decide +kernel
theorem l_invT_0_106 : lk invT 0 106 = some (51, 2, 528) := by decide +kernel
theorem l_invT_0_109 : lk invT 0 109 = some (25, 1, 523) := by decide +kernel
theorem l_invT_0_113 : lk invT 0 113 = some (53, 2, 540) := by decide +kernel
theorem l_invT_0_117 : lk invT 0 117 = some (66, 2, 591) := by decide +kernel
theorem l_invT_0_120 : lk invT 0 120 = some (75, 2, 624) := by decide +kernel
theorem l_invT_0_123 : lk invT 0 123 = some (45, 2, 495) := by decide +kernel
theorem l_invT_0_124 : lk invT 0 124 = some (46, 2, 499) := by decide +kernel
theorem l_invT_0_127 : lk invT 0 127 = some (0, 7, 515) := by decide +kernel
theorem l_invT_0_132 : lk invT 0 132 = some (49, 2, 516) := by decide +kernel
theorem l_invT_0_135 : lk invT 0 135 = some (0, 6, 520) := by decide +kernel
theorem l_invT_0_138 : lk invT 0 138 = some (54, 2, 544) := by decide +kernel
theorem l_invT_0_141 : lk invT 0 141 = some (55, 2, 549) := by decide +kernel
theorem l_invT_0_144 : lk invT 0 144 = some (56, 0, 553) := by decide +kernel
theorem l_invT_0_148 : lk invT 0 148 = some (58, 2, 559) := by decide +kernel
theorem l_invT_0_152 : lk invT 0 152 = some (60, 2, 567) := by decide +kernel
theorem l_invT_0_156 : lk invT 0 156 = some (61, 2, 571) := by decide +kernel
theorem l_invT_0_159 : lk invT 0 159 = some (63, 2, 579) := by decide +kernel
theorem l_invT_0_162 : lk invT 0 162 = some (64, 2, 583) := by decide +kernel
theorem l_invT_0_165 : lk invT 0 165 = some (65, 2, 587) := by decide +kernel
theorem l_invT_0_168 : lk invT 0 168 = some (59, 2, 563) := by decide +kernel
theorem l_invT_0_172 : lk invT 0 172 = some (67, 2, 595) := by decide +kernel
theorem l_invT_0_175 : lk invT 0 175 = some (70, 2, 607) := by decide +kernel
theorem l_invT_0_178 : lk invT 0 178 = some (68, 2, 599) := by decide +kernel
theorem l_invT_0_181 : lk invT 0 181 = some (69, 2, 603) := by decide +kernel
theorem l_invT_0_185 : lk invT 0 185 = some (62, 2, 575) := by decide +kernel
theorem l_invT_0_187 : lk invT 0 187 = some (71, 2, 611) := by decide +kernel
theorem l_invT_0_190 : lk invT 0 190 = some (76, 2, 628) := by decide +kernel
theorem l_invT_0_193 : lk invT 0 193 = some (57, 0, 556) := by decide +kernel
theorem l_invT_1_25 : lk invT 1 25 = some (25, 1, 870) := by decide +kernel
theorem l_invT_1_29 : lk invT 1 29 = some (12, 1, 887) := by decide +kernel
theorem l_invT_1_33 : lk invT 1 33 = some (129, 0, 888) := by decide +kernel
theorem l_invT_1_39 : lk invT 1 39 = some (18, 1, 963) := by decide +kernel
theorem l_invT_2_31 : lk invT 2 31 = some (12, 1, 977) := by decide +kernel
theorem l_invT_2_35 : lk invT 2 35 = some (25, 1, 978) := by decide +kernel
theorem l_invT_2_42 : lk invT 2 42 = some (161, 2, 987) := by decide +kernel
theorem l_invT_2_46 : lk invT 2 46 = some (11, 0, 991) := by decide +kernel
theorem l_invT_2_51 : lk invT 2 51 = some (13, 0, 992) := by decide +kernel
theorem l_invT_2_55 : lk invT 2 55 = some (18, 1, 1012) := by decide +kernel
theorem l_invT_3_9 : lk invT 3 9 = some (12, 1, 365) := by decide +kernel
theorem l_invT_3_13 : lk invT 3 13 = some (14, 0, 371) := by decide +kernel
theorem l_invT_3_19 : lk invT 3 19 = some (17, 0, 380) := by decide +kernel
theorem l_invT_3_27 : lk invT 3 27 = some (18, 1, 385) := by decide +kernel
theorem l_invT_3_34 : lk invT 3 34 = some (21, 0, 395) := by decide +kernel
theorem l_invT_3_37 : lk invT 3 37 = some (20, 0, 449) := by decide +kernel
theorem l_invT_3_41 : lk invT 3 41 = some (0, 7, 511) := by decide +kernel
theorem l_invT_3_46 : lk invT 3 46 = some (15, 0, 539) := by decide +kernel
theorem l_invT_4_38 : lk invT 4 38 = some (33, 0, 443) := by decide +kernel
theorem l_invT_4_42 : lk invT 4 42 = some (35, 0, 451) := by decide +kernel
theorem l_invT_4_45 : lk invT 4 45 = some (12, 1, 450) := by decide +kernel
theorem l_invT_4_49 : lk invT 4 49 = some (25, 1, 454) := by decide +kernel
theorem l_invT_4_53 : lk invT 4 53 = some (34, 0, 446) := by decide +kernel
theorem l_invT_4_59 : lk invT 4 59 = some (38, 2, 463) := by decide +kernel
theorem l_invT_4_62 : lk invT 4 62 = some (18, 1, 532) := by decide +kernel
theorem l_invT_4_66 : lk invT 4 66 = some (20, 0, 533) := by decide +kernel
theorem l_invT_4_70 : lk invT 4 70 = some (16, 0, 534) := by decide +kernel
theorem l_invT_4_74 : lk invT 4 74 = some (13, 0, 535) := by decide +kernel
theorem l_invT_4_77 : lk invT 4 77 = some (52, 0, 536) := by decide +kernel
theorem l_invT_5_40 : lk invT 5 40 = some (12, 1, 705) := by decide +kernel
theorem l_invT_5_44 : lk invT 5 44 = some (94, 2, 701) := by decide +kernel
theorem l_invT_5_48 : lk invT 5 48 = some (18, 1, 706) := by decide +kernel
theorem l_invT_5_52 : lk invT 5 52 = some (25, 1, 707) := by decide +kernel
theorem l_invT_5_60 : lk invT 5 60 = some (97, 2, 716) := by decide +kernel
theorem l_invT_5_63 : lk invT 5 63 = some (100, 2, 728) := by decide +kernel
theorem l_invT_5_66 : lk invT 5 66 = some (107, 2, 756) := by decide +kernel
theorem l_invT_5_72 : lk invT 5 72 = some (114, 2, 787) := by decide +kernel
theorem l_invT_5_76 : lk invT 5 76 = some (115, 2, 791) := by decide +kernel
theorem l_invT_5_80 : lk invT 5 80 = some (121, 2, 816) := by decide +kernel
theorem l_invT_5_84 : lk invT 5 84 = some (122, 2, 820) := by decide +kernel
theorem l_invT_5_87 : lk invT 5 87 = some (125, 2, 833) := by decide +kernel
theorem l_invT_5_90 : lk invT 5 90 = some (108, 2, 760) := by decide +kernel
theorem l_invT_5_93 : lk invT 5 93 = some (109, 2, 764) := by decide +kernel
theorem l_invT_5_96 : lk invT 5 96 = some (111, 2, 773) := by decide +kernel
theorem l_invT_5_99 : lk invT 5 99 = some (112, 2, 777) := by decide +kernel
theorem l_invT_5_106 : lk invT 5 106 = some (0, 6, 768) := by decide +kernel
theorem l_invT_5_111 : lk invT 5 111 = some (110, 2, 769) := by decide +kernel
theorem l_invT_6_26 : lk invT 6 26 = some (0, 7, 1001) := by decide +kernel
theorem l_invT_6_36 : lk invT 6 36 = some (119, 2, 1002) := by decide +kernel
theorem l_invT_6_42 : lk invT 6 42 = some (25, 1, 1003) := by decide +kernel
theorem l_invT_6_46 : lk invT 6 46 = some (164, 2, 1004) := by decide +kernel
theorem l_invT_6_50 : lk invT 6 50 = some (165, 2, 1008) := by decide +kernel
theorem l_invT_6_53 : lk invT 6 53 = some (166, 2, 1013) := by decide +kernel
theorem l_invT_6_57 : lk invT 6 57 = some (18, 1, 1017) := by decide +kernel
theorem l_invT_6_61 : lk invT 6 61 = some (167, 0, 1018) := by decide +kernel
theorem l_invT_6_64 : lk invT 6 64 = some (168, 2, 1021) := by decide +kernel
theorem l_invT_6_67 : lk invT 6 67 = some (172, 0, 1037) := by decide +kernel
theorem l_invT_6_71 : lk invT 6 71 = some (173, 2, 1040) := by decide +kernel
theorem l_invT_6_75 : lk invT 6 75 = some (169, 2, 1025) := by decide +kernel
theorem l_invT_6_78 : lk invT 6 78 = some (170, 2, 1029) := by decide +kernel
theorem l_invT_6_82 : lk invT 6 82 = some (171, 2, 1033) := by decide +kernel
theorem l_invT_6_86 : lk invT 6 86 = some (12, 1, 1061) := by decide +kernel
theorem l_invT_7_31 : lk invT 7 31 = some (12, 1, 408) := by decide +kernel
theorem l_invT_7_35 : lk invT 7 35 = some (24, 2, 409) := by decide +kernel
theorem l_invT_7_39 : lk invT 7 39 = some (30, 0, 432) := by decide +kernel
theorem l_invT_7_49 : lk invT 7 49 = some (25, 1, 413) := by decide +kernel
theorem l_invT_7_53 : lk invT 7 53 = some (47, 2, 503) := by decide +kernel
theorem l_invT_7_56 : lk invT 7 56 = some (18, 1, 507) := by decide +kernel
theorem l_invT_7_60 : lk invT 7 60 = some (48, 0, 508) := by decide +kernel
theorem l_invT_7_64 : lk invT 7 64 = some (16, 0, 514) := by decide +kernel
theorem l_invT_8_25 : lk invT 8 25 = some (12, 1, 852) := by decide +kernel
theorem l_invT_8_29 : lk invT 8 29 = some (129, 0, 849) := by decide +kernel
theorem l_invT_8_37 : lk invT 8 37 = some (132, 2, 861) := by decide +kernel
theorem l_invT_8_41 : lk invT 8 41 = some (133, 2, 866) := by decide +kernel
theorem l_invT_8_47 : lk invT 8 47 = some (25, 1, 865) := by decide +kernel
theorem l_invT_8_51 : lk invT 8 51 = some (148, 2, 929) := by decide +kernel
theorem l_invT_8_56 : lk invT 8 56 = some (150, 2, 937) := by decide +kernel
theorem l_invT_8_59 : lk invT 8 59 = some (149, 2, 941) := by decide +kernel
theorem l_invT_8_62 : lk invT 8 62 = some (151, 2, 942) := by decide +kernel
theorem l_invT_8_66 : lk invT 8 66 = some (153, 2, 951) := by decide +kernel
theorem l_invT_8_70 : lk invT 8 70 = some (154, 2, 955) := by decide +kernel
theorem l_invT_8_73 : lk invT 8 73 = some (155, 2, 959) := by decide +kernel
theorem l_invT_8_77 : lk invT 8 77 = some (156, 2, 964) := by decide +kernel
theorem l_invT_8_80 : lk invT 8 80 = some (18, 1, 968) := by decide +kernel
theorem l_invT_9_22 : lk invT 9 22 = some (149, 2, 933) := by decide +kernel
theorem l_invT_9_26 : lk invT 9 26 = some (152, 2, 946) := by decide +kernel
theorem l_invT_9_30 : lk invT 9 30 = some (0, 6, 950) := by decide +kernel
theorem l_invT_10_67 : lk invT 10 67 = some (11, 0, 362) := by decide +kernel
theorem l_invT_10_73 : lk invT 10 73 = some (13, 0, 368) := by decide +kernel
theorem l_invT_10_77 : lk invT 10 77 = some (15, 0, 374) := by decide +kernel
theorem l_invT_10_80 : lk invT 10 80 = some (16, 0, 377) := by decide +kernel
theorem l_invT_10_83 : lk invT 10 83 = some (20, 0, 392) := by decide +kernel
theorem l_invT_10_87 : lk invT 10 87 = some (23, 2, 404) := by decide +kernel
theorem l_invT_10_91 : lk invT 10 91 = some (26, 2, 416) := by decide +kernel
theorem l_invT_10_94 : lk invT 10 94 = some (29, 2, 428) := by decide +kernel
theorem l_invT_10_97 : lk invT 10 97 = some (32, 2, 439) := by decide +kernel
theorem l_invT_10_100 : lk invT 10 100 = some (37, 2, 459) := by decide +kernel
theorem l_invT_10_104 : lk invT 10 104 = some (40, 2, 471) := by decide +kernel
theorem l_invT_10_107 : lk invT 10 107 = some (42, 2, 479) := by decide +kernel
theorem l_invT_10_111 : lk invT 10 111 = some (77, 2, 632) := by decide +kernel
theorem l_invT_10_115 : lk invT 10 115 = some (84, 2, 659) := by decide +kernel
theorem l_invT_10_118 : lk invT 10 118 = some (38, 2, 667) := by decide +kernel
theorem l_invT_10_121 : lk invT 10 121 = some (86, 2, 668) := by decide +kernel
theorem l_invT_10_124 : lk invT 10 124 = some (87, 2, 672) := by decide +kernel
theorem l_invT_10_127 : lk invT 10 127 = some (89, 2, 680) := by decide +kernel
theorem l_invT_10_130 : lk invT 10 130 = some (90, 2, 685) := by decide +kernel
theorem l_invT_10_134 : lk invT 10 134 = some (91, 2, 689) := by decide +kernel
theorem l_invT_10_137 : lk invT 10 137 = some (93, 2, 697) := by decide +kernel
theorem l_invT_10_140 : lk invT 10 140 = some (96, 2, 712) := by decide +kernel
theorem l_invT_10_143 : lk invT 10 143 = some (99, 2, 724) := by decide +kernel
theorem l_invT_10_146 : lk invT 10 146 = some (102, 2, 736) := by decide +kernel
theorem l_invT_10_149 : lk invT 10 149 = some (104, 2, 744) := by decide +kernel
theorem l_invT_10_152 : lk invT 10 152 = some (106, 2, 752) := by decide +kernel
theorem l_invT_10_155 : lk invT 10 155 = some (12, 0, 781) := by decide +kernel
theorem l_invT_10_159 : lk invT 10 159 = some (100, 2, 782) := by decide +kernel
theorem l_invT_10_162 : lk invT 10 162 = some (113, 2, 783) := by decide +kernel
theorem l_invT_10_165 : lk invT 10 165 = some (116, 2, 795) := by decide +kernel
theorem l_invT_10_168 : lk invT 10 168 = some (117, 2, 799) := by decide +kernel
theorem l_invT_10_171 : lk invT 10 171 = some (54, 2, 807) := by decide +kernel
theorem l_invT_10_174 : lk invT 10 174 = some (119, 2, 808) := by decide +kernel
theorem l_invT_10_177 : lk invT 10 177 = some (120, 2, 812) := by decide +kernel
theorem l_invT_10_181 : lk invT 10 181 = some (94, 2, 828) := by decide +kernel
theorem l_invT_10_184 : lk invT 10 184 = some (124, 2, 829) := by decide +kernel
theorem l_invT_10_187 : lk invT 10 187 = some (127, 2, 841) := by decide +kernel
theorem l_invT_10_191 : lk invT 10 191 = some (128, 2, 845) := by decide +kernel
theorem l_invT_10_194 : lk invT 10 194 = some (131, 2, 857) := by decide +kernel
theorem l_invT_10_197 : lk invT 10 197 = some (135, 2, 875) := by decide +kernel
theorem l_invT_10_201 : lk invT 10 201 = some (137, 2, 883) := by decide +kernel
theorem l_invT_10_206 : lk invT 10 206 = some (139, 2, 893) := by decide +kernel
theorem l_invT_10_209 : lk invT 10 209 = some (141, 2, 901) := by decide +kernel
theorem l_invT_10_213 : lk invT 10 213 = some (142, 2, 905) := by decide +kernel
theorem l_invT_10_217 : lk invT 10 217 = some (144, 2, 913) := by decide +kernel
theorem l_invT_10_220 : lk invT 10 220 = some (146, 2, 921) := by decide +kernel
theorem l_invT_10_223 : lk invT 10 223 = some (147, 2, 925) := by decide +kernel
theorem l_invT_10_227 : lk invT 10 227 = some (158, 2, 973) := by decide +kernel
theorem l_invT_10_230 : lk invT 10 230 = some (160, 2, 983) := by decide +kernel
theorem l_invT_10_233 : lk invT 10 233 = some (163, 2, 997) := by decide +kernel
theorem l_invT_10_237 : lk invT 10 237 = some (175, 2, 1048) := by decide +kernel
theorem l_invT_10_240 : lk invT 10 240 = some (161, 2, 1056) := by decide +kernel
theorem l_invT_10_243 : lk invT 10 243 = some (177, 2, 1057) := by decide +kernel
theorem l_invT_10_246 : lk invT 10 246 = some (27, 2, 420) := by decide +kernel
theorem l_invT_10_249 : lk invT 10 249 = some (136, 2, 879) := by decide +kernel
theorem l_invT_11_1 : lk invT 11 1 = some (180, 0, 1069) := by decide +kernel
theorem l_invT_11_7 : lk invT 11 7 = some (182, 0, 1075) := by decide +kernel
theorem l_invT_11_11 : lk invT 11 11 = some (186, 0, 1087) := by decide +kernel
theorem l_invT_11_15 : lk invT 11 15 = some (181, 0, 1072) := by decide +kernel
theorem l_invT_11_19 : lk invT 11 19 = some (185, 0, 1084) := by decide +kernel
theorem l_invT_11_23 : lk invT 11 23 = some (179, 0, 1066) := by decide +kernel
theorem l_invT_11_26 : lk invT 11 26 = some (183, 0, 1078) := by decide +kernel
theorem l_invT_11_29 : lk invT 11 29 = some (184, 0, 1081) := by decide +kernel
theorem l_invT_11_59 : lk invT 11 59 = some (189, 2, 1098) := by decide +kernel
theorem l_invT_11_63 : lk invT 11 63 = some (191, 0, 1107) := by decide +kernel
theorem l_invT_11_69 : lk invT 11 69 = some (193, 0, 1114) := by decide +kernel
theorem l_invT_11_94 : lk invT 11 94 = some (200, 0, 1139) := by decide +kernel
theorem l_invT_11_118 : lk invT 11 118 = some (202, 2, 1146) := by decide +kernel
theorem l_invT_11_125 : lk invT 11 125 = some (203, 2, 1150) := by decide +kernel
theorem l_invT_11_132 : lk invT 11 132 = some (205, 0, 1158) := by decide +kernel
theorem l_invT_11_135 : lk invT 11 135 = some (199, 0, 1136) := by decide +kernel
theorem l_invT_11_141 : lk invT 11 141 = some (201, 2, 1142) := by decide +kernel
theorem l_invT_11_145 : lk invT 11 145 = some (204, 2, 1154) := by decide +kernel
theorem l_invT_11_148 : lk invT 11 148 = some (206, 2, 1161) := by decide +kernel
theorem l_invT_11_151 : lk invT 11 151 = some (207, 2, 1165) := by decide +kernel
theorem l_invT_11_155 : lk invT 11 155 = some (209, 2, 1173) := by decide +kernel
theorem l_invT_11_170 : lk invT 11 170 = some (208, 2, 1169) := by decide +kernel
theorem l_invT_11_179 : lk invT 11 179 = some (197, 0, 1129) := by decide +kernel
theorem l_invT_11_182 : lk invT 11 182 = some (198, 2, 1132) := by decide +kernel
theorem l_invT_11_186 : lk invT 11 186 = some (210, 2, 1177) := by decide +kernel
theorem l_invT_11_189 : lk invT 11 189 = some (213, 2, 1189) := by decide +kernel
theorem l_invT_11_279 : lk invT 11 279 = some (223, 2, 1423) := by decide +kernel
theorem l_invT_11_285 : lk invT 11 285 = some (222, 2, 1419) := by decide +kernel
theorem l_invT_11_291 : lk invT 11 291 = some (226, 2, 1435) := by decide +kernel
theorem l_invT_11_294 : lk invT 11 294 = some (225, 2, 1431) := by decide +kernel
theorem l_invT_11_297 : lk invT 11 297 = some (229, 0, 1447) := by decide +kernel
theorem l_invT_11_300 : lk invT 11 300 = some (236, 2, 1474) := by decide +kernel
theorem l_invT_11_303 : lk invT 11 303 = some (237, 0, 1478) := by decide +kernel
theorem l_invT_11_306 : lk invT 11 306 = some (238, 2, 1481) := by decide +kernel
theorem l_invT_11_316 : lk invT 11 316 = some (243, 2, 1501) := by decide +kernel
theorem l_invT_11_322 : lk invT 11 322 = some (242, 2, 1497) := by decide +kernel
theorem l_invT_11_326 : lk invT 11 326 = some (244, 0, 1505) := by decide +kernel
theorem l_invT_12_13 : lk invT 12 13 = some (10, 2, 358) := by decide +kernel
theorem l_invT_12_17 : lk invT 12 17 = some (178, 2, 1062) := by decide +kernel
theorem l_invT_12_18 : lk invT 12 18 = some (19, 2, 388) := by decide +kernel
theorem l_invT_12_22 : lk invT 12 22 = some (187, 2, 1090) := by decide +kernel
theorem l_invT_12_23 : lk invT 12 23 = some (22, 2, 400) := by decide +kernel
theorem l_invT_12_27 : lk invT 12 27 = some (188, 2, 1094) := by decide +kernel
theorem l_invT_12_28 : lk invT 12 28 = some (28, 2, 424) := by decide +kernel
theorem l_invT_12_31 : lk invT 12 31 = some (190, 2, 1103) := by decide +kernel
theorem l_invT_12_32 : lk invT 12 32 = some (31, 2, 435) := by decide +kernel
theorem l_invT_12_35 : lk invT 12 35 = some (192, 2, 1110) := by decide +kernel
theorem l_invT_12_36 : lk invT 12 36 = some (36, 2, 455) := by decide +kernel
theorem l_invT_12_40 : lk invT 12 40 = some (194, 2, 1117) := by decide +kernel
theorem l_invT_12_41 : lk invT 12 41 = some (39, 2, 467) := by decide +kernel
theorem l_invT_12_44 : lk invT 12 44 = some (195, 2, 1121) := by decide +kernel
theorem l_invT_12_45 : lk invT 12 45 = some (41, 2, 475) := by decide +kernel
theorem l_invT_12_48 : lk invT 12 48 = some (196, 2, 1125) := by decide +kernel
theorem l_invT_12_49 : lk invT 12 49 = some (83, 2, 655) := by decide +kernel
theorem l_invT_12_53 : lk invT 12 53 = some (211, 2, 1181) := by decide +kernel
theorem l_invT_12_54 : lk invT 12 54 = some (85, 2, 663) := by decide +kernel
theorem l_invT_12_57 : lk invT 12 57 = some (212, 2, 1185) := by decide +kernel
theorem l_invT_12_58 : lk invT 12 58 = some (88, 2, 676) := by decide +kernel
theorem l_invT_12_61 : lk invT 12 61 = some (214, 2, 1193) := by decide +kernel
theorem l_invT_12_62 : lk invT 12 62 = some (92, 2, 693) := by decide +kernel
theorem l_invT_12_65 : lk invT 12 65 = some (216, 2, 1395) := by decide +kernel
theorem l_invT_12_66 : lk invT 12 66 = some (95, 2, 708) := by decide +kernel
theorem l_invT_12_70 : lk invT 12 70 = some (217, 2, 1399) := by decide +kernel
theorem l_invT_12_71 : lk invT 12 71 = some (98, 2, 720) := by decide +kernel
theorem l_invT_12_74 : lk invT 12 74 = some (218, 2, 1403) := by decide +kernel
theorem l_invT_12_75 : lk invT 12 75 = some (101, 2, 732) := by decide +kernel
theorem l_invT_12_78 : lk invT 12 78 = some (219, 2, 1407) := by decide +kernel
theorem l_invT_12_79 : lk invT 12 79 = some (103, 2, 740) := by decide +kernel
theorem l_invT_12_82 : lk invT 12 82 = some (220, 2, 1411) := by decide +kernel
theorem l_invT_12_83 : lk invT 12 83 = some (105, 2, 748) := by decide +kernel
theorem l_invT_12_86 : lk invT 12 86 = some (221, 2, 1415) := by decide +kernel
theorem l_invT_12_87 : lk invT 12 87 = some (118, 2, 803) := by decide +kernel
theorem l_invT_12_90 : lk invT 12 90 = some (224, 2, 1427) := by decide +kernel
theorem l_invT_12_91 : lk invT 12 91 = some (123, 2, 824) := by decide +kernel
theorem l_invT_12_94 : lk invT 12 94 = some (227, 2, 1439) := by decide +kernel
theorem l_invT_12_95 : lk invT 12 95 = some (126, 2, 837) := by decide +kernel
theorem l_invT_12_98 : lk invT 12 98 = some (228, 2, 1443) := by decide +kernel
theorem l_invT_12_99 : lk invT 12 99 = some (130, 2, 853) := by decide +kernel
theorem l_invT_12_102 : lk invT 12 102 = some (230, 2, 1450) := by decide +kernel
theorem l_invT_12_103 : lk invT 12 103 = some (134, 2, 871) := by decide +kernel
theorem l_invT_12_107 : lk invT 12 107 = some (231, 2, 1454) := by decide +kernel
theorem l_invT_12_108 : lk invT 12 108 = some (138, 2, 889) := by decide +kernel
theorem l_invT_12_111 : lk invT 12 111 = some (232, 2, 1458) := by decide +kernel
theorem l_invT_12_112 : lk invT 12 112 = some (140, 2, 897) := by decide +kernel
theorem l_invT_12_116 : lk invT 12 116 = some (233, 2, 1462) := by decide +kernel
theorem l_invT_12_117 : lk invT 12 117 = some (143, 2, 909) := by decide +kernel
theorem l_invT_12_120 : lk invT 12 120 = some (234, 2, 1466) := by decide +kernel
theorem l_invT_12_121 : lk invT 12 121 = some (145, 2, 917) := by decide +kernel
theorem l_invT_12_124 : lk invT 12 124 = some (235, 2, 1470) := by decide +kernel
theorem l_invT_12_125 : lk invT 12 125 = some (157, 2, 969) := by decide +kernel
theorem l_invT_12_128 : lk invT 12 128 = some (239, 2, 1485) := by decide +kernel
theorem l_invT_12_129 : lk invT 12 129 = some (159, 2, 979) := by decide +kernel
theorem l_invT_12_132 : lk invT 12 132 = some (240, 2, 1489) := by decide +kernel
theorem l_invT_12_133 : lk invT 12 133 = some (162, 2, 993) := by decide +kernel
theorem l_invT_12_136 : lk invT 12 136 = some (241, 2, 1493) := by decide +kernel
theorem l_invT_12_137 : lk invT 12 137 = some (174, 2, 1044) := by decide +kernel
theorem l_invT_12_140 : lk invT 12 140 = some (245, 2, 1508) := by decide +kernel
theorem l_invT_12_141 : lk invT 12 141 = some (176, 2, 1052) := by decide +kernel
theorem l_invT_12_144 : lk invT 12 144 = some (246, 2, 1512) := by decide +kernel
theorem k_Bk_year : mrec 10 = some r_Bk_year := rfl
theorem k_Day_isYear : mrec 11 = some r_Day_isYear := rfl
theorem k_Bk_within : mrec 12 = some r_Bk_within := rfl
theorem k_Day_lengthOf : mrec 13 = some r_Day_lengthOf := rfl
theorem k_Day_isLeap : mrec 14 = some r_Day_isLeap := rfl
theorem k_Day_firstWeekday : mrec 15 = some r_Day_firstWeekday := rfl
theorem k_Day_easter : mrec 16 = some r_Day_easter := rfl
theorem k_Day_firstOfMonth : mrec 17 = some r_Day_firstOfMonth := rfl
theorem k_Bk_at : mrec 18 = some r_Bk_at := rfl
theorem k_Bk_day : mrec 19 = some r_Bk_day := rfl
theorem k_Day_dayOf : mrec 20 = some r_Day_dayOf := rfl
theorem k_Day_lengthOfMonth : mrec 21 = some r_Day_lengthOfMonth := rfl
theorem k_Bk_season : mrec 22 = some r_Bk_season := rfl
theorem k_Sea_tellFromEaster : mrec 23 = some r_Sea_tellFromEaster := rfl
theorem k_Sea_add : mrec 24 = some r_Sea_add := rfl
theorem k_Bk_put : mrec 25 = some r_Bk_put := rfl
theorem k_Bk_forgetIfTold : mrec 26 = some r_Bk_forgetIfTold := rfl
theorem k_Alm_forget : mrec 27 = some r_Alm_forget := rfl
theorem k_Bk_dated : mrec 28 = some r_Bk_dated := rfl
theorem k_Sea_tellByDates : mrec 29 = some r_Sea_tellByDates := rfl
theorem k_Day_isRoughDate : mrec 30 = some r_Day_isRoughDate := rfl
theorem k_Bk_feast : mrec 31 = some r_Bk_feast := rfl
theorem k_Fea_tell : mrec 32 = some r_Fea_tell := rfl
theorem k_Fea_isWhen : mrec 33 = some r_Fea_isWhen := rfl
theorem k_Day_isEverDate : mrec 34 = some r_Day_isEverDate := rfl
theorem k_Fea_isRankAndWay : mrec 35 = some r_Fea_isRankAndWay := rfl
theorem k_Bk_around : mrec 36 = some r_Bk_around := rfl
theorem k_Fea_surround : mrec 37 = some r_Fea_surround := rfl
theorem k_Fea_isTold : mrec 38 = some r_Fea_isTold := rfl
theorem k_Bk_raise : mrec 39 = some r_Bk_raise := rfl
theorem k_Fea_change : mrec 40 = some r_Fea_change := rfl
theorem k_Bk_office : mrec 41 = some r_Bk_office := rfl
theorem k_Alm_openAt : mrec 42 = some r_Alm_openAt := rfl
theorem k_Alm_build : mrec 43 = some r_Alm_build := rfl
theorem k_Alm_layOutSeasons : mrec 44 = some r_Alm_layOutSeasons := rfl
theorem k_Sea_count : mrec 45 = some r_Sea_count := rfl
theorem k_Sea_lastDay : mrec 46 = some r_Sea_lastDay := rfl
theorem k_Sea_isByDates : mrec 47 = some r_Sea_isByDates := rfl
theorem k_Day_roughDay : mrec 48 = some r_Day_roughDay := rfl
theorem k_Sea_firstDay : mrec 49 = some r_Sea_firstDay := rfl
theorem k_Fea_count : mrec 50 = some r_Fea_count := rfl
theorem k_Fea_dayIn : mrec 51 = some r_Fea_dayIn := rfl
theorem k_Day_nthWeekday : mrec 52 = some r_Day_nthWeekday := rfl
theorem k_Alm_considerAll : mrec 53 = some r_Alm_considerAll := rfl
theorem k_Alm_weekdayOf : mrec 54 = some r_Alm_weekdayOf := rfl
theorem k_Sea_rankOf : mrec 55 = some r_Sea_rankOf := rfl
theorem k_Alm_candidate : mrec 56 = some r_Alm_candidate := rfl
theorem k_Alm_placeOf : mrec 57 = some r_Alm_placeOf := rfl
theorem k_Alm_consider : mrec 58 = some r_Alm_consider := rfl
theorem k_Alm_commemorate : mrec 59 = some r_Alm_commemorate := rfl
theorem k_Alm_considerFeast : mrec 60 = some r_Alm_considerFeast := rfl
theorem k_Alm_feastCandidate : mrec 61 = some r_Alm_feastCandidate := rfl
theorem k_Fea_rankOf : mrec 62 = some r_Fea_rankOf := rfl
theorem k_Fea_wayOf : mrec 63 = some r_Fea_wayOf := rfl
theorem k_Fea_octaveOf : mrec 64 = some r_Fea_octaveOf := rfl
theorem k_Fea_hasVigil : mrec 65 = some r_Fea_hasVigil := rfl
theorem k_Alm_moveFeasts : mrec 66 = some r_Alm_moveFeasts := rfl
theorem k_Alm_nextToMove : mrec 67 = some r_Alm_nextToMove := rfl
theorem k_Alm_isToMove : mrec 68 = some r_Alm_isToMove := rfl
theorem k_Alm_isMovedBefore : mrec 69 = some r_Alm_isMovedBefore := rfl
theorem k_Alm_placeFor : mrec 70 = some r_Alm_placeFor := rfl
theorem k_Alm_givesWay : mrec 71 = some r_Alm_givesWay := rfl
theorem k_Alm_kindIn : mrec 72 = some r_Alm_kindIn := rfl
theorem k_Alm_feastIn : mrec 73 = some r_Alm_feastIn := rfl
theorem k_Alm_rankIn : mrec 74 = some r_Alm_rankIn := rfl
theorem k_Alm_settleFates : mrec 75 = some r_Alm_settleFates := rfl
theorem k_Alm_fateOnOwnDay : mrec 76 = some r_Alm_fateOnOwnDay := rfl
theorem k_Alm_officeOn : mrec 77 = some r_Alm_officeOn := rfl
theorem k_Alm_colourIn : mrec 78 = some r_Alm_colourIn := rfl
theorem k_Sea_colourOf : mrec 79 = some r_Sea_colourOf := rfl
theorem k_Fea_colourOf : mrec 80 = some r_Fea_colourOf := rfl
theorem k_Alm_commemoratedOn : mrec 81 = some r_Alm_commemoratedOn := rfl
theorem k_Alm_partOf : mrec 82 = some r_Alm_partOf := rfl
theorem k_Bk_also : mrec 83 = some r_Bk_also := rfl
theorem k_Alm_commemoration : mrec 84 = some r_Alm_commemoration := rfl
theorem k_Bk_kept : mrec 85 = some r_Bk_kept := rfl
theorem k_Alm_open : mrec 86 = some r_Alm_open := rfl
theorem k_Alm_fateOf : mrec 87 = some r_Alm_fateOf := rfl
theorem k_Bk_tally : mrec 88 = some r_Bk_tally := rfl
theorem k_Alm_daysWith : mrec 89 = some r_Alm_daysWith := rfl
theorem k_Alm_movedFeasts : mrec 90 = some r_Alm_movedFeasts := rfl
theorem k_Alm_feastsOfFate : mrec 91 = some r_Alm_feastsOfFate := rfl
theorem k_Bk_verses : mrec 92 = some r_Bk_verses := rfl
theorem k_Psa_setVerses : mrec 93 = some r_Psa_setVerses := rfl
theorem k_Psa_hasPsalm : mrec 94 = some r_Psa_hasPsalm := rfl
theorem k_Bk_hours : mrec 95 = some r_Bk_hours := rfl
theorem k_Psa_setHours : mrec 96 = some r_Psa_setHours := rfl
theorem k_Psa_isUsedFrom : mrec 97 = some r_Psa_isUsedFrom := rfl
theorem k_Bk_fix : mrec 98 = some r_Bk_fix := rfl
theorem k_Psa_setFixed : mrec 99 = some r_Psa_setFixed := rfl
theorem k_Psa_hasHour : mrec 100 = some r_Psa_hasHour := rfl
theorem k_Bk_festal : mrec 101 = some r_Bk_festal := rfl
theorem k_Psa_addFestal : mrec 102 = some r_Psa_addFestal := rfl
theorem k_Bk_limit : mrec 103 = some r_Bk_limit := rfl
theorem k_Psa_setFeastRank : mrec 104 = some r_Psa_setFeastRank := rfl
theorem k_Bk_dealt : mrec 105 = some r_Bk_dealt := rfl
theorem k_Psa_leastLimit : mrec 106 = some r_Psa_leastLimit := rfl
theorem k_Psa_deal : mrec 107 = some r_Psa_deal := rfl
theorem k_Psa_lineUp : mrec 108 = some r_Psa_lineUp := rfl
theorem k_Psa_findLimit : mrec 109 = some r_Psa_findLimit := rfl
theorem k_Psa_isEnough : mrec 110 = some r_Psa_isEnough := rfl
theorem k_Psa_endOfHour : mrec 111 = some r_Psa_endOfHour := rfl
theorem k_Psa_markSlot : mrec 112 = some r_Psa_markSlot := rfl
theorem k_Psa_firstDealt : mrec 113 = some r_Psa_firstDealt := rfl
theorem k_Psa_dealtPsalm : mrec 114 = some r_Psa_dealtPsalm := rfl
theorem k_Psa_countDealt : mrec 115 = some r_Psa_countDealt := rfl
theorem k_Psa_manyDealt : mrec 116 = some r_Psa_manyDealt := rfl
theorem k_Psa_versesDealt : mrec 117 = some r_Psa_versesDealt := rfl
theorem k_Bk_sung : mrec 118 = some r_Bk_sung := rfl
theorem k_Alm_rankOn : mrec 119 = some r_Alm_rankOn := rfl
theorem k_Psa_psalmSung : mrec 120 = some r_Psa_psalmSung := rfl
theorem k_Psa_isFestive : mrec 121 = some r_Psa_isFestive := rfl
theorem k_Psa_fixedPsalm : mrec 122 = some r_Psa_fixedPsalm := rfl
theorem k_Bk_times : mrec 123 = some r_Bk_times := rfl
theorem k_Psa_timesSung : mrec 124 = some r_Psa_timesSung := rfl
theorem k_Psa_countFestal : mrec 125 = some r_Psa_countFestal := rfl
theorem k_Bk_tenor : mrec 126 = some r_Bk_tenor := rfl
theorem k_Bk_toneOf : mrec 127 = some r_Bk_toneOf := rfl
theorem k_Ton_setTenor : mrec 128 = some r_Ton_setTenor := rfl
theorem k_Ton_isNote : mrec 129 = some r_Ton_isNote := rfl
theorem k_Bk_note : mrec 130 = some r_Bk_note := rfl
theorem k_Ton_addNote : mrec 131 = some r_Ton_addNote := rfl
theorem k_Ton_addIntonation : mrec 132 = some r_Ton_addIntonation := rfl
theorem k_Cad_addBefore : mrec 133 = some r_Cad_addBefore := rfl
theorem k_Bk_accent : mrec 134 = some r_Bk_accent := rfl
theorem k_Bk_cadenceOf : mrec 135 = some r_Bk_cadenceOf := rfl
theorem k_Ton_cadenceAt : mrec 136 = some r_Ton_cadenceAt := rfl
theorem k_Cad_setAccent : mrec 137 = some r_Cad_setAccent := rfl
theorem k_Bk_accents : mrec 138 = some r_Bk_accents := rfl
theorem k_Cad_setMany : mrec 139 = some r_Cad_setMany := rfl
theorem k_Bk_syllable : mrec 140 = some r_Bk_syllable := rfl
theorem k_Bk_verseOf : mrec 141 = some r_Bk_verseOf := rfl
theorem k_Ver_addSyllable : mrec 142 = some r_Ver_addSyllable := rfl
theorem k_Bk_part : mrec 143 = some r_Bk_part := rfl
theorem k_Ver_cutHere : mrec 144 = some r_Ver_cutHere := rfl
theorem k_Bk_sing : mrec 145 = some r_Bk_sing := rfl
theorem k_Ver_isSungAt : mrec 146 = some r_Ver_isSungAt := rfl
theorem k_Ton_noteAt : mrec 147 = some r_Ton_noteAt := rfl
theorem k_Ver_startOfHalf : mrec 148 = some r_Ver_startOfHalf := rfl
theorem k_Ver_isFirstHalf : mrec 149 = some r_Ver_isFirstHalf := rfl
theorem k_Ver_endOfHalf : mrec 150 = some r_Ver_endOfHalf := rfl
theorem k_Ver_lastAccent : mrec 151 = some r_Ver_lastAccent := rfl
theorem k_Ver_isStressedFrom : mrec 152 = some r_Ver_isStressedFrom := rfl
theorem k_Cad_hasTwoAccents : mrec 153 = some r_Cad_hasTwoAccents := rfl
theorem k_Ver_firstAccent : mrec 154 = some r_Ver_firstAccent := rfl
theorem k_Cad_noteFrom : mrec 155 = some r_Cad_noteFrom := rfl
theorem k_Cad_noteAhead : mrec 156 = some r_Cad_noteAhead := rfl
theorem k_Bk_monk : mrec 157 = some r_Bk_monk := rfl
theorem k_Cho_join : mrec 158 = some r_Cho_join := rfl
theorem k_Bk_absence : mrec 159 = some r_Bk_absence := rfl
theorem k_Cho_sendAway : mrec 160 = some r_Cho_sendAway := rfl
theorem k_Cho_hasMonk : mrec 161 = some r_Cho_hasMonk := rfl
theorem k_Bk_roster : mrec 162 = some r_Bk_roster := rfl
theorem k_Ros_make : mrec 163 = some r_Ros_make := rfl
theorem k_Alm_yearMadeFor : mrec 164 = some r_Alm_yearMadeFor := rfl
theorem k_Cho_awayBits : mrec 165 = some r_Cho_awayBits := rfl
theorem k_Ros_fillDay : mrec 166 = some r_Ros_fillDay := rfl
theorem k_Ros_manySeats : mrec 167 = some r_Ros_manySeats := rfl
theorem k_Ros_nextMonk : mrec 168 = some r_Ros_nextMonk := rfl
theorem k_Cho_count : mrec 169 = some r_Cho_count := rfl
theorem k_Cho_canDo : mrec 170 = some r_Cho_canDo := rfl
theorem k_Ros_isAhead : mrec 171 = some r_Ros_isAhead := rfl
theorem k_Ros_seatOf : mrec 172 = some r_Ros_seatOf := rfl
theorem k_Ros_enter : mrec 173 = some r_Ros_enter := rfl
theorem k_Bk_turn : mrec 174 = some r_Bk_turn := rfl
theorem k_Ros_monkAt : mrec 175 = some r_Ros_monkAt := rfl
theorem k_Bk_had : mrec 176 = some r_Bk_had := rfl
theorem k_Ros_timesOf : mrec 177 = some r_Ros_timesOf := rfl
theorem k_Md_year : mrec 178 = some r_Md_year := rfl
theorem k_Md_isYear : mrec 179 = some r_Md_isYear := rfl
theorem k_Md_in : mrec 180 = some r_Md_in := rfl
theorem k_Md_daysOf : mrec 181 = some r_Md_daysOf := rfl
theorem k_Md_isLeap : mrec 182 = some r_Md_isLeap := rfl
theorem k_Md_firstWeekday : mrec 183 = some r_Md_firstWeekday := rfl
theorem k_Md_easter : mrec 184 = some r_Md_easter := rfl
theorem k_Md_dayOf : mrec 185 = some r_Md_dayOf := rfl
theorem k_Md_daysIn : mrec 186 = some r_Md_daysIn := rfl
theorem k_Md_day : mrec 187 = some r_Md_day := rfl
theorem k_Md_season : mrec 188 = some r_Md_season := rfl
theorem k_Md_adds0 : mrec 189 = some r_Md_adds0 := rfl
theorem k_Md_dated : mrec 190 = some r_Md_dated := rfl
theorem k_Md_isDate : mrec 191 = some r_Md_isDate := rfl
theorem k_Md_feast : mrec 192 = some r_Md_feast := rfl
theorem k_Md_isTold : mrec 193 = some r_Md_isTold := rfl
theorem k_Md_around : mrec 194 = some r_Md_around := rfl
theorem k_Md_raise : mrec 195 = some r_Md_raise := rfl
theorem k_Md_office : mrec 196 = some r_Md_office := rfl
theorem k_Md_isDay : mrec 197 = some r_Md_isDay := rfl
theorem k_Md_reckon : mrec 198 = some r_Md_reckon := rfl
theorem k_Md_feastDay : mrec 199 = some r_Md_feastDay := rfl
theorem k_Md_weekday : mrec 200 = some r_Md_weekday := rfl
theorem k_Md_gather : mrec 201 = some r_Md_gather := rfl
theorem k_Md_isIn : mrec 202 = some r_Md_isIn := rfl
theorem k_Md_meets : mrec 203 = some r_Md_meets := rfl
theorem k_Md_isAhead : mrec 204 = some r_Md_isAhead := rfl
theorem k_Md_place : mrec 205 = some r_Md_place := rfl
theorem k_Md_sets : mrec 206 = some r_Md_sets := rfl
theorem k_Md_nextMoved : mrec 207 = some r_Md_nextMoved := rfl
theorem k_Md_isOffice : mrec 208 = some r_Md_isOffice := rfl
theorem k_Md_moves : mrec 209 = some r_Md_moves := rfl
theorem k_Md_commemorates : mrec 210 = some r_Md_commemorates := rfl
theorem k_Md_also : mrec 211 = some r_Md_also := rfl
theorem k_Md_kept : mrec 212 = some r_Md_kept := rfl
theorem k_Md_keptDay : mrec 213 = some r_Md_keptDay := rfl
theorem k_Md_tally : mrec 214 = some r_Md_tally := rfl
theorem k_Md_verses : mrec 216 = some r_Md_verses := rfl
theorem k_Md_hours : mrec 217 = some r_Md_hours := rfl
theorem k_Md_fix : mrec 218 = some r_Md_fix := rfl
theorem k_Md_festal : mrec 219 = some r_Md_festal := rfl
theorem k_Md_limit : mrec 220 = some r_Md_limit := rfl
theorem k_Md_dealt : mrec 221 = some r_Md_dealt := rfl
theorem k_Md_deal : mrec 222 = some r_Md_deal := rfl
theorem k_Md_deals : mrec 223 = some r_Md_deals := rfl
theorem k_Md_sung : mrec 224 = some r_Md_sung := rfl
theorem k_Md_sings : mrec 225 = some r_Md_sings := rfl
theorem k_Md_adds : mrec 226 = some r_Md_adds := rfl
theorem k_Md_times : mrec 227 = some r_Md_times := rfl
theorem k_Md_tenor : mrec 228 = some r_Md_tenor := rfl
theorem k_Md_isNote : mrec 229 = some r_Md_isNote := rfl
theorem k_Md_note : mrec 230 = some r_Md_note := rfl
theorem k_Md_accent : mrec 231 = some r_Md_accent := rfl
theorem k_Md_accents : mrec 232 = some r_Md_accents := rfl
theorem k_Md_syllable : mrec 233 = some r_Md_syllable := rfl
theorem k_Md_part : mrec 234 = some r_Md_part := rfl
theorem k_Md_sing : mrec 235 = some r_Md_sing := rfl
theorem k_Md_isStressed : mrec 236 = some r_Md_isStressed := rfl
theorem k_Md_lastBut : mrec 237 = some r_Md_lastBut := rfl
theorem k_Md_byAccent : mrec 238 = some r_Md_byAccent := rfl
theorem k_Md_monk : mrec 239 = some r_Md_monk := rfl
theorem k_Md_absence : mrec 240 = some r_Md_absence := rfl
theorem k_Md_roster : mrec 241 = some r_Md_roster := rfl
theorem k_Md_chosen : mrec 242 = some r_Md_chosen := rfl
theorem k_Md_isThere : mrec 243 = some r_Md_isThere := rfl
theorem k_Md_placeOf : mrec 244 = some r_Md_placeOf := rfl
theorem k_Md_turn : mrec 245 = some r_Md_turn := rfl
theorem k_Md_had : mrec 246 = some r_Md_had := rfl
theorem k_Law_law : mrec 247 = some r_Law_law := rfl
