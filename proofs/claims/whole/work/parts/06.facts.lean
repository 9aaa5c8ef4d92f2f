theorem cf_X0 : CF 0 RX0 TX0 1 tyX0 := ⟨rfl, goodR [393] (by decide +kernel) (by decide +kernel), tyX0_ok, nmX0, by decide⟩
theorem cf_X1 : CF 1 RX1 TX1 9 tyX1 := ⟨rfl, goodR [187, 189, 191, 193, 195, 197, 199, 201, 203] (by decide +kernel) (by decide +kernel), tyX1_ok, nmX1, by decide⟩
theorem cf_X2 : CF 2 RX2 TX2 9 tyX2 := ⟨rfl, goodR [367, 369, 371, 373, 375, 377, 379, 381, 383] (by decide +kernel) (by decide +kernel), tyX2_ok, nmX2, by decide⟩
theorem cf_X3 : CF 3 RX3 TX3 7 tyX3 := ⟨rfl, goodR [309, 311, 313, 315, 317, 319, 321] (by decide +kernel) (by decide +kernel), tyX3_ok, nmX3, by decide⟩
theorem cf_X4 : CF 4 RX4 TX4 6 tyX4 := ⟨rfl, goodR [151, 153, 155, 157, 159, 161] (by decide +kernel) (by decide +kernel), tyX4_ok, nmX4, by decide⟩
theorem cf_X5 : CF 5 RX5 TX5 6 tyX5 := ⟨rfl, goodR [338, 340, 342, 344, 346, 348] (by decide +kernel) (by decide +kernel), tyX5_ok, nmX5, by decide⟩
theorem cf_X6 : CF 6 RX6 TX6 3 tyX6 := ⟨rfl, goodR [407, 409, 411] (by decide +kernel) (by decide +kernel), tyX6_ok, nmX6, by decide⟩
theorem cf_X7 : CF 7 RX7 TX7 6 tyX7 := ⟨rfl, goodR [433, 435, 437, 439, 441, 443] (by decide +kernel) (by decide +kernel), tyX7_ok, nmX7, by decide⟩
theorem cf_X8 : CF 8 RX8 TX8 8 tyX8 := ⟨rfl, goodR [271, 273, 275, 277, 279, 281, 283, 285] (by decide +kernel) (by decide +kernel), tyX8_ok, nmX8, by decide⟩
theorem cf_X9 : CF 9 RX9 TX9 6 tyX9 := ⟨rfl, goodR [460, 462, 464, 466, 468, 470] (by decide +kernel) (by decide +kernel), tyX9_ok, nmX9, by decide⟩
theorem cf_X10 : CF 10 RX10 TX10 8 tyX10 := ⟨rfl, goodR [235, 237, 239, 241, 243, 245, 247, 249] (by decide +kernel) (by decide +kernel), tyX10_ok, nmX10, by decide⟩
theorem cf_X11 : CF 11 RX11 TX11 14 tyX11 := ⟨rfl, goodR [487, 489, 491, 493, 495, 497, 499, 501, 503, 505, 507, 509, 511, 513] (by decide +kernel) (by decide +kernel), tyX11_ok, nmX11, by decide⟩
theorem cf_X12 : CF 12 RX12 TX12 54 tyX12 := ⟨rfl, goodR [1152, 1154, 1156, 1158, 1160, 1162, 1164, 1166, 1168, 1170, 1172, 1174, 1176, 1178, 1180, 1182, 1184, 1186, 1188, 1190, 1192, 1194, 1196, 1198, 1200, 1202, 1204, 1206, 1208, 1210, 1212, 1214, 1216, 1218, 1220, 1222, 1224, 1226, 1228, 1230, 1232, 1234, 1236, 1238, 1240, 1242, 1244, 1246, 1248, 1250, 1252, 1254, 1256, 1258] (by decide +kernel) (by decide +kernel), tyX12_ok, nmX12, by decide⟩
theorem fg_RX0_9 : FG RX0 9 0 0 := ⟨_, _, _, _, cf_X0, by decide, tbg_in (List.mem_of_getElem? (i := 392) (by decide +kernel)) rfl⟩
theorem fg_RX0_31 : FG RX0 31 10 0 := ⟨_, _, _, _, cf_X10, by decide, tbg_in (List.mem_of_getElem? (i := 213) (by decide +kernel)) rfl⟩
theorem fg_RX0_35 : FG RX0 35 10 2 := ⟨_, _, _, _, cf_X10, by decide, tbg_in (List.mem_of_getElem? (i := 218) (by decide +kernel)) rfl⟩
theorem fg_RX0_39 : FG RX0 39 10 3 := ⟨_, _, _, _, cf_X10, by decide, tbg_in (List.mem_of_getElem? (i := 221) (by decide +kernel)) rfl⟩
theorem fg_RX0_42 : FG RX0 42 10 4 := ⟨_, _, _, _, cf_X10, by decide, tbg_in (List.mem_of_getElem? (i := 224) (by decide +kernel)) rfl⟩
theorem fg_RX0_45 : FG RX0 45 10 5 := ⟨_, _, _, _, cf_X10, by decide, tbg_in (List.mem_of_getElem? (i := 227) (by decide +kernel)) rfl⟩
theorem fg_RX0_48 : FG RX0 48 10 6 := ⟨_, _, _, _, cf_X10, by decide, tbg_in (List.mem_of_getElem? (i := 230) (by decide +kernel)) rfl⟩
theorem fg_RX0_57 : FG RX0 57 4 0 := ⟨_, _, _, _, cf_X4, by decide, tbg_in (List.mem_of_getElem? (i := 124) (by decide +kernel)) rfl⟩
theorem fg_RX0_62 : FG RX0 62 10 7 := ⟨_, _, _, _, cf_X10, by decide, tbg_in (List.mem_of_getElem? (i := 233) (by decide +kernel)) rfl⟩
theorem fg_RX1_12 : FG RX1 12 1 0 := ⟨_, _, _, _, cf_X1, by decide, tbg_in (List.mem_of_getElem? (i := 165) (by decide +kernel)) rfl⟩
theorem fg_RX1_18 : FG RX1 18 1 1 := ⟨_, _, _, _, cf_X1, by decide, tbg_in (List.mem_of_getElem? (i := 167) (by decide +kernel)) rfl⟩
theorem fg_RX1_22 : FG RX1 22 1 2 := ⟨_, _, _, _, cf_X1, by decide, tbg_in (List.mem_of_getElem? (i := 170) (by decide +kernel)) rfl⟩
theorem fg_RX1_25 : FG RX1 25 1 3 := ⟨_, _, _, _, cf_X1, by decide, tbg_in (List.mem_of_getElem? (i := 172) (by decide +kernel)) rfl⟩
theorem fg_RX1_28 : FG RX1 28 1 4 := ⟨_, _, _, _, cf_X1, by decide, tbg_in (List.mem_of_getElem? (i := 174) (by decide +kernel)) rfl⟩
theorem fg_RX1_31 : FG RX1 31 1 5 := ⟨_, _, _, _, cf_X1, by decide, tbg_in (List.mem_of_getElem? (i := 176) (by decide +kernel)) rfl⟩
theorem fg_RX1_35 : FG RX1 35 1 6 := ⟨_, _, _, _, cf_X1, by decide, tbg_in (List.mem_of_getElem? (i := 179) (by decide +kernel)) rfl⟩
theorem fg_RX1_38 : FG RX1 38 1 7 := ⟨_, _, _, _, cf_X1, by decide, tbg_in (List.mem_of_getElem? (i := 182) (by decide +kernel)) rfl⟩
theorem fg_RX1_41 : FG RX1 41 1 8 := ⟨_, _, _, _, cf_X1, by decide, tbg_in (List.mem_of_getElem? (i := 185) (by decide +kernel)) rfl⟩
theorem fg_RX1_54 : FG RX1 54 4 0 := ⟨_, _, _, _, cf_X4, by decide, tbg_in (List.mem_of_getElem? (i := 127) (by decide +kernel)) rfl⟩
theorem fg_RX1_76 : FG RX1 76 4 3 := ⟨_, _, _, _, cf_X4, by decide, tbg_in (List.mem_of_getElem? (i := 143) (by decide +kernel)) rfl⟩
theorem fg_RX1_78 : FG RX1 78 4 2 := ⟨_, _, _, _, cf_X4, by decide, tbg_in (List.mem_of_getElem? (i := 136) (by decide +kernel)) rfl⟩
theorem fg_RX10_9 : FG RX10 9 10 0 := ⟨_, _, _, _, cf_X10, by decide, tbg_in (List.mem_of_getElem? (i := 212) (by decide +kernel)) rfl⟩
theorem fg_RX10_15 : FG RX10 15 10 1 := ⟨_, _, _, _, cf_X10, by decide, tbg_in (List.mem_of_getElem? (i := 215) (by decide +kernel)) rfl⟩
theorem fg_RX10_18 : FG RX10 18 10 2 := ⟨_, _, _, _, cf_X10, by decide, tbg_in (List.mem_of_getElem? (i := 217) (by decide +kernel)) rfl⟩
theorem fg_RX10_22 : FG RX10 22 10 3 := ⟨_, _, _, _, cf_X10, by decide, tbg_in (List.mem_of_getElem? (i := 220) (by decide +kernel)) rfl⟩
theorem fg_RX10_25 : FG RX10 25 10 4 := ⟨_, _, _, _, cf_X10, by decide, tbg_in (List.mem_of_getElem? (i := 223) (by decide +kernel)) rfl⟩
theorem fg_RX10_28 : FG RX10 28 10 5 := ⟨_, _, _, _, cf_X10, by decide, tbg_in (List.mem_of_getElem? (i := 226) (by decide +kernel)) rfl⟩
theorem fg_RX10_31 : FG RX10 31 10 6 := ⟨_, _, _, _, cf_X10, by decide, tbg_in (List.mem_of_getElem? (i := 229) (by decide +kernel)) rfl⟩
theorem fg_RX10_34 : FG RX10 34 10 7 := ⟨_, _, _, _, cf_X10, by decide, tbg_in (List.mem_of_getElem? (i := 232) (by decide +kernel)) rfl⟩
theorem fg_RX11_10 : FG RX11 10 11 0 := ⟨_, _, _, _, cf_X11, by decide, tbg_in (List.mem_of_getElem? (i := 473) (by decide +kernel)) rfl⟩
theorem fg_RX11_16 : FG RX11 16 11 1 := ⟨_, _, _, _, cf_X11, by decide, tbg_in (List.mem_of_getElem? (i := 474) (by decide +kernel)) rfl⟩
theorem fg_RX11_22 : FG RX11 22 11 2 := ⟨_, _, _, _, cf_X11, by decide, tbg_in (List.mem_of_getElem? (i := 475) (by decide +kernel)) rfl⟩
theorem fg_RX11_26 : FG RX11 26 11 3 := ⟨_, _, _, _, cf_X11, by decide, tbg_in (List.mem_of_getElem? (i := 476) (by decide +kernel)) rfl⟩
theorem fg_RX11_29 : FG RX11 29 11 4 := ⟨_, _, _, _, cf_X11, by decide, tbg_in (List.mem_of_getElem? (i := 477) (by decide +kernel)) rfl⟩
theorem fg_RX11_36 : FG RX11 36 11 5 := ⟨_, _, _, _, cf_X11, by decide, tbg_in (List.mem_of_getElem? (i := 478) (by decide +kernel)) rfl⟩
theorem fg_RX11_43 : FG RX11 43 11 6 := ⟨_, _, _, _, cf_X11, by decide, tbg_in (List.mem_of_getElem? (i := 479) (by decide +kernel)) rfl⟩
theorem fg_RX11_52 : FG RX11 52 11 7 := ⟨_, _, _, _, cf_X11, by decide, tbg_in (List.mem_of_getElem? (i := 480) (by decide +kernel)) rfl⟩
theorem fg_RX11_59 : FG RX11 59 11 8 := ⟨_, _, _, _, cf_X11, by decide, tbg_in (List.mem_of_getElem? (i := 481) (by decide +kernel)) rfl⟩
theorem fg_RX11_68 : FG RX11 68 11 9 := ⟨_, _, _, _, cf_X11, by decide, tbg_in (List.mem_of_getElem? (i := 482) (by decide +kernel)) rfl⟩
theorem fg_RX11_75 : FG RX11 75 11 10 := ⟨_, _, _, _, cf_X11, by decide, tbg_in (List.mem_of_getElem? (i := 483) (by decide +kernel)) rfl⟩
theorem fg_RX11_82 : FG RX11 82 11 11 := ⟨_, _, _, _, cf_X11, by decide, tbg_in (List.mem_of_getElem? (i := 484) (by decide +kernel)) rfl⟩
theorem fg_RX11_89 : FG RX11 89 11 12 := ⟨_, _, _, _, cf_X11, by decide, tbg_in (List.mem_of_getElem? (i := 485) (by decide +kernel)) rfl⟩
theorem fg_RX11_96 : FG RX11 96 11 13 := ⟨_, _, _, _, cf_X11, by decide, tbg_in (List.mem_of_getElem? (i := 486) (by decide +kernel)) rfl⟩
theorem fg_RX11_115 : FG RX11 115 8 2 := ⟨_, _, _, _, cf_X8, by decide, tbg_in (List.mem_of_getElem? (i := 264) (by decide +kernel)) rfl⟩
theorem fg_RX11_118 : FG RX11 118 8 3 := ⟨_, _, _, _, cf_X8, by decide, tbg_in (List.mem_of_getElem? (i := 266) (by decide +kernel)) rfl⟩
theorem fg_RX11_126 : FG RX11 126 6 2 := ⟨_, _, _, _, cf_X6, by decide, tbg_in (List.mem_of_getElem? (i := 406) (by decide +kernel)) rfl⟩
theorem fg_RX11_130 : FG RX11 130 1 0 := ⟨_, _, _, _, cf_X1, by decide, tbg_in (List.mem_of_getElem? (i := 166) (by decide +kernel)) rfl⟩
theorem fg_RX11_131 : FG RX11 131 4 0 := ⟨_, _, _, _, cf_X4, by decide, tbg_in (List.mem_of_getElem? (i := 126) (by decide +kernel)) rfl⟩
theorem fg_RX11_144 : FG RX11 144 4 1 := ⟨_, _, _, _, cf_X4, by decide, tbg_in (List.mem_of_getElem? (i := 131) (by decide +kernel)) rfl⟩
theorem fg_RX11_147 : FG RX11 147 4 2 := ⟨_, _, _, _, cf_X4, by decide, tbg_in (List.mem_of_getElem? (i := 134) (by decide +kernel)) rfl⟩
theorem fg_RX11_150 : FG RX11 150 4 3 := ⟨_, _, _, _, cf_X4, by decide, tbg_in (List.mem_of_getElem? (i := 141) (by decide +kernel)) rfl⟩
theorem fg_RX11_153 : FG RX11 153 4 4 := ⟨_, _, _, _, cf_X4, by decide, tbg_in (List.mem_of_getElem? (i := 145) (by decide +kernel)) rfl⟩
theorem fg_RX11_156 : FG RX11 156 4 5 := ⟨_, _, _, _, cf_X4, by decide, tbg_in (List.mem_of_getElem? (i := 150) (by decide +kernel)) rfl⟩
theorem fg_RX11_169 : FG RX11 169 1 1 := ⟨_, _, _, _, cf_X1, by decide, tbg_in (List.mem_of_getElem? (i := 169) (by decide +kernel)) rfl⟩
theorem fg_RX11_170 : FG RX11 170 1 2 := ⟨_, _, _, _, cf_X1, by decide, tbg_in (List.mem_of_getElem? (i := 171) (by decide +kernel)) rfl⟩
theorem fg_RX11_173 : FG RX11 173 1 3 := ⟨_, _, _, _, cf_X1, by decide, tbg_in (List.mem_of_getElem? (i := 173) (by decide +kernel)) rfl⟩
theorem fg_RX11_183 : FG RX11 183 1 4 := ⟨_, _, _, _, cf_X1, by decide, tbg_in (List.mem_of_getElem? (i := 175) (by decide +kernel)) rfl⟩
theorem fg_RX11_186 : FG RX11 186 1 5 := ⟨_, _, _, _, cf_X1, by decide, tbg_in (List.mem_of_getElem? (i := 178) (by decide +kernel)) rfl⟩
theorem fg_RX11_189 : FG RX11 189 1 6 := ⟨_, _, _, _, cf_X1, by decide, tbg_in (List.mem_of_getElem? (i := 181) (by decide +kernel)) rfl⟩
theorem fg_RX11_191 : FG RX11 191 1 7 := ⟨_, _, _, _, cf_X1, by decide, tbg_in (List.mem_of_getElem? (i := 184) (by decide +kernel)) rfl⟩
theorem fg_RX11_197 : FG RX11 197 3 1 := ⟨_, _, _, _, cf_X3, by decide, tbg_in (List.mem_of_getElem? (i := 298) (by decide +kernel)) rfl⟩
theorem fg_RX11_200 : FG RX11 200 3 2 := ⟨_, _, _, _, cf_X3, by decide, tbg_in (List.mem_of_getElem? (i := 303) (by decide +kernel)) rfl⟩
theorem fg_RX11_216 : FG RX11 216 5 2 := ⟨_, _, _, _, cf_X5, by decide, tbg_in (List.mem_of_getElem? (i := 334) (by decide +kernel)) rfl⟩
theorem fg_RX11_248 : FG RX11 248 2 5 := ⟨_, _, _, _, cf_X2, by decide, tbg_in (List.mem_of_getElem? (i := 363) (by decide +kernel)) rfl⟩
theorem fg_RX11_258 : FG RX11 258 10 0 := ⟨_, _, _, _, cf_X10, by decide, tbg_in (List.mem_of_getElem? (i := 214) (by decide +kernel)) rfl⟩
theorem fg_RX11_259 : FG RX11 259 10 2 := ⟨_, _, _, _, cf_X10, by decide, tbg_in (List.mem_of_getElem? (i := 219) (by decide +kernel)) rfl⟩
theorem fg_RX11_260 : FG RX11 260 10 3 := ⟨_, _, _, _, cf_X10, by decide, tbg_in (List.mem_of_getElem? (i := 222) (by decide +kernel)) rfl⟩
theorem fg_RX11_263 : FG RX11 263 10 4 := ⟨_, _, _, _, cf_X10, by decide, tbg_in (List.mem_of_getElem? (i := 225) (by decide +kernel)) rfl⟩
theorem fg_RX11_264 : FG RX11 264 10 5 := ⟨_, _, _, _, cf_X10, by decide, tbg_in (List.mem_of_getElem? (i := 228) (by decide +kernel)) rfl⟩
theorem fg_RX11_267 : FG RX11 267 10 6 := ⟨_, _, _, _, cf_X10, by decide, tbg_in (List.mem_of_getElem? (i := 231) (by decide +kernel)) rfl⟩
theorem fg_RX11_268 : FG RX11 268 10 7 := ⟨_, _, _, _, cf_X10, by decide, tbg_in (List.mem_of_getElem? (i := 234) (by decide +kernel)) rfl⟩
theorem fg_RX11_278 : FG RX11 278 10 1 := ⟨_, _, _, _, cf_X10, by decide, tbg_in (List.mem_of_getElem? (i := 216) (by decide +kernel)) rfl⟩
theorem fg_RX11_284 : FG RX11 284 1 8 := ⟨_, _, _, _, cf_X1, by decide, tbg_in (List.mem_of_getElem? (i := 186) (by decide +kernel)) rfl⟩
theorem fg_RX11_293 : FG RX11 293 6 1 := ⟨_, _, _, _, cf_X6, by decide, tbg_in (List.mem_of_getElem? (i := 404) (by decide +kernel)) rfl⟩
theorem fg_RX11_306 : FG RX11 306 7 0 := ⟨_, _, _, _, cf_X7, by decide, tbg_in (List.mem_of_getElem? (i := 423) (by decide +kernel)) rfl⟩
theorem fg_RX11_309 : FG RX11 309 7 1 := ⟨_, _, _, _, cf_X7, by decide, tbg_in (List.mem_of_getElem? (i := 425) (by decide +kernel)) rfl⟩
theorem fg_RX11_312 : FG RX11 312 7 2 := ⟨_, _, _, _, cf_X7, by decide, tbg_in (List.mem_of_getElem? (i := 427) (by decide +kernel)) rfl⟩
theorem fg_RX11_335 : FG RX11 335 7 4 := ⟨_, _, _, _, cf_X7, by decide, tbg_in (List.mem_of_getElem? (i := 430) (by decide +kernel)) rfl⟩
theorem fg_RX11_338 : FG RX11 338 7 5 := ⟨_, _, _, _, cf_X7, by decide, tbg_in (List.mem_of_getElem? (i := 432) (by decide +kernel)) rfl⟩
theorem fg_RX11_353 : FG RX11 353 9 5 := ⟨_, _, _, _, cf_X9, by decide, tbg_in (List.mem_of_getElem? (i := 459) (by decide +kernel)) rfl⟩
theorem fg_RX11_356 : FG RX11 356 9 4 := ⟨_, _, _, _, cf_X9, by decide, tbg_in (List.mem_of_getElem? (i := 457) (by decide +kernel)) rfl⟩
theorem fg_RX11_359 : FG RX11 359 8 1 := ⟨_, _, _, _, cf_X8, by decide, tbg_in (List.mem_of_getElem? (i := 262) (by decide +kernel)) rfl⟩
theorem fg_RX12_7 : FG RX12 7 12 1 := ⟨_, _, _, _, cf_X12, by decide, tbg_in (List.mem_of_getElem? (i := 1099) (by decide +kernel)) rfl⟩
theorem fg_RX12_13 : FG RX12 13 12 2 := ⟨_, _, _, _, cf_X12, by decide, tbg_in (List.mem_of_getElem? (i := 1100) (by decide +kernel)) rfl⟩
theorem fg_RX12_16 : FG RX12 16 12 3 := ⟨_, _, _, _, cf_X12, by decide, tbg_in (List.mem_of_getElem? (i := 1101) (by decide +kernel)) rfl⟩
theorem fg_RX12_19 : FG RX12 19 12 4 := ⟨_, _, _, _, cf_X12, by decide, tbg_in (List.mem_of_getElem? (i := 1102) (by decide +kernel)) rfl⟩
theorem fg_RX12_22 : FG RX12 22 12 9 := ⟨_, _, _, _, cf_X12, by decide, tbg_in (List.mem_of_getElem? (i := 1107) (by decide +kernel)) rfl⟩
theorem fg_RX12_25 : FG RX12 25 12 10 := ⟨_, _, _, _, cf_X12, by decide, tbg_in (List.mem_of_getElem? (i := 1108) (by decide +kernel)) rfl⟩
theorem fg_RX12_28 : FG RX12 28 12 11 := ⟨_, _, _, _, cf_X12, by decide, tbg_in (List.mem_of_getElem? (i := 1109) (by decide +kernel)) rfl⟩
theorem fg_RX12_31 : FG RX12 31 12 13 := ⟨_, _, _, _, cf_X12, by decide, tbg_in (List.mem_of_getElem? (i := 1111) (by decide +kernel)) rfl⟩
theorem fg_RX12_34 : FG RX12 34 12 14 := ⟨_, _, _, _, cf_X12, by decide, tbg_in (List.mem_of_getElem? (i := 1112) (by decide +kernel)) rfl⟩
theorem fg_RX12_38 : FG RX12 38 12 15 := ⟨_, _, _, _, cf_X12, by decide, tbg_in (List.mem_of_getElem? (i := 1113) (by decide +kernel)) rfl⟩
theorem fg_RX12_41 : FG RX12 41 12 23 := ⟨_, _, _, _, cf_X12, by decide, tbg_in (List.mem_of_getElem? (i := 1121) (by decide +kernel)) rfl⟩
theorem fg_RX12_44 : FG RX12 44 12 24 := ⟨_, _, _, _, cf_X12, by decide, tbg_in (List.mem_of_getElem? (i := 1122) (by decide +kernel)) rfl⟩
theorem fg_RX12_47 : FG RX12 47 12 26 := ⟨_, _, _, _, cf_X12, by decide, tbg_in (List.mem_of_getElem? (i := 1124) (by decide +kernel)) rfl⟩
theorem fg_RX12_50 : FG RX12 50 12 27 := ⟨_, _, _, _, cf_X12, by decide, tbg_in (List.mem_of_getElem? (i := 1125) (by decide +kernel)) rfl⟩
theorem fg_RX12_53 : FG RX12 53 12 28 := ⟨_, _, _, _, cf_X12, by decide, tbg_in (List.mem_of_getElem? (i := 1126) (by decide +kernel)) rfl⟩
theorem fg_RX12_56 : FG RX12 56 12 31 := ⟨_, _, _, _, cf_X12, by decide, tbg_in (List.mem_of_getElem? (i := 1129) (by decide +kernel)) rfl⟩
theorem fg_RX12_59 : FG RX12 59 12 34 := ⟨_, _, _, _, cf_X12, by decide, tbg_in (List.mem_of_getElem? (i := 1132) (by decide +kernel)) rfl⟩
theorem fg_RX12_62 : FG RX12 62 12 35 := ⟨_, _, _, _, cf_X12, by decide, tbg_in (List.mem_of_getElem? (i := 1133) (by decide +kernel)) rfl⟩
theorem fg_RX12_65 : FG RX12 65 12 36 := ⟨_, _, _, _, cf_X12, by decide, tbg_in (List.mem_of_getElem? (i := 1134) (by decide +kernel)) rfl⟩
theorem fg_RX12_68 : FG RX12 68 12 38 := ⟨_, _, _, _, cf_X12, by decide, tbg_in (List.mem_of_getElem? (i := 1136) (by decide +kernel)) rfl⟩
theorem fg_RX12_71 : FG RX12 71 12 39 := ⟨_, _, _, _, cf_X12, by decide, tbg_in (List.mem_of_getElem? (i := 1137) (by decide +kernel)) rfl⟩
theorem fg_RX12_74 : FG RX12 74 12 40 := ⟨_, _, _, _, cf_X12, by decide, tbg_in (List.mem_of_getElem? (i := 1138) (by decide +kernel)) rfl⟩
theorem fg_RX12_78 : FG RX12 78 12 41 := ⟨_, _, _, _, cf_X12, by decide, tbg_in (List.mem_of_getElem? (i := 1139) (by decide +kernel)) rfl⟩
theorem fg_RX12_81 : FG RX12 81 12 42 := ⟨_, _, _, _, cf_X12, by decide, tbg_in (List.mem_of_getElem? (i := 1140) (by decide +kernel)) rfl⟩
theorem fg_RX12_84 : FG RX12 84 12 43 := ⟨_, _, _, _, cf_X12, by decide, tbg_in (List.mem_of_getElem? (i := 1141) (by decide +kernel)) rfl⟩
theorem fg_RX12_87 : FG RX12 87 12 47 := ⟨_, _, _, _, cf_X12, by decide, tbg_in (List.mem_of_getElem? (i := 1145) (by decide +kernel)) rfl⟩
theorem fg_RX12_90 : FG RX12 90 12 51 := ⟨_, _, _, _, cf_X12, by decide, tbg_in (List.mem_of_getElem? (i := 1149) (by decide +kernel)) rfl⟩
theorem fg_RX12_93 : FG RX12 93 12 53 := ⟨_, _, _, _, cf_X12, by decide, tbg_in (List.mem_of_getElem? (i := 1151) (by decide +kernel)) rfl⟩
theorem fg_RX12_96 : FG RX12 96 12 0 := ⟨_, _, _, _, cf_X12, by decide, tbg_in (List.mem_of_getElem? (i := 1098) (by decide +kernel)) rfl⟩
theorem fg_RX12_111 : FG RX12 111 12 16 := ⟨_, _, _, _, cf_X12, by decide, tbg_in (List.mem_of_getElem? (i := 1114) (by decide +kernel)) rfl⟩
theorem fg_RX12_116 : FG RX12 116 12 19 := ⟨_, _, _, _, cf_X12, by decide, tbg_in (List.mem_of_getElem? (i := 1117) (by decide +kernel)) rfl⟩
theorem fg_RX12_119 : FG RX12 119 12 18 := ⟨_, _, _, _, cf_X12, by decide, tbg_in (List.mem_of_getElem? (i := 1116) (by decide +kernel)) rfl⟩
theorem fg_RX12_132 : FG RX12 132 12 17 := ⟨_, _, _, _, cf_X12, by decide, tbg_in (List.mem_of_getElem? (i := 1115) (by decide +kernel)) rfl⟩
theorem fg_RX12_135 : FG RX12 135 12 20 := ⟨_, _, _, _, cf_X12, by decide, tbg_in (List.mem_of_getElem? (i := 1118) (by decide +kernel)) rfl⟩
theorem fg_RX12_139 : FG RX12 139 12 21 := ⟨_, _, _, _, cf_X12, by decide, tbg_in (List.mem_of_getElem? (i := 1119) (by decide +kernel)) rfl⟩
theorem fg_RX12_170 : FG RX12 170 12 22 := ⟨_, _, _, _, cf_X12, by decide, tbg_in (List.mem_of_getElem? (i := 1120) (by decide +kernel)) rfl⟩
theorem fg_RX12_180 : FG RX12 180 12 25 := ⟨_, _, _, _, cf_X12, by decide, tbg_in (List.mem_of_getElem? (i := 1123) (by decide +kernel)) rfl⟩
theorem fg_RX12_217 : FG RX12 217 12 5 := ⟨_, _, _, _, cf_X12, by decide, tbg_in (List.mem_of_getElem? (i := 1103) (by decide +kernel)) rfl⟩
theorem fg_RX12_220 : FG RX12 220 12 6 := ⟨_, _, _, _, cf_X12, by decide, tbg_in (List.mem_of_getElem? (i := 1104) (by decide +kernel)) rfl⟩
theorem fg_RX12_223 : FG RX12 223 12 7 := ⟨_, _, _, _, cf_X12, by decide, tbg_in (List.mem_of_getElem? (i := 1105) (by decide +kernel)) rfl⟩
theorem fg_RX12_226 : FG RX12 226 12 8 := ⟨_, _, _, _, cf_X12, by decide, tbg_in (List.mem_of_getElem? (i := 1106) (by decide +kernel)) rfl⟩
theorem fg_RX12_229 : FG RX12 229 12 37 := ⟨_, _, _, _, cf_X12, by decide, tbg_in (List.mem_of_getElem? (i := 1135) (by decide +kernel)) rfl⟩
theorem fg_RX12_251 : FG RX12 251 12 29 := ⟨_, _, _, _, cf_X12, by decide, tbg_in (List.mem_of_getElem? (i := 1127) (by decide +kernel)) rfl⟩
theorem fg_RX12_254 : FG RX12 254 12 30 := ⟨_, _, _, _, cf_X12, by decide, tbg_in (List.mem_of_getElem? (i := 1128) (by decide +kernel)) rfl⟩
theorem fg_RX12_306 : FG RX12 306 12 32 := ⟨_, _, _, _, cf_X12, by decide, tbg_in (List.mem_of_getElem? (i := 1130) (by decide +kernel)) rfl⟩
theorem fg_RX12_309 : FG RX12 309 12 33 := ⟨_, _, _, _, cf_X12, by decide, tbg_in (List.mem_of_getElem? (i := 1131) (by decide +kernel)) rfl⟩
theorem fg_RX12_324 : FG RX12 324 12 12 := ⟨_, _, _, _, cf_X12, by decide, tbg_in (List.mem_of_getElem? (i := 1110) (by decide +kernel)) rfl⟩
theorem fg_RX12_361 : FG RX12 361 12 48 := ⟨_, _, _, _, cf_X12, by decide, tbg_in (List.mem_of_getElem? (i := 1146) (by decide +kernel)) rfl⟩
theorem fg_RX12_367 : FG RX12 367 12 45 := ⟨_, _, _, _, cf_X12, by decide, tbg_in (List.mem_of_getElem? (i := 1143) (by decide +kernel)) rfl⟩
theorem fg_RX12_373 : FG RX12 373 12 44 := ⟨_, _, _, _, cf_X12, by decide, tbg_in (List.mem_of_getElem? (i := 1142) (by decide +kernel)) rfl⟩
theorem fg_RX12_385 : FG RX12 385 12 46 := ⟨_, _, _, _, cf_X12, by decide, tbg_in (List.mem_of_getElem? (i := 1144) (by decide +kernel)) rfl⟩
theorem fg_RX12_391 : FG RX12 391 12 49 := ⟨_, _, _, _, cf_X12, by decide, tbg_in (List.mem_of_getElem? (i := 1147) (by decide +kernel)) rfl⟩
theorem fg_RX12_409 : FG RX12 409 12 52 := ⟨_, _, _, _, cf_X12, by decide, tbg_in (List.mem_of_getElem? (i := 1150) (by decide +kernel)) rfl⟩
theorem fg_RX12_420 : FG RX12 420 12 50 := ⟨_, _, _, _, cf_X12, by decide, tbg_in (List.mem_of_getElem? (i := 1148) (by decide +kernel)) rfl⟩
theorem fg_RX2_11 : FG RX2 11 2 1 := ⟨_, _, _, _, cf_X2, by decide, tbg_in (List.mem_of_getElem? (i := 358) (by decide +kernel)) rfl⟩
theorem fg_RX2_15 : FG RX2 15 2 2 := ⟨_, _, _, _, cf_X2, by decide, tbg_in (List.mem_of_getElem? (i := 359) (by decide +kernel)) rfl⟩
theorem fg_RX2_18 : FG RX2 18 2 3 := ⟨_, _, _, _, cf_X2, by decide, tbg_in (List.mem_of_getElem? (i := 360) (by decide +kernel)) rfl⟩
theorem fg_RX2_21 : FG RX2 21 2 4 := ⟨_, _, _, _, cf_X2, by decide, tbg_in (List.mem_of_getElem? (i := 361) (by decide +kernel)) rfl⟩
theorem fg_RX2_24 : FG RX2 24 2 5 := ⟨_, _, _, _, cf_X2, by decide, tbg_in (List.mem_of_getElem? (i := 362) (by decide +kernel)) rfl⟩
theorem fg_RX2_27 : FG RX2 27 2 6 := ⟨_, _, _, _, cf_X2, by decide, tbg_in (List.mem_of_getElem? (i := 364) (by decide +kernel)) rfl⟩
theorem fg_RX2_31 : FG RX2 31 2 7 := ⟨_, _, _, _, cf_X2, by decide, tbg_in (List.mem_of_getElem? (i := 365) (by decide +kernel)) rfl⟩
theorem fg_RX2_35 : FG RX2 35 2 8 := ⟨_, _, _, _, cf_X2, by decide, tbg_in (List.mem_of_getElem? (i := 366) (by decide +kernel)) rfl⟩
theorem fg_RX2_38 : FG RX2 38 2 0 := ⟨_, _, _, _, cf_X2, by decide, tbg_in (List.mem_of_getElem? (i := 357) (by decide +kernel)) rfl⟩
theorem fg_RX2_46 : FG RX2 46 4 0 := ⟨_, _, _, _, cf_X4, by decide, tbg_in (List.mem_of_getElem? (i := 123) (by decide +kernel)) rfl⟩
theorem fg_RX2_51 : FG RX2 51 4 3 := ⟨_, _, _, _, cf_X4, by decide, tbg_in (List.mem_of_getElem? (i := 138) (by decide +kernel)) rfl⟩
theorem fg_RX2_74 : FG RX2 74 3 3 := ⟨_, _, _, _, cf_X3, by decide, tbg_in (List.mem_of_getElem? (i := 305) (by decide +kernel)) rfl⟩
theorem fg_RX2_81 : FG RX2 81 4 4 := ⟨_, _, _, _, cf_X4, by decide, tbg_in (List.mem_of_getElem? (i := 147) (by decide +kernel)) rfl⟩
theorem fg_RX2_84 : FG RX2 84 3 2 := ⟨_, _, _, _, cf_X3, by decide, tbg_in (List.mem_of_getElem? (i := 302) (by decide +kernel)) rfl⟩
theorem fg_RX2_91 : FG RX2 91 4 2 := ⟨_, _, _, _, cf_X4, by decide, tbg_in (List.mem_of_getElem? (i := 135) (by decide +kernel)) rfl⟩
theorem fg_RX3_11 : FG RX3 11 3 0 := ⟨_, _, _, _, cf_X3, by decide, tbg_in (List.mem_of_getElem? (i := 295) (by decide +kernel)) rfl⟩
theorem fg_RX3_15 : FG RX3 15 3 1 := ⟨_, _, _, _, cf_X3, by decide, tbg_in (List.mem_of_getElem? (i := 296) (by decide +kernel)) rfl⟩
theorem fg_RX3_25 : FG RX3 25 3 4 := ⟨_, _, _, _, cf_X3, by decide, tbg_in (List.mem_of_getElem? (i := 306) (by decide +kernel)) rfl⟩
theorem fg_RX3_28 : FG RX3 28 3 5 := ⟨_, _, _, _, cf_X3, by decide, tbg_in (List.mem_of_getElem? (i := 307) (by decide +kernel)) rfl⟩
theorem fg_RX3_31 : FG RX3 31 3 6 := ⟨_, _, _, _, cf_X3, by decide, tbg_in (List.mem_of_getElem? (i := 308) (by decide +kernel)) rfl⟩
theorem fg_RX3_34 : FG RX3 34 1 1 := ⟨_, _, _, _, cf_X1, by decide, tbg_in (List.mem_of_getElem? (i := 168) (by decide +kernel)) rfl⟩
theorem fg_RX3_39 : FG RX3 39 1 6 := ⟨_, _, _, _, cf_X1, by decide, tbg_in (List.mem_of_getElem? (i := 180) (by decide +kernel)) rfl⟩
theorem fg_RX3_40 : FG RX3 40 1 7 := ⟨_, _, _, _, cf_X1, by decide, tbg_in (List.mem_of_getElem? (i := 183) (by decide +kernel)) rfl⟩
theorem fg_RX3_41 : FG RX3 41 1 5 := ⟨_, _, _, _, cf_X1, by decide, tbg_in (List.mem_of_getElem? (i := 177) (by decide +kernel)) rfl⟩
theorem fg_RX3_48 : FG RX3 48 4 3 := ⟨_, _, _, _, cf_X4, by decide, tbg_in (List.mem_of_getElem? (i := 139) (by decide +kernel)) rfl⟩
theorem fg_RX3_52 : FG RX3 52 4 2 := ⟨_, _, _, _, cf_X4, by decide, tbg_in (List.mem_of_getElem? (i := 133) (by decide +kernel)) rfl⟩
theorem fg_RX3_64 : FG RX3 64 4 0 := ⟨_, _, _, _, cf_X4, by decide, tbg_in (List.mem_of_getElem? (i := 129) (by decide +kernel)) rfl⟩
theorem fg_RX4_9 : FG RX4 9 4 0 := ⟨_, _, _, _, cf_X4, by decide, tbg_in (List.mem_of_getElem? (i := 121) (by decide +kernel)) rfl⟩
theorem fg_RX4_15 : FG RX4 15 4 1 := ⟨_, _, _, _, cf_X4, by decide, tbg_in (List.mem_of_getElem? (i := 130) (by decide +kernel)) rfl⟩
theorem fg_RX4_19 : FG RX4 19 4 2 := ⟨_, _, _, _, cf_X4, by decide, tbg_in (List.mem_of_getElem? (i := 132) (by decide +kernel)) rfl⟩
theorem fg_RX4_22 : FG RX4 22 4 3 := ⟨_, _, _, _, cf_X4, by decide, tbg_in (List.mem_of_getElem? (i := 137) (by decide +kernel)) rfl⟩
theorem fg_RX4_25 : FG RX4 25 4 4 := ⟨_, _, _, _, cf_X4, by decide, tbg_in (List.mem_of_getElem? (i := 144) (by decide +kernel)) rfl⟩
theorem fg_RX4_28 : FG RX4 28 4 5 := ⟨_, _, _, _, cf_X4, by decide, tbg_in (List.mem_of_getElem? (i := 148) (by decide +kernel)) rfl⟩
theorem fg_RX5_9 : FG RX5 9 5 1 := ⟨_, _, _, _, cf_X5, by decide, tbg_in (List.mem_of_getElem? (i := 332) (by decide +kernel)) rfl⟩
theorem fg_RX5_15 : FG RX5 15 5 2 := ⟨_, _, _, _, cf_X5, by decide, tbg_in (List.mem_of_getElem? (i := 333) (by decide +kernel)) rfl⟩
theorem fg_RX5_18 : FG RX5 18 5 3 := ⟨_, _, _, _, cf_X5, by decide, tbg_in (List.mem_of_getElem? (i := 335) (by decide +kernel)) rfl⟩
theorem fg_RX5_22 : FG RX5 22 5 4 := ⟨_, _, _, _, cf_X5, by decide, tbg_in (List.mem_of_getElem? (i := 336) (by decide +kernel)) rfl⟩
theorem fg_RX5_26 : FG RX5 26 5 5 := ⟨_, _, _, _, cf_X5, by decide, tbg_in (List.mem_of_getElem? (i := 337) (by decide +kernel)) rfl⟩
theorem fg_RX5_29 : FG RX5 29 5 0 := ⟨_, _, _, _, cf_X5, by decide, tbg_in (List.mem_of_getElem? (i := 331) (by decide +kernel)) rfl⟩
theorem fg_RX5_33 : FG RX5 33 4 0 := ⟨_, _, _, _, cf_X4, by decide, tbg_in (List.mem_of_getElem? (i := 122) (by decide +kernel)) rfl⟩
theorem fg_RX5_38 : FG RX5 38 4 5 := ⟨_, _, _, _, cf_X4, by decide, tbg_in (List.mem_of_getElem? (i := 149) (by decide +kernel)) rfl⟩
theorem fg_RX5_73 : FG RX5 73 4 3 := ⟨_, _, _, _, cf_X4, by decide, tbg_in (List.mem_of_getElem? (i := 142) (by decide +kernel)) rfl⟩
theorem fg_RX5_76 : FG RX5 76 4 4 := ⟨_, _, _, _, cf_X4, by decide, tbg_in (List.mem_of_getElem? (i := 146) (by decide +kernel)) rfl⟩
theorem fg_RX5_79 : FG RX5 79 3 2 := ⟨_, _, _, _, cf_X3, by decide, tbg_in (List.mem_of_getElem? (i := 301) (by decide +kernel)) rfl⟩
theorem fg_RX6_11 : FG RX6 11 6 1 := ⟨_, _, _, _, cf_X6, by decide, tbg_in (List.mem_of_getElem? (i := 403) (by decide +kernel)) rfl⟩
theorem fg_RX6_15 : FG RX6 15 6 2 := ⟨_, _, _, _, cf_X6, by decide, tbg_in (List.mem_of_getElem? (i := 405) (by decide +kernel)) rfl⟩
theorem fg_RX6_19 : FG RX6 19 6 0 := ⟨_, _, _, _, cf_X6, by decide, tbg_in (List.mem_of_getElem? (i := 402) (by decide +kernel)) rfl⟩
theorem fg_RX6_33 : FG RX6 33 4 0 := ⟨_, _, _, _, cf_X4, by decide, tbg_in (List.mem_of_getElem? (i := 125) (by decide +kernel)) rfl⟩
theorem fg_RX6_36 : FG RX6 36 3 1 := ⟨_, _, _, _, cf_X3, by decide, tbg_in (List.mem_of_getElem? (i := 297) (by decide +kernel)) rfl⟩
theorem fg_RX6_39 : FG RX6 39 3 2 := ⟨_, _, _, _, cf_X3, by decide, tbg_in (List.mem_of_getElem? (i := 300) (by decide +kernel)) rfl⟩
theorem fg_RX6_54 : FG RX6 54 4 3 := ⟨_, _, _, _, cf_X4, by decide, tbg_in (List.mem_of_getElem? (i := 140) (by decide +kernel)) rfl⟩
theorem fg_RX7_11 : FG RX7 11 7 0 := ⟨_, _, _, _, cf_X7, by decide, tbg_in (List.mem_of_getElem? (i := 422) (by decide +kernel)) rfl⟩
theorem fg_RX7_15 : FG RX7 15 7 1 := ⟨_, _, _, _, cf_X7, by decide, tbg_in (List.mem_of_getElem? (i := 424) (by decide +kernel)) rfl⟩
theorem fg_RX7_18 : FG RX7 18 7 2 := ⟨_, _, _, _, cf_X7, by decide, tbg_in (List.mem_of_getElem? (i := 426) (by decide +kernel)) rfl⟩
theorem fg_RX7_21 : FG RX7 21 7 3 := ⟨_, _, _, _, cf_X7, by decide, tbg_in (List.mem_of_getElem? (i := 428) (by decide +kernel)) rfl⟩
theorem fg_RX7_24 : FG RX7 24 7 4 := ⟨_, _, _, _, cf_X7, by decide, tbg_in (List.mem_of_getElem? (i := 429) (by decide +kernel)) rfl⟩
theorem fg_RX7_27 : FG RX7 27 7 5 := ⟨_, _, _, _, cf_X7, by decide, tbg_in (List.mem_of_getElem? (i := 431) (by decide +kernel)) rfl⟩
theorem fg_RX8_11 : FG RX8 11 8 0 := ⟨_, _, _, _, cf_X8, by decide, tbg_in (List.mem_of_getElem? (i := 260) (by decide +kernel)) rfl⟩
theorem fg_RX8_15 : FG RX8 15 8 1 := ⟨_, _, _, _, cf_X8, by decide, tbg_in (List.mem_of_getElem? (i := 261) (by decide +kernel)) rfl⟩
theorem fg_RX8_22 : FG RX8 22 8 2 := ⟨_, _, _, _, cf_X8, by decide, tbg_in (List.mem_of_getElem? (i := 263) (by decide +kernel)) rfl⟩
theorem fg_RX8_26 : FG RX8 26 8 3 := ⟨_, _, _, _, cf_X8, by decide, tbg_in (List.mem_of_getElem? (i := 265) (by decide +kernel)) rfl⟩
theorem fg_RX8_30 : FG RX8 30 8 4 := ⟨_, _, _, _, cf_X8, by decide, tbg_in (List.mem_of_getElem? (i := 267) (by decide +kernel)) rfl⟩
theorem fg_RX8_33 : FG RX8 33 8 5 := ⟨_, _, _, _, cf_X8, by decide, tbg_in (List.mem_of_getElem? (i := 268) (by decide +kernel)) rfl⟩
theorem fg_RX8_36 : FG RX8 36 8 6 := ⟨_, _, _, _, cf_X8, by decide, tbg_in (List.mem_of_getElem? (i := 269) (by decide +kernel)) rfl⟩
theorem fg_RX8_39 : FG RX8 39 8 7 := ⟨_, _, _, _, cf_X8, by decide, tbg_in (List.mem_of_getElem? (i := 270) (by decide +kernel)) rfl⟩
theorem fg_RX8_42 : FG RX8 42 4 0 := ⟨_, _, _, _, cf_X4, by decide, tbg_in (List.mem_of_getElem? (i := 128) (by decide +kernel)) rfl⟩
theorem fg_RX9_9 : FG RX9 9 9 0 := ⟨_, _, _, _, cf_X9, by decide, tbg_in (List.mem_of_getElem? (i := 452) (by decide +kernel)) rfl⟩
theorem fg_RX9_15 : FG RX9 15 9 1 := ⟨_, _, _, _, cf_X9, by decide, tbg_in (List.mem_of_getElem? (i := 453) (by decide +kernel)) rfl⟩
theorem fg_RX9_18 : FG RX9 18 9 2 := ⟨_, _, _, _, cf_X9, by decide, tbg_in (List.mem_of_getElem? (i := 454) (by decide +kernel)) rfl⟩
theorem fg_RX9_21 : FG RX9 21 9 3 := ⟨_, _, _, _, cf_X9, by decide, tbg_in (List.mem_of_getElem? (i := 455) (by decide +kernel)) rfl⟩
theorem fg_RX9_25 : FG RX9 25 9 4 := ⟨_, _, _, _, cf_X9, by decide, tbg_in (List.mem_of_getElem? (i := 456) (by decide +kernel)) rfl⟩
theorem fg_RX9_29 : FG RX9 29 9 5 := ⟨_, _, _, _, cf_X9, by decide, tbg_in (List.mem_of_getElem? (i := 458) (by decide +kernel)) rfl⟩
theorem fp_RX1_31 : FPt RX1 31 1 5 .int := ⟨_, _, _, _, cf_X1, by decide, tbg_in (List.mem_of_getElem? (i := 176) (by decide +kernel)) rfl, rfl, by decide +kernel⟩
theorem fp_RX1_35 : FPt RX1 35 1 6 .int := ⟨_, _, _, _, cf_X1, by decide, tbg_in (List.mem_of_getElem? (i := 179) (by decide +kernel)) rfl, rfl, by decide +kernel⟩
theorem fp_RX1_38 : FPt RX1 38 1 7 .int := ⟨_, _, _, _, cf_X1, by decide, tbg_in (List.mem_of_getElem? (i := 182) (by decide +kernel)) rfl, rfl, by decide +kernel⟩
theorem fp_RX1_41 : FPt RX1 41 1 8 .int := ⟨_, _, _, _, cf_X1, by decide, tbg_in (List.mem_of_getElem? (i := 185) (by decide +kernel)) rfl, rfl, by decide +kernel⟩
theorem fp_RX10_9 : FPt RX10 9 10 0 .int := ⟨_, _, _, _, cf_X10, by decide, tbg_in (List.mem_of_getElem? (i := 212) (by decide +kernel)) rfl, rfl, by decide +kernel⟩
theorem fp_RX10_15 : FPt RX10 15 10 1 .int := ⟨_, _, _, _, cf_X10, by decide, tbg_in (List.mem_of_getElem? (i := 215) (by decide +kernel)) rfl, rfl, by decide +kernel⟩
theorem fp_RX11_29 : FPt RX11 29 11 4 .boolean := ⟨_, _, _, _, cf_X11, by decide, tbg_in (List.mem_of_getElem? (i := 477) (by decide +kernel)) rfl, rfl, by decide +kernel⟩
theorem fp_RX11_126 : FPt RX11 126 6 2 .int := ⟨_, _, _, _, cf_X6, by decide, tbg_in (List.mem_of_getElem? (i := 406) (by decide +kernel)) rfl, rfl, by decide +kernel⟩
theorem fp_RX11_278 : FPt RX11 278 10 1 .int := ⟨_, _, _, _, cf_X10, by decide, tbg_in (List.mem_of_getElem? (i := 216) (by decide +kernel)) rfl, rfl, by decide +kernel⟩
theorem fp_RX12_34 : FPt RX12 34 12 14 .int := ⟨_, _, _, _, cf_X12, by decide, tbg_in (List.mem_of_getElem? (i := 1112) (by decide +kernel)) rfl, rfl, by decide +kernel⟩
theorem fp_RX12_96 : FPt RX12 96 12 0 .int := ⟨_, _, _, _, cf_X12, by decide, tbg_in (List.mem_of_getElem? (i := 1098) (by decide +kernel)) rfl, rfl, by decide +kernel⟩
theorem fp_RX12_111 : FPt RX12 111 12 16 .int := ⟨_, _, _, _, cf_X12, by decide, tbg_in (List.mem_of_getElem? (i := 1114) (by decide +kernel)) rfl, rfl, by decide +kernel⟩
theorem fp_RX12_116 : FPt RX12 116 12 19 .int := ⟨_, _, _, _, cf_X12, by decide, tbg_in (List.mem_of_getElem? (i := 1117) (by decide +kernel)) rfl, rfl, by decide +kernel⟩
theorem fp_RX12_119 : FPt RX12 119 12 18 .int := ⟨_, _, _, _, cf_X12, by decide, tbg_in (List.mem_of_getElem? (i := 1116) (by decide +kernel)) rfl, rfl, by decide +kernel⟩
theorem fp_RX12_132 : FPt RX12 132 12 17 .int := ⟨_, _, _, _, cf_X12, by decide, tbg_in (List.mem_of_getElem? (i := 1115) (by decide +kernel)) rfl, rfl, by decide +kernel⟩
theorem fp_RX12_135 : FPt RX12 135 12 20 .long := ⟨_, _, _, _, cf_X12, by decide, tbg_in (List.mem_of_getElem? (i := 1118) (by decide +kernel)) rfl, rfl, by decide +kernel⟩
theorem fp_RX12_139 : FPt RX12 139 12 21 .int := ⟨_, _, _, _, cf_X12, by decide, tbg_in (List.mem_of_getElem? (i := 1119) (by decide +kernel)) rfl, rfl, by decide +kernel⟩
theorem fp_RX12_170 : FPt RX12 170 12 22 .boolean := ⟨_, _, _, _, cf_X12, by decide, tbg_in (List.mem_of_getElem? (i := 1120) (by decide +kernel)) rfl, rfl, by decide +kernel⟩
theorem fp_RX12_180 : FPt RX12 180 12 25 .int := ⟨_, _, _, _, cf_X12, by decide, tbg_in (List.mem_of_getElem? (i := 1123) (by decide +kernel)) rfl, rfl, by decide +kernel⟩
theorem fp_RX12_217 : FPt RX12 217 12 5 .int := ⟨_, _, _, _, cf_X12, by decide, tbg_in (List.mem_of_getElem? (i := 1103) (by decide +kernel)) rfl, rfl, by decide +kernel⟩
theorem fp_RX12_220 : FPt RX12 220 12 6 .int := ⟨_, _, _, _, cf_X12, by decide, tbg_in (List.mem_of_getElem? (i := 1104) (by decide +kernel)) rfl, rfl, by decide +kernel⟩
theorem fp_RX12_223 : FPt RX12 223 12 7 .int := ⟨_, _, _, _, cf_X12, by decide, tbg_in (List.mem_of_getElem? (i := 1105) (by decide +kernel)) rfl, rfl, by decide +kernel⟩
theorem fp_RX12_226 : FPt RX12 226 12 8 .int := ⟨_, _, _, _, cf_X12, by decide, tbg_in (List.mem_of_getElem? (i := 1106) (by decide +kernel)) rfl, rfl, by decide +kernel⟩
theorem fp_RX12_229 : FPt RX12 229 12 37 .int := ⟨_, _, _, _, cf_X12, by decide, tbg_in (List.mem_of_getElem? (i := 1135) (by decide +kernel)) rfl, rfl, by decide +kernel⟩
theorem fp_RX12_251 : FPt RX12 251 12 29 .int := ⟨_, _, _, _, cf_X12, by decide, tbg_in (List.mem_of_getElem? (i := 1127) (by decide +kernel)) rfl, rfl, by decide +kernel⟩
theorem fp_RX12_254 : FPt RX12 254 12 30 .int := ⟨_, _, _, _, cf_X12, by decide, tbg_in (List.mem_of_getElem? (i := 1128) (by decide +kernel)) rfl, rfl, by decide +kernel⟩
theorem fp_RX12_306 : FPt RX12 306 12 32 .int := ⟨_, _, _, _, cf_X12, by decide, tbg_in (List.mem_of_getElem? (i := 1130) (by decide +kernel)) rfl, rfl, by decide +kernel⟩
theorem fp_RX12_309 : FPt RX12 309 12 33 .int := ⟨_, _, _, _, cf_X12, by decide, tbg_in (List.mem_of_getElem? (i := 1131) (by decide +kernel)) rfl, rfl, by decide +kernel⟩
theorem fp_RX12_324 : FPt RX12 324 12 12 .int := ⟨_, _, _, _, cf_X12, by decide, tbg_in (List.mem_of_getElem? (i := 1110) (by decide +kernel)) rfl, rfl, by decide +kernel⟩
theorem fp_RX12_361 : FPt RX12 361 12 48 .int := ⟨_, _, _, _, cf_X12, by decide, tbg_in (List.mem_of_getElem? (i := 1146) (by decide +kernel)) rfl, rfl, by decide +kernel⟩
theorem fp_RX12_367 : FPt RX12 367 12 45 .int := ⟨_, _, _, _, cf_X12, by decide, tbg_in (List.mem_of_getElem? (i := 1143) (by decide +kernel)) rfl, rfl, by decide +kernel⟩
theorem fp_RX12_373 : FPt RX12 373 12 44 .int := ⟨_, _, _, _, cf_X12, by decide, tbg_in (List.mem_of_getElem? (i := 1142) (by decide +kernel)) rfl, rfl, by decide +kernel⟩
theorem fp_RX12_385 : FPt RX12 385 12 46 .int := ⟨_, _, _, _, cf_X12, by decide, tbg_in (List.mem_of_getElem? (i := 1144) (by decide +kernel)) rfl, rfl, by decide +kernel⟩
theorem fp_RX12_391 : FPt RX12 391 12 49 .boolean := ⟨_, _, _, _, cf_X12, by decide, tbg_in (List.mem_of_getElem? (i := 1147) (by decide +kernel)) rfl, rfl, by decide +kernel⟩
theorem fp_RX12_409 : FPt RX12 409 12 52 .int := ⟨_, _, _, _, cf_X12, by decide, tbg_in (List.mem_of_getElem? (i := 1150) (by decide +kernel)) rfl, rfl, by decide +kernel⟩
theorem fp_RX12_420 : FPt RX12 420 12 50 .boolean := ⟨_, _, _, _, cf_X12, by decide, tbg_in (List.mem_of_getElem? (i := 1148) (by decide +kernel)) rfl, rfl, by decide +kernel⟩
theorem fp_RX2_27 : FPt RX2 27 2 6 .boolean := ⟨_, _, _, _, cf_X2, by decide, tbg_in (List.mem_of_getElem? (i := 364) (by decide +kernel)) rfl, rfl, by decide +kernel⟩
theorem fp_RX2_31 : FPt RX2 31 2 7 .int := ⟨_, _, _, _, cf_X2, by decide, tbg_in (List.mem_of_getElem? (i := 365) (by decide +kernel)) rfl, rfl, by decide +kernel⟩
theorem fp_RX2_35 : FPt RX2 35 2 8 .int := ⟨_, _, _, _, cf_X2, by decide, tbg_in (List.mem_of_getElem? (i := 366) (by decide +kernel)) rfl, rfl, by decide +kernel⟩
theorem fp_RX3_18 : FPt RX3 18 3 2 .int := ⟨_, _, _, _, cf_X3, by decide, tbg_in (List.mem_of_getElem? (i := 299) (by decide +kernel)) rfl, rfl, by decide +kernel⟩
theorem fp_RX3_22 : FPt RX3 22 3 3 .int := ⟨_, _, _, _, cf_X3, by decide, tbg_in (List.mem_of_getElem? (i := 304) (by decide +kernel)) rfl, rfl, by decide +kernel⟩
theorem fp_RX3_25 : FPt RX3 25 3 4 .int := ⟨_, _, _, _, cf_X3, by decide, tbg_in (List.mem_of_getElem? (i := 306) (by decide +kernel)) rfl, rfl, by decide +kernel⟩
theorem fp_RX3_28 : FPt RX3 28 3 5 .int := ⟨_, _, _, _, cf_X3, by decide, tbg_in (List.mem_of_getElem? (i := 307) (by decide +kernel)) rfl, rfl, by decide +kernel⟩
theorem fp_RX3_31 : FPt RX3 31 3 6 .int := ⟨_, _, _, _, cf_X3, by decide, tbg_in (List.mem_of_getElem? (i := 308) (by decide +kernel)) rfl, rfl, by decide +kernel⟩
theorem fp_RX4_9 : FPt RX4 9 4 0 .int := ⟨_, _, _, _, cf_X4, by decide, tbg_in (List.mem_of_getElem? (i := 121) (by decide +kernel)) rfl, rfl, by decide +kernel⟩
theorem fp_RX5_18 : FPt RX5 18 5 3 .int := ⟨_, _, _, _, cf_X5, by decide, tbg_in (List.mem_of_getElem? (i := 335) (by decide +kernel)) rfl, rfl, by decide +kernel⟩
theorem fp_RX5_22 : FPt RX5 22 5 4 .int := ⟨_, _, _, _, cf_X5, by decide, tbg_in (List.mem_of_getElem? (i := 336) (by decide +kernel)) rfl, rfl, by decide +kernel⟩
theorem fp_RX5_26 : FPt RX5 26 5 5 .int := ⟨_, _, _, _, cf_X5, by decide, tbg_in (List.mem_of_getElem? (i := 337) (by decide +kernel)) rfl, rfl, by decide +kernel⟩
theorem fp_RX6_15 : FPt RX6 15 6 2 .int := ⟨_, _, _, _, cf_X6, by decide, tbg_in (List.mem_of_getElem? (i := 405) (by decide +kernel)) rfl, rfl, by decide +kernel⟩
theorem fp_RX8_15 : FPt RX8 15 8 1 .int := ⟨_, _, _, _, cf_X8, by decide, tbg_in (List.mem_of_getElem? (i := 261) (by decide +kernel)) rfl, rfl, by decide +kernel⟩
theorem fp_RX8_30 : FPt RX8 30 8 4 .int := ⟨_, _, _, _, cf_X8, by decide, tbg_in (List.mem_of_getElem? (i := 267) (by decide +kernel)) rfl, rfl, by decide +kernel⟩
theorem fp_RX8_33 : FPt RX8 33 8 5 .int := ⟨_, _, _, _, cf_X8, by decide, tbg_in (List.mem_of_getElem? (i := 268) (by decide +kernel)) rfl, rfl, by decide +kernel⟩
theorem fp_RX8_36 : FPt RX8 36 8 6 .int := ⟨_, _, _, _, cf_X8, by decide, tbg_in (List.mem_of_getElem? (i := 269) (by decide +kernel)) rfl, rfl, by decide +kernel⟩
theorem fp_RX8_39 : FPt RX8 39 8 7 .int := ⟨_, _, _, _, cf_X8, by decide, tbg_in (List.mem_of_getElem? (i := 270) (by decide +kernel)) rfl, rfl, by decide +kernel⟩
theorem fp_RX8_42 : FPt RX8 42 4 0 .int := ⟨_, _, _, _, cf_X4, by decide, tbg_in (List.mem_of_getElem? (i := 128) (by decide +kernel)) rfl, rfl, by decide +kernel⟩
theorem fp_RX9_9 : FPt RX9 9 9 0 .int := ⟨_, _, _, _, cf_X9, by decide, tbg_in (List.mem_of_getElem? (i := 452) (by decide +kernel)) rfl, rfl, by decide +kernel⟩
theorem fp_RX9_15 : FPt RX9 15 9 1 .int := ⟨_, _, _, _, cf_X9, by decide, tbg_in (List.mem_of_getElem? (i := 453) (by decide +kernel)) rfl, rfl, by decide +kernel⟩
theorem fp_RX9_18 : FPt RX9 18 9 2 .int := ⟨_, _, _, _, cf_X9, by decide, tbg_in (List.mem_of_getElem? (i := 454) (by decide +kernel)) rfl, rfl, by decide +kernel⟩
theorem fp_RX9_21 : FPt RX9 21 9 3 .boolean := ⟨_, _, _, _, cf_X9, by decide, tbg_in (List.mem_of_getElem? (i := 455) (by decide +kernel)) rfl, rfl, by decide +kernel⟩
theorem fp_RX9_29 : FPt RX9 29 9 5 .int := ⟨_, _, _, _, cf_X9, by decide, tbg_in (List.mem_of_getElem? (i := 458) (by decide +kernel)) rfl, rfl, by decide +kernel⟩
theorem wcM_max : Cond.code Lib.Math.max.name Lib.Math.max.code 2 (some .int) ∈ TBG := tbg_in (List.mem_of_getElem? (i := 713) (by decide +kernel)) rfl
theorem wcM_min : Cond.code Lib.Math.min.name Lib.Math.min.code 2 (some .int) ∈ TBG := tbg_in (List.mem_of_getElem? (i := 757) (by decide +kernel)) rfl
theorem wf_RJ0_1053 : Cond.fieldLink RJ0 1053 "jdk/internal/util/Preconditions" "SIOOBE_FORMATTER" "Ljava/util/function/BiFunction;" ∈ TBG := tbg_in (List.mem_of_getElem? (i := 576) (by decide +kernel)) rfl
theorem wf_RJ0_15 : Cond.fieldLink RJ0 15 "java/lang/String" "coder" "B" ∈ TBG := tbg_in (List.mem_of_getElem? (i := 1717) (by decide +kernel)) rfl
theorem wf_RJ0_38 : Cond.fieldLink RJ0 38 "java/lang/String" "COMPACT_STRINGS" "Z" ∈ TBG := tbg_in (List.mem_of_getElem? (i := 560) (by decide +kernel)) rfl
theorem wf_RJ0_9 : Cond.fieldLink RJ0 9 "java/lang/String" "value" "[B" ∈ TBG := tbg_in (List.mem_of_getElem? (i := 1716) (by decide +kernel)) rfl
theorem wf_RX11_163 : Cond.fieldLink RX11 163 "PressDays" "LAW_LEAST" "[I" ∈ TBG := tbg_in (List.mem_of_getElem? (i := 693) (by decide +kernel)) rfl
theorem wf_RX11_166 : Cond.fieldLink RX11 166 "PressDays" "LAW_MOST" "[I" ∈ TBG := tbg_in (List.mem_of_getElem? (i := 694) (by decide +kernel)) rfl
theorem win_math : Cond.initialized "java/lang/Math" ∈ TBG := tbg_in (List.mem_of_getElem? (i := 99) (by decide +kernel)) rfl
theorem win_sys : Cond.initialized "java/lang/System" ∈ TBG := tbg_in (List.mem_of_getElem? (i := 100) (by decide +kernel)) rfl
theorem wk_RX10_37 : Cond.constant RX10 37 1103515245 ∈ TBG := tbg_in (List.mem_of_getElem? (i := 913) (by decide +kernel)) rfl
theorem wk_RX11_207 : Cond.constant RX11 207 (-2147483648) ∈ TBG := tbg_in (List.mem_of_getElem? (i := 775) (by decide +kernel)) rfl
theorem wk_RX12_114 : Cond.constantLong RX12 114 255 ∈ TBG := tbg_in (List.mem_of_getElem? (i := 1269) (by decide +kernel)) rfl
theorem wk_RX12_142 : Cond.constantLong RX12 142 27 ∈ TBG := tbg_in (List.mem_of_getElem? (i := 1288) (by decide +kernel)) rfl
theorem wk_RX12_144 : Cond.constantLong RX12 144 96 ∈ TBG := tbg_in (List.mem_of_getElem? (i := 1289) (by decide +kernel)) rfl
theorem wk_RX12_146 : Cond.constantLong RX12 146 (-1) ∈ TBG := tbg_in (List.mem_of_getElem? (i := 1290) (by decide +kernel)) rfl
theorem wk_RX12_148 : Cond.constantLong RX12 148 7697 ∈ TBG := tbg_in (List.mem_of_getElem? (i := 1295) (by decide +kernel)) rfl
theorem wk_RX12_154 : Cond.constantLong RX12 154 8984627224 ∈ TBG := tbg_in (List.mem_of_getElem? (i := 1300) (by decide +kernel)) rfl
theorem wk_RX12_156 : Cond.constantLong RX12 156 237942837 ∈ TBG := tbg_in (List.mem_of_getElem? (i := 1301) (by decide +kernel)) rfl
theorem wk_RX12_158 : Cond.constantLong RX12 158 291828332 ∈ TBG := tbg_in (List.mem_of_getElem? (i := 1302) (by decide +kernel)) rfl
theorem wk_RX12_160 : Cond.constantLong RX12 160 311034809 ∈ TBG := tbg_in (List.mem_of_getElem? (i := 1303) (by decide +kernel)) rfl
theorem wk_RX12_162 : Cond.constantLong RX12 162 158523 ∈ TBG := tbg_in (List.mem_of_getElem? (i := 1304) (by decide +kernel)) rfl
theorem wk_RX12_164 : Cond.constantLong RX12 164 10345069 ∈ TBG := tbg_in (List.mem_of_getElem? (i := 1332) (by decide +kernel)) rfl
theorem wk_RX12_166 : Cond.constantLong RX12 166 125042 ∈ TBG := tbg_in (List.mem_of_getElem? (i := 1333) (by decide +kernel)) rfl
theorem wk_RX12_168 : Cond.constantLong RX12 168 7443763252 ∈ TBG := tbg_in (List.mem_of_getElem? (i := 1334) (by decide +kernel)) rfl
theorem wk_RX12_186 : Cond.constantLong RX12 186 1299899 ∈ TBG := tbg_in (List.mem_of_getElem? (i := 1313) (by decide +kernel)) rfl
theorem wk_RX12_188 : Cond.constantLong RX12 188 79 ∈ TBG := tbg_in (List.mem_of_getElem? (i := 1314) (by decide +kernel)) rfl
theorem wk_RX12_194 : Cond.constantLong RX12 194 4797 ∈ TBG := tbg_in (List.mem_of_getElem? (i := 1319) (by decide +kernel)) rfl
theorem wk_RX12_284 : Cond.constant RX12 284 (-2147483648) ∈ TBG := tbg_in (List.mem_of_getElem? (i := 1459) (by decide +kernel)) rfl
theorem wk_RX12_342 : Cond.constant RX12 342 1103515245 ∈ TBG := tbg_in (List.mem_of_getElem? (i := 1572) (by decide +kernel)) rfl
theorem wk_RX5_25 : Cond.constant RX5 25 1000000 ∈ TBG := tbg_in (List.mem_of_getElem? (i := 330) (by decide +kernel)) rfl
theorem wl_RX0_65 : Cond.methodLink RX0 65 Lib.Math.max.name ∈ TBG := tbg_in (List.mem_of_getElem? (i := 904) (by decide +kernel)) rfl
theorem wl_RX1_44 : Cond.methodLink RX1 44 Lib.Math.max.name ∈ TBG := tbg_in (List.mem_of_getElem? (i := 711) (by decide +kernel)) rfl
theorem wl_RX1_88 : Cond.methodLink RX1 88 arraycopyName ∈ TBG := tbg_in (List.mem_of_getElem? (i := 1083) (by decide +kernel)) rfl
theorem wl_RX2_62 : Cond.methodLink RX2 62 arraycopyName ∈ TBG := tbg_in (List.mem_of_getElem? (i := 866) (by decide +kernel)) rfl
theorem wl_RX3_55 : Cond.methodLink RX3 55 Lib.Math.min.name ∈ TBG := tbg_in (List.mem_of_getElem? (i := 755) (by decide +kernel)) rfl
theorem wl_RX3_61 : Cond.methodLink RX3 61 Lib.Math.max.name ∈ TBG := tbg_in (List.mem_of_getElem? (i := 758) (by decide +kernel)) rfl
theorem wl_RX5_53 : Cond.methodLink RX5 53 arraycopyName ∈ TBG := tbg_in (List.mem_of_getElem? (i := 789) (by decide +kernel)) rfl
theorem wn_RX8_58 : Cond.fieldLinkNest RX8 58 "PressDays" "LAW_LEAST" "[I" "PressDays" ∈ NWL := nwl_in (List.mem_of_getElem? (i := 606) (by decide +kernel)) rfl
theorem wn_RX8_61 : Cond.fieldLinkNest RX8 61 "PressDays" "LAW_MOST" "[I" "PressDays" ∈ NWL := nwl_in (List.mem_of_getElem? (i := 608) (by decide +kernel)) rfl
theorem wna_copy : Cond.native arraycopyName ∈ TBG := tbg_in (List.mem_of_getElem? (i := 791) (by decide +kernel)) rfl
theorem wsM_max : Cond.static Lib.Math.max.name ∈ TBG := tbg_in (List.mem_of_getElem? (i := 712) (by decide +kernel)) rfl
theorem wsM_min : Cond.static Lib.Math.min.name ∈ TBG := tbg_in (List.mem_of_getElem? (i := 756) (by decide +kernel)) rfl
theorem wst_copy : Cond.static arraycopyName ∈ TBG := tbg_in (List.mem_of_getElem? (i := 790) (by decide +kernel)) rfl
theorem wc_yJ0_charAt_5068e : Cond.code yJ0_charAt_5068e cJ0_charAt_5068e 2 (some .char) ∈ TBG := tbg_in (List.mem_of_getElem? (i := 565) (by decide +kernel)) rfl
theorem wi_yJ0_charAt_5068e : Cond.instanceMethod yJ0_charAt_5068e ∈ TBG := tbg_in (List.mem_of_getElem? (i := 563) (by decide +kernel)) rfl
theorem we_yJ0_charAt_5068e : Cond.selects RJ0 yJ0_charAt_5068e yJ0_charAt_5068e ∈ TBG := tbg_in (List.mem_of_getElem? (i := 564) (by decide +kernel)) rfl
theorem wc_yJ0_checkIndex_df160 : Cond.code yJ0_checkIndex_df160 cJ0_checkIndex_df160 2 none ∈ TBG := tbg_in (List.mem_of_getElem? (i := 575) (by decide +kernel)) rfl
theorem ws_yJ0_checkIndex_df160 : Cond.static yJ0_checkIndex_df160 ∈ TBG := tbg_in (List.mem_of_getElem? (i := 574) (by decide +kernel)) rfl
theorem wc_yJ0_coder_7d493 : Cond.code yJ0_coder_7d493 cJ0_coder_7d493 1 (some .byte) ∈ TBG := tbg_in (List.mem_of_getElem? (i := 559) (by decide +kernel)) rfl
theorem wi_yJ0_coder_7d493 : Cond.instanceMethod yJ0_coder_7d493 ∈ TBG := tbg_in (List.mem_of_getElem? (i := 557) (by decide +kernel)) rfl
theorem we_yJ0_coder_7d493 : Cond.selects RJ0 yJ0_coder_7d493 yJ0_coder_7d493 ∈ TBG := tbg_in (List.mem_of_getElem? (i := 558) (by decide +kernel)) rfl
theorem wc_yJ0_isLatin1_aae02 : Cond.code yJ0_isLatin1_aae02 cJ0_isLatin1_aae02 1 (some .boolean) ∈ TBG := tbg_in (List.mem_of_getElem? (i := 569) (by decide +kernel)) rfl
theorem wi_yJ0_isLatin1_aae02 : Cond.instanceMethod yJ0_isLatin1_aae02 ∈ TBG := tbg_in (List.mem_of_getElem? (i := 567) (by decide +kernel)) rfl
theorem we_yJ0_isLatin1_aae02 : Cond.selects RJ0 yJ0_isLatin1_aae02 yJ0_isLatin1_aae02 ∈ TBG := tbg_in (List.mem_of_getElem? (i := 568) (by decide +kernel)) rfl
theorem wc_yJ0_length_8abf5 : Cond.code yJ0_length_8abf5 cJ0_length_8abf5 1 (some .int) ∈ TBG := tbg_in (List.mem_of_getElem? (i := 555) (by decide +kernel)) rfl
theorem wi_yJ0_length_8abf5 : Cond.instanceMethod yJ0_length_8abf5 ∈ TBG := tbg_in (List.mem_of_getElem? (i := 553) (by decide +kernel)) rfl
theorem we_yJ0_length_8abf5 : Cond.selects RJ0 yJ0_length_8abf5 yJ0_length_8abf5 ∈ TBG := tbg_in (List.mem_of_getElem? (i := 554) (by decide +kernel)) rfl
theorem wc_yJ1_charAt_3b067 : Cond.code yJ1_charAt_3b067 cJ1_charAt_3b067 2 (some .char) ∈ TBG := tbg_in (List.mem_of_getElem? (i := 572) (by decide +kernel)) rfl
theorem ws_yJ1_charAt_3b067 : Cond.static yJ1_charAt_3b067 ∈ TBG := tbg_in (List.mem_of_getElem? (i := 571) (by decide +kernel)) rfl
theorem wc_yJ3_checkIndex_8e157 : Cond.code yJ3_checkIndex_8e157 cJ3_checkIndex_8e157 3 (some .int) ∈ TBG := tbg_in (List.mem_of_getElem? (i := 580) (by decide +kernel)) rfl
theorem ws_yJ3_checkIndex_8e157 : Cond.static yJ3_checkIndex_8e157 ∈ TBG := tbg_in (List.mem_of_getElem? (i := 579) (by decide +kernel)) rfl
theorem wc_yX0_mostOf : Cond.code yX0_mostOf cX0_mostOf 9 (some .int) ∈ TBG := tbg_in (List.mem_of_getElem? (i := 898) (by decide +kernel)) rfl
theorem wi_yX0_mostOf : Cond.instanceMethod yX0_mostOf ∈ TBG := tbg_in (List.mem_of_getElem? (i := 896) (by decide +kernel)) rfl
theorem we_yX0_mostOf : Cond.selects RX0 yX0_mostOf yX0_mostOf ∈ TBG := tbg_in (List.mem_of_getElem? (i := 897) (by decide +kernel)) rfl
theorem wc_yX10_add : Cond.code yX10_add cX10_add 7 (some .int) ∈ TBG := tbg_in (List.mem_of_getElem? (i := 886) (by decide +kernel)) rfl
theorem wi_yX10_add : Cond.instanceMethod yX10_add ∈ TBG := tbg_in (List.mem_of_getElem? (i := 884) (by decide +kernel)) rfl
theorem we_yX10_add : Cond.selects RX10 yX10_add yX10_add ∈ TBG := tbg_in (List.mem_of_getElem? (i := 885) (by decide +kernel)) rfl
theorem wc_yX10_copy : Cond.code yX10_copy cX10_copy 3 none ∈ TBG := tbg_in (List.mem_of_getElem? (i := 1087) (by decide +kernel)) rfl
theorem wi_yX10_copy : Cond.instanceMethod yX10_copy ∈ TBG := tbg_in (List.mem_of_getElem? (i := 1085) (by decide +kernel)) rfl
theorem we_yX10_copy : Cond.selects RX10 yX10_copy yX10_copy ∈ TBG := tbg_in (List.mem_of_getElem? (i := 1086) (by decide +kernel)) rfl
theorem wc_yX10_next : Cond.code yX10_next cX10_next 4 (some .int) ∈ TBG := tbg_in (List.mem_of_getElem? (i := 912) (by decide +kernel)) rfl
theorem wi_yX10_next : Cond.instanceMethod yX10_next ∈ TBG := tbg_in (List.mem_of_getElem? (i := 910) (by decide +kernel)) rfl
theorem we_yX10_next : Cond.selects RX10 yX10_next yX10_next ∈ TBG := tbg_in (List.mem_of_getElem? (i := 911) (by decide +kernel)) rfl
theorem wc_yX10_oddsOfAll : Cond.code yX10_oddsOfAll cX10_oddsOfAll 3 (some .int) ∈ TBG := tbg_in (List.mem_of_getElem? (i := 882) (by decide +kernel)) rfl
theorem wi_yX10_oddsOfAll : Cond.instanceMethod yX10_oddsOfAll ∈ TBG := tbg_in (List.mem_of_getElem? (i := 880) (by decide +kernel)) rfl
theorem we_yX10_oddsOfAll : Cond.selects RX10 yX10_oddsOfAll yX10_oddsOfAll ∈ TBG := tbg_in (List.mem_of_getElem? (i := 881) (by decide +kernel)) rfl
theorem wc_yX11_digitsOf : Cond.code yX11_digitsOf cX11_digitsOf 4 (some .int) ∈ TBG := tbg_in (List.mem_of_getElem? (i := 801) (by decide +kernel)) rfl
theorem ws_yX11_digitsOf : Cond.static yX11_digitsOf ∈ TBG := tbg_in (List.mem_of_getElem? (i := 800) (by decide +kernel)) rfl
theorem wc_yX11_followPlan : Cond.code yX11_followPlan cX11_followPlan 1 none ∈ TBG := tbg_in (List.mem_of_getElem? (i := 737) (by decide +kernel)) rfl
theorem wi_yX11_followPlan : Cond.instanceMethod yX11_followPlan ∈ TBG := tbg_in (List.mem_of_getElem? (i := 736) (by decide +kernel)) rfl
theorem we_yX11_followPlan : Cond.selects RX11 yX11_followPlan yX11_followPlan ∈ TBG := tbg_in (List.mem_of_getElem? (i := 10) (by decide +kernel)) rfl
theorem wc_yX11_isJob : Cond.code yX11_isJob cX11_isJob 5 (some .boolean) ∈ TBG := tbg_in (List.mem_of_getElem? (i := 662) (by decide +kernel)) rfl
theorem ws_yX11_isJob : Cond.static yX11_isJob ∈ TBG := tbg_in (List.mem_of_getElem? (i := 661) (by decide +kernel)) rfl
theorem wc_yX11_isUnder : Cond.code yX11_isUnder cX11_isUnder 2 (some .boolean) ∈ TBG := tbg_in (List.mem_of_getElem? (i := 1025) (by decide +kernel)) rfl
theorem ws_yX11_isUnder : Cond.static yX11_isUnder ∈ TBG := tbg_in (List.mem_of_getElem? (i := 1024) (by decide +kernel)) rfl
theorem wc_yX11_partOf : Cond.code yX11_partOf cX11_partOf 5 (some .int) ∈ TBG := tbg_in (List.mem_of_getElem? (i := 853) (by decide +kernel)) rfl
theorem ws_yX11_partOf : Cond.static yX11_partOf ∈ TBG := tbg_in (List.mem_of_getElem? (i := 852) (by decide +kernel)) rfl
theorem wc_yX11_within : Cond.code yX11_within cX11_within 3 (some .boolean) ∈ TBG := tbg_in (List.mem_of_getElem? (i := 522) (by decide +kernel)) rfl
theorem ws_yX11_within : Cond.static yX11_within ∈ TBG := tbg_in (List.mem_of_getElem? (i := 521) (by decide +kernel)) rfl
theorem wc_yX12_advance : Cond.code yX12_advance cX12_advance 2 none ∈ TBG := tbg_in (List.mem_of_getElem? (i := 1277) (by decide +kernel)) rfl
theorem wi_yX12_advance : Cond.instanceMethod yX12_advance ∈ TBG := tbg_in (List.mem_of_getElem? (i := 1276) (by decide +kernel)) rfl
theorem we_yX12_advance : Cond.selects RX12 yX12_advance yX12_advance ∈ TBG := tbg_in (List.mem_of_getElem? (i := 24) (by decide +kernel)) rfl
theorem wc_yX12_byPlan : Cond.code yX12_byPlan cX12_byPlan 2 none ∈ TBG := tbg_in (List.mem_of_getElem? (i := 1418) (by decide +kernel)) rfl
theorem wi_yX12_byPlan : Cond.instanceMethod yX12_byPlan ∈ TBG := tbg_in (List.mem_of_getElem? (i := 1417) (by decide +kernel)) rfl
theorem we_yX12_byPlan : Cond.selects RX12 yX12_byPlan yX12_byPlan ∈ TBG := tbg_in (List.mem_of_getElem? (i := 40) (by decide +kernel)) rfl
theorem wc_yX12_byteAt : Cond.code yX12_byteAt cX12_byteAt 2 (some .int) ∈ TBG := tbg_in (List.mem_of_getElem? (i := 1281) (by decide +kernel)) rfl
theorem wi_yX12_byteAt : Cond.instanceMethod yX12_byteAt ∈ TBG := tbg_in (List.mem_of_getElem? (i := 1280) (by decide +kernel)) rfl
theorem we_yX12_byteAt : Cond.selects RX12 yX12_byteAt yX12_byteAt ∈ TBG := tbg_in (List.mem_of_getElem? (i := 25) (by decide +kernel)) rfl
theorem wc_yX12_digitsOf : Cond.code yX12_digitsOf cX12_digitsOf 4 (some .int) ∈ TBG := tbg_in (List.mem_of_getElem? (i := 1483) (by decide +kernel)) rfl
theorem wi_yX12_digitsOf : Cond.instanceMethod yX12_digitsOf ∈ TBG := tbg_in (List.mem_of_getElem? (i := 1482) (by decide +kernel)) rfl
theorem we_yX12_digitsOf : Cond.selects RX12 yX12_digitsOf yX12_digitsOf ∈ TBG := tbg_in (List.mem_of_getElem? (i := 53) (by decide +kernel)) rfl
theorem wc_yX12_firstOrder : Cond.code yX12_firstOrder cX12_firstOrder 5 (some .int) ∈ TBG := tbg_in (List.mem_of_getElem? (i := 1467) (by decide +kernel)) rfl
theorem wi_yX12_firstOrder : Cond.instanceMethod yX12_firstOrder ∈ TBG := tbg_in (List.mem_of_getElem? (i := 1466) (by decide +kernel)) rfl
theorem we_yX12_firstOrder : Cond.selects RX12 yX12_firstOrder yX12_firstOrder ∈ TBG := tbg_in (List.mem_of_getElem? (i := 49) (by decide +kernel)) rfl
theorem wc_yX12_goesAway : Cond.code yX12_goesAway cX12_goesAway 5 none ∈ TBG := tbg_in (List.mem_of_getElem? (i := 1378) (by decide +kernel)) rfl
theorem wi_yX12_goesAway : Cond.instanceMethod yX12_goesAway ∈ TBG := tbg_in (List.mem_of_getElem? (i := 1377) (by decide +kernel)) rfl
theorem we_yX12_goesAway : Cond.selects RX12 yX12_goesAway yX12_goesAway ∈ TBG := tbg_in (List.mem_of_getElem? (i := 38) (by decide +kernel)) rfl
theorem wc_yX12_in : Cond.code yX12_in cX12_in 3 (some .boolean) ∈ TBG := tbg_in (List.mem_of_getElem? (i := 1268) (by decide +kernel)) rfl
theorem ws_yX12_in : Cond.static yX12_in ∈ TBG := tbg_in (List.mem_of_getElem? (i := 1267) (by decide +kernel)) rfl
theorem wc_yX12_isDigit : Cond.code yX12_isDigit cX12_isDigit 1 (some .boolean) ∈ TBG := tbg_in (List.mem_of_getElem? (i := 1287) (by decide +kernel)) rfl
theorem ws_yX12_isDigit : Cond.static yX12_isDigit ∈ TBG := tbg_in (List.mem_of_getElem? (i := 1286) (by decide +kernel)) rfl
theorem wc_yX12_isHeld : Cond.code yX12_isHeld cX12_isHeld 3 (some .boolean) ∈ TBG := tbg_in (List.mem_of_getElem? (i := 1631) (by decide +kernel)) rfl
theorem wi_yX12_isHeld : Cond.instanceMethod yX12_isHeld ∈ TBG := tbg_in (List.mem_of_getElem? (i := 1630) (by decide +kernel)) rfl
theorem we_yX12_isHeld : Cond.selects RX12 yX12_isHeld yX12_isHeld ∈ TBG := tbg_in (List.mem_of_getElem? (i := 66) (by decide +kernel)) rfl
theorem wc_yX12_isJob : Cond.code yX12_isJob cX12_isJob 2 (some .boolean) ∈ TBG := tbg_in (List.mem_of_getElem? (i := 1366) (by decide +kernel)) rfl
theorem wi_yX12_isJob : Cond.instanceMethod yX12_isJob ∈ TBG := tbg_in (List.mem_of_getElem? (i := 1365) (by decide +kernel)) rfl
theorem we_yX12_isJob : Cond.selects RX12 yX12_isJob yX12_isJob ∈ TBG := tbg_in (List.mem_of_getElem? (i := 36) (by decide +kernel)) rfl
theorem wc_yX12_isLate : Cond.code yX12_isLate cX12_isLate 2 (some .boolean) ∈ TBG := tbg_in (List.mem_of_getElem? (i := 1442) (by decide +kernel)) rfl
theorem wi_yX12_isLate : Cond.instanceMethod yX12_isLate ∈ TBG := tbg_in (List.mem_of_getElem? (i := 1441) (by decide +kernel)) rfl
theorem we_yX12_isLate : Cond.selects RX12 yX12_isLate yX12_isLate ∈ TBG := tbg_in (List.mem_of_getElem? (i := 45) (by decide +kernel)) rfl
theorem wc_yX12_isLetter : Cond.code yX12_isLetter cX12_isLetter 1 (some .boolean) ∈ TBG := tbg_in (List.mem_of_getElem? (i := 1284) (by decide +kernel)) rfl
theorem ws_yX12_isLetter : Cond.static yX12_isLetter ∈ TBG := tbg_in (List.mem_of_getElem? (i := 1283) (by decide +kernel)) rfl
theorem wc_yX12_isLike : Cond.code yX12_isLike cX12_isLike 3 (some .boolean) ∈ TBG := tbg_in (List.mem_of_getElem? (i := 1352) (by decide +kernel)) rfl
theorem ws_yX12_isLike : Cond.static yX12_isLike ∈ TBG := tbg_in (List.mem_of_getElem? (i := 1351) (by decide +kernel)) rfl
theorem wc_yX12_isMark : Cond.code yX12_isMark cX12_isMark 2 (some .boolean) ∈ TBG := tbg_in (List.mem_of_getElem? (i := 1327) (by decide +kernel)) rfl
theorem wi_yX12_isMark : Cond.instanceMethod yX12_isMark ∈ TBG := tbg_in (List.mem_of_getElem? (i := 1326) (by decide +kernel)) rfl
theorem we_yX12_isMark : Cond.selects RX12 yX12_isMark yX12_isMark ∈ TBG := tbg_in (List.mem_of_getElem? (i := 32) (by decide +kernel)) rfl
theorem wc_yX12_isPromised : Cond.code yX12_isPromised cX12_isPromised 2 (some .boolean) ∈ TBG := tbg_in (List.mem_of_getElem? (i := 1358) (by decide +kernel)) rfl
theorem ws_yX12_isPromised : Cond.static yX12_isPromised ∈ TBG := tbg_in (List.mem_of_getElem? (i := 1357) (by decide +kernel)) rfl
theorem wc_yX12_isRow : Cond.code yX12_isRow cX12_isRow 3 (some .boolean) ∈ TBG := tbg_in (List.mem_of_getElem? (i := 1596) (by decide +kernel)) rfl
theorem wi_yX12_isRow : Cond.instanceMethod yX12_isRow ∈ TBG := tbg_in (List.mem_of_getElem? (i := 1595) (by decide +kernel)) rfl
theorem we_yX12_isRow : Cond.selects RX12 yX12_isRow yX12_isRow ∈ TBG := tbg_in (List.mem_of_getElem? (i := 64) (by decide +kernel)) rfl
theorem wc_yX12_isShelf : Cond.code yX12_isShelf cX12_isShelf 1 (some .boolean) ∈ TBG := tbg_in (List.mem_of_getElem? (i := 1611) (by decide +kernel)) rfl
theorem ws_yX12_isShelf : Cond.static yX12_isShelf ∈ TBG := tbg_in (List.mem_of_getElem? (i := 1610) (by decide +kernel)) rfl
theorem wc_yX12_isSide : Cond.code yX12_isSide cX12_isSide 1 (some .boolean) ∈ TBG := tbg_in (List.mem_of_getElem? (i := 1355) (by decide +kernel)) rfl
theorem ws_yX12_isSide : Cond.static yX12_isSide ∈ TBG := tbg_in (List.mem_of_getElem? (i := 1354) (by decide +kernel)) rfl
theorem wc_yX12_isTaken : Cond.code yX12_isTaken cX12_isTaken 3 (some .boolean) ∈ TBG := tbg_in (List.mem_of_getElem? (i := 1559) (by decide +kernel)) rfl
theorem wi_yX12_isTaken : Cond.instanceMethod yX12_isTaken ∈ TBG := tbg_in (List.mem_of_getElem? (i := 1558) (by decide +kernel)) rfl
theorem we_yX12_isTaken : Cond.selects RX12 yX12_isTaken yX12_isTaken ∈ TBG := tbg_in (List.mem_of_getElem? (i := 61) (by decide +kernel)) rfl
theorem wc_yX12_isUnder : Cond.code yX12_isUnder cX12_isUnder 2 (some .boolean) ∈ TBG := tbg_in (List.mem_of_getElem? (i := 1642) (by decide +kernel)) rfl
theorem ws_yX12_isUnder : Cond.static yX12_isUnder ∈ TBG := tbg_in (List.mem_of_getElem? (i := 1641) (by decide +kernel)) rfl
theorem wc_yX12_isWord : Cond.code yX12_isWord cX12_isWord 3 (some .boolean) ∈ TBG := tbg_in (List.mem_of_getElem? (i := 1299) (by decide +kernel)) rfl
theorem wi_yX12_isWord : Cond.instanceMethod yX12_isWord ∈ TBG := tbg_in (List.mem_of_getElem? (i := 1298) (by decide +kernel)) rfl
theorem we_yX12_isWord : Cond.selects RX12 yX12_isWord yX12_isWord ∈ TBG := tbg_in (List.mem_of_getElem? (i := 27) (by decide +kernel)) rfl
theorem wc_yX12_its : Cond.code yX12_its cX12_its 3 (some .int) ∈ TBG := tbg_in (List.mem_of_getElem? (i := 1370) (by decide +kernel)) rfl
theorem wi_yX12_its : Cond.instanceMethod yX12_its ∈ TBG := tbg_in (List.mem_of_getElem? (i := 1369) (by decide +kernel)) rfl
theorem we_yX12_its : Cond.selects RX12 yX12_its yX12_its ∈ TBG := tbg_in (List.mem_of_getElem? (i := 37) (by decide +kernel)) rfl
theorem wc_yX12_keepsOrder : Cond.code yX12_keepsOrder cX12_keepsOrder 3 none ∈ TBG := tbg_in (List.mem_of_getElem? (i := 1471) (by decide +kernel)) rfl
theorem wi_yX12_keepsOrder : Cond.instanceMethod yX12_keepsOrder ∈ TBG := tbg_in (List.mem_of_getElem? (i := 1470) (by decide +kernel)) rfl
theorem we_yX12_keepsOrder : Cond.selects RX12 yX12_keepsOrder yX12_keepsOrder ∈ TBG := tbg_in (List.mem_of_getElem? (i := 50) (by decide +kernel)) rfl
theorem wc_yX12_kindHere : Cond.code yX12_kindHere cX12_kindHere 1 (some .int) ∈ TBG := tbg_in (List.mem_of_getElem? (i := 1294) (by decide +kernel)) rfl
theorem wi_yX12_kindHere : Cond.instanceMethod yX12_kindHere ∈ TBG := tbg_in (List.mem_of_getElem? (i := 1293) (by decide +kernel)) rfl
theorem we_yX12_kindHere : Cond.selects RX12 yX12_kindHere yX12_kindHere ∈ TBG := tbg_in (List.mem_of_getElem? (i := 26) (by decide +kernel)) rfl
theorem wc_yX12_kindOn : Cond.code yX12_kindOn cX12_kindOn 2 (some .int) ∈ TBG := tbg_in (List.mem_of_getElem? (i := 1639) (by decide +kernel)) rfl
theorem wi_yX12_kindOn : Cond.instanceMethod yX12_kindOn ∈ TBG := tbg_in (List.mem_of_getElem? (i := 1638) (by decide +kernel)) rfl
theorem we_yX12_kindOn : Cond.selects RX12 yX12_kindOn yX12_kindOn ∈ TBG := tbg_in (List.mem_of_getElem? (i := 67) (by decide +kernel)) rfl
theorem wc_yX12_lacksSort : Cond.code yX12_lacksSort cX12_lacksSort 3 (some .int) ∈ TBG := tbg_in (List.mem_of_getElem? (i := 1623) (by decide +kernel)) rfl
theorem wi_yX12_lacksSort : Cond.instanceMethod yX12_lacksSort ∈ TBG := tbg_in (List.mem_of_getElem? (i := 1622) (by decide +kernel)) rfl
theorem we_yX12_lacksSort : Cond.selects RX12 yX12_lacksSort yX12_lacksSort ∈ TBG := tbg_in (List.mem_of_getElem? (i := 65) (by decide +kernel)) rfl
theorem wc_yX12_lateMany : Cond.code yX12_lateMany cX12_lateMany 4 (some .int) ∈ TBG := tbg_in (List.mem_of_getElem? (i := 1491) (by decide +kernel)) rfl
theorem wi_yX12_lateMany : Cond.instanceMethod yX12_lateMany ∈ TBG := tbg_in (List.mem_of_getElem? (i := 1490) (by decide +kernel)) rfl
theorem we_yX12_lateMany : Cond.selects RX12 yX12_lateMany yX12_lateMany ∈ TBG := tbg_in (List.mem_of_getElem? (i := 54) (by decide +kernel)) rfl
theorem wc_yX12_lawHere : Cond.code yX12_lawHere cX12_lawHere 1 (some .int) ∈ TBG := tbg_in (List.mem_of_getElem? (i := 1331) (by decide +kernel)) rfl
theorem wi_yX12_lawHere : Cond.instanceMethod yX12_lawHere ∈ TBG := tbg_in (List.mem_of_getElem? (i := 1330) (by decide +kernel)) rfl
theorem we_yX12_lawHere : Cond.selects RX12 yX12_lawHere yX12_lawHere ∈ TBG := tbg_in (List.mem_of_getElem? (i := 33) (by decide +kernel)) rfl
theorem wc_yX12_lay : Cond.code yX12_lay cX12_lay 7 none ∈ TBG := tbg_in (List.mem_of_getElem? (i := 1342) (by decide +kernel)) rfl
theorem wi_yX12_lay : Cond.instanceMethod yX12_lay ∈ TBG := tbg_in (List.mem_of_getElem? (i := 1341) (by decide +kernel)) rfl
theorem we_yX12_lay : Cond.selects RX12 yX12_lay yX12_lay ∈ TBG := tbg_in (List.mem_of_getElem? (i := 35) (by decide +kernel)) rfl
theorem wc_yX12_lends : Cond.code yX12_lends cX12_lends 4 none ∈ TBG := tbg_in (List.mem_of_getElem? (i := 1430) (by decide +kernel)) rfl
theorem wi_yX12_lends : Cond.instanceMethod yX12_lends ∈ TBG := tbg_in (List.mem_of_getElem? (i := 1429) (by decide +kernel)) rfl
theorem we_yX12_lends : Cond.selects RX12 yX12_lends yX12_lends ∈ TBG := tbg_in (List.mem_of_getElem? (i := 43) (by decide +kernel)) rfl
theorem wc_yX12_lowest : Cond.code yX12_lowest cX12_lowest 6 none ∈ TBG := tbg_in (List.mem_of_getElem? (i := 1527) (by decide +kernel)) rfl
theorem wi_yX12_lowest : Cond.instanceMethod yX12_lowest ∈ TBG := tbg_in (List.mem_of_getElem? (i := 1526) (by decide +kernel)) rfl
theorem we_yX12_lowest : Cond.selects RX12 yX12_lowest yX12_lowest ∈ TBG := tbg_in (List.mem_of_getElem? (i := 58) (by decide +kernel)) rfl
theorem wc_yX12_mostOfAll : Cond.code yX12_mostOfAll cX12_mostOfAll 7 (some .int) ∈ TBG := tbg_in (List.mem_of_getElem? (i := 1463) (by decide +kernel)) rfl
theorem wi_yX12_mostOfAll : Cond.instanceMethod yX12_mostOfAll ∈ TBG := tbg_in (List.mem_of_getElem? (i := 1462) (by decide +kernel)) rfl
theorem we_yX12_mostOfAll : Cond.selects RX12 yX12_mostOfAll yX12_mostOfAll ∈ TBG := tbg_in (List.mem_of_getElem? (i := 48) (by decide +kernel)) rfl
theorem wc_yX12_move : Cond.code yX12_move cX12_move 5 none ∈ TBG := tbg_in (List.mem_of_getElem? (i := 1710) (by decide +kernel)) rfl
theorem wi_yX12_move : Cond.instanceMethod yX12_move ∈ TBG := tbg_in (List.mem_of_getElem? (i := 1709) (by decide +kernel)) rfl
theorem we_yX12_move : Cond.selects RX12 yX12_move yX12_move ∈ TBG := tbg_in (List.mem_of_getElem? (i := 80) (by decide +kernel)) rfl
theorem wc_yX12_moveAll : Cond.code yX12_moveAll cX12_moveAll 2 none ∈ TBG := tbg_in (List.mem_of_getElem? (i := 1706) (by decide +kernel)) rfl
theorem wi_yX12_moveAll : Cond.instanceMethod yX12_moveAll ∈ TBG := tbg_in (List.mem_of_getElem? (i := 1705) (by decide +kernel)) rfl
theorem we_yX12_moveAll : Cond.selects RX12 yX12_moveAll yX12_moveAll ∈ TBG := tbg_in (List.mem_of_getElem? (i := 79) (by decide +kernel)) rfl
theorem wc_yX12_nextOrder : Cond.code yX12_nextOrder cX12_nextOrder 5 (some .boolean) ∈ TBG := tbg_in (List.mem_of_getElem? (i := 1475) (by decide +kernel)) rfl
theorem wi_yX12_nextOrder : Cond.instanceMethod yX12_nextOrder ∈ TBG := tbg_in (List.mem_of_getElem? (i := 1474) (by decide +kernel)) rfl
theorem we_yX12_nextOrder : Cond.selects RX12 yX12_nextOrder yX12_nextOrder ∈ TBG := tbg_in (List.mem_of_getElem? (i := 51) (by decide +kernel)) rfl
theorem wc_yX12_oddsOfTypes : Cond.code yX12_oddsOfTypes cX12_oddsOfTypes 3 (some .int) ∈ TBG := tbg_in (List.mem_of_getElem? (i := 1543) (by decide +kernel)) rfl
theorem wi_yX12_oddsOfTypes : Cond.instanceMethod yX12_oddsOfTypes ∈ TBG := tbg_in (List.mem_of_getElem? (i := 1542) (by decide +kernel)) rfl
theorem we_yX12_oddsOfTypes : Cond.selects RX12 yX12_oddsOfTypes yX12_oddsOfTypes ∈ TBG := tbg_in (List.mem_of_getElem? (i := 59) (by decide +kernel)) rfl
theorem wc_yX12_oftenOf : Cond.code yX12_oftenOf cX12_oftenOf 4 (some .int) ∈ TBG := tbg_in (List.mem_of_getElem? (i := 1523) (by decide +kernel)) rfl
theorem wi_yX12_oftenOf : Cond.instanceMethod yX12_oftenOf ∈ TBG := tbg_in (List.mem_of_getElem? (i := 1522) (by decide +kernel)) rfl
theorem we_yX12_oftenOf : Cond.selects RX12 yX12_oftenOf yX12_oftenOf ∈ TBG := tbg_in (List.mem_of_getElem? (i := 57) (by decide +kernel)) rfl
theorem wc_yX12_orderOfPlan : Cond.code yX12_orderOfPlan cX12_orderOfPlan 2 none ∈ TBG := tbg_in (List.mem_of_getElem? (i := 1515) (by decide +kernel)) rfl
theorem wi_yX12_orderOfPlan : Cond.instanceMethod yX12_orderOfPlan ∈ TBG := tbg_in (List.mem_of_getElem? (i := 1514) (by decide +kernel)) rfl
theorem we_yX12_orderOfPlan : Cond.selects RX12 yX12_orderOfPlan yX12_orderOfPlan ∈ TBG := tbg_in (List.mem_of_getElem? (i := 55) (by decide +kernel)) rfl
theorem wc_yX12_plainPrints : Cond.code yX12_plainPrints cX12_plainPrints 2 (some .int) ∈ TBG := tbg_in (List.mem_of_getElem? (i := 1662) (by decide +kernel)) rfl
theorem wi_yX12_plainPrints : Cond.instanceMethod yX12_plainPrints ∈ TBG := tbg_in (List.mem_of_getElem? (i := 1661) (by decide +kernel)) rfl
theorem we_yX12_plainPrints : Cond.selects RX12 yX12_plainPrints yX12_plainPrints ∈ TBG := tbg_in (List.mem_of_getElem? (i := 71) (by decide +kernel)) rfl
theorem wc_yX12_plainSets : Cond.code yX12_plainSets cX12_plainSets 2 (some .int) ∈ TBG := tbg_in (List.mem_of_getElem? (i := 1674) (by decide +kernel)) rfl
theorem wi_yX12_plainSets : Cond.instanceMethod yX12_plainSets ∈ TBG := tbg_in (List.mem_of_getElem? (i := 1673) (by decide +kernel)) rfl
theorem we_yX12_plainSets : Cond.selects RX12 yX12_plainSets yX12_plainSets ∈ TBG := tbg_in (List.mem_of_getElem? (i := 74) (by decide +kernel)) rfl
theorem wc_yX12_plainShares : Cond.code yX12_plainShares cX12_plainShares 2 (some .int) ∈ TBG := tbg_in (List.mem_of_getElem? (i := 1682) (by decide +kernel)) rfl
theorem wi_yX12_plainShares : Cond.instanceMethod yX12_plainShares ∈ TBG := tbg_in (List.mem_of_getElem? (i := 1681) (by decide +kernel)) rfl
theorem we_yX12_plainShares : Cond.selects RX12 yX12_plainShares yX12_plainShares ∈ TBG := tbg_in (List.mem_of_getElem? (i := 76) (by decide +kernel)) rfl
theorem wc_yX12_plainTells : Cond.code yX12_plainTells cX12_plainTells 2 (some .int) ∈ TBG := tbg_in (List.mem_of_getElem? (i := 1690) (by decide +kernel)) rfl
theorem wi_yX12_plainTells : Cond.instanceMethod yX12_plainTells ∈ TBG := tbg_in (List.mem_of_getElem? (i := 1689) (by decide +kernel)) rfl
theorem we_yX12_plainTells : Cond.selects RX12 yX12_plainTells yX12_plainTells ∈ TBG := tbg_in (List.mem_of_getElem? (i := 78) (by decide +kernel)) rfl
theorem wc_yX12_posterPrints : Cond.code yX12_posterPrints cX12_posterPrints 2 (some .int) ∈ TBG := tbg_in (List.mem_of_getElem? (i := 1654) (by decide +kernel)) rfl
theorem wi_yX12_posterPrints : Cond.instanceMethod yX12_posterPrints ∈ TBG := tbg_in (List.mem_of_getElem? (i := 1653) (by decide +kernel)) rfl
theorem we_yX12_posterPrints : Cond.selects RX12 yX12_posterPrints yX12_posterPrints ∈ TBG := tbg_in (List.mem_of_getElem? (i := 69) (by decide +kernel)) rfl
theorem wc_yX12_printsIt : Cond.code yX12_printsIt cX12_printsIt 2 (some .int) ∈ TBG := tbg_in (List.mem_of_getElem? (i := 1650) (by decide +kernel)) rfl
theorem wi_yX12_printsIt : Cond.instanceMethod yX12_printsIt ∈ TBG := tbg_in (List.mem_of_getElem? (i := 1649) (by decide +kernel)) rfl
theorem we_yX12_printsIt : Cond.selects RX12 yX12_printsIt yX12_printsIt ∈ TBG := tbg_in (List.mem_of_getElem? (i := 68) (by decide +kernel)) rfl
theorem wc_yX12_ran : Cond.code yX12_ran cX12_ran 2 none ∈ TBG := tbg_in (List.mem_of_getElem? (i := 1658) (by decide +kernel)) rfl
theorem wi_yX12_ran : Cond.instanceMethod yX12_ran ∈ TBG := tbg_in (List.mem_of_getElem? (i := 1657) (by decide +kernel)) rfl
theorem we_yX12_ran : Cond.selects RX12 yX12_ran yX12_ran ∈ TBG := tbg_in (List.mem_of_getElem? (i := 70) (by decide +kernel)) rfl
theorem wc_yX12_restOf : Cond.code yX12_restOf cX12_restOf 2 (some .int) ∈ TBG := tbg_in (List.mem_of_getElem? (i := 1345) (by decide +kernel)) rfl
theorem ws_yX12_restOf : Cond.static yX12_restOf ∈ TBG := tbg_in (List.mem_of_getElem? (i := 1344) (by decide +kernel)) rfl
theorem wc_yX12_setsIt : Cond.code yX12_setsIt cX12_setsIt 3 (some .int) ∈ TBG := tbg_in (List.mem_of_getElem? (i := 1666) (by decide +kernel)) rfl
theorem wi_yX12_setsIt : Cond.instanceMethod yX12_setsIt ∈ TBG := tbg_in (List.mem_of_getElem? (i := 1665) (by decide +kernel)) rfl
theorem we_yX12_setsIt : Cond.selects RX12 yX12_setsIt yX12_setsIt ∈ TBG := tbg_in (List.mem_of_getElem? (i := 72) (by decide +kernel)) rfl
theorem wc_yX12_sharesIt : Cond.code yX12_sharesIt cX12_sharesIt 3 (some .int) ∈ TBG := tbg_in (List.mem_of_getElem? (i := 1678) (by decide +kernel)) rfl
theorem wi_yX12_sharesIt : Cond.instanceMethod yX12_sharesIt ∈ TBG := tbg_in (List.mem_of_getElem? (i := 1677) (by decide +kernel)) rfl
theorem we_yX12_sharesIt : Cond.selects RX12 yX12_sharesIt yX12_sharesIt ∈ TBG := tbg_in (List.mem_of_getElem? (i := 75) (by decide +kernel)) rfl
theorem wc_yX12_slotsOf : Cond.code yX12_slotsOf cX12_slotsOf 3 (some .int) ∈ TBG := tbg_in (List.mem_of_getElem? (i := 1398) (by decide +kernel)) rfl
theorem wi_yX12_slotsOf : Cond.instanceMethod yX12_slotsOf ∈ TBG := tbg_in (List.mem_of_getElem? (i := 1397) (by decide +kernel)) rfl
theorem we_yX12_slotsOf : Cond.selects RX12 yX12_slotsOf yX12_slotsOf ∈ TBG := tbg_in (List.mem_of_getElem? (i := 39) (by decide +kernel)) rfl
theorem wc_yX12_sureOf : Cond.code yX12_sureOf cX12_sureOf 4 (some .int) ∈ TBG := tbg_in (List.mem_of_getElem? (i := 1519) (by decide +kernel)) rfl
theorem wi_yX12_sureOf : Cond.instanceMethod yX12_sureOf ∈ TBG := tbg_in (List.mem_of_getElem? (i := 1518) (by decide +kernel)) rfl
theorem we_yX12_sureOf : Cond.selects RX12 yX12_sureOf yX12_sureOf ∈ TBG := tbg_in (List.mem_of_getElem? (i := 56) (by decide +kernel)) rfl
theorem wc_yX12_swaps : Cond.code yX12_swaps cX12_swaps 4 none ∈ TBG := tbg_in (List.mem_of_getElem? (i := 1479) (by decide +kernel)) rfl
theorem wi_yX12_swaps : Cond.instanceMethod yX12_swaps ∈ TBG := tbg_in (List.mem_of_getElem? (i := 1478) (by decide +kernel)) rfl
theorem we_yX12_swaps : Cond.selects RX12 yX12_swaps yX12_swaps ∈ TBG := tbg_in (List.mem_of_getElem? (i := 52) (by decide +kernel)) rfl
theorem wc_yX12_takenMany : Cond.code yX12_takenMany cX12_takenMany 2 (some .int) ∈ TBG := tbg_in (List.mem_of_getElem? (i := 1567) (by decide +kernel)) rfl
theorem wi_yX12_takenMany : Cond.instanceMethod yX12_takenMany ∈ TBG := tbg_in (List.mem_of_getElem? (i := 1566) (by decide +kernel)) rfl
theorem we_yX12_takenMany : Cond.selects RX12 yX12_takenMany yX12_takenMany ∈ TBG := tbg_in (List.mem_of_getElem? (i := 63) (by decide +kernel)) rfl
theorem wc_yX12_tellsIt : Cond.code yX12_tellsIt cX12_tellsIt 3 (some .int) ∈ TBG := tbg_in (List.mem_of_getElem? (i := 1686) (by decide +kernel)) rfl
theorem wi_yX12_tellsIt : Cond.instanceMethod yX12_tellsIt ∈ TBG := tbg_in (List.mem_of_getElem? (i := 1685) (by decide +kernel)) rfl
theorem we_yX12_tellsIt : Cond.selects RX12 yX12_tellsIt yX12_tellsIt ∈ TBG := tbg_in (List.mem_of_getElem? (i := 77) (by decide +kernel)) rfl
theorem wc_yX12_typeIts : Cond.code yX12_typeIts cX12_typeIts 3 (some .int) ∈ TBG := tbg_in (List.mem_of_getElem? (i := 1547) (by decide +kernel)) rfl
theorem wi_yX12_typeIts : Cond.instanceMethod yX12_typeIts ∈ TBG := tbg_in (List.mem_of_getElem? (i := 1546) (by decide +kernel)) rfl
theorem we_yX12_typeIts : Cond.selects RX12 yX12_typeIts yX12_typeIts ∈ TBG := tbg_in (List.mem_of_getElem? (i := 60) (by decide +kernel)) rfl
theorem wc_yX12_wantEnd : Cond.code yX12_wantEnd cX12_wantEnd 1 none ∈ TBG := tbg_in (List.mem_of_getElem? (i := 1323) (by decide +kernel)) rfl
theorem wi_yX12_wantEnd : Cond.instanceMethod yX12_wantEnd ∈ TBG := tbg_in (List.mem_of_getElem? (i := 1322) (by decide +kernel)) rfl
theorem we_yX12_wantEnd : Cond.selects RX12 yX12_wantEnd yX12_wantEnd ∈ TBG := tbg_in (List.mem_of_getElem? (i := 31) (by decide +kernel)) rfl
theorem wc_yX12_wantJob : Cond.code yX12_wantJob cX12_wantJob 7 none ∈ TBG := tbg_in (List.mem_of_getElem? (i := 1308) (by decide +kernel)) rfl
theorem wi_yX12_wantJob : Cond.instanceMethod yX12_wantJob ∈ TBG := tbg_in (List.mem_of_getElem? (i := 1307) (by decide +kernel)) rfl
theorem we_yX12_wantJob : Cond.selects RX12 yX12_wantJob yX12_wantJob ∈ TBG := tbg_in (List.mem_of_getElem? (i := 28) (by decide +kernel)) rfl
theorem wc_yX12_wantLaw : Cond.code yX12_wantLaw cX12_wantLaw 3 none ∈ TBG := tbg_in (List.mem_of_getElem? (i := 1338) (by decide +kernel)) rfl
theorem wi_yX12_wantLaw : Cond.instanceMethod yX12_wantLaw ∈ TBG := tbg_in (List.mem_of_getElem? (i := 1337) (by decide +kernel)) rfl
theorem we_yX12_wantLaw : Cond.selects RX12 yX12_wantLaw yX12_wantLaw ∈ TBG := tbg_in (List.mem_of_getElem? (i := 34) (by decide +kernel)) rfl
theorem wc_yX12_wantNumber : Cond.code yX12_wantNumber cX12_wantNumber 4 (some .int) ∈ TBG := tbg_in (List.mem_of_getElem? (i := 1312) (by decide +kernel)) rfl
theorem wi_yX12_wantNumber : Cond.instanceMethod yX12_wantNumber ∈ TBG := tbg_in (List.mem_of_getElem? (i := 1311) (by decide +kernel)) rfl
theorem we_yX12_wantNumber : Cond.selects RX12 yX12_wantNumber yX12_wantNumber ∈ TBG := tbg_in (List.mem_of_getElem? (i := 29) (by decide +kernel)) rfl
theorem wc_yX12_wantWord : Cond.code yX12_wantWord cX12_wantWord 3 none ∈ TBG := tbg_in (List.mem_of_getElem? (i := 1318) (by decide +kernel)) rfl
theorem wi_yX12_wantWord : Cond.instanceMethod yX12_wantWord ∈ TBG := tbg_in (List.mem_of_getElem? (i := 1317) (by decide +kernel)) rfl
theorem we_yX12_wantWord : Cond.selects RX12 yX12_wantWord yX12_wantWord ∈ TBG := tbg_in (List.mem_of_getElem? (i := 30) (by decide +kernel)) rfl
theorem wc_yX12_weddingSets : Cond.code yX12_weddingSets cX12_weddingSets 2 (some .int) ∈ TBG := tbg_in (List.mem_of_getElem? (i := 1670) (by decide +kernel)) rfl
theorem wi_yX12_weddingSets : Cond.instanceMethod yX12_weddingSets ∈ TBG := tbg_in (List.mem_of_getElem? (i := 1669) (by decide +kernel)) rfl
theorem we_yX12_weddingSets : Cond.selects RX12 yX12_weddingSets yX12_weddingSets ∈ TBG := tbg_in (List.mem_of_getElem? (i := 73) (by decide +kernel)) rfl
theorem wc_yX12_works : Cond.code yX12_works cX12_works 2 (some .boolean) ∈ TBG := tbg_in (List.mem_of_getElem? (i := 1434) (by decide +kernel)) rfl
theorem wi_yX12_works : Cond.instanceMethod yX12_works ∈ TBG := tbg_in (List.mem_of_getElem? (i := 1433) (by decide +kernel)) rfl
theorem we_yX12_works : Cond.selects RX12 yX12_works yX12_works ∈ TBG := tbg_in (List.mem_of_getElem? (i := 44) (by decide +kernel)) rfl
theorem wc_yX12_worksAll : Cond.code yX12_worksAll cX12_worksAll 4 none ∈ TBG := tbg_in (List.mem_of_getElem? (i := 1422) (by decide +kernel)) rfl
theorem wi_yX12_worksAll : Cond.instanceMethod yX12_worksAll ∈ TBG := tbg_in (List.mem_of_getElem? (i := 1421) (by decide +kernel)) rfl
theorem we_yX12_worksAll : Cond.selects RX12 yX12_worksAll yX12_worksAll ∈ TBG := tbg_in (List.mem_of_getElem? (i := 41) (by decide +kernel)) rfl
theorem wc_yX12_worksMany : Cond.code yX12_worksMany cX12_worksMany 9 none ∈ TBG := tbg_in (List.mem_of_getElem? (i := 1426) (by decide +kernel)) rfl
theorem wi_yX12_worksMany : Cond.instanceMethod yX12_worksMany ∈ TBG := tbg_in (List.mem_of_getElem? (i := 1425) (by decide +kernel)) rfl
theorem we_yX12_worksMany : Cond.selects RX12 yX12_worksMany yX12_worksMany ∈ TBG := tbg_in (List.mem_of_getElem? (i := 42) (by decide +kernel)) rfl
theorem wc_yX12_worthAll : Cond.code yX12_worthAll cX12_worthAll 4 (some .int) ∈ TBG := tbg_in (List.mem_of_getElem? (i := 1450) (by decide +kernel)) rfl
theorem wi_yX12_worthAll : Cond.instanceMethod yX12_worthAll ∈ TBG := tbg_in (List.mem_of_getElem? (i := 1449) (by decide +kernel)) rfl
theorem we_yX12_worthAll : Cond.selects RX12 yX12_worthAll yX12_worthAll ∈ TBG := tbg_in (List.mem_of_getElem? (i := 46) (by decide +kernel)) rfl
theorem wc_yX12_worthOf : Cond.code yX12_worthOf cX12_worthOf 4 (some .int) ∈ TBG := tbg_in (List.mem_of_getElem? (i := 1454) (by decide +kernel)) rfl
theorem wi_yX12_worthOf : Cond.instanceMethod yX12_worthOf ∈ TBG := tbg_in (List.mem_of_getElem? (i := 1453) (by decide +kernel)) rfl
theorem we_yX12_worthOf : Cond.selects RX12 yX12_worthOf yX12_worthOf ∈ TBG := tbg_in (List.mem_of_getElem? (i := 47) (by decide +kernel)) rfl
theorem wc_yX12_worthWith : Cond.code yX12_worthWith cX12_worthWith 5 (some .int) ∈ TBG := tbg_in (List.mem_of_getElem? (i := 1563) (by decide +kernel)) rfl
theorem wi_yX12_worthWith : Cond.instanceMethod yX12_worthWith ∈ TBG := tbg_in (List.mem_of_getElem? (i := 1562) (by decide +kernel)) rfl
theorem we_yX12_worthWith : Cond.selects RX12 yX12_worthWith yX12_worthWith ∈ TBG := tbg_in (List.mem_of_getElem? (i := 62) (by decide +kernel)) rfl
theorem wc_yX1_arrange : Cond.code yX1_arrange cX1_arrange 4 (some .boolean) ∈ TBG := tbg_in (List.mem_of_getElem? (i := 721) (by decide +kernel)) rfl
theorem wi_yX1_arrange : Cond.instanceMethod yX1_arrange ∈ TBG := tbg_in (List.mem_of_getElem? (i := 719) (by decide +kernel)) rfl
theorem we_yX1_arrange : Cond.selects RX1 yX1_arrange yX1_arrange ∈ TBG := tbg_in (List.mem_of_getElem? (i := 720) (by decide +kernel)) rfl
theorem wc_yX1_begin : Cond.code yX1_begin cX1_begin 4 none ∈ TBG := tbg_in (List.mem_of_getElem? (i := 651) (by decide +kernel)) rfl
theorem wi_yX1_begin : Cond.instanceMethod yX1_begin ∈ TBG := tbg_in (List.mem_of_getElem? (i := 649) (by decide +kernel)) rfl
theorem we_yX1_begin : Cond.selects RX1 yX1_begin yX1_begin ∈ TBG := tbg_in (List.mem_of_getElem? (i := 650) (by decide +kernel)) rfl
theorem wc_yX1_come : Cond.code yX1_come cX1_come 6 (some .int) ∈ TBG := tbg_in (List.mem_of_getElem? (i := 666) (by decide +kernel)) rfl
theorem wi_yX1_come : Cond.instanceMethod yX1_come ∈ TBG := tbg_in (List.mem_of_getElem? (i := 664) (by decide +kernel)) rfl
theorem we_yX1_come : Cond.selects RX1 yX1_come yX1_come ∈ TBG := tbg_in (List.mem_of_getElem? (i := 665) (by decide +kernel)) rfl
theorem wc_yX1_copy : Cond.code yX1_copy cX1_copy 2 none ∈ TBG := tbg_in (List.mem_of_getElem? (i := 1082) (by decide +kernel)) rfl
theorem wi_yX1_copy : Cond.instanceMethod yX1_copy ∈ TBG := tbg_in (List.mem_of_getElem? (i := 1080) (by decide +kernel)) rfl
theorem we_yX1_copy : Cond.selects RX1 yX1_copy yX1_copy ∈ TBG := tbg_in (List.mem_of_getElem? (i := 1081) (by decide +kernel)) rfl
theorem wc_yX1_leave : Cond.code yX1_leave cX1_leave 5 none ∈ TBG := tbg_in (List.mem_of_getElem? (i := 683) (by decide +kernel)) rfl
theorem wi_yX1_leave : Cond.instanceMethod yX1_leave ∈ TBG := tbg_in (List.mem_of_getElem? (i := 681) (by decide +kernel)) rfl
theorem we_yX1_leave : Cond.selects RX1 yX1_leave yX1_leave ∈ TBG := tbg_in (List.mem_of_getElem? (i := 682) (by decide +kernel)) rfl
theorem wc_yX1_slotsOn : Cond.code yX1_slotsOn cX1_slotsOn 2 (some .int) ∈ TBG := tbg_in (List.mem_of_getElem? (i := 710) (by decide +kernel)) rfl
theorem wi_yX1_slotsOn : Cond.instanceMethod yX1_slotsOn ∈ TBG := tbg_in (List.mem_of_getElem? (i := 708) (by decide +kernel)) rfl
theorem we_yX1_slotsOn : Cond.selects RX1 yX1_slotsOn yX1_slotsOn ∈ TBG := tbg_in (List.mem_of_getElem? (i := 709) (by decide +kernel)) rfl
theorem wc_yX1_workDay : Cond.code yX1_workDay cX1_workDay 4 (some .int) ∈ TBG := tbg_in (List.mem_of_getElem? (i := 925) (by decide +kernel)) rfl
theorem wi_yX1_workDay : Cond.instanceMethod yX1_workDay ∈ TBG := tbg_in (List.mem_of_getElem? (i := 923) (by decide +kernel)) rfl
theorem we_yX1_workDay : Cond.selects RX1 yX1_workDay yX1_workDay ∈ TBG := tbg_in (List.mem_of_getElem? (i := 924) (by decide +kernel)) rfl
theorem wc_yX1_workSlot : Cond.code yX1_workSlot cX1_workSlot 2 (some .boolean) ∈ TBG := tbg_in (List.mem_of_getElem? (i := 930) (by decide +kernel)) rfl
theorem wi_yX1_workSlot : Cond.instanceMethod yX1_workSlot ∈ TBG := tbg_in (List.mem_of_getElem? (i := 929) (by decide +kernel)) rfl
theorem we_yX1_workSlot : Cond.selects RX1 yX1_workSlot yX1_workSlot ∈ TBG := tbg_in (List.mem_of_getElem? (i := 17) (by decide +kernel)) rfl
theorem wc_yX2_begin : Cond.code yX2_begin cX2_begin 2 none ∈ TBG := tbg_in (List.mem_of_getElem? (i := 843) (by decide +kernel)) rfl
theorem wi_yX2_begin : Cond.instanceMethod yX2_begin ∈ TBG := tbg_in (List.mem_of_getElem? (i := 842) (by decide +kernel)) rfl
theorem we_yX2_begin : Cond.selects RX2 yX2_begin yX2_begin ∈ TBG := tbg_in (List.mem_of_getElem? (i := 14) (by decide +kernel)) rfl
theorem wc_yX2_meanOf : Cond.code yX2_meanOf cX2_meanOf 5 (some .int) ∈ TBG := tbg_in (List.mem_of_getElem? (i := 874) (by decide +kernel)) rfl
theorem wi_yX2_meanOf : Cond.instanceMethod yX2_meanOf ∈ TBG := tbg_in (List.mem_of_getElem? (i := 872) (by decide +kernel)) rfl
theorem we_yX2_meanOf : Cond.selects RX2 yX2_meanOf yX2_meanOf ∈ TBG := tbg_in (List.mem_of_getElem? (i := 873) (by decide +kernel)) rfl
theorem wc_yX2_spread : Cond.code yX2_spread cX2_spread 14 (some .int) ∈ TBG := tbg_in (List.mem_of_getElem? (i := 847) (by decide +kernel)) rfl
theorem wi_yX2_spread : Cond.instanceMethod yX2_spread ∈ TBG := tbg_in (List.mem_of_getElem? (i := 846) (by decide +kernel)) rfl
theorem we_yX2_spread : Cond.selects RX2 yX2_spread yX2_spread ∈ TBG := tbg_in (List.mem_of_getElem? (i := 15) (by decide +kernel)) rfl
theorem wc_yX2_sureOf : Cond.code yX2_sureOf cX2_sureOf 5 (some .int) ∈ TBG := tbg_in (List.mem_of_getElem? (i := 839) (by decide +kernel)) rfl
theorem wi_yX2_sureOf : Cond.instanceMethod yX2_sureOf ∈ TBG := tbg_in (List.mem_of_getElem? (i := 837) (by decide +kernel)) rfl
theorem we_yX2_sureOf : Cond.selects RX2 yX2_sureOf yX2_sureOf ∈ TBG := tbg_in (List.mem_of_getElem? (i := 838) (by decide +kernel)) rfl
theorem wc_yX2_surest : Cond.code yX2_surest cX2_surest 2 (some .int) ∈ TBG := tbg_in (List.mem_of_getElem? (i := 861) (by decide +kernel)) rfl
theorem wi_yX2_surest : Cond.instanceMethod yX2_surest ∈ TBG := tbg_in (List.mem_of_getElem? (i := 859) (by decide +kernel)) rfl
theorem we_yX2_surest : Cond.selects RX2 yX2_surest yX2_surest ∈ TBG := tbg_in (List.mem_of_getElem? (i := 860) (by decide +kernel)) rfl
theorem wc_yX2_walk : Cond.code yX2_walk cX2_walk 7 none ∈ TBG := tbg_in (List.mem_of_getElem? (i := 865) (by decide +kernel)) rfl
theorem wi_yX2_walk : Cond.instanceMethod yX2_walk ∈ TBG := tbg_in (List.mem_of_getElem? (i := 864) (by decide +kernel)) rfl
theorem we_yX2_walk : Cond.selects RX2 yX2_walk yX2_walk ∈ TBG := tbg_in (List.mem_of_getElem? (i := 16) (by decide +kernel)) rfl
theorem wc_yX3_dayAt : Cond.code yX3_dayAt cX3_dayAt 2 (some .int) ∈ TBG := tbg_in (List.mem_of_getElem? (i := 754) (by decide +kernel)) rfl
theorem wi_yX3_dayAt : Cond.instanceMethod yX3_dayAt ∈ TBG := tbg_in (List.mem_of_getElem? (i := 752) (by decide +kernel)) rfl
theorem we_yX3_dayAt : Cond.selects RX3 yX3_dayAt yX3_dayAt ∈ TBG := tbg_in (List.mem_of_getElem? (i := 753) (by decide +kernel)) rfl
theorem wc_yX3_follow : Cond.code yX3_follow cX3_follow 7 none ∈ TBG := tbg_in (List.mem_of_getElem? (i := 746) (by decide +kernel)) rfl
theorem wi_yX3_follow : Cond.instanceMethod yX3_follow ∈ TBG := tbg_in (List.mem_of_getElem? (i := 744) (by decide +kernel)) rfl
theorem we_yX3_follow : Cond.selects RX3 yX3_follow yX3_follow ∈ TBG := tbg_in (List.mem_of_getElem? (i := 745) (by decide +kernel)) rfl
theorem wc_yX3_measure : Cond.code yX3_measure cX3_measure 7 none ∈ TBG := tbg_in (List.mem_of_getElem? (i := 741) (by decide +kernel)) rfl
theorem wi_yX3_measure : Cond.instanceMethod yX3_measure ∈ TBG := tbg_in (List.mem_of_getElem? (i := 739) (by decide +kernel)) rfl
theorem we_yX3_measure : Cond.selects RX3 yX3_measure yX3_measure ∈ TBG := tbg_in (List.mem_of_getElem? (i := 740) (by decide +kernel)) rfl
theorem wc_yX3_usedBehind : Cond.code yX3_usedBehind cX3_usedBehind 7 (some .int) ∈ TBG := tbg_in (List.mem_of_getElem? (i := 750) (by decide +kernel)) rfl
theorem wi_yX3_usedBehind : Cond.instanceMethod yX3_usedBehind ∈ TBG := tbg_in (List.mem_of_getElem? (i := 748) (by decide +kernel)) rfl
theorem we_yX3_usedBehind : Cond.selects RX3 yX3_usedBehind yX3_usedBehind ∈ TBG := tbg_in (List.mem_of_getElem? (i := 749) (by decide +kernel)) rfl
theorem wc_yX4_add : Cond.code yX4_add cX4_add 6 none ∈ TBG := tbg_in (List.mem_of_getElem? (i := 643) (by decide +kernel)) rfl
theorem wi_yX4_add : Cond.instanceMethod yX4_add ∈ TBG := tbg_in (List.mem_of_getElem? (i := 641) (by decide +kernel)) rfl
theorem we_yX4_add : Cond.selects RX4 yX4_add yX4_add ∈ TBG := tbg_in (List.mem_of_getElem? (i := 642) (by decide +kernel)) rfl
theorem wc_yX4_copy : Cond.code yX4_copy cX4_copy 3 none ∈ TBG := tbg_in (List.mem_of_getElem? (i := 655) (by decide +kernel)) rfl
theorem wi_yX4_copy : Cond.instanceMethod yX4_copy ∈ TBG := tbg_in (List.mem_of_getElem? (i := 653) (by decide +kernel)) rfl
theorem we_yX4_copy : Cond.selects RX4 yX4_copy yX4_copy ∈ TBG := tbg_in (List.mem_of_getElem? (i := 654) (by decide +kernel)) rfl
theorem wc_yX4_has : Cond.code yX4_has cX4_has 2 (some .boolean) ∈ TBG := tbg_in (List.mem_of_getElem? (i := 675) (by decide +kernel)) rfl
theorem wi_yX4_has : Cond.instanceMethod yX4_has ∈ TBG := tbg_in (List.mem_of_getElem? (i := 673) (by decide +kernel)) rfl
theorem we_yX4_has : Cond.selects RX4 yX4_has yX4_has ∈ TBG := tbg_in (List.mem_of_getElem? (i := 674) (by decide +kernel)) rfl
theorem wc_yX4_remove : Cond.code yX4_remove cX4_remove 3 none ∈ TBG := tbg_in (List.mem_of_getElem? (i := 687) (by decide +kernel)) rfl
theorem wi_yX4_remove : Cond.instanceMethod yX4_remove ∈ TBG := tbg_in (List.mem_of_getElem? (i := 685) (by decide +kernel)) rfl
theorem we_yX4_remove : Cond.selects RX4 yX4_remove yX4_remove ∈ TBG := tbg_in (List.mem_of_getElem? (i := 686) (by decide +kernel)) rfl
theorem wc_yX4_valueOf : Cond.code yX4_valueOf cX4_valueOf 4 (some .int) ∈ TBG := tbg_in (List.mem_of_getElem? (i := 770) (by decide +kernel)) rfl
theorem wi_yX4_valueOf : Cond.instanceMethod yX4_valueOf ∈ TBG := tbg_in (List.mem_of_getElem? (i := 768) (by decide +kernel)) rfl
theorem we_yX4_valueOf : Cond.selects RX4 yX4_valueOf yX4_valueOf ∈ TBG := tbg_in (List.mem_of_getElem? (i := 769) (by decide +kernel)) rfl
theorem wc_yX5_fewestLate : Cond.code yX5_fewestLate cX5_fewestLate 2 (some .int) ∈ TBG := tbg_in (List.mem_of_getElem? (i := 809) (by decide +kernel)) rfl
theorem wi_yX5_fewestLate : Cond.instanceMethod yX5_fewestLate ∈ TBG := tbg_in (List.mem_of_getElem? (i := 807) (by decide +kernel)) rfl
theorem we_yX5_fewestLate : Cond.selects RX5 yX5_fewestLate yX5_fewestLate ∈ TBG := tbg_in (List.mem_of_getElem? (i := 808) (by decide +kernel)) rfl
theorem wc_yX5_leastLost : Cond.code yX5_leastLost cX5_leastLost 5 (some .int) ∈ TBG := tbg_in (List.mem_of_getElem? (i := 783) (by decide +kernel)) rfl
theorem wi_yX5_leastLost : Cond.instanceMethod yX5_leastLost ∈ TBG := tbg_in (List.mem_of_getElem? (i := 782) (by decide +kernel)) rfl
theorem we_yX5_leastLost : Cond.selects RX5 yX5_leastLost yX5_leastLost ∈ TBG := tbg_in (List.mem_of_getElem? (i := 11) (by decide +kernel)) rfl
theorem wc_yX5_lossOf : Cond.code yX5_lossOf cX5_lossOf 5 (some .int) ∈ TBG := tbg_in (List.mem_of_getElem? (i := 797) (by decide +kernel)) rfl
theorem wi_yX5_lossOf : Cond.instanceMethod yX5_lossOf ∈ TBG := tbg_in (List.mem_of_getElem? (i := 796) (by decide +kernel)) rfl
theorem we_yX5_lossOf : Cond.selects RX5 yX5_lossOf yX5_lossOf ∈ TBG := tbg_in (List.mem_of_getElem? (i := 13) (by decide +kernel)) rfl
theorem wc_yX5_mostWorth : Cond.code yX5_mostWorth cX5_mostWorth 5 (some .int) ∈ TBG := tbg_in (List.mem_of_getElem? (i := 779) (by decide +kernel)) rfl
theorem wi_yX5_mostWorth : Cond.instanceMethod yX5_mostWorth ∈ TBG := tbg_in (List.mem_of_getElem? (i := 777) (by decide +kernel)) rfl
theorem we_yX5_mostWorth : Cond.selects RX5 yX5_mostWorth yX5_mostWorth ∈ TBG := tbg_in (List.mem_of_getElem? (i := 778) (by decide +kernel)) rfl
theorem wc_yX5_soonestEnd : Cond.code yX5_soonestEnd cX5_soonestEnd 2 (some .int) ∈ TBG := tbg_in (List.mem_of_getElem? (i := 819) (by decide +kernel)) rfl
theorem wi_yX5_soonestEnd : Cond.instanceMethod yX5_soonestEnd ∈ TBG := tbg_in (List.mem_of_getElem? (i := 817) (by decide +kernel)) rfl
theorem we_yX5_soonestEnd : Cond.selects RX5 yX5_soonestEnd yX5_soonestEnd ∈ TBG := tbg_in (List.mem_of_getElem? (i := 818) (by decide +kernel)) rfl
theorem wc_yX5_walk : Cond.code yX5_walk cX5_walk 10 none ∈ TBG := tbg_in (List.mem_of_getElem? (i := 788) (by decide +kernel)) rfl
theorem wi_yX5_walk : Cond.instanceMethod yX5_walk ∈ TBG := tbg_in (List.mem_of_getElem? (i := 787) (by decide +kernel)) rfl
theorem we_yX5_walk : Cond.selects RX5 yX5_walk yX5_walk ∈ TBG := tbg_in (List.mem_of_getElem? (i := 12) (by decide +kernel)) rfl
theorem wc_yX6_fill : Cond.code yX6_fill cX6_fill 5 none ∈ TBG := tbg_in (List.mem_of_getElem? (i := 945) (by decide +kernel)) rfl
theorem wi_yX6_fill : Cond.instanceMethod yX6_fill ∈ TBG := tbg_in (List.mem_of_getElem? (i := 943) (by decide +kernel)) rfl
theorem we_yX6_fill : Cond.selects RX6 yX6_fill yX6_fill ∈ TBG := tbg_in (List.mem_of_getElem? (i := 944) (by decide +kernel)) rfl
theorem wc_yX6_firstWrong : Cond.code yX6_firstWrong cX6_firstWrong 8 (some .int) ∈ TBG := tbg_in (List.mem_of_getElem? (i := 968) (by decide +kernel)) rfl
theorem wi_yX6_firstWrong : Cond.instanceMethod yX6_firstWrong ∈ TBG := tbg_in (List.mem_of_getElem? (i := 966) (by decide +kernel)) rfl
theorem we_yX6_firstWrong : Cond.selects RX6 yX6_firstWrong yX6_firstWrong ∈ TBG := tbg_in (List.mem_of_getElem? (i := 967) (by decide +kernel)) rfl
theorem wc_yX6_has : Cond.code yX6_has cX6_has 3 (some .boolean) ∈ TBG := tbg_in (List.mem_of_getElem? (i := 955) (by decide +kernel)) rfl
theorem wi_yX6_has : Cond.instanceMethod yX6_has ∈ TBG := tbg_in (List.mem_of_getElem? (i := 953) (by decide +kernel)) rfl
theorem we_yX6_has : Cond.selects RX6 yX6_has yX6_has ∈ TBG := tbg_in (List.mem_of_getElem? (i := 954) (by decide +kernel)) rfl
theorem wc_yX7_holdJob : Cond.code yX7_holdJob cX7_holdJob 3 none ∈ TBG := tbg_in (List.mem_of_getElem? (i := 1002) (by decide +kernel)) rfl
theorem wi_yX7_holdJob : Cond.instanceMethod yX7_holdJob ∈ TBG := tbg_in (List.mem_of_getElem? (i := 1000) (by decide +kernel)) rfl
theorem we_yX7_holdJob : Cond.selects RX7 yX7_holdJob yX7_holdJob ∈ TBG := tbg_in (List.mem_of_getElem? (i := 1001) (by decide +kernel)) rfl
theorem wc_yX7_holdNothing : Cond.code yX7_holdNothing cX7_holdNothing 2 none ∈ TBG := tbg_in (List.mem_of_getElem? (i := 1010) (by decide +kernel)) rfl
theorem wi_yX7_holdNothing : Cond.instanceMethod yX7_holdNothing ∈ TBG := tbg_in (List.mem_of_getElem? (i := 1008) (by decide +kernel)) rfl
theorem we_yX7_holdNothing : Cond.selects RX7 yX7_holdNothing yX7_holdNothing ∈ TBG := tbg_in (List.mem_of_getElem? (i := 1009) (by decide +kernel)) rfl
theorem wc_yX7_holdRow : Cond.code yX7_holdRow cX7_holdRow 3 none ∈ TBG := tbg_in (List.mem_of_getElem? (i := 1006) (by decide +kernel)) rfl
theorem wi_yX7_holdRow : Cond.instanceMethod yX7_holdRow ∈ TBG := tbg_in (List.mem_of_getElem? (i := 1004) (by decide +kernel)) rfl
theorem we_yX7_holdRow : Cond.selects RX7 yX7_holdRow yX7_holdRow ∈ TBG := tbg_in (List.mem_of_getElem? (i := 1005) (by decide +kernel)) rfl
theorem wc_yX7_holdsRow : Cond.code yX7_holdsRow cX7_holdsRow 2 (some .boolean) ∈ TBG := tbg_in (List.mem_of_getElem? (i := 1022) (by decide +kernel)) rfl
theorem wi_yX7_holdsRow : Cond.instanceMethod yX7_holdsRow ∈ TBG := tbg_in (List.mem_of_getElem? (i := 1020) (by decide +kernel)) rfl
theorem we_yX7_holdsRow : Cond.selects RX7 yX7_holdsRow yX7_holdsRow ∈ TBG := tbg_in (List.mem_of_getElem? (i := 1021) (by decide +kernel)) rfl
theorem wc_yX7_isPlace : Cond.code yX7_isPlace cX7_isPlace 1 (some .boolean) ∈ TBG := tbg_in (List.mem_of_getElem? (i := 978) (by decide +kernel)) rfl
theorem ws_yX7_isPlace : Cond.static yX7_isPlace ∈ TBG := tbg_in (List.mem_of_getElem? (i := 977) (by decide +kernel)) rfl
theorem wc_yX7_jobOn : Cond.code yX7_jobOn cX7_jobOn 2 (some .int) ∈ TBG := tbg_in (List.mem_of_getElem? (i := 1018) (by decide +kernel)) rfl
theorem wi_yX7_jobOn : Cond.instanceMethod yX7_jobOn ∈ TBG := tbg_in (List.mem_of_getElem? (i := 1016) (by decide +kernel)) rfl
theorem we_yX7_jobOn : Cond.selects RX7 yX7_jobOn yX7_jobOn ∈ TBG := tbg_in (List.mem_of_getElem? (i := 1017) (by decide +kernel)) rfl
theorem wc_yX7_lay : Cond.code yX7_lay cX7_lay 5 none ∈ TBG := tbg_in (List.mem_of_getElem? (i := 983) (by decide +kernel)) rfl
theorem wi_yX7_lay : Cond.instanceMethod yX7_lay ∈ TBG := tbg_in (List.mem_of_getElem? (i := 981) (by decide +kernel)) rfl
theorem we_yX7_lay : Cond.selects RX7 yX7_lay yX7_lay ∈ TBG := tbg_in (List.mem_of_getElem? (i := 982) (by decide +kernel)) rfl
theorem wc_yX7_narrowed : Cond.code yX7_narrowed cX7_narrowed 2 (some .int) ∈ TBG := tbg_in (List.mem_of_getElem? (i := 990) (by decide +kernel)) rfl
theorem ws_yX7_narrowed : Cond.static yX7_narrowed ∈ TBG := tbg_in (List.mem_of_getElem? (i := 989) (by decide +kernel)) rfl
theorem wc_yX8_isNamed : Cond.code yX8_isNamed cX8_isNamed 3 (some .boolean) ∈ TBG := tbg_in (List.mem_of_getElem? (i := 551) (by decide +kernel)) rfl
theorem wi_yX8_isNamed : Cond.instanceMethod yX8_isNamed ∈ TBG := tbg_in (List.mem_of_getElem? (i := 550) (by decide +kernel)) rfl
theorem we_yX8_isNamed : Cond.selects RX8 yX8_isNamed yX8_isNamed ∈ TBG := tbg_in (List.mem_of_getElem? (i := 3) (by decide +kernel)) rfl
theorem wc_yX8_kindNamed : Cond.code yX8_kindNamed cX8_kindNamed 1 (some .int) ∈ TBG := tbg_in (List.mem_of_getElem? (i := 626) (by decide +kernel)) rfl
theorem wi_yX8_kindNamed : Cond.instanceMethod yX8_kindNamed ∈ TBG := tbg_in (List.mem_of_getElem? (i := 625) (by decide +kernel)) rfl
theorem we_yX8_kindNamed : Cond.selects RX8 yX8_kindNamed yX8_kindNamed ∈ TBG := tbg_in (List.mem_of_getElem? (i := 8) (by decide +kernel)) rfl
theorem wc_yX8_lawNamed : Cond.code yX8_lawNamed cX8_lawNamed 1 (some .int) ∈ TBG := tbg_in (List.mem_of_getElem? (i := 546) (by decide +kernel)) rfl
theorem wi_yX8_lawNamed : Cond.instanceMethod yX8_lawNamed ∈ TBG := tbg_in (List.mem_of_getElem? (i := 545) (by decide +kernel)) rfl
theorem we_yX8_lawNamed : Cond.selects RX8 yX8_lawNamed yX8_lawNamed ∈ TBG := tbg_in (List.mem_of_getElem? (i := 2) (by decide +kernel)) rfl
theorem wc_yX8_next : Cond.code yX8_next cX8_next 1 none ∈ TBG := tbg_in (List.mem_of_getElem? (i := 538) (by decide +kernel)) rfl
theorem wi_yX8_next : Cond.instanceMethod yX8_next ∈ TBG := tbg_in (List.mem_of_getElem? (i := 537) (by decide +kernel)) rfl
theorem we_yX8_next : Cond.selects RX8 yX8_next yX8_next ∈ TBG := tbg_in (List.mem_of_getElem? (i := 0) (by decide +kernel)) rfl
theorem wc_yX8_passName : Cond.code yX8_passName cX8_passName 2 (some .boolean) ∈ TBG := tbg_in (List.mem_of_getElem? (i := 637) (by decide +kernel)) rfl
theorem wi_yX8_passName : Cond.instanceMethod yX8_passName ∈ TBG := tbg_in (List.mem_of_getElem? (i := 636) (by decide +kernel)) rfl
theorem we_yX8_passName : Cond.selects RX8 yX8_passName yX8_passName ∈ TBG := tbg_in (List.mem_of_getElem? (i := 9) (by decide +kernel)) rfl
theorem wc_yX8_passNumber : Cond.code yX8_passNumber cX8_passNumber 5 (some .boolean) ∈ TBG := tbg_in (List.mem_of_getElem? (i := 613) (by decide +kernel)) rfl
theorem wi_yX8_passNumber : Cond.instanceMethod yX8_passNumber ∈ TBG := tbg_in (List.mem_of_getElem? (i := 612) (by decide +kernel)) rfl
theorem we_yX8_passNumber : Cond.selects RX8 yX8_passNumber yX8_passNumber ∈ TBG := tbg_in (List.mem_of_getElem? (i := 5) (by decide +kernel)) rfl
theorem wc_yX8_passStop : Cond.code yX8_passStop cX8_passStop 1 (some .boolean) ∈ TBG := tbg_in (List.mem_of_getElem? (i := 618) (by decide +kernel)) rfl
theorem wi_yX8_passStop : Cond.instanceMethod yX8_passStop ∈ TBG := tbg_in (List.mem_of_getElem? (i := 617) (by decide +kernel)) rfl
theorem we_yX8_passStop : Cond.selects RX8 yX8_passStop yX8_passStop ∈ TBG := tbg_in (List.mem_of_getElem? (i := 6) (by decide +kernel)) rfl
theorem wc_yX8_read : Cond.code yX8_read cX8_read 4 (some .int) ∈ TBG := tbg_in (List.mem_of_getElem? (i := 534) (by decide +kernel)) rfl
theorem wi_yX8_read : Cond.instanceMethod yX8_read ∈ TBG := tbg_in (List.mem_of_getElem? (i := 532) (by decide +kernel)) rfl
theorem we_yX8_read : Cond.selects RX8 yX8_read yX8_read ∈ TBG := tbg_in (List.mem_of_getElem? (i := 533) (by decide +kernel)) rfl
theorem wc_yX8_readJob : Cond.code yX8_readJob cX8_readJob 6 (some .boolean) ∈ TBG := tbg_in (List.mem_of_getElem? (i := 622) (by decide +kernel)) rfl
theorem wi_yX8_readJob : Cond.instanceMethod yX8_readJob ∈ TBG := tbg_in (List.mem_of_getElem? (i := 621) (by decide +kernel)) rfl
theorem we_yX8_readJob : Cond.selects RX8 yX8_readJob yX8_readJob ∈ TBG := tbg_in (List.mem_of_getElem? (i := 7) (by decide +kernel)) rfl
theorem wc_yX8_readLaw : Cond.code yX8_readLaw cX8_readLaw 3 (some .boolean) ∈ TBG := tbg_in (List.mem_of_getElem? (i := 605) (by decide +kernel)) rfl
theorem wi_yX8_readLaw : Cond.instanceMethod yX8_readLaw ∈ TBG := tbg_in (List.mem_of_getElem? (i := 604) (by decide +kernel)) rfl
theorem we_yX8_readLaw : Cond.selects RX8 yX8_readLaw yX8_readLaw ∈ TBG := tbg_in (List.mem_of_getElem? (i := 4) (by decide +kernel)) rfl
theorem wc_yX8_sortAt : Cond.code yX8_sortAt cX8_sortAt 2 (some .int) ∈ TBG := tbg_in (List.mem_of_getElem? (i := 542) (by decide +kernel)) rfl
theorem wi_yX8_sortAt : Cond.instanceMethod yX8_sortAt ∈ TBG := tbg_in (List.mem_of_getElem? (i := 541) (by decide +kernel)) rfl
theorem we_yX8_sortAt : Cond.selects RX8 yX8_sortAt yX8_sortAt ∈ TBG := tbg_in (List.mem_of_getElem? (i := 1) (by decide +kernel)) rfl
theorem wc_yX8_take : Cond.code yX8_take cX8_take 5 (some .int) ∈ TBG := tbg_in (List.mem_of_getElem? (i := 526) (by decide +kernel)) rfl
theorem wi_yX8_take : Cond.instanceMethod yX8_take ∈ TBG := tbg_in (List.mem_of_getElem? (i := 524) (by decide +kernel)) rfl
theorem we_yX8_take : Cond.selects RX8 yX8_take yX8_take ∈ TBG := tbg_in (List.mem_of_getElem? (i := 525) (by decide +kernel)) rfl
theorem wc_yX8_useUp : Cond.code yX8_useUp cX8_useUp 1 none ∈ TBG := tbg_in (List.mem_of_getElem? (i := 647) (by decide +kernel)) rfl
theorem wi_yX8_useUp : Cond.instanceMethod yX8_useUp ∈ TBG := tbg_in (List.mem_of_getElem? (i := 645) (by decide +kernel)) rfl
theorem we_yX8_useUp : Cond.selects RX8 yX8_useUp yX8_useUp ∈ TBG := tbg_in (List.mem_of_getElem? (i := 646) (by decide +kernel)) rfl
theorem wc_yX9_become : Cond.code yX9_become cX9_become 4 none ∈ TBG := tbg_in (List.mem_of_getElem? (i := 1037) (by decide +kernel)) rfl
theorem wi_yX9_become : Cond.instanceMethod yX9_become ∈ TBG := tbg_in (List.mem_of_getElem? (i := 1035) (by decide +kernel)) rfl
theorem we_yX9_become : Cond.selects RX9 yX9_become yX9_become ∈ TBG := tbg_in (List.mem_of_getElem? (i := 1036) (by decide +kernel)) rfl
theorem wc_yX9_forget : Cond.code yX9_forget cX9_forget 1 none ∈ TBG := tbg_in (List.mem_of_getElem? (i := 1033) (by decide +kernel)) rfl
theorem wi_yX9_forget : Cond.instanceMethod yX9_forget ∈ TBG := tbg_in (List.mem_of_getElem? (i := 1031) (by decide +kernel)) rfl
theorem we_yX9_forget : Cond.selects RX9 yX9_forget yX9_forget ∈ TBG := tbg_in (List.mem_of_getElem? (i := 1032) (by decide +kernel)) rfl
theorem wc_yX9_is : Cond.code yX9_is cX9_is 2 (some .boolean) ∈ TBG := tbg_in (List.mem_of_getElem? (i := 1049) (by decide +kernel)) rfl
theorem wi_yX9_is : Cond.instanceMethod yX9_is ∈ TBG := tbg_in (List.mem_of_getElem? (i := 1048) (by decide +kernel)) rfl
theorem we_yX9_is : Cond.selects RX9 yX9_is yX9_is ∈ TBG := tbg_in (List.mem_of_getElem? (i := 19) (by decide +kernel)) rfl
theorem wc_yX9_perform : Cond.code yX9_perform cX9_perform 4 (some .int) ∈ TBG := tbg_in (List.mem_of_getElem? (i := 1041) (by decide +kernel)) rfl
theorem wi_yX9_perform : Cond.instanceMethod yX9_perform ∈ TBG := tbg_in (List.mem_of_getElem? (i := 1039) (by decide +kernel)) rfl
theorem we_yX9_perform : Cond.selects RX9 yX9_perform yX9_perform ∈ TBG := tbg_in (List.mem_of_getElem? (i := 1040) (by decide +kernel)) rfl
theorem wc_yX9_prints : Cond.code yX9_prints cX9_prints 3 (some .int) ∈ TBG := tbg_in (List.mem_of_getElem? (i := 1045) (by decide +kernel)) rfl
theorem wi_yX9_prints : Cond.instanceMethod yX9_prints ∈ TBG := tbg_in (List.mem_of_getElem? (i := 1044) (by decide +kernel)) rfl
theorem we_yX9_prints : Cond.selects RX9 yX9_prints yX9_prints ∈ TBG := tbg_in (List.mem_of_getElem? (i := 18) (by decide +kernel)) rfl
theorem wc_yX9_runs : Cond.code yX9_runs cX9_runs 2 none ∈ TBG := tbg_in (List.mem_of_getElem? (i := 1054) (by decide +kernel)) rfl
theorem wi_yX9_runs : Cond.instanceMethod yX9_runs ∈ TBG := tbg_in (List.mem_of_getElem? (i := 1053) (by decide +kernel)) rfl
theorem we_yX9_runs : Cond.selects RX9 yX9_runs yX9_runs ∈ TBG := tbg_in (List.mem_of_getElem? (i := 20) (by decide +kernel)) rfl
theorem wc_yX9_sets : Cond.code yX9_sets cX9_sets 3 (some .int) ∈ TBG := tbg_in (List.mem_of_getElem? (i := 1058) (by decide +kernel)) rfl
theorem wi_yX9_sets : Cond.instanceMethod yX9_sets ∈ TBG := tbg_in (List.mem_of_getElem? (i := 1057) (by decide +kernel)) rfl
theorem we_yX9_sets : Cond.selects RX9 yX9_sets yX9_sets ∈ TBG := tbg_in (List.mem_of_getElem? (i := 21) (by decide +kernel)) rfl
theorem wc_yX9_shares : Cond.code yX9_shares cX9_shares 3 (some .int) ∈ TBG := tbg_in (List.mem_of_getElem? (i := 1062) (by decide +kernel)) rfl
theorem wi_yX9_shares : Cond.instanceMethod yX9_shares ∈ TBG := tbg_in (List.mem_of_getElem? (i := 1061) (by decide +kernel)) rfl
theorem we_yX9_shares : Cond.selects RX9 yX9_shares yX9_shares ∈ TBG := tbg_in (List.mem_of_getElem? (i := 22) (by decide +kernel)) rfl
theorem wc_yX9_tells : Cond.code yX9_tells cX9_tells 3 (some .int) ∈ TBG := tbg_in (List.mem_of_getElem? (i := 1066) (by decide +kernel)) rfl
theorem wi_yX9_tells : Cond.instanceMethod yX9_tells ∈ TBG := tbg_in (List.mem_of_getElem? (i := 1065) (by decide +kernel)) rfl
theorem we_yX9_tells : Cond.selects RX9 yX9_tells yX9_tells ∈ TBG := tbg_in (List.mem_of_getElem? (i := 23) (by decide +kernel)) rfl
theorem wini_RJ0 : Cond.initialized RJ0 ∈ TBG := tbg_in (List.mem_of_getElem? (i := 95) (by decide +kernel)) rfl
theorem wini_RJ1 : Cond.initialized RJ1 ∈ TBG := tbg_in (List.mem_of_getElem? (i := 96) (by decide +kernel)) rfl
theorem wini_RJ3 : Cond.initialized RJ3 ∈ TBG := tbg_in (List.mem_of_getElem? (i := 97) (by decide +kernel)) rfl
theorem wini_RX0 : Cond.initialized RX0 ∈ TBG := tbg_in (List.mem_of_getElem? (i := 90) (by decide +kernel)) rfl
theorem wini_RX1 : Cond.initialized RX1 ∈ TBG := tbg_in (List.mem_of_getElem? (i := 83) (by decide +kernel)) rfl
theorem wini_RX10 : Cond.initialized RX10 ∈ TBG := tbg_in (List.mem_of_getElem? (i := 85) (by decide +kernel)) rfl
theorem wini_RX11 : Cond.initialized RX11 ∈ TBG := tbg_in (List.mem_of_getElem? (i := 82) (by decide +kernel)) rfl
theorem wini_RX12 : Cond.initialized RX12 ∈ TBG := tbg_in (List.mem_of_getElem? (i := 94) (by decide +kernel)) rfl
theorem wini_RX2 : Cond.initialized RX2 ∈ TBG := tbg_in (List.mem_of_getElem? (i := 89) (by decide +kernel)) rfl
theorem wini_RX3 : Cond.initialized RX3 ∈ TBG := tbg_in (List.mem_of_getElem? (i := 87) (by decide +kernel)) rfl
theorem wini_RX4 : Cond.initialized RX4 ∈ TBG := tbg_in (List.mem_of_getElem? (i := 84) (by decide +kernel)) rfl
theorem wini_RX5 : Cond.initialized RX5 ∈ TBG := tbg_in (List.mem_of_getElem? (i := 88) (by decide +kernel)) rfl
theorem wini_RX6 : Cond.initialized RX6 ∈ TBG := tbg_in (List.mem_of_getElem? (i := 91) (by decide +kernel)) rfl
theorem wini_RX7 : Cond.initialized RX7 ∈ TBG := tbg_in (List.mem_of_getElem? (i := 92) (by decide +kernel)) rfl
theorem wini_RX8 : Cond.initialized RX8 ∈ TBG := tbg_in (List.mem_of_getElem? (i := 86) (by decide +kernel)) rfl
theorem wini_RX9 : Cond.initialized RX9 ∈ TBG := tbg_in (List.mem_of_getElem? (i := 93) (by decide +kernel)) rfl
theorem cv_RJ0_335 : CVt RJ0 335 RJ0 yJ0_coder_7d493 cJ0_coder_7d493 1 (some .byte) 0 := CVt.of (tbg_in (List.mem_of_getElem? (i := 556) (by decide +kernel)) rfl) wi_yJ0_coder_7d493 we_yJ0_coder_7d493 wini_RJ0 wc_yJ0_coder_7d493 ⟨rfl, by decide, by decide, by decide +kernel⟩ rfl
theorem cv_RJ0_492 : CVt RJ0 492 RJ0 yJ0_isLatin1_aae02 cJ0_isLatin1_aae02 1 (some .boolean) 0 := CVt.of (tbg_in (List.mem_of_getElem? (i := 566) (by decide +kernel)) rfl) wi_yJ0_isLatin1_aae02 we_yJ0_isLatin1_aae02 wini_RJ0 wc_yJ0_isLatin1_aae02 ⟨rfl, by decide, by decide, by decide +kernel⟩ rfl
theorem cv_RX0_15 : CVt RX0 15 RX5 yX5_mostWorth cX5_mostWorth 5 (some .int) 2 := CVt.of (tbg_in (List.mem_of_getElem? (i := 899) (by decide +kernel)) rfl) wi_yX5_mostWorth we_yX5_mostWorth wini_RX5 wc_yX5_mostWorth ⟨rfl, by decide, by decide, by decide +kernel⟩ rfl
theorem cv_RX0_21 : CVt RX0 21 RX0 yX0_mostOf cX0_mostOf 9 (some .int) 4 := CVt.of (tbg_in (List.mem_of_getElem? (i := 900) (by decide +kernel)) rfl) wi_yX0_mostOf we_yX0_mostOf wini_RX0 wc_yX0_mostOf ⟨rfl, by decide, by decide, by decide +kernel⟩ rfl
theorem cv_RX0_25 : CVt RX0 25 RX10 yX10_oddsOfAll cX10_oddsOfAll 3 (some .int) 0 := CVt.of (tbg_in (List.mem_of_getElem? (i := 901) (by decide +kernel)) rfl) wi_yX10_oddsOfAll we_yX10_oddsOfAll wini_RX10 wc_yX10_oddsOfAll ⟨rfl, by decide, by decide, by decide +kernel⟩ rfl
theorem cv_RX0_51 : CVt RX0 51 RX4 yX4_add cX4_add 6 none 5 := CVt.of (tbg_in (List.mem_of_getElem? (i := 902) (by decide +kernel)) rfl) wi_yX4_add we_yX4_add wini_RX4 wc_yX4_add ⟨rfl, by decide, by decide, by decide +kernel⟩ rfl
theorem cv_RX0_58 : CVt RX0 58 RX4 yX4_remove cX4_remove 3 none 1 := CVt.of (tbg_in (List.mem_of_getElem? (i := 903) (by decide +kernel)) rfl) wi_yX4_remove we_yX4_remove wini_RX4 wc_yX4_remove ⟨rfl, by decide, by decide, by decide +kernel⟩ rfl
theorem cv_RX1_50 : CVt RX1 50 RX4 yX4_copy cX4_copy 3 none 1 := CVt.of (tbg_in (List.mem_of_getElem? (i := 652) (by decide +kernel)) rfl) wi_yX4_copy we_yX4_copy wini_RX4 wc_yX4_copy ⟨rfl, by decide, by decide, by decide +kernel⟩ rfl
theorem cv_RX1_57 : CVt RX1 57 RX4 yX4_add cX4_add 6 none 5 := CVt.of (tbg_in (List.mem_of_getElem? (i := 667) (by decide +kernel)) rfl) wi_yX4_add we_yX4_add wini_RX4 wc_yX4_add ⟨rfl, by decide, by decide, by decide +kernel⟩ rfl
theorem cv_RX1_61 : CVt RX1 61 RX4 yX4_remove cX4_remove 3 none 1 := CVt.of (tbg_in (List.mem_of_getElem? (i := 684) (by decide +kernel)) rfl) wi_yX4_remove we_yX4_remove wini_RX4 wc_yX4_remove ⟨rfl, by decide, by decide, by decide +kernel⟩ rfl
theorem cv_RX1_65 : CVt RX1 65 RX1 yX1_slotsOn cX1_slotsOn 2 (some .int) 1 := CVt.of (tbg_in (List.mem_of_getElem? (i := 926) (by decide +kernel)) rfl) wi_yX1_slotsOn we_yX1_slotsOn wini_RX1 wc_yX1_slotsOn ⟨rfl, by decide, by decide, by decide +kernel⟩ rfl
theorem cv_RX1_69 : CVt RX1 69 RX1 yX1_workSlot cX1_workSlot 2 (some .boolean) 1 := CVt.of (tbg_in (List.mem_of_getElem? (i := 927) (by decide +kernel)) rfl) wi_yX1_workSlot we_yX1_workSlot wini_RX1 wc_yX1_workSlot ⟨rfl, by decide, by decide, by decide +kernel⟩ rfl
theorem cv_RX1_73 : CVt RX1 73 RX4 yX4_has cX4_has 2 (some .boolean) 1 := CVt.of (tbg_in (List.mem_of_getElem? (i := 931) (by decide +kernel)) rfl) wi_yX4_has we_yX4_has wini_RX4 wc_yX4_has ⟨rfl, by decide, by decide, by decide +kernel⟩ rfl
theorem cv_RX1_81 : CVt RX1 81 RX4 yX4_valueOf cX4_valueOf 4 (some .int) 3 := CVt.of (tbg_in (List.mem_of_getElem? (i := 932) (by decide +kernel)) rfl) wi_yX4_valueOf we_yX4_valueOf wini_RX4 wc_yX4_valueOf ⟨rfl, by decide, by decide, by decide +kernel⟩ rfl
theorem cv_RX1_85 : CVt RX1 85 RX1 yX1_leave cX1_leave 5 none 1 := CVt.of (tbg_in (List.mem_of_getElem? (i := 933) (by decide +kernel)) rfl) wi_yX1_leave we_yX1_leave wini_RX1 wc_yX1_leave ⟨rfl, by decide, by decide, by decide +kernel⟩ rfl
theorem cv_RX11_104 : CVt RX11 104 RX8 yX8_take cX8_take 5 (some .int) 2 := CVt.of (tbg_in (List.mem_of_getElem? (i := 523) (by decide +kernel)) rfl) wi_yX8_take we_yX8_take wini_RX8 wc_yX8_take ⟨rfl, by decide, by decide, by decide +kernel⟩ rfl
theorem cv_RX11_108 : CVt RX11 108 RX8 yX8_read cX8_read 4 (some .int) 0 := CVt.of (tbg_in (List.mem_of_getElem? (i := 531) (by decide +kernel)) rfl) wi_yX8_read we_yX8_read wini_RX8 wc_yX8_read ⟨rfl, by decide, by decide, by decide +kernel⟩ rfl
theorem cv_RX11_112 : CVt RX11 112 RX8 yX8_useUp cX8_useUp 1 none 0 := CVt.of (tbg_in (List.mem_of_getElem? (i := 644) (by decide +kernel)) rfl) wi_yX8_useUp we_yX8_useUp wini_RX8 wc_yX8_useUp ⟨rfl, by decide, by decide, by decide +kernel⟩ rfl
theorem cv_RX11_122 : CVt RX11 122 RX1 yX1_begin cX1_begin 4 none 2 := CVt.of (tbg_in (List.mem_of_getElem? (i := 648) (by decide +kernel)) rfl) wi_yX1_begin we_yX1_begin wini_RX1 wc_yX1_begin ⟨rfl, by decide, by decide, by decide +kernel⟩ rfl
theorem cv_RX11_136 : CVt RX11 136 RX1 yX1_come cX1_come 6 (some .int) 5 := CVt.of (tbg_in (List.mem_of_getElem? (i := 663) (by decide +kernel)) rfl) wi_yX1_come we_yX1_come wini_RX1 wc_yX1_come ⟨rfl, by decide, by decide, by decide +kernel⟩ rfl
theorem cv_RX11_140 : CVt RX11 140 RX4 yX4_has cX4_has 2 (some .boolean) 1 := CVt.of (tbg_in (List.mem_of_getElem? (i := 672) (by decide +kernel)) rfl) wi_yX4_has we_yX4_has wini_RX4 wc_yX4_has ⟨rfl, by decide, by decide, by decide +kernel⟩ rfl
theorem cv_RX11_159 : CVt RX11 159 RX1 yX1_leave cX1_leave 5 none 1 := CVt.of (tbg_in (List.mem_of_getElem? (i := 680) (by decide +kernel)) rfl) wi_yX1_leave we_yX1_leave wini_RX1 wc_yX1_leave ⟨rfl, by decide, by decide, by decide +kernel⟩ rfl
theorem cv_RX11_176 : CVt RX11 176 RX1 yX1_slotsOn cX1_slotsOn 2 (some .int) 1 := CVt.of (tbg_in (List.mem_of_getElem? (i := 707) (by decide +kernel)) rfl) wi_yX1_slotsOn we_yX1_slotsOn wini_RX1 wc_yX1_slotsOn ⟨rfl, by decide, by decide, by decide +kernel⟩ rfl
theorem cv_RX11_180 : CVt RX11 180 RX1 yX1_arrange cX1_arrange 4 (some .boolean) 1 := CVt.of (tbg_in (List.mem_of_getElem? (i := 718) (by decide +kernel)) rfl) wi_yX1_arrange we_yX1_arrange wini_RX1 wc_yX1_arrange ⟨rfl, by decide, by decide, by decide +kernel⟩ rfl
theorem cv_RX11_194 : CVt RX11 194 RX11 yX11_followPlan cX11_followPlan 1 none 0 := CVt.of (tbg_in (List.mem_of_getElem? (i := 734) (by decide +kernel)) rfl) wi_yX11_followPlan we_yX11_followPlan wini_RX11 wc_yX11_followPlan ⟨rfl, by decide, by decide, by decide +kernel⟩ rfl
theorem cv_RX11_203 : CVt RX11 203 RX4 yX4_valueOf cX4_valueOf 4 (some .int) 3 := CVt.of (tbg_in (List.mem_of_getElem? (i := 767) (by decide +kernel)) rfl) wi_yX4_valueOf we_yX4_valueOf wini_RX4 wc_yX4_valueOf ⟨rfl, by decide, by decide, by decide +kernel⟩ rfl
theorem cv_RX11_208 : CVt RX11 208 RX3 yX3_measure cX3_measure 7 none 2 := CVt.of (tbg_in (List.mem_of_getElem? (i := 738) (by decide +kernel)) rfl) wi_yX3_measure we_yX3_measure wini_RX3 wc_yX3_measure ⟨rfl, by decide, by decide, by decide +kernel⟩ rfl
theorem cv_RX11_212 : CVt RX11 212 RX5 yX5_mostWorth cX5_mostWorth 5 (some .int) 2 := CVt.of (tbg_in (List.mem_of_getElem? (i := 776) (by decide +kernel)) rfl) wi_yX5_mostWorth we_yX5_mostWorth wini_RX5 wc_yX5_mostWorth ⟨rfl, by decide, by decide, by decide +kernel⟩ rfl
theorem cv_RX11_223 : CVt RX11 223 RX5 yX5_fewestLate cX5_fewestLate 2 (some .int) 1 := CVt.of (tbg_in (List.mem_of_getElem? (i := 806) (by decide +kernel)) rfl) wi_yX5_fewestLate we_yX5_fewestLate wini_RX5 wc_yX5_fewestLate ⟨rfl, by decide, by decide, by decide +kernel⟩ rfl
theorem cv_RX11_227 : CVt RX11 227 RX4 yX4_copy cX4_copy 3 none 1 := CVt.of (tbg_in (List.mem_of_getElem? (i := 814) (by decide +kernel)) rfl) wi_yX4_copy we_yX4_copy wini_RX4 wc_yX4_copy ⟨rfl, by decide, by decide, by decide +kernel⟩ rfl
theorem cv_RX11_231 : CVt RX11 231 RX4 yX4_add cX4_add 6 none 5 := CVt.of (tbg_in (List.mem_of_getElem? (i := 815) (by decide +kernel)) rfl) wi_yX4_add we_yX4_add wini_RX4 wc_yX4_add ⟨rfl, by decide, by decide, by decide +kernel⟩ rfl
theorem cv_RX11_235 : CVt RX11 235 RX5 yX5_soonestEnd cX5_soonestEnd 2 (some .int) 1 := CVt.of (tbg_in (List.mem_of_getElem? (i := 816) (by decide +kernel)) rfl) wi_yX5_soonestEnd we_yX5_soonestEnd wini_RX5 wc_yX5_soonestEnd ⟨rfl, by decide, by decide, by decide +kernel⟩ rfl
theorem cv_RX11_238 : CVt RX11 238 RX2 yX2_sureOf cX2_sureOf 5 (some .int) 2 := CVt.of (tbg_in (List.mem_of_getElem? (i := 836) (by decide +kernel)) rfl) wi_yX2_sureOf we_yX2_sureOf wini_RX2 wc_yX2_sureOf ⟨rfl, by decide, by decide, by decide +kernel⟩ rfl
theorem cv_RX11_245 : CVt RX11 245 RX2 yX2_surest cX2_surest 2 (some .int) 1 := CVt.of (tbg_in (List.mem_of_getElem? (i := 858) (by decide +kernel)) rfl) wi_yX2_surest we_yX2_surest wini_RX2 wc_yX2_surest ⟨rfl, by decide, by decide, by decide +kernel⟩ rfl
theorem cv_RX11_249 : CVt RX11 249 RX2 yX2_meanOf cX2_meanOf 5 (some .int) 2 := CVt.of (tbg_in (List.mem_of_getElem? (i := 871) (by decide +kernel)) rfl) wi_yX2_meanOf we_yX2_meanOf wini_RX2 wc_yX2_meanOf ⟨rfl, by decide, by decide, by decide +kernel⟩ rfl
theorem cv_RX11_252 : CVt RX11 252 RX10 yX10_oddsOfAll cX10_oddsOfAll 3 (some .int) 0 := CVt.of (tbg_in (List.mem_of_getElem? (i := 879) (by decide +kernel)) rfl) wi_yX10_oddsOfAll we_yX10_oddsOfAll wini_RX10 wc_yX10_oddsOfAll ⟨rfl, by decide, by decide, by decide +kernel⟩ rfl
theorem cv_RX11_255 : CVt RX11 255 RX10 yX10_add cX10_add 7 (some .int) 6 := CVt.of (tbg_in (List.mem_of_getElem? (i := 883) (by decide +kernel)) rfl) wi_yX10_add we_yX10_add wini_RX10 wc_yX10_add ⟨rfl, by decide, by decide, by decide +kernel⟩ rfl
theorem cv_RX11_271 : CVt RX11 271 RX0 yX0_mostOf cX0_mostOf 9 (some .int) 4 := CVt.of (tbg_in (List.mem_of_getElem? (i := 895) (by decide +kernel)) rfl) wi_yX0_mostOf we_yX0_mostOf wini_RX0 wc_yX0_mostOf ⟨rfl, by decide, by decide, by decide +kernel⟩ rfl
theorem cv_RX11_275 : CVt RX11 275 RX10 yX10_next cX10_next 4 (some .int) 0 := CVt.of (tbg_in (List.mem_of_getElem? (i := 909) (by decide +kernel)) rfl) wi_yX10_next we_yX10_next wini_RX10 wc_yX10_next ⟨rfl, by decide, by decide, by decide +kernel⟩ rfl
theorem cv_RX11_281 : CVt RX11 281 RX1 yX1_workDay cX1_workDay 4 (some .int) 0 := CVt.of (tbg_in (List.mem_of_getElem? (i := 922) (by decide +kernel)) rfl) wi_yX1_workDay we_yX1_workDay wini_RX1 wc_yX1_workDay ⟨rfl, by decide, by decide, by decide +kernel⟩ rfl
theorem cv_RX11_287 : CVt RX11 287 RX6 yX6_fill cX6_fill 5 none 2 := CVt.of (tbg_in (List.mem_of_getElem? (i := 942) (by decide +kernel)) rfl) wi_yX6_fill we_yX6_fill wini_RX6 wc_yX6_fill ⟨rfl, by decide, by decide, by decide +kernel⟩ rfl
theorem cv_RX11_290 : CVt RX11 290 RX6 yX6_has cX6_has 3 (some .boolean) 2 := CVt.of (tbg_in (List.mem_of_getElem? (i := 952) (by decide +kernel)) rfl) wi_yX6_has we_yX6_has wini_RX6 wc_yX6_has ⟨rfl, by decide, by decide, by decide +kernel⟩ rfl
theorem cv_RX11_296 : CVt RX11 296 RX6 yX6_firstWrong cX6_firstWrong 8 (some .int) 1 := CVt.of (tbg_in (List.mem_of_getElem? (i := 965) (by decide +kernel)) rfl) wi_yX6_firstWrong we_yX6_firstWrong wini_RX6 wc_yX6_firstWrong ⟨rfl, by decide, by decide, by decide +kernel⟩ rfl
theorem cv_RX11_302 : CVt RX11 302 RX7 yX7_lay cX7_lay 5 none 3 := CVt.of (tbg_in (List.mem_of_getElem? (i := 980) (by decide +kernel)) rfl) wi_yX7_lay we_yX7_lay wini_RX7 wc_yX7_lay ⟨rfl, by decide, by decide, by decide +kernel⟩ rfl
theorem cv_RX11_319 : CVt RX11 319 RX7 yX7_holdJob cX7_holdJob 3 none 2 := CVt.of (tbg_in (List.mem_of_getElem? (i := 999) (by decide +kernel)) rfl) wi_yX7_holdJob we_yX7_holdJob wini_RX7 wc_yX7_holdJob ⟨rfl, by decide, by decide, by decide +kernel⟩ rfl
theorem cv_RX11_323 : CVt RX11 323 RX7 yX7_holdRow cX7_holdRow 3 none 2 := CVt.of (tbg_in (List.mem_of_getElem? (i := 1003) (by decide +kernel)) rfl) wi_yX7_holdRow we_yX7_holdRow wini_RX7 wc_yX7_holdRow ⟨rfl, by decide, by decide, by decide +kernel⟩ rfl
theorem cv_RX11_326 : CVt RX11 326 RX7 yX7_holdNothing cX7_holdNothing 2 none 1 := CVt.of (tbg_in (List.mem_of_getElem? (i := 1007) (by decide +kernel)) rfl) wi_yX7_holdNothing we_yX7_holdNothing wini_RX7 wc_yX7_holdNothing ⟨rfl, by decide, by decide, by decide +kernel⟩ rfl
theorem cv_RX11_329 : CVt RX11 329 RX7 yX7_jobOn cX7_jobOn 2 (some .int) 1 := CVt.of (tbg_in (List.mem_of_getElem? (i := 1015) (by decide +kernel)) rfl) wi_yX7_jobOn we_yX7_jobOn wini_RX7 wc_yX7_jobOn ⟨rfl, by decide, by decide, by decide +kernel⟩ rfl
theorem cv_RX11_332 : CVt RX11 332 RX7 yX7_holdsRow cX7_holdsRow 2 (some .boolean) 1 := CVt.of (tbg_in (List.mem_of_getElem? (i := 1019) (by decide +kernel)) rfl) wi_yX7_holdsRow we_yX7_holdsRow wini_RX7 wc_yX7_holdsRow ⟨rfl, by decide, by decide, by decide +kernel⟩ rfl
theorem cv_RX11_344 : CVt RX11 344 RX9 yX9_forget cX9_forget 1 none 0 := CVt.of (tbg_in (List.mem_of_getElem? (i := 1030) (by decide +kernel)) rfl) wi_yX9_forget we_yX9_forget wini_RX9 wc_yX9_forget ⟨rfl, by decide, by decide, by decide +kernel⟩ rfl
theorem cv_RX11_347 : CVt RX11 347 RX9 yX9_become cX9_become 4 none 3 := CVt.of (tbg_in (List.mem_of_getElem? (i := 1034) (by decide +kernel)) rfl) wi_yX9_become we_yX9_become wini_RX9 wc_yX9_become ⟨rfl, by decide, by decide, by decide +kernel⟩ rfl
theorem cv_RX11_350 : CVt RX11 350 RX9 yX9_perform cX9_perform 4 (some .int) 2 := CVt.of (tbg_in (List.mem_of_getElem? (i := 1038) (by decide +kernel)) rfl) wi_yX9_perform we_yX9_perform wini_RX9 wc_yX9_perform ⟨rfl, by decide, by decide, by decide +kernel⟩ rfl
theorem cv_RX11_360 : CVt RX11 360 RX1 yX1_copy cX1_copy 2 none 1 := CVt.of (tbg_in (List.mem_of_getElem? (i := 1079) (by decide +kernel)) rfl) wi_yX1_copy we_yX1_copy wini_RX1 wc_yX1_copy ⟨rfl, by decide, by decide, by decide +kernel⟩ rfl
theorem cv_RX11_363 : CVt RX11 363 RX10 yX10_copy cX10_copy 3 none 1 := CVt.of (tbg_in (List.mem_of_getElem? (i := 1084) (by decide +kernel)) rfl) wi_yX10_copy we_yX10_copy wini_RX10 wc_yX10_copy ⟨rfl, by decide, by decide, by decide +kernel⟩ rfl
theorem cv_RX11_366 : CVt RX11 366 RX3 yX3_follow cX3_follow 7 none 2 := CVt.of (tbg_in (List.mem_of_getElem? (i := 743) (by decide +kernel)) rfl) wi_yX3_follow we_yX3_follow wini_RX3 wc_yX3_follow ⟨rfl, by decide, by decide, by decide +kernel⟩ rfl
theorem cv_RX12_122 : CVt RX12 122 RX12 yX12_byteAt cX12_byteAt 2 (some .int) 1 := CVt.of (tbg_in (List.mem_of_getElem? (i := 1278) (by decide +kernel)) rfl) wi_yX12_byteAt we_yX12_byteAt wini_RX12 wc_yX12_byteAt ⟨rfl, by decide, by decide, by decide +kernel⟩ rfl
theorem cv_RX12_150 : CVt RX12 150 RX12 yX12_isWord cX12_isWord 3 (some .boolean) 1 := CVt.of (tbg_in (List.mem_of_getElem? (i := 1296) (by decide +kernel)) rfl) wi_yX12_isWord we_yX12_isWord wini_RX12 wc_yX12_isWord ⟨rfl, by decide, by decide, by decide +kernel⟩ rfl
theorem cv_RX12_174 : CVt RX12 174 RX12 yX12_advance cX12_advance 2 none 0 := CVt.of (tbg_in (List.mem_of_getElem? (i := 1274) (by decide +kernel)) rfl) wi_yX12_advance we_yX12_advance wini_RX12 wc_yX12_advance ⟨rfl, by decide, by decide, by decide +kernel⟩ rfl
theorem cv_RX12_177 : CVt RX12 177 RX12 yX12_isMark cX12_isMark 2 (some .boolean) 1 := CVt.of (tbg_in (List.mem_of_getElem? (i := 1324) (by decide +kernel)) rfl) wi_yX12_isMark we_yX12_isMark wini_RX12 wc_yX12_isMark ⟨rfl, by decide, by decide, by decide +kernel⟩ rfl
theorem cv_RX12_183 : CVt RX12 183 RX12 yX12_wantNumber cX12_wantNumber 4 (some .int) 2 := CVt.of (tbg_in (List.mem_of_getElem? (i := 1309) (by decide +kernel)) rfl) wi_yX12_wantNumber we_yX12_wantNumber wini_RX12 wc_yX12_wantNumber ⟨rfl, by decide, by decide, by decide +kernel⟩ rfl
theorem cv_RX12_190 : CVt RX12 190 RX12 yX12_wantWord cX12_wantWord 3 none 1 := CVt.of (tbg_in (List.mem_of_getElem? (i := 1315) (by decide +kernel)) rfl) wi_yX12_wantWord we_yX12_wantWord wini_RX12 wc_yX12_wantWord ⟨rfl, by decide, by decide, by decide +kernel⟩ rfl
theorem cv_RX12_196 : CVt RX12 196 RX12 yX12_wantEnd cX12_wantEnd 1 none 0 := CVt.of (tbg_in (List.mem_of_getElem? (i := 1320) (by decide +kernel)) rfl) wi_yX12_wantEnd we_yX12_wantEnd wini_RX12 wc_yX12_wantEnd ⟨rfl, by decide, by decide, by decide +kernel⟩ rfl
theorem cv_RX12_199 : CVt RX12 199 RX12 yX12_kindHere cX12_kindHere 1 (some .int) 0 := CVt.of (tbg_in (List.mem_of_getElem? (i := 1291) (by decide +kernel)) rfl) wi_yX12_kindHere we_yX12_kindHere wini_RX12 wc_yX12_kindHere ⟨rfl, by decide, by decide, by decide +kernel⟩ rfl
theorem cv_RX12_203 : CVt RX12 203 RX12 yX12_wantJob cX12_wantJob 7 none 1 := CVt.of (tbg_in (List.mem_of_getElem? (i := 1305) (by decide +kernel)) rfl) wi_yX12_wantJob we_yX12_wantJob wini_RX12 wc_yX12_wantJob ⟨rfl, by decide, by decide, by decide +kernel⟩ rfl
theorem cv_RX12_207 : CVt RX12 207 RX12 yX12_lawHere cX12_lawHere 1 (some .int) 0 := CVt.of (tbg_in (List.mem_of_getElem? (i := 1328) (by decide +kernel)) rfl) wi_yX12_lawHere we_yX12_lawHere wini_RX12 wc_yX12_lawHere ⟨rfl, by decide, by decide, by decide +kernel⟩ rfl
theorem cv_RX12_210 : CVt RX12 210 RX12 yX12_wantLaw cX12_wantLaw 3 none 1 := CVt.of (tbg_in (List.mem_of_getElem? (i := 1335) (by decide +kernel)) rfl) wi_yX12_wantLaw we_yX12_wantLaw wini_RX12 wc_yX12_wantLaw ⟨rfl, by decide, by decide, by decide +kernel⟩ rfl
theorem cv_RX12_213 : CVt RX12 213 RX12 yX12_lay cX12_lay 7 none 6 := CVt.of (tbg_in (List.mem_of_getElem? (i := 1339) (by decide +kernel)) rfl) wi_yX12_lay we_yX12_lay wini_RX12 wc_yX12_lay ⟨rfl, by decide, by decide, by decide +kernel⟩ rfl
theorem cv_RX12_239 : CVt RX12 239 RX12 yX12_isJob cX12_isJob 2 (some .boolean) 1 := CVt.of (tbg_in (List.mem_of_getElem? (i := 1363) (by decide +kernel)) rfl) wi_yX12_isJob we_yX12_isJob wini_RX12 wc_yX12_isJob ⟨rfl, by decide, by decide, by decide +kernel⟩ rfl
theorem cv_RX12_242 : CVt RX12 242 RX12 yX12_its cX12_its 3 (some .int) 2 := CVt.of (tbg_in (List.mem_of_getElem? (i := 1367) (by decide +kernel)) rfl) wi_yX12_its we_yX12_its wini_RX12 wc_yX12_its ⟨rfl, by decide, by decide, by decide +kernel⟩ rfl
theorem cv_RX12_245 : CVt RX12 245 RX12 yX12_goesAway cX12_goesAway 5 none 1 := CVt.of (tbg_in (List.mem_of_getElem? (i := 1375) (by decide +kernel)) rfl) wi_yX12_goesAway we_yX12_goesAway wini_RX12 wc_yX12_goesAway ⟨rfl, by decide, by decide, by decide +kernel⟩ rfl
theorem cv_RX12_248 : CVt RX12 248 RX12 yX12_slotsOf cX12_slotsOf 3 (some .int) 1 := CVt.of (tbg_in (List.mem_of_getElem? (i := 1395) (by decide +kernel)) rfl) wi_yX12_slotsOf we_yX12_slotsOf wini_RX12 wc_yX12_slotsOf ⟨rfl, by decide, by decide, by decide +kernel⟩ rfl
theorem cv_RX12_257 : CVt RX12 257 RX12 yX12_worksMany cX12_worksMany 9 none 4 := CVt.of (tbg_in (List.mem_of_getElem? (i := 1423) (by decide +kernel)) rfl) wi_yX12_worksMany we_yX12_worksMany wini_RX12 wc_yX12_worksMany ⟨rfl, by decide, by decide, by decide +kernel⟩ rfl
theorem cv_RX12_261 : CVt RX12 261 RX12 yX12_isLate cX12_isLate 2 (some .boolean) 1 := CVt.of (tbg_in (List.mem_of_getElem? (i := 1439) (by decide +kernel)) rfl) wi_yX12_isLate we_yX12_isLate wini_RX12 wc_yX12_isLate ⟨rfl, by decide, by decide, by decide +kernel⟩ rfl
theorem cv_RX12_264 : CVt RX12 264 RX12 yX12_worthOf cX12_worthOf 4 (some .int) 1 := CVt.of (tbg_in (List.mem_of_getElem? (i := 1451) (by decide +kernel)) rfl) wi_yX12_worthOf we_yX12_worthOf wini_RX12 wc_yX12_worthOf ⟨rfl, by decide, by decide, by decide +kernel⟩ rfl
theorem cv_RX12_267 : CVt RX12 267 RX12 yX12_worksAll cX12_worksAll 4 none 3 := CVt.of (tbg_in (List.mem_of_getElem? (i := 1419) (by decide +kernel)) rfl) wi_yX12_worksAll we_yX12_worksAll wini_RX12 wc_yX12_worksAll ⟨rfl, by decide, by decide, by decide +kernel⟩ rfl
theorem cv_RX12_271 : CVt RX12 271 RX12 yX12_byPlan cX12_byPlan 2 none 0 := CVt.of (tbg_in (List.mem_of_getElem? (i := 1415) (by decide +kernel)) rfl) wi_yX12_byPlan we_yX12_byPlan wini_RX12 wc_yX12_byPlan ⟨rfl, by decide, by decide, by decide +kernel⟩ rfl
theorem cv_RX12_274 : CVt RX12 274 RX12 yX12_worthAll cX12_worthAll 4 (some .int) 1 := CVt.of (tbg_in (List.mem_of_getElem? (i := 1447) (by decide +kernel)) rfl) wi_yX12_worthAll we_yX12_worthAll wini_RX12 wc_yX12_worthAll ⟨rfl, by decide, by decide, by decide +kernel⟩ rfl
theorem cv_RX12_277 : CVt RX12 277 RX12 yX12_swaps cX12_swaps 4 none 2 := CVt.of (tbg_in (List.mem_of_getElem? (i := 1476) (by decide +kernel)) rfl) wi_yX12_swaps we_yX12_swaps wini_RX12 wc_yX12_swaps ⟨rfl, by decide, by decide, by decide +kernel⟩ rfl
theorem cv_RX12_281 : CVt RX12 281 RX12 yX12_firstOrder cX12_firstOrder 5 (some .int) 2 := CVt.of (tbg_in (List.mem_of_getElem? (i := 1464) (by decide +kernel)) rfl) wi_yX12_firstOrder we_yX12_firstOrder wini_RX12 wc_yX12_firstOrder ⟨rfl, by decide, by decide, by decide +kernel⟩ rfl
theorem cv_RX12_285 : CVt RX12 285 RX12 yX12_keepsOrder cX12_keepsOrder 3 none 1 := CVt.of (tbg_in (List.mem_of_getElem? (i := 1468) (by decide +kernel)) rfl) wi_yX12_keepsOrder we_yX12_keepsOrder wini_RX12 wc_yX12_keepsOrder ⟨rfl, by decide, by decide, by decide +kernel⟩ rfl
theorem cv_RX12_288 : CVt RX12 288 RX12 yX12_nextOrder cX12_nextOrder 5 (some .boolean) 1 := CVt.of (tbg_in (List.mem_of_getElem? (i := 1472) (by decide +kernel)) rfl) wi_yX12_nextOrder we_yX12_nextOrder wini_RX12 wc_yX12_nextOrder ⟨rfl, by decide, by decide, by decide +kernel⟩ rfl
theorem cv_RX12_291 : CVt RX12 291 RX12 yX12_lends cX12_lends 4 none 2 := CVt.of (tbg_in (List.mem_of_getElem? (i := 1427) (by decide +kernel)) rfl) wi_yX12_lends we_yX12_lends wini_RX12 wc_yX12_lends ⟨rfl, by decide, by decide, by decide +kernel⟩ rfl
theorem cv_RX12_294 : CVt RX12 294 RX12 yX12_works cX12_works 2 (some .boolean) 1 := CVt.of (tbg_in (List.mem_of_getElem? (i := 1431) (by decide +kernel)) rfl) wi_yX12_works we_yX12_works wini_RX12 wc_yX12_works ⟨rfl, by decide, by decide, by decide +kernel⟩ rfl
theorem cv_RX12_297 : CVt RX12 297 RX12 yX12_mostOfAll cX12_mostOfAll 7 (some .int) 2 := CVt.of (tbg_in (List.mem_of_getElem? (i := 1460) (by decide +kernel)) rfl) wi_yX12_mostOfAll we_yX12_mostOfAll wini_RX12 wc_yX12_mostOfAll ⟨rfl, by decide, by decide, by decide +kernel⟩ rfl
theorem cv_RX12_300 : CVt RX12 300 RX12 yX12_digitsOf cX12_digitsOf 4 (some .int) 1 := CVt.of (tbg_in (List.mem_of_getElem? (i := 1480) (by decide +kernel)) rfl) wi_yX12_digitsOf we_yX12_digitsOf wini_RX12 wc_yX12_digitsOf ⟨rfl, by decide, by decide, by decide +kernel⟩ rfl
theorem cv_RX12_303 : CVt RX12 303 RX12 yX12_lateMany cX12_lateMany 4 (some .int) 1 := CVt.of (tbg_in (List.mem_of_getElem? (i := 1488) (by decide +kernel)) rfl) wi_yX12_lateMany we_yX12_lateMany wini_RX12 wc_yX12_lateMany ⟨rfl, by decide, by decide, by decide +kernel⟩ rfl
theorem cv_RX12_312 : CVt RX12 312 RX12 yX12_oftenOf cX12_oftenOf 4 (some .int) 1 := CVt.of (tbg_in (List.mem_of_getElem? (i := 1520) (by decide +kernel)) rfl) wi_yX12_oftenOf we_yX12_oftenOf wini_RX12 wc_yX12_oftenOf ⟨rfl, by decide, by decide, by decide +kernel⟩ rfl
theorem cv_RX12_315 : CVt RX12 315 RX12 yX12_orderOfPlan cX12_orderOfPlan 2 none 0 := CVt.of (tbg_in (List.mem_of_getElem? (i := 1512) (by decide +kernel)) rfl) wi_yX12_orderOfPlan we_yX12_orderOfPlan wini_RX12 wc_yX12_orderOfPlan ⟨rfl, by decide, by decide, by decide +kernel⟩ rfl
theorem cv_RX12_318 : CVt RX12 318 RX12 yX12_sureOf cX12_sureOf 4 (some .int) 0 := CVt.of (tbg_in (List.mem_of_getElem? (i := 1516) (by decide +kernel)) rfl) wi_yX12_sureOf we_yX12_sureOf wini_RX12 wc_yX12_sureOf ⟨rfl, by decide, by decide, by decide +kernel⟩ rfl
theorem cv_RX12_321 : CVt RX12 321 RX12 yX12_lowest cX12_lowest 6 none 2 := CVt.of (tbg_in (List.mem_of_getElem? (i := 1524) (by decide +kernel)) rfl) wi_yX12_lowest we_yX12_lowest wini_RX12 wc_yX12_lowest ⟨rfl, by decide, by decide, by decide +kernel⟩ rfl
theorem cv_RX12_327 : CVt RX12 327 RX12 yX12_typeIts cX12_typeIts 3 (some .int) 2 := CVt.of (tbg_in (List.mem_of_getElem? (i := 1544) (by decide +kernel)) rfl) wi_yX12_typeIts we_yX12_typeIts wini_RX12 wc_yX12_typeIts ⟨rfl, by decide, by decide, by decide +kernel⟩ rfl
theorem cv_RX12_330 : CVt RX12 330 RX12 yX12_oddsOfTypes cX12_oddsOfTypes 3 (some .int) 0 := CVt.of (tbg_in (List.mem_of_getElem? (i := 1540) (by decide +kernel)) rfl) wi_yX12_oddsOfTypes we_yX12_oddsOfTypes wini_RX12 wc_yX12_oddsOfTypes ⟨rfl, by decide, by decide, by decide +kernel⟩ rfl
theorem cv_RX12_333 : CVt RX12 333 RX12 yX12_isTaken cX12_isTaken 3 (some .boolean) 1 := CVt.of (tbg_in (List.mem_of_getElem? (i := 1556) (by decide +kernel)) rfl) wi_yX12_isTaken we_yX12_isTaken wini_RX12 wc_yX12_isTaken ⟨rfl, by decide, by decide, by decide +kernel⟩ rfl
theorem cv_RX12_336 : CVt RX12 336 RX12 yX12_worthWith cX12_worthWith 5 (some .int) 1 := CVt.of (tbg_in (List.mem_of_getElem? (i := 1560) (by decide +kernel)) rfl) wi_yX12_worthWith we_yX12_worthWith wini_RX12 wc_yX12_worthWith ⟨rfl, by decide, by decide, by decide +kernel⟩ rfl
theorem cv_RX12_339 : CVt RX12 339 RX12 yX12_takenMany cX12_takenMany 2 (some .int) 1 := CVt.of (tbg_in (List.mem_of_getElem? (i := 1564) (by decide +kernel)) rfl) wi_yX12_takenMany we_yX12_takenMany wini_RX12 wc_yX12_takenMany ⟨rfl, by decide, by decide, by decide +kernel⟩ rfl
theorem cv_RX12_343 : CVt RX12 343 RX12 yX12_isRow cX12_isRow 3 (some .boolean) 2 := CVt.of (tbg_in (List.mem_of_getElem? (i := 1593) (by decide +kernel)) rfl) wi_yX12_isRow we_yX12_isRow wini_RX12 wc_yX12_isRow ⟨rfl, by decide, by decide, by decide +kernel⟩ rfl
theorem cv_RX12_349 : CVt RX12 349 RX12 yX12_lacksSort cX12_lacksSort 3 (some .int) 2 := CVt.of (tbg_in (List.mem_of_getElem? (i := 1620) (by decide +kernel)) rfl) wi_yX12_lacksSort we_yX12_lacksSort wini_RX12 wc_yX12_lacksSort ⟨rfl, by decide, by decide, by decide +kernel⟩ rfl
theorem cv_RX12_352 : CVt RX12 352 RX12 yX12_isHeld cX12_isHeld 3 (some .boolean) 2 := CVt.of (tbg_in (List.mem_of_getElem? (i := 1628) (by decide +kernel)) rfl) wi_yX12_isHeld we_yX12_isHeld wini_RX12 wc_yX12_isHeld ⟨rfl, by decide, by decide, by decide +kernel⟩ rfl
theorem cv_RX12_355 : CVt RX12 355 RX12 yX12_kindOn cX12_kindOn 2 (some .int) 1 := CVt.of (tbg_in (List.mem_of_getElem? (i := 1636) (by decide +kernel)) rfl) wi_yX12_kindOn we_yX12_kindOn wini_RX12 wc_yX12_kindOn ⟨rfl, by decide, by decide, by decide +kernel⟩ rfl
theorem cv_RX12_364 : CVt RX12 364 RX12 yX12_ran cX12_ran 2 none 1 := CVt.of (tbg_in (List.mem_of_getElem? (i := 1655) (by decide +kernel)) rfl) wi_yX12_ran we_yX12_ran wini_RX12 wc_yX12_ran ⟨rfl, by decide, by decide, by decide +kernel⟩ rfl
theorem cv_RX12_370 : CVt RX12 370 RX12 yX12_plainPrints cX12_plainPrints 2 (some .int) 1 := CVt.of (tbg_in (List.mem_of_getElem? (i := 1659) (by decide +kernel)) rfl) wi_yX12_plainPrints we_yX12_plainPrints wini_RX12 wc_yX12_plainPrints ⟨rfl, by decide, by decide, by decide +kernel⟩ rfl
theorem cv_RX12_376 : CVt RX12 376 RX12 yX12_posterPrints cX12_posterPrints 2 (some .int) 1 := CVt.of (tbg_in (List.mem_of_getElem? (i := 1651) (by decide +kernel)) rfl) wi_yX12_posterPrints we_yX12_posterPrints wini_RX12 wc_yX12_posterPrints ⟨rfl, by decide, by decide, by decide +kernel⟩ rfl
theorem cv_RX12_379 : CVt RX12 379 RX12 yX12_printsIt cX12_printsIt 2 (some .int) 1 := CVt.of (tbg_in (List.mem_of_getElem? (i := 1647) (by decide +kernel)) rfl) wi_yX12_printsIt we_yX12_printsIt wini_RX12 wc_yX12_printsIt ⟨rfl, by decide, by decide, by decide +kernel⟩ rfl
theorem cv_RX12_382 : CVt RX12 382 RX12 yX12_plainSets cX12_plainSets 2 (some .int) 1 := CVt.of (tbg_in (List.mem_of_getElem? (i := 1671) (by decide +kernel)) rfl) wi_yX12_plainSets we_yX12_plainSets wini_RX12 wc_yX12_plainSets ⟨rfl, by decide, by decide, by decide +kernel⟩ rfl
theorem cv_RX12_388 : CVt RX12 388 RX12 yX12_weddingSets cX12_weddingSets 2 (some .int) 1 := CVt.of (tbg_in (List.mem_of_getElem? (i := 1667) (by decide +kernel)) rfl) wi_yX12_weddingSets we_yX12_weddingSets wini_RX12 wc_yX12_weddingSets ⟨rfl, by decide, by decide, by decide +kernel⟩ rfl
theorem cv_RX12_394 : CVt RX12 394 RX12 yX12_plainShares cX12_plainShares 2 (some .int) 1 := CVt.of (tbg_in (List.mem_of_getElem? (i := 1679) (by decide +kernel)) rfl) wi_yX12_plainShares we_yX12_plainShares wini_RX12 wc_yX12_plainShares ⟨rfl, by decide, by decide, by decide +kernel⟩ rfl
theorem cv_RX12_397 : CVt RX12 397 RX12 yX12_setsIt cX12_setsIt 3 (some .int) 1 := CVt.of (tbg_in (List.mem_of_getElem? (i := 1663) (by decide +kernel)) rfl) wi_yX12_setsIt we_yX12_setsIt wini_RX12 wc_yX12_setsIt ⟨rfl, by decide, by decide, by decide +kernel⟩ rfl
theorem cv_RX12_400 : CVt RX12 400 RX12 yX12_plainTells cX12_plainTells 2 (some .int) 1 := CVt.of (tbg_in (List.mem_of_getElem? (i := 1687) (by decide +kernel)) rfl) wi_yX12_plainTells we_yX12_plainTells wini_RX12 wc_yX12_plainTells ⟨rfl, by decide, by decide, by decide +kernel⟩ rfl
theorem cv_RX12_403 : CVt RX12 403 RX12 yX12_sharesIt cX12_sharesIt 3 (some .int) 1 := CVt.of (tbg_in (List.mem_of_getElem? (i := 1675) (by decide +kernel)) rfl) wi_yX12_sharesIt we_yX12_sharesIt wini_RX12 wc_yX12_sharesIt ⟨rfl, by decide, by decide, by decide +kernel⟩ rfl
theorem cv_RX12_406 : CVt RX12 406 RX12 yX12_tellsIt cX12_tellsIt 3 (some .int) 1 := CVt.of (tbg_in (List.mem_of_getElem? (i := 1683) (by decide +kernel)) rfl) wi_yX12_tellsIt we_yX12_tellsIt wini_RX12 wc_yX12_tellsIt ⟨rfl, by decide, by decide, by decide +kernel⟩ rfl
theorem cv_RX12_412 : CVt RX12 412 RX12 yX12_move cX12_move 5 none 3 := CVt.of (tbg_in (List.mem_of_getElem? (i := 1707) (by decide +kernel)) rfl) wi_yX12_move we_yX12_move wini_RX12 wc_yX12_move ⟨rfl, by decide, by decide, by decide +kernel⟩ rfl
theorem cv_RX12_416 : CVt RX12 416 RX12 yX12_moveAll cX12_moveAll 2 none 1 := CVt.of (tbg_in (List.mem_of_getElem? (i := 1703) (by decide +kernel)) rfl) wi_yX12_moveAll we_yX12_moveAll wini_RX12 wc_yX12_moveAll ⟨rfl, by decide, by decide, by decide +kernel⟩ rfl
theorem cv_RX2_42 : CVt RX2 42 RX2 yX2_begin cX2_begin 2 none 1 := CVt.of (tbg_in (List.mem_of_getElem? (i := 840) (by decide +kernel)) rfl) wi_yX2_begin we_yX2_begin wini_RX2 wc_yX2_begin ⟨rfl, by decide, by decide, by decide +kernel⟩ rfl
theorem cv_RX2_54 : CVt RX2 54 RX2 yX2_spread cX2_spread 14 (some .int) 4 := CVt.of (tbg_in (List.mem_of_getElem? (i := 844) (by decide +kernel)) rfl) wi_yX2_spread we_yX2_spread wini_RX2 wc_yX2_spread ⟨rfl, by decide, by decide, by decide +kernel⟩ rfl
theorem cv_RX2_58 : CVt RX2 58 RX2 yX2_walk cX2_walk 7 none 5 := CVt.of (tbg_in (List.mem_of_getElem? (i := 862) (by decide +kernel)) rfl) wi_yX2_walk we_yX2_walk wini_RX2 wc_yX2_walk ⟨rfl, by decide, by decide, by decide +kernel⟩ rfl
theorem cv_RX2_68 : CVt RX2 68 RX3 yX3_usedBehind cX3_usedBehind 7 (some .int) 4 := CVt.of (tbg_in (List.mem_of_getElem? (i := 848) (by decide +kernel)) rfl) wi_yX3_usedBehind we_yX3_usedBehind wini_RX3 wc_yX3_usedBehind ⟨rfl, by decide, by decide, by decide +kernel⟩ rfl
theorem cv_RX2_77 : CVt RX2 77 RX3 yX3_dayAt cX3_dayAt 2 (some .int) 1 := CVt.of (tbg_in (List.mem_of_getElem? (i := 849) (by decide +kernel)) rfl) wi_yX3_dayAt we_yX3_dayAt wini_RX3 wc_yX3_dayAt ⟨rfl, by decide, by decide, by decide +kernel⟩ rfl
theorem cv_RX2_87 : CVt RX2 87 RX4 yX4_valueOf cX4_valueOf 4 (some .int) 3 := CVt.of (tbg_in (List.mem_of_getElem? (i := 850) (by decide +kernel)) rfl) wi_yX4_valueOf we_yX4_valueOf wini_RX4 wc_yX4_valueOf ⟨rfl, by decide, by decide, by decide +kernel⟩ rfl
theorem cv_RX3_44 : CVt RX3 44 RX1 yX1_slotsOn cX1_slotsOn 2 (some .int) 1 := CVt.of (tbg_in (List.mem_of_getElem? (i := 742) (by decide +kernel)) rfl) wi_yX1_slotsOn we_yX1_slotsOn wini_RX1 wc_yX1_slotsOn ⟨rfl, by decide, by decide, by decide +kernel⟩ rfl
theorem cv_RX3_67 : CVt RX3 67 RX3 yX3_usedBehind cX3_usedBehind 7 (some .int) 4 := CVt.of (tbg_in (List.mem_of_getElem? (i := 747) (by decide +kernel)) rfl) wi_yX3_usedBehind we_yX3_usedBehind wini_RX3 wc_yX3_usedBehind ⟨rfl, by decide, by decide, by decide +kernel⟩ rfl
theorem cv_RX3_71 : CVt RX3 71 RX3 yX3_dayAt cX3_dayAt 2 (some .int) 1 := CVt.of (tbg_in (List.mem_of_getElem? (i := 751) (by decide +kernel)) rfl) wi_yX3_dayAt we_yX3_dayAt wini_RX3 wc_yX3_dayAt ⟨rfl, by decide, by decide, by decide +kernel⟩ rfl
theorem cv_RX4_31 : CVt RX4 31 RX4 yX4_has cX4_has 2 (some .boolean) 1 := CVt.of (tbg_in (List.mem_of_getElem? (i := 688) (by decide +kernel)) rfl) wi_yX4_has we_yX4_has wini_RX4 wc_yX4_has ⟨rfl, by decide, by decide, by decide +kernel⟩ rfl
theorem cv_RX5_41 : CVt RX5 41 RX5 yX5_leastLost cX5_leastLost 5 (some .int) 3 := CVt.of (tbg_in (List.mem_of_getElem? (i := 780) (by decide +kernel)) rfl) wi_yX5_leastLost we_yX5_leastLost wini_RX5 wc_yX5_leastLost ⟨rfl, by decide, by decide, by decide +kernel⟩ rfl
theorem cv_RX5_45 : CVt RX5 45 RX4 yX4_has cX4_has 2 (some .boolean) 1 := CVt.of (tbg_in (List.mem_of_getElem? (i := 784) (by decide +kernel)) rfl) wi_yX4_has we_yX4_has wini_RX4 wc_yX4_has ⟨rfl, by decide, by decide, by decide +kernel⟩ rfl
theorem cv_RX5_49 : CVt RX5 49 RX5 yX5_walk cX5_walk 10 none 6 := CVt.of (tbg_in (List.mem_of_getElem? (i := 785) (by decide +kernel)) rfl) wi_yX5_walk we_yX5_walk wini_RX5 wc_yX5_walk ⟨rfl, by decide, by decide, by decide +kernel⟩ rfl
theorem cv_RX5_59 : CVt RX5 59 RX3 yX3_usedBehind cX3_usedBehind 7 (some .int) 4 := CVt.of (tbg_in (List.mem_of_getElem? (i := 792) (by decide +kernel)) rfl) wi_yX3_usedBehind we_yX3_usedBehind wini_RX3 wc_yX3_usedBehind ⟨rfl, by decide, by decide, by decide +kernel⟩ rfl
theorem cv_RX5_65 : CVt RX5 65 RX3 yX3_dayAt cX3_dayAt 2 (some .int) 1 := CVt.of (tbg_in (List.mem_of_getElem? (i := 793) (by decide +kernel)) rfl) wi_yX3_dayAt we_yX3_dayAt wini_RX3 wc_yX3_dayAt ⟨rfl, by decide, by decide, by decide +kernel⟩ rfl
theorem cv_RX5_69 : CVt RX5 69 RX5 yX5_lossOf cX5_lossOf 5 (some .int) 3 := CVt.of (tbg_in (List.mem_of_getElem? (i := 794) (by decide +kernel)) rfl) wi_yX5_lossOf we_yX5_lossOf wini_RX5 wc_yX5_lossOf ⟨rfl, by decide, by decide, by decide +kernel⟩ rfl
theorem cv_RX5_82 : CVt RX5 82 RX4 yX4_valueOf cX4_valueOf 4 (some .int) 3 := CVt.of (tbg_in (List.mem_of_getElem? (i := 798) (by decide +kernel)) rfl) wi_yX4_valueOf we_yX4_valueOf wini_RX4 wc_yX4_valueOf ⟨rfl, by decide, by decide, by decide +kernel⟩ rfl
theorem cv_RX6_27 : CVt RX6 27 RX3 yX3_follow cX3_follow 7 none 2 := CVt.of (tbg_in (List.mem_of_getElem? (i := 946) (by decide +kernel)) rfl) wi_yX3_follow we_yX3_follow wini_RX3 wc_yX3_follow ⟨rfl, by decide, by decide, by decide +kernel⟩ rfl
theorem cv_RX6_42 : CVt RX6 42 RX4 yX4_valueOf cX4_valueOf 4 (some .int) 3 := CVt.of (tbg_in (List.mem_of_getElem? (i := 947) (by decide +kernel)) rfl) wi_yX4_valueOf we_yX4_valueOf wini_RX4 wc_yX4_valueOf ⟨rfl, by decide, by decide, by decide +kernel⟩ rfl
theorem cv_RX6_46 : CVt RX6 46 RX4 yX4_has cX4_has 2 (some .boolean) 1 := CVt.of (tbg_in (List.mem_of_getElem? (i := 969) (by decide +kernel)) rfl) wi_yX4_has we_yX4_has wini_RX4 wc_yX4_has ⟨rfl, by decide, by decide, by decide +kernel⟩ rfl
theorem cv_RX6_50 : CVt RX6 50 RX3 yX3_usedBehind cX3_usedBehind 7 (some .int) 4 := CVt.of (tbg_in (List.mem_of_getElem? (i := 970) (by decide +kernel)) rfl) wi_yX3_usedBehind we_yX3_usedBehind wini_RX3 wc_yX3_usedBehind ⟨rfl, by decide, by decide, by decide +kernel⟩ rfl
theorem cv_RX6_57 : CVt RX6 57 RX3 yX3_dayAt cX3_dayAt 2 (some .int) 1 := CVt.of (tbg_in (List.mem_of_getElem? (i := 971) (by decide +kernel)) rfl) wi_yX3_dayAt we_yX3_dayAt wini_RX3 wc_yX3_dayAt ⟨rfl, by decide, by decide, by decide +kernel⟩ rfl
theorem cv_RX8_43 : CVt RX8 43 RX8 yX8_next cX8_next 1 none 0 := CVt.of (tbg_in (List.mem_of_getElem? (i := 535) (by decide +kernel)) rfl) wi_yX8_next we_yX8_next wini_RX8 wc_yX8_next ⟨rfl, by decide, by decide, by decide +kernel⟩ rfl
theorem cv_RX8_46 : CVt RX8 46 RX8 yX8_lawNamed cX8_lawNamed 1 (some .int) 0 := CVt.of (tbg_in (List.mem_of_getElem? (i := 543) (by decide +kernel)) rfl) wi_yX8_lawNamed we_yX8_lawNamed wini_RX8 wc_yX8_lawNamed ⟨rfl, by decide, by decide, by decide +kernel⟩ rfl
theorem cv_RX8_50 : CVt RX8 50 RX8 yX8_readLaw cX8_readLaw 3 (some .boolean) 1 := CVt.of (tbg_in (List.mem_of_getElem? (i := 602) (by decide +kernel)) rfl) wi_yX8_readLaw we_yX8_readLaw wini_RX8 wc_yX8_readLaw ⟨rfl, by decide, by decide, by decide +kernel⟩ rfl
theorem cv_RX8_54 : CVt RX8 54 RX8 yX8_readJob cX8_readJob 6 (some .boolean) 0 := CVt.of (tbg_in (List.mem_of_getElem? (i := 619) (by decide +kernel)) rfl) wi_yX8_readJob we_yX8_readJob wini_RX8 wc_yX8_readJob ⟨rfl, by decide, by decide, by decide +kernel⟩ rfl
theorem cv_RX8_64 : CVt RX8 64 RX8 yX8_passNumber cX8_passNumber 5 (some .boolean) 2 := CVt.of (tbg_in (List.mem_of_getElem? (i := 610) (by decide +kernel)) rfl) wi_yX8_passNumber we_yX8_passNumber wini_RX8 wc_yX8_passNumber ⟨rfl, by decide, by decide, by decide +kernel⟩ rfl
theorem cv_RX8_68 : CVt RX8 68 RX8 yX8_passStop cX8_passStop 1 (some .boolean) 0 := CVt.of (tbg_in (List.mem_of_getElem? (i := 615) (by decide +kernel)) rfl) wi_yX8_passStop we_yX8_passStop wini_RX8 wc_yX8_passStop ⟨rfl, by decide, by decide, by decide +kernel⟩ rfl
theorem cv_RX8_71 : CVt RX8 71 RX8 yX8_kindNamed cX8_kindNamed 1 (some .int) 0 := CVt.of (tbg_in (List.mem_of_getElem? (i := 623) (by decide +kernel)) rfl) wi_yX8_kindNamed we_yX8_kindNamed wini_RX8 wc_yX8_kindNamed ⟨rfl, by decide, by decide, by decide +kernel⟩ rfl
theorem cv_RX8_76 : CVt RX8 76 RX8 yX8_passName cX8_passName 2 (some .boolean) 1 := CVt.of (tbg_in (List.mem_of_getElem? (i := 634) (by decide +kernel)) rfl) wi_yX8_passName we_yX8_passName wini_RX8 wc_yX8_passName ⟨rfl, by decide, by decide, by decide +kernel⟩ rfl
theorem cv_RX8_84 : CVt RX8 84 RX4 yX4_add cX4_add 6 none 5 := CVt.of (tbg_in (List.mem_of_getElem? (i := 640) (by decide +kernel)) rfl) wi_yX4_add we_yX4_add wini_RX4 wc_yX4_add ⟨rfl, by decide, by decide, by decide +kernel⟩ rfl
theorem cv_RX8_90 : CVt RX8 90 RX8 yX8_isNamed cX8_isNamed 3 (some .boolean) 1 := CVt.of (tbg_in (List.mem_of_getElem? (i := 548) (by decide +kernel)) rfl) wi_yX8_isNamed we_yX8_isNamed wini_RX8 wc_yX8_isNamed ⟨rfl, by decide, by decide, by decide +kernel⟩ rfl
theorem cv_RX8_109 : CVt RX8 109 RJ0 yJ0_length_8abf5 cJ0_length_8abf5 1 (some .int) 0 := CVt.of (tbg_in (List.mem_of_getElem? (i := 552) (by decide +kernel)) rfl) wi_yJ0_length_8abf5 we_yJ0_length_8abf5 wini_RJ0 wc_yJ0_length_8abf5 ⟨rfl, by decide, by decide, by decide +kernel⟩ rfl
theorem cv_RX8_114 : CVt RX8 114 RJ0 yJ0_charAt_5068e cJ0_charAt_5068e 2 (some .char) 1 := CVt.of (tbg_in (List.mem_of_getElem? (i := 562) (by decide +kernel)) rfl) wi_yJ0_charAt_5068e we_yJ0_charAt_5068e wini_RJ0 wc_yJ0_charAt_5068e ⟨rfl, by decide, by decide, by decide +kernel⟩ rfl
theorem cv_RX8_122 : CVt RX8 122 RX8 yX8_sortAt cX8_sortAt 2 (some .int) 1 := CVt.of (tbg_in (List.mem_of_getElem? (i := 539) (by decide +kernel)) rfl) wi_yX8_sortAt we_yX8_sortAt wini_RX8 wc_yX8_sortAt ⟨rfl, by decide, by decide, by decide +kernel⟩ rfl
theorem cv_RX9_32 : CVt RX9 32 RX9 yX9_prints cX9_prints 3 (some .int) 1 := CVt.of (tbg_in (List.mem_of_getElem? (i := 1042) (by decide +kernel)) rfl) wi_yX9_prints we_yX9_prints wini_RX9 wc_yX9_prints ⟨rfl, by decide, by decide, by decide +kernel⟩ rfl
theorem cv_RX9_36 : CVt RX9 36 RX9 yX9_sets cX9_sets 3 (some .int) 1 := CVt.of (tbg_in (List.mem_of_getElem? (i := 1055) (by decide +kernel)) rfl) wi_yX9_sets we_yX9_sets wini_RX9 wc_yX9_sets ⟨rfl, by decide, by decide, by decide +kernel⟩ rfl
theorem cv_RX9_39 : CVt RX9 39 RX9 yX9_shares cX9_shares 3 (some .int) 1 := CVt.of (tbg_in (List.mem_of_getElem? (i := 1059) (by decide +kernel)) rfl) wi_yX9_shares we_yX9_shares wini_RX9 wc_yX9_shares ⟨rfl, by decide, by decide, by decide +kernel⟩ rfl
theorem cv_RX9_42 : CVt RX9 42 RX9 yX9_tells cX9_tells 3 (some .int) 1 := CVt.of (tbg_in (List.mem_of_getElem? (i := 1063) (by decide +kernel)) rfl) wi_yX9_tells we_yX9_tells wini_RX9 wc_yX9_tells ⟨rfl, by decide, by decide, by decide +kernel⟩ rfl
theorem cv_RX9_49 : CVt RX9 49 RX9 yX9_is cX9_is 2 (some .boolean) 1 := CVt.of (tbg_in (List.mem_of_getElem? (i := 1046) (by decide +kernel)) rfl) wi_yX9_is we_yX9_is wini_RX9 wc_yX9_is ⟨rfl, by decide, by decide, by decide +kernel⟩ rfl
theorem cv_RX9_53 : CVt RX9 53 RX9 yX9_runs cX9_runs 2 none 1 := CVt.of (tbg_in (List.mem_of_getElem? (i := 1051) (by decide +kernel)) rfl) wi_yX9_runs we_yX9_runs wini_RX9 wc_yX9_runs ⟨rfl, by decide, by decide, by decide +kernel⟩ rfl
theorem cs_RJ0_495 : CSt RJ0 495 yJ1_charAt_3b067 cJ1_charAt_3b067 2 (some .char) 2 := CSt.of (tbg_in (List.mem_of_getElem? (i := 570) (by decide +kernel)) rfl) ws_yJ1_charAt_3b067 wini_RJ1 wc_yJ1_charAt_3b067 ⟨by decide, by decide, by decide +kernel⟩ rfl
theorem cs_RJ0_1059 : CSt RJ0 1059 yJ3_checkIndex_8e157 cJ3_checkIndex_8e157 3 (some .int) 3 := CSt.of (tbg_in (List.mem_of_getElem? (i := 578) (by decide +kernel)) rfl) ws_yJ3_checkIndex_8e157 wini_RJ3 wc_yJ3_checkIndex_8e157 ⟨by decide, by decide, by decide +kernel⟩ rfl
theorem cs_RJ1_9 : CSt RJ1 9 yJ0_checkIndex_df160 cJ0_checkIndex_df160 2 none 2 := CSt.of (tbg_in (List.mem_of_getElem? (i := 573) (by decide +kernel)) rfl) ws_yJ0_checkIndex_df160 wini_RJ0 wc_yJ0_checkIndex_df160 ⟨by decide, by decide, by decide +kernel⟩ rfl
theorem cs_RX11_100 : CSt RX11 100 yX11_within cX11_within 3 (some .boolean) 3 := CSt.of (tbg_in (List.mem_of_getElem? (i := 520) (by decide +kernel)) rfl) ws_yX11_within wini_RX11 wc_yX11_within ⟨by decide, by decide, by decide +kernel⟩ rfl
theorem cs_RX11_132 : CSt RX11 132 yX11_isJob cX11_isJob 5 (some .boolean) 5 := CSt.of (tbg_in (List.mem_of_getElem? (i := 660) (by decide +kernel)) rfl) ws_yX11_isJob wini_RX11 wc_yX11_isJob ⟨by decide, by decide, by decide +kernel⟩ rfl
theorem cs_RX11_219 : CSt RX11 219 yX11_digitsOf cX11_digitsOf 4 (some .int) 2 := CSt.of (tbg_in (List.mem_of_getElem? (i := 799) (by decide +kernel)) rfl) ws_yX11_digitsOf wini_RX11 wc_yX11_digitsOf ⟨by decide, by decide, by decide +kernel⟩ rfl
theorem cs_RX11_242 : CSt RX11 242 yX11_partOf cX11_partOf 5 (some .int) 3 := CSt.of (tbg_in (List.mem_of_getElem? (i := 851) (by decide +kernel)) rfl) ws_yX11_partOf wini_RX11 wc_yX11_partOf ⟨by decide, by decide, by decide +kernel⟩ rfl
theorem cs_RX11_299 : CSt RX11 299 yX7_isPlace cX7_isPlace 1 (some .boolean) 1 := CSt.of (tbg_in (List.mem_of_getElem? (i := 976) (by decide +kernel)) rfl) ws_yX7_isPlace wini_RX7 wc_yX7_isPlace ⟨by decide, by decide, by decide +kernel⟩ rfl
theorem cs_RX11_315 : CSt RX11 315 yX7_narrowed cX7_narrowed 2 (some .int) 2 := CSt.of (tbg_in (List.mem_of_getElem? (i := 988) (by decide +kernel)) rfl) ws_yX7_narrowed wini_RX7 wc_yX7_narrowed ⟨by decide, by decide, by decide +kernel⟩ rfl
theorem cs_RX11_341 : CSt RX11 341 yX11_isUnder cX11_isUnder 2 (some .boolean) 2 := CSt.of (tbg_in (List.mem_of_getElem? (i := 1023) (by decide +kernel)) rfl) ws_yX11_isUnder wini_RX11 wc_yX11_isUnder ⟨by decide, by decide, by decide +kernel⟩ rfl
theorem cs_RX12_99 : CSt RX12 99 yX12_in cX12_in 3 (some .boolean) 3 := CSt.of (tbg_in (List.mem_of_getElem? (i := 1266) (by decide +kernel)) rfl) ws_yX12_in wini_RX12 wc_yX12_in ⟨by decide, by decide, by decide +kernel⟩ rfl
theorem cs_RX12_103 : CSt RX12 103 yX12_isSide cX12_isSide 1 (some .boolean) 1 := CSt.of (tbg_in (List.mem_of_getElem? (i := 1353) (by decide +kernel)) rfl) ws_yX12_isSide wini_RX12 wc_yX12_isSide ⟨by decide, by decide, by decide +kernel⟩ rfl
theorem cs_RX12_107 : CSt RX12 107 yX12_restOf cX12_restOf 2 (some .int) 2 := CSt.of (tbg_in (List.mem_of_getElem? (i := 1343) (by decide +kernel)) rfl) ws_yX12_restOf wini_RX12 wc_yX12_restOf ⟨by decide, by decide, by decide +kernel⟩ rfl
theorem cs_RX12_126 : CSt RX12 126 yX12_isLetter cX12_isLetter 1 (some .boolean) 1 := CSt.of (tbg_in (List.mem_of_getElem? (i := 1282) (by decide +kernel)) rfl) ws_yX12_isLetter wini_RX12 wc_yX12_isLetter ⟨by decide, by decide, by decide +kernel⟩ rfl
theorem cs_RX12_129 : CSt RX12 129 yX12_isDigit cX12_isDigit 1 (some .boolean) 1 := CSt.of (tbg_in (List.mem_of_getElem? (i := 1285) (by decide +kernel)) rfl) ws_yX12_isDigit wini_RX12 wc_yX12_isDigit ⟨by decide, by decide, by decide +kernel⟩ rfl
theorem cs_RX12_232 : CSt RX12 232 yX12_isLike cX12_isLike 3 (some .boolean) 3 := CSt.of (tbg_in (List.mem_of_getElem? (i := 1350) (by decide +kernel)) rfl) ws_yX12_isLike wini_RX12 wc_yX12_isLike ⟨by decide, by decide, by decide +kernel⟩ rfl
theorem cs_RX12_235 : CSt RX12 235 yX12_isPromised cX12_isPromised 2 (some .boolean) 2 := CSt.of (tbg_in (List.mem_of_getElem? (i := 1356) (by decide +kernel)) rfl) ws_yX12_isPromised wini_RX12 wc_yX12_isPromised ⟨by decide, by decide, by decide +kernel⟩ rfl
theorem cs_RX12_346 : CSt RX12 346 yX12_isShelf cX12_isShelf 1 (some .boolean) 1 := CSt.of (tbg_in (List.mem_of_getElem? (i := 1609) (by decide +kernel)) rfl) ws_yX12_isShelf wini_RX12 wc_yX12_isShelf ⟨by decide, by decide, by decide +kernel⟩ rfl
theorem cs_RX12_358 : CSt RX12 358 yX12_isUnder cX12_isUnder 2 (some .boolean) 2 := CSt.of (tbg_in (List.mem_of_getElem? (i := 1640) (by decide +kernel)) rfl) ws_yX12_isUnder wini_RX12 wc_yX12_isUnder ⟨by decide, by decide, by decide +kernel⟩ rfl
theorem cn_RX6_23 : CNt RX6 23 yX11_within "PressDays" cX11_within 3 (some .boolean) 3 := ⟨nwl_in (List.mem_of_getElem? (i := 956) (by decide +kernel)) rfl, ws_yX11_within, wini_RX11, wc_yX11_within, ⟨by decide, by decide, by decide +kernel⟩, by decide⟩
theorem cn_RX7_30 : CNt RX7 30 yX11_within "PressDays" cX11_within 3 (some .boolean) 3 := ⟨nwl_in (List.mem_of_getElem? (i := 979) (by decide +kernel)) rfl, ws_yX11_within, wini_RX11, wc_yX11_within, ⟨by decide, by decide, by decide +kernel⟩, by decide⟩
theorem cn_RX8_118 : CNt RX8 118 yX11_within "PressDays" cX11_within 3 (some .boolean) 3 := ⟨nwl_in (List.mem_of_getElem? (i := 614) (by decide +kernel)) rfl, ws_yX11_within, wini_RX11, wc_yX11_within, ⟨by decide, by decide, by decide +kernel⟩, by decide⟩
theorem cn_RX9_45 : CNt RX9 45 yX11_isUnder "PressDays" cX11_isUnder 2 (some .boolean) 2 := ⟨nwl_in (List.mem_of_getElem? (i := 1050) (by decide +kernel)) rfl, ws_yX11_isUnder, wini_RX11, wc_yX11_isUnder, ⟨by decide, by decide, by decide +kernel⟩, by decide⟩
