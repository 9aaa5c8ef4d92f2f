theorem cf_X0 : CF 0 RX0 TX0 1 tyX0 := ⟨rfl, goodR [294] (by decide +kernel) (by decide +kernel), tyX0_ok, nmX0, by decide⟩
theorem cf_X1 : CF 1 RX1 TX1 9 tyX1 := ⟨rfl, goodR [104, 106, 108, 110, 112, 114, 116, 118, 120] (by decide +kernel) (by decide +kernel), tyX1_ok, nmX1, by decide⟩
theorem cf_X2 : CF 2 RX2 TX2 9 tyX2 := ⟨rfl, goodR [268, 270, 272, 274, 276, 278, 280, 282, 284] (by decide +kernel) (by decide +kernel), tyX2_ok, nmX2, by decide⟩
theorem cf_X3 : CF 3 RX3 TX3 7 tyX3 := ⟨rfl, goodR [210, 212, 214, 216, 218, 220, 222] (by decide +kernel) (by decide +kernel), tyX3_ok, nmX3, by decide⟩
theorem cf_X4 : CF 4 RX4 TX4 6 tyX4 := ⟨rfl, goodR [68, 70, 72, 74, 76, 78] (by decide +kernel) (by decide +kernel), tyX4_ok, nmX4, by decide⟩
theorem cf_X5 : CF 5 RX5 TX5 6 tyX5 := ⟨rfl, goodR [239, 241, 243, 245, 247, 249] (by decide +kernel) (by decide +kernel), tyX5_ok, nmX5, by decide⟩
theorem cf_X6 : CF 6 RX6 TX6 3 tyX6 := ⟨rfl, goodR [308, 310, 312] (by decide +kernel) (by decide +kernel), tyX6_ok, nmX6, by decide⟩
theorem cf_X7 : CF 7 RX7 TX7 6 tyX7 := ⟨rfl, goodR [329, 331, 333, 335, 337, 339] (by decide +kernel) (by decide +kernel), tyX7_ok, nmX7, by decide⟩
theorem cf_X8 : CF 8 RX8 TX8 8 tyX8 := ⟨rfl, goodR [172, 174, 176, 178, 180, 182, 184, 186] (by decide +kernel) (by decide +kernel), tyX8_ok, nmX8, by decide⟩
theorem cf_X9 : CF 9 RX9 TX9 6 tyX9 := ⟨rfl, goodR [355, 357, 359, 361, 363, 365] (by decide +kernel) (by decide +kernel), tyX9_ok, nmX9, by decide⟩
theorem cf_X10 : CF 10 RX10 TX10 8 tyX10 := ⟨rfl, goodR [138, 140, 142, 144, 146, 148, 150, 152] (by decide +kernel) (by decide +kernel), tyX10_ok, nmX10, by decide⟩
theorem cf_X11 : CF 11 RX11 TX11 14 tyX11 := ⟨rfl, goodR [382, 384, 386, 388, 390, 392, 394, 396, 398, 400, 402, 404, 406, 408] (by decide +kernel) (by decide +kernel), tyX11_ok, nmX11, by decide⟩
theorem fg_RX1_12 : FG RX1 12 1 0 := ⟨_, _, _, _, cf_X1, by decide, tbg_in (List.mem_of_getElem? (i := 82) (by decide +kernel)) rfl⟩
theorem fg_RX1_18 : FG RX1 18 1 1 := ⟨_, _, _, _, cf_X1, by decide, tbg_in (List.mem_of_getElem? (i := 84) (by decide +kernel)) rfl⟩
theorem fg_RX1_22 : FG RX1 22 1 2 := ⟨_, _, _, _, cf_X1, by decide, tbg_in (List.mem_of_getElem? (i := 87) (by decide +kernel)) rfl⟩
theorem fg_RX1_25 : FG RX1 25 1 3 := ⟨_, _, _, _, cf_X1, by decide, tbg_in (List.mem_of_getElem? (i := 89) (by decide +kernel)) rfl⟩
theorem fg_RX1_28 : FG RX1 28 1 4 := ⟨_, _, _, _, cf_X1, by decide, tbg_in (List.mem_of_getElem? (i := 91) (by decide +kernel)) rfl⟩
theorem fg_RX1_31 : FG RX1 31 1 5 := ⟨_, _, _, _, cf_X1, by decide, tbg_in (List.mem_of_getElem? (i := 93) (by decide +kernel)) rfl⟩
theorem fg_RX1_35 : FG RX1 35 1 6 := ⟨_, _, _, _, cf_X1, by decide, tbg_in (List.mem_of_getElem? (i := 96) (by decide +kernel)) rfl⟩
theorem fg_RX1_38 : FG RX1 38 1 7 := ⟨_, _, _, _, cf_X1, by decide, tbg_in (List.mem_of_getElem? (i := 99) (by decide +kernel)) rfl⟩
theorem fg_RX1_41 : FG RX1 41 1 8 := ⟨_, _, _, _, cf_X1, by decide, tbg_in (List.mem_of_getElem? (i := 102) (by decide +kernel)) rfl⟩
theorem fg_RX1_54 : FG RX1 54 4 0 := ⟨_, _, _, _, cf_X4, by decide, tbg_in (List.mem_of_getElem? (i := 47) (by decide +kernel)) rfl⟩
theorem fg_RX1_76 : FG RX1 76 4 3 := ⟨_, _, _, _, cf_X4, by decide, tbg_in (List.mem_of_getElem? (i := 60) (by decide +kernel)) rfl⟩
theorem fg_RX1_78 : FG RX1 78 4 2 := ⟨_, _, _, _, cf_X4, by decide, tbg_in (List.mem_of_getElem? (i := 54) (by decide +kernel)) rfl⟩
theorem fg_RX10_9 : FG RX10 9 10 0 := ⟨_, _, _, _, cf_X10, by decide, tbg_in (List.mem_of_getElem? (i := 129) (by decide +kernel)) rfl⟩
theorem fg_RX10_15 : FG RX10 15 10 1 := ⟨_, _, _, _, cf_X10, by decide, tbg_in (List.mem_of_getElem? (i := 131) (by decide +kernel)) rfl⟩
theorem fg_RX10_18 : FG RX10 18 10 2 := ⟨_, _, _, _, cf_X10, by decide, tbg_in (List.mem_of_getElem? (i := 132) (by decide +kernel)) rfl⟩
theorem fg_RX10_22 : FG RX10 22 10 3 := ⟨_, _, _, _, cf_X10, by decide, tbg_in (List.mem_of_getElem? (i := 133) (by decide +kernel)) rfl⟩
theorem fg_RX10_25 : FG RX10 25 10 4 := ⟨_, _, _, _, cf_X10, by decide, tbg_in (List.mem_of_getElem? (i := 134) (by decide +kernel)) rfl⟩
theorem fg_RX10_28 : FG RX10 28 10 5 := ⟨_, _, _, _, cf_X10, by decide, tbg_in (List.mem_of_getElem? (i := 135) (by decide +kernel)) rfl⟩
theorem fg_RX10_31 : FG RX10 31 10 6 := ⟨_, _, _, _, cf_X10, by decide, tbg_in (List.mem_of_getElem? (i := 136) (by decide +kernel)) rfl⟩
theorem fg_RX10_34 : FG RX10 34 10 7 := ⟨_, _, _, _, cf_X10, by decide, tbg_in (List.mem_of_getElem? (i := 137) (by decide +kernel)) rfl⟩
theorem fg_RX11_10 : FG RX11 10 11 0 := ⟨_, _, _, _, cf_X11, by decide, tbg_in (List.mem_of_getElem? (i := 368) (by decide +kernel)) rfl⟩
theorem fg_RX11_16 : FG RX11 16 11 1 := ⟨_, _, _, _, cf_X11, by decide, tbg_in (List.mem_of_getElem? (i := 369) (by decide +kernel)) rfl⟩
theorem fg_RX11_22 : FG RX11 22 11 2 := ⟨_, _, _, _, cf_X11, by decide, tbg_in (List.mem_of_getElem? (i := 370) (by decide +kernel)) rfl⟩
theorem fg_RX11_26 : FG RX11 26 11 3 := ⟨_, _, _, _, cf_X11, by decide, tbg_in (List.mem_of_getElem? (i := 371) (by decide +kernel)) rfl⟩
theorem fg_RX11_29 : FG RX11 29 11 4 := ⟨_, _, _, _, cf_X11, by decide, tbg_in (List.mem_of_getElem? (i := 372) (by decide +kernel)) rfl⟩
theorem fg_RX11_36 : FG RX11 36 11 5 := ⟨_, _, _, _, cf_X11, by decide, tbg_in (List.mem_of_getElem? (i := 373) (by decide +kernel)) rfl⟩
theorem fg_RX11_43 : FG RX11 43 11 6 := ⟨_, _, _, _, cf_X11, by decide, tbg_in (List.mem_of_getElem? (i := 374) (by decide +kernel)) rfl⟩
theorem fg_RX11_52 : FG RX11 52 11 7 := ⟨_, _, _, _, cf_X11, by decide, tbg_in (List.mem_of_getElem? (i := 375) (by decide +kernel)) rfl⟩
theorem fg_RX11_59 : FG RX11 59 11 8 := ⟨_, _, _, _, cf_X11, by decide, tbg_in (List.mem_of_getElem? (i := 376) (by decide +kernel)) rfl⟩
theorem fg_RX11_75 : FG RX11 75 11 10 := ⟨_, _, _, _, cf_X11, by decide, tbg_in (List.mem_of_getElem? (i := 378) (by decide +kernel)) rfl⟩
theorem fg_RX11_82 : FG RX11 82 11 11 := ⟨_, _, _, _, cf_X11, by decide, tbg_in (List.mem_of_getElem? (i := 379) (by decide +kernel)) rfl⟩
theorem fg_RX11_96 : FG RX11 96 11 13 := ⟨_, _, _, _, cf_X11, by decide, tbg_in (List.mem_of_getElem? (i := 381) (by decide +kernel)) rfl⟩
theorem fg_RX11_126 : FG RX11 126 6 2 := ⟨_, _, _, _, cf_X6, by decide, tbg_in (List.mem_of_getElem? (i := 307) (by decide +kernel)) rfl⟩
theorem fg_RX11_130 : FG RX11 130 1 0 := ⟨_, _, _, _, cf_X1, by decide, tbg_in (List.mem_of_getElem? (i := 83) (by decide +kernel)) rfl⟩
theorem fg_RX11_131 : FG RX11 131 4 0 := ⟨_, _, _, _, cf_X4, by decide, tbg_in (List.mem_of_getElem? (i := 49) (by decide +kernel)) rfl⟩
theorem fg_RX11_153 : FG RX11 153 4 4 := ⟨_, _, _, _, cf_X4, by decide, tbg_in (List.mem_of_getElem? (i := 64) (by decide +kernel)) rfl⟩
theorem fg_RX11_156 : FG RX11 156 4 5 := ⟨_, _, _, _, cf_X4, by decide, tbg_in (List.mem_of_getElem? (i := 67) (by decide +kernel)) rfl⟩
theorem fg_RX11_169 : FG RX11 169 1 1 := ⟨_, _, _, _, cf_X1, by decide, tbg_in (List.mem_of_getElem? (i := 86) (by decide +kernel)) rfl⟩
theorem fg_RX11_170 : FG RX11 170 1 2 := ⟨_, _, _, _, cf_X1, by decide, tbg_in (List.mem_of_getElem? (i := 88) (by decide +kernel)) rfl⟩
theorem fg_RX11_173 : FG RX11 173 1 3 := ⟨_, _, _, _, cf_X1, by decide, tbg_in (List.mem_of_getElem? (i := 90) (by decide +kernel)) rfl⟩
theorem fg_RX11_183 : FG RX11 183 1 4 := ⟨_, _, _, _, cf_X1, by decide, tbg_in (List.mem_of_getElem? (i := 92) (by decide +kernel)) rfl⟩
theorem fg_RX11_186 : FG RX11 186 1 5 := ⟨_, _, _, _, cf_X1, by decide, tbg_in (List.mem_of_getElem? (i := 95) (by decide +kernel)) rfl⟩
theorem fg_RX11_189 : FG RX11 189 1 6 := ⟨_, _, _, _, cf_X1, by decide, tbg_in (List.mem_of_getElem? (i := 98) (by decide +kernel)) rfl⟩
theorem fg_RX11_191 : FG RX11 191 1 7 := ⟨_, _, _, _, cf_X1, by decide, tbg_in (List.mem_of_getElem? (i := 101) (by decide +kernel)) rfl⟩
theorem fg_RX11_197 : FG RX11 197 3 1 := ⟨_, _, _, _, cf_X3, by decide, tbg_in (List.mem_of_getElem? (i := 199) (by decide +kernel)) rfl⟩
theorem fg_RX11_200 : FG RX11 200 3 2 := ⟨_, _, _, _, cf_X3, by decide, tbg_in (List.mem_of_getElem? (i := 204) (by decide +kernel)) rfl⟩
theorem fg_RX11_216 : FG RX11 216 5 2 := ⟨_, _, _, _, cf_X5, by decide, tbg_in (List.mem_of_getElem? (i := 235) (by decide +kernel)) rfl⟩
theorem fg_RX11_248 : FG RX11 248 2 5 := ⟨_, _, _, _, cf_X2, by decide, tbg_in (List.mem_of_getElem? (i := 264) (by decide +kernel)) rfl⟩
theorem fg_RX11_258 : FG RX11 258 10 0 := ⟨_, _, _, _, cf_X10, by decide, tbg_in (List.mem_of_getElem? (i := 130) (by decide +kernel)) rfl⟩
theorem fg_RX11_284 : FG RX11 284 1 8 := ⟨_, _, _, _, cf_X1, by decide, tbg_in (List.mem_of_getElem? (i := 103) (by decide +kernel)) rfl⟩
theorem fg_RX11_293 : FG RX11 293 6 1 := ⟨_, _, _, _, cf_X6, by decide, tbg_in (List.mem_of_getElem? (i := 305) (by decide +kernel)) rfl⟩
theorem fg_RX11_353 : FG RX11 353 9 5 := ⟨_, _, _, _, cf_X9, by decide, tbg_in (List.mem_of_getElem? (i := 354) (by decide +kernel)) rfl⟩
theorem fg_RX11_359 : FG RX11 359 8 1 := ⟨_, _, _, _, cf_X8, by decide, tbg_in (List.mem_of_getElem? (i := 165) (by decide +kernel)) rfl⟩
theorem fg_RX2_11 : FG RX2 11 2 1 := ⟨_, _, _, _, cf_X2, by decide, tbg_in (List.mem_of_getElem? (i := 259) (by decide +kernel)) rfl⟩
theorem fg_RX2_15 : FG RX2 15 2 2 := ⟨_, _, _, _, cf_X2, by decide, tbg_in (List.mem_of_getElem? (i := 260) (by decide +kernel)) rfl⟩
theorem fg_RX2_18 : FG RX2 18 2 3 := ⟨_, _, _, _, cf_X2, by decide, tbg_in (List.mem_of_getElem? (i := 261) (by decide +kernel)) rfl⟩
theorem fg_RX2_21 : FG RX2 21 2 4 := ⟨_, _, _, _, cf_X2, by decide, tbg_in (List.mem_of_getElem? (i := 262) (by decide +kernel)) rfl⟩
theorem fg_RX2_24 : FG RX2 24 2 5 := ⟨_, _, _, _, cf_X2, by decide, tbg_in (List.mem_of_getElem? (i := 263) (by decide +kernel)) rfl⟩
theorem fg_RX2_27 : FG RX2 27 2 6 := ⟨_, _, _, _, cf_X2, by decide, tbg_in (List.mem_of_getElem? (i := 265) (by decide +kernel)) rfl⟩
theorem fg_RX2_31 : FG RX2 31 2 7 := ⟨_, _, _, _, cf_X2, by decide, tbg_in (List.mem_of_getElem? (i := 266) (by decide +kernel)) rfl⟩
theorem fg_RX2_35 : FG RX2 35 2 8 := ⟨_, _, _, _, cf_X2, by decide, tbg_in (List.mem_of_getElem? (i := 267) (by decide +kernel)) rfl⟩
theorem fg_RX2_38 : FG RX2 38 2 0 := ⟨_, _, _, _, cf_X2, by decide, tbg_in (List.mem_of_getElem? (i := 258) (by decide +kernel)) rfl⟩
theorem fg_RX2_46 : FG RX2 46 4 0 := ⟨_, _, _, _, cf_X4, by decide, tbg_in (List.mem_of_getElem? (i := 45) (by decide +kernel)) rfl⟩
theorem fg_RX2_51 : FG RX2 51 4 3 := ⟨_, _, _, _, cf_X4, by decide, tbg_in (List.mem_of_getElem? (i := 56) (by decide +kernel)) rfl⟩
theorem fg_RX2_74 : FG RX2 74 3 3 := ⟨_, _, _, _, cf_X3, by decide, tbg_in (List.mem_of_getElem? (i := 206) (by decide +kernel)) rfl⟩
theorem fg_RX2_81 : FG RX2 81 4 4 := ⟨_, _, _, _, cf_X4, by decide, tbg_in (List.mem_of_getElem? (i := 63) (by decide +kernel)) rfl⟩
theorem fg_RX2_84 : FG RX2 84 3 2 := ⟨_, _, _, _, cf_X3, by decide, tbg_in (List.mem_of_getElem? (i := 203) (by decide +kernel)) rfl⟩
theorem fg_RX2_91 : FG RX2 91 4 2 := ⟨_, _, _, _, cf_X4, by decide, tbg_in (List.mem_of_getElem? (i := 53) (by decide +kernel)) rfl⟩
theorem fg_RX3_11 : FG RX3 11 3 0 := ⟨_, _, _, _, cf_X3, by decide, tbg_in (List.mem_of_getElem? (i := 196) (by decide +kernel)) rfl⟩
theorem fg_RX3_15 : FG RX3 15 3 1 := ⟨_, _, _, _, cf_X3, by decide, tbg_in (List.mem_of_getElem? (i := 197) (by decide +kernel)) rfl⟩
theorem fg_RX3_25 : FG RX3 25 3 4 := ⟨_, _, _, _, cf_X3, by decide, tbg_in (List.mem_of_getElem? (i := 207) (by decide +kernel)) rfl⟩
theorem fg_RX3_28 : FG RX3 28 3 5 := ⟨_, _, _, _, cf_X3, by decide, tbg_in (List.mem_of_getElem? (i := 208) (by decide +kernel)) rfl⟩
theorem fg_RX3_31 : FG RX3 31 3 6 := ⟨_, _, _, _, cf_X3, by decide, tbg_in (List.mem_of_getElem? (i := 209) (by decide +kernel)) rfl⟩
theorem fg_RX3_34 : FG RX3 34 1 1 := ⟨_, _, _, _, cf_X1, by decide, tbg_in (List.mem_of_getElem? (i := 85) (by decide +kernel)) rfl⟩
theorem fg_RX3_39 : FG RX3 39 1 6 := ⟨_, _, _, _, cf_X1, by decide, tbg_in (List.mem_of_getElem? (i := 97) (by decide +kernel)) rfl⟩
theorem fg_RX3_40 : FG RX3 40 1 7 := ⟨_, _, _, _, cf_X1, by decide, tbg_in (List.mem_of_getElem? (i := 100) (by decide +kernel)) rfl⟩
theorem fg_RX3_41 : FG RX3 41 1 5 := ⟨_, _, _, _, cf_X1, by decide, tbg_in (List.mem_of_getElem? (i := 94) (by decide +kernel)) rfl⟩
theorem fg_RX3_48 : FG RX3 48 4 3 := ⟨_, _, _, _, cf_X4, by decide, tbg_in (List.mem_of_getElem? (i := 57) (by decide +kernel)) rfl⟩
theorem fg_RX3_52 : FG RX3 52 4 2 := ⟨_, _, _, _, cf_X4, by decide, tbg_in (List.mem_of_getElem? (i := 52) (by decide +kernel)) rfl⟩
theorem fg_RX3_64 : FG RX3 64 4 0 := ⟨_, _, _, _, cf_X4, by decide, tbg_in (List.mem_of_getElem? (i := 48) (by decide +kernel)) rfl⟩
theorem fg_RX4_9 : FG RX4 9 4 0 := ⟨_, _, _, _, cf_X4, by decide, tbg_in (List.mem_of_getElem? (i := 43) (by decide +kernel)) rfl⟩
theorem fg_RX4_15 : FG RX4 15 4 1 := ⟨_, _, _, _, cf_X4, by decide, tbg_in (List.mem_of_getElem? (i := 50) (by decide +kernel)) rfl⟩
theorem fg_RX4_19 : FG RX4 19 4 2 := ⟨_, _, _, _, cf_X4, by decide, tbg_in (List.mem_of_getElem? (i := 51) (by decide +kernel)) rfl⟩
theorem fg_RX4_22 : FG RX4 22 4 3 := ⟨_, _, _, _, cf_X4, by decide, tbg_in (List.mem_of_getElem? (i := 55) (by decide +kernel)) rfl⟩
theorem fg_RX4_25 : FG RX4 25 4 4 := ⟨_, _, _, _, cf_X4, by decide, tbg_in (List.mem_of_getElem? (i := 61) (by decide +kernel)) rfl⟩
theorem fg_RX4_28 : FG RX4 28 4 5 := ⟨_, _, _, _, cf_X4, by decide, tbg_in (List.mem_of_getElem? (i := 65) (by decide +kernel)) rfl⟩
theorem fg_RX5_9 : FG RX5 9 5 1 := ⟨_, _, _, _, cf_X5, by decide, tbg_in (List.mem_of_getElem? (i := 233) (by decide +kernel)) rfl⟩
theorem fg_RX5_15 : FG RX5 15 5 2 := ⟨_, _, _, _, cf_X5, by decide, tbg_in (List.mem_of_getElem? (i := 234) (by decide +kernel)) rfl⟩
theorem fg_RX5_18 : FG RX5 18 5 3 := ⟨_, _, _, _, cf_X5, by decide, tbg_in (List.mem_of_getElem? (i := 236) (by decide +kernel)) rfl⟩
theorem fg_RX5_22 : FG RX5 22 5 4 := ⟨_, _, _, _, cf_X5, by decide, tbg_in (List.mem_of_getElem? (i := 237) (by decide +kernel)) rfl⟩
theorem fg_RX5_26 : FG RX5 26 5 5 := ⟨_, _, _, _, cf_X5, by decide, tbg_in (List.mem_of_getElem? (i := 238) (by decide +kernel)) rfl⟩
theorem fg_RX5_29 : FG RX5 29 5 0 := ⟨_, _, _, _, cf_X5, by decide, tbg_in (List.mem_of_getElem? (i := 232) (by decide +kernel)) rfl⟩
theorem fg_RX5_33 : FG RX5 33 4 0 := ⟨_, _, _, _, cf_X4, by decide, tbg_in (List.mem_of_getElem? (i := 44) (by decide +kernel)) rfl⟩
theorem fg_RX5_38 : FG RX5 38 4 5 := ⟨_, _, _, _, cf_X4, by decide, tbg_in (List.mem_of_getElem? (i := 66) (by decide +kernel)) rfl⟩
theorem fg_RX5_73 : FG RX5 73 4 3 := ⟨_, _, _, _, cf_X4, by decide, tbg_in (List.mem_of_getElem? (i := 59) (by decide +kernel)) rfl⟩
theorem fg_RX5_76 : FG RX5 76 4 4 := ⟨_, _, _, _, cf_X4, by decide, tbg_in (List.mem_of_getElem? (i := 62) (by decide +kernel)) rfl⟩
theorem fg_RX5_79 : FG RX5 79 3 2 := ⟨_, _, _, _, cf_X3, by decide, tbg_in (List.mem_of_getElem? (i := 202) (by decide +kernel)) rfl⟩
theorem fg_RX6_11 : FG RX6 11 6 1 := ⟨_, _, _, _, cf_X6, by decide, tbg_in (List.mem_of_getElem? (i := 304) (by decide +kernel)) rfl⟩
theorem fg_RX6_15 : FG RX6 15 6 2 := ⟨_, _, _, _, cf_X6, by decide, tbg_in (List.mem_of_getElem? (i := 306) (by decide +kernel)) rfl⟩
theorem fg_RX6_19 : FG RX6 19 6 0 := ⟨_, _, _, _, cf_X6, by decide, tbg_in (List.mem_of_getElem? (i := 303) (by decide +kernel)) rfl⟩
theorem fg_RX6_33 : FG RX6 33 4 0 := ⟨_, _, _, _, cf_X4, by decide, tbg_in (List.mem_of_getElem? (i := 46) (by decide +kernel)) rfl⟩
theorem fg_RX6_36 : FG RX6 36 3 1 := ⟨_, _, _, _, cf_X3, by decide, tbg_in (List.mem_of_getElem? (i := 198) (by decide +kernel)) rfl⟩
theorem fg_RX6_39 : FG RX6 39 3 2 := ⟨_, _, _, _, cf_X3, by decide, tbg_in (List.mem_of_getElem? (i := 201) (by decide +kernel)) rfl⟩
theorem fg_RX6_54 : FG RX6 54 4 3 := ⟨_, _, _, _, cf_X4, by decide, tbg_in (List.mem_of_getElem? (i := 58) (by decide +kernel)) rfl⟩
theorem fp_RX1_31 : FPt RX1 31 1 5 .int := ⟨_, _, _, _, cf_X1, by decide, tbg_in (List.mem_of_getElem? (i := 93) (by decide +kernel)) rfl, rfl, by decide +kernel⟩
theorem fp_RX1_35 : FPt RX1 35 1 6 .int := ⟨_, _, _, _, cf_X1, by decide, tbg_in (List.mem_of_getElem? (i := 96) (by decide +kernel)) rfl, rfl, by decide +kernel⟩
theorem fp_RX1_38 : FPt RX1 38 1 7 .int := ⟨_, _, _, _, cf_X1, by decide, tbg_in (List.mem_of_getElem? (i := 99) (by decide +kernel)) rfl, rfl, by decide +kernel⟩
theorem fp_RX1_41 : FPt RX1 41 1 8 .int := ⟨_, _, _, _, cf_X1, by decide, tbg_in (List.mem_of_getElem? (i := 102) (by decide +kernel)) rfl, rfl, by decide +kernel⟩
theorem fp_RX10_9 : FPt RX10 9 10 0 .int := ⟨_, _, _, _, cf_X10, by decide, tbg_in (List.mem_of_getElem? (i := 129) (by decide +kernel)) rfl, rfl, by decide +kernel⟩
theorem fp_RX10_15 : FPt RX10 15 10 1 .int := ⟨_, _, _, _, cf_X10, by decide, tbg_in (List.mem_of_getElem? (i := 131) (by decide +kernel)) rfl, rfl, by decide +kernel⟩
theorem fp_RX11_29 : FPt RX11 29 11 4 .boolean := ⟨_, _, _, _, cf_X11, by decide, tbg_in (List.mem_of_getElem? (i := 372) (by decide +kernel)) rfl, rfl, by decide +kernel⟩
theorem fp_RX2_27 : FPt RX2 27 2 6 .boolean := ⟨_, _, _, _, cf_X2, by decide, tbg_in (List.mem_of_getElem? (i := 265) (by decide +kernel)) rfl, rfl, by decide +kernel⟩
theorem fp_RX2_31 : FPt RX2 31 2 7 .int := ⟨_, _, _, _, cf_X2, by decide, tbg_in (List.mem_of_getElem? (i := 266) (by decide +kernel)) rfl, rfl, by decide +kernel⟩
theorem fp_RX2_35 : FPt RX2 35 2 8 .int := ⟨_, _, _, _, cf_X2, by decide, tbg_in (List.mem_of_getElem? (i := 267) (by decide +kernel)) rfl, rfl, by decide +kernel⟩
theorem fp_RX3_18 : FPt RX3 18 3 2 .int := ⟨_, _, _, _, cf_X3, by decide, tbg_in (List.mem_of_getElem? (i := 200) (by decide +kernel)) rfl, rfl, by decide +kernel⟩
theorem fp_RX3_22 : FPt RX3 22 3 3 .int := ⟨_, _, _, _, cf_X3, by decide, tbg_in (List.mem_of_getElem? (i := 205) (by decide +kernel)) rfl, rfl, by decide +kernel⟩
theorem fp_RX3_25 : FPt RX3 25 3 4 .int := ⟨_, _, _, _, cf_X3, by decide, tbg_in (List.mem_of_getElem? (i := 207) (by decide +kernel)) rfl, rfl, by decide +kernel⟩
theorem fp_RX3_28 : FPt RX3 28 3 5 .int := ⟨_, _, _, _, cf_X3, by decide, tbg_in (List.mem_of_getElem? (i := 208) (by decide +kernel)) rfl, rfl, by decide +kernel⟩
theorem fp_RX3_31 : FPt RX3 31 3 6 .int := ⟨_, _, _, _, cf_X3, by decide, tbg_in (List.mem_of_getElem? (i := 209) (by decide +kernel)) rfl, rfl, by decide +kernel⟩
theorem fp_RX4_9 : FPt RX4 9 4 0 .int := ⟨_, _, _, _, cf_X4, by decide, tbg_in (List.mem_of_getElem? (i := 43) (by decide +kernel)) rfl, rfl, by decide +kernel⟩
theorem fp_RX5_18 : FPt RX5 18 5 3 .int := ⟨_, _, _, _, cf_X5, by decide, tbg_in (List.mem_of_getElem? (i := 236) (by decide +kernel)) rfl, rfl, by decide +kernel⟩
theorem fp_RX5_22 : FPt RX5 22 5 4 .int := ⟨_, _, _, _, cf_X5, by decide, tbg_in (List.mem_of_getElem? (i := 237) (by decide +kernel)) rfl, rfl, by decide +kernel⟩
theorem fp_RX5_26 : FPt RX5 26 5 5 .int := ⟨_, _, _, _, cf_X5, by decide, tbg_in (List.mem_of_getElem? (i := 238) (by decide +kernel)) rfl, rfl, by decide +kernel⟩
theorem fp_RX6_15 : FPt RX6 15 6 2 .int := ⟨_, _, _, _, cf_X6, by decide, tbg_in (List.mem_of_getElem? (i := 306) (by decide +kernel)) rfl, rfl, by decide +kernel⟩
theorem wcM_max : Cond.code Lib.Math.max.name Lib.Math.max.code 2 (some .int) ∈ TBG := tbg_in (List.mem_of_getElem? (i := 480) (by decide +kernel)) rfl
theorem wcM_min : Cond.code Lib.Math.min.name Lib.Math.min.code 2 (some .int) ∈ TBG := tbg_in (List.mem_of_getElem? (i := 495) (by decide +kernel)) rfl
theorem wf_RX11_163 : Cond.fieldLink RX11 163 "PressDays" "LAW_LEAST" "[I" ∈ TBG := tbg_in (List.mem_of_getElem? (i := 704) (by decide +kernel)) rfl
theorem wf_RX11_166 : Cond.fieldLink RX11 166 "PressDays" "LAW_MOST" "[I" ∈ TBG := tbg_in (List.mem_of_getElem? (i := 706) (by decide +kernel)) rfl
theorem win_math : Cond.initialized "java/lang/Math" ∈ TBG := tbg_in (List.mem_of_getElem? (i := 21) (by decide +kernel)) rfl
theorem win_sys : Cond.initialized "java/lang/System" ∈ TBG := tbg_in (List.mem_of_getElem? (i := 22) (by decide +kernel)) rfl
theorem wk_RX11_207 : Cond.constant RX11 207 (-2147483648) ∈ TBG := tbg_in (List.mem_of_getElem? (i := 513) (by decide +kernel)) rfl
theorem wk_RX5_25 : Cond.constant RX5 25 1000000 ∈ TBG := tbg_in (List.mem_of_getElem? (i := 231) (by decide +kernel)) rfl
theorem wl_RX1_44 : Cond.methodLink RX1 44 Lib.Math.max.name ∈ TBG := tbg_in (List.mem_of_getElem? (i := 478) (by decide +kernel)) rfl
theorem wl_RX1_88 : Cond.methodLink RX1 88 arraycopyName ∈ TBG := tbg_in (List.mem_of_getElem? (i := 679) (by decide +kernel)) rfl
theorem wl_RX2_62 : Cond.methodLink RX2 62 arraycopyName ∈ TBG := tbg_in (List.mem_of_getElem? (i := 607) (by decide +kernel)) rfl
theorem wl_RX3_55 : Cond.methodLink RX3 55 Lib.Math.min.name ∈ TBG := tbg_in (List.mem_of_getElem? (i := 493) (by decide +kernel)) rfl
theorem wl_RX3_61 : Cond.methodLink RX3 61 Lib.Math.max.name ∈ TBG := tbg_in (List.mem_of_getElem? (i := 496) (by decide +kernel)) rfl
theorem wl_RX5_53 : Cond.methodLink RX5 53 arraycopyName ∈ TBG := tbg_in (List.mem_of_getElem? (i := 527) (by decide +kernel)) rfl
theorem wna_copy : Cond.native arraycopyName ∈ TBG := tbg_in (List.mem_of_getElem? (i := 529) (by decide +kernel)) rfl
theorem wsM_max : Cond.static Lib.Math.max.name ∈ TBG := tbg_in (List.mem_of_getElem? (i := 479) (by decide +kernel)) rfl
theorem wsM_min : Cond.static Lib.Math.min.name ∈ TBG := tbg_in (List.mem_of_getElem? (i := 494) (by decide +kernel)) rfl
theorem wst_copy : Cond.static arraycopyName ∈ TBG := tbg_in (List.mem_of_getElem? (i := 528) (by decide +kernel)) rfl
theorem wc_yL_at : Cond.code yL_at cL_at 2 (some .int) ∈ TBG := tbg_in (List.mem_of_getElem? (i := 693) (by decide +kernel)) rfl
theorem ws_yL_at : Cond.static yL_at ∈ TBG := tbg_in (List.mem_of_getElem? (i := 692) (by decide +kernel)) rfl
theorem wc_yL_isOrder : Cond.code yL_isOrder cL_isOrder 4 (some .boolean) ∈ TBG := tbg_in (List.mem_of_getElem? (i := 696) (by decide +kernel)) rfl
theorem ws_yL_isOrder : Cond.static yL_isOrder ∈ TBG := tbg_in (List.mem_of_getElem? (i := 695) (by decide +kernel)) rfl
theorem wc_yL_lay : Cond.code yL_lay cL_lay 11 (some .int) ∈ TBG := tbg_in (List.mem_of_getElem? (i := 699) (by decide +kernel)) rfl
theorem ws_yL_lay : Cond.static yL_lay ∈ TBG := tbg_in (List.mem_of_getElem? (i := 698) (by decide +kernel)) rfl
theorem wc_yL_mod : Cond.code yL_mod cL_mod 3 (some .int) ∈ TBG := tbg_in (List.mem_of_getElem? (i := 690) (by decide +kernel)) rfl
theorem ws_yL_mod : Cond.static yL_mod ∈ TBG := tbg_in (List.mem_of_getElem? (i := 689) (by decide +kernel)) rfl
theorem wc_yX10_copy : Cond.code yX10_copy cX10_copy 3 none ∈ TBG := tbg_in (List.mem_of_getElem? (i := 683) (by decide +kernel)) rfl
theorem wi_yX10_copy : Cond.instanceMethod yX10_copy ∈ TBG := tbg_in (List.mem_of_getElem? (i := 681) (by decide +kernel)) rfl
theorem we_yX10_copy : Cond.selects RX10 yX10_copy yX10_copy ∈ TBG := tbg_in (List.mem_of_getElem? (i := 682) (by decide +kernel)) rfl
theorem wc_yX11_across : Cond.code yX11_across cX11_across 6 (some .int) ∈ TBG := tbg_in (List.mem_of_getElem? (i := 568) (by decide +kernel)) rfl
theorem wi_yX11_across : Cond.instanceMethod yX11_across ∈ TBG := tbg_in (List.mem_of_getElem? (i := 566) (by decide +kernel)) rfl
theorem we_yX11_across : Cond.selects RX11 yX11_across yX11_across ∈ TBG := tbg_in (List.mem_of_getElem? (i := 567) (by decide +kernel)) rfl
theorem wc_yX11_again : Cond.code yX11_again cX11_again 1 (some .int) ∈ TBG := tbg_in (List.mem_of_getElem? (i := 687) (by decide +kernel)) rfl
theorem wi_yX11_again : Cond.instanceMethod yX11_again ∈ TBG := tbg_in (List.mem_of_getElem? (i := 685) (by decide +kernel)) rfl
theorem we_yX11_again : Cond.selects RX11 yX11_again yX11_again ∈ TBG := tbg_in (List.mem_of_getElem? (i := 686) (by decide +kernel)) rfl
theorem wc_yX11_best : Cond.code yX11_best cX11_best 3 (some .int) ∈ TBG := tbg_in (List.mem_of_getElem? (i := 512) (by decide +kernel)) rfl
theorem wi_yX11_best : Cond.instanceMethod yX11_best ∈ TBG := tbg_in (List.mem_of_getElem? (i := 510) (by decide +kernel)) rfl
theorem we_yX11_best : Cond.selects RX11 yX11_best yX11_best ∈ TBG := tbg_in (List.mem_of_getElem? (i := 511) (by decide +kernel)) rfl
theorem wc_yX11_digitsOf : Cond.code yX11_digitsOf cX11_digitsOf 4 (some .int) ∈ TBG := tbg_in (List.mem_of_getElem? (i := 539) (by decide +kernel)) rfl
theorem ws_yX11_digitsOf : Cond.static yX11_digitsOf ∈ TBG := tbg_in (List.mem_of_getElem? (i := 538) (by decide +kernel)) rfl
theorem wc_yX11_drop : Cond.code yX11_drop cX11_drop 2 (some .int) ∈ TBG := tbg_in (List.mem_of_getElem? (i := 432) (by decide +kernel)) rfl
theorem wi_yX11_drop : Cond.instanceMethod yX11_drop ∈ TBG := tbg_in (List.mem_of_getElem? (i := 430) (by decide +kernel)) rfl
theorem we_yX11_drop : Cond.selects RX11 yX11_drop yX11_drop ∈ TBG := tbg_in (List.mem_of_getElem? (i := 431) (by decide +kernel)) rfl
theorem wc_yX11_ends : Cond.code yX11_ends cX11_ends 2 (some .int) ∈ TBG := tbg_in (List.mem_of_getElem? (i := 465) (by decide +kernel)) rfl
theorem wi_yX11_ends : Cond.instanceMethod yX11_ends ∈ TBG := tbg_in (List.mem_of_getElem? (i := 463) (by decide +kernel)) rfl
theorem we_yX11_ends : Cond.selects RX11 yX11_ends yX11_ends ∈ TBG := tbg_in (List.mem_of_getElem? (i := 464) (by decide +kernel)) rfl
theorem wc_yX11_fewest : Cond.code yX11_fewest cX11_fewest 1 (some .int) ∈ TBG := tbg_in (List.mem_of_getElem? (i := 543) (by decide +kernel)) rfl
theorem wi_yX11_fewest : Cond.instanceMethod yX11_fewest ∈ TBG := tbg_in (List.mem_of_getElem? (i := 541) (by decide +kernel)) rfl
theorem we_yX11_fewest : Cond.selects RX11 yX11_fewest yX11_fewest ∈ TBG := tbg_in (List.mem_of_getElem? (i := 542) (by decide +kernel)) rfl
theorem wc_yX11_followPlan : Cond.code yX11_followPlan cX11_followPlan 1 none ∈ TBG := tbg_in (List.mem_of_getElem? (i := 469) (by decide +kernel)) rfl
theorem wi_yX11_followPlan : Cond.instanceMethod yX11_followPlan ∈ TBG := tbg_in (List.mem_of_getElem? (i := 468) (by decide +kernel)) rfl
theorem we_yX11_followPlan : Cond.selects RX11 yX11_followPlan yX11_followPlan ∈ TBG := tbg_in (List.mem_of_getElem? (i := 0) (by decide +kernel)) rfl
theorem wc_yX11_gain : Cond.code yX11_gain cX11_gain 7 (some .int) ∈ TBG := tbg_in (List.mem_of_getElem? (i := 564) (by decide +kernel)) rfl
theorem wi_yX11_gain : Cond.instanceMethod yX11_gain ∈ TBG := tbg_in (List.mem_of_getElem? (i := 562) (by decide +kernel)) rfl
theorem we_yX11_gain : Cond.selects RX11 yX11_gain yX11_gain ∈ TBG := tbg_in (List.mem_of_getElem? (i := 563) (by decide +kernel)) rfl
theorem wc_yX11_goes : Cond.code yX11_goes cX11_goes 1 (some .int) ∈ TBG := tbg_in (List.mem_of_getElem? (i := 619) (by decide +kernel)) rfl
theorem wi_yX11_goes : Cond.instanceMethod yX11_goes ∈ TBG := tbg_in (List.mem_of_getElem? (i := 617) (by decide +kernel)) rfl
theorem we_yX11_goes : Cond.selects RX11 yX11_goes yX11_goes ∈ TBG := tbg_in (List.mem_of_getElem? (i := 618) (by decide +kernel)) rfl
theorem wc_yX11_isJob : Cond.code yX11_isJob cX11_isJob 5 (some .boolean) ∈ TBG := tbg_in (List.mem_of_getElem? (i := 417) (by decide +kernel)) rfl
theorem ws_yX11_isJob : Cond.static yX11_isJob ∈ TBG := tbg_in (List.mem_of_getElem? (i := 416) (by decide +kernel)) rfl
theorem wc_yX11_job : Cond.code yX11_job cX11_job 6 (some .int) ∈ TBG := tbg_in (List.mem_of_getElem? (i := 414) (by decide +kernel)) rfl
theorem wi_yX11_job : Cond.instanceMethod yX11_job ∈ TBG := tbg_in (List.mem_of_getElem? (i := 412) (by decide +kernel)) rfl
theorem we_yX11_job : Cond.selects RX11 yX11_job yX11_job ∈ TBG := tbg_in (List.mem_of_getElem? (i := 413) (by decide +kernel)) rfl
theorem wc_yX11_judge : Cond.code yX11_judge cX11_judge 1 (some .int) ∈ TBG := tbg_in (List.mem_of_getElem? (i := 658) (by decide +kernel)) rfl
theorem wi_yX11_judge : Cond.instanceMethod yX11_judge ∈ TBG := tbg_in (List.mem_of_getElem? (i := 656) (by decide +kernel)) rfl
theorem we_yX11_judge : Cond.selects RX11 yX11_judge yX11_judge ∈ TBG := tbg_in (List.mem_of_getElem? (i := 657) (by decide +kernel)) rfl
theorem wc_yX11_keep : Cond.code yX11_keep cX11_keep 1 (some .int) ∈ TBG := tbg_in (List.mem_of_getElem? (i := 673) (by decide +kernel)) rfl
theorem wi_yX11_keep : Cond.instanceMethod yX11_keep ∈ TBG := tbg_in (List.mem_of_getElem? (i := 671) (by decide +kernel)) rfl
theorem we_yX11_keep : Cond.selects RX11 yX11_keep yX11_keep ∈ TBG := tbg_in (List.mem_of_getElem? (i := 672) (by decide +kernel)) rfl
theorem wc_yX11_late : Cond.code yX11_late cX11_late 3 (some .int) ∈ TBG := tbg_in (List.mem_of_getElem? (i := 500) (by decide +kernel)) rfl
theorem wi_yX11_late : Cond.instanceMethod yX11_late ∈ TBG := tbg_in (List.mem_of_getElem? (i := 498) (by decide +kernel)) rfl
theorem we_yX11_late : Cond.selects RX11 yX11_late yX11_late ∈ TBG := tbg_in (List.mem_of_getElem? (i := 499) (by decide +kernel)) rfl
theorem wc_yX11_lose : Cond.code yX11_lose cX11_lose 4 (some .int) ∈ TBG := tbg_in (List.mem_of_getElem? (i := 711) (by decide +kernel)) rfl
theorem wi_yX11_lose : Cond.instanceMethod yX11_lose ∈ TBG := tbg_in (List.mem_of_getElem? (i := 709) (by decide +kernel)) rfl
theorem we_yX11_lose : Cond.selects RX11 yX11_lose yX11_lose ∈ TBG := tbg_in (List.mem_of_getElem? (i := 710) (by decide +kernel)) rfl
theorem wc_yX11_many : Cond.code yX11_many cX11_many 2 (some .int) ∈ TBG := tbg_in (List.mem_of_getElem? (i := 669) (by decide +kernel)) rfl
theorem wi_yX11_many : Cond.instanceMethod yX11_many ∈ TBG := tbg_in (List.mem_of_getElem? (i := 667) (by decide +kernel)) rfl
theorem we_yX11_many : Cond.selects RX11 yX11_many yX11_many ∈ TBG := tbg_in (List.mem_of_getElem? (i := 668) (by decide +kernel)) rfl
theorem wc_yX11_mean : Cond.code yX11_mean cX11_mean 2 (some .int) ∈ TBG := tbg_in (List.mem_of_getElem? (i := 611) (by decide +kernel)) rfl
theorem wi_yX11_mean : Cond.instanceMethod yX11_mean ∈ TBG := tbg_in (List.mem_of_getElem? (i := 609) (by decide +kernel)) rfl
theorem we_yX11_mean : Cond.selects RX11 yX11_mean yX11_mean ∈ TBG := tbg_in (List.mem_of_getElem? (i := 610) (by decide +kernel)) rfl
theorem wc_yX11_night : Cond.code yX11_night cX11_night 4 (some .int) ∈ TBG := tbg_in (List.mem_of_getElem? (i := 449) (by decide +kernel)) rfl
theorem wi_yX11_night : Cond.instanceMethod yX11_night ∈ TBG := tbg_in (List.mem_of_getElem? (i := 447) (by decide +kernel)) rfl
theorem we_yX11_night : Cond.selects RX11 yX11_night yX11_night ∈ TBG := tbg_in (List.mem_of_getElem? (i := 448) (by decide +kernel)) rfl
theorem wc_yX11_nights : Cond.code yX11_nights cX11_nights 2 (some .int) ∈ TBG := tbg_in (List.mem_of_getElem? (i := 572) (by decide +kernel)) rfl
theorem wi_yX11_nights : Cond.instanceMethod yX11_nights ∈ TBG := tbg_in (List.mem_of_getElem? (i := 570) (by decide +kernel)) rfl
theorem we_yX11_nights : Cond.selects RX11 yX11_nights yX11_nights ∈ TBG := tbg_in (List.mem_of_getElem? (i := 571) (by decide +kernel)) rfl
theorem wc_yX11_partOf : Cond.code yX11_partOf cX11_partOf 5 (some .int) ∈ TBG := tbg_in (List.mem_of_getElem? (i := 594) (by decide +kernel)) rfl
theorem ws_yX11_partOf : Cond.static yX11_partOf ∈ TBG := tbg_in (List.mem_of_getElem? (i := 593) (by decide +kernel)) rfl
theorem wc_yX11_plan : Cond.code yX11_plan cX11_plan 2 (some .int) ∈ TBG := tbg_in (List.mem_of_getElem? (i := 453) (by decide +kernel)) rfl
theorem wi_yX11_plan : Cond.instanceMethod yX11_plan ∈ TBG := tbg_in (List.mem_of_getElem? (i := 451) (by decide +kernel)) rfl
theorem we_yX11_plan : Cond.selects RX11 yX11_plan yX11_plan ∈ TBG := tbg_in (List.mem_of_getElem? (i := 452) (by decide +kernel)) rfl
theorem wc_yX11_press : Cond.code yX11_press cX11_press 2 (some .int) ∈ TBG := tbg_in (List.mem_of_getElem? (i := 461) (by decide +kernel)) rfl
theorem wi_yX11_press : Cond.instanceMethod yX11_press ∈ TBG := tbg_in (List.mem_of_getElem? (i := 459) (by decide +kernel)) rfl
theorem we_yX11_press : Cond.selects RX11 yX11_press yX11_press ∈ TBG := tbg_in (List.mem_of_getElem? (i := 460) (by decide +kernel)) rfl
theorem wc_yX11_prove : Cond.code yX11_prove cX11_prove 1 (some .int) ∈ TBG := tbg_in (List.mem_of_getElem? (i := 639) (by decide +kernel)) rfl
theorem wi_yX11_prove : Cond.instanceMethod yX11_prove ∈ TBG := tbg_in (List.mem_of_getElem? (i := 637) (by decide +kernel)) rfl
theorem we_yX11_prove : Cond.selects RX11 yX11_prove yX11_prove ∈ TBG := tbg_in (List.mem_of_getElem? (i := 638) (by decide +kernel)) rfl
theorem wc_yX11_row : Cond.code yX11_row cX11_row 3 (some .int) ∈ TBG := tbg_in (List.mem_of_getElem? (i := 649) (by decide +kernel)) rfl
theorem wi_yX11_row : Cond.instanceMethod yX11_row ∈ TBG := tbg_in (List.mem_of_getElem? (i := 647) (by decide +kernel)) rfl
theorem we_yX11_row : Cond.selects RX11 yX11_row yX11_row ∈ TBG := tbg_in (List.mem_of_getElem? (i := 648) (by decide +kernel)) rfl
theorem wc_yX11_safest : Cond.code yX11_safest cX11_safest 3 (some .int) ∈ TBG := tbg_in (List.mem_of_getElem? (i := 598) (by decide +kernel)) rfl
theorem wi_yX11_safest : Cond.instanceMethod yX11_safest ∈ TBG := tbg_in (List.mem_of_getElem? (i := 596) (by decide +kernel)) rfl
theorem we_yX11_safest : Cond.selects RX11 yX11_safest yX11_safest ∈ TBG := tbg_in (List.mem_of_getElem? (i := 597) (by decide +kernel)) rfl
theorem wc_yX11_set : Cond.code yX11_set cX11_set 4 (some .int) ∈ TBG := tbg_in (List.mem_of_getElem? (i := 703) (by decide +kernel)) rfl
theorem wi_yX11_set : Cond.instanceMethod yX11_set ∈ TBG := tbg_in (List.mem_of_getElem? (i := 701) (by decide +kernel)) rfl
theorem we_yX11_set : Cond.selects RX11 yX11_set yX11_set ∈ TBG := tbg_in (List.mem_of_getElem? (i := 702) (by decide +kernel)) rfl
theorem wc_yX11_soonest : Cond.code yX11_soonest cX11_soonest 5 (some .int) ∈ TBG := tbg_in (List.mem_of_getElem? (i := 551) (by decide +kernel)) rfl
theorem wi_yX11_soonest : Cond.instanceMethod yX11_soonest ∈ TBG := tbg_in (List.mem_of_getElem? (i := 549) (by decide +kernel)) rfl
theorem we_yX11_soonest : Cond.selects RX11 yX11_soonest yX11_soonest ∈ TBG := tbg_in (List.mem_of_getElem? (i := 550) (by decide +kernel)) rfl
theorem wc_yX11_sure : Cond.code yX11_sure cX11_sure 2 (some .int) ∈ TBG := tbg_in (List.mem_of_getElem? (i := 576) (by decide +kernel)) rfl
theorem wi_yX11_sure : Cond.instanceMethod yX11_sure ∈ TBG := tbg_in (List.mem_of_getElem? (i := 574) (by decide +kernel)) rfl
theorem we_yX11_sure : Cond.selects RX11 yX11_sure yX11_sure ∈ TBG := tbg_in (List.mem_of_getElem? (i := 575) (by decide +kernel)) rfl
theorem wc_yX11_till : Cond.code yX11_till cX11_till 1 (some .int) ∈ TBG := tbg_in (List.mem_of_getElem? (i := 635) (by decide +kernel)) rfl
theorem wi_yX11_till : Cond.instanceMethod yX11_till ∈ TBG := tbg_in (List.mem_of_getElem? (i := 633) (by decide +kernel)) rfl
theorem we_yX11_till : Cond.selects RX11 yX11_till yX11_till ∈ TBG := tbg_in (List.mem_of_getElem? (i := 634) (by decide +kernel)) rfl
theorem wc_yX11_within : Cond.code yX11_within cX11_within 3 (some .boolean) ∈ TBG := tbg_in (List.mem_of_getElem? (i := 420) (by decide +kernel)) rfl
theorem ws_yX11_within : Cond.static yX11_within ∈ TBG := tbg_in (List.mem_of_getElem? (i := 419) (by decide +kernel)) rfl
theorem wc_yX11_worth : Cond.code yX11_worth cX11_worth 3 (some .int) ∈ TBG := tbg_in (List.mem_of_getElem? (i := 504) (by decide +kernel)) rfl
theorem wi_yX11_worth : Cond.instanceMethod yX11_worth ∈ TBG := tbg_in (List.mem_of_getElem? (i := 502) (by decide +kernel)) rfl
theorem we_yX11_worth : Cond.selects RX11 yX11_worth yX11_worth ∈ TBG := tbg_in (List.mem_of_getElem? (i := 503) (by decide +kernel)) rfl
theorem wc_yX1_arrange : Cond.code yX1_arrange cX1_arrange 4 (some .boolean) ∈ TBG := tbg_in (List.mem_of_getElem? (i := 457) (by decide +kernel)) rfl
theorem wi_yX1_arrange : Cond.instanceMethod yX1_arrange ∈ TBG := tbg_in (List.mem_of_getElem? (i := 455) (by decide +kernel)) rfl
theorem we_yX1_arrange : Cond.selects RX1 yX1_arrange yX1_arrange ∈ TBG := tbg_in (List.mem_of_getElem? (i := 456) (by decide +kernel)) rfl
theorem wc_yX1_come : Cond.code yX1_come cX1_come 6 (some .int) ∈ TBG := tbg_in (List.mem_of_getElem? (i := 424) (by decide +kernel)) rfl
theorem wi_yX1_come : Cond.instanceMethod yX1_come ∈ TBG := tbg_in (List.mem_of_getElem? (i := 422) (by decide +kernel)) rfl
theorem we_yX1_come : Cond.selects RX1 yX1_come yX1_come ∈ TBG := tbg_in (List.mem_of_getElem? (i := 423) (by decide +kernel)) rfl
theorem wc_yX1_copy : Cond.code yX1_copy cX1_copy 2 none ∈ TBG := tbg_in (List.mem_of_getElem? (i := 677) (by decide +kernel)) rfl
theorem wi_yX1_copy : Cond.instanceMethod yX1_copy ∈ TBG := tbg_in (List.mem_of_getElem? (i := 675) (by decide +kernel)) rfl
theorem we_yX1_copy : Cond.selects RX1 yX1_copy yX1_copy ∈ TBG := tbg_in (List.mem_of_getElem? (i := 676) (by decide +kernel)) rfl
theorem wc_yX1_leave : Cond.code yX1_leave cX1_leave 5 none ∈ TBG := tbg_in (List.mem_of_getElem? (i := 440) (by decide +kernel)) rfl
theorem wi_yX1_leave : Cond.instanceMethod yX1_leave ∈ TBG := tbg_in (List.mem_of_getElem? (i := 438) (by decide +kernel)) rfl
theorem we_yX1_leave : Cond.selects RX1 yX1_leave yX1_leave ∈ TBG := tbg_in (List.mem_of_getElem? (i := 439) (by decide +kernel)) rfl
theorem wc_yX1_slotsOn : Cond.code yX1_slotsOn cX1_slotsOn 2 (some .int) ∈ TBG := tbg_in (List.mem_of_getElem? (i := 477) (by decide +kernel)) rfl
theorem wi_yX1_slotsOn : Cond.instanceMethod yX1_slotsOn ∈ TBG := tbg_in (List.mem_of_getElem? (i := 475) (by decide +kernel)) rfl
theorem we_yX1_slotsOn : Cond.selects RX1 yX1_slotsOn yX1_slotsOn ∈ TBG := tbg_in (List.mem_of_getElem? (i := 476) (by decide +kernel)) rfl
theorem wc_yX1_workDay : Cond.code yX1_workDay cX1_workDay 4 (some .int) ∈ TBG := tbg_in (List.mem_of_getElem? (i := 623) (by decide +kernel)) rfl
theorem wi_yX1_workDay : Cond.instanceMethod yX1_workDay ∈ TBG := tbg_in (List.mem_of_getElem? (i := 621) (by decide +kernel)) rfl
theorem we_yX1_workDay : Cond.selects RX1 yX1_workDay yX1_workDay ∈ TBG := tbg_in (List.mem_of_getElem? (i := 622) (by decide +kernel)) rfl
theorem wc_yX1_workSlot : Cond.code yX1_workSlot cX1_workSlot 2 (some .boolean) ∈ TBG := tbg_in (List.mem_of_getElem? (i := 628) (by decide +kernel)) rfl
theorem wi_yX1_workSlot : Cond.instanceMethod yX1_workSlot ∈ TBG := tbg_in (List.mem_of_getElem? (i := 627) (by decide +kernel)) rfl
theorem we_yX1_workSlot : Cond.selects RX1 yX1_workSlot yX1_workSlot ∈ TBG := tbg_in (List.mem_of_getElem? (i := 7) (by decide +kernel)) rfl
theorem wc_yX2_begin : Cond.code yX2_begin cX2_begin 2 none ∈ TBG := tbg_in (List.mem_of_getElem? (i := 584) (by decide +kernel)) rfl
theorem wi_yX2_begin : Cond.instanceMethod yX2_begin ∈ TBG := tbg_in (List.mem_of_getElem? (i := 583) (by decide +kernel)) rfl
theorem we_yX2_begin : Cond.selects RX2 yX2_begin yX2_begin ∈ TBG := tbg_in (List.mem_of_getElem? (i := 4) (by decide +kernel)) rfl
theorem wc_yX2_meanOf : Cond.code yX2_meanOf cX2_meanOf 5 (some .int) ∈ TBG := tbg_in (List.mem_of_getElem? (i := 615) (by decide +kernel)) rfl
theorem wi_yX2_meanOf : Cond.instanceMethod yX2_meanOf ∈ TBG := tbg_in (List.mem_of_getElem? (i := 613) (by decide +kernel)) rfl
theorem we_yX2_meanOf : Cond.selects RX2 yX2_meanOf yX2_meanOf ∈ TBG := tbg_in (List.mem_of_getElem? (i := 614) (by decide +kernel)) rfl
theorem wc_yX2_spread : Cond.code yX2_spread cX2_spread 14 (some .int) ∈ TBG := tbg_in (List.mem_of_getElem? (i := 588) (by decide +kernel)) rfl
theorem wi_yX2_spread : Cond.instanceMethod yX2_spread ∈ TBG := tbg_in (List.mem_of_getElem? (i := 587) (by decide +kernel)) rfl
theorem we_yX2_spread : Cond.selects RX2 yX2_spread yX2_spread ∈ TBG := tbg_in (List.mem_of_getElem? (i := 5) (by decide +kernel)) rfl
theorem wc_yX2_sureOf : Cond.code yX2_sureOf cX2_sureOf 5 (some .int) ∈ TBG := tbg_in (List.mem_of_getElem? (i := 580) (by decide +kernel)) rfl
theorem wi_yX2_sureOf : Cond.instanceMethod yX2_sureOf ∈ TBG := tbg_in (List.mem_of_getElem? (i := 578) (by decide +kernel)) rfl
theorem we_yX2_sureOf : Cond.selects RX2 yX2_sureOf yX2_sureOf ∈ TBG := tbg_in (List.mem_of_getElem? (i := 579) (by decide +kernel)) rfl
theorem wc_yX2_surest : Cond.code yX2_surest cX2_surest 2 (some .int) ∈ TBG := tbg_in (List.mem_of_getElem? (i := 602) (by decide +kernel)) rfl
theorem wi_yX2_surest : Cond.instanceMethod yX2_surest ∈ TBG := tbg_in (List.mem_of_getElem? (i := 600) (by decide +kernel)) rfl
theorem we_yX2_surest : Cond.selects RX2 yX2_surest yX2_surest ∈ TBG := tbg_in (List.mem_of_getElem? (i := 601) (by decide +kernel)) rfl
theorem wc_yX2_walk : Cond.code yX2_walk cX2_walk 7 none ∈ TBG := tbg_in (List.mem_of_getElem? (i := 606) (by decide +kernel)) rfl
theorem wi_yX2_walk : Cond.instanceMethod yX2_walk ∈ TBG := tbg_in (List.mem_of_getElem? (i := 605) (by decide +kernel)) rfl
theorem we_yX2_walk : Cond.selects RX2 yX2_walk yX2_walk ∈ TBG := tbg_in (List.mem_of_getElem? (i := 6) (by decide +kernel)) rfl
theorem wc_yX3_dayAt : Cond.code yX3_dayAt cX3_dayAt 2 (some .int) ∈ TBG := tbg_in (List.mem_of_getElem? (i := 492) (by decide +kernel)) rfl
theorem wi_yX3_dayAt : Cond.instanceMethod yX3_dayAt ∈ TBG := tbg_in (List.mem_of_getElem? (i := 490) (by decide +kernel)) rfl
theorem we_yX3_dayAt : Cond.selects RX3 yX3_dayAt yX3_dayAt ∈ TBG := tbg_in (List.mem_of_getElem? (i := 491) (by decide +kernel)) rfl
theorem wc_yX3_follow : Cond.code yX3_follow cX3_follow 7 none ∈ TBG := tbg_in (List.mem_of_getElem? (i := 484) (by decide +kernel)) rfl
theorem wi_yX3_follow : Cond.instanceMethod yX3_follow ∈ TBG := tbg_in (List.mem_of_getElem? (i := 482) (by decide +kernel)) rfl
theorem we_yX3_follow : Cond.selects RX3 yX3_follow yX3_follow ∈ TBG := tbg_in (List.mem_of_getElem? (i := 483) (by decide +kernel)) rfl
theorem wc_yX3_measure : Cond.code yX3_measure cX3_measure 7 none ∈ TBG := tbg_in (List.mem_of_getElem? (i := 473) (by decide +kernel)) rfl
theorem wi_yX3_measure : Cond.instanceMethod yX3_measure ∈ TBG := tbg_in (List.mem_of_getElem? (i := 471) (by decide +kernel)) rfl
theorem we_yX3_measure : Cond.selects RX3 yX3_measure yX3_measure ∈ TBG := tbg_in (List.mem_of_getElem? (i := 472) (by decide +kernel)) rfl
theorem wc_yX3_usedBehind : Cond.code yX3_usedBehind cX3_usedBehind 7 (some .int) ∈ TBG := tbg_in (List.mem_of_getElem? (i := 488) (by decide +kernel)) rfl
theorem wi_yX3_usedBehind : Cond.instanceMethod yX3_usedBehind ∈ TBG := tbg_in (List.mem_of_getElem? (i := 486) (by decide +kernel)) rfl
theorem we_yX3_usedBehind : Cond.selects RX3 yX3_usedBehind yX3_usedBehind ∈ TBG := tbg_in (List.mem_of_getElem? (i := 487) (by decide +kernel)) rfl
theorem wc_yX4_add : Cond.code yX4_add cX4_add 6 none ∈ TBG := tbg_in (List.mem_of_getElem? (i := 428) (by decide +kernel)) rfl
theorem wi_yX4_add : Cond.instanceMethod yX4_add ∈ TBG := tbg_in (List.mem_of_getElem? (i := 426) (by decide +kernel)) rfl
theorem we_yX4_add : Cond.selects RX4 yX4_add yX4_add ∈ TBG := tbg_in (List.mem_of_getElem? (i := 427) (by decide +kernel)) rfl
theorem wc_yX4_copy : Cond.code yX4_copy cX4_copy 3 none ∈ TBG := tbg_in (List.mem_of_getElem? (i := 555) (by decide +kernel)) rfl
theorem wi_yX4_copy : Cond.instanceMethod yX4_copy ∈ TBG := tbg_in (List.mem_of_getElem? (i := 553) (by decide +kernel)) rfl
theorem we_yX4_copy : Cond.selects RX4 yX4_copy yX4_copy ∈ TBG := tbg_in (List.mem_of_getElem? (i := 554) (by decide +kernel)) rfl
theorem wc_yX4_has : Cond.code yX4_has cX4_has 2 (some .boolean) ∈ TBG := tbg_in (List.mem_of_getElem? (i := 436) (by decide +kernel)) rfl
theorem wi_yX4_has : Cond.instanceMethod yX4_has ∈ TBG := tbg_in (List.mem_of_getElem? (i := 434) (by decide +kernel)) rfl
theorem we_yX4_has : Cond.selects RX4 yX4_has yX4_has ∈ TBG := tbg_in (List.mem_of_getElem? (i := 435) (by decide +kernel)) rfl
theorem wc_yX4_remove : Cond.code yX4_remove cX4_remove 3 none ∈ TBG := tbg_in (List.mem_of_getElem? (i := 444) (by decide +kernel)) rfl
theorem wi_yX4_remove : Cond.instanceMethod yX4_remove ∈ TBG := tbg_in (List.mem_of_getElem? (i := 442) (by decide +kernel)) rfl
theorem we_yX4_remove : Cond.selects RX4 yX4_remove yX4_remove ∈ TBG := tbg_in (List.mem_of_getElem? (i := 443) (by decide +kernel)) rfl
theorem wc_yX4_valueOf : Cond.code yX4_valueOf cX4_valueOf 4 (some .int) ∈ TBG := tbg_in (List.mem_of_getElem? (i := 508) (by decide +kernel)) rfl
theorem wi_yX4_valueOf : Cond.instanceMethod yX4_valueOf ∈ TBG := tbg_in (List.mem_of_getElem? (i := 506) (by decide +kernel)) rfl
theorem we_yX4_valueOf : Cond.selects RX4 yX4_valueOf yX4_valueOf ∈ TBG := tbg_in (List.mem_of_getElem? (i := 507) (by decide +kernel)) rfl
theorem wc_yX5_fewestLate : Cond.code yX5_fewestLate cX5_fewestLate 2 (some .int) ∈ TBG := tbg_in (List.mem_of_getElem? (i := 547) (by decide +kernel)) rfl
theorem wi_yX5_fewestLate : Cond.instanceMethod yX5_fewestLate ∈ TBG := tbg_in (List.mem_of_getElem? (i := 545) (by decide +kernel)) rfl
theorem we_yX5_fewestLate : Cond.selects RX5 yX5_fewestLate yX5_fewestLate ∈ TBG := tbg_in (List.mem_of_getElem? (i := 546) (by decide +kernel)) rfl
theorem wc_yX5_leastLost : Cond.code yX5_leastLost cX5_leastLost 5 (some .int) ∈ TBG := tbg_in (List.mem_of_getElem? (i := 521) (by decide +kernel)) rfl
theorem wi_yX5_leastLost : Cond.instanceMethod yX5_leastLost ∈ TBG := tbg_in (List.mem_of_getElem? (i := 520) (by decide +kernel)) rfl
theorem we_yX5_leastLost : Cond.selects RX5 yX5_leastLost yX5_leastLost ∈ TBG := tbg_in (List.mem_of_getElem? (i := 1) (by decide +kernel)) rfl
theorem wc_yX5_lossOf : Cond.code yX5_lossOf cX5_lossOf 5 (some .int) ∈ TBG := tbg_in (List.mem_of_getElem? (i := 535) (by decide +kernel)) rfl
theorem wi_yX5_lossOf : Cond.instanceMethod yX5_lossOf ∈ TBG := tbg_in (List.mem_of_getElem? (i := 534) (by decide +kernel)) rfl
theorem we_yX5_lossOf : Cond.selects RX5 yX5_lossOf yX5_lossOf ∈ TBG := tbg_in (List.mem_of_getElem? (i := 3) (by decide +kernel)) rfl
theorem wc_yX5_mostWorth : Cond.code yX5_mostWorth cX5_mostWorth 5 (some .int) ∈ TBG := tbg_in (List.mem_of_getElem? (i := 517) (by decide +kernel)) rfl
theorem wi_yX5_mostWorth : Cond.instanceMethod yX5_mostWorth ∈ TBG := tbg_in (List.mem_of_getElem? (i := 515) (by decide +kernel)) rfl
theorem we_yX5_mostWorth : Cond.selects RX5 yX5_mostWorth yX5_mostWorth ∈ TBG := tbg_in (List.mem_of_getElem? (i := 516) (by decide +kernel)) rfl
theorem wc_yX5_soonestEnd : Cond.code yX5_soonestEnd cX5_soonestEnd 2 (some .int) ∈ TBG := tbg_in (List.mem_of_getElem? (i := 560) (by decide +kernel)) rfl
theorem wi_yX5_soonestEnd : Cond.instanceMethod yX5_soonestEnd ∈ TBG := tbg_in (List.mem_of_getElem? (i := 558) (by decide +kernel)) rfl
theorem we_yX5_soonestEnd : Cond.selects RX5 yX5_soonestEnd yX5_soonestEnd ∈ TBG := tbg_in (List.mem_of_getElem? (i := 559) (by decide +kernel)) rfl
theorem wc_yX5_walk : Cond.code yX5_walk cX5_walk 10 none ∈ TBG := tbg_in (List.mem_of_getElem? (i := 526) (by decide +kernel)) rfl
theorem wi_yX5_walk : Cond.instanceMethod yX5_walk ∈ TBG := tbg_in (List.mem_of_getElem? (i := 525) (by decide +kernel)) rfl
theorem we_yX5_walk : Cond.selects RX5 yX5_walk yX5_walk ∈ TBG := tbg_in (List.mem_of_getElem? (i := 2) (by decide +kernel)) rfl
theorem wc_yX6_fill : Cond.code yX6_fill cX6_fill 5 none ∈ TBG := tbg_in (List.mem_of_getElem? (i := 643) (by decide +kernel)) rfl
theorem wi_yX6_fill : Cond.instanceMethod yX6_fill ∈ TBG := tbg_in (List.mem_of_getElem? (i := 641) (by decide +kernel)) rfl
theorem we_yX6_fill : Cond.selects RX6 yX6_fill yX6_fill ∈ TBG := tbg_in (List.mem_of_getElem? (i := 642) (by decide +kernel)) rfl
theorem wc_yX6_firstWrong : Cond.code yX6_firstWrong cX6_firstWrong 8 (some .int) ∈ TBG := tbg_in (List.mem_of_getElem? (i := 662) (by decide +kernel)) rfl
theorem wi_yX6_firstWrong : Cond.instanceMethod yX6_firstWrong ∈ TBG := tbg_in (List.mem_of_getElem? (i := 660) (by decide +kernel)) rfl
theorem we_yX6_firstWrong : Cond.selects RX6 yX6_firstWrong yX6_firstWrong ∈ TBG := tbg_in (List.mem_of_getElem? (i := 661) (by decide +kernel)) rfl
theorem wc_yX6_has : Cond.code yX6_has cX6_has 3 (some .boolean) ∈ TBG := tbg_in (List.mem_of_getElem? (i := 653) (by decide +kernel)) rfl
theorem wi_yX6_has : Cond.instanceMethod yX6_has ∈ TBG := tbg_in (List.mem_of_getElem? (i := 651) (by decide +kernel)) rfl
theorem we_yX6_has : Cond.selects RX6 yX6_has yX6_has ∈ TBG := tbg_in (List.mem_of_getElem? (i := 652) (by decide +kernel)) rfl
theorem wini_RL : Cond.initialized RL ∈ TBG := tbg_in (List.mem_of_getElem? (i := 8) (by decide +kernel)) rfl
theorem wini_RX1 : Cond.initialized RX1 ∈ TBG := tbg_in (List.mem_of_getElem? (i := 10) (by decide +kernel)) rfl
theorem wini_RX10 : Cond.initialized RX10 ∈ TBG := tbg_in (List.mem_of_getElem? (i := 12) (by decide +kernel)) rfl
theorem wini_RX11 : Cond.initialized RX11 ∈ TBG := tbg_in (List.mem_of_getElem? (i := 9) (by decide +kernel)) rfl
theorem wini_RX2 : Cond.initialized RX2 ∈ TBG := tbg_in (List.mem_of_getElem? (i := 16) (by decide +kernel)) rfl
theorem wini_RX3 : Cond.initialized RX3 ∈ TBG := tbg_in (List.mem_of_getElem? (i := 14) (by decide +kernel)) rfl
theorem wini_RX4 : Cond.initialized RX4 ∈ TBG := tbg_in (List.mem_of_getElem? (i := 11) (by decide +kernel)) rfl
theorem wini_RX5 : Cond.initialized RX5 ∈ TBG := tbg_in (List.mem_of_getElem? (i := 15) (by decide +kernel)) rfl
theorem wini_RX6 : Cond.initialized RX6 ∈ TBG := tbg_in (List.mem_of_getElem? (i := 18) (by decide +kernel)) rfl
theorem cv_RL_25 : CVt RL 25 RX11 yX11_set cX11_set 4 (some .int) 2 := CVt.of (tbg_in (List.mem_of_getElem? (i := 700) (by decide +kernel)) rfl) wi_yX11_set we_yX11_set wini_RX11 wc_yX11_set ⟨rfl, by decide, by decide, by decide +kernel⟩ rfl
theorem cv_RL_30 : CVt RL 30 RX11 yX11_lose cX11_lose 4 (some .int) 2 := CVt.of (tbg_in (List.mem_of_getElem? (i := 708) (by decide +kernel)) rfl) wi_yX11_lose we_yX11_lose wini_RX11 wc_yX11_lose ⟨rfl, by decide, by decide, by decide +kernel⟩ rfl
theorem cv_RL_33 : CVt RL 33 RX11 yX11_night cX11_night 4 (some .int) 2 := CVt.of (tbg_in (List.mem_of_getElem? (i := 446) (by decide +kernel)) rfl) wi_yX11_night we_yX11_night wini_RX11 wc_yX11_night ⟨rfl, by decide, by decide, by decide +kernel⟩ rfl
theorem cv_RL_36 : CVt RL 36 RX11 yX11_job cX11_job 6 (some .int) 5 := CVt.of (tbg_in (List.mem_of_getElem? (i := 411) (by decide +kernel)) rfl) wi_yX11_job we_yX11_job wini_RX11 wc_yX11_job ⟨rfl, by decide, by decide, by decide +kernel⟩ rfl
theorem cv_RL_45 : CVt RL 45 RX11 yX11_worth cX11_worth 3 (some .int) 0 := CVt.of (tbg_in (List.mem_of_getElem? (i := 501) (by decide +kernel)) rfl) wi_yX11_worth we_yX11_worth wini_RX11 wc_yX11_worth ⟨rfl, by decide, by decide, by decide +kernel⟩ rfl
theorem cv_RL_48 : CVt RL 48 RX11 yX11_best cX11_best 3 (some .int) 1 := CVt.of (tbg_in (List.mem_of_getElem? (i := 509) (by decide +kernel)) rfl) wi_yX11_best we_yX11_best wini_RX11 wc_yX11_best ⟨rfl, by decide, by decide, by decide +kernel⟩ rfl
theorem cv_RL_56 : CVt RL 56 RX11 yX11_plan cX11_plan 2 (some .int) 1 := CVt.of (tbg_in (List.mem_of_getElem? (i := 450) (by decide +kernel)) rfl) wi_yX11_plan we_yX11_plan wini_RX11 wc_yX11_plan ⟨rfl, by decide, by decide, by decide +kernel⟩ rfl
theorem cv_RL_59 : CVt RL 59 RX11 yX11_prove cX11_prove 1 (some .int) 0 := CVt.of (tbg_in (List.mem_of_getElem? (i := 636) (by decide +kernel)) rfl) wi_yX11_prove we_yX11_prove wini_RX11 wc_yX11_prove ⟨rfl, by decide, by decide, by decide +kernel⟩ rfl
theorem cv_RL_62 : CVt RL 62 RX11 yX11_judge cX11_judge 1 (some .int) 0 := CVt.of (tbg_in (List.mem_of_getElem? (i := 655) (by decide +kernel)) rfl) wi_yX11_judge we_yX11_judge wini_RX11 wc_yX11_judge ⟨rfl, by decide, by decide, by decide +kernel⟩ rfl
theorem cv_RL_65 : CVt RL 65 RX11 yX11_row cX11_row 3 (some .int) 2 := CVt.of (tbg_in (List.mem_of_getElem? (i := 646) (by decide +kernel)) rfl) wi_yX11_row we_yX11_row wini_RX11 wc_yX11_row ⟨rfl, by decide, by decide, by decide +kernel⟩ rfl
theorem cv_RL_68 : CVt RL 68 RX11 yX11_ends cX11_ends 2 (some .int) 1 := CVt.of (tbg_in (List.mem_of_getElem? (i := 462) (by decide +kernel)) rfl) wi_yX11_ends we_yX11_ends wini_RX11 wc_yX11_ends ⟨rfl, by decide, by decide, by decide +kernel⟩ rfl
theorem cv_RL_71 : CVt RL 71 RX11 yX11_late cX11_late 3 (some .int) 0 := CVt.of (tbg_in (List.mem_of_getElem? (i := 497) (by decide +kernel)) rfl) wi_yX11_late we_yX11_late wini_RX11 wc_yX11_late ⟨rfl, by decide, by decide, by decide +kernel⟩ rfl
theorem cv_RL_74 : CVt RL 74 RX11 yX11_fewest cX11_fewest 1 (some .int) 0 := CVt.of (tbg_in (List.mem_of_getElem? (i := 540) (by decide +kernel)) rfl) wi_yX11_fewest we_yX11_fewest wini_RX11 wc_yX11_fewest ⟨rfl, by decide, by decide, by decide +kernel⟩ rfl
theorem cv_RL_77 : CVt RL 77 RX11 yX11_nights cX11_nights 2 (some .int) 0 := CVt.of (tbg_in (List.mem_of_getElem? (i := 569) (by decide +kernel)) rfl) wi_yX11_nights we_yX11_nights wini_RX11 wc_yX11_nights ⟨rfl, by decide, by decide, by decide +kernel⟩ rfl
theorem cv_RL_80 : CVt RL 80 RX11 yX11_sure cX11_sure 2 (some .int) 1 := CVt.of (tbg_in (List.mem_of_getElem? (i := 573) (by decide +kernel)) rfl) wi_yX11_sure we_yX11_sure wini_RX11 wc_yX11_sure ⟨rfl, by decide, by decide, by decide +kernel⟩ rfl
theorem cv_RL_83 : CVt RL 83 RX11 yX11_safest cX11_safest 3 (some .int) 1 := CVt.of (tbg_in (List.mem_of_getElem? (i := 595) (by decide +kernel)) rfl) wi_yX11_safest we_yX11_safest wini_RX11 wc_yX11_safest ⟨rfl, by decide, by decide, by decide +kernel⟩ rfl
theorem cv_RL_86 : CVt RL 86 RX11 yX11_mean cX11_mean 2 (some .int) 1 := CVt.of (tbg_in (List.mem_of_getElem? (i := 608) (by decide +kernel)) rfl) wi_yX11_mean we_yX11_mean wini_RX11 wc_yX11_mean ⟨rfl, by decide, by decide, by decide +kernel⟩ rfl
theorem cv_RL_89 : CVt RL 89 RX11 yX11_soonest cX11_soonest 5 (some .int) 3 := CVt.of (tbg_in (List.mem_of_getElem? (i := 548) (by decide +kernel)) rfl) wi_yX11_soonest we_yX11_soonest wini_RX11 wc_yX11_soonest ⟨rfl, by decide, by decide, by decide +kernel⟩ rfl
theorem cv_RL_93 : CVt RL 93 RX11 yX11_gain cX11_gain 7 (some .int) 5 := CVt.of (tbg_in (List.mem_of_getElem? (i := 561) (by decide +kernel)) rfl) wi_yX11_gain we_yX11_gain wini_RX11 wc_yX11_gain ⟨rfl, by decide, by decide, by decide +kernel⟩ rfl
theorem cv_RL_96 : CVt RL 96 RX11 yX11_keep cX11_keep 1 (some .int) 0 := CVt.of (tbg_in (List.mem_of_getElem? (i := 670) (by decide +kernel)) rfl) wi_yX11_keep we_yX11_keep wini_RX11 wc_yX11_keep ⟨rfl, by decide, by decide, by decide +kernel⟩ rfl
theorem cv_RL_99 : CVt RL 99 RX11 yX11_drop cX11_drop 2 (some .int) 1 := CVt.of (tbg_in (List.mem_of_getElem? (i := 429) (by decide +kernel)) rfl) wi_yX11_drop we_yX11_drop wini_RX11 wc_yX11_drop ⟨rfl, by decide, by decide, by decide +kernel⟩ rfl
theorem cv_RL_102 : CVt RL 102 RX11 yX11_again cX11_again 1 (some .int) 0 := CVt.of (tbg_in (List.mem_of_getElem? (i := 684) (by decide +kernel)) rfl) wi_yX11_again we_yX11_again wini_RX11 wc_yX11_again ⟨rfl, by decide, by decide, by decide +kernel⟩ rfl
theorem cv_RL_105 : CVt RL 105 RX11 yX11_across cX11_across 6 (some .int) 1 := CVt.of (tbg_in (List.mem_of_getElem? (i := 565) (by decide +kernel)) rfl) wi_yX11_across we_yX11_across wini_RX11 wc_yX11_across ⟨rfl, by decide, by decide, by decide +kernel⟩ rfl
theorem cv_RL_108 : CVt RL 108 RX11 yX11_many cX11_many 2 (some .int) 1 := CVt.of (tbg_in (List.mem_of_getElem? (i := 666) (by decide +kernel)) rfl) wi_yX11_many we_yX11_many wini_RX11 wc_yX11_many ⟨rfl, by decide, by decide, by decide +kernel⟩ rfl
theorem cv_RL_111 : CVt RL 111 RX11 yX11_till cX11_till 1 (some .int) 0 := CVt.of (tbg_in (List.mem_of_getElem? (i := 632) (by decide +kernel)) rfl) wi_yX11_till we_yX11_till wini_RX11 wc_yX11_till ⟨rfl, by decide, by decide, by decide +kernel⟩ rfl
theorem cv_RL_114 : CVt RL 114 RX11 yX11_goes cX11_goes 1 (some .int) 0 := CVt.of (tbg_in (List.mem_of_getElem? (i := 616) (by decide +kernel)) rfl) wi_yX11_goes we_yX11_goes wini_RX11 wc_yX11_goes ⟨rfl, by decide, by decide, by decide +kernel⟩ rfl
theorem cv_RL_117 : CVt RL 117 RX11 yX11_press cX11_press 2 (some .int) 1 := CVt.of (tbg_in (List.mem_of_getElem? (i := 458) (by decide +kernel)) rfl) wi_yX11_press we_yX11_press wini_RX11 wc_yX11_press ⟨rfl, by decide, by decide, by decide +kernel⟩ rfl
theorem cv_RX1_50 : CVt RX1 50 RX4 yX4_copy cX4_copy 3 none 1 := CVt.of (tbg_in (List.mem_of_getElem? (i := 678) (by decide +kernel)) rfl) wi_yX4_copy we_yX4_copy wini_RX4 wc_yX4_copy ⟨rfl, by decide, by decide, by decide +kernel⟩ rfl
theorem cv_RX1_57 : CVt RX1 57 RX4 yX4_add cX4_add 6 none 5 := CVt.of (tbg_in (List.mem_of_getElem? (i := 425) (by decide +kernel)) rfl) wi_yX4_add we_yX4_add wini_RX4 wc_yX4_add ⟨rfl, by decide, by decide, by decide +kernel⟩ rfl
theorem cv_RX1_61 : CVt RX1 61 RX4 yX4_remove cX4_remove 3 none 1 := CVt.of (tbg_in (List.mem_of_getElem? (i := 441) (by decide +kernel)) rfl) wi_yX4_remove we_yX4_remove wini_RX4 wc_yX4_remove ⟨rfl, by decide, by decide, by decide +kernel⟩ rfl
theorem cv_RX1_65 : CVt RX1 65 RX1 yX1_slotsOn cX1_slotsOn 2 (some .int) 1 := CVt.of (tbg_in (List.mem_of_getElem? (i := 624) (by decide +kernel)) rfl) wi_yX1_slotsOn we_yX1_slotsOn wini_RX1 wc_yX1_slotsOn ⟨rfl, by decide, by decide, by decide +kernel⟩ rfl
theorem cv_RX1_69 : CVt RX1 69 RX1 yX1_workSlot cX1_workSlot 2 (some .boolean) 1 := CVt.of (tbg_in (List.mem_of_getElem? (i := 625) (by decide +kernel)) rfl) wi_yX1_workSlot we_yX1_workSlot wini_RX1 wc_yX1_workSlot ⟨rfl, by decide, by decide, by decide +kernel⟩ rfl
theorem cv_RX1_73 : CVt RX1 73 RX4 yX4_has cX4_has 2 (some .boolean) 1 := CVt.of (tbg_in (List.mem_of_getElem? (i := 629) (by decide +kernel)) rfl) wi_yX4_has we_yX4_has wini_RX4 wc_yX4_has ⟨rfl, by decide, by decide, by decide +kernel⟩ rfl
theorem cv_RX1_81 : CVt RX1 81 RX4 yX4_valueOf cX4_valueOf 4 (some .int) 3 := CVt.of (tbg_in (List.mem_of_getElem? (i := 630) (by decide +kernel)) rfl) wi_yX4_valueOf we_yX4_valueOf wini_RX4 wc_yX4_valueOf ⟨rfl, by decide, by decide, by decide +kernel⟩ rfl
theorem cv_RX1_85 : CVt RX1 85 RX1 yX1_leave cX1_leave 5 none 1 := CVt.of (tbg_in (List.mem_of_getElem? (i := 631) (by decide +kernel)) rfl) wi_yX1_leave we_yX1_leave wini_RX1 wc_yX1_leave ⟨rfl, by decide, by decide, by decide +kernel⟩ rfl
theorem cv_RX11_136 : CVt RX11 136 RX1 yX1_come cX1_come 6 (some .int) 5 := CVt.of (tbg_in (List.mem_of_getElem? (i := 421) (by decide +kernel)) rfl) wi_yX1_come we_yX1_come wini_RX1 wc_yX1_come ⟨rfl, by decide, by decide, by decide +kernel⟩ rfl
theorem cv_RX11_140 : CVt RX11 140 RX4 yX4_has cX4_has 2 (some .boolean) 1 := CVt.of (tbg_in (List.mem_of_getElem? (i := 433) (by decide +kernel)) rfl) wi_yX4_has we_yX4_has wini_RX4 wc_yX4_has ⟨rfl, by decide, by decide, by decide +kernel⟩ rfl
theorem cv_RX11_159 : CVt RX11 159 RX1 yX1_leave cX1_leave 5 none 1 := CVt.of (tbg_in (List.mem_of_getElem? (i := 437) (by decide +kernel)) rfl) wi_yX1_leave we_yX1_leave wini_RX1 wc_yX1_leave ⟨rfl, by decide, by decide, by decide +kernel⟩ rfl
theorem cv_RX11_180 : CVt RX11 180 RX1 yX1_arrange cX1_arrange 4 (some .boolean) 1 := CVt.of (tbg_in (List.mem_of_getElem? (i := 454) (by decide +kernel)) rfl) wi_yX1_arrange we_yX1_arrange wini_RX1 wc_yX1_arrange ⟨rfl, by decide, by decide, by decide +kernel⟩ rfl
theorem cv_RX11_194 : CVt RX11 194 RX11 yX11_followPlan cX11_followPlan 1 none 0 := CVt.of (tbg_in (List.mem_of_getElem? (i := 466) (by decide +kernel)) rfl) wi_yX11_followPlan we_yX11_followPlan wini_RX11 wc_yX11_followPlan ⟨rfl, by decide, by decide, by decide +kernel⟩ rfl
theorem cv_RX11_203 : CVt RX11 203 RX4 yX4_valueOf cX4_valueOf 4 (some .int) 3 := CVt.of (tbg_in (List.mem_of_getElem? (i := 505) (by decide +kernel)) rfl) wi_yX4_valueOf we_yX4_valueOf wini_RX4 wc_yX4_valueOf ⟨rfl, by decide, by decide, by decide +kernel⟩ rfl
theorem cv_RX11_208 : CVt RX11 208 RX3 yX3_measure cX3_measure 7 none 2 := CVt.of (tbg_in (List.mem_of_getElem? (i := 470) (by decide +kernel)) rfl) wi_yX3_measure we_yX3_measure wini_RX3 wc_yX3_measure ⟨rfl, by decide, by decide, by decide +kernel⟩ rfl
theorem cv_RX11_212 : CVt RX11 212 RX5 yX5_mostWorth cX5_mostWorth 5 (some .int) 2 := CVt.of (tbg_in (List.mem_of_getElem? (i := 514) (by decide +kernel)) rfl) wi_yX5_mostWorth we_yX5_mostWorth wini_RX5 wc_yX5_mostWorth ⟨rfl, by decide, by decide, by decide +kernel⟩ rfl
theorem cv_RX11_223 : CVt RX11 223 RX5 yX5_fewestLate cX5_fewestLate 2 (some .int) 1 := CVt.of (tbg_in (List.mem_of_getElem? (i := 544) (by decide +kernel)) rfl) wi_yX5_fewestLate we_yX5_fewestLate wini_RX5 wc_yX5_fewestLate ⟨rfl, by decide, by decide, by decide +kernel⟩ rfl
theorem cv_RX11_227 : CVt RX11 227 RX4 yX4_copy cX4_copy 3 none 1 := CVt.of (tbg_in (List.mem_of_getElem? (i := 552) (by decide +kernel)) rfl) wi_yX4_copy we_yX4_copy wini_RX4 wc_yX4_copy ⟨rfl, by decide, by decide, by decide +kernel⟩ rfl
theorem cv_RX11_231 : CVt RX11 231 RX4 yX4_add cX4_add 6 none 5 := CVt.of (tbg_in (List.mem_of_getElem? (i := 556) (by decide +kernel)) rfl) wi_yX4_add we_yX4_add wini_RX4 wc_yX4_add ⟨rfl, by decide, by decide, by decide +kernel⟩ rfl
theorem cv_RX11_235 : CVt RX11 235 RX5 yX5_soonestEnd cX5_soonestEnd 2 (some .int) 1 := CVt.of (tbg_in (List.mem_of_getElem? (i := 557) (by decide +kernel)) rfl) wi_yX5_soonestEnd we_yX5_soonestEnd wini_RX5 wc_yX5_soonestEnd ⟨rfl, by decide, by decide, by decide +kernel⟩ rfl
theorem cv_RX11_238 : CVt RX11 238 RX2 yX2_sureOf cX2_sureOf 5 (some .int) 2 := CVt.of (tbg_in (List.mem_of_getElem? (i := 577) (by decide +kernel)) rfl) wi_yX2_sureOf we_yX2_sureOf wini_RX2 wc_yX2_sureOf ⟨rfl, by decide, by decide, by decide +kernel⟩ rfl
theorem cv_RX11_245 : CVt RX11 245 RX2 yX2_surest cX2_surest 2 (some .int) 1 := CVt.of (tbg_in (List.mem_of_getElem? (i := 599) (by decide +kernel)) rfl) wi_yX2_surest we_yX2_surest wini_RX2 wc_yX2_surest ⟨rfl, by decide, by decide, by decide +kernel⟩ rfl
theorem cv_RX11_249 : CVt RX11 249 RX2 yX2_meanOf cX2_meanOf 5 (some .int) 2 := CVt.of (tbg_in (List.mem_of_getElem? (i := 612) (by decide +kernel)) rfl) wi_yX2_meanOf we_yX2_meanOf wini_RX2 wc_yX2_meanOf ⟨rfl, by decide, by decide, by decide +kernel⟩ rfl
theorem cv_RX11_281 : CVt RX11 281 RX1 yX1_workDay cX1_workDay 4 (some .int) 0 := CVt.of (tbg_in (List.mem_of_getElem? (i := 620) (by decide +kernel)) rfl) wi_yX1_workDay we_yX1_workDay wini_RX1 wc_yX1_workDay ⟨rfl, by decide, by decide, by decide +kernel⟩ rfl
theorem cv_RX11_287 : CVt RX11 287 RX6 yX6_fill cX6_fill 5 none 2 := CVt.of (tbg_in (List.mem_of_getElem? (i := 640) (by decide +kernel)) rfl) wi_yX6_fill we_yX6_fill wini_RX6 wc_yX6_fill ⟨rfl, by decide, by decide, by decide +kernel⟩ rfl
theorem cv_RX11_290 : CVt RX11 290 RX6 yX6_has cX6_has 3 (some .boolean) 2 := CVt.of (tbg_in (List.mem_of_getElem? (i := 650) (by decide +kernel)) rfl) wi_yX6_has we_yX6_has wini_RX6 wc_yX6_has ⟨rfl, by decide, by decide, by decide +kernel⟩ rfl
theorem cv_RX11_296 : CVt RX11 296 RX6 yX6_firstWrong cX6_firstWrong 8 (some .int) 1 := CVt.of (tbg_in (List.mem_of_getElem? (i := 659) (by decide +kernel)) rfl) wi_yX6_firstWrong we_yX6_firstWrong wini_RX6 wc_yX6_firstWrong ⟨rfl, by decide, by decide, by decide +kernel⟩ rfl
theorem cv_RX11_360 : CVt RX11 360 RX1 yX1_copy cX1_copy 2 none 1 := CVt.of (tbg_in (List.mem_of_getElem? (i := 674) (by decide +kernel)) rfl) wi_yX1_copy we_yX1_copy wini_RX1 wc_yX1_copy ⟨rfl, by decide, by decide, by decide +kernel⟩ rfl
theorem cv_RX11_363 : CVt RX11 363 RX10 yX10_copy cX10_copy 3 none 1 := CVt.of (tbg_in (List.mem_of_getElem? (i := 680) (by decide +kernel)) rfl) wi_yX10_copy we_yX10_copy wini_RX10 wc_yX10_copy ⟨rfl, by decide, by decide, by decide +kernel⟩ rfl
theorem cv_RX11_366 : CVt RX11 366 RX3 yX3_follow cX3_follow 7 none 2 := CVt.of (tbg_in (List.mem_of_getElem? (i := 481) (by decide +kernel)) rfl) wi_yX3_follow we_yX3_follow wini_RX3 wc_yX3_follow ⟨rfl, by decide, by decide, by decide +kernel⟩ rfl
theorem cv_RX2_42 : CVt RX2 42 RX2 yX2_begin cX2_begin 2 none 1 := CVt.of (tbg_in (List.mem_of_getElem? (i := 581) (by decide +kernel)) rfl) wi_yX2_begin we_yX2_begin wini_RX2 wc_yX2_begin ⟨rfl, by decide, by decide, by decide +kernel⟩ rfl
theorem cv_RX2_54 : CVt RX2 54 RX2 yX2_spread cX2_spread 14 (some .int) 4 := CVt.of (tbg_in (List.mem_of_getElem? (i := 585) (by decide +kernel)) rfl) wi_yX2_spread we_yX2_spread wini_RX2 wc_yX2_spread ⟨rfl, by decide, by decide, by decide +kernel⟩ rfl
theorem cv_RX2_58 : CVt RX2 58 RX2 yX2_walk cX2_walk 7 none 5 := CVt.of (tbg_in (List.mem_of_getElem? (i := 603) (by decide +kernel)) rfl) wi_yX2_walk we_yX2_walk wini_RX2 wc_yX2_walk ⟨rfl, by decide, by decide, by decide +kernel⟩ rfl
theorem cv_RX2_68 : CVt RX2 68 RX3 yX3_usedBehind cX3_usedBehind 7 (some .int) 4 := CVt.of (tbg_in (List.mem_of_getElem? (i := 589) (by decide +kernel)) rfl) wi_yX3_usedBehind we_yX3_usedBehind wini_RX3 wc_yX3_usedBehind ⟨rfl, by decide, by decide, by decide +kernel⟩ rfl
theorem cv_RX2_77 : CVt RX2 77 RX3 yX3_dayAt cX3_dayAt 2 (some .int) 1 := CVt.of (tbg_in (List.mem_of_getElem? (i := 590) (by decide +kernel)) rfl) wi_yX3_dayAt we_yX3_dayAt wini_RX3 wc_yX3_dayAt ⟨rfl, by decide, by decide, by decide +kernel⟩ rfl
theorem cv_RX2_87 : CVt RX2 87 RX4 yX4_valueOf cX4_valueOf 4 (some .int) 3 := CVt.of (tbg_in (List.mem_of_getElem? (i := 591) (by decide +kernel)) rfl) wi_yX4_valueOf we_yX4_valueOf wini_RX4 wc_yX4_valueOf ⟨rfl, by decide, by decide, by decide +kernel⟩ rfl
theorem cv_RX3_44 : CVt RX3 44 RX1 yX1_slotsOn cX1_slotsOn 2 (some .int) 1 := CVt.of (tbg_in (List.mem_of_getElem? (i := 474) (by decide +kernel)) rfl) wi_yX1_slotsOn we_yX1_slotsOn wini_RX1 wc_yX1_slotsOn ⟨rfl, by decide, by decide, by decide +kernel⟩ rfl
theorem cv_RX3_67 : CVt RX3 67 RX3 yX3_usedBehind cX3_usedBehind 7 (some .int) 4 := CVt.of (tbg_in (List.mem_of_getElem? (i := 485) (by decide +kernel)) rfl) wi_yX3_usedBehind we_yX3_usedBehind wini_RX3 wc_yX3_usedBehind ⟨rfl, by decide, by decide, by decide +kernel⟩ rfl
theorem cv_RX3_71 : CVt RX3 71 RX3 yX3_dayAt cX3_dayAt 2 (some .int) 1 := CVt.of (tbg_in (List.mem_of_getElem? (i := 489) (by decide +kernel)) rfl) wi_yX3_dayAt we_yX3_dayAt wini_RX3 wc_yX3_dayAt ⟨rfl, by decide, by decide, by decide +kernel⟩ rfl
theorem cv_RX4_31 : CVt RX4 31 RX4 yX4_has cX4_has 2 (some .boolean) 1 := CVt.of (tbg_in (List.mem_of_getElem? (i := 445) (by decide +kernel)) rfl) wi_yX4_has we_yX4_has wini_RX4 wc_yX4_has ⟨rfl, by decide, by decide, by decide +kernel⟩ rfl
theorem cv_RX5_41 : CVt RX5 41 RX5 yX5_leastLost cX5_leastLost 5 (some .int) 3 := CVt.of (tbg_in (List.mem_of_getElem? (i := 518) (by decide +kernel)) rfl) wi_yX5_leastLost we_yX5_leastLost wini_RX5 wc_yX5_leastLost ⟨rfl, by decide, by decide, by decide +kernel⟩ rfl
theorem cv_RX5_45 : CVt RX5 45 RX4 yX4_has cX4_has 2 (some .boolean) 1 := CVt.of (tbg_in (List.mem_of_getElem? (i := 522) (by decide +kernel)) rfl) wi_yX4_has we_yX4_has wini_RX4 wc_yX4_has ⟨rfl, by decide, by decide, by decide +kernel⟩ rfl
theorem cv_RX5_49 : CVt RX5 49 RX5 yX5_walk cX5_walk 10 none 6 := CVt.of (tbg_in (List.mem_of_getElem? (i := 523) (by decide +kernel)) rfl) wi_yX5_walk we_yX5_walk wini_RX5 wc_yX5_walk ⟨rfl, by decide, by decide, by decide +kernel⟩ rfl
theorem cv_RX5_59 : CVt RX5 59 RX3 yX3_usedBehind cX3_usedBehind 7 (some .int) 4 := CVt.of (tbg_in (List.mem_of_getElem? (i := 530) (by decide +kernel)) rfl) wi_yX3_usedBehind we_yX3_usedBehind wini_RX3 wc_yX3_usedBehind ⟨rfl, by decide, by decide, by decide +kernel⟩ rfl
theorem cv_RX5_65 : CVt RX5 65 RX3 yX3_dayAt cX3_dayAt 2 (some .int) 1 := CVt.of (tbg_in (List.mem_of_getElem? (i := 531) (by decide +kernel)) rfl) wi_yX3_dayAt we_yX3_dayAt wini_RX3 wc_yX3_dayAt ⟨rfl, by decide, by decide, by decide +kernel⟩ rfl
theorem cv_RX5_69 : CVt RX5 69 RX5 yX5_lossOf cX5_lossOf 5 (some .int) 3 := CVt.of (tbg_in (List.mem_of_getElem? (i := 532) (by decide +kernel)) rfl) wi_yX5_lossOf we_yX5_lossOf wini_RX5 wc_yX5_lossOf ⟨rfl, by decide, by decide, by decide +kernel⟩ rfl
theorem cv_RX5_82 : CVt RX5 82 RX4 yX4_valueOf cX4_valueOf 4 (some .int) 3 := CVt.of (tbg_in (List.mem_of_getElem? (i := 536) (by decide +kernel)) rfl) wi_yX4_valueOf we_yX4_valueOf wini_RX4 wc_yX4_valueOf ⟨rfl, by decide, by decide, by decide +kernel⟩ rfl
theorem cv_RX6_27 : CVt RX6 27 RX3 yX3_follow cX3_follow 7 none 2 := CVt.of (tbg_in (List.mem_of_getElem? (i := 644) (by decide +kernel)) rfl) wi_yX3_follow we_yX3_follow wini_RX3 wc_yX3_follow ⟨rfl, by decide, by decide, by decide +kernel⟩ rfl
theorem cv_RX6_42 : CVt RX6 42 RX4 yX4_valueOf cX4_valueOf 4 (some .int) 3 := CVt.of (tbg_in (List.mem_of_getElem? (i := 645) (by decide +kernel)) rfl) wi_yX4_valueOf we_yX4_valueOf wini_RX4 wc_yX4_valueOf ⟨rfl, by decide, by decide, by decide +kernel⟩ rfl
theorem cv_RX6_46 : CVt RX6 46 RX4 yX4_has cX4_has 2 (some .boolean) 1 := CVt.of (tbg_in (List.mem_of_getElem? (i := 663) (by decide +kernel)) rfl) wi_yX4_has we_yX4_has wini_RX4 wc_yX4_has ⟨rfl, by decide, by decide, by decide +kernel⟩ rfl
theorem cv_RX6_50 : CVt RX6 50 RX3 yX3_usedBehind cX3_usedBehind 7 (some .int) 4 := CVt.of (tbg_in (List.mem_of_getElem? (i := 664) (by decide +kernel)) rfl) wi_yX3_usedBehind we_yX3_usedBehind wini_RX3 wc_yX3_usedBehind ⟨rfl, by decide, by decide, by decide +kernel⟩ rfl
theorem cv_RX6_57 : CVt RX6 57 RX3 yX3_dayAt cX3_dayAt 2 (some .int) 1 := CVt.of (tbg_in (List.mem_of_getElem? (i := 665) (by decide +kernel)) rfl) wi_yX3_dayAt we_yX3_dayAt wini_RX3 wc_yX3_dayAt ⟨rfl, by decide, by decide, by decide +kernel⟩ rfl
theorem cs_RL_17 : CSt RL 17 yL_at cL_at 2 (some .int) 2 := CSt.of (tbg_in (List.mem_of_getElem? (i := 691) (by decide +kernel)) rfl) ws_yL_at wini_RL wc_yL_at ⟨by decide, by decide, by decide +kernel⟩ rfl
theorem cs_RL_21 : CSt RL 21 yL_mod cL_mod 3 (some .int) 2 := CSt.of (tbg_in (List.mem_of_getElem? (i := 688) (by decide +kernel)) rfl) ws_yL_mod wini_RL wc_yL_mod ⟨by decide, by decide, by decide +kernel⟩ rfl
theorem cs_RL_41 : CSt RL 41 yL_lay cL_lay 11 (some .int) 7 := CSt.of (tbg_in (List.mem_of_getElem? (i := 697) (by decide +kernel)) rfl) ws_yL_lay wini_RL wc_yL_lay ⟨by decide, by decide, by decide +kernel⟩ rfl
theorem cs_RL_52 : CSt RL 52 yL_isOrder cL_isOrder 4 (some .boolean) 2 := CSt.of (tbg_in (List.mem_of_getElem? (i := 694) (by decide +kernel)) rfl) ws_yL_isOrder wini_RL wc_yL_isOrder ⟨by decide, by decide, by decide +kernel⟩ rfl
theorem cs_RX11_100 : CSt RX11 100 yX11_within cX11_within 3 (some .boolean) 3 := CSt.of (tbg_in (List.mem_of_getElem? (i := 418) (by decide +kernel)) rfl) ws_yX11_within wini_RX11 wc_yX11_within ⟨by decide, by decide, by decide +kernel⟩ rfl
theorem cs_RX11_132 : CSt RX11 132 yX11_isJob cX11_isJob 5 (some .boolean) 5 := CSt.of (tbg_in (List.mem_of_getElem? (i := 415) (by decide +kernel)) rfl) ws_yX11_isJob wini_RX11 wc_yX11_isJob ⟨by decide, by decide, by decide +kernel⟩ rfl
theorem cs_RX11_219 : CSt RX11 219 yX11_digitsOf cX11_digitsOf 4 (some .int) 2 := CSt.of (tbg_in (List.mem_of_getElem? (i := 537) (by decide +kernel)) rfl) ws_yX11_digitsOf wini_RX11 wc_yX11_digitsOf ⟨by decide, by decide, by decide +kernel⟩ rfl
theorem cs_RX11_242 : CSt RX11 242 yX11_partOf cX11_partOf 5 (some .int) 3 := CSt.of (tbg_in (List.mem_of_getElem? (i := 592) (by decide +kernel)) rfl) ws_yX11_partOf wini_RX11 wc_yX11_partOf ⟨by decide, by decide, by decide +kernel⟩ rfl
theorem cn_RX6_23 : CNt RX6 23 yX11_within "PressDays" cX11_within 3 (some .boolean) 3 := ⟨nwl_in (List.mem_of_getElem? (i := 654) (by decide +kernel)) rfl, ws_yX11_within, wini_RX11, wc_yX11_within, ⟨by decide, by decide, by decide +kernel⟩, by decide⟩
