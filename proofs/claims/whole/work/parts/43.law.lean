/-! the law's loop, printed by wip/whole/p17.py out of its bytecode -/
set_option maxRecDepth 8000 in
theorem w_100 : Cond.initialized "ShadowTollsLaw" ∈ TT := tt_1 (List.mem_of_getElem? (i := 0) rfl) rfl
set_option maxRecDepth 8000 in
theorem w_483 : Cond.methodLink "ShadowTollsLaw" 100 yX8_feed ∈ TT := tt_2 (List.mem_of_getElem? (i := 143) rfl) rfl
set_option maxRecDepth 8000 in
theorem w_484 : Cond.instanceMethod yX8_feed ∈ TT := tt_2 (List.mem_of_getElem? (i := 144) rfl) rfl
set_option maxRecDepth 8000 in
theorem w_485 : Cond.selects RX8 yX8_feed yX8_feed ∈ TT := tt_2 (List.mem_of_getElem? (i := 145) rfl) rfl
set_option maxRecDepth 8000 in
theorem w_486 : Cond.code yX8_feed cX8_feed 6 (some .int) ∈ TT := tt_2 (List.mem_of_getElem? (i := 146) rfl) rfl
set_option maxRecDepth 8000 in
theorem w_498 : Cond.methodLink "ShadowTollsLaw" 117 yX8_fault ∈ TT := tt_2 (List.mem_of_getElem? (i := 158) rfl) rfl
set_option maxRecDepth 8000 in
theorem w_499 : Cond.instanceMethod yX8_fault ∈ TT := tt_2 (List.mem_of_getElem? (i := 159) rfl) rfl
set_option maxRecDepth 8000 in
theorem w_500 : Cond.selects RX8 yX8_fault yX8_fault ∈ TT := tt_2 (List.mem_of_getElem? (i := 160) rfl) rfl
set_option maxRecDepth 8000 in
theorem w_501 : Cond.code yX8_fault cX8_fault 1 (some .int) ∈ TT := tt_2 (List.mem_of_getElem? (i := 161) rfl) rfl
set_option maxRecDepth 8000 in
theorem w_502 : Cond.methodLink "ShadowTollsLaw" 159 yX8_slots ∈ TT := tt_2 (List.mem_of_getElem? (i := 162) rfl) rfl
set_option maxRecDepth 8000 in
theorem w_503 : Cond.instanceMethod yX8_slots ∈ TT := tt_2 (List.mem_of_getElem? (i := 163) rfl) rfl
set_option maxRecDepth 8000 in
theorem w_504 : Cond.selects RX8 yX8_slots yX8_slots ∈ TT := tt_2 (List.mem_of_getElem? (i := 164) rfl) rfl
set_option maxRecDepth 8000 in
theorem w_505 : Cond.code yX8_slots cX8_slots 1 (some .int) ∈ TT := tt_2 (List.mem_of_getElem? (i := 165) rfl) rfl
set_option maxRecDepth 8000 in
theorem w_513 : Cond.methodLink "ShadowTollsLaw" 169 yX8_undo ∈ TT := tt_2 (List.mem_of_getElem? (i := 173) rfl) rfl
set_option maxRecDepth 8000 in
theorem w_514 : Cond.instanceMethod yX8_undo ∈ TT := tt_2 (List.mem_of_getElem? (i := 174) rfl) rfl
set_option maxRecDepth 8000 in
theorem w_515 : Cond.selects RX8 yX8_undo yX8_undo ∈ TT := tt_2 (List.mem_of_getElem? (i := 175) rfl) rfl
set_option maxRecDepth 8000 in
theorem w_516 : Cond.code yX8_undo cX8_undo 1 (some .int) ∈ TT := tt_2 (List.mem_of_getElem? (i := 176) rfl) rfl
set_option maxRecDepth 8000 in
theorem w_520 : Cond.methodLink "ShadowTollsLaw" 182 yX8_much ∈ TT := tt_2 (List.mem_of_getElem? (i := 180) rfl) rfl
set_option maxRecDepth 8000 in
theorem w_521 : Cond.instanceMethod yX8_much ∈ TT := tt_2 (List.mem_of_getElem? (i := 181) rfl) rfl
set_option maxRecDepth 8000 in
theorem w_522 : Cond.selects RX8 yX8_much yX8_much ∈ TT := tt_2 (List.mem_of_getElem? (i := 182) rfl) rfl
set_option maxRecDepth 8000 in
theorem w_523 : Cond.code yX8_much cX8_much 3 (some .int) ∈ TT := tt_2 (List.mem_of_getElem? (i := 183) rfl) rfl
set_option maxRecDepth 8000 in
theorem w_650 : Cond.methodLink "ShadowTollsLaw" 195 yX8_forget ∈ TT := tt_3 (List.mem_of_getElem? (i := 70) rfl) rfl
set_option maxRecDepth 8000 in
theorem w_651 : Cond.instanceMethod yX8_forget ∈ TT := tt_3 (List.mem_of_getElem? (i := 71) rfl) rfl
set_option maxRecDepth 8000 in
theorem w_652 : Cond.selects RX8 yX8_forget yX8_forget ∈ TT := tt_3 (List.mem_of_getElem? (i := 72) rfl) rfl
set_option maxRecDepth 8000 in
theorem w_653 : Cond.code yX8_forget cX8_forget 2 (some .int) ∈ TT := tt_3 (List.mem_of_getElem? (i := 73) rfl) rfl
set_option maxRecDepth 8000 in
theorem w_654 : Cond.methodLink "ShadowTollsLaw" 202 yX8_sky ∈ TT := tt_3 (List.mem_of_getElem? (i := 74) rfl) rfl
set_option maxRecDepth 8000 in
theorem w_655 : Cond.instanceMethod yX8_sky ∈ TT := tt_3 (List.mem_of_getElem? (i := 75) rfl) rfl
set_option maxRecDepth 8000 in
theorem w_656 : Cond.selects RX8 yX8_sky yX8_sky ∈ TT := tt_3 (List.mem_of_getElem? (i := 76) rfl) rfl
set_option maxRecDepth 8000 in
theorem w_657 : Cond.code yX8_sky cX8_sky 2 (some .int) ∈ TT := tt_3 (List.mem_of_getElem? (i := 77) rfl) rfl
set_option maxRecDepth 8000 in
theorem w_667 : Cond.methodLink "ShadowTollsLaw" 213 yX8_image ∈ TT := tt_3 (List.mem_of_getElem? (i := 87) rfl) rfl
set_option maxRecDepth 8000 in
theorem w_668 : Cond.instanceMethod yX8_image ∈ TT := tt_3 (List.mem_of_getElem? (i := 88) rfl) rfl
set_option maxRecDepth 8000 in
theorem w_669 : Cond.selects RX8 yX8_image yX8_image ∈ TT := tt_3 (List.mem_of_getElem? (i := 89) rfl) rfl
set_option maxRecDepth 8000 in
theorem w_670 : Cond.code yX8_image cX8_image 2 (some .int) ∈ TT := tt_3 (List.mem_of_getElem? (i := 90) rfl) rfl
set_option maxRecDepth 8000 in
theorem w_682 : Cond.methodLink "ShadowTollsLaw" 217 yX8_restore ∈ TT := tt_3 (List.mem_of_getElem? (i := 102) rfl) rfl
set_option maxRecDepth 8000 in
theorem w_683 : Cond.instanceMethod yX8_restore ∈ TT := tt_3 (List.mem_of_getElem? (i := 103) rfl) rfl
set_option maxRecDepth 8000 in
theorem w_684 : Cond.selects RX8 yX8_restore yX8_restore ∈ TT := tt_3 (List.mem_of_getElem? (i := 104) rfl) rfl
set_option maxRecDepth 8000 in
theorem w_685 : Cond.code yX8_restore cX8_restore 2 (some .int) ∈ TT := tt_3 (List.mem_of_getElem? (i := 105) rfl) rfl
set_option maxRecDepth 8000 in
theorem w_686 : Cond.methodLink "ShadowTollsLaw" 221 yX8_count ∈ TT := tt_3 (List.mem_of_getElem? (i := 106) rfl) rfl
set_option maxRecDepth 8000 in
theorem w_687 : Cond.instanceMethod yX8_count ∈ TT := tt_3 (List.mem_of_getElem? (i := 107) rfl) rfl
set_option maxRecDepth 8000 in
theorem w_688 : Cond.selects RX8 yX8_count yX8_count ∈ TT := tt_3 (List.mem_of_getElem? (i := 108) rfl) rfl
set_option maxRecDepth 8000 in
theorem w_689 : Cond.code yX8_count cX8_count 2 (some .int) ∈ TT := tt_3 (List.mem_of_getElem? (i := 109) rfl) rfl
set_option maxRecDepth 8000 in
theorem w_695 : Cond.methodLink "ShadowTollsLaw" 104 yL_bridge ∈ TT := tt_3 (List.mem_of_getElem? (i := 115) rfl) rfl
set_option maxRecDepth 8000 in
theorem w_696 : Cond.static yL_bridge ∈ TT := tt_3 (List.mem_of_getElem? (i := 116) rfl) rfl
set_option maxRecDepth 8000 in
theorem w_697 : Cond.codeWith yL_bridge cL_bridge 4 (some .int) tb_L_bridge ∈ TT := tt_3 (List.mem_of_getElem? (i := 117) rfl) rfl
set_option maxRecDepth 8000 in
theorem w_937 : Cond.methodLink "ShadowTollsLaw" 114 yL_toll ∈ TT := tt_4 (List.mem_of_getElem? (i := 117) rfl) rfl
set_option maxRecDepth 8000 in
theorem w_938 : Cond.static yL_toll ∈ TT := tt_4 (List.mem_of_getElem? (i := 118) rfl) rfl
set_option maxRecDepth 8000 in
theorem w_939 : Cond.codeWith yL_toll cL_toll 4 (some .int) tb_L_toll ∈ TT := tt_4 (List.mem_of_getElem? (i := 119) rfl) rfl
set_option maxRecDepth 8000 in
theorem w_995 : Cond.methodLink "ShadowTollsLaw" 121 yL_told ∈ TT := tt_4 (List.mem_of_getElem? (i := 175) rfl) rfl
set_option maxRecDepth 8000 in
theorem w_996 : Cond.static yL_told ∈ TT := tt_4 (List.mem_of_getElem? (i := 176) rfl) rfl
set_option maxRecDepth 8000 in
theorem w_997 : Cond.codeWith yL_told cL_told 4 (some .int) tb_L_told ∈ TT := tt_4 (List.mem_of_getElem? (i := 177) rfl) rfl
set_option maxRecDepth 8000 in
theorem w_1003 : Cond.methodLink "ShadowTollsLaw" 124 yL_traveller ∈ TT := tt_4 (List.mem_of_getElem? (i := 183) rfl) rfl
set_option maxRecDepth 8000 in
theorem w_1004 : Cond.static yL_traveller ∈ TT := tt_4 (List.mem_of_getElem? (i := 184) rfl) rfl
set_option maxRecDepth 8000 in
theorem w_1005 : Cond.codeWith yL_traveller cL_traveller 5 (some .int) tb_L_traveller ∈ TT := tt_4 (List.mem_of_getElem? (i := 185) rfl) rfl
set_option maxRecDepth 8000 in
theorem w_1032 : Cond.methodLink "ShadowTollsLaw" 128 yL_day ∈ TT := tt_4 (List.mem_of_getElem? (i := 212) rfl) rfl
set_option maxRecDepth 8000 in
theorem w_1033 : Cond.static yL_day ∈ TT := tt_4 (List.mem_of_getElem? (i := 213) rfl) rfl
set_option maxRecDepth 8000 in
theorem w_1034 : Cond.codeWith yL_day cL_day 5 (some .int) tb_L_day ∈ TT := tt_4 (List.mem_of_getElem? (i := 214) rfl) rfl
set_option maxRecDepth 8000 in
theorem w_1043 : Cond.methodLink "ShadowTollsLaw" 131 yL_altitude ∈ TT := tt_4 (List.mem_of_getElem? (i := 223) rfl) rfl
set_option maxRecDepth 8000 in
theorem w_1044 : Cond.static yL_altitude ∈ TT := tt_4 (List.mem_of_getElem? (i := 224) rfl) rfl
set_option maxRecDepth 8000 in
theorem w_1045 : Cond.codeWith yL_altitude cL_altitude 6 (some .int) tb_L_altitude ∈ TT := tt_4 (List.mem_of_getElem? (i := 225) rfl) rfl
set_option maxRecDepth 8000 in
theorem w_1076 : Cond.methodLink "ShadowTollsLaw" 135 yL_shadow ∈ TT := tt_5 (List.mem_of_getElem? (i := 16) rfl) rfl
set_option maxRecDepth 8000 in
theorem w_1077 : Cond.static yL_shadow ∈ TT := tt_5 (List.mem_of_getElem? (i := 17) rfl) rfl
set_option maxRecDepth 8000 in
theorem w_1078 : Cond.codeWith yL_shadow cL_shadow 7 (some .int) tb_L_shadow ∈ TT := tt_5 (List.mem_of_getElem? (i := 18) rfl) rfl
set_option maxRecDepth 8000 in
theorem w_1084 : Cond.methodLink "ShadowTollsLaw" 139 yL_law ∈ TT := tt_5 (List.mem_of_getElem? (i := 24) rfl) rfl
set_option maxRecDepth 8000 in
theorem w_1085 : Cond.static yL_law ∈ TT := tt_5 (List.mem_of_getElem? (i := 25) rfl) rfl
set_option maxRecDepth 8000 in
theorem w_1086 : Cond.codeWith yL_law cL_law 5 (some .int) tb_L_law ∈ TT := tt_5 (List.mem_of_getElem? (i := 26) rfl) rfl
set_option maxRecDepth 8000 in
theorem w_1092 : Cond.methodLink "ShadowTollsLaw" 142 yL_coins ∈ TT := tt_5 (List.mem_of_getElem? (i := 32) rfl) rfl
set_option maxRecDepth 8000 in
theorem w_1093 : Cond.static yL_coins ∈ TT := tt_5 (List.mem_of_getElem? (i := 33) rfl) rfl
set_option maxRecDepth 8000 in
theorem w_1094 : Cond.codeWith yL_coins cL_coins 8 (some .int) tb_L_coins ∈ TT := tt_5 (List.mem_of_getElem? (i := 34) rfl) rfl
set_option maxRecDepth 8000 in
theorem w_1100 : Cond.methodLink "ShadowTollsLaw" 146 yL_best ∈ TT := tt_5 (List.mem_of_getElem? (i := 40) rfl) rfl
set_option maxRecDepth 8000 in
theorem w_1101 : Cond.static yL_best ∈ TT := tt_5 (List.mem_of_getElem? (i := 41) rfl) rfl
set_option maxRecDepth 8000 in
theorem w_1102 : Cond.codeWith yL_best cL_best 7 (some .int) tb_L_best ∈ TT := tt_5 (List.mem_of_getElem? (i := 42) rfl) rfl
set_option maxRecDepth 8000 in
theorem w_1119 : Cond.methodLink "ShadowTollsLaw" 149 yL_week ∈ TT := tt_5 (List.mem_of_getElem? (i := 59) rfl) rfl
set_option maxRecDepth 8000 in
theorem w_1120 : Cond.static yL_week ∈ TT := tt_5 (List.mem_of_getElem? (i := 60) rfl) rfl
set_option maxRecDepth 8000 in
theorem w_1121 : Cond.codeWith yL_week cL_week 5 (some .int) tb_L_week ∈ TT := tt_5 (List.mem_of_getElem? (i := 61) rfl) rfl
set_option maxRecDepth 8000 in
theorem w_1126 : Cond.methodLink "ShadowTollsLaw" 152 yL_plan ∈ TT := tt_5 (List.mem_of_getElem? (i := 66) rfl) rfl
set_option maxRecDepth 8000 in
theorem w_1127 : Cond.static yL_plan ∈ TT := tt_5 (List.mem_of_getElem? (i := 67) rfl) rfl
set_option maxRecDepth 8000 in
theorem w_1128 : Cond.codeWith yL_plan cL_plan 7 (some .int) tb_L_plan ∈ TT := tt_5 (List.mem_of_getElem? (i := 68) rfl) rfl
set_option maxRecDepth 8000 in
theorem w_1176 : Cond.methodLink "ShadowTollsLaw" 156 yL_slot ∈ TT := tt_5 (List.mem_of_getElem? (i := 116) rfl) rfl
set_option maxRecDepth 8000 in
theorem w_1177 : Cond.static yL_slot ∈ TT := tt_5 (List.mem_of_getElem? (i := 117) rfl) rfl
set_option maxRecDepth 8000 in
theorem w_1178 : Cond.codeWith yL_slot cL_slot 7 (some .int) tb_L_slot ∈ TT := tt_5 (List.mem_of_getElem? (i := 118) rfl) rfl
set_option maxRecDepth 8000 in
theorem w_1187 : Cond.methodLink "ShadowTollsLaw" 163 yL_most ∈ TT := tt_5 (List.mem_of_getElem? (i := 127) rfl) rfl
set_option maxRecDepth 8000 in
theorem w_1188 : Cond.static yL_most ∈ TT := tt_5 (List.mem_of_getElem? (i := 128) rfl) rfl
set_option maxRecDepth 8000 in
theorem w_1189 : Cond.codeWith yL_most cL_most 4 (some .int) tb_L_most ∈ TT := tt_5 (List.mem_of_getElem? (i := 129) rfl) rfl
set_option maxRecDepth 8000 in
theorem w_1194 : Cond.methodLink "ShadowTollsLaw" 166 yL_cross ∈ TT := tt_5 (List.mem_of_getElem? (i := 134) rfl) rfl
set_option maxRecDepth 8000 in
theorem w_1195 : Cond.static yL_cross ∈ TT := tt_5 (List.mem_of_getElem? (i := 135) rfl) rfl
set_option maxRecDepth 8000 in
theorem w_1196 : Cond.codeWith yL_cross cL_cross 7 (some .int) tb_L_cross ∈ TT := tt_5 (List.mem_of_getElem? (i := 136) rfl) rfl
set_option maxRecDepth 8000 in
theorem w_1211 : Cond.methodLink "ShadowTollsLaw" 173 yL_taken ∈ TT := tt_5 (List.mem_of_getElem? (i := 151) rfl) rfl
set_option maxRecDepth 8000 in
theorem w_1212 : Cond.static yL_taken ∈ TT := tt_5 (List.mem_of_getElem? (i := 152) rfl) rfl
set_option maxRecDepth 8000 in
theorem w_1213 : Cond.codeWith yL_taken cL_taken 4 (some .int) tb_L_taken ∈ TT := tt_5 (List.mem_of_getElem? (i := 153) rfl) rfl
set_option maxRecDepth 8000 in
theorem w_1222 : Cond.methodLink "ShadowTollsLaw" 176 yL_write ∈ TT := tt_5 (List.mem_of_getElem? (i := 162) rfl) rfl
set_option maxRecDepth 8000 in
theorem w_1223 : Cond.static yL_write ∈ TT := tt_5 (List.mem_of_getElem? (i := 163) rfl) rfl
set_option maxRecDepth 8000 in
theorem w_1224 : Cond.codeWith yL_write cL_write 5 (some .int) tb_L_write ∈ TT := tt_5 (List.mem_of_getElem? (i := 164) rfl) rfl
set_option maxRecDepth 8000 in
theorem w_1230 : Cond.methodLink "ShadowTollsLaw" 179 yL_stolen ∈ TT := tt_5 (List.mem_of_getElem? (i := 170) rfl) rfl
set_option maxRecDepth 8000 in
theorem w_1231 : Cond.static yL_stolen ∈ TT := tt_5 (List.mem_of_getElem? (i := 171) rfl) rfl
set_option maxRecDepth 8000 in
theorem w_1232 : Cond.codeWith yL_stolen cL_stolen 4 (some .int) tb_L_stolen ∈ TT := tt_5 (List.mem_of_getElem? (i := 172) rfl) rfl
set_option maxRecDepth 8000 in
theorem w_1237 : Cond.methodLink "ShadowTollsLaw" 186 yL_lines ∈ TT := tt_5 (List.mem_of_getElem? (i := 177) rfl) rfl
set_option maxRecDepth 8000 in
theorem w_1238 : Cond.static yL_lines ∈ TT := tt_5 (List.mem_of_getElem? (i := 178) rfl) rfl
set_option maxRecDepth 8000 in
theorem w_1239 : Cond.codeWith yL_lines cL_lines 6 (some .int) tb_L_lines ∈ TT := tt_5 (List.mem_of_getElem? (i := 179) rfl) rfl
set_option maxRecDepth 8000 in
theorem w_1254 : Cond.methodLink "ShadowTollsLaw" 189 yL_war ∈ TT := tt_5 (List.mem_of_getElem? (i := 194) rfl) rfl
set_option maxRecDepth 8000 in
theorem w_1255 : Cond.static yL_war ∈ TT := tt_5 (List.mem_of_getElem? (i := 195) rfl) rfl
set_option maxRecDepth 8000 in
theorem w_1256 : Cond.codeWith yL_war cL_war 6 (some .int) tb_L_war ∈ TT := tt_5 (List.mem_of_getElem? (i := 196) rfl) rfl
set_option maxRecDepth 8000 in
theorem w_1289 : Cond.methodLink "ShadowTollsLaw" 192 yL_ledger ∈ TT := tt_5 (List.mem_of_getElem? (i := 229) rfl) rfl
set_option maxRecDepth 8000 in
theorem w_1290 : Cond.static yL_ledger ∈ TT := tt_5 (List.mem_of_getElem? (i := 230) rfl) rfl
set_option maxRecDepth 8000 in
theorem w_1291 : Cond.codeWith yL_ledger cL_ledger 5 (some .int) tb_L_ledger ∈ TT := tt_5 (List.mem_of_getElem? (i := 231) rfl) rfl
set_option maxRecDepth 8000 in
theorem w_1300 : Cond.methodLink "ShadowTollsLaw" 199 yL_fits ∈ TT := tt_6 (List.mem_of_getElem? (i := 0) rfl) rfl
set_option maxRecDepth 8000 in
theorem w_1301 : Cond.static yL_fits ∈ TT := tt_6 (List.mem_of_getElem? (i := 1) rfl) rfl
set_option maxRecDepth 8000 in
theorem w_1302 : Cond.codeWith yL_fits cL_fits 6 (some .int) tb_L_fits ∈ TT := tt_6 (List.mem_of_getElem? (i := 2) rfl) rfl
set_option maxRecDepth 8000 in
theorem w_1312 : Cond.methodLink "ShadowTollsLaw" 206 yL_season ∈ TT := tt_6 (List.mem_of_getElem? (i := 12) rfl) rfl
set_option maxRecDepth 8000 in
theorem w_1313 : Cond.static yL_season ∈ TT := tt_6 (List.mem_of_getElem? (i := 13) rfl) rfl
set_option maxRecDepth 8000 in
theorem w_1314 : Cond.codeWith yL_season cL_season 6 (some .int) tb_L_season ∈ TT := tt_6 (List.mem_of_getElem? (i := 14) rfl) rfl
set_option maxRecDepth 8000 in
theorem w_1335 : Cond.methodLink "ShadowTollsLaw" 209 yL_span ∈ TT := tt_6 (List.mem_of_getElem? (i := 35) rfl) rfl
set_option maxRecDepth 8000 in
theorem w_1336 : Cond.static yL_span ∈ TT := tt_6 (List.mem_of_getElem? (i := 36) rfl) rfl
set_option maxRecDepth 8000 in
theorem w_1337 : Cond.codeWith yL_span cL_span 8 (some .int) tb_L_span ∈ TT := tt_6 (List.mem_of_getElem? (i := 37) rfl) rfl
set_option maxRecDepth 8000 in
theorem w_1515 : Cond.methodLink "ShadowTollsLaw" 110 yX9_thrown ∈ TT := tt_6 (List.mem_of_getElem? (i := 215) rfl) rfl
set_option maxRecDepth 8000 in
theorem w_1516 : Cond.instanceMethod yX9_thrown ∈ TT := tt_6 (List.mem_of_getElem? (i := 216) rfl) rfl
set_option maxRecDepth 8000 in
theorem w_1517 : Cond.selects RX9 yX9_thrown yX9_thrown ∈ TT := tt_6 (List.mem_of_getElem? (i := 217) rfl) rfl
set_option maxRecDepth 8000 in
theorem w_1518 : Cond.code yX9_thrown cX9_thrown 1 (some .int) ∈ TT := tt_6 (List.mem_of_getElem? (i := 218) rfl) rfl
set_option maxRecDepth 8000 in
theorem w_1519 : Cond.methodLink "ShadowTollsLaw" 103 yX9_feed ∈ TT := tt_6 (List.mem_of_getElem? (i := 219) rfl) rfl
set_option maxRecDepth 8000 in
theorem w_1520 : Cond.instanceMethod yX9_feed ∈ TT := tt_6 (List.mem_of_getElem? (i := 220) rfl) rfl
set_option maxRecDepth 8000 in
theorem w_1521 : Cond.selects RX9 yX9_feed yX9_feed ∈ TT := tt_6 (List.mem_of_getElem? (i := 221) rfl) rfl
set_option maxRecDepth 8000 in
theorem w_1522 : Cond.code yX9_feed cX9_feed 8 (some .int) ∈ TT := tt_6 (List.mem_of_getElem? (i := 222) rfl) rfl
set_option maxRecDepth 8000 in
theorem w_1523 : Cond.methodLink "ShadowTollsLaw" 109 yX9_bridge ∈ TT := tt_6 (List.mem_of_getElem? (i := 223) rfl) rfl
set_option maxRecDepth 8000 in
theorem w_1524 : Cond.instanceMethod yX9_bridge ∈ TT := tt_6 (List.mem_of_getElem? (i := 224) rfl) rfl
set_option maxRecDepth 8000 in
theorem w_1525 : Cond.selects RX9 yX9_bridge yX9_bridge ∈ TT := tt_6 (List.mem_of_getElem? (i := 225) rfl) rfl
set_option maxRecDepth 8000 in
theorem w_1526 : Cond.code yX9_bridge cX9_bridge 4 (some .int) ∈ TT := tt_6 (List.mem_of_getElem? (i := 226) rfl) rfl
set_option maxRecDepth 8000 in
theorem w_1600 : Cond.methodLink "ShadowTollsLaw" 116 yX9_toll ∈ TT := tt_7 (List.mem_of_getElem? (i := 60) rfl) rfl
set_option maxRecDepth 8000 in
theorem w_1601 : Cond.instanceMethod yX9_toll ∈ TT := tt_7 (List.mem_of_getElem? (i := 61) rfl) rfl
set_option maxRecDepth 8000 in
theorem w_1602 : Cond.selects RX9 yX9_toll yX9_toll ∈ TT := tt_7 (List.mem_of_getElem? (i := 62) rfl) rfl
set_option maxRecDepth 8000 in
theorem w_1603 : Cond.code yX9_toll cX9_toll 2 (some .int) ∈ TT := tt_7 (List.mem_of_getElem? (i := 63) rfl) rfl
set_option maxRecDepth 8000 in
theorem w_1656 : Cond.methodLink "ShadowTollsLaw" 120 yX9_fault ∈ TT := tt_7 (List.mem_of_getElem? (i := 116) rfl) rfl
set_option maxRecDepth 8000 in
theorem w_1657 : Cond.instanceMethod yX9_fault ∈ TT := tt_7 (List.mem_of_getElem? (i := 117) rfl) rfl
set_option maxRecDepth 8000 in
theorem w_1658 : Cond.selects RX9 yX9_fault yX9_fault ∈ TT := tt_7 (List.mem_of_getElem? (i := 118) rfl) rfl
set_option maxRecDepth 8000 in
theorem w_1659 : Cond.code yX9_fault cX9_fault 1 (some .int) ∈ TT := tt_7 (List.mem_of_getElem? (i := 119) rfl) rfl
set_option maxRecDepth 8000 in
theorem w_1660 : Cond.methodLink "ShadowTollsLaw" 123 yX9_told ∈ TT := tt_7 (List.mem_of_getElem? (i := 120) rfl) rfl
set_option maxRecDepth 8000 in
theorem w_1661 : Cond.instanceMethod yX9_told ∈ TT := tt_7 (List.mem_of_getElem? (i := 121) rfl) rfl
set_option maxRecDepth 8000 in
theorem w_1662 : Cond.selects RX9 yX9_told yX9_told ∈ TT := tt_7 (List.mem_of_getElem? (i := 122) rfl) rfl
set_option maxRecDepth 8000 in
theorem w_1663 : Cond.code yX9_told cX9_told 2 (some .int) ∈ TT := tt_7 (List.mem_of_getElem? (i := 123) rfl) rfl
set_option maxRecDepth 8000 in
theorem w_1664 : Cond.methodLink "ShadowTollsLaw" 127 yX9_traveller ∈ TT := tt_7 (List.mem_of_getElem? (i := 124) rfl) rfl
set_option maxRecDepth 8000 in
theorem w_1665 : Cond.instanceMethod yX9_traveller ∈ TT := tt_7 (List.mem_of_getElem? (i := 125) rfl) rfl
set_option maxRecDepth 8000 in
theorem w_1666 : Cond.selects RX9 yX9_traveller yX9_traveller ∈ TT := tt_7 (List.mem_of_getElem? (i := 126) rfl) rfl
set_option maxRecDepth 8000 in
theorem w_1667 : Cond.code yX9_traveller cX9_traveller 3 (some .int) ∈ TT := tt_7 (List.mem_of_getElem? (i := 127) rfl) rfl
set_option maxRecDepth 8000 in
theorem w_1672 : Cond.methodLink "ShadowTollsLaw" 130 yX9_day ∈ TT := tt_7 (List.mem_of_getElem? (i := 132) rfl) rfl
set_option maxRecDepth 8000 in
theorem w_1673 : Cond.instanceMethod yX9_day ∈ TT := tt_7 (List.mem_of_getElem? (i := 133) rfl) rfl
set_option maxRecDepth 8000 in
theorem w_1674 : Cond.selects RX9 yX9_day yX9_day ∈ TT := tt_7 (List.mem_of_getElem? (i := 134) rfl) rfl
set_option maxRecDepth 8000 in
theorem w_1675 : Cond.code yX9_day cX9_day 3 (some .int) ∈ TT := tt_7 (List.mem_of_getElem? (i := 135) rfl) rfl
set_option maxRecDepth 8000 in
theorem w_1683 : Cond.methodLink "ShadowTollsLaw" 134 yX9_altitude ∈ TT := tt_7 (List.mem_of_getElem? (i := 143) rfl) rfl
set_option maxRecDepth 8000 in
theorem w_1684 : Cond.instanceMethod yX9_altitude ∈ TT := tt_7 (List.mem_of_getElem? (i := 144) rfl) rfl
set_option maxRecDepth 8000 in
theorem w_1685 : Cond.selects RX9 yX9_altitude yX9_altitude ∈ TT := tt_7 (List.mem_of_getElem? (i := 145) rfl) rfl
set_option maxRecDepth 8000 in
theorem w_1686 : Cond.code yX9_altitude cX9_altitude 4 (some .int) ∈ TT := tt_7 (List.mem_of_getElem? (i := 146) rfl) rfl
set_option maxRecDepth 8000 in
theorem w_1701 : Cond.methodLink "ShadowTollsLaw" 138 yX9_shadow ∈ TT := tt_7 (List.mem_of_getElem? (i := 161) rfl) rfl
set_option maxRecDepth 8000 in
theorem w_1702 : Cond.instanceMethod yX9_shadow ∈ TT := tt_7 (List.mem_of_getElem? (i := 162) rfl) rfl
set_option maxRecDepth 8000 in
theorem w_1703 : Cond.selects RX9 yX9_shadow yX9_shadow ∈ TT := tt_7 (List.mem_of_getElem? (i := 163) rfl) rfl
set_option maxRecDepth 8000 in
theorem w_1704 : Cond.code yX9_shadow cX9_shadow 5 (some .int) ∈ TT := tt_7 (List.mem_of_getElem? (i := 164) rfl) rfl
set_option maxRecDepth 8000 in
theorem w_1709 : Cond.methodLink "ShadowTollsLaw" 141 yX9_law ∈ TT := tt_7 (List.mem_of_getElem? (i := 169) rfl) rfl
set_option maxRecDepth 8000 in
theorem w_1710 : Cond.instanceMethod yX9_law ∈ TT := tt_7 (List.mem_of_getElem? (i := 170) rfl) rfl
set_option maxRecDepth 8000 in
theorem w_1711 : Cond.selects RX9 yX9_law yX9_law ∈ TT := tt_7 (List.mem_of_getElem? (i := 171) rfl) rfl
set_option maxRecDepth 8000 in
theorem w_1712 : Cond.code yX9_law cX9_law 4 (some .int) ∈ TT := tt_7 (List.mem_of_getElem? (i := 172) rfl) rfl
set_option maxRecDepth 8000 in
theorem w_1713 : Cond.methodLink "ShadowTollsLaw" 145 yX9_coins ∈ TT := tt_7 (List.mem_of_getElem? (i := 173) rfl) rfl
set_option maxRecDepth 8000 in
theorem w_1714 : Cond.instanceMethod yX9_coins ∈ TT := tt_7 (List.mem_of_getElem? (i := 174) rfl) rfl
set_option maxRecDepth 8000 in
theorem w_1715 : Cond.selects RX9 yX9_coins yX9_coins ∈ TT := tt_7 (List.mem_of_getElem? (i := 175) rfl) rfl
set_option maxRecDepth 8000 in
theorem w_1716 : Cond.code yX9_coins cX9_coins 6 (some .int) ∈ TT := tt_7 (List.mem_of_getElem? (i := 176) rfl) rfl
set_option maxRecDepth 8000 in
theorem w_1733 : Cond.methodLink "ShadowTollsLaw" 148 yX9_best ∈ TT := tt_7 (List.mem_of_getElem? (i := 193) rfl) rfl
set_option maxRecDepth 8000 in
theorem w_1734 : Cond.instanceMethod yX9_best ∈ TT := tt_7 (List.mem_of_getElem? (i := 194) rfl) rfl
set_option maxRecDepth 8000 in
theorem w_1735 : Cond.selects RX9 yX9_best yX9_best ∈ TT := tt_7 (List.mem_of_getElem? (i := 195) rfl) rfl
set_option maxRecDepth 8000 in
theorem w_1736 : Cond.code yX9_best cX9_best 6 (some .int) ∈ TT := tt_7 (List.mem_of_getElem? (i := 196) rfl) rfl
set_option maxRecDepth 8000 in
theorem w_1749 : Cond.methodLink "ShadowTollsLaw" 151 yX9_week ∈ TT := tt_7 (List.mem_of_getElem? (i := 209) rfl) rfl
set_option maxRecDepth 8000 in
theorem w_1750 : Cond.instanceMethod yX9_week ∈ TT := tt_7 (List.mem_of_getElem? (i := 210) rfl) rfl
set_option maxRecDepth 8000 in
theorem w_1751 : Cond.selects RX9 yX9_week yX9_week ∈ TT := tt_7 (List.mem_of_getElem? (i := 211) rfl) rfl
set_option maxRecDepth 8000 in
theorem w_1752 : Cond.code yX9_week cX9_week 7 (some .int) ∈ TT := tt_7 (List.mem_of_getElem? (i := 212) rfl) rfl
set_option maxRecDepth 8000 in
theorem w_1753 : Cond.methodLink "ShadowTollsLaw" 162 yX9_slots ∈ TT := tt_7 (List.mem_of_getElem? (i := 213) rfl) rfl
set_option maxRecDepth 8000 in
theorem w_1754 : Cond.instanceMethod yX9_slots ∈ TT := tt_7 (List.mem_of_getElem? (i := 214) rfl) rfl
set_option maxRecDepth 8000 in
theorem w_1755 : Cond.selects RX9 yX9_slots yX9_slots ∈ TT := tt_7 (List.mem_of_getElem? (i := 215) rfl) rfl
set_option maxRecDepth 8000 in
theorem w_1756 : Cond.code yX9_slots cX9_slots 1 (some .int) ∈ TT := tt_7 (List.mem_of_getElem? (i := 216) rfl) rfl
set_option maxRecDepth 8000 in
theorem w_1761 : Cond.methodLink "ShadowTollsLaw" 155 yX9_plan ∈ TT := tt_7 (List.mem_of_getElem? (i := 221) rfl) rfl
set_option maxRecDepth 8000 in
theorem w_1762 : Cond.instanceMethod yX9_plan ∈ TT := tt_7 (List.mem_of_getElem? (i := 222) rfl) rfl
set_option maxRecDepth 8000 in
theorem w_1763 : Cond.selects RX9 yX9_plan yX9_plan ∈ TT := tt_7 (List.mem_of_getElem? (i := 223) rfl) rfl
set_option maxRecDepth 8000 in
theorem w_1764 : Cond.code yX9_plan cX9_plan 5 (some .int) ∈ TT := tt_7 (List.mem_of_getElem? (i := 224) rfl) rfl
set_option maxRecDepth 8000 in
theorem w_1813 : Cond.methodLink "ShadowTollsLaw" 158 yX9_slot ∈ TT := tt_8 (List.mem_of_getElem? (i := 33) rfl) rfl
set_option maxRecDepth 8000 in
theorem w_1814 : Cond.instanceMethod yX9_slot ∈ TT := tt_8 (List.mem_of_getElem? (i := 34) rfl) rfl
set_option maxRecDepth 8000 in
theorem w_1815 : Cond.selects RX9 yX9_slot yX9_slot ∈ TT := tt_8 (List.mem_of_getElem? (i := 35) rfl) rfl
set_option maxRecDepth 8000 in
theorem w_1816 : Cond.code yX9_slot cX9_slot 6 (some .int) ∈ TT := tt_8 (List.mem_of_getElem? (i := 36) rfl) rfl
set_option maxRecDepth 8000 in
theorem w_1817 : Cond.methodLink "ShadowTollsLaw" 165 yX9_most ∈ TT := tt_8 (List.mem_of_getElem? (i := 37) rfl) rfl
set_option maxRecDepth 8000 in
theorem w_1818 : Cond.instanceMethod yX9_most ∈ TT := tt_8 (List.mem_of_getElem? (i := 38) rfl) rfl
set_option maxRecDepth 8000 in
theorem w_1819 : Cond.selects RX9 yX9_most yX9_most ∈ TT := tt_8 (List.mem_of_getElem? (i := 39) rfl) rfl
set_option maxRecDepth 8000 in
theorem w_1820 : Cond.code yX9_most cX9_most 2 (some .int) ∈ TT := tt_8 (List.mem_of_getElem? (i := 40) rfl) rfl
set_option maxRecDepth 8000 in
theorem w_1825 : Cond.methodLink "ShadowTollsLaw" 168 yX9_cross ∈ TT := tt_8 (List.mem_of_getElem? (i := 45) rfl) rfl
set_option maxRecDepth 8000 in
theorem w_1826 : Cond.instanceMethod yX9_cross ∈ TT := tt_8 (List.mem_of_getElem? (i := 46) rfl) rfl
set_option maxRecDepth 8000 in
theorem w_1827 : Cond.selects RX9 yX9_cross yX9_cross ∈ TT := tt_8 (List.mem_of_getElem? (i := 47) rfl) rfl
set_option maxRecDepth 8000 in
theorem w_1828 : Cond.code yX9_cross cX9_cross 5 (some .int) ∈ TT := tt_8 (List.mem_of_getElem? (i := 48) rfl) rfl
set_option maxRecDepth 8000 in
theorem w_1829 : Cond.methodLink "ShadowTollsLaw" 172 yX9_undo ∈ TT := tt_8 (List.mem_of_getElem? (i := 49) rfl) rfl
set_option maxRecDepth 8000 in
theorem w_1830 : Cond.instanceMethod yX9_undo ∈ TT := tt_8 (List.mem_of_getElem? (i := 50) rfl) rfl
set_option maxRecDepth 8000 in
theorem w_1831 : Cond.selects RX9 yX9_undo yX9_undo ∈ TT := tt_8 (List.mem_of_getElem? (i := 51) rfl) rfl
set_option maxRecDepth 8000 in
theorem w_1832 : Cond.code yX9_undo cX9_undo 1 (some .int) ∈ TT := tt_8 (List.mem_of_getElem? (i := 52) rfl) rfl
set_option maxRecDepth 8000 in
theorem w_1833 : Cond.methodLink "ShadowTollsLaw" 175 yX9_taken ∈ TT := tt_8 (List.mem_of_getElem? (i := 53) rfl) rfl
set_option maxRecDepth 8000 in
theorem w_1834 : Cond.instanceMethod yX9_taken ∈ TT := tt_8 (List.mem_of_getElem? (i := 54) rfl) rfl
set_option maxRecDepth 8000 in
theorem w_1835 : Cond.selects RX9 yX9_taken yX9_taken ∈ TT := tt_8 (List.mem_of_getElem? (i := 55) rfl) rfl
set_option maxRecDepth 8000 in
theorem w_1836 : Cond.code yX9_taken cX9_taken 2 (some .int) ∈ TT := tt_8 (List.mem_of_getElem? (i := 56) rfl) rfl
set_option maxRecDepth 8000 in
theorem w_1841 : Cond.methodLink "ShadowTollsLaw" 178 yX9_write ∈ TT := tt_8 (List.mem_of_getElem? (i := 61) rfl) rfl
set_option maxRecDepth 8000 in
theorem w_1842 : Cond.instanceMethod yX9_write ∈ TT := tt_8 (List.mem_of_getElem? (i := 62) rfl) rfl
set_option maxRecDepth 8000 in
theorem w_1843 : Cond.selects RX9 yX9_write yX9_write ∈ TT := tt_8 (List.mem_of_getElem? (i := 63) rfl) rfl
set_option maxRecDepth 8000 in
theorem w_1844 : Cond.code yX9_write cX9_write 4 (some .int) ∈ TT := tt_8 (List.mem_of_getElem? (i := 64) rfl) rfl
set_option maxRecDepth 8000 in
theorem w_1846 : Cond.methodLink "ShadowTollsLaw" 181 yX9_stolen ∈ TT := tt_8 (List.mem_of_getElem? (i := 66) rfl) rfl
set_option maxRecDepth 8000 in
theorem w_1847 : Cond.instanceMethod yX9_stolen ∈ TT := tt_8 (List.mem_of_getElem? (i := 67) rfl) rfl
set_option maxRecDepth 8000 in
theorem w_1848 : Cond.selects RX9 yX9_stolen yX9_stolen ∈ TT := tt_8 (List.mem_of_getElem? (i := 68) rfl) rfl
set_option maxRecDepth 8000 in
theorem w_1849 : Cond.code yX9_stolen cX9_stolen 2 (some .int) ∈ TT := tt_8 (List.mem_of_getElem? (i := 69) rfl) rfl
set_option maxRecDepth 8000 in
theorem w_1850 : Cond.methodLink "ShadowTollsLaw" 185 yX9_much ∈ TT := tt_8 (List.mem_of_getElem? (i := 70) rfl) rfl
set_option maxRecDepth 8000 in
theorem w_1851 : Cond.instanceMethod yX9_much ∈ TT := tt_8 (List.mem_of_getElem? (i := 71) rfl) rfl
set_option maxRecDepth 8000 in
theorem w_1852 : Cond.selects RX9 yX9_much yX9_much ∈ TT := tt_8 (List.mem_of_getElem? (i := 72) rfl) rfl
set_option maxRecDepth 8000 in
theorem w_1853 : Cond.code yX9_much cX9_much 2 (some .int) ∈ TT := tt_8 (List.mem_of_getElem? (i := 73) rfl) rfl
set_option maxRecDepth 8000 in
theorem w_1854 : Cond.methodLink "ShadowTollsLaw" 188 yX9_lines ∈ TT := tt_8 (List.mem_of_getElem? (i := 74) rfl) rfl
set_option maxRecDepth 8000 in
theorem w_1855 : Cond.instanceMethod yX9_lines ∈ TT := tt_8 (List.mem_of_getElem? (i := 75) rfl) rfl
set_option maxRecDepth 8000 in
theorem w_1856 : Cond.selects RX9 yX9_lines yX9_lines ∈ TT := tt_8 (List.mem_of_getElem? (i := 76) rfl) rfl
set_option maxRecDepth 8000 in
theorem w_1857 : Cond.code yX9_lines cX9_lines 10 (some .int) ∈ TT := tt_8 (List.mem_of_getElem? (i := 77) rfl) rfl
set_option maxRecDepth 8000 in
theorem w_1858 : Cond.methodLink "ShadowTollsLaw" 191 yX9_war ∈ TT := tt_8 (List.mem_of_getElem? (i := 78) rfl) rfl
set_option maxRecDepth 8000 in
theorem w_1859 : Cond.instanceMethod yX9_war ∈ TT := tt_8 (List.mem_of_getElem? (i := 79) rfl) rfl
set_option maxRecDepth 8000 in
theorem w_1860 : Cond.selects RX9 yX9_war yX9_war ∈ TT := tt_8 (List.mem_of_getElem? (i := 80) rfl) rfl
set_option maxRecDepth 8000 in
theorem w_1861 : Cond.code yX9_war cX9_war 7 (some .int) ∈ TT := tt_8 (List.mem_of_getElem? (i := 81) rfl) rfl
set_option maxRecDepth 8000 in
theorem w_1866 : Cond.methodLink "ShadowTollsLaw" 194 yX9_ledger ∈ TT := tt_8 (List.mem_of_getElem? (i := 86) rfl) rfl
set_option maxRecDepth 8000 in
theorem w_1867 : Cond.instanceMethod yX9_ledger ∈ TT := tt_8 (List.mem_of_getElem? (i := 87) rfl) rfl
set_option maxRecDepth 8000 in
theorem w_1868 : Cond.selects RX9 yX9_ledger yX9_ledger ∈ TT := tt_8 (List.mem_of_getElem? (i := 88) rfl) rfl
set_option maxRecDepth 8000 in
theorem w_1869 : Cond.code yX9_ledger cX9_ledger 3 (some .int) ∈ TT := tt_8 (List.mem_of_getElem? (i := 89) rfl) rfl
set_option maxRecDepth 8000 in
theorem w_1870 : Cond.methodLink "ShadowTollsLaw" 198 yX9_forget ∈ TT := tt_8 (List.mem_of_getElem? (i := 90) rfl) rfl
set_option maxRecDepth 8000 in
theorem w_1871 : Cond.instanceMethod yX9_forget ∈ TT := tt_8 (List.mem_of_getElem? (i := 91) rfl) rfl
set_option maxRecDepth 8000 in
theorem w_1872 : Cond.selects RX9 yX9_forget yX9_forget ∈ TT := tt_8 (List.mem_of_getElem? (i := 92) rfl) rfl
set_option maxRecDepth 8000 in
theorem w_1873 : Cond.code yX9_forget cX9_forget 2 (some .int) ∈ TT := tt_8 (List.mem_of_getElem? (i := 93) rfl) rfl
set_option maxRecDepth 8000 in
theorem w_1874 : Cond.methodLink "ShadowTollsLaw" 201 yX9_fits ∈ TT := tt_8 (List.mem_of_getElem? (i := 94) rfl) rfl
set_option maxRecDepth 8000 in
theorem w_1875 : Cond.instanceMethod yX9_fits ∈ TT := tt_8 (List.mem_of_getElem? (i := 95) rfl) rfl
set_option maxRecDepth 8000 in
theorem w_1876 : Cond.selects RX9 yX9_fits yX9_fits ∈ TT := tt_8 (List.mem_of_getElem? (i := 96) rfl) rfl
set_option maxRecDepth 8000 in
theorem w_1877 : Cond.code yX9_fits cX9_fits 10 (some .int) ∈ TT := tt_8 (List.mem_of_getElem? (i := 97) rfl) rfl
set_option maxRecDepth 8000 in
theorem w_1878 : Cond.methodLink "ShadowTollsLaw" 205 yX9_sky ∈ TT := tt_8 (List.mem_of_getElem? (i := 98) rfl) rfl
set_option maxRecDepth 8000 in
theorem w_1879 : Cond.instanceMethod yX9_sky ∈ TT := tt_8 (List.mem_of_getElem? (i := 99) rfl) rfl
set_option maxRecDepth 8000 in
theorem w_1880 : Cond.selects RX9 yX9_sky yX9_sky ∈ TT := tt_8 (List.mem_of_getElem? (i := 100) rfl) rfl
set_option maxRecDepth 8000 in
theorem w_1881 : Cond.code yX9_sky cX9_sky 2 (some .int) ∈ TT := tt_8 (List.mem_of_getElem? (i := 101) rfl) rfl
set_option maxRecDepth 8000 in
theorem w_1887 : Cond.methodLink "ShadowTollsLaw" 208 yX9_season ∈ TT := tt_8 (List.mem_of_getElem? (i := 107) rfl) rfl
set_option maxRecDepth 8000 in
theorem w_1888 : Cond.instanceMethod yX9_season ∈ TT := tt_8 (List.mem_of_getElem? (i := 108) rfl) rfl
set_option maxRecDepth 8000 in
theorem w_1889 : Cond.selects RX9 yX9_season yX9_season ∈ TT := tt_8 (List.mem_of_getElem? (i := 109) rfl) rfl
set_option maxRecDepth 8000 in
theorem w_1890 : Cond.code yX9_season cX9_season 4 (some .int) ∈ TT := tt_8 (List.mem_of_getElem? (i := 110) rfl) rfl
set_option maxRecDepth 8000 in
theorem w_1903 : Cond.methodLink "ShadowTollsLaw" 212 yX9_span ∈ TT := tt_8 (List.mem_of_getElem? (i := 123) rfl) rfl
set_option maxRecDepth 8000 in
theorem w_1904 : Cond.instanceMethod yX9_span ∈ TT := tt_8 (List.mem_of_getElem? (i := 124) rfl) rfl
set_option maxRecDepth 8000 in
theorem w_1905 : Cond.selects RX9 yX9_span yX9_span ∈ TT := tt_8 (List.mem_of_getElem? (i := 125) rfl) rfl
set_option maxRecDepth 8000 in
theorem w_1906 : Cond.code yX9_span cX9_span 9 (some .int) ∈ TT := tt_8 (List.mem_of_getElem? (i := 126) rfl) rfl
set_option maxRecDepth 8000 in
theorem w_1907 : Cond.methodLink "ShadowTollsLaw" 216 yX9_image ∈ TT := tt_8 (List.mem_of_getElem? (i := 127) rfl) rfl
set_option maxRecDepth 8000 in
theorem w_1908 : Cond.instanceMethod yX9_image ∈ TT := tt_8 (List.mem_of_getElem? (i := 128) rfl) rfl
set_option maxRecDepth 8000 in
theorem w_1909 : Cond.selects RX9 yX9_image yX9_image ∈ TT := tt_8 (List.mem_of_getElem? (i := 129) rfl) rfl
set_option maxRecDepth 8000 in
theorem w_1910 : Cond.code yX9_image cX9_image 1 (some .int) ∈ TT := tt_8 (List.mem_of_getElem? (i := 130) rfl) rfl
set_option maxRecDepth 8000 in
theorem w_1919 : Cond.methodLink "ShadowTollsLaw" 220 yX9_restore ∈ TT := tt_8 (List.mem_of_getElem? (i := 139) rfl) rfl
set_option maxRecDepth 8000 in
theorem w_1920 : Cond.instanceMethod yX9_restore ∈ TT := tt_8 (List.mem_of_getElem? (i := 140) rfl) rfl
set_option maxRecDepth 8000 in
theorem w_1921 : Cond.selects RX9 yX9_restore yX9_restore ∈ TT := tt_8 (List.mem_of_getElem? (i := 141) rfl) rfl
set_option maxRecDepth 8000 in
theorem w_1922 : Cond.code yX9_restore cX9_restore 1 (some .int) ∈ TT := tt_8 (List.mem_of_getElem? (i := 142) rfl) rfl
set_option maxRecDepth 8000 in
theorem w_1923 : Cond.methodLink "ShadowTollsLaw" 224 yX9_count ∈ TT := tt_8 (List.mem_of_getElem? (i := 143) rfl) rfl
set_option maxRecDepth 8000 in
theorem w_1924 : Cond.instanceMethod yX9_count ∈ TT := tt_8 (List.mem_of_getElem? (i := 144) rfl) rfl
set_option maxRecDepth 8000 in
theorem w_1925 : Cond.selects RX9 yX9_count yX9_count ∈ TT := tt_8 (List.mem_of_getElem? (i := 145) rfl) rfl
set_option maxRecDepth 8000 in
theorem w_1926 : Cond.code yX9_count cX9_count 4 (some .int) ∈ TT := tt_8 (List.mem_of_getElem? (i := 146) rfl) rfl
def bz (v : Int32) : Int32 := if v = 0 then 0 else 1
theorem g_bool {X : Cx} {M : Mi} {E : Rm} {Q : Qf} {kc pc : Nat} {L : List (Nat × Value)} {st : List Value} {h : Hp} {v : Int32} (d0 : decode M.2.1 pc = .ok (.ifCond .eq 7, 3)) (d1 : decode M.2.1 (pc + 3) = .ok (.iconst 1, 1)) (d2 : decode M.2.1 (pc + 4) = .ok (.goto 4, 3)) (d3 : decode M.2.1 (pc + 7) = .ok (.iconst 0, 1)) (k : G X M E Q kc (pc + 8) L (.int (bz v) :: st) h) : G X M E Q kc pc L (.int v :: st) h := by
  refine g_if_eq (tgt := pc + 7) d0 (by omega) ⟨fun z => ?_, fun z => ?_⟩
  · refine g_iconst (v := 0) d3 (by decide +kernel) ?_
    unfold bz at k
    rw [if_pos z] at k
    exact k
  · refine g_iconst (v := 1) d1 (by decide +kernel) ?_
    refine g_goto (tgt := pc + 8) d2 (by omega) ?_
    unfold bz at k
    rw [if_neg z] at k
    exact k
abbrev M_LAW : Mi := (R_law, cL_law_, 7, some .boolean)
abbrev E_LAW : Rm := (80, 4100, 601024, 7293034)
def rows_LAW_0 : List (Nat × Instr × Nat) := [(0, .new 8, 3), (3, .dup, 1), (4, .invokespecial 96, 3), (7, .astore_n 1, 1), (8, .new 97, 3), (11, .dup, 1), (12, .invokespecial 99, 3), (15, .astore_n 2, 1), (16, .iconst 1, 1), (17, .newarray .long, 2), (19, .astore_n 3, 1), (20, .iconst 0, 1), (21, .istore 4, 2), (23, .iload 4, 2), (25, .aload_n 0, 1), (26, .arraylength, 1), (27, .bipush 6, 2), (29, .isub, 1), (30, .if_icmp .gt 2242, 3), (33, .aload_n 0, 1), (34, .iload 4, 2), (36, .iaload, 1), (37, .bipush 63, 2), (39, .iand, 1), (40, .tableswitch 2226 0 33 #[152, 225, 281, 337, 350, 406, 474, 542, 622, 714, 782, 902, 994, 1062, 1170, 1278, 1291, 1347, 1439, 1452, 1508, 1576, 1632, 1645, 1725, 1805, 1873, 1886, 1966, 1991, 2071, 2175, 2188, 2201], 152), (192, .aload_n 1, 1), (193, .aload_n 0, 1), (194, .iload 4, 2), (196, .iconst 1, 1), (197, .iadd, 1), (198, .iaload, 1), (199, .aload_n 0, 1), (200, .iload 4, 2), (202, .iconst 2, 1), (203, .iadd, 1), (204, .iaload, 1), (205, .aload_n 0, 1), (206, .iload 4, 2), (208, .iconst 3, 1), (209, .iadd, 1), (210, .iaload, 1), (211, .aload_n 0, 1), (212, .iload 4, 2), (214, .iconst 4, 1), (215, .iadd, 1), (216, .iaload, 1), (217, .aload_n 0, 1), (218, .iload 4, 2), (220, .iconst 5, 1), (221, .iadd, 1), (222, .iaload, 1), (223, .invokevirtual 100, 3), (226, .aload_n 2, 1), (227, .aload_n 0, 1), (228, .iload 4, 2), (230, .iconst 1, 1), (231, .iadd, 1), (232, .iaload, 1), (233, .aload_n 0, 1), (234, .iload 4, 2)]
theorem D_LAW_0 : dkA cL_law_ rows_LAW_0 := by
  unfold dkA
  decide +kernel
def rows_LAW_1 : List (Nat × Instr × Nat) := [(236, .iconst 2, 1), (237, .iadd, 1), (238, .iaload, 1), (239, .aload_n 0, 1), (240, .iload 4, 2), (242, .iconst 3, 1), (243, .iadd, 1), (244, .iaload, 1), (245, .aload_n 0, 1), (246, .iload 4, 2), (248, .iconst 4, 1), (249, .iadd, 1), (250, .iaload, 1), (251, .aload_n 0, 1), (252, .iload 4, 2), (254, .iconst 5, 1), (255, .iadd, 1), (256, .iaload, 1), (257, .invokevirtual 103, 3), (260, .if_icmp .eq 2006, 3), (263, .iconst 0, 1), (264, .ireturn, 1), (265, .aload_n 1, 1), (266, .aload_n 0, 1), (267, .iload 4, 2), (269, .iconst 1, 1), (270, .iadd, 1), (271, .iaload, 1), (272, .aload_n 3, 1), (273, .invokestatic 104, 3), (276, .istore 5, 2), (278, .aload_n 2, 1), (279, .aload_n 0, 1), (280, .iload 4, 2), (282, .iconst 1, 1), (283, .iadd, 1), (284, .iaload, 1), (285, .invokevirtual 109, 3), (288, .istore 6, 2), (290, .aload_n 2, 1), (291, .invokevirtual 110, 3), (294, .iload 5, 2), (296, .if_icmp .eq 5, 3), (299, .iconst 0, 1), (300, .ireturn, 1), (301, .iload 5, 2), (303, .ifCond .ne 15, 3), (306, .aload_n 3, 1), (307, .iconst 0, 1), (308, .laload, 1), (309, .iload 6, 2), (311, .i2l, 1), (312, .lcmp, 1), (313, .ifCond .eq 5, 3), (316, .iconst 0, 1), (317, .ireturn, 1), (318, .goto 1948, 3), (321, .aload_n 1, 1), (322, .aload_n 0, 1), (323, .iload 4, 2)]
theorem D_LAW_1 : dkA cL_law_ rows_LAW_1 := by
  unfold dkA
  decide +kernel
def rows_LAW_2 : List (Nat × Instr × Nat) := [(325, .iconst 1, 1), (326, .iadd, 1), (327, .iaload, 1), (328, .aload_n 3, 1), (329, .invokestatic 114, 3), (332, .istore 5, 2), (334, .aload_n 2, 1), (335, .aload_n 0, 1), (336, .iload 4, 2), (338, .iconst 1, 1), (339, .iadd, 1), (340, .iaload, 1), (341, .invokevirtual 116, 3), (344, .istore 6, 2), (346, .aload_n 2, 1), (347, .invokevirtual 110, 3), (350, .iload 5, 2), (352, .if_icmp .eq 5, 3), (355, .iconst 0, 1), (356, .ireturn, 1), (357, .iload 5, 2), (359, .ifCond .ne 15, 3), (362, .aload_n 3, 1), (363, .iconst 0, 1), (364, .laload, 1), (365, .iload 6, 2), (367, .i2l, 1), (368, .lcmp, 1), (369, .ifCond .eq 5, 3), (372, .iconst 0, 1), (373, .ireturn, 1), (374, .goto 1892, 3), (377, .aload_n 1, 1), (378, .invokevirtual 117, 3), (381, .aload_n 2, 1), (382, .invokevirtual 120, 3), (385, .if_icmp .eq 1881, 3), (388, .iconst 0, 1), (389, .ireturn, 1), (390, .aload_n 1, 1), (391, .aload_n 0, 1), (392, .iload 4, 2), (394, .iconst 1, 1), (395, .iadd, 1), (396, .iaload, 1), (397, .aload_n 3, 1), (398, .invokestatic 121, 3), (401, .istore 5, 2), (403, .aload_n 2, 1), (404, .aload_n 0, 1), (405, .iload 4, 2), (407, .iconst 1, 1), (408, .iadd, 1), (409, .iaload, 1), (410, .invokevirtual 123, 3), (413, .istore 6, 2), (415, .aload_n 2, 1), (416, .invokevirtual 110, 3), (419, .iload 5, 2), (421, .if_icmp .eq 5, 3)]
theorem D_LAW_2 : dkA cL_law_ rows_LAW_2 := by
  unfold dkA
  decide +kernel
def rows_LAW_3 : List (Nat × Instr × Nat) := [(424, .iconst 0, 1), (425, .ireturn, 1), (426, .iload 5, 2), (428, .ifCond .ne 15, 3), (431, .aload_n 3, 1), (432, .iconst 0, 1), (433, .laload, 1), (434, .iload 6, 2), (436, .i2l, 1), (437, .lcmp, 1), (438, .ifCond .eq 5, 3), (441, .iconst 0, 1), (442, .ireturn, 1), (443, .goto 1823, 3), (446, .aload_n 1, 1), (447, .aload_n 0, 1), (448, .iload 4, 2), (450, .iconst 1, 1), (451, .iadd, 1), (452, .iaload, 1), (453, .aload_n 0, 1), (454, .iload 4, 2), (456, .iconst 2, 1), (457, .iadd, 1), (458, .iaload, 1), (459, .aload_n 3, 1), (460, .invokestatic 124, 3), (463, .istore 5, 2), (465, .aload_n 2, 1), (466, .aload_n 0, 1), (467, .iload 4, 2), (469, .iconst 1, 1), (470, .iadd, 1), (471, .iaload, 1), (472, .aload_n 0, 1), (473, .iload 4, 2), (475, .iconst 2, 1), (476, .iadd, 1), (477, .iaload, 1), (478, .invokevirtual 127, 3), (481, .istore 6, 2), (483, .aload_n 2, 1), (484, .invokevirtual 110, 3), (487, .iload 5, 2), (489, .if_icmp .eq 5, 3), (492, .iconst 0, 1), (493, .ireturn, 1), (494, .iload 5, 2), (496, .ifCond .ne 15, 3), (499, .aload_n 3, 1), (500, .iconst 0, 1), (501, .laload, 1), (502, .iload 6, 2), (504, .i2l, 1), (505, .lcmp, 1), (506, .ifCond .eq 5, 3), (509, .iconst 0, 1), (510, .ireturn, 1), (511, .goto 1755, 3), (514, .aload_n 1, 1)]
theorem D_LAW_3 : dkA cL_law_ rows_LAW_3 := by
  unfold dkA
  decide +kernel
def rows_LAW_4 : List (Nat × Instr × Nat) := [(515, .aload_n 0, 1), (516, .iload 4, 2), (518, .iconst 1, 1), (519, .iadd, 1), (520, .iaload, 1), (521, .aload_n 0, 1), (522, .iload 4, 2), (524, .iconst 2, 1), (525, .iadd, 1), (526, .iaload, 1), (527, .aload_n 3, 1), (528, .invokestatic 128, 3), (531, .istore 5, 2), (533, .aload_n 2, 1), (534, .aload_n 0, 1), (535, .iload 4, 2), (537, .iconst 1, 1), (538, .iadd, 1), (539, .iaload, 1), (540, .aload_n 0, 1), (541, .iload 4, 2), (543, .iconst 2, 1), (544, .iadd, 1), (545, .iaload, 1), (546, .invokevirtual 130, 3), (549, .istore 6, 2), (551, .aload_n 2, 1), (552, .invokevirtual 110, 3), (555, .iload 5, 2), (557, .if_icmp .eq 5, 3), (560, .iconst 0, 1), (561, .ireturn, 1), (562, .iload 5, 2), (564, .ifCond .ne 15, 3), (567, .aload_n 3, 1), (568, .iconst 0, 1), (569, .laload, 1), (570, .iload 6, 2), (572, .i2l, 1), (573, .lcmp, 1), (574, .ifCond .eq 5, 3), (577, .iconst 0, 1), (578, .ireturn, 1), (579, .goto 1687, 3), (582, .aload_n 1, 1), (583, .aload_n 0, 1), (584, .iload 4, 2), (586, .iconst 1, 1), (587, .iadd, 1), (588, .iaload, 1), (589, .aload_n 0, 1), (590, .iload 4, 2), (592, .iconst 2, 1), (593, .iadd, 1), (594, .iaload, 1), (595, .aload_n 0, 1), (596, .iload 4, 2), (598, .iconst 3, 1), (599, .iadd, 1), (600, .iaload, 1)]
theorem D_LAW_4 : dkA cL_law_ rows_LAW_4 := by
  unfold dkA
  decide +kernel
def rows_LAW_5 : List (Nat × Instr × Nat) := [(601, .aload_n 3, 1), (602, .invokestatic 131, 3), (605, .istore 5, 2), (607, .aload_n 2, 1), (608, .aload_n 0, 1), (609, .iload 4, 2), (611, .iconst 1, 1), (612, .iadd, 1), (613, .iaload, 1), (614, .aload_n 0, 1), (615, .iload 4, 2), (617, .iconst 2, 1), (618, .iadd, 1), (619, .iaload, 1), (620, .aload_n 0, 1), (621, .iload 4, 2), (623, .iconst 3, 1), (624, .iadd, 1), (625, .iaload, 1), (626, .invokevirtual 134, 3), (629, .istore 6, 2), (631, .aload_n 2, 1), (632, .invokevirtual 110, 3), (635, .iload 5, 2), (637, .if_icmp .eq 5, 3), (640, .iconst 0, 1), (641, .ireturn, 1), (642, .iload 5, 2), (644, .ifCond .ne 15, 3), (647, .aload_n 3, 1), (648, .iconst 0, 1), (649, .laload, 1), (650, .iload 6, 2), (652, .i2l, 1), (653, .lcmp, 1), (654, .ifCond .eq 5, 3), (657, .iconst 0, 1), (658, .ireturn, 1), (659, .goto 1607, 3), (662, .aload_n 1, 1), (663, .aload_n 0, 1), (664, .iload 4, 2), (666, .iconst 1, 1), (667, .iadd, 1), (668, .iaload, 1), (669, .aload_n 0, 1), (670, .iload 4, 2), (672, .iconst 2, 1), (673, .iadd, 1), (674, .iaload, 1), (675, .aload_n 0, 1), (676, .iload 4, 2), (678, .iconst 3, 1), (679, .iadd, 1), (680, .iaload, 1), (681, .aload_n 0, 1), (682, .iload 4, 2), (684, .iconst 4, 1), (685, .iadd, 1), (686, .iaload, 1)]
theorem D_LAW_5 : dkA cL_law_ rows_LAW_5 := by
  unfold dkA
  decide +kernel
def rows_LAW_6 : List (Nat × Instr × Nat) := [(687, .aload_n 3, 1), (688, .invokestatic 135, 3), (691, .istore 5, 2), (693, .aload_n 2, 1), (694, .aload_n 0, 1), (695, .iload 4, 2), (697, .iconst 1, 1), (698, .iadd, 1), (699, .iaload, 1), (700, .aload_n 0, 1), (701, .iload 4, 2), (703, .iconst 2, 1), (704, .iadd, 1), (705, .iaload, 1), (706, .aload_n 0, 1), (707, .iload 4, 2), (709, .iconst 3, 1), (710, .iadd, 1), (711, .iaload, 1), (712, .aload_n 0, 1), (713, .iload 4, 2), (715, .iconst 4, 1), (716, .iadd, 1), (717, .iaload, 1), (718, .invokevirtual 138, 3), (721, .istore 6, 2), (723, .aload_n 2, 1), (724, .invokevirtual 110, 3), (727, .iload 5, 2), (729, .if_icmp .eq 5, 3), (732, .iconst 0, 1), (733, .ireturn, 1), (734, .iload 5, 2), (736, .ifCond .ne 15, 3), (739, .aload_n 3, 1), (740, .iconst 0, 1), (741, .laload, 1), (742, .iload 6, 2), (744, .i2l, 1), (745, .lcmp, 1), (746, .ifCond .eq 5, 3), (749, .iconst 0, 1), (750, .ireturn, 1), (751, .goto 1515, 3), (754, .aload_n 1, 1), (755, .aload_n 0, 1), (756, .iload 4, 2), (758, .iconst 1, 1), (759, .iadd, 1), (760, .iaload, 1), (761, .aload_n 0, 1), (762, .iload 4, 2), (764, .iconst 2, 1), (765, .iadd, 1), (766, .iaload, 1), (767, .aload_n 3, 1), (768, .invokestatic 139, 3), (771, .istore 5, 2), (773, .aload_n 2, 1), (774, .aload_n 0, 1)]
theorem D_LAW_6 : dkA cL_law_ rows_LAW_6 := by
  unfold dkA
  decide +kernel
def rows_LAW_7 : List (Nat × Instr × Nat) := [(775, .iload 4, 2), (777, .iconst 1, 1), (778, .iadd, 1), (779, .iaload, 1), (780, .aload_n 0, 1), (781, .iload 4, 2), (783, .iconst 2, 1), (784, .iadd, 1), (785, .iaload, 1), (786, .invokevirtual 141, 3), (789, .istore 6, 2), (791, .aload_n 2, 1), (792, .invokevirtual 110, 3), (795, .iload 5, 2), (797, .if_icmp .eq 5, 3), (800, .iconst 0, 1), (801, .ireturn, 1), (802, .iload 5, 2), (804, .ifCond .ne 15, 3), (807, .aload_n 3, 1), (808, .iconst 0, 1), (809, .laload, 1), (810, .iload 6, 2), (812, .i2l, 1), (813, .lcmp, 1), (814, .ifCond .eq 5, 3), (817, .iconst 0, 1), (818, .ireturn, 1), (819, .goto 1447, 3), (822, .aload_n 1, 1), (823, .aload_n 0, 1), (824, .iload 4, 2), (826, .iconst 1, 1), (827, .iadd, 1), (828, .iaload, 1), (829, .aload_n 0, 1), (830, .iload 4, 2), (832, .iconst 2, 1), (833, .iadd, 1), (834, .iaload, 1), (835, .aload_n 0, 1), (836, .iload 4, 2), (838, .iconst 3, 1), (839, .iadd, 1), (840, .iaload, 1), (841, .aload_n 0, 1), (842, .iload 4, 2), (844, .iconst 4, 1), (845, .iadd, 1), (846, .iaload, 1), (847, .aload_n 0, 1), (848, .iload 4, 2), (850, .iconst 5, 1), (851, .iadd, 1), (852, .iaload, 1), (853, .ifCond .eq 7, 3), (856, .iconst 1, 1), (857, .goto 4, 3), (860, .iconst 0, 1), (861, .aload_n 3, 1)]
theorem D_LAW_7 : dkA cL_law_ rows_LAW_7 := by
  unfold dkA
  decide +kernel
def rows_LAW_8 : List (Nat × Instr × Nat) := [(862, .invokestatic 142, 3), (865, .istore 5, 2), (867, .aload_n 2, 1), (868, .aload_n 0, 1), (869, .iload 4, 2), (871, .iconst 1, 1), (872, .iadd, 1), (873, .iaload, 1), (874, .aload_n 0, 1), (875, .iload 4, 2), (877, .iconst 2, 1), (878, .iadd, 1), (879, .iaload, 1), (880, .aload_n 0, 1), (881, .iload 4, 2), (883, .iconst 3, 1), (884, .iadd, 1), (885, .iaload, 1), (886, .aload_n 0, 1), (887, .iload 4, 2), (889, .iconst 4, 1), (890, .iadd, 1), (891, .iaload, 1), (892, .aload_n 0, 1), (893, .iload 4, 2), (895, .iconst 5, 1), (896, .iadd, 1), (897, .iaload, 1), (898, .ifCond .eq 7, 3), (901, .iconst 1, 1), (902, .goto 4, 3), (905, .iconst 0, 1), (906, .invokevirtual 145, 3), (909, .istore 6, 2), (911, .aload_n 2, 1), (912, .invokevirtual 110, 3), (915, .iload 5, 2), (917, .if_icmp .eq 5, 3), (920, .iconst 0, 1), (921, .ireturn, 1), (922, .iload 5, 2), (924, .ifCond .ne 15, 3), (927, .aload_n 3, 1), (928, .iconst 0, 1), (929, .laload, 1), (930, .iload 6, 2), (932, .i2l, 1), (933, .lcmp, 1), (934, .ifCond .eq 5, 3), (937, .iconst 0, 1), (938, .ireturn, 1), (939, .goto 1327, 3), (942, .aload_n 1, 1), (943, .aload_n 0, 1), (944, .iload 4, 2), (946, .iconst 1, 1), (947, .iadd, 1), (948, .iaload, 1), (949, .aload_n 0, 1), (950, .iload 4, 2)]
theorem D_LAW_8 : dkA cL_law_ rows_LAW_8 := by
  unfold dkA
  decide +kernel
def rows_LAW_9 : List (Nat × Instr × Nat) := [(952, .iconst 2, 1), (953, .iadd, 1), (954, .iaload, 1), (955, .aload_n 0, 1), (956, .iload 4, 2), (958, .iconst 3, 1), (959, .iadd, 1), (960, .iaload, 1), (961, .aload_n 0, 1), (962, .iload 4, 2), (964, .iconst 4, 1), (965, .iadd, 1), (966, .iaload, 1), (967, .aload_n 3, 1), (968, .invokestatic 146, 3), (971, .istore 5, 2), (973, .aload_n 2, 1), (974, .aload_n 0, 1), (975, .iload 4, 2), (977, .iconst 1, 1), (978, .iadd, 1), (979, .iaload, 1), (980, .aload_n 0, 1), (981, .iload 4, 2), (983, .iconst 2, 1), (984, .iadd, 1), (985, .iaload, 1), (986, .aload_n 0, 1), (987, .iload 4, 2), (989, .iconst 3, 1), (990, .iadd, 1), (991, .iaload, 1), (992, .aload_n 0, 1), (993, .iload 4, 2), (995, .iconst 4, 1), (996, .iadd, 1), (997, .iaload, 1), (998, .invokevirtual 148, 3), (1001, .istore 6, 2), (1003, .aload_n 2, 1), (1004, .invokevirtual 110, 3), (1007, .iload 5, 2), (1009, .if_icmp .eq 5, 3), (1012, .iconst 0, 1), (1013, .ireturn, 1), (1014, .iload 5, 2), (1016, .ifCond .ne 15, 3), (1019, .aload_n 3, 1), (1020, .iconst 0, 1), (1021, .laload, 1), (1022, .iload 6, 2), (1024, .i2l, 1), (1025, .lcmp, 1), (1026, .ifCond .eq 5, 3), (1029, .iconst 0, 1), (1030, .ireturn, 1), (1031, .goto 1235, 3), (1034, .aload_n 1, 1), (1035, .aload_n 0, 1), (1036, .iload 4, 2)]
theorem D_LAW_9 : dkA cL_law_ rows_LAW_9 := by
  unfold dkA
  decide +kernel
def rows_LAW_10 : List (Nat × Instr × Nat) := [(1038, .iconst 1, 1), (1039, .iadd, 1), (1040, .iaload, 1), (1041, .aload_n 0, 1), (1042, .iload 4, 2), (1044, .iconst 2, 1), (1045, .iadd, 1), (1046, .iaload, 1), (1047, .aload_n 3, 1), (1048, .invokestatic 149, 3), (1051, .istore 5, 2), (1053, .aload_n 2, 1), (1054, .aload_n 0, 1), (1055, .iload 4, 2), (1057, .iconst 1, 1), (1058, .iadd, 1), (1059, .iaload, 1), (1060, .aload_n 0, 1), (1061, .iload 4, 2), (1063, .iconst 2, 1), (1064, .iadd, 1), (1065, .iaload, 1), (1066, .invokevirtual 151, 3), (1069, .istore 6, 2), (1071, .aload_n 2, 1), (1072, .invokevirtual 110, 3), (1075, .iload 5, 2), (1077, .if_icmp .eq 5, 3), (1080, .iconst 0, 1), (1081, .ireturn, 1), (1082, .iload 5, 2), (1084, .ifCond .ne 15, 3), (1087, .aload_n 3, 1), (1088, .iconst 0, 1), (1089, .laload, 1), (1090, .iload 6, 2), (1092, .i2l, 1), (1093, .lcmp, 1), (1094, .ifCond .eq 5, 3), (1097, .iconst 0, 1), (1098, .ireturn, 1), (1099, .goto 1167, 3), (1102, .aload_n 1, 1), (1103, .aload_n 0, 1), (1104, .iload 4, 2), (1106, .iconst 1, 1), (1107, .iadd, 1), (1108, .iaload, 1), (1109, .aload_n 0, 1), (1110, .iload 4, 2), (1112, .iconst 2, 1), (1113, .iadd, 1), (1114, .iaload, 1), (1115, .aload_n 0, 1), (1116, .iload 4, 2), (1118, .iconst 3, 1), (1119, .iadd, 1), (1120, .iaload, 1), (1121, .ifCond .eq 7, 3), (1124, .iconst 1, 1)]
theorem D_LAW_10 : dkA cL_law_ rows_LAW_10 := by
  unfold dkA
  decide +kernel
def rows_LAW_11 : List (Nat × Instr × Nat) := [(1125, .goto 4, 3), (1128, .iconst 0, 1), (1129, .aload_n 0, 1), (1130, .iload 4, 2), (1132, .iconst 4, 1), (1133, .iadd, 1), (1134, .iaload, 1), (1135, .aload_n 3, 1), (1136, .invokestatic 152, 3), (1139, .istore 5, 2), (1141, .aload_n 2, 1), (1142, .aload_n 0, 1), (1143, .iload 4, 2), (1145, .iconst 1, 1), (1146, .iadd, 1), (1147, .iaload, 1), (1148, .aload_n 0, 1), (1149, .iload 4, 2), (1151, .iconst 2, 1), (1152, .iadd, 1), (1153, .iaload, 1), (1154, .aload_n 0, 1), (1155, .iload 4, 2), (1157, .iconst 3, 1), (1158, .iadd, 1), (1159, .iaload, 1), (1160, .ifCond .eq 7, 3), (1163, .iconst 1, 1), (1164, .goto 4, 3), (1167, .iconst 0, 1), (1168, .aload_n 0, 1), (1169, .iload 4, 2), (1171, .iconst 4, 1), (1172, .iadd, 1), (1173, .iaload, 1), (1174, .invokevirtual 155, 3), (1177, .istore 6, 2), (1179, .aload_n 2, 1), (1180, .invokevirtual 110, 3), (1183, .iload 5, 2), (1185, .if_icmp .eq 5, 3), (1188, .iconst 0, 1), (1189, .ireturn, 1), (1190, .iload 5, 2), (1192, .ifCond .ne 15, 3), (1195, .aload_n 3, 1), (1196, .iconst 0, 1), (1197, .laload, 1), (1198, .iload 6, 2), (1200, .i2l, 1), (1201, .lcmp, 1), (1202, .ifCond .eq 5, 3), (1205, .iconst 0, 1), (1206, .ireturn, 1), (1207, .goto 1059, 3), (1210, .aload_n 1, 1), (1211, .aload_n 0, 1), (1212, .iload 4, 2), (1214, .iconst 1, 1), (1215, .iadd, 1)]
theorem D_LAW_11 : dkA cL_law_ rows_LAW_11 := by
  unfold dkA
  decide +kernel
def rows_LAW_12 : List (Nat × Instr × Nat) := [(1216, .iaload, 1), (1217, .aload_n 0, 1), (1218, .iload 4, 2), (1220, .iconst 2, 1), (1221, .iadd, 1), (1222, .iaload, 1), (1223, .aload_n 0, 1), (1224, .iload 4, 2), (1226, .iconst 3, 1), (1227, .iadd, 1), (1228, .iaload, 1), (1229, .ifCond .eq 7, 3), (1232, .iconst 1, 1), (1233, .goto 4, 3), (1236, .iconst 0, 1), (1237, .aload_n 0, 1), (1238, .iload 4, 2), (1240, .iconst 4, 1), (1241, .iadd, 1), (1242, .iaload, 1), (1243, .aload_n 3, 1), (1244, .invokestatic 156, 3), (1247, .istore 5, 2), (1249, .aload_n 2, 1), (1250, .aload_n 0, 1), (1251, .iload 4, 2), (1253, .iconst 1, 1), (1254, .iadd, 1), (1255, .iaload, 1), (1256, .aload_n 0, 1), (1257, .iload 4, 2), (1259, .iconst 2, 1), (1260, .iadd, 1), (1261, .iaload, 1), (1262, .aload_n 0, 1), (1263, .iload 4, 2), (1265, .iconst 3, 1), (1266, .iadd, 1), (1267, .iaload, 1), (1268, .ifCond .eq 7, 3), (1271, .iconst 1, 1), (1272, .goto 4, 3), (1275, .iconst 0, 1), (1276, .aload_n 0, 1), (1277, .iload 4, 2), (1279, .iconst 4, 1), (1280, .iadd, 1), (1281, .iaload, 1), (1282, .invokevirtual 158, 3), (1285, .istore 6, 2), (1287, .aload_n 2, 1), (1288, .invokevirtual 110, 3), (1291, .iload 5, 2), (1293, .if_icmp .eq 5, 3), (1296, .iconst 0, 1), (1297, .ireturn, 1), (1298, .iload 5, 2), (1300, .ifCond .ne 15, 3), (1303, .aload_n 3, 1), (1304, .iconst 0, 1)]
theorem D_LAW_12 : dkA cL_law_ rows_LAW_12 := by
  unfold dkA
  decide +kernel
def rows_LAW_13 : List (Nat × Instr × Nat) := [(1305, .laload, 1), (1306, .iload 6, 2), (1308, .i2l, 1), (1309, .lcmp, 1), (1310, .ifCond .eq 5, 3), (1313, .iconst 0, 1), (1314, .ireturn, 1), (1315, .goto 951, 3), (1318, .aload_n 1, 1), (1319, .invokevirtual 159, 3), (1322, .aload_n 2, 1), (1323, .invokevirtual 162, 3), (1326, .if_icmp .eq 940, 3), (1329, .iconst 0, 1), (1330, .ireturn, 1), (1331, .aload_n 1, 1), (1332, .aload_n 0, 1), (1333, .iload 4, 2), (1335, .iconst 1, 1), (1336, .iadd, 1), (1337, .iaload, 1), (1338, .aload_n 3, 1), (1339, .invokestatic 163, 3), (1342, .istore 5, 2), (1344, .aload_n 2, 1), (1345, .aload_n 0, 1), (1346, .iload 4, 2), (1348, .iconst 1, 1), (1349, .iadd, 1), (1350, .iaload, 1), (1351, .invokevirtual 165, 3), (1354, .istore 6, 2), (1356, .aload_n 2, 1), (1357, .invokevirtual 110, 3), (1360, .iload 5, 2), (1362, .if_icmp .eq 5, 3), (1365, .iconst 0, 1), (1366, .ireturn, 1), (1367, .iload 5, 2), (1369, .ifCond .ne 15, 3), (1372, .aload_n 3, 1), (1373, .iconst 0, 1), (1374, .laload, 1), (1375, .iload 6, 2), (1377, .i2l, 1), (1378, .lcmp, 1), (1379, .ifCond .eq 5, 3), (1382, .iconst 0, 1), (1383, .ireturn, 1), (1384, .goto 882, 3), (1387, .aload_n 1, 1), (1388, .aload_n 0, 1), (1389, .iload 4, 2), (1391, .iconst 1, 1), (1392, .iadd, 1), (1393, .iaload, 1), (1394, .aload_n 0, 1), (1395, .iload 4, 2), (1397, .iconst 2, 1), (1398, .iadd, 1)]
theorem D_LAW_13 : dkA cL_law_ rows_LAW_13 := by
  unfold dkA
  decide +kernel
def rows_LAW_14 : List (Nat × Instr × Nat) := [(1399, .iaload, 1), (1400, .aload_n 0, 1), (1401, .iload 4, 2), (1403, .iconst 3, 1), (1404, .iadd, 1), (1405, .iaload, 1), (1406, .aload_n 0, 1), (1407, .iload 4, 2), (1409, .iconst 4, 1), (1410, .iadd, 1), (1411, .iaload, 1), (1412, .aload_n 3, 1), (1413, .invokestatic 166, 3), (1416, .istore 5, 2), (1418, .aload_n 2, 1), (1419, .aload_n 0, 1), (1420, .iload 4, 2), (1422, .iconst 1, 1), (1423, .iadd, 1), (1424, .iaload, 1), (1425, .aload_n 0, 1), (1426, .iload 4, 2), (1428, .iconst 2, 1), (1429, .iadd, 1), (1430, .iaload, 1), (1431, .aload_n 0, 1), (1432, .iload 4, 2), (1434, .iconst 3, 1), (1435, .iadd, 1), (1436, .iaload, 1), (1437, .aload_n 0, 1), (1438, .iload 4, 2), (1440, .iconst 4, 1), (1441, .iadd, 1), (1442, .iaload, 1), (1443, .invokevirtual 168, 3), (1446, .istore 6, 2), (1448, .aload_n 2, 1), (1449, .invokevirtual 110, 3), (1452, .iload 5, 2), (1454, .if_icmp .eq 5, 3), (1457, .iconst 0, 1), (1458, .ireturn, 1), (1459, .iload 5, 2), (1461, .ifCond .ne 15, 3), (1464, .aload_n 3, 1), (1465, .iconst 0, 1), (1466, .laload, 1), (1467, .iload 6, 2), (1469, .i2l, 1), (1470, .lcmp, 1), (1471, .ifCond .eq 5, 3), (1474, .iconst 0, 1), (1475, .ireturn, 1), (1476, .goto 790, 3), (1479, .aload_n 1, 1), (1480, .invokevirtual 169, 3), (1483, .aload_n 2, 1), (1484, .invokevirtual 172, 3), (1487, .if_icmp .eq 779, 3)]
theorem D_LAW_14 : dkA cL_law_ rows_LAW_14 := by
  unfold dkA
  decide +kernel
def rows_LAW_15 : List (Nat × Instr × Nat) := [(1490, .iconst 0, 1), (1491, .ireturn, 1), (1492, .aload_n 1, 1), (1493, .aload_n 0, 1), (1494, .iload 4, 2), (1496, .iconst 1, 1), (1497, .iadd, 1), (1498, .iaload, 1), (1499, .aload_n 3, 1), (1500, .invokestatic 173, 3), (1503, .istore 5, 2), (1505, .aload_n 2, 1), (1506, .aload_n 0, 1), (1507, .iload 4, 2), (1509, .iconst 1, 1), (1510, .iadd, 1), (1511, .iaload, 1), (1512, .invokevirtual 175, 3), (1515, .istore 6, 2), (1517, .aload_n 2, 1), (1518, .invokevirtual 110, 3), (1521, .iload 5, 2), (1523, .if_icmp .eq 5, 3), (1526, .iconst 0, 1), (1527, .ireturn, 1), (1528, .iload 5, 2), (1530, .ifCond .ne 15, 3), (1533, .aload_n 3, 1), (1534, .iconst 0, 1), (1535, .laload, 1), (1536, .iload 6, 2), (1538, .i2l, 1), (1539, .lcmp, 1), (1540, .ifCond .eq 5, 3), (1543, .iconst 0, 1), (1544, .ireturn, 1), (1545, .goto 721, 3), (1548, .aload_n 1, 1), (1549, .aload_n 0, 1), (1550, .iload 4, 2), (1552, .iconst 1, 1), (1553, .iadd, 1), (1554, .iaload, 1), (1555, .aload_n 0, 1), (1556, .iload 4, 2), (1558, .iconst 2, 1), (1559, .iadd, 1), (1560, .iaload, 1), (1561, .aload_n 3, 1), (1562, .invokestatic 176, 3), (1565, .istore 5, 2), (1567, .aload_n 2, 1), (1568, .aload_n 0, 1), (1569, .iload 4, 2), (1571, .iconst 1, 1), (1572, .iadd, 1), (1573, .iaload, 1), (1574, .aload_n 0, 1), (1575, .iload 4, 2), (1577, .iconst 2, 1)]
theorem D_LAW_15 : dkA cL_law_ rows_LAW_15 := by
  unfold dkA
  decide +kernel
def rows_LAW_16 : List (Nat × Instr × Nat) := [(1578, .iadd, 1), (1579, .iaload, 1), (1580, .invokevirtual 178, 3), (1583, .istore 6, 2), (1585, .aload_n 2, 1), (1586, .invokevirtual 110, 3), (1589, .iload 5, 2), (1591, .if_icmp .eq 5, 3), (1594, .iconst 0, 1), (1595, .ireturn, 1), (1596, .iload 5, 2), (1598, .ifCond .ne 15, 3), (1601, .aload_n 3, 1), (1602, .iconst 0, 1), (1603, .laload, 1), (1604, .iload 6, 2), (1606, .i2l, 1), (1607, .lcmp, 1), (1608, .ifCond .eq 5, 3), (1611, .iconst 0, 1), (1612, .ireturn, 1), (1613, .goto 653, 3), (1616, .aload_n 1, 1), (1617, .aload_n 0, 1), (1618, .iload 4, 2), (1620, .iconst 1, 1), (1621, .iadd, 1), (1622, .iaload, 1), (1623, .aload_n 3, 1), (1624, .invokestatic 179, 3), (1627, .istore 5, 2), (1629, .aload_n 2, 1), (1630, .aload_n 0, 1), (1631, .iload 4, 2), (1633, .iconst 1, 1), (1634, .iadd, 1), (1635, .iaload, 1), (1636, .invokevirtual 181, 3), (1639, .istore 6, 2), (1641, .aload_n 2, 1), (1642, .invokevirtual 110, 3), (1645, .iload 5, 2), (1647, .if_icmp .eq 5, 3), (1650, .iconst 0, 1), (1651, .ireturn, 1), (1652, .iload 5, 2), (1654, .ifCond .ne 15, 3), (1657, .aload_n 3, 1), (1658, .iconst 0, 1), (1659, .laload, 1), (1660, .iload 6, 2), (1662, .i2l, 1), (1663, .lcmp, 1), (1664, .ifCond .eq 5, 3), (1667, .iconst 0, 1), (1668, .ireturn, 1), (1669, .goto 597, 3), (1672, .aload_n 1, 1), (1673, .invokevirtual 182, 3), (1676, .aload_n 2, 1)]
theorem D_LAW_16 : dkA cL_law_ rows_LAW_16 := by
  unfold dkA
  decide +kernel
def rows_LAW_17 : List (Nat × Instr × Nat) := [(1677, .invokevirtual 185, 3), (1680, .if_icmp .eq 586, 3), (1683, .iconst 0, 1), (1684, .ireturn, 1), (1685, .aload_n 1, 1), (1686, .aload_n 0, 1), (1687, .iload 4, 2), (1689, .iconst 1, 1), (1690, .iadd, 1), (1691, .iaload, 1), (1692, .aload_n 0, 1), (1693, .iload 4, 2), (1695, .iconst 2, 1), (1696, .iadd, 1), (1697, .iaload, 1), (1698, .aload_n 0, 1), (1699, .iload 4, 2), (1701, .iconst 3, 1), (1702, .iadd, 1), (1703, .iaload, 1), (1704, .aload_n 3, 1), (1705, .invokestatic 186, 3), (1708, .istore 5, 2), (1710, .aload_n 2, 1), (1711, .aload_n 0, 1), (1712, .iload 4, 2), (1714, .iconst 1, 1), (1715, .iadd, 1), (1716, .iaload, 1), (1717, .aload_n 0, 1), (1718, .iload 4, 2), (1720, .iconst 2, 1), (1721, .iadd, 1), (1722, .iaload, 1), (1723, .aload_n 0, 1), (1724, .iload 4, 2), (1726, .iconst 3, 1), (1727, .iadd, 1), (1728, .iaload, 1), (1729, .invokevirtual 188, 3), (1732, .istore 6, 2), (1734, .aload_n 2, 1), (1735, .invokevirtual 110, 3), (1738, .iload 5, 2), (1740, .if_icmp .eq 5, 3), (1743, .iconst 0, 1), (1744, .ireturn, 1), (1745, .iload 5, 2), (1747, .ifCond .ne 15, 3), (1750, .aload_n 3, 1), (1751, .iconst 0, 1), (1752, .laload, 1), (1753, .iload 6, 2), (1755, .i2l, 1), (1756, .lcmp, 1), (1757, .ifCond .eq 5, 3), (1760, .iconst 0, 1), (1761, .ireturn, 1), (1762, .goto 504, 3), (1765, .aload_n 1, 1)]
theorem D_LAW_17 : dkA cL_law_ rows_LAW_17 := by
  unfold dkA
  decide +kernel
def rows_LAW_18 : List (Nat × Instr × Nat) := [(1766, .aload_n 0, 1), (1767, .iload 4, 2), (1769, .iconst 1, 1), (1770, .iadd, 1), (1771, .iaload, 1), (1772, .aload_n 0, 1), (1773, .iload 4, 2), (1775, .iconst 2, 1), (1776, .iadd, 1), (1777, .iaload, 1), (1778, .aload_n 0, 1), (1779, .iload 4, 2), (1781, .iconst 3, 1), (1782, .iadd, 1), (1783, .iaload, 1), (1784, .aload_n 3, 1), (1785, .invokestatic 189, 3), (1788, .istore 5, 2), (1790, .aload_n 2, 1), (1791, .aload_n 0, 1), (1792, .iload 4, 2), (1794, .iconst 1, 1), (1795, .iadd, 1), (1796, .iaload, 1), (1797, .aload_n 0, 1), (1798, .iload 4, 2), (1800, .iconst 2, 1), (1801, .iadd, 1), (1802, .iaload, 1), (1803, .aload_n 0, 1), (1804, .iload 4, 2), (1806, .iconst 3, 1), (1807, .iadd, 1), (1808, .iaload, 1), (1809, .invokevirtual 191, 3), (1812, .istore 6, 2), (1814, .aload_n 2, 1), (1815, .invokevirtual 110, 3), (1818, .iload 5, 2), (1820, .if_icmp .eq 5, 3), (1823, .iconst 0, 1), (1824, .ireturn, 1), (1825, .iload 5, 2), (1827, .ifCond .ne 15, 3), (1830, .aload_n 3, 1), (1831, .iconst 0, 1), (1832, .laload, 1), (1833, .iload 6, 2), (1835, .i2l, 1), (1836, .lcmp, 1), (1837, .ifCond .eq 5, 3), (1840, .iconst 0, 1), (1841, .ireturn, 1), (1842, .goto 424, 3), (1845, .aload_n 1, 1), (1846, .aload_n 0, 1), (1847, .iload 4, 2), (1849, .iconst 1, 1), (1850, .iadd, 1), (1851, .iaload, 1)]
theorem D_LAW_18 : dkA cL_law_ rows_LAW_18 := by
  unfold dkA
  decide +kernel
def rows_LAW_19 : List (Nat × Instr × Nat) := [(1852, .aload_n 0, 1), (1853, .iload 4, 2), (1855, .iconst 2, 1), (1856, .iadd, 1), (1857, .iaload, 1), (1858, .aload_n 3, 1), (1859, .invokestatic 192, 3), (1862, .istore 5, 2), (1864, .aload_n 2, 1), (1865, .aload_n 0, 1), (1866, .iload 4, 2), (1868, .iconst 1, 1), (1869, .iadd, 1), (1870, .iaload, 1), (1871, .aload_n 0, 1), (1872, .iload 4, 2), (1874, .iconst 2, 1), (1875, .iadd, 1), (1876, .iaload, 1), (1877, .invokevirtual 194, 3), (1880, .istore 6, 2), (1882, .aload_n 2, 1), (1883, .invokevirtual 110, 3), (1886, .iload 5, 2), (1888, .if_icmp .eq 5, 3), (1891, .iconst 0, 1), (1892, .ireturn, 1), (1893, .iload 5, 2), (1895, .ifCond .ne 15, 3), (1898, .aload_n 3, 1), (1899, .iconst 0, 1), (1900, .laload, 1), (1901, .iload 6, 2), (1903, .i2l, 1), (1904, .lcmp, 1), (1905, .ifCond .eq 5, 3), (1908, .iconst 0, 1), (1909, .ireturn, 1), (1910, .goto 356, 3), (1913, .aload_n 1, 1), (1914, .invokevirtual 195, 3), (1917, .aload_n 2, 1), (1918, .invokevirtual 198, 3), (1921, .if_icmp .eq 345, 3), (1924, .iconst 0, 1), (1925, .ireturn, 1), (1926, .aload_n 1, 1), (1927, .aload_n 0, 1), (1928, .iload 4, 2), (1930, .iconst 1, 1), (1931, .iadd, 1), (1932, .iaload, 1), (1933, .aload_n 0, 1), (1934, .iload 4, 2), (1936, .iconst 2, 1), (1937, .iadd, 1), (1938, .iaload, 1), (1939, .aload_n 0, 1), (1940, .iload 4, 2), (1942, .iconst 3, 1)]
theorem D_LAW_19 : dkA cL_law_ rows_LAW_19 := by
  unfold dkA
  decide +kernel
def rows_LAW_20 : List (Nat × Instr × Nat) := [(1943, .iadd, 1), (1944, .iaload, 1), (1945, .aload_n 3, 1), (1946, .invokestatic 199, 3), (1949, .istore 5, 2), (1951, .aload_n 2, 1), (1952, .aload_n 0, 1), (1953, .iload 4, 2), (1955, .iconst 1, 1), (1956, .iadd, 1), (1957, .iaload, 1), (1958, .aload_n 0, 1), (1959, .iload 4, 2), (1961, .iconst 2, 1), (1962, .iadd, 1), (1963, .iaload, 1), (1964, .aload_n 0, 1), (1965, .iload 4, 2), (1967, .iconst 3, 1), (1968, .iadd, 1), (1969, .iaload, 1), (1970, .invokevirtual 201, 3), (1973, .istore 6, 2), (1975, .aload_n 2, 1), (1976, .invokevirtual 110, 3), (1979, .iload 5, 2), (1981, .if_icmp .eq 5, 3), (1984, .iconst 0, 1), (1985, .ireturn, 1), (1986, .iload 5, 2), (1988, .ifCond .ne 15, 3), (1991, .aload_n 3, 1), (1992, .iconst 0, 1), (1993, .laload, 1), (1994, .iload 6, 2), (1996, .i2l, 1), (1997, .lcmp, 1), (1998, .ifCond .eq 5, 3), (2001, .iconst 0, 1), (2002, .ireturn, 1), (2003, .goto 263, 3), (2006, .aload_n 1, 1), (2007, .aload_n 0, 1), (2008, .iload 4, 2), (2010, .iconst 1, 1), (2011, .iadd, 1), (2012, .iaload, 1), (2013, .invokevirtual 202, 3), (2016, .aload_n 2, 1), (2017, .aload_n 0, 1), (2018, .iload 4, 2), (2020, .iconst 1, 1), (2021, .iadd, 1), (2022, .iaload, 1), (2023, .invokevirtual 205, 3), (2026, .if_icmp .eq 240, 3), (2029, .iconst 0, 1), (2030, .ireturn, 1), (2031, .aload_n 1, 1), (2032, .aload_n 0, 1)]
theorem D_LAW_20 : dkA cL_law_ rows_LAW_20 := by
  unfold dkA
  decide +kernel
def rows_LAW_21 : List (Nat × Instr × Nat) := [(2033, .iload 4, 2), (2035, .iconst 1, 1), (2036, .iadd, 1), (2037, .iaload, 1), (2038, .aload_n 0, 1), (2039, .iload 4, 2), (2041, .iconst 2, 1), (2042, .iadd, 1), (2043, .iaload, 1), (2044, .aload_n 0, 1), (2045, .iload 4, 2), (2047, .iconst 3, 1), (2048, .iadd, 1), (2049, .iaload, 1), (2050, .aload_n 3, 1), (2051, .invokestatic 206, 3), (2054, .istore 5, 2), (2056, .aload_n 2, 1), (2057, .aload_n 0, 1), (2058, .iload 4, 2), (2060, .iconst 1, 1), (2061, .iadd, 1), (2062, .iaload, 1), (2063, .aload_n 0, 1), (2064, .iload 4, 2), (2066, .iconst 2, 1), (2067, .iadd, 1), (2068, .iaload, 1), (2069, .aload_n 0, 1), (2070, .iload 4, 2), (2072, .iconst 3, 1), (2073, .iadd, 1), (2074, .iaload, 1), (2075, .invokevirtual 208, 3), (2078, .istore 6, 2), (2080, .aload_n 2, 1), (2081, .invokevirtual 110, 3), (2084, .iload 5, 2), (2086, .if_icmp .eq 5, 3), (2089, .iconst 0, 1), (2090, .ireturn, 1), (2091, .iload 5, 2), (2093, .ifCond .ne 15, 3), (2096, .aload_n 3, 1), (2097, .iconst 0, 1), (2098, .laload, 1), (2099, .iload 6, 2), (2101, .i2l, 1), (2102, .lcmp, 1), (2103, .ifCond .eq 5, 3), (2106, .iconst 0, 1), (2107, .ireturn, 1), (2108, .goto 158, 3), (2111, .aload_n 1, 1), (2112, .aload_n 0, 1), (2113, .iload 4, 2), (2115, .iconst 1, 1), (2116, .iadd, 1), (2117, .iaload, 1), (2118, .aload_n 0, 1)]
theorem D_LAW_21 : dkA cL_law_ rows_LAW_21 := by
  unfold dkA
  decide +kernel
def rows_LAW_22 : List (Nat × Instr × Nat) := [(2119, .iload 4, 2), (2121, .iconst 2, 1), (2122, .iadd, 1), (2123, .iaload, 1), (2124, .aload_n 0, 1), (2125, .iload 4, 2), (2127, .iconst 3, 1), (2128, .iadd, 1), (2129, .iaload, 1), (2130, .aload_n 0, 1), (2131, .iload 4, 2), (2133, .iconst 4, 1), (2134, .iadd, 1), (2135, .iaload, 1), (2136, .aload_n 0, 1), (2137, .iload 4, 2), (2139, .iconst 5, 1), (2140, .iadd, 1), (2141, .iaload, 1), (2142, .aload_n 3, 1), (2143, .invokestatic 209, 3), (2146, .istore 5, 2), (2148, .aload_n 2, 1), (2149, .aload_n 0, 1), (2150, .iload 4, 2), (2152, .iconst 1, 1), (2153, .iadd, 1), (2154, .iaload, 1), (2155, .aload_n 0, 1), (2156, .iload 4, 2), (2158, .iconst 2, 1), (2159, .iadd, 1), (2160, .iaload, 1), (2161, .aload_n 0, 1), (2162, .iload 4, 2), (2164, .iconst 3, 1), (2165, .iadd, 1), (2166, .iaload, 1), (2167, .aload_n 0, 1), (2168, .iload 4, 2), (2170, .iconst 4, 1), (2171, .iadd, 1), (2172, .iaload, 1), (2173, .aload_n 0, 1), (2174, .iload 4, 2), (2176, .iconst 5, 1), (2177, .iadd, 1), (2178, .iaload, 1), (2179, .invokevirtual 212, 3), (2182, .istore 6, 2), (2184, .aload_n 2, 1), (2185, .invokevirtual 110, 3), (2188, .iload 5, 2), (2190, .if_icmp .eq 5, 3), (2193, .iconst 0, 1), (2194, .ireturn, 1), (2195, .iload 5, 2), (2197, .ifCond .ne 15, 3), (2200, .aload_n 3, 1), (2201, .iconst 0, 1)]
theorem D_LAW_22 : dkA cL_law_ rows_LAW_22 := by
  unfold dkA
  decide +kernel
def rows_LAW_23 : List (Nat × Instr × Nat) := [(2202, .laload, 1), (2203, .iload 6, 2), (2205, .i2l, 1), (2206, .lcmp, 1), (2207, .ifCond .eq 5, 3), (2210, .iconst 0, 1), (2211, .ireturn, 1), (2212, .goto 54, 3), (2215, .aload_n 1, 1), (2216, .invokevirtual 213, 3), (2219, .aload_n 2, 1), (2220, .invokevirtual 216, 3), (2223, .if_icmp .eq 43, 3), (2226, .iconst 0, 1), (2227, .ireturn, 1), (2228, .aload_n 1, 1), (2229, .invokevirtual 217, 3), (2232, .aload_n 2, 1), (2233, .invokevirtual 220, 3), (2236, .if_icmp .eq 30, 3), (2239, .iconst 0, 1), (2240, .ireturn, 1), (2241, .aload_n 1, 1), (2242, .aload_n 0, 1), (2243, .iload 4, 2), (2245, .iconst 1, 1), (2246, .iadd, 1), (2247, .iaload, 1), (2248, .invokevirtual 221, 3), (2251, .aload_n 2, 1), (2252, .aload_n 0, 1), (2253, .iload 4, 2), (2255, .iconst 1, 1), (2256, .iadd, 1), (2257, .iaload, 1), (2258, .invokevirtual 224, 3), (2261, .if_icmp .eq 5, 3), (2264, .iconst 0, 1), (2265, .ireturn, 1), (2266, .iinc 4 6, 3), (2269, .goto (-2246), 3), (2272, .iconst 1, 1), (2273, .ireturn, 1)]
theorem D_LAW_23 : dkA cL_law_ rows_LAW_23 := by
  unfold dkA
  decide +kernel
theorem lgc_eq {x y : Int32} (e : x = y) : lg_cmp x.toInt64 y.toInt64 = 0 := by
  subst e
  simp [lg_cmp]
def sc (xs : Nat → Int32) (i : Int32) (j : Int32) : Int32 := xs (i + j).toNatClampNeg
def inS (i : Int32) (N : Nat) : Prop := vp_in i N ∧ vp_in (i + 1) N ∧ vp_in (i + 2) N ∧ vp_in (i + 3) N ∧ vp_in (i + 4) N ∧ vp_in (i + 5) N
def lw_c0 (xs : Nat → Int32) (i : Int32) (h : Hp) (K : Hp → Prop) : Prop :=
  w_X8_feed (sc xs i 1) (sc xs i 2) (sc xs i 3) (sc xs i 4) (sc xs i 5) h (fun v1 h1 => w_X9_feed (sc xs i 1) (sc xs i 2) (sc xs i 3) (sc xs i 4) (sc xs i 5) h1 (fun v2 h2 => v1 = v2 ∧ K h2))
theorem t_LAW_c0 {X : Cx} {N b : Nat} {xs : Nat → Int32} {kc : Nat} (i : Int32) (hv : inS i N) (h : Hp) (K : Hp → Prop) (hK : ∀ h' : Hp, K h' → G X M_LAW E_LAW (QS X N xs (Q9 b)) kc 2266 [(0, .ref SCR), (1, .ref 0), (2, .ref 92), (3, .ref 1457), (4, .int i)] [] h') (hw : lw_c0 xs i h K) : G X M_LAW E_LAW (QS X N xs (Q9 b)) (kc + 6) 192 [(0, .ref SCR), (1, .ref 0), (2, .ref 92), (3, .ref 1457), (4, .int i)] [] h := by
  unfold lw_c0 at hw
  refine g_less (kc' := kc) (by omega) ?_
  refine g_aload_n 1 (dk D_LAW_0 25 rfl) rfl rfl ?_
  refine g_aload_n 0 (dk D_LAW_0 26 rfl) rfl rfl ?_
  refine g_iload 4 (dk D_LAW_0 27 rfl) rfl ?_
  refine g_iconst (v := 1) (dk D_LAW_0 28 rfl) (by decide +kernel) ?_
  refine g_iadd (dk D_LAW_0 29 rfl) ?_
  refine g_sld (i := i + 1) (dk D_LAW_0 30 rfl) hv.2.1 ?_
  refine g_aload_n 0 (dk D_LAW_0 31 rfl) rfl rfl ?_
  refine g_iload 4 (dk D_LAW_0 32 rfl) rfl ?_
  refine g_iconst (v := 2) (dk D_LAW_0 33 rfl) (by decide +kernel) ?_
  refine g_iadd (dk D_LAW_0 34 rfl) ?_
  refine g_sld (i := i + 2) (dk D_LAW_0 35 rfl) hv.2.2.1 ?_
  refine g_aload_n 0 (dk D_LAW_0 36 rfl) rfl rfl ?_
  refine g_iload 4 (dk D_LAW_0 37 rfl) rfl ?_
  refine g_iconst (v := 3) (dk D_LAW_0 38 rfl) (by decide +kernel) ?_
  refine g_iadd (dk D_LAW_0 39 rfl) ?_
  refine g_sld (i := i + 3) (dk D_LAW_0 40 rfl) hv.2.2.2.1 ?_
  refine g_aload_n 0 (dk D_LAW_0 41 rfl) rfl rfl ?_
  refine g_iload 4 (dk D_LAW_0 42 rfl) rfl ?_
  refine g_iconst (v := 4) (dk D_LAW_0 43 rfl) (by decide +kernel) ?_
  refine g_iadd (dk D_LAW_0 44 rfl) ?_
  refine g_sld (i := i + 4) (dk D_LAW_0 45 rfl) hv.2.2.2.2.1 ?_
  refine g_aload_n 0 (dk D_LAW_0 46 rfl) rfl rfl ?_
  refine g_iload 4 (dk D_LAW_0 47 rfl) rfl ?_
  refine g_iconst (v := 5) (dk D_LAW_0 48 rfl) (by decide +kernel) ?_
  refine g_iadd (dk D_LAW_0 49 rfl) ?_
  refine g_sld (i := i + 5) (dk D_LAW_0 50 rfl) hv.2.2.2.2.2 ?_
  refine g_callV (As := [.int (sc xs i 1), .int (sc xs i 2), .int (sc xs i 3), .int (sc xs i 4), .int (sc xs i 5)]) (st := []) (kc := kc) (fr := 2) (lo := 60) (mc := 0) (My := M_X8_feed) (dk D_LAW_0 51 rfl) kd_0 rfl rfl w_483 w_484 w_485 w_101 w_486 okD_X8_feed (by decide) (Nat.le_of_ble_eq_true rfl) rfl (c_X8_feed (sc xs i 1) (sc xs i 2) (sc xs i 3) (sc xs i 4) (sc xs i 5) h _ hw) kxN (kI (fun v1 h1 hw => ?_))
  refine g_aload_n 2 (dk D_LAW_0 52 rfl) rfl rfl ?_
  refine g_aload_n 0 (dk D_LAW_0 53 rfl) rfl rfl ?_
  refine g_iload 4 (dk D_LAW_0 54 rfl) rfl ?_
  refine g_iconst (v := 1) (dk D_LAW_0 55 rfl) (by decide +kernel) ?_
  refine g_iadd (dk D_LAW_0 56 rfl) ?_
  refine g_sld (i := i + 1) (dk D_LAW_0 57 rfl) hv.2.1 ?_
  refine g_aload_n 0 (dk D_LAW_0 58 rfl) rfl rfl ?_
  refine g_iload 4 (dk D_LAW_0 59 rfl) rfl ?_
  refine g_iconst (v := 2) (dk D_LAW_1 0 rfl) (by decide +kernel) ?_
  refine g_iadd (dk D_LAW_1 1 rfl) ?_
  refine g_sld (i := i + 2) (dk D_LAW_1 2 rfl) hv.2.2.1 ?_
  refine g_aload_n 0 (dk D_LAW_1 3 rfl) rfl rfl ?_
  refine g_iload 4 (dk D_LAW_1 4 rfl) rfl ?_
  refine g_iconst (v := 3) (dk D_LAW_1 5 rfl) (by decide +kernel) ?_
  refine g_iadd (dk D_LAW_1 6 rfl) ?_
  refine g_sld (i := i + 3) (dk D_LAW_1 7 rfl) hv.2.2.2.1 ?_
  refine g_aload_n 0 (dk D_LAW_1 8 rfl) rfl rfl ?_
  refine g_iload 4 (dk D_LAW_1 9 rfl) rfl ?_
  refine g_iconst (v := 4) (dk D_LAW_1 10 rfl) (by decide +kernel) ?_
  refine g_iadd (dk D_LAW_1 11 rfl) ?_
  refine g_sld (i := i + 4) (dk D_LAW_1 12 rfl) hv.2.2.2.2.1 ?_
  refine g_aload_n 0 (dk D_LAW_1 13 rfl) rfl rfl ?_
  refine g_iload 4 (dk D_LAW_1 14 rfl) rfl ?_
  refine g_iconst (v := 5) (dk D_LAW_1 15 rfl) (by decide +kernel) ?_
  refine g_iadd (dk D_LAW_1 16 rfl) ?_
  refine g_sld (i := i + 5) (dk D_LAW_1 17 rfl) hv.2.2.2.2.2 ?_
  refine g_callV (As := [.int (sc xs i 1), .int (sc xs i 2), .int (sc xs i 3), .int (sc xs i 4), .int (sc xs i 5)]) (st := [.int v1]) (kc := kc) (fr := 0) (lo := 0) (mc := 0) (My := M_X9_feed) (dk D_LAW_1 18 rfl) kd_92 rfl rfl w_1519 w_1520 w_1521 w_110 w_1522 okD_X9_feed (by decide) (Nat.le_of_ble_eq_true rfl) rfl (c_X9_feed (sc xs i 1) (sc xs i 2) (sc xs i 3) (sc xs i 4) (sc xs i 5) h1 _ hw) kxN (kI (fun v2 h2 hw => ?_))
  refine g_icmp_eq (tgt := 2266) (dk D_LAW_1 19 rfl) rfl (wif_p hw.1 ?_)
  exact hK _ hw.2
def lw_c1 (xs : Nat → Int32) (i : Int32) (h : Hp) (K : Hp → Prop) : Prop :=
  w_L_bridge (sc xs i 1) h (fun v1 h1 => w_X9_bridge (sc xs i 1) h1 (fun v2 h2 => w_X9_thrown  h2 (fun v3 => v3 = v1 ∧ (v1 = 0 → h2 1457 (Int32.toNatClampNeg 0) = v2) ∧ K h2)))
theorem t_LAW_c1 {X : Cx} {N b : Nat} {xs : Nat → Int32} {kc : Nat} (i : Int32) (hv : inS i N) (h : Hp) (K : Hp → Prop) (hK : ∀ h' : Hp, K h' → G X M_LAW E_LAW (QS X N xs (Q9 b)) kc 2266 [(0, .ref SCR), (1, .ref 0), (2, .ref 92), (3, .ref 1457), (4, .int i)] [] h') (hw : lw_c1 xs i h K) : G X M_LAW E_LAW (QS X N xs (Q9 b)) (kc + 6) 265 [(0, .ref SCR), (1, .ref 0), (2, .ref 92), (3, .ref 1457), (4, .int i)] [] h := by
  unfold lw_c1 at hw
  refine g_aload_n 1 (dk D_LAW_1 22 rfl) rfl rfl ?_
  refine g_aload_n 0 (dk D_LAW_1 23 rfl) rfl rfl ?_
  refine g_iload 4 (dk D_LAW_1 24 rfl) rfl ?_
  refine g_iconst (v := 1) (dk D_LAW_1 25 rfl) (by decide +kernel) ?_
  refine g_iadd (dk D_LAW_1 26 rfl) ?_
  refine g_sld (i := i + 1) (dk D_LAW_1 27 rfl) hv.2.1 ?_
  refine g_aload_n 3 (dk D_LAW_1 28 rfl) rfl rfl ?_
  refine g_less (kc' := kc + 1) (by omega) ?_
  refine g_callSX (As := [.ref 0, .int (sc xs i 1), .ref 1457]) (st := []) (kc := kc) (fr := 11) (lo := 341) (mc := 1) (My := M_L_bridge) (dk D_LAW_1 29 rfl) w_695 w_696 w_100 w_697 okD_L_bridge (by decide) (Nat.le_of_ble_eq_true rfl) rfl (c_L_bridge (sc xs i 1) h _ hw) (kI (fun v1 h1 hw => ?_))
  refine g_istore (dk D_LAW_1 30 rfl) (by decide) rfl ?_
  refine g_sub [1, 2, 3, 4, 5, 0] rfl ?_
  refine g_aload_n 2 (dk D_LAW_1 31 rfl) rfl rfl ?_
  refine g_aload_n 0 (dk D_LAW_1 32 rfl) rfl rfl ?_
  refine g_iload 4 (dk D_LAW_1 33 rfl) rfl ?_
  refine g_iconst (v := 1) (dk D_LAW_1 34 rfl) (by decide +kernel) ?_
  refine g_iadd (dk D_LAW_1 35 rfl) ?_
  refine g_sld (i := i + 1) (dk D_LAW_1 36 rfl) hv.2.1 ?_
  refine g_callV (As := [.int (sc xs i 1)]) (st := []) (kc := kc) (fr := 6) (lo := 179) (mc := 0) (My := M_X9_bridge) (dk D_LAW_1 37 rfl) kd_92 rfl rfl w_1523 w_1524 w_1525 w_110 w_1526 okD_X9_bridge (by decide) (Nat.le_of_ble_eq_true rfl) rfl (c_X9_bridge (sc xs i 1) h1 _ hw) kxN (kI (fun v2 h2 hw => ?_))
  refine g_istore (dk D_LAW_1 38 rfl) (by decide) rfl ?_
  refine g_sub [1, 2, 3, 4, 5, 6, 0] rfl ?_
  refine g_aload_n 2 (dk D_LAW_1 39 rfl) rfl rfl ?_
  refine g_callV (As := []) (st := []) (kc := kc) (fr := 0) (lo := 0) (mc := 0) (My := M_X9_thrown) (dk D_LAW_1 40 rfl) kd_92 rfl rfl w_1515 w_1516 w_1517 w_110 w_1518 okD_X9_thrown (by decide) (Nat.le_of_ble_eq_true rfl) rfl (c_X9_thrown  h2 _ hw) kxN (kIp (fun v3 hw => ?_))
  refine g_iload 5 (dk D_LAW_1 41 rfl) rfl ?_
  refine g_icmp_eq (tgt := 301) (dk D_LAW_1 42 rfl) rfl (wif_p hw.1 ?_)
  refine g_iload 5 (dk D_LAW_1 45 rfl) rfl ?_
  refine g_if_ne (tgt := 318) (dk D_LAW_1 46 rfl) rfl ⟨fun hz => ?_, fun hz => ?_⟩
  · refine g_goto (tgt := 2266) (dk D_LAW_1 56 rfl) rfl ?_
    refine g_sub [0, 1, 2, 3, 4] rfl ?_
    exact hK _ hw.2.2
  · refine g_aload_n 3 (dk D_LAW_1 47 rfl) rfl rfl ?_
    refine g_iconst (v := 0) (dk D_LAW_1 48 rfl) (by decide +kernel) ?_
    refine g_lald (i := 0) (dk D_LAW_1 49 rfl) kd_1457 (by unfold vp_in; decide) ?_
    refine g_iload 6 (dk D_LAW_1 50 rfl) rfl ?_
    refine g_i2l (dk D_LAW_1 51 rfl) ?_
    refine g_lcmp (dk D_LAW_1 52 rfl) ?_
    refine g_if_eq (tgt := 318) (dk D_LAW_1 53 rfl) rfl (wif_p (lgc_eq (hw.2.1 (Classical.not_not.mp hz))) ?_)
    refine g_goto (tgt := 2266) (dk D_LAW_1 56 rfl) rfl ?_
    refine g_sub [0, 1, 2, 3, 4] rfl ?_
    exact hK _ hw.2.2
def lw_c2 (xs : Nat → Int32) (i : Int32) (h : Hp) (K : Hp → Prop) : Prop :=
  w_L_toll (sc xs i 1) h (fun v1 h1 => w_X9_toll (sc xs i 1) h1 (fun v2 h2 => w_X9_thrown  h2 (fun v3 => v3 = v1 ∧ (v1 = 0 → h2 1457 (Int32.toNatClampNeg 0) = v2) ∧ K h2)))
theorem t_LAW_c2 {X : Cx} {N b : Nat} {xs : Nat → Int32} {kc : Nat} (i : Int32) (hv : inS i N) (h : Hp) (K : Hp → Prop) (hK : ∀ h' : Hp, K h' → G X M_LAW E_LAW (QS X N xs (Q9 b)) kc 2266 [(0, .ref SCR), (1, .ref 0), (2, .ref 92), (3, .ref 1457), (4, .int i)] [] h') (hw : lw_c2 xs i h K) : G X M_LAW E_LAW (QS X N xs (Q9 b)) (kc + 6) 321 [(0, .ref SCR), (1, .ref 0), (2, .ref 92), (3, .ref 1457), (4, .int i)] [] h := by
  unfold lw_c2 at hw
  refine g_aload_n 1 (dk D_LAW_1 57 rfl) rfl rfl ?_
  refine g_aload_n 0 (dk D_LAW_1 58 rfl) rfl rfl ?_
  refine g_iload 4 (dk D_LAW_1 59 rfl) rfl ?_
  refine g_iconst (v := 1) (dk D_LAW_2 0 rfl) (by decide +kernel) ?_
  refine g_iadd (dk D_LAW_2 1 rfl) ?_
  refine g_sld (i := i + 1) (dk D_LAW_2 2 rfl) hv.2.1 ?_
  refine g_aload_n 3 (dk D_LAW_2 3 rfl) rfl rfl ?_
  refine g_less (kc' := kc + 1) (by omega) ?_
  refine g_callSX (As := [.ref 0, .int (sc xs i 1), .ref 1457]) (st := []) (kc := kc) (fr := 73) (lo := 3985) (mc := 1) (My := M_L_toll) (dk D_LAW_2 4 rfl) w_937 w_938 w_100 w_939 okD_L_toll (by decide) (Nat.le_of_ble_eq_true rfl) rfl (c_L_toll (sc xs i 1) h _ hw) (kI (fun v1 h1 hw => ?_))
  refine g_istore (dk D_LAW_2 5 rfl) (by decide) rfl ?_
  refine g_sub [1, 2, 3, 4, 5, 0] rfl ?_
  refine g_aload_n 2 (dk D_LAW_2 6 rfl) rfl rfl ?_
  refine g_aload_n 0 (dk D_LAW_2 7 rfl) rfl rfl ?_
  refine g_iload 4 (dk D_LAW_2 8 rfl) rfl ?_
  refine g_iconst (v := 1) (dk D_LAW_2 9 rfl) (by decide +kernel) ?_
  refine g_iadd (dk D_LAW_2 10 rfl) ?_
  refine g_sld (i := i + 1) (dk D_LAW_2 11 rfl) hv.2.1 ?_
  refine g_callV (As := [.int (sc xs i 1)]) (st := []) (kc := kc) (fr := 72) (lo := 3957) (mc := 0) (My := M_X9_toll) (dk D_LAW_2 12 rfl) kd_92 rfl rfl w_1600 w_1601 w_1602 w_110 w_1603 okD_X9_toll (by decide) (Nat.le_of_ble_eq_true rfl) rfl (c_X9_toll (sc xs i 1) h1 _ hw) kxN (kI (fun v2 h2 hw => ?_))
  refine g_istore (dk D_LAW_2 13 rfl) (by decide) rfl ?_
  refine g_sub [1, 2, 3, 4, 5, 6, 0] rfl ?_
  refine g_aload_n 2 (dk D_LAW_2 14 rfl) rfl rfl ?_
  refine g_callV (As := []) (st := []) (kc := kc) (fr := 0) (lo := 0) (mc := 0) (My := M_X9_thrown) (dk D_LAW_2 15 rfl) kd_92 rfl rfl w_1515 w_1516 w_1517 w_110 w_1518 okD_X9_thrown (by decide) (Nat.le_of_ble_eq_true rfl) rfl (c_X9_thrown  h2 _ hw) kxN (kIp (fun v3 hw => ?_))
  refine g_iload 5 (dk D_LAW_2 16 rfl) rfl ?_
  refine g_icmp_eq (tgt := 357) (dk D_LAW_2 17 rfl) rfl (wif_p hw.1 ?_)
  refine g_iload 5 (dk D_LAW_2 20 rfl) rfl ?_
  refine g_if_ne (tgt := 374) (dk D_LAW_2 21 rfl) rfl ⟨fun hz => ?_, fun hz => ?_⟩
  · refine g_goto (tgt := 2266) (dk D_LAW_2 31 rfl) rfl ?_
    refine g_sub [0, 1, 2, 3, 4] rfl ?_
    exact hK _ hw.2.2
  · refine g_aload_n 3 (dk D_LAW_2 22 rfl) rfl rfl ?_
    refine g_iconst (v := 0) (dk D_LAW_2 23 rfl) (by decide +kernel) ?_
    refine g_lald (i := 0) (dk D_LAW_2 24 rfl) kd_1457 (by unfold vp_in; decide) ?_
    refine g_iload 6 (dk D_LAW_2 25 rfl) rfl ?_
    refine g_i2l (dk D_LAW_2 26 rfl) ?_
    refine g_lcmp (dk D_LAW_2 27 rfl) ?_
    refine g_if_eq (tgt := 374) (dk D_LAW_2 28 rfl) rfl (wif_p (lgc_eq (hw.2.1 (Classical.not_not.mp hz))) ?_)
    refine g_goto (tgt := 2266) (dk D_LAW_2 31 rfl) rfl ?_
    refine g_sub [0, 1, 2, 3, 4] rfl ?_
    exact hK _ hw.2.2
def lw_c3 (xs : Nat → Int32) (i : Int32) (h : Hp) (K : Hp → Prop) : Prop :=
  w_X8_fault  h (fun v1 => w_X9_fault  h (fun v2 h2 => v1 = v2 ∧ K h2))
theorem t_LAW_c3 {X : Cx} {N b : Nat} {xs : Nat → Int32} {kc : Nat} (i : Int32) (hv : inS i N) (h : Hp) (K : Hp → Prop) (hK : ∀ h' : Hp, K h' → G X M_LAW E_LAW (QS X N xs (Q9 b)) kc 2266 [(0, .ref SCR), (1, .ref 0), (2, .ref 92), (3, .ref 1457), (4, .int i)] [] h') (hw : lw_c3 xs i h K) : G X M_LAW E_LAW (QS X N xs (Q9 b)) (kc + 6) 377 [(0, .ref SCR), (1, .ref 0), (2, .ref 92), (3, .ref 1457), (4, .int i)] [] h := by
  unfold lw_c3 at hw
  refine g_less (kc' := kc) (by omega) ?_
  refine g_aload_n 1 (dk D_LAW_2 32 rfl) rfl rfl ?_
  refine g_callV (As := []) (st := []) (kc := kc) (fr := 0) (lo := 0) (mc := 0) (My := M_X8_fault) (dk D_LAW_2 33 rfl) kd_0 rfl rfl w_498 w_499 w_500 w_101 w_501 okD_X8_fault (by decide) (Nat.le_of_ble_eq_true rfl) rfl (c_X8_fault  h _ hw) kxN (kIp (fun v1 hw => ?_))
  refine g_aload_n 2 (dk D_LAW_2 34 rfl) rfl rfl ?_
  refine g_callV (As := []) (st := [.int v1]) (kc := kc) (fr := 0) (lo := 0) (mc := 0) (My := M_X9_fault) (dk D_LAW_2 35 rfl) kd_92 rfl rfl w_1656 w_1657 w_1658 w_110 w_1659 okD_X9_fault (by decide) (Nat.le_of_ble_eq_true rfl) rfl (c_X9_fault  h _ hw) kxN (kI (fun v2 h2 hw => ?_))
  refine g_icmp_eq (tgt := 2266) (dk D_LAW_2 36 rfl) rfl (wif_p hw.1 ?_)
  exact hK _ hw.2
def lw_c4 (xs : Nat → Int32) (i : Int32) (h : Hp) (K : Hp → Prop) : Prop :=
  w_L_told (sc xs i 1) h (fun v1 h1 => w_X9_told (sc xs i 1) h1 (fun v2 h2 => w_X9_thrown  h2 (fun v3 => v3 = v1 ∧ (v1 = 0 → h2 1457 (Int32.toNatClampNeg 0) = v2) ∧ K h2)))
theorem t_LAW_c4 {X : Cx} {N b : Nat} {xs : Nat → Int32} {kc : Nat} (i : Int32) (hv : inS i N) (h : Hp) (K : Hp → Prop) (hK : ∀ h' : Hp, K h' → G X M_LAW E_LAW (QS X N xs (Q9 b)) kc 2266 [(0, .ref SCR), (1, .ref 0), (2, .ref 92), (3, .ref 1457), (4, .int i)] [] h') (hw : lw_c4 xs i h K) : G X M_LAW E_LAW (QS X N xs (Q9 b)) (kc + 6) 390 [(0, .ref SCR), (1, .ref 0), (2, .ref 92), (3, .ref 1457), (4, .int i)] [] h := by
  unfold lw_c4 at hw
  refine g_aload_n 1 (dk D_LAW_2 39 rfl) rfl rfl ?_
  refine g_aload_n 0 (dk D_LAW_2 40 rfl) rfl rfl ?_
  refine g_iload 4 (dk D_LAW_2 41 rfl) rfl ?_
  refine g_iconst (v := 1) (dk D_LAW_2 42 rfl) (by decide +kernel) ?_
  refine g_iadd (dk D_LAW_2 43 rfl) ?_
  refine g_sld (i := i + 1) (dk D_LAW_2 44 rfl) hv.2.1 ?_
  refine g_aload_n 3 (dk D_LAW_2 45 rfl) rfl rfl ?_
  refine g_less (kc' := kc + 1) (by omega) ?_
  refine g_callSX (As := [.ref 0, .int (sc xs i 1), .ref 1457]) (st := []) (kc := kc) (fr := 7) (lo := 103) (mc := 1) (My := M_L_told) (dk D_LAW_2 46 rfl) w_995 w_996 w_100 w_997 okD_L_told (by decide) (Nat.le_of_ble_eq_true rfl) rfl (c_L_told (sc xs i 1) h _ hw) (kI (fun v1 h1 hw => ?_))
  refine g_istore (dk D_LAW_2 47 rfl) (by decide) rfl ?_
  refine g_sub [1, 2, 3, 4, 5, 0] rfl ?_
  refine g_aload_n 2 (dk D_LAW_2 48 rfl) rfl rfl ?_
  refine g_aload_n 0 (dk D_LAW_2 49 rfl) rfl rfl ?_
  refine g_iload 4 (dk D_LAW_2 50 rfl) rfl ?_
  refine g_iconst (v := 1) (dk D_LAW_2 51 rfl) (by decide +kernel) ?_
  refine g_iadd (dk D_LAW_2 52 rfl) ?_
  refine g_sld (i := i + 1) (dk D_LAW_2 53 rfl) hv.2.1 ?_
  refine g_callV (As := [.int (sc xs i 1)]) (st := []) (kc := kc) (fr := 1) (lo := 30) (mc := 0) (My := M_X9_told) (dk D_LAW_2 54 rfl) kd_92 rfl rfl w_1660 w_1661 w_1662 w_110 w_1663 okD_X9_told (by decide) (Nat.le_of_ble_eq_true rfl) rfl (c_X9_told (sc xs i 1) h1 _ hw) kxN (kI (fun v2 h2 hw => ?_))
  refine g_istore (dk D_LAW_2 55 rfl) (by decide) rfl ?_
  refine g_sub [1, 2, 3, 4, 5, 6, 0] rfl ?_
  refine g_aload_n 2 (dk D_LAW_2 56 rfl) rfl rfl ?_
  refine g_callV (As := []) (st := []) (kc := kc) (fr := 0) (lo := 0) (mc := 0) (My := M_X9_thrown) (dk D_LAW_2 57 rfl) kd_92 rfl rfl w_1515 w_1516 w_1517 w_110 w_1518 okD_X9_thrown (by decide) (Nat.le_of_ble_eq_true rfl) rfl (c_X9_thrown  h2 _ hw) kxN (kIp (fun v3 hw => ?_))
  refine g_iload 5 (dk D_LAW_2 58 rfl) rfl ?_
  refine g_icmp_eq (tgt := 426) (dk D_LAW_2 59 rfl) rfl (wif_p hw.1 ?_)
  refine g_iload 5 (dk D_LAW_3 2 rfl) rfl ?_
  refine g_if_ne (tgt := 443) (dk D_LAW_3 3 rfl) rfl ⟨fun hz => ?_, fun hz => ?_⟩
  · refine g_goto (tgt := 2266) (dk D_LAW_3 13 rfl) rfl ?_
    refine g_sub [0, 1, 2, 3, 4] rfl ?_
    exact hK _ hw.2.2
  · refine g_aload_n 3 (dk D_LAW_3 4 rfl) rfl rfl ?_
    refine g_iconst (v := 0) (dk D_LAW_3 5 rfl) (by decide +kernel) ?_
    refine g_lald (i := 0) (dk D_LAW_3 6 rfl) kd_1457 (by unfold vp_in; decide) ?_
    refine g_iload 6 (dk D_LAW_3 7 rfl) rfl ?_
    refine g_i2l (dk D_LAW_3 8 rfl) ?_
    refine g_lcmp (dk D_LAW_3 9 rfl) ?_
    refine g_if_eq (tgt := 443) (dk D_LAW_3 10 rfl) rfl (wif_p (lgc_eq (hw.2.1 (Classical.not_not.mp hz))) ?_)
    refine g_goto (tgt := 2266) (dk D_LAW_3 13 rfl) rfl ?_
    refine g_sub [0, 1, 2, 3, 4] rfl ?_
    exact hK _ hw.2.2
def lw_c5 (xs : Nat → Int32) (i : Int32) (h : Hp) (K : Hp → Prop) : Prop :=
  w_L_traveller (sc xs i 1) (sc xs i 2) h (fun v1 h1 => w_X9_traveller (sc xs i 1) (sc xs i 2) h1 (fun v2 h2 => w_X9_thrown  h2 (fun v3 => v3 = v1 ∧ (v1 = 0 → h2 1457 (Int32.toNatClampNeg 0) = v2) ∧ K h2)))
theorem t_LAW_c5 {X : Cx} {N b : Nat} {xs : Nat → Int32} {kc : Nat} (i : Int32) (hv : inS i N) (h : Hp) (K : Hp → Prop) (hK : ∀ h' : Hp, K h' → G X M_LAW E_LAW (QS X N xs (Q9 b)) kc 2266 [(0, .ref SCR), (1, .ref 0), (2, .ref 92), (3, .ref 1457), (4, .int i)] [] h') (hw : lw_c5 xs i h K) : G X M_LAW E_LAW (QS X N xs (Q9 b)) (kc + 6) 446 [(0, .ref SCR), (1, .ref 0), (2, .ref 92), (3, .ref 1457), (4, .int i)] [] h := by
  unfold lw_c5 at hw
  refine g_aload_n 1 (dk D_LAW_3 14 rfl) rfl rfl ?_
  refine g_aload_n 0 (dk D_LAW_3 15 rfl) rfl rfl ?_
  refine g_iload 4 (dk D_LAW_3 16 rfl) rfl ?_
  refine g_iconst (v := 1) (dk D_LAW_3 17 rfl) (by decide +kernel) ?_
  refine g_iadd (dk D_LAW_3 18 rfl) ?_
  refine g_sld (i := i + 1) (dk D_LAW_3 19 rfl) hv.2.1 ?_
  refine g_aload_n 0 (dk D_LAW_3 20 rfl) rfl rfl ?_
  refine g_iload 4 (dk D_LAW_3 21 rfl) rfl ?_
  refine g_iconst (v := 2) (dk D_LAW_3 22 rfl) (by decide +kernel) ?_
  refine g_iadd (dk D_LAW_3 23 rfl) ?_
  refine g_sld (i := i + 2) (dk D_LAW_3 24 rfl) hv.2.2.1 ?_
  refine g_aload_n 3 (dk D_LAW_3 25 rfl) rfl rfl ?_
  refine g_less (kc' := kc + 2) (by omega) ?_
  refine g_callSX (As := [.ref 0, .int (sc xs i 1), .int (sc xs i 2), .ref 1457]) (st := []) (kc := kc) (fr := 8) (lo := 134) (mc := 2) (My := M_L_traveller) (dk D_LAW_3 26 rfl) w_1003 w_1004 w_100 w_1005 okD_L_traveller (by decide) (Nat.le_of_ble_eq_true rfl) rfl (c_L_traveller (sc xs i 1) (sc xs i 2) h _ hw) (kI (fun v1 h1 hw => ?_))
  refine g_istore (dk D_LAW_3 27 rfl) (by decide) rfl ?_
  refine g_sub [1, 2, 3, 4, 5, 0] rfl ?_
  refine g_aload_n 2 (dk D_LAW_3 28 rfl) rfl rfl ?_
  refine g_aload_n 0 (dk D_LAW_3 29 rfl) rfl rfl ?_
  refine g_iload 4 (dk D_LAW_3 30 rfl) rfl ?_
  refine g_iconst (v := 1) (dk D_LAW_3 31 rfl) (by decide +kernel) ?_
  refine g_iadd (dk D_LAW_3 32 rfl) ?_
  refine g_sld (i := i + 1) (dk D_LAW_3 33 rfl) hv.2.1 ?_
  refine g_aload_n 0 (dk D_LAW_3 34 rfl) rfl rfl ?_
  refine g_iload 4 (dk D_LAW_3 35 rfl) rfl ?_
  refine g_iconst (v := 2) (dk D_LAW_3 36 rfl) (by decide +kernel) ?_
  refine g_iadd (dk D_LAW_3 37 rfl) ?_
  refine g_sld (i := i + 2) (dk D_LAW_3 38 rfl) hv.2.2.1 ?_
  refine g_callV (As := [.int (sc xs i 1), .int (sc xs i 2)]) (st := []) (kc := kc) (fr := 2) (lo := 59) (mc := 0) (My := M_X9_traveller) (dk D_LAW_3 39 rfl) kd_92 rfl rfl w_1664 w_1665 w_1666 w_110 w_1667 okD_X9_traveller (by decide) (Nat.le_of_ble_eq_true rfl) rfl (c_X9_traveller (sc xs i 1) (sc xs i 2) h1 _ hw) kxN (kI (fun v2 h2 hw => ?_))
  refine g_istore (dk D_LAW_3 40 rfl) (by decide) rfl ?_
  refine g_sub [1, 2, 3, 4, 5, 6, 0] rfl ?_
  refine g_aload_n 2 (dk D_LAW_3 41 rfl) rfl rfl ?_
  refine g_callV (As := []) (st := []) (kc := kc) (fr := 0) (lo := 0) (mc := 0) (My := M_X9_thrown) (dk D_LAW_3 42 rfl) kd_92 rfl rfl w_1515 w_1516 w_1517 w_110 w_1518 okD_X9_thrown (by decide) (Nat.le_of_ble_eq_true rfl) rfl (c_X9_thrown  h2 _ hw) kxN (kIp (fun v3 hw => ?_))
  refine g_iload 5 (dk D_LAW_3 43 rfl) rfl ?_
  refine g_icmp_eq (tgt := 494) (dk D_LAW_3 44 rfl) rfl (wif_p hw.1 ?_)
  refine g_iload 5 (dk D_LAW_3 47 rfl) rfl ?_
  refine g_if_ne (tgt := 511) (dk D_LAW_3 48 rfl) rfl ⟨fun hz => ?_, fun hz => ?_⟩
  · refine g_goto (tgt := 2266) (dk D_LAW_3 58 rfl) rfl ?_
    refine g_sub [0, 1, 2, 3, 4] rfl ?_
    exact hK _ hw.2.2
  · refine g_aload_n 3 (dk D_LAW_3 49 rfl) rfl rfl ?_
    refine g_iconst (v := 0) (dk D_LAW_3 50 rfl) (by decide +kernel) ?_
    refine g_lald (i := 0) (dk D_LAW_3 51 rfl) kd_1457 (by unfold vp_in; decide) ?_
    refine g_iload 6 (dk D_LAW_3 52 rfl) rfl ?_
    refine g_i2l (dk D_LAW_3 53 rfl) ?_
    refine g_lcmp (dk D_LAW_3 54 rfl) ?_
    refine g_if_eq (tgt := 511) (dk D_LAW_3 55 rfl) rfl (wif_p (lgc_eq (hw.2.1 (Classical.not_not.mp hz))) ?_)
    refine g_goto (tgt := 2266) (dk D_LAW_3 58 rfl) rfl ?_
    refine g_sub [0, 1, 2, 3, 4] rfl ?_
    exact hK _ hw.2.2
def lw_c6 (xs : Nat → Int32) (i : Int32) (h : Hp) (K : Hp → Prop) : Prop :=
  w_L_day (sc xs i 1) (sc xs i 2) h (fun v1 h1 => w_X9_day (sc xs i 1) (sc xs i 2) h1 (fun v2 h2 => w_X9_thrown  h2 (fun v3 => v3 = v1 ∧ (v1 = 0 → h2 1457 (Int32.toNatClampNeg 0) = v2) ∧ K h2)))
theorem t_LAW_c6 {X : Cx} {N b : Nat} {xs : Nat → Int32} {kc : Nat} (i : Int32) (hv : inS i N) (h : Hp) (K : Hp → Prop) (hK : ∀ h' : Hp, K h' → G X M_LAW E_LAW (QS X N xs (Q9 b)) kc 2266 [(0, .ref SCR), (1, .ref 0), (2, .ref 92), (3, .ref 1457), (4, .int i)] [] h') (hw : lw_c6 xs i h K) : G X M_LAW E_LAW (QS X N xs (Q9 b)) (kc + 6) 514 [(0, .ref SCR), (1, .ref 0), (2, .ref 92), (3, .ref 1457), (4, .int i)] [] h := by
  unfold lw_c6 at hw
  refine g_aload_n 1 (dk D_LAW_3 59 rfl) rfl rfl ?_
  refine g_aload_n 0 (dk D_LAW_4 0 rfl) rfl rfl ?_
  refine g_iload 4 (dk D_LAW_4 1 rfl) rfl ?_
  refine g_iconst (v := 1) (dk D_LAW_4 2 rfl) (by decide +kernel) ?_
  refine g_iadd (dk D_LAW_4 3 rfl) ?_
  refine g_sld (i := i + 1) (dk D_LAW_4 4 rfl) hv.2.1 ?_
  refine g_aload_n 0 (dk D_LAW_4 5 rfl) rfl rfl ?_
  refine g_iload 4 (dk D_LAW_4 6 rfl) rfl ?_
  refine g_iconst (v := 2) (dk D_LAW_4 7 rfl) (by decide +kernel) ?_
  refine g_iadd (dk D_LAW_4 8 rfl) ?_
  refine g_sld (i := i + 2) (dk D_LAW_4 9 rfl) hv.2.2.1 ?_
  refine g_aload_n 3 (dk D_LAW_4 10 rfl) rfl rfl ?_
  refine g_less (kc' := kc + 2) (by omega) ?_
  refine g_callSX (As := [.ref 0, .int (sc xs i 1), .int (sc xs i 2), .ref 1457]) (st := []) (kc := kc) (fr := 8) (lo := 134) (mc := 2) (My := M_L_day) (dk D_LAW_4 11 rfl) w_1032 w_1033 w_100 w_1034 okD_L_day (by decide) (Nat.le_of_ble_eq_true rfl) rfl (c_L_day (sc xs i 1) (sc xs i 2) h _ hw) (kI (fun v1 h1 hw => ?_))
  refine g_istore (dk D_LAW_4 12 rfl) (by decide) rfl ?_
  refine g_sub [1, 2, 3, 4, 5, 0] rfl ?_
  refine g_aload_n 2 (dk D_LAW_4 13 rfl) rfl rfl ?_
  refine g_aload_n 0 (dk D_LAW_4 14 rfl) rfl rfl ?_
  refine g_iload 4 (dk D_LAW_4 15 rfl) rfl ?_
  refine g_iconst (v := 1) (dk D_LAW_4 16 rfl) (by decide +kernel) ?_
  refine g_iadd (dk D_LAW_4 17 rfl) ?_
  refine g_sld (i := i + 1) (dk D_LAW_4 18 rfl) hv.2.1 ?_
  refine g_aload_n 0 (dk D_LAW_4 19 rfl) rfl rfl ?_
  refine g_iload 4 (dk D_LAW_4 20 rfl) rfl ?_
  refine g_iconst (v := 2) (dk D_LAW_4 21 rfl) (by decide +kernel) ?_
  refine g_iadd (dk D_LAW_4 22 rfl) ?_
  refine g_sld (i := i + 2) (dk D_LAW_4 23 rfl) hv.2.2.1 ?_
  refine g_callV (As := [.int (sc xs i 1), .int (sc xs i 2)]) (st := []) (kc := kc) (fr := 2) (lo := 58) (mc := 0) (My := M_X9_day) (dk D_LAW_4 24 rfl) kd_92 rfl rfl w_1672 w_1673 w_1674 w_110 w_1675 okD_X9_day (by decide) (Nat.le_of_ble_eq_true rfl) rfl (c_X9_day (sc xs i 1) (sc xs i 2) h1 _ hw) kxN (kI (fun v2 h2 hw => ?_))
  refine g_istore (dk D_LAW_4 25 rfl) (by decide) rfl ?_
  refine g_sub [1, 2, 3, 4, 5, 6, 0] rfl ?_
  refine g_aload_n 2 (dk D_LAW_4 26 rfl) rfl rfl ?_
  refine g_callV (As := []) (st := []) (kc := kc) (fr := 0) (lo := 0) (mc := 0) (My := M_X9_thrown) (dk D_LAW_4 27 rfl) kd_92 rfl rfl w_1515 w_1516 w_1517 w_110 w_1518 okD_X9_thrown (by decide) (Nat.le_of_ble_eq_true rfl) rfl (c_X9_thrown  h2 _ hw) kxN (kIp (fun v3 hw => ?_))
  refine g_iload 5 (dk D_LAW_4 28 rfl) rfl ?_
  refine g_icmp_eq (tgt := 562) (dk D_LAW_4 29 rfl) rfl (wif_p hw.1 ?_)
  refine g_iload 5 (dk D_LAW_4 32 rfl) rfl ?_
  refine g_if_ne (tgt := 579) (dk D_LAW_4 33 rfl) rfl ⟨fun hz => ?_, fun hz => ?_⟩
  · refine g_goto (tgt := 2266) (dk D_LAW_4 43 rfl) rfl ?_
    refine g_sub [0, 1, 2, 3, 4] rfl ?_
    exact hK _ hw.2.2
  · refine g_aload_n 3 (dk D_LAW_4 34 rfl) rfl rfl ?_
    refine g_iconst (v := 0) (dk D_LAW_4 35 rfl) (by decide +kernel) ?_
    refine g_lald (i := 0) (dk D_LAW_4 36 rfl) kd_1457 (by unfold vp_in; decide) ?_
    refine g_iload 6 (dk D_LAW_4 37 rfl) rfl ?_
    refine g_i2l (dk D_LAW_4 38 rfl) ?_
    refine g_lcmp (dk D_LAW_4 39 rfl) ?_
    refine g_if_eq (tgt := 579) (dk D_LAW_4 40 rfl) rfl (wif_p (lgc_eq (hw.2.1 (Classical.not_not.mp hz))) ?_)
    refine g_goto (tgt := 2266) (dk D_LAW_4 43 rfl) rfl ?_
    refine g_sub [0, 1, 2, 3, 4] rfl ?_
    exact hK _ hw.2.2
def lw_c7 (xs : Nat → Int32) (i : Int32) (h : Hp) (K : Hp → Prop) : Prop :=
  w_L_altitude (sc xs i 1) (sc xs i 2) (sc xs i 3) h (fun v1 h1 => w_X9_altitude (sc xs i 1) (sc xs i 2) (sc xs i 3) h1 (fun v2 h2 => w_X9_thrown  h2 (fun v3 => v3 = v1 ∧ (v1 = 0 → h2 1457 (Int32.toNatClampNeg 0) = v2) ∧ K h2)))
theorem t_LAW_c7 {X : Cx} {N b : Nat} {xs : Nat → Int32} {kc : Nat} (i : Int32) (hv : inS i N) (h : Hp) (K : Hp → Prop) (hK : ∀ h' : Hp, K h' → G X M_LAW E_LAW (QS X N xs (Q9 b)) kc 2266 [(0, .ref SCR), (1, .ref 0), (2, .ref 92), (3, .ref 1457), (4, .int i)] [] h') (hw : lw_c7 xs i h K) : G X M_LAW E_LAW (QS X N xs (Q9 b)) (kc + 6) 582 [(0, .ref SCR), (1, .ref 0), (2, .ref 92), (3, .ref 1457), (4, .int i)] [] h := by
  unfold lw_c7 at hw
  refine g_aload_n 1 (dk D_LAW_4 44 rfl) rfl rfl ?_
  refine g_aload_n 0 (dk D_LAW_4 45 rfl) rfl rfl ?_
  refine g_iload 4 (dk D_LAW_4 46 rfl) rfl ?_
  refine g_iconst (v := 1) (dk D_LAW_4 47 rfl) (by decide +kernel) ?_
  refine g_iadd (dk D_LAW_4 48 rfl) ?_
  refine g_sld (i := i + 1) (dk D_LAW_4 49 rfl) hv.2.1 ?_
  refine g_aload_n 0 (dk D_LAW_4 50 rfl) rfl rfl ?_
  refine g_iload 4 (dk D_LAW_4 51 rfl) rfl ?_
  refine g_iconst (v := 2) (dk D_LAW_4 52 rfl) (by decide +kernel) ?_
  refine g_iadd (dk D_LAW_4 53 rfl) ?_
  refine g_sld (i := i + 2) (dk D_LAW_4 54 rfl) hv.2.2.1 ?_
  refine g_aload_n 0 (dk D_LAW_4 55 rfl) rfl rfl ?_
  refine g_iload 4 (dk D_LAW_4 56 rfl) rfl ?_
  refine g_iconst (v := 3) (dk D_LAW_4 57 rfl) (by decide +kernel) ?_
  refine g_iadd (dk D_LAW_4 58 rfl) ?_
  refine g_sld (i := i + 3) (dk D_LAW_4 59 rfl) hv.2.2.2.1 ?_
  refine g_aload_n 3 (dk D_LAW_5 0 rfl) rfl rfl ?_
  refine g_less (kc' := kc + 3) (by omega) ?_
  refine g_callSX (As := [.ref 0, .int (sc xs i 1), .int (sc xs i 2), .int (sc xs i 3), .ref 1457]) (st := []) (kc := kc) (fr := 8) (lo := 134) (mc := 3) (My := M_L_altitude) (dk D_LAW_5 1 rfl) w_1043 w_1044 w_100 w_1045 okD_L_altitude (by decide) (Nat.le_of_ble_eq_true rfl) rfl (c_L_altitude (sc xs i 1) (sc xs i 2) (sc xs i 3) h _ hw) (kI (fun v1 h1 hw => ?_))
  refine g_istore (dk D_LAW_5 2 rfl) (by decide) rfl ?_
  refine g_sub [1, 2, 3, 4, 5, 0] rfl ?_
  refine g_aload_n 2 (dk D_LAW_5 3 rfl) rfl rfl ?_
  refine g_aload_n 0 (dk D_LAW_5 4 rfl) rfl rfl ?_
  refine g_iload 4 (dk D_LAW_5 5 rfl) rfl ?_
  refine g_iconst (v := 1) (dk D_LAW_5 6 rfl) (by decide +kernel) ?_
  refine g_iadd (dk D_LAW_5 7 rfl) ?_
  refine g_sld (i := i + 1) (dk D_LAW_5 8 rfl) hv.2.1 ?_
  refine g_aload_n 0 (dk D_LAW_5 9 rfl) rfl rfl ?_
  refine g_iload 4 (dk D_LAW_5 10 rfl) rfl ?_
  refine g_iconst (v := 2) (dk D_LAW_5 11 rfl) (by decide +kernel) ?_
  refine g_iadd (dk D_LAW_5 12 rfl) ?_
  refine g_sld (i := i + 2) (dk D_LAW_5 13 rfl) hv.2.2.1 ?_
  refine g_aload_n 0 (dk D_LAW_5 14 rfl) rfl rfl ?_
  refine g_iload 4 (dk D_LAW_5 15 rfl) rfl ?_
  refine g_iconst (v := 3) (dk D_LAW_5 16 rfl) (by decide +kernel) ?_
  refine g_iadd (dk D_LAW_5 17 rfl) ?_
  refine g_sld (i := i + 3) (dk D_LAW_5 18 rfl) hv.2.2.2.1 ?_
  refine g_callV (As := [.int (sc xs i 1), .int (sc xs i 2), .int (sc xs i 3)]) (st := []) (kc := kc) (fr := 2) (lo := 63) (mc := 0) (My := M_X9_altitude) (dk D_LAW_5 19 rfl) kd_92 rfl rfl w_1683 w_1684 w_1685 w_110 w_1686 okD_X9_altitude (by decide) (Nat.le_of_ble_eq_true rfl) rfl (c_X9_altitude (sc xs i 1) (sc xs i 2) (sc xs i 3) h1 _ hw) kxN (kI (fun v2 h2 hw => ?_))
  refine g_istore (dk D_LAW_5 20 rfl) (by decide) rfl ?_
  refine g_sub [1, 2, 3, 4, 5, 6, 0] rfl ?_
  refine g_aload_n 2 (dk D_LAW_5 21 rfl) rfl rfl ?_
  refine g_callV (As := []) (st := []) (kc := kc) (fr := 0) (lo := 0) (mc := 0) (My := M_X9_thrown) (dk D_LAW_5 22 rfl) kd_92 rfl rfl w_1515 w_1516 w_1517 w_110 w_1518 okD_X9_thrown (by decide) (Nat.le_of_ble_eq_true rfl) rfl (c_X9_thrown  h2 _ hw) kxN (kIp (fun v3 hw => ?_))
  refine g_iload 5 (dk D_LAW_5 23 rfl) rfl ?_
  refine g_icmp_eq (tgt := 642) (dk D_LAW_5 24 rfl) rfl (wif_p hw.1 ?_)
  refine g_iload 5 (dk D_LAW_5 27 rfl) rfl ?_
  refine g_if_ne (tgt := 659) (dk D_LAW_5 28 rfl) rfl ⟨fun hz => ?_, fun hz => ?_⟩
  · refine g_goto (tgt := 2266) (dk D_LAW_5 38 rfl) rfl ?_
    refine g_sub [0, 1, 2, 3, 4] rfl ?_
    exact hK _ hw.2.2
  · refine g_aload_n 3 (dk D_LAW_5 29 rfl) rfl rfl ?_
    refine g_iconst (v := 0) (dk D_LAW_5 30 rfl) (by decide +kernel) ?_
    refine g_lald (i := 0) (dk D_LAW_5 31 rfl) kd_1457 (by unfold vp_in; decide) ?_
    refine g_iload 6 (dk D_LAW_5 32 rfl) rfl ?_
    refine g_i2l (dk D_LAW_5 33 rfl) ?_
    refine g_lcmp (dk D_LAW_5 34 rfl) ?_
    refine g_if_eq (tgt := 659) (dk D_LAW_5 35 rfl) rfl (wif_p (lgc_eq (hw.2.1 (Classical.not_not.mp hz))) ?_)
    refine g_goto (tgt := 2266) (dk D_LAW_5 38 rfl) rfl ?_
    refine g_sub [0, 1, 2, 3, 4] rfl ?_
    exact hK _ hw.2.2
def lw_c8 (xs : Nat → Int32) (i : Int32) (h : Hp) (K : Hp → Prop) : Prop :=
  w_L_shadow (sc xs i 1) (sc xs i 2) (sc xs i 3) (sc xs i 4) h (fun v1 h1 => w_X9_shadow (sc xs i 1) (sc xs i 2) (sc xs i 3) (sc xs i 4) h1 (fun v2 h2 => w_X9_thrown  h2 (fun v3 => v3 = v1 ∧ (v1 = 0 → h2 1457 (Int32.toNatClampNeg 0) = v2) ∧ K h2)))
theorem t_LAW_c8 {X : Cx} {N b : Nat} {xs : Nat → Int32} {kc : Nat} (i : Int32) (hv : inS i N) (h : Hp) (K : Hp → Prop) (hK : ∀ h' : Hp, K h' → G X M_LAW E_LAW (QS X N xs (Q9 b)) kc 2266 [(0, .ref SCR), (1, .ref 0), (2, .ref 92), (3, .ref 1457), (4, .int i)] [] h') (hw : lw_c8 xs i h K) : G X M_LAW E_LAW (QS X N xs (Q9 b)) (kc + 6) 662 [(0, .ref SCR), (1, .ref 0), (2, .ref 92), (3, .ref 1457), (4, .int i)] [] h := by
  unfold lw_c8 at hw
  refine g_aload_n 1 (dk D_LAW_5 39 rfl) rfl rfl ?_
  refine g_aload_n 0 (dk D_LAW_5 40 rfl) rfl rfl ?_
  refine g_iload 4 (dk D_LAW_5 41 rfl) rfl ?_
  refine g_iconst (v := 1) (dk D_LAW_5 42 rfl) (by decide +kernel) ?_
  refine g_iadd (dk D_LAW_5 43 rfl) ?_
  refine g_sld (i := i + 1) (dk D_LAW_5 44 rfl) hv.2.1 ?_
  refine g_aload_n 0 (dk D_LAW_5 45 rfl) rfl rfl ?_
  refine g_iload 4 (dk D_LAW_5 46 rfl) rfl ?_
  refine g_iconst (v := 2) (dk D_LAW_5 47 rfl) (by decide +kernel) ?_
  refine g_iadd (dk D_LAW_5 48 rfl) ?_
  refine g_sld (i := i + 2) (dk D_LAW_5 49 rfl) hv.2.2.1 ?_
  refine g_aload_n 0 (dk D_LAW_5 50 rfl) rfl rfl ?_
  refine g_iload 4 (dk D_LAW_5 51 rfl) rfl ?_
  refine g_iconst (v := 3) (dk D_LAW_5 52 rfl) (by decide +kernel) ?_
  refine g_iadd (dk D_LAW_5 53 rfl) ?_
  refine g_sld (i := i + 3) (dk D_LAW_5 54 rfl) hv.2.2.2.1 ?_
  refine g_aload_n 0 (dk D_LAW_5 55 rfl) rfl rfl ?_
  refine g_iload 4 (dk D_LAW_5 56 rfl) rfl ?_
  refine g_iconst (v := 4) (dk D_LAW_5 57 rfl) (by decide +kernel) ?_
  refine g_iadd (dk D_LAW_5 58 rfl) ?_
  refine g_sld (i := i + 4) (dk D_LAW_5 59 rfl) hv.2.2.2.2.1 ?_
  refine g_aload_n 3 (dk D_LAW_6 0 rfl) rfl rfl ?_
  refine g_less (kc' := kc + 4) (by omega) ?_
  refine g_callSX (As := [.ref 0, .int (sc xs i 1), .int (sc xs i 2), .int (sc xs i 3), .int (sc xs i 4), .ref 1457]) (st := []) (kc := kc) (fr := 8) (lo := 136) (mc := 4) (My := M_L_shadow) (dk D_LAW_6 1 rfl) w_1076 w_1077 w_100 w_1078 okD_L_shadow (by decide) (Nat.le_of_ble_eq_true rfl) rfl (c_L_shadow (sc xs i 1) (sc xs i 2) (sc xs i 3) (sc xs i 4) h _ hw) (kI (fun v1 h1 hw => ?_))
  refine g_istore (dk D_LAW_6 2 rfl) (by decide) rfl ?_
  refine g_sub [1, 2, 3, 4, 5, 0] rfl ?_
  refine g_aload_n 2 (dk D_LAW_6 3 rfl) rfl rfl ?_
  refine g_aload_n 0 (dk D_LAW_6 4 rfl) rfl rfl ?_
  refine g_iload 4 (dk D_LAW_6 5 rfl) rfl ?_
  refine g_iconst (v := 1) (dk D_LAW_6 6 rfl) (by decide +kernel) ?_
  refine g_iadd (dk D_LAW_6 7 rfl) ?_
  refine g_sld (i := i + 1) (dk D_LAW_6 8 rfl) hv.2.1 ?_
  refine g_aload_n 0 (dk D_LAW_6 9 rfl) rfl rfl ?_
  refine g_iload 4 (dk D_LAW_6 10 rfl) rfl ?_
  refine g_iconst (v := 2) (dk D_LAW_6 11 rfl) (by decide +kernel) ?_
  refine g_iadd (dk D_LAW_6 12 rfl) ?_
  refine g_sld (i := i + 2) (dk D_LAW_6 13 rfl) hv.2.2.1 ?_
  refine g_aload_n 0 (dk D_LAW_6 14 rfl) rfl rfl ?_
  refine g_iload 4 (dk D_LAW_6 15 rfl) rfl ?_
  refine g_iconst (v := 3) (dk D_LAW_6 16 rfl) (by decide +kernel) ?_
  refine g_iadd (dk D_LAW_6 17 rfl) ?_
  refine g_sld (i := i + 3) (dk D_LAW_6 18 rfl) hv.2.2.2.1 ?_
  refine g_aload_n 0 (dk D_LAW_6 19 rfl) rfl rfl ?_
  refine g_iload 4 (dk D_LAW_6 20 rfl) rfl ?_
  refine g_iconst (v := 4) (dk D_LAW_6 21 rfl) (by decide +kernel) ?_
  refine g_iadd (dk D_LAW_6 22 rfl) ?_
  refine g_sld (i := i + 4) (dk D_LAW_6 23 rfl) hv.2.2.2.2.1 ?_
  refine g_callV (As := [.int (sc xs i 1), .int (sc xs i 2), .int (sc xs i 3), .int (sc xs i 4)]) (st := []) (kc := kc) (fr := 3) (lo := 97) (mc := 0) (My := M_X9_shadow) (dk D_LAW_6 24 rfl) kd_92 rfl rfl w_1701 w_1702 w_1703 w_110 w_1704 okD_X9_shadow (by decide) (Nat.le_of_ble_eq_true rfl) rfl (c_X9_shadow (sc xs i 1) (sc xs i 2) (sc xs i 3) (sc xs i 4) h1 _ hw) kxN (kI (fun v2 h2 hw => ?_))
  refine g_istore (dk D_LAW_6 25 rfl) (by decide) rfl ?_
  refine g_sub [1, 2, 3, 4, 5, 6, 0] rfl ?_
  refine g_aload_n 2 (dk D_LAW_6 26 rfl) rfl rfl ?_
  refine g_callV (As := []) (st := []) (kc := kc) (fr := 0) (lo := 0) (mc := 0) (My := M_X9_thrown) (dk D_LAW_6 27 rfl) kd_92 rfl rfl w_1515 w_1516 w_1517 w_110 w_1518 okD_X9_thrown (by decide) (Nat.le_of_ble_eq_true rfl) rfl (c_X9_thrown  h2 _ hw) kxN (kIp (fun v3 hw => ?_))
  refine g_iload 5 (dk D_LAW_6 28 rfl) rfl ?_
  refine g_icmp_eq (tgt := 734) (dk D_LAW_6 29 rfl) rfl (wif_p hw.1 ?_)
  refine g_iload 5 (dk D_LAW_6 32 rfl) rfl ?_
  refine g_if_ne (tgt := 751) (dk D_LAW_6 33 rfl) rfl ⟨fun hz => ?_, fun hz => ?_⟩
  · refine g_goto (tgt := 2266) (dk D_LAW_6 43 rfl) rfl ?_
    refine g_sub [0, 1, 2, 3, 4] rfl ?_
    exact hK _ hw.2.2
  · refine g_aload_n 3 (dk D_LAW_6 34 rfl) rfl rfl ?_
    refine g_iconst (v := 0) (dk D_LAW_6 35 rfl) (by decide +kernel) ?_
    refine g_lald (i := 0) (dk D_LAW_6 36 rfl) kd_1457 (by unfold vp_in; decide) ?_
    refine g_iload 6 (dk D_LAW_6 37 rfl) rfl ?_
    refine g_i2l (dk D_LAW_6 38 rfl) ?_
    refine g_lcmp (dk D_LAW_6 39 rfl) ?_
    refine g_if_eq (tgt := 751) (dk D_LAW_6 40 rfl) rfl (wif_p (lgc_eq (hw.2.1 (Classical.not_not.mp hz))) ?_)
    refine g_goto (tgt := 2266) (dk D_LAW_6 43 rfl) rfl ?_
    refine g_sub [0, 1, 2, 3, 4] rfl ?_
    exact hK _ hw.2.2
def lw_c9 (xs : Nat → Int32) (i : Int32) (h : Hp) (K : Hp → Prop) : Prop :=
  w_L_law (sc xs i 1) (sc xs i 2) h (fun v1 h1 => w_X9_law (sc xs i 1) (sc xs i 2) h1 (fun v2 h2 => w_X9_thrown  h2 (fun v3 => v3 = v1 ∧ (v1 = 0 → h2 1457 (Int32.toNatClampNeg 0) = v2) ∧ K h2)))
theorem t_LAW_c9 {X : Cx} {N b : Nat} {xs : Nat → Int32} {kc : Nat} (i : Int32) (hv : inS i N) (h : Hp) (K : Hp → Prop) (hK : ∀ h' : Hp, K h' → G X M_LAW E_LAW (QS X N xs (Q9 b)) kc 2266 [(0, .ref SCR), (1, .ref 0), (2, .ref 92), (3, .ref 1457), (4, .int i)] [] h') (hw : lw_c9 xs i h K) : G X M_LAW E_LAW (QS X N xs (Q9 b)) (kc + 6) 754 [(0, .ref SCR), (1, .ref 0), (2, .ref 92), (3, .ref 1457), (4, .int i)] [] h := by
  unfold lw_c9 at hw
  refine g_aload_n 1 (dk D_LAW_6 44 rfl) rfl rfl ?_
  refine g_aload_n 0 (dk D_LAW_6 45 rfl) rfl rfl ?_
  refine g_iload 4 (dk D_LAW_6 46 rfl) rfl ?_
  refine g_iconst (v := 1) (dk D_LAW_6 47 rfl) (by decide +kernel) ?_
  refine g_iadd (dk D_LAW_6 48 rfl) ?_
  refine g_sld (i := i + 1) (dk D_LAW_6 49 rfl) hv.2.1 ?_
  refine g_aload_n 0 (dk D_LAW_6 50 rfl) rfl rfl ?_
  refine g_iload 4 (dk D_LAW_6 51 rfl) rfl ?_
  refine g_iconst (v := 2) (dk D_LAW_6 52 rfl) (by decide +kernel) ?_
  refine g_iadd (dk D_LAW_6 53 rfl) ?_
  refine g_sld (i := i + 2) (dk D_LAW_6 54 rfl) hv.2.2.1 ?_
  refine g_aload_n 3 (dk D_LAW_6 55 rfl) rfl rfl ?_
  refine g_less (kc' := kc + 2) (by omega) ?_
  refine g_callSX (As := [.ref 0, .int (sc xs i 1), .int (sc xs i 2), .ref 1457]) (st := []) (kc := kc) (fr := 8) (lo := 135) (mc := 2) (My := M_L_law) (dk D_LAW_6 56 rfl) w_1084 w_1085 w_100 w_1086 okD_L_law (by decide) (Nat.le_of_ble_eq_true rfl) rfl (c_L_law (sc xs i 1) (sc xs i 2) h _ hw) (kI (fun v1 h1 hw => ?_))
  refine g_istore (dk D_LAW_6 57 rfl) (by decide) rfl ?_
  refine g_sub [1, 2, 3, 4, 5, 0] rfl ?_
  refine g_aload_n 2 (dk D_LAW_6 58 rfl) rfl rfl ?_
  refine g_aload_n 0 (dk D_LAW_6 59 rfl) rfl rfl ?_
  refine g_iload 4 (dk D_LAW_7 0 rfl) rfl ?_
  refine g_iconst (v := 1) (dk D_LAW_7 1 rfl) (by decide +kernel) ?_
  refine g_iadd (dk D_LAW_7 2 rfl) ?_
  refine g_sld (i := i + 1) (dk D_LAW_7 3 rfl) hv.2.1 ?_
  refine g_aload_n 0 (dk D_LAW_7 4 rfl) rfl rfl ?_
  refine g_iload 4 (dk D_LAW_7 5 rfl) rfl ?_
  refine g_iconst (v := 2) (dk D_LAW_7 6 rfl) (by decide +kernel) ?_
  refine g_iadd (dk D_LAW_7 7 rfl) ?_
  refine g_sld (i := i + 2) (dk D_LAW_7 8 rfl) hv.2.2.1 ?_
  refine g_callV (As := [.int (sc xs i 1), .int (sc xs i 2)]) (st := []) (kc := kc) (fr := 1) (lo := 30) (mc := 0) (My := M_X9_law) (dk D_LAW_7 9 rfl) kd_92 rfl rfl w_1709 w_1710 w_1711 w_110 w_1712 okD_X9_law (by decide) (Nat.le_of_ble_eq_true rfl) rfl (c_X9_law (sc xs i 1) (sc xs i 2) h1 _ hw) kxN (kI (fun v2 h2 hw => ?_))
  refine g_istore (dk D_LAW_7 10 rfl) (by decide) rfl ?_
  refine g_sub [1, 2, 3, 4, 5, 6, 0] rfl ?_
  refine g_aload_n 2 (dk D_LAW_7 11 rfl) rfl rfl ?_
  refine g_callV (As := []) (st := []) (kc := kc) (fr := 0) (lo := 0) (mc := 0) (My := M_X9_thrown) (dk D_LAW_7 12 rfl) kd_92 rfl rfl w_1515 w_1516 w_1517 w_110 w_1518 okD_X9_thrown (by decide) (Nat.le_of_ble_eq_true rfl) rfl (c_X9_thrown  h2 _ hw) kxN (kIp (fun v3 hw => ?_))
  refine g_iload 5 (dk D_LAW_7 13 rfl) rfl ?_
  refine g_icmp_eq (tgt := 802) (dk D_LAW_7 14 rfl) rfl (wif_p hw.1 ?_)
  refine g_iload 5 (dk D_LAW_7 17 rfl) rfl ?_
  refine g_if_ne (tgt := 819) (dk D_LAW_7 18 rfl) rfl ⟨fun hz => ?_, fun hz => ?_⟩
  · refine g_goto (tgt := 2266) (dk D_LAW_7 28 rfl) rfl ?_
    refine g_sub [0, 1, 2, 3, 4] rfl ?_
    exact hK _ hw.2.2
  · refine g_aload_n 3 (dk D_LAW_7 19 rfl) rfl rfl ?_
    refine g_iconst (v := 0) (dk D_LAW_7 20 rfl) (by decide +kernel) ?_
    refine g_lald (i := 0) (dk D_LAW_7 21 rfl) kd_1457 (by unfold vp_in; decide) ?_
    refine g_iload 6 (dk D_LAW_7 22 rfl) rfl ?_
    refine g_i2l (dk D_LAW_7 23 rfl) ?_
    refine g_lcmp (dk D_LAW_7 24 rfl) ?_
    refine g_if_eq (tgt := 819) (dk D_LAW_7 25 rfl) rfl (wif_p (lgc_eq (hw.2.1 (Classical.not_not.mp hz))) ?_)
    refine g_goto (tgt := 2266) (dk D_LAW_7 28 rfl) rfl ?_
    refine g_sub [0, 1, 2, 3, 4] rfl ?_
    exact hK _ hw.2.2
def lw_c10 (xs : Nat → Int32) (i : Int32) (h : Hp) (K : Hp → Prop) : Prop :=
  w_L_coins (sc xs i 1) (sc xs i 2) (sc xs i 3) (sc xs i 4) (bz (sc xs i 5)) h (fun v1 h1 => w_X9_coins (sc xs i 1) (sc xs i 2) (sc xs i 3) (sc xs i 4) (bz (sc xs i 5)) h1 (fun v2 h2 => w_X9_thrown  h2 (fun v3 => v3 = v1 ∧ (v1 = 0 → h2 1457 (Int32.toNatClampNeg 0) = v2) ∧ K h2)))
theorem t_LAW_c10 {X : Cx} {N b : Nat} {xs : Nat → Int32} {kc : Nat} (i : Int32) (hv : inS i N) (h : Hp) (K : Hp → Prop) (hK : ∀ h' : Hp, K h' → G X M_LAW E_LAW (QS X N xs (Q9 b)) kc 2266 [(0, .ref SCR), (1, .ref 0), (2, .ref 92), (3, .ref 1457), (4, .int i)] [] h') (hw : lw_c10 xs i h K) : G X M_LAW E_LAW (QS X N xs (Q9 b)) (kc + 6) 822 [(0, .ref SCR), (1, .ref 0), (2, .ref 92), (3, .ref 1457), (4, .int i)] [] h := by
  unfold lw_c10 at hw
  refine g_aload_n 1 (dk D_LAW_7 29 rfl) rfl rfl ?_
  refine g_aload_n 0 (dk D_LAW_7 30 rfl) rfl rfl ?_
  refine g_iload 4 (dk D_LAW_7 31 rfl) rfl ?_
  refine g_iconst (v := 1) (dk D_LAW_7 32 rfl) (by decide +kernel) ?_
  refine g_iadd (dk D_LAW_7 33 rfl) ?_
  refine g_sld (i := i + 1) (dk D_LAW_7 34 rfl) hv.2.1 ?_
  refine g_aload_n 0 (dk D_LAW_7 35 rfl) rfl rfl ?_
  refine g_iload 4 (dk D_LAW_7 36 rfl) rfl ?_
  refine g_iconst (v := 2) (dk D_LAW_7 37 rfl) (by decide +kernel) ?_
  refine g_iadd (dk D_LAW_7 38 rfl) ?_
  refine g_sld (i := i + 2) (dk D_LAW_7 39 rfl) hv.2.2.1 ?_
  refine g_aload_n 0 (dk D_LAW_7 40 rfl) rfl rfl ?_
  refine g_iload 4 (dk D_LAW_7 41 rfl) rfl ?_
  refine g_iconst (v := 3) (dk D_LAW_7 42 rfl) (by decide +kernel) ?_
  refine g_iadd (dk D_LAW_7 43 rfl) ?_
  refine g_sld (i := i + 3) (dk D_LAW_7 44 rfl) hv.2.2.2.1 ?_
  refine g_aload_n 0 (dk D_LAW_7 45 rfl) rfl rfl ?_
  refine g_iload 4 (dk D_LAW_7 46 rfl) rfl ?_
  refine g_iconst (v := 4) (dk D_LAW_7 47 rfl) (by decide +kernel) ?_
  refine g_iadd (dk D_LAW_7 48 rfl) ?_
  refine g_sld (i := i + 4) (dk D_LAW_7 49 rfl) hv.2.2.2.2.1 ?_
  refine g_aload_n 0 (dk D_LAW_7 50 rfl) rfl rfl ?_
  refine g_iload 4 (dk D_LAW_7 51 rfl) rfl ?_
  refine g_iconst (v := 5) (dk D_LAW_7 52 rfl) (by decide +kernel) ?_
  refine g_iadd (dk D_LAW_7 53 rfl) ?_
  refine g_sld (i := i + 5) (dk D_LAW_7 54 rfl) hv.2.2.2.2.2 ?_
  refine g_bool (v := sc xs i 5) (dk D_LAW_7 55 rfl) (dk D_LAW_7 56 rfl) (dk D_LAW_7 57 rfl) (dk D_LAW_7 58 rfl) ?_
  refine g_aload_n 3 (dk D_LAW_7 59 rfl) rfl rfl ?_
  refine g_less (kc' := kc + 4) (by omega) ?_
  refine g_callSX (As := [.ref 0, .int (sc xs i 1), .int (sc xs i 2), .int (sc xs i 3), .int (sc xs i 4), .int (bz (sc xs i 5)), .ref 1457]) (st := []) (kc := kc) (fr := 8) (lo := 159) (mc := 4) (My := M_L_coins) (dk D_LAW_8 0 rfl) w_1092 w_1093 w_100 w_1094 okD_L_coins (by decide) (Nat.le_of_ble_eq_true rfl) rfl (c_L_coins (sc xs i 1) (sc xs i 2) (sc xs i 3) (sc xs i 4) (bz (sc xs i 5)) h _ hw) (kI (fun v1 h1 hw => ?_))
  refine g_istore (dk D_LAW_8 1 rfl) (by decide) rfl ?_
  refine g_sub [1, 2, 3, 4, 5, 0] rfl ?_
  refine g_aload_n 2 (dk D_LAW_8 2 rfl) rfl rfl ?_
  refine g_aload_n 0 (dk D_LAW_8 3 rfl) rfl rfl ?_
  refine g_iload 4 (dk D_LAW_8 4 rfl) rfl ?_
  refine g_iconst (v := 1) (dk D_LAW_8 5 rfl) (by decide +kernel) ?_
  refine g_iadd (dk D_LAW_8 6 rfl) ?_
  refine g_sld (i := i + 1) (dk D_LAW_8 7 rfl) hv.2.1 ?_
  refine g_aload_n 0 (dk D_LAW_8 8 rfl) rfl rfl ?_
  refine g_iload 4 (dk D_LAW_8 9 rfl) rfl ?_
  refine g_iconst (v := 2) (dk D_LAW_8 10 rfl) (by decide +kernel) ?_
  refine g_iadd (dk D_LAW_8 11 rfl) ?_
  refine g_sld (i := i + 2) (dk D_LAW_8 12 rfl) hv.2.2.1 ?_
  refine g_aload_n 0 (dk D_LAW_8 13 rfl) rfl rfl ?_
  refine g_iload 4 (dk D_LAW_8 14 rfl) rfl ?_
  refine g_iconst (v := 3) (dk D_LAW_8 15 rfl) (by decide +kernel) ?_
  refine g_iadd (dk D_LAW_8 16 rfl) ?_
  refine g_sld (i := i + 3) (dk D_LAW_8 17 rfl) hv.2.2.2.1 ?_
  refine g_aload_n 0 (dk D_LAW_8 18 rfl) rfl rfl ?_
  refine g_iload 4 (dk D_LAW_8 19 rfl) rfl ?_
  refine g_iconst (v := 4) (dk D_LAW_8 20 rfl) (by decide +kernel) ?_
  refine g_iadd (dk D_LAW_8 21 rfl) ?_
  refine g_sld (i := i + 4) (dk D_LAW_8 22 rfl) hv.2.2.2.2.1 ?_
  refine g_aload_n 0 (dk D_LAW_8 23 rfl) rfl rfl ?_
  refine g_iload 4 (dk D_LAW_8 24 rfl) rfl ?_
  refine g_iconst (v := 5) (dk D_LAW_8 25 rfl) (by decide +kernel) ?_
  refine g_iadd (dk D_LAW_8 26 rfl) ?_
  refine g_sld (i := i + 5) (dk D_LAW_8 27 rfl) hv.2.2.2.2.2 ?_
  refine g_bool (v := sc xs i 5) (dk D_LAW_8 28 rfl) (dk D_LAW_8 29 rfl) (dk D_LAW_8 30 rfl) (dk D_LAW_8 31 rfl) ?_
  refine g_callV (As := [.int (sc xs i 1), .int (sc xs i 2), .int (sc xs i 3), .int (sc xs i 4), .int (bz (sc xs i 5))]) (st := []) (kc := kc) (fr := 5) (lo := 172) (mc := 0) (My := M_X9_coins) (dk D_LAW_8 32 rfl) kd_92 rfl rfl w_1713 w_1714 w_1715 w_110 w_1716 okD_X9_coins (by decide) (Nat.le_of_ble_eq_true rfl) rfl (c_X9_coins (sc xs i 1) (sc xs i 2) (sc xs i 3) (sc xs i 4) (bz (sc xs i 5)) h1 _ hw) kxN (kI (fun v2 h2 hw => ?_))
  refine g_istore (dk D_LAW_8 33 rfl) (by decide) rfl ?_
  refine g_sub [1, 2, 3, 4, 5, 6, 0] rfl ?_
  refine g_aload_n 2 (dk D_LAW_8 34 rfl) rfl rfl ?_
  refine g_callV (As := []) (st := []) (kc := kc) (fr := 0) (lo := 0) (mc := 0) (My := M_X9_thrown) (dk D_LAW_8 35 rfl) kd_92 rfl rfl w_1515 w_1516 w_1517 w_110 w_1518 okD_X9_thrown (by decide) (Nat.le_of_ble_eq_true rfl) rfl (c_X9_thrown  h2 _ hw) kxN (kIp (fun v3 hw => ?_))
  refine g_iload 5 (dk D_LAW_8 36 rfl) rfl ?_
  refine g_icmp_eq (tgt := 922) (dk D_LAW_8 37 rfl) rfl (wif_p hw.1 ?_)
  refine g_iload 5 (dk D_LAW_8 40 rfl) rfl ?_
  refine g_if_ne (tgt := 939) (dk D_LAW_8 41 rfl) rfl ⟨fun hz => ?_, fun hz => ?_⟩
  · refine g_goto (tgt := 2266) (dk D_LAW_8 51 rfl) rfl ?_
    refine g_sub [0, 1, 2, 3, 4] rfl ?_
    exact hK _ hw.2.2
  · refine g_aload_n 3 (dk D_LAW_8 42 rfl) rfl rfl ?_
    refine g_iconst (v := 0) (dk D_LAW_8 43 rfl) (by decide +kernel) ?_
    refine g_lald (i := 0) (dk D_LAW_8 44 rfl) kd_1457 (by unfold vp_in; decide) ?_
    refine g_iload 6 (dk D_LAW_8 45 rfl) rfl ?_
    refine g_i2l (dk D_LAW_8 46 rfl) ?_
    refine g_lcmp (dk D_LAW_8 47 rfl) ?_
    refine g_if_eq (tgt := 939) (dk D_LAW_8 48 rfl) rfl (wif_p (lgc_eq (hw.2.1 (Classical.not_not.mp hz))) ?_)
    refine g_goto (tgt := 2266) (dk D_LAW_8 51 rfl) rfl ?_
    refine g_sub [0, 1, 2, 3, 4] rfl ?_
    exact hK _ hw.2.2
def lw_c11 (xs : Nat → Int32) (i : Int32) (h : Hp) (K : Hp → Prop) : Prop :=
  w_L_best (sc xs i 1) (sc xs i 2) (sc xs i 3) (sc xs i 4) h (fun v1 h1 => w_X9_best (sc xs i 1) (sc xs i 2) (sc xs i 3) (sc xs i 4) h1 (fun v2 h2 => w_X9_thrown  h2 (fun v3 => v3 = v1 ∧ (v1 = 0 → h2 1457 (Int32.toNatClampNeg 0) = v2) ∧ K h2)))
theorem t_LAW_c11 {X : Cx} {N b : Nat} {xs : Nat → Int32} {kc : Nat} (i : Int32) (hv : inS i N) (h : Hp) (K : Hp → Prop) (hK : ∀ h' : Hp, K h' → G X M_LAW E_LAW (QS X N xs (Q9 b)) kc 2266 [(0, .ref SCR), (1, .ref 0), (2, .ref 92), (3, .ref 1457), (4, .int i)] [] h') (hw : lw_c11 xs i h K) : G X M_LAW E_LAW (QS X N xs (Q9 b)) (kc + 6) 942 [(0, .ref SCR), (1, .ref 0), (2, .ref 92), (3, .ref 1457), (4, .int i)] [] h := by
  unfold lw_c11 at hw
  refine g_aload_n 1 (dk D_LAW_8 52 rfl) rfl rfl ?_
  refine g_aload_n 0 (dk D_LAW_8 53 rfl) rfl rfl ?_
  refine g_iload 4 (dk D_LAW_8 54 rfl) rfl ?_
  refine g_iconst (v := 1) (dk D_LAW_8 55 rfl) (by decide +kernel) ?_
  refine g_iadd (dk D_LAW_8 56 rfl) ?_
  refine g_sld (i := i + 1) (dk D_LAW_8 57 rfl) hv.2.1 ?_
  refine g_aload_n 0 (dk D_LAW_8 58 rfl) rfl rfl ?_
  refine g_iload 4 (dk D_LAW_8 59 rfl) rfl ?_
  refine g_iconst (v := 2) (dk D_LAW_9 0 rfl) (by decide +kernel) ?_
  refine g_iadd (dk D_LAW_9 1 rfl) ?_
  refine g_sld (i := i + 2) (dk D_LAW_9 2 rfl) hv.2.2.1 ?_
  refine g_aload_n 0 (dk D_LAW_9 3 rfl) rfl rfl ?_
  refine g_iload 4 (dk D_LAW_9 4 rfl) rfl ?_
  refine g_iconst (v := 3) (dk D_LAW_9 5 rfl) (by decide +kernel) ?_
  refine g_iadd (dk D_LAW_9 6 rfl) ?_
  refine g_sld (i := i + 3) (dk D_LAW_9 7 rfl) hv.2.2.2.1 ?_
  refine g_aload_n 0 (dk D_LAW_9 8 rfl) rfl rfl ?_
  refine g_iload 4 (dk D_LAW_9 9 rfl) rfl ?_
  refine g_iconst (v := 4) (dk D_LAW_9 10 rfl) (by decide +kernel) ?_
  refine g_iadd (dk D_LAW_9 11 rfl) ?_
  refine g_sld (i := i + 4) (dk D_LAW_9 12 rfl) hv.2.2.2.2.1 ?_
  refine g_aload_n 3 (dk D_LAW_9 13 rfl) rfl rfl ?_
  refine g_less (kc' := kc + 4) (by omega) ?_
  refine g_callSX (As := [.ref 0, .int (sc xs i 1), .int (sc xs i 2), .int (sc xs i 3), .int (sc xs i 4), .ref 1457]) (st := []) (kc := kc) (fr := 8) (lo := 228) (mc := 4) (My := M_L_best) (dk D_LAW_9 14 rfl) w_1100 w_1101 w_100 w_1102 okD_L_best (by decide) (Nat.le_of_ble_eq_true rfl) rfl (c_L_best (sc xs i 1) (sc xs i 2) (sc xs i 3) (sc xs i 4) h _ hw) (kI (fun v1 h1 hw => ?_))
  refine g_istore (dk D_LAW_9 15 rfl) (by decide) rfl ?_
  refine g_sub [1, 2, 3, 4, 5, 0] rfl ?_
  refine g_aload_n 2 (dk D_LAW_9 16 rfl) rfl rfl ?_
  refine g_aload_n 0 (dk D_LAW_9 17 rfl) rfl rfl ?_
  refine g_iload 4 (dk D_LAW_9 18 rfl) rfl ?_
  refine g_iconst (v := 1) (dk D_LAW_9 19 rfl) (by decide +kernel) ?_
  refine g_iadd (dk D_LAW_9 20 rfl) ?_
  refine g_sld (i := i + 1) (dk D_LAW_9 21 rfl) hv.2.1 ?_
  refine g_aload_n 0 (dk D_LAW_9 22 rfl) rfl rfl ?_
  refine g_iload 4 (dk D_LAW_9 23 rfl) rfl ?_
  refine g_iconst (v := 2) (dk D_LAW_9 24 rfl) (by decide +kernel) ?_
  refine g_iadd (dk D_LAW_9 25 rfl) ?_
  refine g_sld (i := i + 2) (dk D_LAW_9 26 rfl) hv.2.2.1 ?_
  refine g_aload_n 0 (dk D_LAW_9 27 rfl) rfl rfl ?_
  refine g_iload 4 (dk D_LAW_9 28 rfl) rfl ?_
  refine g_iconst (v := 3) (dk D_LAW_9 29 rfl) (by decide +kernel) ?_
  refine g_iadd (dk D_LAW_9 30 rfl) ?_
  refine g_sld (i := i + 3) (dk D_LAW_9 31 rfl) hv.2.2.2.1 ?_
  refine g_aload_n 0 (dk D_LAW_9 32 rfl) rfl rfl ?_
  refine g_iload 4 (dk D_LAW_9 33 rfl) rfl ?_
  refine g_iconst (v := 4) (dk D_LAW_9 34 rfl) (by decide +kernel) ?_
  refine g_iadd (dk D_LAW_9 35 rfl) ?_
  refine g_sld (i := i + 4) (dk D_LAW_9 36 rfl) hv.2.2.2.2.1 ?_
  refine g_callV (As := [.int (sc xs i 1), .int (sc xs i 2), .int (sc xs i 3), .int (sc xs i 4)]) (st := []) (kc := kc) (fr := 7) (lo := 240) (mc := 0) (My := M_X9_best) (dk D_LAW_9 37 rfl) kd_92 rfl rfl w_1733 w_1734 w_1735 w_110 w_1736 okD_X9_best (by decide) (Nat.le_of_ble_eq_true rfl) rfl (c_X9_best (sc xs i 1) (sc xs i 2) (sc xs i 3) (sc xs i 4) h1 _ hw) kxN (kI (fun v2 h2 hw => ?_))
  refine g_istore (dk D_LAW_9 38 rfl) (by decide) rfl ?_
  refine g_sub [1, 2, 3, 4, 5, 6, 0] rfl ?_
  refine g_aload_n 2 (dk D_LAW_9 39 rfl) rfl rfl ?_
  refine g_callV (As := []) (st := []) (kc := kc) (fr := 0) (lo := 0) (mc := 0) (My := M_X9_thrown) (dk D_LAW_9 40 rfl) kd_92 rfl rfl w_1515 w_1516 w_1517 w_110 w_1518 okD_X9_thrown (by decide) (Nat.le_of_ble_eq_true rfl) rfl (c_X9_thrown  h2 _ hw) kxN (kIp (fun v3 hw => ?_))
  refine g_iload 5 (dk D_LAW_9 41 rfl) rfl ?_
  refine g_icmp_eq (tgt := 1014) (dk D_LAW_9 42 rfl) rfl (wif_p hw.1 ?_)
  refine g_iload 5 (dk D_LAW_9 45 rfl) rfl ?_
  refine g_if_ne (tgt := 1031) (dk D_LAW_9 46 rfl) rfl ⟨fun hz => ?_, fun hz => ?_⟩
  · refine g_goto (tgt := 2266) (dk D_LAW_9 56 rfl) rfl ?_
    refine g_sub [0, 1, 2, 3, 4] rfl ?_
    exact hK _ hw.2.2
  · refine g_aload_n 3 (dk D_LAW_9 47 rfl) rfl rfl ?_
    refine g_iconst (v := 0) (dk D_LAW_9 48 rfl) (by decide +kernel) ?_
    refine g_lald (i := 0) (dk D_LAW_9 49 rfl) kd_1457 (by unfold vp_in; decide) ?_
    refine g_iload 6 (dk D_LAW_9 50 rfl) rfl ?_
    refine g_i2l (dk D_LAW_9 51 rfl) ?_
    refine g_lcmp (dk D_LAW_9 52 rfl) ?_
    refine g_if_eq (tgt := 1031) (dk D_LAW_9 53 rfl) rfl (wif_p (lgc_eq (hw.2.1 (Classical.not_not.mp hz))) ?_)
    refine g_goto (tgt := 2266) (dk D_LAW_9 56 rfl) rfl ?_
    refine g_sub [0, 1, 2, 3, 4] rfl ?_
    exact hK _ hw.2.2
def lw_c12 (xs : Nat → Int32) (i : Int32) (h : Hp) (K : Hp → Prop) : Prop :=
  w_L_week (sc xs i 1) (sc xs i 2) h (fun v1 h1 => w_X9_week (sc xs i 1) (sc xs i 2) h1 (fun v2 h2 => w_X9_thrown  h2 (fun v3 => v3 = v1 ∧ (v1 = 0 → h2 1457 (Int32.toNatClampNeg 0) = v2) ∧ K h2)))
theorem t_LAW_c12 {X : Cx} {N b : Nat} {xs : Nat → Int32} {kc : Nat} (i : Int32) (hv : inS i N) (h : Hp) (K : Hp → Prop) (hK : ∀ h' : Hp, K h' → G X M_LAW E_LAW (QS X N xs (Q9 b)) kc 2266 [(0, .ref SCR), (1, .ref 0), (2, .ref 92), (3, .ref 1457), (4, .int i)] [] h') (hw : lw_c12 xs i h K) : G X M_LAW E_LAW (QS X N xs (Q9 b)) (kc + 6) 1034 [(0, .ref SCR), (1, .ref 0), (2, .ref 92), (3, .ref 1457), (4, .int i)] [] h := by
  unfold lw_c12 at hw
  refine g_aload_n 1 (dk D_LAW_9 57 rfl) rfl rfl ?_
  refine g_aload_n 0 (dk D_LAW_9 58 rfl) rfl rfl ?_
  refine g_iload 4 (dk D_LAW_9 59 rfl) rfl ?_
  refine g_iconst (v := 1) (dk D_LAW_10 0 rfl) (by decide +kernel) ?_
  refine g_iadd (dk D_LAW_10 1 rfl) ?_
  refine g_sld (i := i + 1) (dk D_LAW_10 2 rfl) hv.2.1 ?_
  refine g_aload_n 0 (dk D_LAW_10 3 rfl) rfl rfl ?_
  refine g_iload 4 (dk D_LAW_10 4 rfl) rfl ?_
  refine g_iconst (v := 2) (dk D_LAW_10 5 rfl) (by decide +kernel) ?_
  refine g_iadd (dk D_LAW_10 6 rfl) ?_
  refine g_sld (i := i + 2) (dk D_LAW_10 7 rfl) hv.2.2.1 ?_
  refine g_aload_n 3 (dk D_LAW_10 8 rfl) rfl rfl ?_
  refine g_less (kc' := kc + 2) (by omega) ?_
  refine g_callSX (As := [.ref 0, .int (sc xs i 1), .int (sc xs i 2), .ref 1457]) (st := []) (kc := kc) (fr := 8) (lo := 230) (mc := 2) (My := M_L_week) (dk D_LAW_10 9 rfl) w_1119 w_1120 w_100 w_1121 okD_L_week (by decide) (Nat.le_of_ble_eq_true rfl) rfl (c_L_week (sc xs i 1) (sc xs i 2) h _ hw) (kI (fun v1 h1 hw => ?_))
  refine g_istore (dk D_LAW_10 10 rfl) (by decide) rfl ?_
  refine g_sub [1, 2, 3, 4, 5, 0] rfl ?_
  refine g_aload_n 2 (dk D_LAW_10 11 rfl) rfl rfl ?_
  refine g_aload_n 0 (dk D_LAW_10 12 rfl) rfl rfl ?_
  refine g_iload 4 (dk D_LAW_10 13 rfl) rfl ?_
  refine g_iconst (v := 1) (dk D_LAW_10 14 rfl) (by decide +kernel) ?_
  refine g_iadd (dk D_LAW_10 15 rfl) ?_
  refine g_sld (i := i + 1) (dk D_LAW_10 16 rfl) hv.2.1 ?_
  refine g_aload_n 0 (dk D_LAW_10 17 rfl) rfl rfl ?_
  refine g_iload 4 (dk D_LAW_10 18 rfl) rfl ?_
  refine g_iconst (v := 2) (dk D_LAW_10 19 rfl) (by decide +kernel) ?_
  refine g_iadd (dk D_LAW_10 20 rfl) ?_
  refine g_sld (i := i + 2) (dk D_LAW_10 21 rfl) hv.2.2.1 ?_
  refine g_callV (As := [.int (sc xs i 1), .int (sc xs i 2)]) (st := []) (kc := kc) (fr := 7) (lo := 240) (mc := 0) (My := M_X9_week) (dk D_LAW_10 22 rfl) kd_92 rfl rfl w_1749 w_1750 w_1751 w_110 w_1752 okD_X9_week (by decide) (Nat.le_of_ble_eq_true rfl) rfl (c_X9_week (sc xs i 1) (sc xs i 2) h1 _ hw) kxN (kI (fun v2 h2 hw => ?_))
  refine g_istore (dk D_LAW_10 23 rfl) (by decide) rfl ?_
  refine g_sub [1, 2, 3, 4, 5, 6, 0] rfl ?_
  refine g_aload_n 2 (dk D_LAW_10 24 rfl) rfl rfl ?_
  refine g_callV (As := []) (st := []) (kc := kc) (fr := 0) (lo := 0) (mc := 0) (My := M_X9_thrown) (dk D_LAW_10 25 rfl) kd_92 rfl rfl w_1515 w_1516 w_1517 w_110 w_1518 okD_X9_thrown (by decide) (Nat.le_of_ble_eq_true rfl) rfl (c_X9_thrown  h2 _ hw) kxN (kIp (fun v3 hw => ?_))
  refine g_iload 5 (dk D_LAW_10 26 rfl) rfl ?_
  refine g_icmp_eq (tgt := 1082) (dk D_LAW_10 27 rfl) rfl (wif_p hw.1 ?_)
  refine g_iload 5 (dk D_LAW_10 30 rfl) rfl ?_
  refine g_if_ne (tgt := 1099) (dk D_LAW_10 31 rfl) rfl ⟨fun hz => ?_, fun hz => ?_⟩
  · refine g_goto (tgt := 2266) (dk D_LAW_10 41 rfl) rfl ?_
    refine g_sub [0, 1, 2, 3, 4] rfl ?_
    exact hK _ hw.2.2
  · refine g_aload_n 3 (dk D_LAW_10 32 rfl) rfl rfl ?_
    refine g_iconst (v := 0) (dk D_LAW_10 33 rfl) (by decide +kernel) ?_
    refine g_lald (i := 0) (dk D_LAW_10 34 rfl) kd_1457 (by unfold vp_in; decide) ?_
    refine g_iload 6 (dk D_LAW_10 35 rfl) rfl ?_
    refine g_i2l (dk D_LAW_10 36 rfl) ?_
    refine g_lcmp (dk D_LAW_10 37 rfl) ?_
    refine g_if_eq (tgt := 1099) (dk D_LAW_10 38 rfl) rfl (wif_p (lgc_eq (hw.2.1 (Classical.not_not.mp hz))) ?_)
    refine g_goto (tgt := 2266) (dk D_LAW_10 41 rfl) rfl ?_
    refine g_sub [0, 1, 2, 3, 4] rfl ?_
    exact hK _ hw.2.2
def lw_c13 (xs : Nat → Int32) (i : Int32) (h : Hp) (K : Hp → Prop) : Prop :=
  w_L_plan (sc xs i 1) (sc xs i 2) (bz (sc xs i 3)) (sc xs i 4) h (fun v1 h1 => w_X9_plan (sc xs i 1) (sc xs i 2) (bz (sc xs i 3)) (sc xs i 4) h1 (fun v2 h2 => w_X9_thrown  h2 (fun v3 => v3 = v1 ∧ (v1 = 0 → h2 1457 (Int32.toNatClampNeg 0) = v2) ∧ K h2)))
theorem t_LAW_c13 {X : Cx} {N b : Nat} {xs : Nat → Int32} {kc : Nat} (i : Int32) (hv : inS i N) (h : Hp) (K : Hp → Prop) (hK : ∀ h' : Hp, K h' → G X M_LAW E_LAW (QS X N xs (Q9 b)) kc 2266 [(0, .ref SCR), (1, .ref 0), (2, .ref 92), (3, .ref 1457), (4, .int i)] [] h') (hw : lw_c13 xs i h K) : G X M_LAW E_LAW (QS X N xs (Q9 b)) (kc + 6) 1102 [(0, .ref SCR), (1, .ref 0), (2, .ref 92), (3, .ref 1457), (4, .int i)] [] h := by
  unfold lw_c13 at hw
  refine g_aload_n 1 (dk D_LAW_10 42 rfl) rfl rfl ?_
  refine g_aload_n 0 (dk D_LAW_10 43 rfl) rfl rfl ?_
  refine g_iload 4 (dk D_LAW_10 44 rfl) rfl ?_
  refine g_iconst (v := 1) (dk D_LAW_10 45 rfl) (by decide +kernel) ?_
  refine g_iadd (dk D_LAW_10 46 rfl) ?_
  refine g_sld (i := i + 1) (dk D_LAW_10 47 rfl) hv.2.1 ?_
  refine g_aload_n 0 (dk D_LAW_10 48 rfl) rfl rfl ?_
  refine g_iload 4 (dk D_LAW_10 49 rfl) rfl ?_
  refine g_iconst (v := 2) (dk D_LAW_10 50 rfl) (by decide +kernel) ?_
  refine g_iadd (dk D_LAW_10 51 rfl) ?_
  refine g_sld (i := i + 2) (dk D_LAW_10 52 rfl) hv.2.2.1 ?_
  refine g_aload_n 0 (dk D_LAW_10 53 rfl) rfl rfl ?_
  refine g_iload 4 (dk D_LAW_10 54 rfl) rfl ?_
  refine g_iconst (v := 3) (dk D_LAW_10 55 rfl) (by decide +kernel) ?_
  refine g_iadd (dk D_LAW_10 56 rfl) ?_
  refine g_sld (i := i + 3) (dk D_LAW_10 57 rfl) hv.2.2.2.1 ?_
  refine g_bool (v := sc xs i 3) (dk D_LAW_10 58 rfl) (dk D_LAW_10 59 rfl) (dk D_LAW_11 0 rfl) (dk D_LAW_11 1 rfl) ?_
  refine g_aload_n 0 (dk D_LAW_11 2 rfl) rfl rfl ?_
  refine g_iload 4 (dk D_LAW_11 3 rfl) rfl ?_
  refine g_iconst (v := 4) (dk D_LAW_11 4 rfl) (by decide +kernel) ?_
  refine g_iadd (dk D_LAW_11 5 rfl) ?_
  refine g_sld (i := i + 4) (dk D_LAW_11 6 rfl) hv.2.2.2.2.1 ?_
  refine g_aload_n 3 (dk D_LAW_11 7 rfl) rfl rfl ?_
  refine g_less (kc' := kc + 2) (by omega) ?_
  refine g_callSX (As := [.ref 0, .int (sc xs i 1), .int (sc xs i 2), .int (bz (sc xs i 3)), .int (sc xs i 4), .ref 1457]) (st := []) (kc := kc) (fr := 9) (lo := 243) (mc := 2) (My := M_L_plan) (dk D_LAW_11 8 rfl) w_1126 w_1127 w_100 w_1128 okD_L_plan (by decide) (Nat.le_of_ble_eq_true rfl) rfl (c_L_plan (sc xs i 1) (sc xs i 2) (bz (sc xs i 3)) (sc xs i 4) h _ hw) (kI (fun v1 h1 hw => ?_))
  refine g_istore (dk D_LAW_11 9 rfl) (by decide) rfl ?_
  refine g_sub [1, 2, 3, 4, 5, 0] rfl ?_
  refine g_aload_n 2 (dk D_LAW_11 10 rfl) rfl rfl ?_
  refine g_aload_n 0 (dk D_LAW_11 11 rfl) rfl rfl ?_
  refine g_iload 4 (dk D_LAW_11 12 rfl) rfl ?_
  refine g_iconst (v := 1) (dk D_LAW_11 13 rfl) (by decide +kernel) ?_
  refine g_iadd (dk D_LAW_11 14 rfl) ?_
  refine g_sld (i := i + 1) (dk D_LAW_11 15 rfl) hv.2.1 ?_
  refine g_aload_n 0 (dk D_LAW_11 16 rfl) rfl rfl ?_
  refine g_iload 4 (dk D_LAW_11 17 rfl) rfl ?_
  refine g_iconst (v := 2) (dk D_LAW_11 18 rfl) (by decide +kernel) ?_
  refine g_iadd (dk D_LAW_11 19 rfl) ?_
  refine g_sld (i := i + 2) (dk D_LAW_11 20 rfl) hv.2.2.1 ?_
  refine g_aload_n 0 (dk D_LAW_11 21 rfl) rfl rfl ?_
  refine g_iload 4 (dk D_LAW_11 22 rfl) rfl ?_
  refine g_iconst (v := 3) (dk D_LAW_11 23 rfl) (by decide +kernel) ?_
  refine g_iadd (dk D_LAW_11 24 rfl) ?_
  refine g_sld (i := i + 3) (dk D_LAW_11 25 rfl) hv.2.2.2.1 ?_
  refine g_bool (v := sc xs i 3) (dk D_LAW_11 26 rfl) (dk D_LAW_11 27 rfl) (dk D_LAW_11 28 rfl) (dk D_LAW_11 29 rfl) ?_
  refine g_aload_n 0 (dk D_LAW_11 30 rfl) rfl rfl ?_
  refine g_iload 4 (dk D_LAW_11 31 rfl) rfl ?_
  refine g_iconst (v := 4) (dk D_LAW_11 32 rfl) (by decide +kernel) ?_
  refine g_iadd (dk D_LAW_11 33 rfl) ?_
  refine g_sld (i := i + 4) (dk D_LAW_11 34 rfl) hv.2.2.2.2.1 ?_
  refine g_callV (As := [.int (sc xs i 1), .int (sc xs i 2), .int (bz (sc xs i 3)), .int (sc xs i 4)]) (st := []) (kc := kc) (fr := 7) (lo := 243) (mc := 0) (My := M_X9_plan) (dk D_LAW_11 35 rfl) kd_92 rfl rfl w_1761 w_1762 w_1763 w_110 w_1764 okD_X9_plan (by decide) (Nat.le_of_ble_eq_true rfl) rfl (c_X9_plan (sc xs i 1) (sc xs i 2) (bz (sc xs i 3)) (sc xs i 4) h1 _ hw) kxN (kI (fun v2 h2 hw => ?_))
  refine g_istore (dk D_LAW_11 36 rfl) (by decide) rfl ?_
  refine g_sub [1, 2, 3, 4, 5, 6, 0] rfl ?_
  refine g_aload_n 2 (dk D_LAW_11 37 rfl) rfl rfl ?_
  refine g_callV (As := []) (st := []) (kc := kc) (fr := 0) (lo := 0) (mc := 0) (My := M_X9_thrown) (dk D_LAW_11 38 rfl) kd_92 rfl rfl w_1515 w_1516 w_1517 w_110 w_1518 okD_X9_thrown (by decide) (Nat.le_of_ble_eq_true rfl) rfl (c_X9_thrown  h2 _ hw) kxN (kIp (fun v3 hw => ?_))
  refine g_iload 5 (dk D_LAW_11 39 rfl) rfl ?_
  refine g_icmp_eq (tgt := 1190) (dk D_LAW_11 40 rfl) rfl (wif_p hw.1 ?_)
  refine g_iload 5 (dk D_LAW_11 43 rfl) rfl ?_
  refine g_if_ne (tgt := 1207) (dk D_LAW_11 44 rfl) rfl ⟨fun hz => ?_, fun hz => ?_⟩
  · refine g_goto (tgt := 2266) (dk D_LAW_11 54 rfl) rfl ?_
    refine g_sub [0, 1, 2, 3, 4] rfl ?_
    exact hK _ hw.2.2
  · refine g_aload_n 3 (dk D_LAW_11 45 rfl) rfl rfl ?_
    refine g_iconst (v := 0) (dk D_LAW_11 46 rfl) (by decide +kernel) ?_
    refine g_lald (i := 0) (dk D_LAW_11 47 rfl) kd_1457 (by unfold vp_in; decide) ?_
    refine g_iload 6 (dk D_LAW_11 48 rfl) rfl ?_
    refine g_i2l (dk D_LAW_11 49 rfl) ?_
    refine g_lcmp (dk D_LAW_11 50 rfl) ?_
    refine g_if_eq (tgt := 1207) (dk D_LAW_11 51 rfl) rfl (wif_p (lgc_eq (hw.2.1 (Classical.not_not.mp hz))) ?_)
    refine g_goto (tgt := 2266) (dk D_LAW_11 54 rfl) rfl ?_
    refine g_sub [0, 1, 2, 3, 4] rfl ?_
    exact hK _ hw.2.2
def lw_c14 (xs : Nat → Int32) (i : Int32) (h : Hp) (K : Hp → Prop) : Prop :=
  w_L_slot (sc xs i 1) (sc xs i 2) (bz (sc xs i 3)) (sc xs i 4) h (fun v1 h1 => w_X9_slot (sc xs i 1) (sc xs i 2) (bz (sc xs i 3)) (sc xs i 4) h1 (fun v2 h2 => w_X9_thrown  h2 (fun v3 => v3 = v1 ∧ (v1 = 0 → h2 1457 (Int32.toNatClampNeg 0) = v2) ∧ K h2)))
theorem t_LAW_c14 {X : Cx} {N b : Nat} {xs : Nat → Int32} {kc : Nat} (i : Int32) (hv : inS i N) (h : Hp) (K : Hp → Prop) (hK : ∀ h' : Hp, K h' → G X M_LAW E_LAW (QS X N xs (Q9 b)) kc 2266 [(0, .ref SCR), (1, .ref 0), (2, .ref 92), (3, .ref 1457), (4, .int i)] [] h') (hw : lw_c14 xs i h K) : G X M_LAW E_LAW (QS X N xs (Q9 b)) (kc + 6) 1210 [(0, .ref SCR), (1, .ref 0), (2, .ref 92), (3, .ref 1457), (4, .int i)] [] h := by
  unfold lw_c14 at hw
  refine g_aload_n 1 (dk D_LAW_11 55 rfl) rfl rfl ?_
  refine g_aload_n 0 (dk D_LAW_11 56 rfl) rfl rfl ?_
  refine g_iload 4 (dk D_LAW_11 57 rfl) rfl ?_
  refine g_iconst (v := 1) (dk D_LAW_11 58 rfl) (by decide +kernel) ?_
  refine g_iadd (dk D_LAW_11 59 rfl) ?_
  refine g_sld (i := i + 1) (dk D_LAW_12 0 rfl) hv.2.1 ?_
  refine g_aload_n 0 (dk D_LAW_12 1 rfl) rfl rfl ?_
  refine g_iload 4 (dk D_LAW_12 2 rfl) rfl ?_
  refine g_iconst (v := 2) (dk D_LAW_12 3 rfl) (by decide +kernel) ?_
  refine g_iadd (dk D_LAW_12 4 rfl) ?_
  refine g_sld (i := i + 2) (dk D_LAW_12 5 rfl) hv.2.2.1 ?_
  refine g_aload_n 0 (dk D_LAW_12 6 rfl) rfl rfl ?_
  refine g_iload 4 (dk D_LAW_12 7 rfl) rfl ?_
  refine g_iconst (v := 3) (dk D_LAW_12 8 rfl) (by decide +kernel) ?_
  refine g_iadd (dk D_LAW_12 9 rfl) ?_
  refine g_sld (i := i + 3) (dk D_LAW_12 10 rfl) hv.2.2.2.1 ?_
  refine g_bool (v := sc xs i 3) (dk D_LAW_12 11 rfl) (dk D_LAW_12 12 rfl) (dk D_LAW_12 13 rfl) (dk D_LAW_12 14 rfl) ?_
  refine g_aload_n 0 (dk D_LAW_12 15 rfl) rfl rfl ?_
  refine g_iload 4 (dk D_LAW_12 16 rfl) rfl ?_
  refine g_iconst (v := 4) (dk D_LAW_12 17 rfl) (by decide +kernel) ?_
  refine g_iadd (dk D_LAW_12 18 rfl) ?_
  refine g_sld (i := i + 4) (dk D_LAW_12 19 rfl) hv.2.2.2.2.1 ?_
  refine g_aload_n 3 (dk D_LAW_12 20 rfl) rfl rfl ?_
  refine g_less (kc' := kc + 2) (by omega) ?_
  refine g_callSX (As := [.ref 0, .int (sc xs i 1), .int (sc xs i 2), .int (bz (sc xs i 3)), .int (sc xs i 4), .ref 1457]) (st := []) (kc := kc) (fr := 9) (lo := 243) (mc := 2) (My := M_L_slot) (dk D_LAW_12 21 rfl) w_1176 w_1177 w_100 w_1178 okD_L_slot (by decide) (Nat.le_of_ble_eq_true rfl) rfl (c_L_slot (sc xs i 1) (sc xs i 2) (bz (sc xs i 3)) (sc xs i 4) h _ hw) (kI (fun v1 h1 hw => ?_))
  refine g_istore (dk D_LAW_12 22 rfl) (by decide) rfl ?_
  refine g_sub [1, 2, 3, 4, 5, 0] rfl ?_
  refine g_aload_n 2 (dk D_LAW_12 23 rfl) rfl rfl ?_
  refine g_aload_n 0 (dk D_LAW_12 24 rfl) rfl rfl ?_
  refine g_iload 4 (dk D_LAW_12 25 rfl) rfl ?_
  refine g_iconst (v := 1) (dk D_LAW_12 26 rfl) (by decide +kernel) ?_
  refine g_iadd (dk D_LAW_12 27 rfl) ?_
  refine g_sld (i := i + 1) (dk D_LAW_12 28 rfl) hv.2.1 ?_
  refine g_aload_n 0 (dk D_LAW_12 29 rfl) rfl rfl ?_
  refine g_iload 4 (dk D_LAW_12 30 rfl) rfl ?_
  refine g_iconst (v := 2) (dk D_LAW_12 31 rfl) (by decide +kernel) ?_
  refine g_iadd (dk D_LAW_12 32 rfl) ?_
  refine g_sld (i := i + 2) (dk D_LAW_12 33 rfl) hv.2.2.1 ?_
  refine g_aload_n 0 (dk D_LAW_12 34 rfl) rfl rfl ?_
  refine g_iload 4 (dk D_LAW_12 35 rfl) rfl ?_
  refine g_iconst (v := 3) (dk D_LAW_12 36 rfl) (by decide +kernel) ?_
  refine g_iadd (dk D_LAW_12 37 rfl) ?_
  refine g_sld (i := i + 3) (dk D_LAW_12 38 rfl) hv.2.2.2.1 ?_
  refine g_bool (v := sc xs i 3) (dk D_LAW_12 39 rfl) (dk D_LAW_12 40 rfl) (dk D_LAW_12 41 rfl) (dk D_LAW_12 42 rfl) ?_
  refine g_aload_n 0 (dk D_LAW_12 43 rfl) rfl rfl ?_
  refine g_iload 4 (dk D_LAW_12 44 rfl) rfl ?_
  refine g_iconst (v := 4) (dk D_LAW_12 45 rfl) (by decide +kernel) ?_
  refine g_iadd (dk D_LAW_12 46 rfl) ?_
  refine g_sld (i := i + 4) (dk D_LAW_12 47 rfl) hv.2.2.2.2.1 ?_
  refine g_callV (As := [.int (sc xs i 1), .int (sc xs i 2), .int (bz (sc xs i 3)), .int (sc xs i 4)]) (st := []) (kc := kc) (fr := 7) (lo := 243) (mc := 0) (My := M_X9_slot) (dk D_LAW_12 48 rfl) kd_92 rfl rfl w_1813 w_1814 w_1815 w_110 w_1816 okD_X9_slot (by decide) (Nat.le_of_ble_eq_true rfl) rfl (c_X9_slot (sc xs i 1) (sc xs i 2) (bz (sc xs i 3)) (sc xs i 4) h1 _ hw) kxN (kI (fun v2 h2 hw => ?_))
  refine g_istore (dk D_LAW_12 49 rfl) (by decide) rfl ?_
  refine g_sub [1, 2, 3, 4, 5, 6, 0] rfl ?_
  refine g_aload_n 2 (dk D_LAW_12 50 rfl) rfl rfl ?_
  refine g_callV (As := []) (st := []) (kc := kc) (fr := 0) (lo := 0) (mc := 0) (My := M_X9_thrown) (dk D_LAW_12 51 rfl) kd_92 rfl rfl w_1515 w_1516 w_1517 w_110 w_1518 okD_X9_thrown (by decide) (Nat.le_of_ble_eq_true rfl) rfl (c_X9_thrown  h2 _ hw) kxN (kIp (fun v3 hw => ?_))
  refine g_iload 5 (dk D_LAW_12 52 rfl) rfl ?_
  refine g_icmp_eq (tgt := 1298) (dk D_LAW_12 53 rfl) rfl (wif_p hw.1 ?_)
  refine g_iload 5 (dk D_LAW_12 56 rfl) rfl ?_
  refine g_if_ne (tgt := 1315) (dk D_LAW_12 57 rfl) rfl ⟨fun hz => ?_, fun hz => ?_⟩
  · refine g_goto (tgt := 2266) (dk D_LAW_13 7 rfl) rfl ?_
    refine g_sub [0, 1, 2, 3, 4] rfl ?_
    exact hK _ hw.2.2
  · refine g_aload_n 3 (dk D_LAW_12 58 rfl) rfl rfl ?_
    refine g_iconst (v := 0) (dk D_LAW_12 59 rfl) (by decide +kernel) ?_
    refine g_lald (i := 0) (dk D_LAW_13 0 rfl) kd_1457 (by unfold vp_in; decide) ?_
    refine g_iload 6 (dk D_LAW_13 1 rfl) rfl ?_
    refine g_i2l (dk D_LAW_13 2 rfl) ?_
    refine g_lcmp (dk D_LAW_13 3 rfl) ?_
    refine g_if_eq (tgt := 1315) (dk D_LAW_13 4 rfl) rfl (wif_p (lgc_eq (hw.2.1 (Classical.not_not.mp hz))) ?_)
    refine g_goto (tgt := 2266) (dk D_LAW_13 7 rfl) rfl ?_
    refine g_sub [0, 1, 2, 3, 4] rfl ?_
    exact hK _ hw.2.2
def lw_c15 (xs : Nat → Int32) (i : Int32) (h : Hp) (K : Hp → Prop) : Prop :=
  w_X8_slots  h (fun v1 => w_X9_slots  h (fun v2 h2 => v1 = v2 ∧ K h2))
theorem t_LAW_c15 {X : Cx} {N b : Nat} {xs : Nat → Int32} {kc : Nat} (i : Int32) (hv : inS i N) (h : Hp) (K : Hp → Prop) (hK : ∀ h' : Hp, K h' → G X M_LAW E_LAW (QS X N xs (Q9 b)) kc 2266 [(0, .ref SCR), (1, .ref 0), (2, .ref 92), (3, .ref 1457), (4, .int i)] [] h') (hw : lw_c15 xs i h K) : G X M_LAW E_LAW (QS X N xs (Q9 b)) (kc + 6) 1318 [(0, .ref SCR), (1, .ref 0), (2, .ref 92), (3, .ref 1457), (4, .int i)] [] h := by
  unfold lw_c15 at hw
  refine g_less (kc' := kc) (by omega) ?_
  refine g_aload_n 1 (dk D_LAW_13 8 rfl) rfl rfl ?_
  refine g_callV (As := []) (st := []) (kc := kc) (fr := 2) (lo := 58) (mc := 0) (My := M_X8_slots) (dk D_LAW_13 9 rfl) kd_0 rfl rfl w_502 w_503 w_504 w_101 w_505 okD_X8_slots (by decide) (Nat.le_of_ble_eq_true rfl) rfl (c_X8_slots  h _ hw) kxN (kIp (fun v1 hw => ?_))
  refine g_aload_n 2 (dk D_LAW_13 10 rfl) rfl rfl ?_
  refine g_callV (As := []) (st := [.int v1]) (kc := kc) (fr := 1) (lo := 29) (mc := 0) (My := M_X9_slots) (dk D_LAW_13 11 rfl) kd_92 rfl rfl w_1753 w_1754 w_1755 w_110 w_1756 okD_X9_slots (by decide) (Nat.le_of_ble_eq_true rfl) rfl (c_X9_slots  h _ hw) kxN (kI (fun v2 h2 hw => ?_))
  refine g_icmp_eq (tgt := 2266) (dk D_LAW_13 12 rfl) rfl (wif_p hw.1 ?_)
  exact hK _ hw.2
def lw_c16 (xs : Nat → Int32) (i : Int32) (h : Hp) (K : Hp → Prop) : Prop :=
  w_L_most (sc xs i 1) h (fun v1 h1 => w_X9_most (sc xs i 1) h1 (fun v2 h2 => w_X9_thrown  h2 (fun v3 => v3 = v1 ∧ (v1 = 0 → h2 1457 (Int32.toNatClampNeg 0) = v2) ∧ K h2)))
theorem t_LAW_c16 {X : Cx} {N b : Nat} {xs : Nat → Int32} {kc : Nat} (i : Int32) (hv : inS i N) (h : Hp) (K : Hp → Prop) (hK : ∀ h' : Hp, K h' → G X M_LAW E_LAW (QS X N xs (Q9 b)) kc 2266 [(0, .ref SCR), (1, .ref 0), (2, .ref 92), (3, .ref 1457), (4, .int i)] [] h') (hw : lw_c16 xs i h K) : G X M_LAW E_LAW (QS X N xs (Q9 b)) (kc + 6) 1331 [(0, .ref SCR), (1, .ref 0), (2, .ref 92), (3, .ref 1457), (4, .int i)] [] h := by
  unfold lw_c16 at hw
  refine g_aload_n 1 (dk D_LAW_13 15 rfl) rfl rfl ?_
  refine g_aload_n 0 (dk D_LAW_13 16 rfl) rfl rfl ?_
  refine g_iload 4 (dk D_LAW_13 17 rfl) rfl ?_
  refine g_iconst (v := 1) (dk D_LAW_13 18 rfl) (by decide +kernel) ?_
  refine g_iadd (dk D_LAW_13 19 rfl) ?_
  refine g_sld (i := i + 1) (dk D_LAW_13 20 rfl) hv.2.1 ?_
  refine g_aload_n 3 (dk D_LAW_13 21 rfl) rfl rfl ?_
  refine g_less (kc' := kc + 1) (by omega) ?_
  refine g_callSX (As := [.ref 0, .int (sc xs i 1), .ref 1457]) (st := []) (kc := kc) (fr := 8) (lo := 239) (mc := 1) (My := M_L_most) (dk D_LAW_13 22 rfl) w_1187 w_1188 w_100 w_1189 okD_L_most (by decide) (Nat.le_of_ble_eq_true rfl) rfl (c_L_most (sc xs i 1) h _ hw) (kI (fun v1 h1 hw => ?_))
  refine g_istore (dk D_LAW_13 23 rfl) (by decide) rfl ?_
  refine g_sub [1, 2, 3, 4, 5, 0] rfl ?_
  refine g_aload_n 2 (dk D_LAW_13 24 rfl) rfl rfl ?_
  refine g_aload_n 0 (dk D_LAW_13 25 rfl) rfl rfl ?_
  refine g_iload 4 (dk D_LAW_13 26 rfl) rfl ?_
  refine g_iconst (v := 1) (dk D_LAW_13 27 rfl) (by decide +kernel) ?_
  refine g_iadd (dk D_LAW_13 28 rfl) ?_
  refine g_sld (i := i + 1) (dk D_LAW_13 29 rfl) hv.2.1 ?_
  refine g_callV (As := [.int (sc xs i 1)]) (st := []) (kc := kc) (fr := 7) (lo := 243) (mc := 0) (My := M_X9_most) (dk D_LAW_13 30 rfl) kd_92 rfl rfl w_1817 w_1818 w_1819 w_110 w_1820 okD_X9_most (by decide) (Nat.le_of_ble_eq_true rfl) rfl (c_X9_most (sc xs i 1) h1 _ hw) kxN (kI (fun v2 h2 hw => ?_))
  refine g_istore (dk D_LAW_13 31 rfl) (by decide) rfl ?_
  refine g_sub [1, 2, 3, 4, 5, 6, 0] rfl ?_
  refine g_aload_n 2 (dk D_LAW_13 32 rfl) rfl rfl ?_
  refine g_callV (As := []) (st := []) (kc := kc) (fr := 0) (lo := 0) (mc := 0) (My := M_X9_thrown) (dk D_LAW_13 33 rfl) kd_92 rfl rfl w_1515 w_1516 w_1517 w_110 w_1518 okD_X9_thrown (by decide) (Nat.le_of_ble_eq_true rfl) rfl (c_X9_thrown  h2 _ hw) kxN (kIp (fun v3 hw => ?_))
  refine g_iload 5 (dk D_LAW_13 34 rfl) rfl ?_
  refine g_icmp_eq (tgt := 1367) (dk D_LAW_13 35 rfl) rfl (wif_p hw.1 ?_)
  refine g_iload 5 (dk D_LAW_13 38 rfl) rfl ?_
  refine g_if_ne (tgt := 1384) (dk D_LAW_13 39 rfl) rfl ⟨fun hz => ?_, fun hz => ?_⟩
  · refine g_goto (tgt := 2266) (dk D_LAW_13 49 rfl) rfl ?_
    refine g_sub [0, 1, 2, 3, 4] rfl ?_
    exact hK _ hw.2.2
  · refine g_aload_n 3 (dk D_LAW_13 40 rfl) rfl rfl ?_
    refine g_iconst (v := 0) (dk D_LAW_13 41 rfl) (by decide +kernel) ?_
    refine g_lald (i := 0) (dk D_LAW_13 42 rfl) kd_1457 (by unfold vp_in; decide) ?_
    refine g_iload 6 (dk D_LAW_13 43 rfl) rfl ?_
    refine g_i2l (dk D_LAW_13 44 rfl) ?_
    refine g_lcmp (dk D_LAW_13 45 rfl) ?_
    refine g_if_eq (tgt := 1384) (dk D_LAW_13 46 rfl) rfl (wif_p (lgc_eq (hw.2.1 (Classical.not_not.mp hz))) ?_)
    refine g_goto (tgt := 2266) (dk D_LAW_13 49 rfl) rfl ?_
    refine g_sub [0, 1, 2, 3, 4] rfl ?_
    exact hK _ hw.2.2
def lw_c17 (xs : Nat → Int32) (i : Int32) (h : Hp) (K : Hp → Prop) : Prop :=
  w_L_cross (sc xs i 1) (sc xs i 2) (sc xs i 3) (sc xs i 4) h (fun v1 h1 => w_X9_cross (sc xs i 1) (sc xs i 2) (sc xs i 3) (sc xs i 4) h1 (fun v2 h2 => w_X9_thrown  h2 (fun v3 => v3 = v1 ∧ (v1 = 0 → h2 1457 (Int32.toNatClampNeg 0) = v2) ∧ K h2)))
theorem t_LAW_c17 {X : Cx} {N b : Nat} {xs : Nat → Int32} {kc : Nat} (i : Int32) (hv : inS i N) (h : Hp) (K : Hp → Prop) (hK : ∀ h' : Hp, K h' → G X M_LAW E_LAW (QS X N xs (Q9 b)) kc 2266 [(0, .ref SCR), (1, .ref 0), (2, .ref 92), (3, .ref 1457), (4, .int i)] [] h') (hw : lw_c17 xs i h K) : G X M_LAW E_LAW (QS X N xs (Q9 b)) (kc + 6) 1387 [(0, .ref SCR), (1, .ref 0), (2, .ref 92), (3, .ref 1457), (4, .int i)] [] h := by
  unfold lw_c17 at hw
  refine g_aload_n 1 (dk D_LAW_13 50 rfl) rfl rfl ?_
  refine g_aload_n 0 (dk D_LAW_13 51 rfl) rfl rfl ?_
  refine g_iload 4 (dk D_LAW_13 52 rfl) rfl ?_
  refine g_iconst (v := 1) (dk D_LAW_13 53 rfl) (by decide +kernel) ?_
  refine g_iadd (dk D_LAW_13 54 rfl) ?_
  refine g_sld (i := i + 1) (dk D_LAW_13 55 rfl) hv.2.1 ?_
  refine g_aload_n 0 (dk D_LAW_13 56 rfl) rfl rfl ?_
  refine g_iload 4 (dk D_LAW_13 57 rfl) rfl ?_
  refine g_iconst (v := 2) (dk D_LAW_13 58 rfl) (by decide +kernel) ?_
  refine g_iadd (dk D_LAW_13 59 rfl) ?_
  refine g_sld (i := i + 2) (dk D_LAW_14 0 rfl) hv.2.2.1 ?_
  refine g_aload_n 0 (dk D_LAW_14 1 rfl) rfl rfl ?_
  refine g_iload 4 (dk D_LAW_14 2 rfl) rfl ?_
  refine g_iconst (v := 3) (dk D_LAW_14 3 rfl) (by decide +kernel) ?_
  refine g_iadd (dk D_LAW_14 4 rfl) ?_
  refine g_sld (i := i + 3) (dk D_LAW_14 5 rfl) hv.2.2.2.1 ?_
  refine g_aload_n 0 (dk D_LAW_14 6 rfl) rfl rfl ?_
  refine g_iload 4 (dk D_LAW_14 7 rfl) rfl ?_
  refine g_iconst (v := 4) (dk D_LAW_14 8 rfl) (by decide +kernel) ?_
  refine g_iadd (dk D_LAW_14 9 rfl) ?_
  refine g_sld (i := i + 4) (dk D_LAW_14 10 rfl) hv.2.2.2.2.1 ?_
  refine g_aload_n 3 (dk D_LAW_14 11 rfl) rfl rfl ?_
  refine g_less (kc' := kc + 4) (by omega) ?_
  refine g_callSX (As := [.ref 0, .int (sc xs i 1), .int (sc xs i 2), .int (sc xs i 3), .int (sc xs i 4), .ref 1457]) (st := []) (kc := kc) (fr := 8) (lo := 159) (mc := 4) (My := M_L_cross) (dk D_LAW_14 12 rfl) w_1194 w_1195 w_100 w_1196 okD_L_cross (by decide) (Nat.le_of_ble_eq_true rfl) rfl (c_L_cross (sc xs i 1) (sc xs i 2) (sc xs i 3) (sc xs i 4) h _ hw) (kI (fun v1 h1 hw => ?_))
  refine g_istore (dk D_LAW_14 13 rfl) (by decide) rfl ?_
  refine g_sub [1, 2, 3, 4, 5, 0] rfl ?_
  refine g_aload_n 2 (dk D_LAW_14 14 rfl) rfl rfl ?_
  refine g_aload_n 0 (dk D_LAW_14 15 rfl) rfl rfl ?_
  refine g_iload 4 (dk D_LAW_14 16 rfl) rfl ?_
  refine g_iconst (v := 1) (dk D_LAW_14 17 rfl) (by decide +kernel) ?_
  refine g_iadd (dk D_LAW_14 18 rfl) ?_
  refine g_sld (i := i + 1) (dk D_LAW_14 19 rfl) hv.2.1 ?_
  refine g_aload_n 0 (dk D_LAW_14 20 rfl) rfl rfl ?_
  refine g_iload 4 (dk D_LAW_14 21 rfl) rfl ?_
  refine g_iconst (v := 2) (dk D_LAW_14 22 rfl) (by decide +kernel) ?_
  refine g_iadd (dk D_LAW_14 23 rfl) ?_
  refine g_sld (i := i + 2) (dk D_LAW_14 24 rfl) hv.2.2.1 ?_
  refine g_aload_n 0 (dk D_LAW_14 25 rfl) rfl rfl ?_
  refine g_iload 4 (dk D_LAW_14 26 rfl) rfl ?_
  refine g_iconst (v := 3) (dk D_LAW_14 27 rfl) (by decide +kernel) ?_
  refine g_iadd (dk D_LAW_14 28 rfl) ?_
  refine g_sld (i := i + 3) (dk D_LAW_14 29 rfl) hv.2.2.2.1 ?_
  refine g_aload_n 0 (dk D_LAW_14 30 rfl) rfl rfl ?_
  refine g_iload 4 (dk D_LAW_14 31 rfl) rfl ?_
  refine g_iconst (v := 4) (dk D_LAW_14 32 rfl) (by decide +kernel) ?_
  refine g_iadd (dk D_LAW_14 33 rfl) ?_
  refine g_sld (i := i + 4) (dk D_LAW_14 34 rfl) hv.2.2.2.2.1 ?_
  refine g_callV (As := [.int (sc xs i 1), .int (sc xs i 2), .int (sc xs i 3), .int (sc xs i 4)]) (st := []) (kc := kc) (fr := 5) (lo := 172) (mc := 0) (My := M_X9_cross) (dk D_LAW_14 35 rfl) kd_92 rfl rfl w_1825 w_1826 w_1827 w_110 w_1828 okD_X9_cross (by decide) (Nat.le_of_ble_eq_true rfl) rfl (c_X9_cross (sc xs i 1) (sc xs i 2) (sc xs i 3) (sc xs i 4) h1 _ hw) kxN (kI (fun v2 h2 hw => ?_))
  refine g_istore (dk D_LAW_14 36 rfl) (by decide) rfl ?_
  refine g_sub [1, 2, 3, 4, 5, 6, 0] rfl ?_
  refine g_aload_n 2 (dk D_LAW_14 37 rfl) rfl rfl ?_
  refine g_callV (As := []) (st := []) (kc := kc) (fr := 0) (lo := 0) (mc := 0) (My := M_X9_thrown) (dk D_LAW_14 38 rfl) kd_92 rfl rfl w_1515 w_1516 w_1517 w_110 w_1518 okD_X9_thrown (by decide) (Nat.le_of_ble_eq_true rfl) rfl (c_X9_thrown  h2 _ hw) kxN (kIp (fun v3 hw => ?_))
  refine g_iload 5 (dk D_LAW_14 39 rfl) rfl ?_
  refine g_icmp_eq (tgt := 1459) (dk D_LAW_14 40 rfl) rfl (wif_p hw.1 ?_)
  refine g_iload 5 (dk D_LAW_14 43 rfl) rfl ?_
  refine g_if_ne (tgt := 1476) (dk D_LAW_14 44 rfl) rfl ⟨fun hz => ?_, fun hz => ?_⟩
  · refine g_goto (tgt := 2266) (dk D_LAW_14 54 rfl) rfl ?_
    refine g_sub [0, 1, 2, 3, 4] rfl ?_
    exact hK _ hw.2.2
  · refine g_aload_n 3 (dk D_LAW_14 45 rfl) rfl rfl ?_
    refine g_iconst (v := 0) (dk D_LAW_14 46 rfl) (by decide +kernel) ?_
    refine g_lald (i := 0) (dk D_LAW_14 47 rfl) kd_1457 (by unfold vp_in; decide) ?_
    refine g_iload 6 (dk D_LAW_14 48 rfl) rfl ?_
    refine g_i2l (dk D_LAW_14 49 rfl) ?_
    refine g_lcmp (dk D_LAW_14 50 rfl) ?_
    refine g_if_eq (tgt := 1476) (dk D_LAW_14 51 rfl) rfl (wif_p (lgc_eq (hw.2.1 (Classical.not_not.mp hz))) ?_)
    refine g_goto (tgt := 2266) (dk D_LAW_14 54 rfl) rfl ?_
    refine g_sub [0, 1, 2, 3, 4] rfl ?_
    exact hK _ hw.2.2
def lw_c18 (xs : Nat → Int32) (i : Int32) (h : Hp) (K : Hp → Prop) : Prop :=
  w_X8_undo  h (fun v1 h1 => w_X9_undo  h1 (fun v2 h2 => v1 = v2 ∧ K h2))
theorem t_LAW_c18 {X : Cx} {N b : Nat} {xs : Nat → Int32} {kc : Nat} (i : Int32) (hv : inS i N) (h : Hp) (K : Hp → Prop) (hK : ∀ h' : Hp, K h' → G X M_LAW E_LAW (QS X N xs (Q9 b)) kc 2266 [(0, .ref SCR), (1, .ref 0), (2, .ref 92), (3, .ref 1457), (4, .int i)] [] h') (hw : lw_c18 xs i h K) : G X M_LAW E_LAW (QS X N xs (Q9 b)) (kc + 6) 1479 [(0, .ref SCR), (1, .ref 0), (2, .ref 92), (3, .ref 1457), (4, .int i)] [] h := by
  unfold lw_c18 at hw
  refine g_less (kc' := kc) (by omega) ?_
  refine g_aload_n 1 (dk D_LAW_14 55 rfl) rfl rfl ?_
  refine g_callV (As := []) (st := []) (kc := kc) (fr := 1) (lo := 29) (mc := 0) (My := M_X8_undo) (dk D_LAW_14 56 rfl) kd_0 rfl rfl w_513 w_514 w_515 w_101 w_516 okD_X8_undo (by decide) (Nat.le_of_ble_eq_true rfl) rfl (c_X8_undo  h _ hw) kxN (kI (fun v1 h1 hw => ?_))
  refine g_aload_n 2 (dk D_LAW_14 57 rfl) rfl rfl ?_
  refine g_callV (As := []) (st := [.int v1]) (kc := kc) (fr := 0) (lo := 0) (mc := 0) (My := M_X9_undo) (dk D_LAW_14 58 rfl) kd_92 rfl rfl w_1829 w_1830 w_1831 w_110 w_1832 okD_X9_undo (by decide) (Nat.le_of_ble_eq_true rfl) rfl (c_X9_undo  h1 _ hw) kxN (kI (fun v2 h2 hw => ?_))
  refine g_icmp_eq (tgt := 2266) (dk D_LAW_14 59 rfl) rfl (wif_p hw.1 ?_)
  exact hK _ hw.2
def lw_c19 (xs : Nat → Int32) (i : Int32) (h : Hp) (K : Hp → Prop) : Prop :=
  w_L_taken (sc xs i 1) h (fun v1 h1 => w_X9_taken (sc xs i 1) h1 (fun v2 h2 => w_X9_thrown  h2 (fun v3 => v3 = v1 ∧ (v1 = 0 → h2 1457 (Int32.toNatClampNeg 0) = v2) ∧ K h2)))
theorem t_LAW_c19 {X : Cx} {N b : Nat} {xs : Nat → Int32} {kc : Nat} (i : Int32) (hv : inS i N) (h : Hp) (K : Hp → Prop) (hK : ∀ h' : Hp, K h' → G X M_LAW E_LAW (QS X N xs (Q9 b)) kc 2266 [(0, .ref SCR), (1, .ref 0), (2, .ref 92), (3, .ref 1457), (4, .int i)] [] h') (hw : lw_c19 xs i h K) : G X M_LAW E_LAW (QS X N xs (Q9 b)) (kc + 6) 1492 [(0, .ref SCR), (1, .ref 0), (2, .ref 92), (3, .ref 1457), (4, .int i)] [] h := by
  unfold lw_c19 at hw
  refine g_aload_n 1 (dk D_LAW_15 2 rfl) rfl rfl ?_
  refine g_aload_n 0 (dk D_LAW_15 3 rfl) rfl rfl ?_
  refine g_iload 4 (dk D_LAW_15 4 rfl) rfl ?_
  refine g_iconst (v := 1) (dk D_LAW_15 5 rfl) (by decide +kernel) ?_
  refine g_iadd (dk D_LAW_15 6 rfl) ?_
  refine g_sld (i := i + 1) (dk D_LAW_15 7 rfl) hv.2.1 ?_
  refine g_aload_n 3 (dk D_LAW_15 8 rfl) rfl rfl ?_
  refine g_less (kc' := kc + 1) (by omega) ?_
  refine g_callSX (As := [.ref 0, .int (sc xs i 1), .ref 1457]) (st := []) (kc := kc) (fr := 8) (lo := 131) (mc := 1) (My := M_L_taken) (dk D_LAW_15 9 rfl) w_1211 w_1212 w_100 w_1213 okD_L_taken (by decide) (Nat.le_of_ble_eq_true rfl) rfl (c_L_taken (sc xs i 1) h _ hw) (kI (fun v1 h1 hw => ?_))
  refine g_istore (dk D_LAW_15 10 rfl) (by decide) rfl ?_
  refine g_sub [1, 2, 3, 4, 5, 0] rfl ?_
  refine g_aload_n 2 (dk D_LAW_15 11 rfl) rfl rfl ?_
  refine g_aload_n 0 (dk D_LAW_15 12 rfl) rfl rfl ?_
  refine g_iload 4 (dk D_LAW_15 13 rfl) rfl ?_
  refine g_iconst (v := 1) (dk D_LAW_15 14 rfl) (by decide +kernel) ?_
  refine g_iadd (dk D_LAW_15 15 rfl) ?_
  refine g_sld (i := i + 1) (dk D_LAW_15 16 rfl) hv.2.1 ?_
  refine g_callV (As := [.int (sc xs i 1)]) (st := []) (kc := kc) (fr := 2) (lo := 58) (mc := 0) (My := M_X9_taken) (dk D_LAW_15 17 rfl) kd_92 rfl rfl w_1833 w_1834 w_1835 w_110 w_1836 okD_X9_taken (by decide) (Nat.le_of_ble_eq_true rfl) rfl (c_X9_taken (sc xs i 1) h1 _ hw) kxN (kI (fun v2 h2 hw => ?_))
  refine g_istore (dk D_LAW_15 18 rfl) (by decide) rfl ?_
  refine g_sub [1, 2, 3, 4, 5, 6, 0] rfl ?_
  refine g_aload_n 2 (dk D_LAW_15 19 rfl) rfl rfl ?_
  refine g_callV (As := []) (st := []) (kc := kc) (fr := 0) (lo := 0) (mc := 0) (My := M_X9_thrown) (dk D_LAW_15 20 rfl) kd_92 rfl rfl w_1515 w_1516 w_1517 w_110 w_1518 okD_X9_thrown (by decide) (Nat.le_of_ble_eq_true rfl) rfl (c_X9_thrown  h2 _ hw) kxN (kIp (fun v3 hw => ?_))
  refine g_iload 5 (dk D_LAW_15 21 rfl) rfl ?_
  refine g_icmp_eq (tgt := 1528) (dk D_LAW_15 22 rfl) rfl (wif_p hw.1 ?_)
  refine g_iload 5 (dk D_LAW_15 25 rfl) rfl ?_
  refine g_if_ne (tgt := 1545) (dk D_LAW_15 26 rfl) rfl ⟨fun hz => ?_, fun hz => ?_⟩
  · refine g_goto (tgt := 2266) (dk D_LAW_15 36 rfl) rfl ?_
    refine g_sub [0, 1, 2, 3, 4] rfl ?_
    exact hK _ hw.2.2
  · refine g_aload_n 3 (dk D_LAW_15 27 rfl) rfl rfl ?_
    refine g_iconst (v := 0) (dk D_LAW_15 28 rfl) (by decide +kernel) ?_
    refine g_lald (i := 0) (dk D_LAW_15 29 rfl) kd_1457 (by unfold vp_in; decide) ?_
    refine g_iload 6 (dk D_LAW_15 30 rfl) rfl ?_
    refine g_i2l (dk D_LAW_15 31 rfl) ?_
    refine g_lcmp (dk D_LAW_15 32 rfl) ?_
    refine g_if_eq (tgt := 1545) (dk D_LAW_15 33 rfl) rfl (wif_p (lgc_eq (hw.2.1 (Classical.not_not.mp hz))) ?_)
    refine g_goto (tgt := 2266) (dk D_LAW_15 36 rfl) rfl ?_
    refine g_sub [0, 1, 2, 3, 4] rfl ?_
    exact hK _ hw.2.2
def lw_c20 (xs : Nat → Int32) (i : Int32) (h : Hp) (K : Hp → Prop) : Prop :=
  w_L_write (sc xs i 1) (sc xs i 2) h (fun v1 h1 => w_X9_write (sc xs i 1) (sc xs i 2) h1 (fun v2 h2 => w_X9_thrown  h2 (fun v3 => v3 = v1 ∧ (v1 = 0 → h2 1457 (Int32.toNatClampNeg 0) = v2) ∧ K h2)))
theorem t_LAW_c20 {X : Cx} {N b : Nat} {xs : Nat → Int32} {kc : Nat} (i : Int32) (hv : inS i N) (h : Hp) (K : Hp → Prop) (hK : ∀ h' : Hp, K h' → G X M_LAW E_LAW (QS X N xs (Q9 b)) kc 2266 [(0, .ref SCR), (1, .ref 0), (2, .ref 92), (3, .ref 1457), (4, .int i)] [] h') (hw : lw_c20 xs i h K) : G X M_LAW E_LAW (QS X N xs (Q9 b)) (kc + 6) 1548 [(0, .ref SCR), (1, .ref 0), (2, .ref 92), (3, .ref 1457), (4, .int i)] [] h := by
  unfold lw_c20 at hw
  refine g_aload_n 1 (dk D_LAW_15 37 rfl) rfl rfl ?_
  refine g_aload_n 0 (dk D_LAW_15 38 rfl) rfl rfl ?_
  refine g_iload 4 (dk D_LAW_15 39 rfl) rfl ?_
  refine g_iconst (v := 1) (dk D_LAW_15 40 rfl) (by decide +kernel) ?_
  refine g_iadd (dk D_LAW_15 41 rfl) ?_
  refine g_sld (i := i + 1) (dk D_LAW_15 42 rfl) hv.2.1 ?_
  refine g_aload_n 0 (dk D_LAW_15 43 rfl) rfl rfl ?_
  refine g_iload 4 (dk D_LAW_15 44 rfl) rfl ?_
  refine g_iconst (v := 2) (dk D_LAW_15 45 rfl) (by decide +kernel) ?_
  refine g_iadd (dk D_LAW_15 46 rfl) ?_
  refine g_sld (i := i + 2) (dk D_LAW_15 47 rfl) hv.2.2.1 ?_
  refine g_aload_n 3 (dk D_LAW_15 48 rfl) rfl rfl ?_
  refine g_less (kc' := kc + 2) (by omega) ?_
  refine g_callSX (As := [.ref 0, .int (sc xs i 1), .int (sc xs i 2), .ref 1457]) (st := []) (kc := kc) (fr := 8) (lo := 135) (mc := 2) (My := M_L_write) (dk D_LAW_15 49 rfl) w_1222 w_1223 w_100 w_1224 okD_L_write (by decide) (Nat.le_of_ble_eq_true rfl) rfl (c_L_write (sc xs i 1) (sc xs i 2) h _ hw) (kI (fun v1 h1 hw => ?_))
  refine g_istore (dk D_LAW_15 50 rfl) (by decide) rfl ?_
  refine g_sub [1, 2, 3, 4, 5, 0] rfl ?_
  refine g_aload_n 2 (dk D_LAW_15 51 rfl) rfl rfl ?_
  refine g_aload_n 0 (dk D_LAW_15 52 rfl) rfl rfl ?_
  refine g_iload 4 (dk D_LAW_15 53 rfl) rfl ?_
  refine g_iconst (v := 1) (dk D_LAW_15 54 rfl) (by decide +kernel) ?_
  refine g_iadd (dk D_LAW_15 55 rfl) ?_
  refine g_sld (i := i + 1) (dk D_LAW_15 56 rfl) hv.2.1 ?_
  refine g_aload_n 0 (dk D_LAW_15 57 rfl) rfl rfl ?_
  refine g_iload 4 (dk D_LAW_15 58 rfl) rfl ?_
  refine g_iconst (v := 2) (dk D_LAW_15 59 rfl) (by decide +kernel) ?_
  refine g_iadd (dk D_LAW_16 0 rfl) ?_
  refine g_sld (i := i + 2) (dk D_LAW_16 1 rfl) hv.2.2.1 ?_
  refine g_callV (As := [.int (sc xs i 1), .int (sc xs i 2)]) (st := []) (kc := kc) (fr := 2) (lo := 58) (mc := 0) (My := M_X9_write) (dk D_LAW_16 2 rfl) kd_92 rfl rfl w_1841 w_1842 w_1843 w_110 w_1844 okD_X9_write (by decide) (Nat.le_of_ble_eq_true rfl) rfl (c_X9_write (sc xs i 1) (sc xs i 2) h1 _ hw) kxN (kI (fun v2 h2 hw => ?_))
  refine g_istore (dk D_LAW_16 3 rfl) (by decide) rfl ?_
  refine g_sub [1, 2, 3, 4, 5, 6, 0] rfl ?_
  refine g_aload_n 2 (dk D_LAW_16 4 rfl) rfl rfl ?_
  refine g_callV (As := []) (st := []) (kc := kc) (fr := 0) (lo := 0) (mc := 0) (My := M_X9_thrown) (dk D_LAW_16 5 rfl) kd_92 rfl rfl w_1515 w_1516 w_1517 w_110 w_1518 okD_X9_thrown (by decide) (Nat.le_of_ble_eq_true rfl) rfl (c_X9_thrown  h2 _ hw) kxN (kIp (fun v3 hw => ?_))
  refine g_iload 5 (dk D_LAW_16 6 rfl) rfl ?_
  refine g_icmp_eq (tgt := 1596) (dk D_LAW_16 7 rfl) rfl (wif_p hw.1 ?_)
  refine g_iload 5 (dk D_LAW_16 10 rfl) rfl ?_
  refine g_if_ne (tgt := 1613) (dk D_LAW_16 11 rfl) rfl ⟨fun hz => ?_, fun hz => ?_⟩
  · refine g_goto (tgt := 2266) (dk D_LAW_16 21 rfl) rfl ?_
    refine g_sub [0, 1, 2, 3, 4] rfl ?_
    exact hK _ hw.2.2
  · refine g_aload_n 3 (dk D_LAW_16 12 rfl) rfl rfl ?_
    refine g_iconst (v := 0) (dk D_LAW_16 13 rfl) (by decide +kernel) ?_
    refine g_lald (i := 0) (dk D_LAW_16 14 rfl) kd_1457 (by unfold vp_in; decide) ?_
    refine g_iload 6 (dk D_LAW_16 15 rfl) rfl ?_
    refine g_i2l (dk D_LAW_16 16 rfl) ?_
    refine g_lcmp (dk D_LAW_16 17 rfl) ?_
    refine g_if_eq (tgt := 1613) (dk D_LAW_16 18 rfl) rfl (wif_p (lgc_eq (hw.2.1 (Classical.not_not.mp hz))) ?_)
    refine g_goto (tgt := 2266) (dk D_LAW_16 21 rfl) rfl ?_
    refine g_sub [0, 1, 2, 3, 4] rfl ?_
    exact hK _ hw.2.2
def lw_c21 (xs : Nat → Int32) (i : Int32) (h : Hp) (K : Hp → Prop) : Prop :=
  w_L_stolen (sc xs i 1) h (fun v1 h1 => w_X9_stolen (sc xs i 1) h1 (fun v2 h2 => w_X9_thrown  h2 (fun v3 => v3 = v1 ∧ (v1 = 0 → h2 1457 (Int32.toNatClampNeg 0) = v2) ∧ K h2)))
theorem t_LAW_c21 {X : Cx} {N b : Nat} {xs : Nat → Int32} {kc : Nat} (i : Int32) (hv : inS i N) (h : Hp) (K : Hp → Prop) (hK : ∀ h' : Hp, K h' → G X M_LAW E_LAW (QS X N xs (Q9 b)) kc 2266 [(0, .ref SCR), (1, .ref 0), (2, .ref 92), (3, .ref 1457), (4, .int i)] [] h') (hw : lw_c21 xs i h K) : G X M_LAW E_LAW (QS X N xs (Q9 b)) (kc + 6) 1616 [(0, .ref SCR), (1, .ref 0), (2, .ref 92), (3, .ref 1457), (4, .int i)] [] h := by
  unfold lw_c21 at hw
  refine g_aload_n 1 (dk D_LAW_16 22 rfl) rfl rfl ?_
  refine g_aload_n 0 (dk D_LAW_16 23 rfl) rfl rfl ?_
  refine g_iload 4 (dk D_LAW_16 24 rfl) rfl ?_
  refine g_iconst (v := 1) (dk D_LAW_16 25 rfl) (by decide +kernel) ?_
  refine g_iadd (dk D_LAW_16 26 rfl) ?_
  refine g_sld (i := i + 1) (dk D_LAW_16 27 rfl) hv.2.1 ?_
  refine g_aload_n 3 (dk D_LAW_16 28 rfl) rfl rfl ?_
  refine g_less (kc' := kc + 1) (by omega) ?_
  refine g_callSX (As := [.ref 0, .int (sc xs i 1), .ref 1457]) (st := []) (kc := kc) (fr := 8) (lo := 132) (mc := 1) (My := M_L_stolen) (dk D_LAW_16 29 rfl) w_1230 w_1231 w_100 w_1232 okD_L_stolen (by decide) (Nat.le_of_ble_eq_true rfl) rfl (c_L_stolen (sc xs i 1) h _ hw) (kI (fun v1 h1 hw => ?_))
  refine g_istore (dk D_LAW_16 30 rfl) (by decide) rfl ?_
  refine g_sub [1, 2, 3, 4, 5, 0] rfl ?_
  refine g_aload_n 2 (dk D_LAW_16 31 rfl) rfl rfl ?_
  refine g_aload_n 0 (dk D_LAW_16 32 rfl) rfl rfl ?_
  refine g_iload 4 (dk D_LAW_16 33 rfl) rfl ?_
  refine g_iconst (v := 1) (dk D_LAW_16 34 rfl) (by decide +kernel) ?_
  refine g_iadd (dk D_LAW_16 35 rfl) ?_
  refine g_sld (i := i + 1) (dk D_LAW_16 36 rfl) hv.2.1 ?_
  refine g_callV (As := [.int (sc xs i 1)]) (st := []) (kc := kc) (fr := 2) (lo := 58) (mc := 0) (My := M_X9_stolen) (dk D_LAW_16 37 rfl) kd_92 rfl rfl w_1846 w_1847 w_1848 w_110 w_1849 okD_X9_stolen (by decide) (Nat.le_of_ble_eq_true rfl) rfl (c_X9_stolen (sc xs i 1) h1 _ hw) kxN (kI (fun v2 h2 hw => ?_))
  refine g_istore (dk D_LAW_16 38 rfl) (by decide) rfl ?_
  refine g_sub [1, 2, 3, 4, 5, 6, 0] rfl ?_
  refine g_aload_n 2 (dk D_LAW_16 39 rfl) rfl rfl ?_
  refine g_callV (As := []) (st := []) (kc := kc) (fr := 0) (lo := 0) (mc := 0) (My := M_X9_thrown) (dk D_LAW_16 40 rfl) kd_92 rfl rfl w_1515 w_1516 w_1517 w_110 w_1518 okD_X9_thrown (by decide) (Nat.le_of_ble_eq_true rfl) rfl (c_X9_thrown  h2 _ hw) kxN (kIp (fun v3 hw => ?_))
  refine g_iload 5 (dk D_LAW_16 41 rfl) rfl ?_
  refine g_icmp_eq (tgt := 1652) (dk D_LAW_16 42 rfl) rfl (wif_p hw.1 ?_)
  refine g_iload 5 (dk D_LAW_16 45 rfl) rfl ?_
  refine g_if_ne (tgt := 1669) (dk D_LAW_16 46 rfl) rfl ⟨fun hz => ?_, fun hz => ?_⟩
  · refine g_goto (tgt := 2266) (dk D_LAW_16 56 rfl) rfl ?_
    refine g_sub [0, 1, 2, 3, 4] rfl ?_
    exact hK _ hw.2.2
  · refine g_aload_n 3 (dk D_LAW_16 47 rfl) rfl rfl ?_
    refine g_iconst (v := 0) (dk D_LAW_16 48 rfl) (by decide +kernel) ?_
    refine g_lald (i := 0) (dk D_LAW_16 49 rfl) kd_1457 (by unfold vp_in; decide) ?_
    refine g_iload 6 (dk D_LAW_16 50 rfl) rfl ?_
    refine g_i2l (dk D_LAW_16 51 rfl) ?_
    refine g_lcmp (dk D_LAW_16 52 rfl) ?_
    refine g_if_eq (tgt := 1669) (dk D_LAW_16 53 rfl) rfl (wif_p (lgc_eq (hw.2.1 (Classical.not_not.mp hz))) ?_)
    refine g_goto (tgt := 2266) (dk D_LAW_16 56 rfl) rfl ?_
    refine g_sub [0, 1, 2, 3, 4] rfl ?_
    exact hK _ hw.2.2
def lw_c22 (xs : Nat → Int32) (i : Int32) (h : Hp) (K : Hp → Prop) : Prop :=
  w_X8_much  h (fun v1 h1 => w_X9_much  h1 (fun v2 h2 => v1 = v2 ∧ K h2))
theorem t_LAW_c22 {X : Cx} {N b : Nat} {xs : Nat → Int32} {kc : Nat} (i : Int32) (hv : inS i N) (h : Hp) (K : Hp → Prop) (hK : ∀ h' : Hp, K h' → G X M_LAW E_LAW (QS X N xs (Q9 b)) kc 2266 [(0, .ref SCR), (1, .ref 0), (2, .ref 92), (3, .ref 1457), (4, .int i)] [] h') (hw : lw_c22 xs i h K) : G X M_LAW E_LAW (QS X N xs (Q9 b)) (kc + 6) 1672 [(0, .ref SCR), (1, .ref 0), (2, .ref 92), (3, .ref 1457), (4, .int i)] [] h := by
  unfold lw_c22 at hw
  refine g_less (kc' := kc) (by omega) ?_
  refine g_aload_n 1 (dk D_LAW_16 57 rfl) rfl rfl ?_
  refine g_callV (As := []) (st := []) (kc := kc) (fr := 7) (lo := 218) (mc := 0) (My := M_X8_much) (dk D_LAW_16 58 rfl) kd_0 rfl rfl w_520 w_521 w_522 w_101 w_523 okD_X8_much (by decide) (Nat.le_of_ble_eq_true rfl) rfl (c_X8_much  h _ hw) kxN (kI (fun v1 h1 hw => ?_))
  refine g_aload_n 2 (dk D_LAW_16 59 rfl) rfl rfl ?_
  refine g_callV (As := []) (st := [.int v1]) (kc := kc) (fr := 7) (lo := 243) (mc := 0) (My := M_X9_much) (dk D_LAW_17 0 rfl) kd_92 rfl rfl w_1850 w_1851 w_1852 w_110 w_1853 okD_X9_much (by decide) (Nat.le_of_ble_eq_true rfl) rfl (c_X9_much  h1 _ hw) kxN (kI (fun v2 h2 hw => ?_))
  refine g_icmp_eq (tgt := 2266) (dk D_LAW_17 1 rfl) rfl (wif_p hw.1 ?_)
  exact hK _ hw.2
def lw_c23 (xs : Nat → Int32) (i : Int32) (h : Hp) (K : Hp → Prop) : Prop :=
  w_L_lines (sc xs i 1) (sc xs i 2) (sc xs i 3) h (fun v1 h1 => w_X9_lines (sc xs i 1) (sc xs i 2) (sc xs i 3) h1 (fun v2 h2 => w_X9_thrown  h2 (fun v3 => v3 = v1 ∧ (v1 = 0 → h2 1457 (Int32.toNatClampNeg 0) = v2) ∧ K h2)))
theorem t_LAW_c23 {X : Cx} {N b : Nat} {xs : Nat → Int32} {kc : Nat} (i : Int32) (hv : inS i N) (h : Hp) (K : Hp → Prop) (hK : ∀ h' : Hp, K h' → G X M_LAW E_LAW (QS X N xs (Q9 b)) kc 2266 [(0, .ref SCR), (1, .ref 0), (2, .ref 92), (3, .ref 1457), (4, .int i)] [] h') (hw : lw_c23 xs i h K) : G X M_LAW E_LAW (QS X N xs (Q9 b)) (kc + 6) 1685 [(0, .ref SCR), (1, .ref 0), (2, .ref 92), (3, .ref 1457), (4, .int i)] [] h := by
  unfold lw_c23 at hw
  refine g_aload_n 1 (dk D_LAW_17 4 rfl) rfl rfl ?_
  refine g_aload_n 0 (dk D_LAW_17 5 rfl) rfl rfl ?_
  refine g_iload 4 (dk D_LAW_17 6 rfl) rfl ?_
  refine g_iconst (v := 1) (dk D_LAW_17 7 rfl) (by decide +kernel) ?_
  refine g_iadd (dk D_LAW_17 8 rfl) ?_
  refine g_sld (i := i + 1) (dk D_LAW_17 9 rfl) hv.2.1 ?_
  refine g_aload_n 0 (dk D_LAW_17 10 rfl) rfl rfl ?_
  refine g_iload 4 (dk D_LAW_17 11 rfl) rfl ?_
  refine g_iconst (v := 2) (dk D_LAW_17 12 rfl) (by decide +kernel) ?_
  refine g_iadd (dk D_LAW_17 13 rfl) ?_
  refine g_sld (i := i + 2) (dk D_LAW_17 14 rfl) hv.2.2.1 ?_
  refine g_aload_n 0 (dk D_LAW_17 15 rfl) rfl rfl ?_
  refine g_iload 4 (dk D_LAW_17 16 rfl) rfl ?_
  refine g_iconst (v := 3) (dk D_LAW_17 17 rfl) (by decide +kernel) ?_
  refine g_iadd (dk D_LAW_17 18 rfl) ?_
  refine g_sld (i := i + 3) (dk D_LAW_17 19 rfl) hv.2.2.2.1 ?_
  refine g_aload_n 3 (dk D_LAW_17 20 rfl) rfl rfl ?_
  refine g_less (kc' := kc + 3) (by omega) ?_
  refine g_callSX (As := [.ref 0, .int (sc xs i 1), .int (sc xs i 2), .int (sc xs i 3), .ref 1457]) (st := []) (kc := kc) (fr := 8) (lo := 247) (mc := 3) (My := M_L_lines) (dk D_LAW_17 21 rfl) w_1237 w_1238 w_100 w_1239 okD_L_lines (by decide) (Nat.le_of_ble_eq_true rfl) rfl (c_L_lines (sc xs i 1) (sc xs i 2) (sc xs i 3) h _ hw) (kI (fun v1 h1 hw => ?_))
  refine g_istore (dk D_LAW_17 22 rfl) (by decide) rfl ?_
  refine g_sub [1, 2, 3, 4, 5, 0] rfl ?_
  refine g_aload_n 2 (dk D_LAW_17 23 rfl) rfl rfl ?_
  refine g_aload_n 0 (dk D_LAW_17 24 rfl) rfl rfl ?_
  refine g_iload 4 (dk D_LAW_17 25 rfl) rfl ?_
  refine g_iconst (v := 1) (dk D_LAW_17 26 rfl) (by decide +kernel) ?_
  refine g_iadd (dk D_LAW_17 27 rfl) ?_
  refine g_sld (i := i + 1) (dk D_LAW_17 28 rfl) hv.2.1 ?_
  refine g_aload_n 0 (dk D_LAW_17 29 rfl) rfl rfl ?_
  refine g_iload 4 (dk D_LAW_17 30 rfl) rfl ?_
  refine g_iconst (v := 2) (dk D_LAW_17 31 rfl) (by decide +kernel) ?_
  refine g_iadd (dk D_LAW_17 32 rfl) ?_
  refine g_sld (i := i + 2) (dk D_LAW_17 33 rfl) hv.2.2.1 ?_
  refine g_aload_n 0 (dk D_LAW_17 34 rfl) rfl rfl ?_
  refine g_iload 4 (dk D_LAW_17 35 rfl) rfl ?_
  refine g_iconst (v := 3) (dk D_LAW_17 36 rfl) (by decide +kernel) ?_
  refine g_iadd (dk D_LAW_17 37 rfl) ?_
  refine g_sld (i := i + 3) (dk D_LAW_17 38 rfl) hv.2.2.2.1 ?_
  refine g_callV (As := [.int (sc xs i 1), .int (sc xs i 2), .int (sc xs i 3)]) (st := []) (kc := kc) (fr := 7) (lo := 243) (mc := 0) (My := M_X9_lines) (dk D_LAW_17 39 rfl) kd_92 rfl rfl w_1854 w_1855 w_1856 w_110 w_1857 okD_X9_lines (by decide) (Nat.le_of_ble_eq_true rfl) rfl (c_X9_lines (sc xs i 1) (sc xs i 2) (sc xs i 3) h1 _ hw) kxN (kI (fun v2 h2 hw => ?_))
  refine g_istore (dk D_LAW_17 40 rfl) (by decide) rfl ?_
  refine g_sub [1, 2, 3, 4, 5, 6, 0] rfl ?_
  refine g_aload_n 2 (dk D_LAW_17 41 rfl) rfl rfl ?_
  refine g_callV (As := []) (st := []) (kc := kc) (fr := 0) (lo := 0) (mc := 0) (My := M_X9_thrown) (dk D_LAW_17 42 rfl) kd_92 rfl rfl w_1515 w_1516 w_1517 w_110 w_1518 okD_X9_thrown (by decide) (Nat.le_of_ble_eq_true rfl) rfl (c_X9_thrown  h2 _ hw) kxN (kIp (fun v3 hw => ?_))
  refine g_iload 5 (dk D_LAW_17 43 rfl) rfl ?_
  refine g_icmp_eq (tgt := 1745) (dk D_LAW_17 44 rfl) rfl (wif_p hw.1 ?_)
  refine g_iload 5 (dk D_LAW_17 47 rfl) rfl ?_
  refine g_if_ne (tgt := 1762) (dk D_LAW_17 48 rfl) rfl ⟨fun hz => ?_, fun hz => ?_⟩
  · refine g_goto (tgt := 2266) (dk D_LAW_17 58 rfl) rfl ?_
    refine g_sub [0, 1, 2, 3, 4] rfl ?_
    exact hK _ hw.2.2
  · refine g_aload_n 3 (dk D_LAW_17 49 rfl) rfl rfl ?_
    refine g_iconst (v := 0) (dk D_LAW_17 50 rfl) (by decide +kernel) ?_
    refine g_lald (i := 0) (dk D_LAW_17 51 rfl) kd_1457 (by unfold vp_in; decide) ?_
    refine g_iload 6 (dk D_LAW_17 52 rfl) rfl ?_
    refine g_i2l (dk D_LAW_17 53 rfl) ?_
    refine g_lcmp (dk D_LAW_17 54 rfl) ?_
    refine g_if_eq (tgt := 1762) (dk D_LAW_17 55 rfl) rfl (wif_p (lgc_eq (hw.2.1 (Classical.not_not.mp hz))) ?_)
    refine g_goto (tgt := 2266) (dk D_LAW_17 58 rfl) rfl ?_
    refine g_sub [0, 1, 2, 3, 4] rfl ?_
    exact hK _ hw.2.2
def lw_c24 (xs : Nat → Int32) (i : Int32) (h : Hp) (K : Hp → Prop) : Prop :=
  w_L_war (sc xs i 1) (sc xs i 2) (sc xs i 3) h (fun v1 h1 => w_X9_war (sc xs i 1) (sc xs i 2) (sc xs i 3) h1 (fun v2 h2 => w_X9_thrown  h2 (fun v3 => v3 = v1 ∧ (v1 = 0 → h2 1457 (Int32.toNatClampNeg 0) = v2) ∧ K h2)))
theorem t_LAW_c24 {X : Cx} {N b : Nat} {xs : Nat → Int32} {kc : Nat} (i : Int32) (hv : inS i N) (h : Hp) (K : Hp → Prop) (hK : ∀ h' : Hp, K h' → G X M_LAW E_LAW (QS X N xs (Q9 b)) kc 2266 [(0, .ref SCR), (1, .ref 0), (2, .ref 92), (3, .ref 1457), (4, .int i)] [] h') (hw : lw_c24 xs i h K) : G X M_LAW E_LAW (QS X N xs (Q9 b)) (kc + 6) 1765 [(0, .ref SCR), (1, .ref 0), (2, .ref 92), (3, .ref 1457), (4, .int i)] [] h := by
  unfold lw_c24 at hw
  refine g_aload_n 1 (dk D_LAW_17 59 rfl) rfl rfl ?_
  refine g_aload_n 0 (dk D_LAW_18 0 rfl) rfl rfl ?_
  refine g_iload 4 (dk D_LAW_18 1 rfl) rfl ?_
  refine g_iconst (v := 1) (dk D_LAW_18 2 rfl) (by decide +kernel) ?_
  refine g_iadd (dk D_LAW_18 3 rfl) ?_
  refine g_sld (i := i + 1) (dk D_LAW_18 4 rfl) hv.2.1 ?_
  refine g_aload_n 0 (dk D_LAW_18 5 rfl) rfl rfl ?_
  refine g_iload 4 (dk D_LAW_18 6 rfl) rfl ?_
  refine g_iconst (v := 2) (dk D_LAW_18 7 rfl) (by decide +kernel) ?_
  refine g_iadd (dk D_LAW_18 8 rfl) ?_
  refine g_sld (i := i + 2) (dk D_LAW_18 9 rfl) hv.2.2.1 ?_
  refine g_aload_n 0 (dk D_LAW_18 10 rfl) rfl rfl ?_
  refine g_iload 4 (dk D_LAW_18 11 rfl) rfl ?_
  refine g_iconst (v := 3) (dk D_LAW_18 12 rfl) (by decide +kernel) ?_
  refine g_iadd (dk D_LAW_18 13 rfl) ?_
  refine g_sld (i := i + 3) (dk D_LAW_18 14 rfl) hv.2.2.2.1 ?_
  refine g_aload_n 3 (dk D_LAW_18 15 rfl) rfl rfl ?_
  refine g_less (kc' := kc + 4) (by omega) ?_
  refine g_callSX (As := [.ref 0, .int (sc xs i 1), .int (sc xs i 2), .int (sc xs i 3), .ref 1457]) (st := []) (kc := kc) (fr := 9) (lo := 276) (mc := 4) (My := M_L_war) (dk D_LAW_18 16 rfl) w_1254 w_1255 w_100 w_1256 okD_L_war (by decide) (Nat.le_of_ble_eq_true rfl) rfl (c_L_war (sc xs i 1) (sc xs i 2) (sc xs i 3) h _ hw) (kI (fun v1 h1 hw => ?_))
  refine g_istore (dk D_LAW_18 17 rfl) (by decide) rfl ?_
  refine g_sub [1, 2, 3, 4, 5, 0] rfl ?_
  refine g_aload_n 2 (dk D_LAW_18 18 rfl) rfl rfl ?_
  refine g_aload_n 0 (dk D_LAW_18 19 rfl) rfl rfl ?_
  refine g_iload 4 (dk D_LAW_18 20 rfl) rfl ?_
  refine g_iconst (v := 1) (dk D_LAW_18 21 rfl) (by decide +kernel) ?_
  refine g_iadd (dk D_LAW_18 22 rfl) ?_
  refine g_sld (i := i + 1) (dk D_LAW_18 23 rfl) hv.2.1 ?_
  refine g_aload_n 0 (dk D_LAW_18 24 rfl) rfl rfl ?_
  refine g_iload 4 (dk D_LAW_18 25 rfl) rfl ?_
  refine g_iconst (v := 2) (dk D_LAW_18 26 rfl) (by decide +kernel) ?_
  refine g_iadd (dk D_LAW_18 27 rfl) ?_
  refine g_sld (i := i + 2) (dk D_LAW_18 28 rfl) hv.2.2.1 ?_
  refine g_aload_n 0 (dk D_LAW_18 29 rfl) rfl rfl ?_
  refine g_iload 4 (dk D_LAW_18 30 rfl) rfl ?_
  refine g_iconst (v := 3) (dk D_LAW_18 31 rfl) (by decide +kernel) ?_
  refine g_iadd (dk D_LAW_18 32 rfl) ?_
  refine g_sld (i := i + 3) (dk D_LAW_18 33 rfl) hv.2.2.2.1 ?_
  refine g_callV (As := [.int (sc xs i 1), .int (sc xs i 2), .int (sc xs i 3)]) (st := []) (kc := kc) (fr := 8) (lo := 277) (mc := 0) (My := M_X9_war) (dk D_LAW_18 34 rfl) kd_92 rfl rfl w_1858 w_1859 w_1860 w_110 w_1861 okD_X9_war (by decide) (Nat.le_of_ble_eq_true rfl) rfl (c_X9_war (sc xs i 1) (sc xs i 2) (sc xs i 3) h1 _ hw) kxN (kI (fun v2 h2 hw => ?_))
  refine g_istore (dk D_LAW_18 35 rfl) (by decide) rfl ?_
  refine g_sub [1, 2, 3, 4, 5, 6, 0] rfl ?_
  refine g_aload_n 2 (dk D_LAW_18 36 rfl) rfl rfl ?_
  refine g_callV (As := []) (st := []) (kc := kc) (fr := 0) (lo := 0) (mc := 0) (My := M_X9_thrown) (dk D_LAW_18 37 rfl) kd_92 rfl rfl w_1515 w_1516 w_1517 w_110 w_1518 okD_X9_thrown (by decide) (Nat.le_of_ble_eq_true rfl) rfl (c_X9_thrown  h2 _ hw) kxN (kIp (fun v3 hw => ?_))
  refine g_iload 5 (dk D_LAW_18 38 rfl) rfl ?_
  refine g_icmp_eq (tgt := 1825) (dk D_LAW_18 39 rfl) rfl (wif_p hw.1 ?_)
  refine g_iload 5 (dk D_LAW_18 42 rfl) rfl ?_
  refine g_if_ne (tgt := 1842) (dk D_LAW_18 43 rfl) rfl ⟨fun hz => ?_, fun hz => ?_⟩
  · refine g_goto (tgt := 2266) (dk D_LAW_18 53 rfl) rfl ?_
    refine g_sub [0, 1, 2, 3, 4] rfl ?_
    exact hK _ hw.2.2
  · refine g_aload_n 3 (dk D_LAW_18 44 rfl) rfl rfl ?_
    refine g_iconst (v := 0) (dk D_LAW_18 45 rfl) (by decide +kernel) ?_
    refine g_lald (i := 0) (dk D_LAW_18 46 rfl) kd_1457 (by unfold vp_in; decide) ?_
    refine g_iload 6 (dk D_LAW_18 47 rfl) rfl ?_
    refine g_i2l (dk D_LAW_18 48 rfl) ?_
    refine g_lcmp (dk D_LAW_18 49 rfl) ?_
    refine g_if_eq (tgt := 1842) (dk D_LAW_18 50 rfl) rfl (wif_p (lgc_eq (hw.2.1 (Classical.not_not.mp hz))) ?_)
    refine g_goto (tgt := 2266) (dk D_LAW_18 53 rfl) rfl ?_
    refine g_sub [0, 1, 2, 3, 4] rfl ?_
    exact hK _ hw.2.2
def lw_c25 (xs : Nat → Int32) (i : Int32) (h : Hp) (K : Hp → Prop) : Prop :=
  w_L_ledger (sc xs i 1) (sc xs i 2) h (fun v1 h1 => w_X9_ledger (sc xs i 1) (sc xs i 2) h1 (fun v2 h2 => w_X9_thrown  h2 (fun v3 => v3 = v1 ∧ (v1 = 0 → h2 1457 (Int32.toNatClampNeg 0) = v2) ∧ K h2)))
theorem t_LAW_c25 {X : Cx} {N b : Nat} {xs : Nat → Int32} {kc : Nat} (i : Int32) (hv : inS i N) (h : Hp) (K : Hp → Prop) (hK : ∀ h' : Hp, K h' → G X M_LAW E_LAW (QS X N xs (Q9 b)) kc 2266 [(0, .ref SCR), (1, .ref 0), (2, .ref 92), (3, .ref 1457), (4, .int i)] [] h') (hw : lw_c25 xs i h K) : G X M_LAW E_LAW (QS X N xs (Q9 b)) (kc + 6) 1845 [(0, .ref SCR), (1, .ref 0), (2, .ref 92), (3, .ref 1457), (4, .int i)] [] h := by
  unfold lw_c25 at hw
  refine g_aload_n 1 (dk D_LAW_18 54 rfl) rfl rfl ?_
  refine g_aload_n 0 (dk D_LAW_18 55 rfl) rfl rfl ?_
  refine g_iload 4 (dk D_LAW_18 56 rfl) rfl ?_
  refine g_iconst (v := 1) (dk D_LAW_18 57 rfl) (by decide +kernel) ?_
  refine g_iadd (dk D_LAW_18 58 rfl) ?_
  refine g_sld (i := i + 1) (dk D_LAW_18 59 rfl) hv.2.1 ?_
  refine g_aload_n 0 (dk D_LAW_19 0 rfl) rfl rfl ?_
  refine g_iload 4 (dk D_LAW_19 1 rfl) rfl ?_
  refine g_iconst (v := 2) (dk D_LAW_19 2 rfl) (by decide +kernel) ?_
  refine g_iadd (dk D_LAW_19 3 rfl) ?_
  refine g_sld (i := i + 2) (dk D_LAW_19 4 rfl) hv.2.2.1 ?_
  refine g_aload_n 3 (dk D_LAW_19 5 rfl) rfl rfl ?_
  refine g_less (kc' := kc + 2) (by omega) ?_
  refine g_callSX (As := [.ref 0, .int (sc xs i 1), .int (sc xs i 2), .ref 1457]) (st := []) (kc := kc) (fr := 8) (lo := 134) (mc := 2) (My := M_L_ledger) (dk D_LAW_19 6 rfl) w_1289 w_1290 w_100 w_1291 okD_L_ledger (by decide) (Nat.le_of_ble_eq_true rfl) rfl (c_L_ledger (sc xs i 1) (sc xs i 2) h _ hw) (kI (fun v1 h1 hw => ?_))
  refine g_istore (dk D_LAW_19 7 rfl) (by decide) rfl ?_
  refine g_sub [1, 2, 3, 4, 5, 0] rfl ?_
  refine g_aload_n 2 (dk D_LAW_19 8 rfl) rfl rfl ?_
  refine g_aload_n 0 (dk D_LAW_19 9 rfl) rfl rfl ?_
  refine g_iload 4 (dk D_LAW_19 10 rfl) rfl ?_
  refine g_iconst (v := 1) (dk D_LAW_19 11 rfl) (by decide +kernel) ?_
  refine g_iadd (dk D_LAW_19 12 rfl) ?_
  refine g_sld (i := i + 1) (dk D_LAW_19 13 rfl) hv.2.1 ?_
  refine g_aload_n 0 (dk D_LAW_19 14 rfl) rfl rfl ?_
  refine g_iload 4 (dk D_LAW_19 15 rfl) rfl ?_
  refine g_iconst (v := 2) (dk D_LAW_19 16 rfl) (by decide +kernel) ?_
  refine g_iadd (dk D_LAW_19 17 rfl) ?_
  refine g_sld (i := i + 2) (dk D_LAW_19 18 rfl) hv.2.2.1 ?_
  refine g_callV (As := [.int (sc xs i 1), .int (sc xs i 2)]) (st := []) (kc := kc) (fr := 2) (lo := 58) (mc := 0) (My := M_X9_ledger) (dk D_LAW_19 19 rfl) kd_92 rfl rfl w_1866 w_1867 w_1868 w_110 w_1869 okD_X9_ledger (by decide) (Nat.le_of_ble_eq_true rfl) rfl (c_X9_ledger (sc xs i 1) (sc xs i 2) h1 _ hw) kxN (kI (fun v2 h2 hw => ?_))
  refine g_istore (dk D_LAW_19 20 rfl) (by decide) rfl ?_
  refine g_sub [1, 2, 3, 4, 5, 6, 0] rfl ?_
  refine g_aload_n 2 (dk D_LAW_19 21 rfl) rfl rfl ?_
  refine g_callV (As := []) (st := []) (kc := kc) (fr := 0) (lo := 0) (mc := 0) (My := M_X9_thrown) (dk D_LAW_19 22 rfl) kd_92 rfl rfl w_1515 w_1516 w_1517 w_110 w_1518 okD_X9_thrown (by decide) (Nat.le_of_ble_eq_true rfl) rfl (c_X9_thrown  h2 _ hw) kxN (kIp (fun v3 hw => ?_))
  refine g_iload 5 (dk D_LAW_19 23 rfl) rfl ?_
  refine g_icmp_eq (tgt := 1893) (dk D_LAW_19 24 rfl) rfl (wif_p hw.1 ?_)
  refine g_iload 5 (dk D_LAW_19 27 rfl) rfl ?_
  refine g_if_ne (tgt := 1910) (dk D_LAW_19 28 rfl) rfl ⟨fun hz => ?_, fun hz => ?_⟩
  · refine g_goto (tgt := 2266) (dk D_LAW_19 38 rfl) rfl ?_
    refine g_sub [0, 1, 2, 3, 4] rfl ?_
    exact hK _ hw.2.2
  · refine g_aload_n 3 (dk D_LAW_19 29 rfl) rfl rfl ?_
    refine g_iconst (v := 0) (dk D_LAW_19 30 rfl) (by decide +kernel) ?_
    refine g_lald (i := 0) (dk D_LAW_19 31 rfl) kd_1457 (by unfold vp_in; decide) ?_
    refine g_iload 6 (dk D_LAW_19 32 rfl) rfl ?_
    refine g_i2l (dk D_LAW_19 33 rfl) ?_
    refine g_lcmp (dk D_LAW_19 34 rfl) ?_
    refine g_if_eq (tgt := 1910) (dk D_LAW_19 35 rfl) rfl (wif_p (lgc_eq (hw.2.1 (Classical.not_not.mp hz))) ?_)
    refine g_goto (tgt := 2266) (dk D_LAW_19 38 rfl) rfl ?_
    refine g_sub [0, 1, 2, 3, 4] rfl ?_
    exact hK _ hw.2.2
def lw_c26 (xs : Nat → Int32) (i : Int32) (h : Hp) (K : Hp → Prop) : Prop :=
  w_X8_forget  h (fun v1 h1 => w_X9_forget  h1 (fun v2 h2 => v1 = v2 ∧ K h2))
theorem t_LAW_c26 {X : Cx} {N b : Nat} {xs : Nat → Int32} {kc : Nat} (i : Int32) (hv : inS i N) (h : Hp) (K : Hp → Prop) (hK : ∀ h' : Hp, K h' → G X M_LAW E_LAW (QS X N xs (Q9 b)) kc 2266 [(0, .ref SCR), (1, .ref 0), (2, .ref 92), (3, .ref 1457), (4, .int i)] [] h') (hw : lw_c26 xs i h K) : G X M_LAW E_LAW (QS X N xs (Q9 b)) (kc + 6) 1913 [(0, .ref SCR), (1, .ref 0), (2, .ref 92), (3, .ref 1457), (4, .int i)] [] h := by
  unfold lw_c26 at hw
  refine g_less (kc' := kc) (by omega) ?_
  refine g_aload_n 1 (dk D_LAW_19 39 rfl) rfl rfl ?_
  refine g_callV (As := []) (st := []) (kc := kc) (fr := 0) (lo := 0) (mc := 0) (My := M_X8_forget) (dk D_LAW_19 40 rfl) kd_0 rfl rfl w_650 w_651 w_652 w_101 w_653 okD_X8_forget (by decide) (Nat.le_of_ble_eq_true rfl) rfl (c_X8_forget  h _ hw) kxN (kI (fun v1 h1 hw => ?_))
  refine g_aload_n 2 (dk D_LAW_19 41 rfl) rfl rfl ?_
  refine g_callV (As := []) (st := [.int v1]) (kc := kc) (fr := 0) (lo := 0) (mc := 0) (My := M_X9_forget) (dk D_LAW_19 42 rfl) kd_92 rfl rfl w_1870 w_1871 w_1872 w_110 w_1873 okD_X9_forget (by decide) (Nat.le_of_ble_eq_true rfl) rfl (c_X9_forget  h1 _ hw) kxN (kI (fun v2 h2 hw => ?_))
  refine g_icmp_eq (tgt := 2266) (dk D_LAW_19 43 rfl) rfl (wif_p hw.1 ?_)
  exact hK _ hw.2
def lw_c27 (xs : Nat → Int32) (i : Int32) (h : Hp) (K : Hp → Prop) : Prop :=
  w_L_fits (sc xs i 1) (sc xs i 2) (sc xs i 3) h (fun v1 h1 => w_X9_fits (sc xs i 1) (sc xs i 2) (sc xs i 3) h1 (fun v2 h2 => w_X9_thrown  h2 (fun v3 => v3 = v1 ∧ (v1 = 0 → h2 1457 (Int32.toNatClampNeg 0) = v2) ∧ K h2)))
theorem t_LAW_c27 {X : Cx} {N b : Nat} {xs : Nat → Int32} {kc : Nat} (i : Int32) (hv : inS i N) (h : Hp) (K : Hp → Prop) (hK : ∀ h' : Hp, K h' → G X M_LAW E_LAW (QS X N xs (Q9 b)) kc 2266 [(0, .ref SCR), (1, .ref 0), (2, .ref 92), (3, .ref 1457), (4, .int i)] [] h') (hw : lw_c27 xs i h K) : G X M_LAW E_LAW (QS X N xs (Q9 b)) (kc + 6) 1926 [(0, .ref SCR), (1, .ref 0), (2, .ref 92), (3, .ref 1457), (4, .int i)] [] h := by
  unfold lw_c27 at hw
  refine g_aload_n 1 (dk D_LAW_19 46 rfl) rfl rfl ?_
  refine g_aload_n 0 (dk D_LAW_19 47 rfl) rfl rfl ?_
  refine g_iload 4 (dk D_LAW_19 48 rfl) rfl ?_
  refine g_iconst (v := 1) (dk D_LAW_19 49 rfl) (by decide +kernel) ?_
  refine g_iadd (dk D_LAW_19 50 rfl) ?_
  refine g_sld (i := i + 1) (dk D_LAW_19 51 rfl) hv.2.1 ?_
  refine g_aload_n 0 (dk D_LAW_19 52 rfl) rfl rfl ?_
  refine g_iload 4 (dk D_LAW_19 53 rfl) rfl ?_
  refine g_iconst (v := 2) (dk D_LAW_19 54 rfl) (by decide +kernel) ?_
  refine g_iadd (dk D_LAW_19 55 rfl) ?_
  refine g_sld (i := i + 2) (dk D_LAW_19 56 rfl) hv.2.2.1 ?_
  refine g_aload_n 0 (dk D_LAW_19 57 rfl) rfl rfl ?_
  refine g_iload 4 (dk D_LAW_19 58 rfl) rfl ?_
  refine g_iconst (v := 3) (dk D_LAW_19 59 rfl) (by decide +kernel) ?_
  refine g_iadd (dk D_LAW_20 0 rfl) ?_
  refine g_sld (i := i + 3) (dk D_LAW_20 1 rfl) hv.2.2.2.1 ?_
  refine g_aload_n 3 (dk D_LAW_20 2 rfl) rfl rfl ?_
  refine g_less (kc' := kc + 3) (by omega) ?_
  refine g_callSX (As := [.ref 0, .int (sc xs i 1), .int (sc xs i 2), .int (sc xs i 3), .ref 1457]) (st := []) (kc := kc) (fr := 8) (lo := 159) (mc := 3) (My := M_L_fits) (dk D_LAW_20 3 rfl) w_1300 w_1301 w_100 w_1302 okD_L_fits (by decide) (Nat.le_of_ble_eq_true rfl) rfl (c_L_fits (sc xs i 1) (sc xs i 2) (sc xs i 3) h _ hw) (kI (fun v1 h1 hw => ?_))
  refine g_istore (dk D_LAW_20 4 rfl) (by decide) rfl ?_
  refine g_sub [1, 2, 3, 4, 5, 0] rfl ?_
  refine g_aload_n 2 (dk D_LAW_20 5 rfl) rfl rfl ?_
  refine g_aload_n 0 (dk D_LAW_20 6 rfl) rfl rfl ?_
  refine g_iload 4 (dk D_LAW_20 7 rfl) rfl ?_
  refine g_iconst (v := 1) (dk D_LAW_20 8 rfl) (by decide +kernel) ?_
  refine g_iadd (dk D_LAW_20 9 rfl) ?_
  refine g_sld (i := i + 1) (dk D_LAW_20 10 rfl) hv.2.1 ?_
  refine g_aload_n 0 (dk D_LAW_20 11 rfl) rfl rfl ?_
  refine g_iload 4 (dk D_LAW_20 12 rfl) rfl ?_
  refine g_iconst (v := 2) (dk D_LAW_20 13 rfl) (by decide +kernel) ?_
  refine g_iadd (dk D_LAW_20 14 rfl) ?_
  refine g_sld (i := i + 2) (dk D_LAW_20 15 rfl) hv.2.2.1 ?_
  refine g_aload_n 0 (dk D_LAW_20 16 rfl) rfl rfl ?_
  refine g_iload 4 (dk D_LAW_20 17 rfl) rfl ?_
  refine g_iconst (v := 3) (dk D_LAW_20 18 rfl) (by decide +kernel) ?_
  refine g_iadd (dk D_LAW_20 19 rfl) ?_
  refine g_sld (i := i + 3) (dk D_LAW_20 20 rfl) hv.2.2.2.1 ?_
  refine g_callV (As := [.int (sc xs i 1), .int (sc xs i 2), .int (sc xs i 3)]) (st := []) (kc := kc) (fr := 4) (lo := 136) (mc := 0) (My := M_X9_fits) (dk D_LAW_20 21 rfl) kd_92 rfl rfl w_1874 w_1875 w_1876 w_110 w_1877 okD_X9_fits (by decide) (Nat.le_of_ble_eq_true rfl) rfl (c_X9_fits (sc xs i 1) (sc xs i 2) (sc xs i 3) h1 _ hw) kxN (kI (fun v2 h2 hw => ?_))
  refine g_istore (dk D_LAW_20 22 rfl) (by decide) rfl ?_
  refine g_sub [1, 2, 3, 4, 5, 6, 0] rfl ?_
  refine g_aload_n 2 (dk D_LAW_20 23 rfl) rfl rfl ?_
  refine g_callV (As := []) (st := []) (kc := kc) (fr := 0) (lo := 0) (mc := 0) (My := M_X9_thrown) (dk D_LAW_20 24 rfl) kd_92 rfl rfl w_1515 w_1516 w_1517 w_110 w_1518 okD_X9_thrown (by decide) (Nat.le_of_ble_eq_true rfl) rfl (c_X9_thrown  h2 _ hw) kxN (kIp (fun v3 hw => ?_))
  refine g_iload 5 (dk D_LAW_20 25 rfl) rfl ?_
  refine g_icmp_eq (tgt := 1986) (dk D_LAW_20 26 rfl) rfl (wif_p hw.1 ?_)
  refine g_iload 5 (dk D_LAW_20 29 rfl) rfl ?_
  refine g_if_ne (tgt := 2003) (dk D_LAW_20 30 rfl) rfl ⟨fun hz => ?_, fun hz => ?_⟩
  · refine g_goto (tgt := 2266) (dk D_LAW_20 40 rfl) rfl ?_
    refine g_sub [0, 1, 2, 3, 4] rfl ?_
    exact hK _ hw.2.2
  · refine g_aload_n 3 (dk D_LAW_20 31 rfl) rfl rfl ?_
    refine g_iconst (v := 0) (dk D_LAW_20 32 rfl) (by decide +kernel) ?_
    refine g_lald (i := 0) (dk D_LAW_20 33 rfl) kd_1457 (by unfold vp_in; decide) ?_
    refine g_iload 6 (dk D_LAW_20 34 rfl) rfl ?_
    refine g_i2l (dk D_LAW_20 35 rfl) ?_
    refine g_lcmp (dk D_LAW_20 36 rfl) ?_
    refine g_if_eq (tgt := 2003) (dk D_LAW_20 37 rfl) rfl (wif_p (lgc_eq (hw.2.1 (Classical.not_not.mp hz))) ?_)
    refine g_goto (tgt := 2266) (dk D_LAW_20 40 rfl) rfl ?_
    refine g_sub [0, 1, 2, 3, 4] rfl ?_
    exact hK _ hw.2.2
def lw_c28 (xs : Nat → Int32) (i : Int32) (h : Hp) (K : Hp → Prop) : Prop :=
  w_X8_sky (sc xs i 1) h (fun v1 h1 => w_X9_sky (sc xs i 1) h1 (fun v2 h2 => v1 = v2 ∧ K h2))
theorem t_LAW_c28 {X : Cx} {N b : Nat} {xs : Nat → Int32} {kc : Nat} (i : Int32) (hv : inS i N) (h : Hp) (K : Hp → Prop) (hK : ∀ h' : Hp, K h' → G X M_LAW E_LAW (QS X N xs (Q9 b)) kc 2266 [(0, .ref SCR), (1, .ref 0), (2, .ref 92), (3, .ref 1457), (4, .int i)] [] h') (hw : lw_c28 xs i h K) : G X M_LAW E_LAW (QS X N xs (Q9 b)) (kc + 6) 2006 [(0, .ref SCR), (1, .ref 0), (2, .ref 92), (3, .ref 1457), (4, .int i)] [] h := by
  unfold lw_c28 at hw
  refine g_less (kc' := kc) (by omega) ?_
  refine g_aload_n 1 (dk D_LAW_20 41 rfl) rfl rfl ?_
  refine g_aload_n 0 (dk D_LAW_20 42 rfl) rfl rfl ?_
  refine g_iload 4 (dk D_LAW_20 43 rfl) rfl ?_
  refine g_iconst (v := 1) (dk D_LAW_20 44 rfl) (by decide +kernel) ?_
  refine g_iadd (dk D_LAW_20 45 rfl) ?_
  refine g_sld (i := i + 1) (dk D_LAW_20 46 rfl) hv.2.1 ?_
  refine g_callV (As := [.int (sc xs i 1)]) (st := []) (kc := kc) (fr := 2) (lo := 59) (mc := 0) (My := M_X8_sky) (dk D_LAW_20 47 rfl) kd_0 rfl rfl w_654 w_655 w_656 w_101 w_657 okD_X8_sky (by decide) (Nat.le_of_ble_eq_true rfl) rfl (c_X8_sky (sc xs i 1) h _ hw) kxN (kI (fun v1 h1 hw => ?_))
  refine g_aload_n 2 (dk D_LAW_20 48 rfl) rfl rfl ?_
  refine g_aload_n 0 (dk D_LAW_20 49 rfl) rfl rfl ?_
  refine g_iload 4 (dk D_LAW_20 50 rfl) rfl ?_
  refine g_iconst (v := 1) (dk D_LAW_20 51 rfl) (by decide +kernel) ?_
  refine g_iadd (dk D_LAW_20 52 rfl) ?_
  refine g_sld (i := i + 1) (dk D_LAW_20 53 rfl) hv.2.1 ?_
  refine g_callV (As := [.int (sc xs i 1)]) (st := [.int v1]) (kc := kc) (fr := 1) (lo := 30) (mc := 0) (My := M_X9_sky) (dk D_LAW_20 54 rfl) kd_92 rfl rfl w_1878 w_1879 w_1880 w_110 w_1881 okD_X9_sky (by decide) (Nat.le_of_ble_eq_true rfl) rfl (c_X9_sky (sc xs i 1) h1 _ hw) kxN (kI (fun v2 h2 hw => ?_))
  refine g_icmp_eq (tgt := 2266) (dk D_LAW_20 55 rfl) rfl (wif_p hw.1 ?_)
  exact hK _ hw.2
def lw_c29 (xs : Nat → Int32) (i : Int32) (h : Hp) (K : Hp → Prop) : Prop :=
  w_L_season (sc xs i 1) (sc xs i 2) (sc xs i 3) h (fun v1 h1 => w_X9_season (sc xs i 1) (sc xs i 2) (sc xs i 3) h1 (fun v2 h2 => w_X9_thrown  h2 (fun v3 => v3 = v1 ∧ (v1 = 0 → h2 1457 (Int32.toNatClampNeg 0) = v2) ∧ K h2)))
theorem t_LAW_c29 {X : Cx} {N b : Nat} {xs : Nat → Int32} {kc : Nat} (i : Int32) (hv : inS i N) (h : Hp) (K : Hp → Prop) (hK : ∀ h' : Hp, K h' → G X M_LAW E_LAW (QS X N xs (Q9 b)) kc 2266 [(0, .ref SCR), (1, .ref 0), (2, .ref 92), (3, .ref 1457), (4, .int i)] [] h') (hw : lw_c29 xs i h K) : G X M_LAW E_LAW (QS X N xs (Q9 b)) (kc + 6) 2031 [(0, .ref SCR), (1, .ref 0), (2, .ref 92), (3, .ref 1457), (4, .int i)] [] h := by
  unfold lw_c29 at hw
  refine g_aload_n 1 (dk D_LAW_20 58 rfl) rfl rfl ?_
  refine g_aload_n 0 (dk D_LAW_20 59 rfl) rfl rfl ?_
  refine g_iload 4 (dk D_LAW_21 0 rfl) rfl ?_
  refine g_iconst (v := 1) (dk D_LAW_21 1 rfl) (by decide +kernel) ?_
  refine g_iadd (dk D_LAW_21 2 rfl) ?_
  refine g_sld (i := i + 1) (dk D_LAW_21 3 rfl) hv.2.1 ?_
  refine g_aload_n 0 (dk D_LAW_21 4 rfl) rfl rfl ?_
  refine g_iload 4 (dk D_LAW_21 5 rfl) rfl ?_
  refine g_iconst (v := 2) (dk D_LAW_21 6 rfl) (by decide +kernel) ?_
  refine g_iadd (dk D_LAW_21 7 rfl) ?_
  refine g_sld (i := i + 2) (dk D_LAW_21 8 rfl) hv.2.2.1 ?_
  refine g_aload_n 0 (dk D_LAW_21 9 rfl) rfl rfl ?_
  refine g_iload 4 (dk D_LAW_21 10 rfl) rfl ?_
  refine g_iconst (v := 3) (dk D_LAW_21 11 rfl) (by decide +kernel) ?_
  refine g_iadd (dk D_LAW_21 12 rfl) ?_
  refine g_sld (i := i + 3) (dk D_LAW_21 13 rfl) hv.2.2.2.1 ?_
  refine g_aload_n 3 (dk D_LAW_21 14 rfl) rfl rfl ?_
  refine g_less (kc' := kc + 2) (by omega) ?_
  refine g_callSX (As := [.ref 0, .int (sc xs i 1), .int (sc xs i 2), .int (sc xs i 3), .ref 1457]) (st := []) (kc := kc) (fr := 9) (lo := 273) (mc := 2) (My := M_L_season) (dk D_LAW_21 15 rfl) w_1312 w_1313 w_100 w_1314 okD_L_season (by decide) (Nat.le_of_ble_eq_true rfl) rfl (c_L_season (sc xs i 1) (sc xs i 2) (sc xs i 3) h _ hw) (kI (fun v1 h1 hw => ?_))
  refine g_istore (dk D_LAW_21 16 rfl) (by decide) rfl ?_
  refine g_sub [1, 2, 3, 4, 5, 0] rfl ?_
  refine g_aload_n 2 (dk D_LAW_21 17 rfl) rfl rfl ?_
  refine g_aload_n 0 (dk D_LAW_21 18 rfl) rfl rfl ?_
  refine g_iload 4 (dk D_LAW_21 19 rfl) rfl ?_
  refine g_iconst (v := 1) (dk D_LAW_21 20 rfl) (by decide +kernel) ?_
  refine g_iadd (dk D_LAW_21 21 rfl) ?_
  refine g_sld (i := i + 1) (dk D_LAW_21 22 rfl) hv.2.1 ?_
  refine g_aload_n 0 (dk D_LAW_21 23 rfl) rfl rfl ?_
  refine g_iload 4 (dk D_LAW_21 24 rfl) rfl ?_
  refine g_iconst (v := 2) (dk D_LAW_21 25 rfl) (by decide +kernel) ?_
  refine g_iadd (dk D_LAW_21 26 rfl) ?_
  refine g_sld (i := i + 2) (dk D_LAW_21 27 rfl) hv.2.2.1 ?_
  refine g_aload_n 0 (dk D_LAW_21 28 rfl) rfl rfl ?_
  refine g_iload 4 (dk D_LAW_21 29 rfl) rfl ?_
  refine g_iconst (v := 3) (dk D_LAW_21 30 rfl) (by decide +kernel) ?_
  refine g_iadd (dk D_LAW_21 31 rfl) ?_
  refine g_sld (i := i + 3) (dk D_LAW_21 32 rfl) hv.2.2.2.1 ?_
  refine g_callV (As := [.int (sc xs i 1), .int (sc xs i 2), .int (sc xs i 3)]) (st := []) (kc := kc) (fr := 8) (lo := 275) (mc := 0) (My := M_X9_season) (dk D_LAW_21 33 rfl) kd_92 rfl rfl w_1887 w_1888 w_1889 w_110 w_1890 okD_X9_season (by decide) (Nat.le_of_ble_eq_true rfl) rfl (c_X9_season (sc xs i 1) (sc xs i 2) (sc xs i 3) h1 _ hw) kxN (kI (fun v2 h2 hw => ?_))
  refine g_istore (dk D_LAW_21 34 rfl) (by decide) rfl ?_
  refine g_sub [1, 2, 3, 4, 5, 6, 0] rfl ?_
  refine g_aload_n 2 (dk D_LAW_21 35 rfl) rfl rfl ?_
  refine g_callV (As := []) (st := []) (kc := kc) (fr := 0) (lo := 0) (mc := 0) (My := M_X9_thrown) (dk D_LAW_21 36 rfl) kd_92 rfl rfl w_1515 w_1516 w_1517 w_110 w_1518 okD_X9_thrown (by decide) (Nat.le_of_ble_eq_true rfl) rfl (c_X9_thrown  h2 _ hw) kxN (kIp (fun v3 hw => ?_))
  refine g_iload 5 (dk D_LAW_21 37 rfl) rfl ?_
  refine g_icmp_eq (tgt := 2091) (dk D_LAW_21 38 rfl) rfl (wif_p hw.1 ?_)
  refine g_iload 5 (dk D_LAW_21 41 rfl) rfl ?_
  refine g_if_ne (tgt := 2108) (dk D_LAW_21 42 rfl) rfl ⟨fun hz => ?_, fun hz => ?_⟩
  · refine g_goto (tgt := 2266) (dk D_LAW_21 52 rfl) rfl ?_
    refine g_sub [0, 1, 2, 3, 4] rfl ?_
    exact hK _ hw.2.2
  · refine g_aload_n 3 (dk D_LAW_21 43 rfl) rfl rfl ?_
    refine g_iconst (v := 0) (dk D_LAW_21 44 rfl) (by decide +kernel) ?_
    refine g_lald (i := 0) (dk D_LAW_21 45 rfl) kd_1457 (by unfold vp_in; decide) ?_
    refine g_iload 6 (dk D_LAW_21 46 rfl) rfl ?_
    refine g_i2l (dk D_LAW_21 47 rfl) ?_
    refine g_lcmp (dk D_LAW_21 48 rfl) ?_
    refine g_if_eq (tgt := 2108) (dk D_LAW_21 49 rfl) rfl (wif_p (lgc_eq (hw.2.1 (Classical.not_not.mp hz))) ?_)
    refine g_goto (tgt := 2266) (dk D_LAW_21 52 rfl) rfl ?_
    refine g_sub [0, 1, 2, 3, 4] rfl ?_
    exact hK _ hw.2.2
def lw_c30 (xs : Nat → Int32) (i : Int32) (h : Hp) (K : Hp → Prop) : Prop :=
  w_L_span (sc xs i 1) (sc xs i 2) (sc xs i 3) (sc xs i 4) (sc xs i 5) h (fun v1 h1 => w_X9_span (sc xs i 1) (sc xs i 2) (sc xs i 3) (sc xs i 4) (sc xs i 5) h1 (fun v2 h2 => w_X9_thrown  h2 (fun v3 => v3 = v1 ∧ (v1 = 0 → h2 1457 (Int32.toNatClampNeg 0) = v2) ∧ K h2)))
theorem t_LAW_c30 {X : Cx} {N b : Nat} {xs : Nat → Int32} {kc : Nat} (i : Int32) (hv : inS i N) (h : Hp) (K : Hp → Prop) (hK : ∀ h' : Hp, K h' → G X M_LAW E_LAW (QS X N xs (Q9 b)) kc 2266 [(0, .ref SCR), (1, .ref 0), (2, .ref 92), (3, .ref 1457), (4, .int i)] [] h') (hw : lw_c30 xs i h K) : G X M_LAW E_LAW (QS X N xs (Q9 b)) (kc + 6) 2111 [(0, .ref SCR), (1, .ref 0), (2, .ref 92), (3, .ref 1457), (4, .int i)] [] h := by
  unfold lw_c30 at hw
  refine g_aload_n 1 (dk D_LAW_21 53 rfl) rfl rfl ?_
  refine g_aload_n 0 (dk D_LAW_21 54 rfl) rfl rfl ?_
  refine g_iload 4 (dk D_LAW_21 55 rfl) rfl ?_
  refine g_iconst (v := 1) (dk D_LAW_21 56 rfl) (by decide +kernel) ?_
  refine g_iadd (dk D_LAW_21 57 rfl) ?_
  refine g_sld (i := i + 1) (dk D_LAW_21 58 rfl) hv.2.1 ?_
  refine g_aload_n 0 (dk D_LAW_21 59 rfl) rfl rfl ?_
  refine g_iload 4 (dk D_LAW_22 0 rfl) rfl ?_
  refine g_iconst (v := 2) (dk D_LAW_22 1 rfl) (by decide +kernel) ?_
  refine g_iadd (dk D_LAW_22 2 rfl) ?_
  refine g_sld (i := i + 2) (dk D_LAW_22 3 rfl) hv.2.2.1 ?_
  refine g_aload_n 0 (dk D_LAW_22 4 rfl) rfl rfl ?_
  refine g_iload 4 (dk D_LAW_22 5 rfl) rfl ?_
  refine g_iconst (v := 3) (dk D_LAW_22 6 rfl) (by decide +kernel) ?_
  refine g_iadd (dk D_LAW_22 7 rfl) ?_
  refine g_sld (i := i + 3) (dk D_LAW_22 8 rfl) hv.2.2.2.1 ?_
  refine g_aload_n 0 (dk D_LAW_22 9 rfl) rfl rfl ?_
  refine g_iload 4 (dk D_LAW_22 10 rfl) rfl ?_
  refine g_iconst (v := 4) (dk D_LAW_22 11 rfl) (by decide +kernel) ?_
  refine g_iadd (dk D_LAW_22 12 rfl) ?_
  refine g_sld (i := i + 4) (dk D_LAW_22 13 rfl) hv.2.2.2.2.1 ?_
  refine g_aload_n 0 (dk D_LAW_22 14 rfl) rfl rfl ?_
  refine g_iload 4 (dk D_LAW_22 15 rfl) rfl ?_
  refine g_iconst (v := 5) (dk D_LAW_22 16 rfl) (by decide +kernel) ?_
  refine g_iadd (dk D_LAW_22 17 rfl) ?_
  refine g_sld (i := i + 5) (dk D_LAW_22 18 rfl) hv.2.2.2.2.2 ?_
  refine g_aload_n 3 (dk D_LAW_22 19 rfl) rfl rfl ?_
  refine g_less (kc' := kc + 4) (by omega) ?_
  refine g_callSX (As := [.ref 0, .int (sc xs i 1), .int (sc xs i 2), .int (sc xs i 3), .int (sc xs i 4), .int (sc xs i 5), .ref 1457]) (st := []) (kc := kc) (fr := 9) (lo := 278) (mc := 4) (My := M_L_span) (dk D_LAW_22 20 rfl) w_1335 w_1336 w_100 w_1337 okD_L_span (by decide) (Nat.le_of_ble_eq_true rfl) rfl (c_L_span (sc xs i 1) (sc xs i 2) (sc xs i 3) (sc xs i 4) (sc xs i 5) h _ hw) (kI (fun v1 h1 hw => ?_))
  refine g_istore (dk D_LAW_22 21 rfl) (by decide) rfl ?_
  refine g_sub [1, 2, 3, 4, 5, 0] rfl ?_
  refine g_aload_n 2 (dk D_LAW_22 22 rfl) rfl rfl ?_
  refine g_aload_n 0 (dk D_LAW_22 23 rfl) rfl rfl ?_
  refine g_iload 4 (dk D_LAW_22 24 rfl) rfl ?_
  refine g_iconst (v := 1) (dk D_LAW_22 25 rfl) (by decide +kernel) ?_
  refine g_iadd (dk D_LAW_22 26 rfl) ?_
  refine g_sld (i := i + 1) (dk D_LAW_22 27 rfl) hv.2.1 ?_
  refine g_aload_n 0 (dk D_LAW_22 28 rfl) rfl rfl ?_
  refine g_iload 4 (dk D_LAW_22 29 rfl) rfl ?_
  refine g_iconst (v := 2) (dk D_LAW_22 30 rfl) (by decide +kernel) ?_
  refine g_iadd (dk D_LAW_22 31 rfl) ?_
  refine g_sld (i := i + 2) (dk D_LAW_22 32 rfl) hv.2.2.1 ?_
  refine g_aload_n 0 (dk D_LAW_22 33 rfl) rfl rfl ?_
  refine g_iload 4 (dk D_LAW_22 34 rfl) rfl ?_
  refine g_iconst (v := 3) (dk D_LAW_22 35 rfl) (by decide +kernel) ?_
  refine g_iadd (dk D_LAW_22 36 rfl) ?_
  refine g_sld (i := i + 3) (dk D_LAW_22 37 rfl) hv.2.2.2.1 ?_
  refine g_aload_n 0 (dk D_LAW_22 38 rfl) rfl rfl ?_
  refine g_iload 4 (dk D_LAW_22 39 rfl) rfl ?_
  refine g_iconst (v := 4) (dk D_LAW_22 40 rfl) (by decide +kernel) ?_
  refine g_iadd (dk D_LAW_22 41 rfl) ?_
  refine g_sld (i := i + 4) (dk D_LAW_22 42 rfl) hv.2.2.2.2.1 ?_
  refine g_aload_n 0 (dk D_LAW_22 43 rfl) rfl rfl ?_
  refine g_iload 4 (dk D_LAW_22 44 rfl) rfl ?_
  refine g_iconst (v := 5) (dk D_LAW_22 45 rfl) (by decide +kernel) ?_
  refine g_iadd (dk D_LAW_22 46 rfl) ?_
  refine g_sld (i := i + 5) (dk D_LAW_22 47 rfl) hv.2.2.2.2.2 ?_
  refine g_callV (As := [.int (sc xs i 1), .int (sc xs i 2), .int (sc xs i 3), .int (sc xs i 4), .int (sc xs i 5)]) (st := []) (kc := kc) (fr := 8) (lo := 275) (mc := 0) (My := M_X9_span) (dk D_LAW_22 48 rfl) kd_92 rfl rfl w_1903 w_1904 w_1905 w_110 w_1906 okD_X9_span (by decide) (Nat.le_of_ble_eq_true rfl) rfl (c_X9_span (sc xs i 1) (sc xs i 2) (sc xs i 3) (sc xs i 4) (sc xs i 5) h1 _ hw) kxN (kI (fun v2 h2 hw => ?_))
  refine g_istore (dk D_LAW_22 49 rfl) (by decide) rfl ?_
  refine g_sub [1, 2, 3, 4, 5, 6, 0] rfl ?_
  refine g_aload_n 2 (dk D_LAW_22 50 rfl) rfl rfl ?_
  refine g_callV (As := []) (st := []) (kc := kc) (fr := 0) (lo := 0) (mc := 0) (My := M_X9_thrown) (dk D_LAW_22 51 rfl) kd_92 rfl rfl w_1515 w_1516 w_1517 w_110 w_1518 okD_X9_thrown (by decide) (Nat.le_of_ble_eq_true rfl) rfl (c_X9_thrown  h2 _ hw) kxN (kIp (fun v3 hw => ?_))
  refine g_iload 5 (dk D_LAW_22 52 rfl) rfl ?_
  refine g_icmp_eq (tgt := 2195) (dk D_LAW_22 53 rfl) rfl (wif_p hw.1 ?_)
  refine g_iload 5 (dk D_LAW_22 56 rfl) rfl ?_
  refine g_if_ne (tgt := 2212) (dk D_LAW_22 57 rfl) rfl ⟨fun hz => ?_, fun hz => ?_⟩
  · refine g_goto (tgt := 2266) (dk D_LAW_23 7 rfl) rfl ?_
    refine g_sub [0, 1, 2, 3, 4] rfl ?_
    exact hK _ hw.2.2
  · refine g_aload_n 3 (dk D_LAW_22 58 rfl) rfl rfl ?_
    refine g_iconst (v := 0) (dk D_LAW_22 59 rfl) (by decide +kernel) ?_
    refine g_lald (i := 0) (dk D_LAW_23 0 rfl) kd_1457 (by unfold vp_in; decide) ?_
    refine g_iload 6 (dk D_LAW_23 1 rfl) rfl ?_
    refine g_i2l (dk D_LAW_23 2 rfl) ?_
    refine g_lcmp (dk D_LAW_23 3 rfl) ?_
    refine g_if_eq (tgt := 2212) (dk D_LAW_23 4 rfl) rfl (wif_p (lgc_eq (hw.2.1 (Classical.not_not.mp hz))) ?_)
    refine g_goto (tgt := 2266) (dk D_LAW_23 7 rfl) rfl ?_
    refine g_sub [0, 1, 2, 3, 4] rfl ?_
    exact hK _ hw.2.2
def lw_c31 (xs : Nat → Int32) (i : Int32) (h : Hp) (K : Hp → Prop) : Prop :=
  w_X8_image  h (fun v1 h1 => w_X9_image  h1 (fun v2 h2 => v1 = v2 ∧ K h2))
theorem t_LAW_c31 {X : Cx} {N b : Nat} {xs : Nat → Int32} {kc : Nat} (i : Int32) (hv : inS i N) (h : Hp) (K : Hp → Prop) (hK : ∀ h' : Hp, K h' → G X M_LAW E_LAW (QS X N xs (Q9 b)) kc 2266 [(0, .ref SCR), (1, .ref 0), (2, .ref 92), (3, .ref 1457), (4, .int i)] [] h') (hw : lw_c31 xs i h K) : G X M_LAW E_LAW (QS X N xs (Q9 b)) (kc + 6) 2215 [(0, .ref SCR), (1, .ref 0), (2, .ref 92), (3, .ref 1457), (4, .int i)] [] h := by
  unfold lw_c31 at hw
  refine g_less (kc' := kc) (by omega) ?_
  refine g_aload_n 1 (dk D_LAW_23 8 rfl) rfl rfl ?_
  refine g_callV (As := []) (st := []) (kc := kc) (fr := 2) (lo := 59) (mc := 0) (My := M_X8_image) (dk D_LAW_23 9 rfl) kd_0 rfl rfl w_667 w_668 w_669 w_101 w_670 okD_X8_image (by decide) (Nat.le_of_ble_eq_true rfl) rfl (c_X8_image  h _ hw) kxN (kI (fun v1 h1 hw => ?_))
  refine g_aload_n 2 (dk D_LAW_23 10 rfl) rfl rfl ?_
  refine g_callV (As := []) (st := [.int v1]) (kc := kc) (fr := 2) (lo := 63) (mc := 0) (My := M_X9_image) (dk D_LAW_23 11 rfl) kd_92 rfl rfl w_1907 w_1908 w_1909 w_110 w_1910 okD_X9_image (by decide) (Nat.le_of_ble_eq_true rfl) rfl (c_X9_image  h1 _ hw) kxN (kI (fun v2 h2 hw => ?_))
  refine g_icmp_eq (tgt := 2266) (dk D_LAW_23 12 rfl) rfl (wif_p hw.1 ?_)
  exact hK _ hw.2
def lw_c32 (xs : Nat → Int32) (i : Int32) (h : Hp) (K : Hp → Prop) : Prop :=
  w_X8_restore  h (fun v1 h1 => w_X9_restore  h1 (fun v2 h2 => v1 = v2 ∧ K h2))
theorem t_LAW_c32 {X : Cx} {N b : Nat} {xs : Nat → Int32} {kc : Nat} (i : Int32) (hv : inS i N) (h : Hp) (K : Hp → Prop) (hK : ∀ h' : Hp, K h' → G X M_LAW E_LAW (QS X N xs (Q9 b)) kc 2266 [(0, .ref SCR), (1, .ref 0), (2, .ref 92), (3, .ref 1457), (4, .int i)] [] h') (hw : lw_c32 xs i h K) : G X M_LAW E_LAW (QS X N xs (Q9 b)) (kc + 6) 2228 [(0, .ref SCR), (1, .ref 0), (2, .ref 92), (3, .ref 1457), (4, .int i)] [] h := by
  unfold lw_c32 at hw
  refine g_less (kc' := kc) (by omega) ?_
  refine g_aload_n 1 (dk D_LAW_23 15 rfl) rfl rfl ?_
  refine g_callV (As := []) (st := []) (kc := kc) (fr := 2) (lo := 59) (mc := 0) (My := M_X8_restore) (dk D_LAW_23 16 rfl) kd_0 rfl rfl w_682 w_683 w_684 w_101 w_685 okD_X8_restore (by decide) (Nat.le_of_ble_eq_true rfl) rfl (c_X8_restore  h _ hw) kxN (kI (fun v1 h1 hw => ?_))
  refine g_aload_n 2 (dk D_LAW_23 17 rfl) rfl rfl ?_
  refine g_callV (As := []) (st := [.int v1]) (kc := kc) (fr := 2) (lo := 63) (mc := 0) (My := M_X9_restore) (dk D_LAW_23 18 rfl) kd_92 rfl rfl w_1919 w_1920 w_1921 w_110 w_1922 okD_X9_restore (by decide) (Nat.le_of_ble_eq_true rfl) rfl (c_X9_restore  h1 _ hw) kxN (kI (fun v2 h2 hw => ?_))
  refine g_icmp_eq (tgt := 2266) (dk D_LAW_23 19 rfl) rfl (wif_p hw.1 ?_)
  exact hK _ hw.2
def lw_c33 (xs : Nat → Int32) (i : Int32) (h : Hp) (K : Hp → Prop) : Prop :=
  w_X8_count (sc xs i 1) h (fun v1 => w_X9_count (sc xs i 1) h (fun v2 h2 => v1 = v2 ∧ K h2))
theorem t_LAW_c33 {X : Cx} {N b : Nat} {xs : Nat → Int32} {kc : Nat} (i : Int32) (hv : inS i N) (h : Hp) (K : Hp → Prop) (hK : ∀ h' : Hp, K h' → G X M_LAW E_LAW (QS X N xs (Q9 b)) kc 2266 [(0, .ref SCR), (1, .ref 0), (2, .ref 92), (3, .ref 1457), (4, .int i)] [] h') (hw : lw_c33 xs i h K) : G X M_LAW E_LAW (QS X N xs (Q9 b)) (kc + 6) 2241 [(0, .ref SCR), (1, .ref 0), (2, .ref 92), (3, .ref 1457), (4, .int i)] [] h := by
  unfold lw_c33 at hw
  refine g_less (kc' := kc) (by omega) ?_
  refine g_aload_n 1 (dk D_LAW_23 22 rfl) rfl rfl ?_
  refine g_aload_n 0 (dk D_LAW_23 23 rfl) rfl rfl ?_
  refine g_iload 4 (dk D_LAW_23 24 rfl) rfl ?_
  refine g_iconst (v := 1) (dk D_LAW_23 25 rfl) (by decide +kernel) ?_
  refine g_iadd (dk D_LAW_23 26 rfl) ?_
  refine g_sld (i := i + 1) (dk D_LAW_23 27 rfl) hv.2.1 ?_
  refine g_callV (As := [.int (sc xs i 1)]) (st := []) (kc := kc) (fr := 2) (lo := 59) (mc := 0) (My := M_X8_count) (dk D_LAW_23 28 rfl) kd_0 rfl rfl w_686 w_687 w_688 w_101 w_689 okD_X8_count (by decide) (Nat.le_of_ble_eq_true rfl) rfl (c_X8_count (sc xs i 1) h _ hw) kxN (kIp (fun v1 hw => ?_))
  refine g_aload_n 2 (dk D_LAW_23 29 rfl) rfl rfl ?_
  refine g_aload_n 0 (dk D_LAW_23 30 rfl) rfl rfl ?_
  refine g_iload 4 (dk D_LAW_23 31 rfl) rfl ?_
  refine g_iconst (v := 1) (dk D_LAW_23 32 rfl) (by decide +kernel) ?_
  refine g_iadd (dk D_LAW_23 33 rfl) ?_
  refine g_sld (i := i + 1) (dk D_LAW_23 34 rfl) hv.2.1 ?_
  refine g_callV (As := [.int (sc xs i 1)]) (st := [.int v1]) (kc := kc) (fr := 0) (lo := 0) (mc := 0) (My := M_X9_count) (dk D_LAW_23 35 rfl) kd_92 rfl rfl w_1923 w_1924 w_1925 w_110 w_1926 okD_X9_count (by decide) (Nat.le_of_ble_eq_true rfl) rfl (c_X9_count (sc xs i 1) h _ hw) kxN (kI (fun v2 h2 hw => ?_))
  refine g_icmp_eq (tgt := 2266) (dk D_LAW_23 36 rfl) rfl (wif_p hw.1 ?_)
  exact hK _ hw.2
def lw_step (xs : Nat → Int32) (i : Int32) (h : Hp) (K : Hp → Prop) : Prop :=
  wsw (xs i.toNatClampNeg &&& 63) [((0 : Int32), lw_c0 xs i h K), ((1 : Int32), lw_c1 xs i h K), ((2 : Int32), lw_c2 xs i h K), ((3 : Int32), lw_c3 xs i h K), ((4 : Int32), lw_c4 xs i h K), ((5 : Int32), lw_c5 xs i h K), ((6 : Int32), lw_c6 xs i h K), ((7 : Int32), lw_c7 xs i h K), ((8 : Int32), lw_c8 xs i h K), ((9 : Int32), lw_c9 xs i h K), ((10 : Int32), lw_c10 xs i h K), ((11 : Int32), lw_c11 xs i h K), ((12 : Int32), lw_c12 xs i h K), ((13 : Int32), lw_c13 xs i h K), ((14 : Int32), lw_c14 xs i h K), ((15 : Int32), lw_c15 xs i h K), ((16 : Int32), lw_c16 xs i h K), ((17 : Int32), lw_c17 xs i h K), ((18 : Int32), lw_c18 xs i h K), ((19 : Int32), lw_c19 xs i h K), ((20 : Int32), lw_c20 xs i h K), ((21 : Int32), lw_c21 xs i h K), ((22 : Int32), lw_c22 xs i h K), ((23 : Int32), lw_c23 xs i h K), ((24 : Int32), lw_c24 xs i h K), ((25 : Int32), lw_c25 xs i h K), ((26 : Int32), lw_c26 xs i h K), ((27 : Int32), lw_c27 xs i h K), ((28 : Int32), lw_c28 xs i h K), ((29 : Int32), lw_c29 xs i h K), ((30 : Int32), lw_c30 xs i h K), ((31 : Int32), lw_c31 xs i h K), ((32 : Int32), lw_c32 xs i h K), ((33 : Int32), lw_c33 xs i h K)] (K h)
def lw_l (N : Nat) (xs : Nat → Int32) (K : Int32 × Hp → Prop) (s : Int32 × Hp) : Prop :=
  wif (nI N - 6 < s.1) True (inS s.1 N ∧ s.1.toNatClampNeg + 6 ≤ N ∧ (s.1 + 6).toNatClampNeg = s.1.toNatClampNeg + 6 ∧ lw_step xs s.1 s.2 (fun h' => K (s.1 + 6, h')))
theorem t_LAW_l {X : Cx} {N b : Nat} {xs : Nat → Int32} (i : Int32) (h : Hp) (K : Int32 × Hp → Prop) (hK : ∀ s : Int32 × Hp, K s → G X M_LAW E_LAW (QS X N xs (Q9 b)) (N - s.1.toNatClampNeg) 23 [(0, .ref SCR), (1, .ref 0), (2, .ref 92), (3, .ref 1457), (4, .int s.1)] [] s.2) (hw : lw_l N xs K (i, h)) : G X M_LAW E_LAW (QS X N xs (Q9 b)) (N - i.toNatClampNeg) 23 [(0, .ref SCR), (1, .ref 0), (2, .ref 92), (3, .ref 1457), (4, .int i)] [] h := by
  unfold lw_l at hw
  refine g_iload 4 (dk D_LAW_0 13 rfl) rfl ?_
  refine g_aload_n 0 (dk D_LAW_0 14 rfl) rfl rfl ?_
  refine g_slenS (dk D_LAW_0 15 rfl) ?_
  refine g_bipush (v := 6) (dk D_LAW_0 16 rfl) (by decide +kernel) ?_
  refine g_isub (dk D_LAW_0 17 rfl) ?_
  refine g_icmp_gt (tgt := 2272) (dk D_LAW_0 18 rfl) rfl (wif_m hw (fun _ => ?_) (fun hw => ?_))
  · refine g_iconst (v := 1) (dk D_LAW_23 41 rfl) (by decide +kernel) ?_
    exact g_lawret rfl rfl (dk D_LAW_23 42 rfl) ⟨by decide, by decide⟩
  · obtain ⟨hv, hn, hi, hw⟩ := hw
    have hk : N - i.toNatClampNeg = (N - (i + 6).toNatClampNeg) + 6 := by
      have hn9 : i.toNatClampNeg + 6 ≤ N := hn
      have hi9 : (i + 6).toNatClampNeg = i.toNatClampNeg + 6 := hi
      omega
    rw [hk]
    have go : ∀ h' : Hp, K (i + 6, h') → G X M_LAW E_LAW (QS X N xs (Q9 b)) (N - (i + 6).toNatClampNeg) 2266 [(0, .ref SCR), (1, .ref 0), (2, .ref 92), (3, .ref 1457), (4, .int i)] [] h' := by
      intro h' hk9
      refine g_iinc 4 (v := i + 6) (dk D_LAW_23 39 rfl) rfl (by rw [show Int32.ofInt 6 = 6 by decide +kernel]) (by decide) rfl ?_
      refine g_goto (tgt := 23) (dk D_LAW_23 40 rfl) rfl ?_
      refine g_sub [1, 2, 3, 4, 0] rfl ?_
      exact hK (i + 6, h') hk9
    refine g_aload_n 0 (dk D_LAW_0 19 rfl) rfl rfl ?_
    refine g_iload 4 (dk D_LAW_0 20 rfl) rfl ?_
    refine g_sld (i := i) (dk D_LAW_0 21 rfl) hv.1 ?_
    refine g_bipush (v := 63) (dk D_LAW_0 22 rfl) (by decide +kernel) ?_
    refine g_iand (dk D_LAW_0 23 rfl) ?_
    refine g_sw [((0 : Int32), 192), ((1 : Int32), 265), ((2 : Int32), 321), ((3 : Int32), 377), ((4 : Int32), 390), ((5 : Int32), 446), ((6 : Int32), 514), ((7 : Int32), 582), ((8 : Int32), 662), ((9 : Int32), 754), ((10 : Int32), 822), ((11 : Int32), 942), ((12 : Int32), 1034), ((13 : Int32), 1102), ((14 : Int32), 1210), ((15 : Int32), 1318), ((16 : Int32), 1331), ((17 : Int32), 1387), ((18 : Int32), 1479), ((19 : Int32), 1492), ((20 : Int32), 1548), ((21 : Int32), 1616), ((22 : Int32), 1672), ((23 : Int32), 1685), ((24 : Int32), 1765), ((25 : Int32), 1845), ((26 : Int32), 1913), ((27 : Int32), 1926), ((28 : Int32), 2006), ((29 : Int32), 2031), ((30 : Int32), 2111), ((31 : Int32), 2215), ((32 : Int32), 2228), ((33 : Int32), 2241)] 2266 (dk D_LAW_0 24 rfl) (by decide +kernel) (by decide +kernel) (by decide) (by decide) (wsw_m hw ?_ (fun hw => ?_))
    · refine ⟨rfl, fun hw => t_LAW_c0 i hv h (fun h' => K (i + 6, h')) go hw, rfl, fun hw => t_LAW_c1 i hv h (fun h' => K (i + 6, h')) go hw, rfl, fun hw => t_LAW_c2 i hv h (fun h' => K (i + 6, h')) go hw, rfl, fun hw => t_LAW_c3 i hv h (fun h' => K (i + 6, h')) go hw, rfl, fun hw => t_LAW_c4 i hv h (fun h' => K (i + 6, h')) go hw, rfl, fun hw => t_LAW_c5 i hv h (fun h' => K (i + 6, h')) go hw, rfl, fun hw => t_LAW_c6 i hv h (fun h' => K (i + 6, h')) go hw, rfl, fun hw => t_LAW_c7 i hv h (fun h' => K (i + 6, h')) go hw, rfl, fun hw => t_LAW_c8 i hv h (fun h' => K (i + 6, h')) go hw, rfl, fun hw => t_LAW_c9 i hv h (fun h' => K (i + 6, h')) go hw, rfl, fun hw => t_LAW_c10 i hv h (fun h' => K (i + 6, h')) go hw, rfl, fun hw => t_LAW_c11 i hv h (fun h' => K (i + 6, h')) go hw, rfl, fun hw => t_LAW_c12 i hv h (fun h' => K (i + 6, h')) go hw, rfl, fun hw => t_LAW_c13 i hv h (fun h' => K (i + 6, h')) go hw, rfl, fun hw => t_LAW_c14 i hv h (fun h' => K (i + 6, h')) go hw, rfl, fun hw => t_LAW_c15 i hv h (fun h' => K (i + 6, h')) go hw, rfl, fun hw => t_LAW_c16 i hv h (fun h' => K (i + 6, h')) go hw, rfl, fun hw => t_LAW_c17 i hv h (fun h' => K (i + 6, h')) go hw, rfl, fun hw => t_LAW_c18 i hv h (fun h' => K (i + 6, h')) go hw, rfl, fun hw => t_LAW_c19 i hv h (fun h' => K (i + 6, h')) go hw, rfl, fun hw => t_LAW_c20 i hv h (fun h' => K (i + 6, h')) go hw, rfl, fun hw => t_LAW_c21 i hv h (fun h' => K (i + 6, h')) go hw, rfl, fun hw => t_LAW_c22 i hv h (fun h' => K (i + 6, h')) go hw, rfl, fun hw => t_LAW_c23 i hv h (fun h' => K (i + 6, h')) go hw, rfl, fun hw => t_LAW_c24 i hv h (fun h' => K (i + 6, h')) go hw, rfl, fun hw => t_LAW_c25 i hv h (fun h' => K (i + 6, h')) go hw, rfl, fun hw => t_LAW_c26 i hv h (fun h' => K (i + 6, h')) go hw, rfl, fun hw => t_LAW_c27 i hv h (fun h' => K (i + 6, h')) go hw, rfl, fun hw => t_LAW_c28 i hv h (fun h' => K (i + 6, h')) go hw, rfl, fun hw => t_LAW_c29 i hv h (fun h' => K (i + 6, h')) go hw, rfl, fun hw => t_LAW_c30 i hv h (fun h' => K (i + 6, h')) go hw, rfl, fun hw => t_LAW_c31 i hv h (fun h' => K (i + 6, h')) go hw, rfl, fun hw => t_LAW_c32 i hv h (fun h' => K (i + 6, h')) go hw, rfl, fun hw => t_LAW_c33 i hv h (fun h' => K (i + 6, h')) go hw, trivial⟩
    · refine g_less (kc' := N - (i + 6).toNatClampNeg) (by omega) ?_
      exact go h hw
theorem t_LAW {X : Cx} {N b : Nat} {xs : Nat → Int32} (s : Int32 × Hp) (hw : wl (fun K s => lw_l N xs K s) s) : G X M_LAW E_LAW (QS X N xs (Q9 b)) (N - s.1.toNatClampNeg) 23 [(0, .ref SCR), (1, .ref 0), (2, .ref 92), (3, .ref 1457), (4, .int s.1)] [] s.2 :=
  wl_ind (P := fun s : Int32 × Hp => G X M_LAW E_LAW (QS X N xs (Q9 b)) (N - s.1.toNatClampNeg) 23 [(0, .ref SCR), (1, .ref 0), (2, .ref 92), (3, .ref 1457), (4, .int s.1)] [] s.2) (fun K hK s hw => t_LAW_l s.1 s.2 K hK hw) s hw
