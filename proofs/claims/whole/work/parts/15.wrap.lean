/-! the law's wrappers, printed by wip/whole/p15.py out of their bytecode -/
set_option maxRecDepth 8000 in
theorem w_698 : Cond.classLink "ShadowTollsLaw" 13 "java/lang/IllegalArgumentException" ∈ TT := tt_3 (List.mem_of_getElem? (i := 118) rfl) rfl
set_option maxRecDepth 8000 in
theorem w_699 : Cond.methodLink "ShadowTollsLaw" 7 yX8_bridge ∈ TT := tt_3 (List.mem_of_getElem? (i := 119) rfl) rfl
set_option maxRecDepth 8000 in
theorem w_700 : Cond.instanceMethod yX8_bridge ∈ TT := tt_3 (List.mem_of_getElem? (i := 120) rfl) rfl
set_option maxRecDepth 8000 in
theorem w_701 : Cond.selects RX8 yX8_bridge yX8_bridge ∈ TT := tt_3 (List.mem_of_getElem? (i := 121) rfl) rfl
set_option maxRecDepth 8000 in
theorem w_702 : Cond.code yX8_bridge cX8_bridge 2 (some .int) ∈ TT := tt_3 (List.mem_of_getElem? (i := 122) rfl) rfl
set_option maxRecDepth 8000 in
theorem w_708 : Cond.castable "java/lang/IllegalArgumentException" "java/lang/IllegalArgumentException" ∈ TT := tt_3 (List.mem_of_getElem? (i := 128) rfl) rfl
set_option maxRecDepth 8000 in
theorem w_940 : Cond.methodLink "ShadowTollsLaw" 15 yX8_toll ∈ TT := tt_4 (List.mem_of_getElem? (i := 120) rfl) rfl
set_option maxRecDepth 8000 in
theorem w_941 : Cond.instanceMethod yX8_toll ∈ TT := tt_4 (List.mem_of_getElem? (i := 121) rfl) rfl
set_option maxRecDepth 8000 in
theorem w_942 : Cond.selects RX8 yX8_toll yX8_toll ∈ TT := tt_4 (List.mem_of_getElem? (i := 122) rfl) rfl
set_option maxRecDepth 8000 in
theorem w_943 : Cond.code yX8_toll cX8_toll 3 (some .int) ∈ TT := tt_4 (List.mem_of_getElem? (i := 123) rfl) rfl
set_option maxRecDepth 8000 in
theorem w_998 : Cond.methodLink "ShadowTollsLaw" 18 yX8_told ∈ TT := tt_4 (List.mem_of_getElem? (i := 178) rfl) rfl
set_option maxRecDepth 8000 in
theorem w_999 : Cond.instanceMethod yX8_told ∈ TT := tt_4 (List.mem_of_getElem? (i := 179) rfl) rfl
set_option maxRecDepth 8000 in
theorem w_1000 : Cond.selects RX8 yX8_told yX8_told ∈ TT := tt_4 (List.mem_of_getElem? (i := 180) rfl) rfl
set_option maxRecDepth 8000 in
theorem w_1001 : Cond.code yX8_told cX8_told 2 (some .int) ∈ TT := tt_4 (List.mem_of_getElem? (i := 181) rfl) rfl
set_option maxRecDepth 8000 in
theorem w_1006 : Cond.classLink "ShadowTollsLaw" 25 "java/util/NoSuchElementException" ∈ TT := tt_4 (List.mem_of_getElem? (i := 186) rfl) rfl
set_option maxRecDepth 8000 in
theorem w_1007 : Cond.methodLink "ShadowTollsLaw" 21 yX8_traveller ∈ TT := tt_4 (List.mem_of_getElem? (i := 187) rfl) rfl
set_option maxRecDepth 8000 in
theorem w_1008 : Cond.instanceMethod yX8_traveller ∈ TT := tt_4 (List.mem_of_getElem? (i := 188) rfl) rfl
set_option maxRecDepth 8000 in
theorem w_1009 : Cond.selects RX8 yX8_traveller yX8_traveller ∈ TT := tt_4 (List.mem_of_getElem? (i := 189) rfl) rfl
set_option maxRecDepth 8000 in
theorem w_1010 : Cond.code yX8_traveller cX8_traveller 3 (some .int) ∈ TT := tt_4 (List.mem_of_getElem? (i := 190) rfl) rfl
set_option maxRecDepth 8000 in
theorem w_1017 : Cond.castable "java/util/NoSuchElementException" "java/util/NoSuchElementException" ∈ TT := tt_4 (List.mem_of_getElem? (i := 197) rfl) rfl
set_option maxRecDepth 8000 in
theorem w_1035 : Cond.methodLink "ShadowTollsLaw" 27 yX8_day ∈ TT := tt_4 (List.mem_of_getElem? (i := 215) rfl) rfl
set_option maxRecDepth 8000 in
theorem w_1036 : Cond.instanceMethod yX8_day ∈ TT := tt_4 (List.mem_of_getElem? (i := 216) rfl) rfl
set_option maxRecDepth 8000 in
theorem w_1037 : Cond.selects RX8 yX8_day yX8_day ∈ TT := tt_4 (List.mem_of_getElem? (i := 217) rfl) rfl
set_option maxRecDepth 8000 in
theorem w_1038 : Cond.code yX8_day cX8_day 3 (some .int) ∈ TT := tt_4 (List.mem_of_getElem? (i := 218) rfl) rfl
set_option maxRecDepth 8000 in
theorem w_1046 : Cond.classLink "ShadowTollsLaw" 34 "java/lang/IndexOutOfBoundsException" ∈ TT := tt_4 (List.mem_of_getElem? (i := 226) rfl) rfl
set_option maxRecDepth 8000 in
theorem w_1047 : Cond.methodLink "ShadowTollsLaw" 30 yX8_altitude ∈ TT := tt_4 (List.mem_of_getElem? (i := 227) rfl) rfl
set_option maxRecDepth 8000 in
theorem w_1048 : Cond.instanceMethod yX8_altitude ∈ TT := tt_4 (List.mem_of_getElem? (i := 228) rfl) rfl
set_option maxRecDepth 8000 in
theorem w_1049 : Cond.selects RX8 yX8_altitude yX8_altitude ∈ TT := tt_4 (List.mem_of_getElem? (i := 229) rfl) rfl
set_option maxRecDepth 8000 in
theorem w_1050 : Cond.code yX8_altitude cX8_altitude 4 (some .int) ∈ TT := tt_4 (List.mem_of_getElem? (i := 230) rfl) rfl
set_option maxRecDepth 8000 in
theorem w_1057 : Cond.castable "java/lang/IndexOutOfBoundsException" "java/lang/IndexOutOfBoundsException" ∈ TT := tt_4 (List.mem_of_getElem? (i := 237) rfl) rfl
set_option maxRecDepth 8000 in
theorem w_1079 : Cond.methodLink "ShadowTollsLaw" 36 yX8_shadow ∈ TT := tt_5 (List.mem_of_getElem? (i := 19) rfl) rfl
set_option maxRecDepth 8000 in
theorem w_1080 : Cond.instanceMethod yX8_shadow ∈ TT := tt_5 (List.mem_of_getElem? (i := 20) rfl) rfl
set_option maxRecDepth 8000 in
theorem w_1081 : Cond.selects RX8 yX8_shadow yX8_shadow ∈ TT := tt_5 (List.mem_of_getElem? (i := 21) rfl) rfl
set_option maxRecDepth 8000 in
theorem w_1082 : Cond.code yX8_shadow cX8_shadow 5 (some .int) ∈ TT := tt_5 (List.mem_of_getElem? (i := 22) rfl) rfl
set_option maxRecDepth 8000 in
theorem w_1087 : Cond.methodLink "ShadowTollsLaw" 40 yX8_law ∈ TT := tt_5 (List.mem_of_getElem? (i := 27) rfl) rfl
set_option maxRecDepth 8000 in
theorem w_1088 : Cond.instanceMethod yX8_law ∈ TT := tt_5 (List.mem_of_getElem? (i := 28) rfl) rfl
set_option maxRecDepth 8000 in
theorem w_1089 : Cond.selects RX8 yX8_law yX8_law ∈ TT := tt_5 (List.mem_of_getElem? (i := 29) rfl) rfl
set_option maxRecDepth 8000 in
theorem w_1090 : Cond.code yX8_law cX8_law 4 (some .int) ∈ TT := tt_5 (List.mem_of_getElem? (i := 30) rfl) rfl
set_option maxRecDepth 8000 in
theorem w_1095 : Cond.methodLink "ShadowTollsLaw" 43 yX8_coins ∈ TT := tt_5 (List.mem_of_getElem? (i := 35) rfl) rfl
set_option maxRecDepth 8000 in
theorem w_1096 : Cond.instanceMethod yX8_coins ∈ TT := tt_5 (List.mem_of_getElem? (i := 36) rfl) rfl
set_option maxRecDepth 8000 in
theorem w_1097 : Cond.selects RX8 yX8_coins yX8_coins ∈ TT := tt_5 (List.mem_of_getElem? (i := 37) rfl) rfl
set_option maxRecDepth 8000 in
theorem w_1098 : Cond.code yX8_coins cX8_coins 6 (some .int) ∈ TT := tt_5 (List.mem_of_getElem? (i := 38) rfl) rfl
set_option maxRecDepth 8000 in
theorem w_1103 : Cond.methodLink "ShadowTollsLaw" 47 yX8_best ∈ TT := tt_5 (List.mem_of_getElem? (i := 43) rfl) rfl
set_option maxRecDepth 8000 in
theorem w_1104 : Cond.instanceMethod yX8_best ∈ TT := tt_5 (List.mem_of_getElem? (i := 44) rfl) rfl
set_option maxRecDepth 8000 in
theorem w_1105 : Cond.selects RX8 yX8_best yX8_best ∈ TT := tt_5 (List.mem_of_getElem? (i := 45) rfl) rfl
set_option maxRecDepth 8000 in
theorem w_1106 : Cond.code yX8_best cX8_best 6 (some .int) ∈ TT := tt_5 (List.mem_of_getElem? (i := 46) rfl) rfl
set_option maxRecDepth 8000 in
theorem w_1122 : Cond.methodLink "ShadowTollsLaw" 50 yX8_week ∈ TT := tt_5 (List.mem_of_getElem? (i := 62) rfl) rfl
set_option maxRecDepth 8000 in
theorem w_1123 : Cond.instanceMethod yX8_week ∈ TT := tt_5 (List.mem_of_getElem? (i := 63) rfl) rfl
set_option maxRecDepth 8000 in
theorem w_1124 : Cond.selects RX8 yX8_week yX8_week ∈ TT := tt_5 (List.mem_of_getElem? (i := 64) rfl) rfl
set_option maxRecDepth 8000 in
theorem w_1125 : Cond.code yX8_week cX8_week 8 (some .int) ∈ TT := tt_5 (List.mem_of_getElem? (i := 65) rfl) rfl
set_option maxRecDepth 8000 in
theorem w_1129 : Cond.methodLink "ShadowTollsLaw" 53 yX8_plan ∈ TT := tt_5 (List.mem_of_getElem? (i := 69) rfl) rfl
set_option maxRecDepth 8000 in
theorem w_1130 : Cond.instanceMethod yX8_plan ∈ TT := tt_5 (List.mem_of_getElem? (i := 70) rfl) rfl
set_option maxRecDepth 8000 in
theorem w_1131 : Cond.selects RX8 yX8_plan yX8_plan ∈ TT := tt_5 (List.mem_of_getElem? (i := 71) rfl) rfl
set_option maxRecDepth 8000 in
theorem w_1132 : Cond.code yX8_plan cX8_plan 5 (some .int) ∈ TT := tt_5 (List.mem_of_getElem? (i := 72) rfl) rfl
set_option maxRecDepth 8000 in
theorem w_1179 : Cond.methodLink "ShadowTollsLaw" 57 yX8_slot ∈ TT := tt_5 (List.mem_of_getElem? (i := 119) rfl) rfl
set_option maxRecDepth 8000 in
theorem w_1180 : Cond.instanceMethod yX8_slot ∈ TT := tt_5 (List.mem_of_getElem? (i := 120) rfl) rfl
set_option maxRecDepth 8000 in
theorem w_1181 : Cond.selects RX8 yX8_slot yX8_slot ∈ TT := tt_5 (List.mem_of_getElem? (i := 121) rfl) rfl
set_option maxRecDepth 8000 in
theorem w_1182 : Cond.code yX8_slot cX8_slot 5 (some .int) ∈ TT := tt_5 (List.mem_of_getElem? (i := 122) rfl) rfl
set_option maxRecDepth 8000 in
theorem w_1190 : Cond.methodLink "ShadowTollsLaw" 60 yX8_most ∈ TT := tt_5 (List.mem_of_getElem? (i := 130) rfl) rfl
set_option maxRecDepth 8000 in
theorem w_1191 : Cond.instanceMethod yX8_most ∈ TT := tt_5 (List.mem_of_getElem? (i := 131) rfl) rfl
set_option maxRecDepth 8000 in
theorem w_1192 : Cond.selects RX8 yX8_most yX8_most ∈ TT := tt_5 (List.mem_of_getElem? (i := 132) rfl) rfl
set_option maxRecDepth 8000 in
theorem w_1193 : Cond.code yX8_most cX8_most 2 (some .int) ∈ TT := tt_5 (List.mem_of_getElem? (i := 133) rfl) rfl
set_option maxRecDepth 8000 in
theorem w_1197 : Cond.methodLink "ShadowTollsLaw" 63 yX8_cross ∈ TT := tt_5 (List.mem_of_getElem? (i := 137) rfl) rfl
set_option maxRecDepth 8000 in
theorem w_1198 : Cond.instanceMethod yX8_cross ∈ TT := tt_5 (List.mem_of_getElem? (i := 138) rfl) rfl
set_option maxRecDepth 8000 in
theorem w_1199 : Cond.selects RX8 yX8_cross yX8_cross ∈ TT := tt_5 (List.mem_of_getElem? (i := 139) rfl) rfl
set_option maxRecDepth 8000 in
theorem w_1200 : Cond.code yX8_cross cX8_cross 6 (some .int) ∈ TT := tt_5 (List.mem_of_getElem? (i := 140) rfl) rfl
set_option maxRecDepth 8000 in
theorem w_1214 : Cond.methodLink "ShadowTollsLaw" 66 yX8_taken ∈ TT := tt_5 (List.mem_of_getElem? (i := 154) rfl) rfl
set_option maxRecDepth 8000 in
theorem w_1215 : Cond.instanceMethod yX8_taken ∈ TT := tt_5 (List.mem_of_getElem? (i := 155) rfl) rfl
set_option maxRecDepth 8000 in
theorem w_1216 : Cond.selects RX8 yX8_taken yX8_taken ∈ TT := tt_5 (List.mem_of_getElem? (i := 156) rfl) rfl
set_option maxRecDepth 8000 in
theorem w_1217 : Cond.code yX8_taken cX8_taken 2 (some .int) ∈ TT := tt_5 (List.mem_of_getElem? (i := 157) rfl) rfl
set_option maxRecDepth 8000 in
theorem w_1225 : Cond.methodLink "ShadowTollsLaw" 69 yX8_write ∈ TT := tt_5 (List.mem_of_getElem? (i := 165) rfl) rfl
set_option maxRecDepth 8000 in
theorem w_1226 : Cond.instanceMethod yX8_write ∈ TT := tt_5 (List.mem_of_getElem? (i := 166) rfl) rfl
set_option maxRecDepth 8000 in
theorem w_1227 : Cond.selects RX8 yX8_write yX8_write ∈ TT := tt_5 (List.mem_of_getElem? (i := 167) rfl) rfl
set_option maxRecDepth 8000 in
theorem w_1228 : Cond.code yX8_write cX8_write 4 (some .int) ∈ TT := tt_5 (List.mem_of_getElem? (i := 168) rfl) rfl
set_option maxRecDepth 8000 in
theorem w_1233 : Cond.methodLink "ShadowTollsLaw" 72 yX8_stolen ∈ TT := tt_5 (List.mem_of_getElem? (i := 173) rfl) rfl
set_option maxRecDepth 8000 in
theorem w_1234 : Cond.instanceMethod yX8_stolen ∈ TT := tt_5 (List.mem_of_getElem? (i := 174) rfl) rfl
set_option maxRecDepth 8000 in
theorem w_1235 : Cond.selects RX8 yX8_stolen yX8_stolen ∈ TT := tt_5 (List.mem_of_getElem? (i := 175) rfl) rfl
set_option maxRecDepth 8000 in
theorem w_1236 : Cond.code yX8_stolen cX8_stolen 3 (some .int) ∈ TT := tt_5 (List.mem_of_getElem? (i := 176) rfl) rfl
set_option maxRecDepth 8000 in
theorem w_1240 : Cond.methodLink "ShadowTollsLaw" 75 yX8_lines ∈ TT := tt_5 (List.mem_of_getElem? (i := 180) rfl) rfl
set_option maxRecDepth 8000 in
theorem w_1241 : Cond.instanceMethod yX8_lines ∈ TT := tt_5 (List.mem_of_getElem? (i := 181) rfl) rfl
set_option maxRecDepth 8000 in
theorem w_1242 : Cond.selects RX8 yX8_lines yX8_lines ∈ TT := tt_5 (List.mem_of_getElem? (i := 182) rfl) rfl
set_option maxRecDepth 8000 in
theorem w_1243 : Cond.code yX8_lines cX8_lines 9 (some .int) ∈ TT := tt_5 (List.mem_of_getElem? (i := 183) rfl) rfl
set_option maxRecDepth 8000 in
theorem w_1257 : Cond.classLink "ShadowTollsLaw" 81 "java/lang/IllegalStateException" ∈ TT := tt_5 (List.mem_of_getElem? (i := 197) rfl) rfl
set_option maxRecDepth 8000 in
theorem w_1258 : Cond.methodLink "ShadowTollsLaw" 78 yX8_war ∈ TT := tt_5 (List.mem_of_getElem? (i := 198) rfl) rfl
set_option maxRecDepth 8000 in
theorem w_1259 : Cond.instanceMethod yX8_war ∈ TT := tt_5 (List.mem_of_getElem? (i := 199) rfl) rfl
set_option maxRecDepth 8000 in
theorem w_1260 : Cond.selects RX8 yX8_war yX8_war ∈ TT := tt_5 (List.mem_of_getElem? (i := 200) rfl) rfl
set_option maxRecDepth 8000 in
theorem w_1261 : Cond.code yX8_war cX8_war 7 (some .int) ∈ TT := tt_5 (List.mem_of_getElem? (i := 201) rfl) rfl
set_option maxRecDepth 8000 in
theorem w_1264 : Cond.castable "java/lang/IllegalStateException" "java/lang/IllegalStateException" ∈ TT := tt_5 (List.mem_of_getElem? (i := 204) rfl) rfl
set_option maxRecDepth 8000 in
theorem w_1292 : Cond.methodLink "ShadowTollsLaw" 83 yX8_ledger ∈ TT := tt_5 (List.mem_of_getElem? (i := 232) rfl) rfl
set_option maxRecDepth 8000 in
theorem w_1293 : Cond.instanceMethod yX8_ledger ∈ TT := tt_5 (List.mem_of_getElem? (i := 233) rfl) rfl
set_option maxRecDepth 8000 in
theorem w_1294 : Cond.selects RX8 yX8_ledger yX8_ledger ∈ TT := tt_5 (List.mem_of_getElem? (i := 234) rfl) rfl
set_option maxRecDepth 8000 in
theorem w_1295 : Cond.code yX8_ledger cX8_ledger 3 (some .int) ∈ TT := tt_5 (List.mem_of_getElem? (i := 235) rfl) rfl
set_option maxRecDepth 8000 in
theorem w_1303 : Cond.methodLink "ShadowTollsLaw" 86 yX8_fits ∈ TT := tt_6 (List.mem_of_getElem? (i := 3) rfl) rfl
set_option maxRecDepth 8000 in
theorem w_1304 : Cond.instanceMethod yX8_fits ∈ TT := tt_6 (List.mem_of_getElem? (i := 4) rfl) rfl
set_option maxRecDepth 8000 in
theorem w_1305 : Cond.selects RX8 yX8_fits yX8_fits ∈ TT := tt_6 (List.mem_of_getElem? (i := 5) rfl) rfl
set_option maxRecDepth 8000 in
theorem w_1306 : Cond.code yX8_fits cX8_fits 8 (some .int) ∈ TT := tt_6 (List.mem_of_getElem? (i := 6) rfl) rfl
set_option maxRecDepth 8000 in
theorem w_1315 : Cond.methodLink "ShadowTollsLaw" 89 yX8_season ∈ TT := tt_6 (List.mem_of_getElem? (i := 15) rfl) rfl
set_option maxRecDepth 8000 in
theorem w_1316 : Cond.instanceMethod yX8_season ∈ TT := tt_6 (List.mem_of_getElem? (i := 16) rfl) rfl
set_option maxRecDepth 8000 in
theorem w_1317 : Cond.selects RX8 yX8_season yX8_season ∈ TT := tt_6 (List.mem_of_getElem? (i := 17) rfl) rfl
set_option maxRecDepth 8000 in
theorem w_1318 : Cond.code yX8_season cX8_season 4 (some .int) ∈ TT := tt_6 (List.mem_of_getElem? (i := 18) rfl) rfl
set_option maxRecDepth 8000 in
theorem w_1338 : Cond.methodLink "ShadowTollsLaw" 92 yX8_span ∈ TT := tt_6 (List.mem_of_getElem? (i := 38) rfl) rfl
set_option maxRecDepth 8000 in
theorem w_1339 : Cond.instanceMethod yX8_span ∈ TT := tt_6 (List.mem_of_getElem? (i := 39) rfl) rfl
set_option maxRecDepth 8000 in
theorem w_1340 : Cond.selects RX8 yX8_span yX8_span ∈ TT := tt_6 (List.mem_of_getElem? (i := 40) rfl) rfl
set_option maxRecDepth 8000 in
theorem w_1341 : Cond.code yX8_span cX8_span 9 (some .int) ∈ TT := tt_6 (List.mem_of_getElem? (i := 41) rfl) rfl
theorem kd_1457 : kd 1457 = (4, 1, 0, 0, 0) := by decide +kernel
/-! the law's wrapper of bridge -/
abbrev M_L_bridge : Mi := (R_law, cL_bridge, 4, some .int)
def rows_L_bridge : List (Nat × Instr × Nat) := [(0, .aload_n 2, 1), (1, .iconst 0, 1), (2, .aload_n 0, 1), (3, .iload_n 1, 1), (4, .invokevirtual 7, 3), (7, .i2l, 1), (8, .lastore, 1), (9, .goto 6, 3), (12, .astore_n 3, 1), (13, .iconst 1, 1), (14, .ireturn, 1), (15, .iconst 0, 1), (16, .ireturn, 1)]
theorem D_L_bridge : dkA cL_bridge rows_L_bridge := by
  unfold dkA
  decide +kernel
theorem okD_L_bridge : okD yL_bridge 3 := by
  unfold okD
  decide +kernel
def tb_L_bridge : Tb := [(0, 9, 12, 13)]
def w_L_bridge (p1 : Int32) (h : Hp) (Q : Int32 → Hp → Prop) : Prop :=
  w_X8_bridge p1 h (fun r h1 => wlet (hup h1 1457 0 r) (fun h2 => Q 0 h2)) (fun C h1 => (C = "java/lang/IllegalArgumentException" ∧ Q 1 h1))
theorem c_L_bridge {X : Cx} (p1 : Int32) (h : Hp) (Q : Int32 → Hp → Prop) (hw : w_L_bridge p1 h Q) : ConH X yL_bridge M_L_bridge tb_L_bridge 11 341 1 [.ref 0, .int p1, .ref 1457] h (QI Q) := by
  refine conH_of (by decide +kernel) rfl (Nat.le_of_ble_eq_true rfl) ?_
  unfold w_L_bridge at hw
  refine gh_aload_n 2 (dk D_L_bridge 0 rfl) rfl rfl ?_
  refine gh_iconst (v := 0) (dk D_L_bridge 1 rfl) (by decide +kernel) ?_
  refine gh_aload_n 0 (dk D_L_bridge 2 rfl) rfl rfl ?_
  refine gh_iload_n 1 (dk D_L_bridge 3 rfl) rfl rfl ?_
  refine gh_callV (As := [.int p1]) (st := [.int 0, .ref 1457]) (kc := 0) (fr := 10) (lo := 320) (mc := 1) (My := M_X8_bridge) (dk D_L_bridge 4 rfl) kd_0 rfl rfl w_699 w_700 w_701 w_101 w_702 okD_X8_bridge (by decide) (Nat.le_of_ble_eq_true rfl) rfl (c_X8_bridge (p1) h _ _ hw) (fun C h1 hx => ?_) (fun r h1 hq => ?_)
  · obtain ⟨rfl, hw⟩ := hx
    exact gxh_catch (i := 3) (v := 1) [] 0 9 12 13 [] rfl ⟨by decide, by decide⟩ (by decide) (fun _ h => nomatch h) (by decide) w_698 w_708 (by decide) (Or.inr ⟨3, rfl, dk D_L_bridge 8 rfl, rfl⟩) (dk D_L_bridge 9 rfl) (by decide +kernel) (dk D_L_bridge 10 rfl) rfl ⟨_, rfl, hw⟩
  · obtain ⟨v, rfl, hw⟩ := hq
    refine gh_i2l (x := v) (dk D_L_bridge 5 rfl) ?_
    refine gh_last (i := 0) (x := v) (dk D_L_bridge 6 rfl) kd_1457 (by unfold vp_in; decide) ?_
    refine gh_goto (dk D_L_bridge 7 rfl) rfl ?_
    refine gh_iconst (v := 0) (dk D_L_bridge 11 rfl) (by decide +kernel) ?_
    exact gh_iret (dk D_L_bridge 12 rfl) rfl ⟨_, rfl, hw _ rfl⟩
/-! the law's wrapper of toll -/
abbrev M_L_toll : Mi := (R_law, cL_toll, 4, some .int)
def rows_L_toll : List (Nat × Instr × Nat) := [(0, .aload_n 2, 1), (1, .iconst 0, 1), (2, .aload_n 0, 1), (3, .iload_n 1, 1), (4, .invokevirtual 15, 3), (7, .i2l, 1), (8, .lastore, 1), (9, .goto 6, 3), (12, .astore_n 3, 1), (13, .iconst 1, 1), (14, .ireturn, 1), (15, .iconst 0, 1), (16, .ireturn, 1)]
theorem D_L_toll : dkA cL_toll rows_L_toll := by
  unfold dkA
  decide +kernel
theorem okD_L_toll : okD yL_toll 3 := by
  unfold okD
  decide +kernel
def tb_L_toll : Tb := [(0, 9, 12, 13)]
def w_L_toll (p1 : Int32) (h : Hp) (Q : Int32 → Hp → Prop) : Prop :=
  w_X8_toll p1 h (fun r h1 => wlet (hup h1 1457 0 r) (fun h2 => Q 0 h2)) (fun C h1 => (C = "java/lang/IllegalArgumentException" ∧ Q 1 h1))
theorem c_L_toll {X : Cx} (p1 : Int32) (h : Hp) (Q : Int32 → Hp → Prop) (hw : w_L_toll p1 h Q) : ConH X yL_toll M_L_toll tb_L_toll 73 3985 1 [.ref 0, .int p1, .ref 1457] h (QI Q) := by
  refine conH_of (by decide +kernel) rfl (Nat.le_of_ble_eq_true rfl) ?_
  unfold w_L_toll at hw
  refine gh_aload_n 2 (dk D_L_toll 0 rfl) rfl rfl ?_
  refine gh_iconst (v := 0) (dk D_L_toll 1 rfl) (by decide +kernel) ?_
  refine gh_aload_n 0 (dk D_L_toll 2 rfl) rfl rfl ?_
  refine gh_iload_n 1 (dk D_L_toll 3 rfl) rfl rfl ?_
  refine gh_callV (As := [.int p1]) (st := [.int 0, .ref 1457]) (kc := 0) (fr := 72) (lo := 3963) (mc := 1) (My := M_X8_toll) (dk D_L_toll 4 rfl) kd_0 rfl rfl w_940 w_941 w_942 w_101 w_943 okD_X8_toll (by decide) (Nat.le_of_ble_eq_true rfl) rfl (c_X8_toll (p1) h _ _ hw) (fun C h1 hx => ?_) (fun r h1 hq => ?_)
  · obtain ⟨rfl, hw⟩ := hx
    exact gxh_catch (i := 3) (v := 1) [] 0 9 12 13 [] rfl ⟨by decide, by decide⟩ (by decide) (fun _ h => nomatch h) (by decide) w_698 w_708 (by decide) (Or.inr ⟨3, rfl, dk D_L_toll 8 rfl, rfl⟩) (dk D_L_toll 9 rfl) (by decide +kernel) (dk D_L_toll 10 rfl) rfl ⟨_, rfl, hw⟩
  · obtain ⟨v, rfl, hw⟩ := hq
    refine gh_i2l (x := v) (dk D_L_toll 5 rfl) ?_
    refine gh_last (i := 0) (x := v) (dk D_L_toll 6 rfl) kd_1457 (by unfold vp_in; decide) ?_
    refine gh_goto (dk D_L_toll 7 rfl) rfl ?_
    refine gh_iconst (v := 0) (dk D_L_toll 11 rfl) (by decide +kernel) ?_
    exact gh_iret (dk D_L_toll 12 rfl) rfl ⟨_, rfl, hw _ rfl⟩
/-! the law's wrapper of told -/
abbrev M_L_told : Mi := (R_law, cL_told, 4, some .int)
def rows_L_told : List (Nat × Instr × Nat) := [(0, .aload_n 2, 1), (1, .iconst 0, 1), (2, .aload_n 0, 1), (3, .iload_n 1, 1), (4, .invokevirtual 18, 3), (7, .i2l, 1), (8, .lastore, 1), (9, .goto 6, 3), (12, .astore_n 3, 1), (13, .iconst 1, 1), (14, .ireturn, 1), (15, .iconst 0, 1), (16, .ireturn, 1)]
theorem D_L_told : dkA cL_told rows_L_told := by
  unfold dkA
  decide +kernel
theorem okD_L_told : okD yL_told 3 := by
  unfold okD
  decide +kernel
def tb_L_told : Tb := [(0, 9, 12, 13)]
def w_L_told (p1 : Int32) (h : Hp) (Q : Int32 → Hp → Prop) : Prop :=
  w_X8_told p1 h (fun r => wlet (hup h 1457 0 r) (fun h1 => Q 0 h1)) (fun C h1 => (C = "java/lang/IllegalArgumentException" ∧ Q 1 h1))
theorem c_L_told {X : Cx} (p1 : Int32) (h : Hp) (Q : Int32 → Hp → Prop) (hw : w_L_told p1 h Q) : ConH X yL_told M_L_told tb_L_told 7 103 1 [.ref 0, .int p1, .ref 1457] h (QI Q) := by
  refine conH_of (by decide +kernel) rfl (Nat.le_of_ble_eq_true rfl) ?_
  unfold w_L_told at hw
  refine gh_aload_n 2 (dk D_L_told 0 rfl) rfl rfl ?_
  refine gh_iconst (v := 0) (dk D_L_told 1 rfl) (by decide +kernel) ?_
  refine gh_aload_n 0 (dk D_L_told 2 rfl) rfl rfl ?_
  refine gh_iload_n 1 (dk D_L_told 3 rfl) rfl rfl ?_
  refine gh_callV (As := [.int p1]) (st := [.int 0, .ref 1457]) (kc := 0) (fr := 6) (lo := 82) (mc := 1) (My := M_X8_told) (dk D_L_told 4 rfl) kd_0 rfl rfl w_998 w_999 w_1000 w_101 w_1001 okD_X8_told (by decide) (Nat.le_of_ble_eq_true rfl) rfl (c_X8_told (p1) h _ _ hw) (fun C h1 hx => ?_) (fun r h1 hq => ?_)
  · obtain ⟨rfl, hw⟩ := hx
    exact gxh_catch (i := 3) (v := 1) [] 0 9 12 13 [] rfl ⟨by decide, by decide⟩ (by decide) (fun _ h => nomatch h) (by decide) w_698 w_708 (by decide) (Or.inr ⟨3, rfl, dk D_L_told 8 rfl, rfl⟩) (dk D_L_told 9 rfl) (by decide +kernel) (dk D_L_told 10 rfl) rfl ⟨_, rfl, hw⟩
  · obtain ⟨v, rfl, rfl, hw⟩ := hq
    refine gh_i2l (x := v) (dk D_L_told 5 rfl) ?_
    refine gh_last (i := 0) (x := v) (dk D_L_told 6 rfl) kd_1457 (by unfold vp_in; decide) ?_
    refine gh_goto (dk D_L_told 7 rfl) rfl ?_
    refine gh_iconst (v := 0) (dk D_L_told 11 rfl) (by decide +kernel) ?_
    exact gh_iret (dk D_L_told 12 rfl) rfl ⟨_, rfl, hw _ rfl⟩
/-! the law's wrapper of traveller -/
abbrev M_L_traveller : Mi := (R_law, cL_traveller, 5, some .int)
def rows_L_traveller : List (Nat × Instr × Nat) := [(0, .aload_n 3, 1), (1, .iconst 0, 1), (2, .aload_n 0, 1), (3, .iload_n 1, 1), (4, .iload_n 2, 1), (5, .invokevirtual 21, 3), (8, .i2l, 1), (9, .lastore, 1), (10, .goto 11, 3), (13, .astore 4, 2), (15, .iconst 1, 1), (16, .ireturn, 1), (17, .astore 4, 2), (19, .iconst 2, 1), (20, .ireturn, 1), (21, .iconst 0, 1), (22, .ireturn, 1)]
theorem D_L_traveller : dkA cL_traveller rows_L_traveller := by
  unfold dkA
  decide +kernel
theorem okD_L_traveller : okD yL_traveller 4 := by
  unfold okD
  decide +kernel
def tb_L_traveller : Tb := [(0, 10, 13, 25), (0, 10, 17, 13)]
def w_L_traveller (p1 : Int32) (p2 : Int32) (h : Hp) (Q : Int32 → Hp → Prop) : Prop :=
  w_X8_traveller p1 p2 h (fun r => wlet (hup h 1457 0 r) (fun h1 => Q 0 h1)) (fun C h1 => (C = "java/util/NoSuchElementException" ∧ Q 1 h1) ∨ (C = "java/lang/IllegalArgumentException" ∧ Q 2 h1))
theorem c_L_traveller {X : Cx} (p1 : Int32) (p2 : Int32) (h : Hp) (Q : Int32 → Hp → Prop) (hw : w_L_traveller p1 p2 h Q) : ConH X yL_traveller M_L_traveller tb_L_traveller 8 134 2 [.ref 0, .int p1, .int p2, .ref 1457] h (QI Q) := by
  refine conH_of (by decide +kernel) rfl (Nat.le_of_ble_eq_true rfl) ?_
  unfold w_L_traveller at hw
  refine gh_aload_n 3 (dk D_L_traveller 0 rfl) rfl rfl ?_
  refine gh_iconst (v := 0) (dk D_L_traveller 1 rfl) (by decide +kernel) ?_
  refine gh_aload_n 0 (dk D_L_traveller 2 rfl) rfl rfl ?_
  refine gh_iload_n 1 (dk D_L_traveller 3 rfl) rfl rfl ?_
  refine gh_iload_n 2 (dk D_L_traveller 4 rfl) rfl rfl ?_
  refine gh_callV (As := [.int p1, .int p2]) (st := [.int 0, .ref 1457]) (kc := 0) (fr := 7) (lo := 112) (mc := 2) (My := M_X8_traveller) (dk D_L_traveller 5 rfl) kd_0 rfl rfl w_1007 w_1008 w_1009 w_101 w_1010 okD_X8_traveller (by decide) (Nat.le_of_ble_eq_true rfl) rfl (c_X8_traveller (p1) (p2) h _ _ hw) (fun C h1 hx => ?_) (fun r h1 hq => ?_)
  · rcases hx with ⟨rfl, hw⟩ | ⟨rfl, hw⟩
    · exact gxh_catch (i := 4) (v := 1) [] 0 10 13 25 [(0, 10, 17, 13)] rfl ⟨by decide, by decide⟩ (by decide) (fun _ h => nomatch h) (by decide) w_1006 w_1017 (by decide) (Or.inl ⟨dk D_L_traveller 9 rfl, rfl⟩) (dk D_L_traveller 10 rfl) (by decide +kernel) (dk D_L_traveller 11 rfl) rfl ⟨_, rfl, hw⟩
    · exact gxh_catch (i := 4) (v := 2) [(0, 10, 13, 25)] 0 10 17 13 [] rfl ⟨by decide, by decide⟩ (by decide) (List.forall_mem_cons.mpr ⟨⟨by decide, "java/util/NoSuchElementException", by decide, by decide, w_1006⟩, (fun _ h => nomatch h)⟩) (by decide) w_698 w_708 (by decide) (Or.inl ⟨dk D_L_traveller 12 rfl, rfl⟩) (dk D_L_traveller 13 rfl) (by decide +kernel) (dk D_L_traveller 14 rfl) rfl ⟨_, rfl, hw⟩
  · obtain ⟨v, rfl, rfl, hw⟩ := hq
    refine gh_i2l (x := v) (dk D_L_traveller 6 rfl) ?_
    refine gh_last (i := 0) (x := v) (dk D_L_traveller 7 rfl) kd_1457 (by unfold vp_in; decide) ?_
    refine gh_goto (dk D_L_traveller 8 rfl) rfl ?_
    refine gh_iconst (v := 0) (dk D_L_traveller 15 rfl) (by decide +kernel) ?_
    exact gh_iret (dk D_L_traveller 16 rfl) rfl ⟨_, rfl, hw _ rfl⟩
/-! the law's wrapper of day -/
abbrev M_L_day : Mi := (R_law, cL_day, 5, some .int)
def rows_L_day : List (Nat × Instr × Nat) := [(0, .aload_n 3, 1), (1, .iconst 0, 1), (2, .aload_n 0, 1), (3, .iload_n 1, 1), (4, .iload_n 2, 1), (5, .invokevirtual 27, 3), (8, .i2l, 1), (9, .lastore, 1), (10, .goto 7, 3), (13, .astore 4, 2), (15, .iconst 1, 1), (16, .ireturn, 1), (17, .iconst 0, 1), (18, .ireturn, 1)]
theorem D_L_day : dkA cL_day rows_L_day := by
  unfold dkA
  decide +kernel
theorem okD_L_day : okD yL_day 4 := by
  unfold okD
  decide +kernel
def tb_L_day : Tb := [(0, 10, 13, 13)]
def w_L_day (p1 : Int32) (p2 : Int32) (h : Hp) (Q : Int32 → Hp → Prop) : Prop :=
  w_X8_day p1 p2 h (fun r => wlet (hup h 1457 0 r) (fun h1 => Q 0 h1)) (fun C h1 => (C = "java/lang/IllegalArgumentException" ∧ Q 1 h1))
theorem c_L_day {X : Cx} (p1 : Int32) (p2 : Int32) (h : Hp) (Q : Int32 → Hp → Prop) (hw : w_L_day p1 p2 h Q) : ConH X yL_day M_L_day tb_L_day 8 134 2 [.ref 0, .int p1, .int p2, .ref 1457] h (QI Q) := by
  refine conH_of (by decide +kernel) rfl (Nat.le_of_ble_eq_true rfl) ?_
  unfold w_L_day at hw
  refine gh_aload_n 3 (dk D_L_day 0 rfl) rfl rfl ?_
  refine gh_iconst (v := 0) (dk D_L_day 1 rfl) (by decide +kernel) ?_
  refine gh_aload_n 0 (dk D_L_day 2 rfl) rfl rfl ?_
  refine gh_iload_n 1 (dk D_L_day 3 rfl) rfl rfl ?_
  refine gh_iload_n 2 (dk D_L_day 4 rfl) rfl rfl ?_
  refine gh_callV (As := [.int p1, .int p2]) (st := [.int 0, .ref 1457]) (kc := 0) (fr := 7) (lo := 112) (mc := 2) (My := M_X8_day) (dk D_L_day 5 rfl) kd_0 rfl rfl w_1035 w_1036 w_1037 w_101 w_1038 okD_X8_day (by decide) (Nat.le_of_ble_eq_true rfl) rfl (c_X8_day (p1) (p2) h _ _ hw) (fun C h1 hx => ?_) (fun r h1 hq => ?_)
  · obtain ⟨rfl, hw⟩ := hx
    exact gxh_catch (i := 4) (v := 1) [] 0 10 13 13 [] rfl ⟨by decide, by decide⟩ (by decide) (fun _ h => nomatch h) (by decide) w_698 w_708 (by decide) (Or.inl ⟨dk D_L_day 9 rfl, rfl⟩) (dk D_L_day 10 rfl) (by decide +kernel) (dk D_L_day 11 rfl) rfl ⟨_, rfl, hw⟩
  · obtain ⟨v, rfl, rfl, hw⟩ := hq
    refine gh_i2l (x := v) (dk D_L_day 6 rfl) ?_
    refine gh_last (i := 0) (x := v) (dk D_L_day 7 rfl) kd_1457 (by unfold vp_in; decide) ?_
    refine gh_goto (dk D_L_day 8 rfl) rfl ?_
    refine gh_iconst (v := 0) (dk D_L_day 12 rfl) (by decide +kernel) ?_
    exact gh_iret (dk D_L_day 13 rfl) rfl ⟨_, rfl, hw _ rfl⟩
/-! the law's wrapper of altitude -/
abbrev M_L_altitude : Mi := (R_law, cL_altitude, 6, some .int)
def rows_L_altitude : List (Nat × Instr × Nat) := [(0, .aload 4, 2), (2, .iconst 0, 1), (3, .aload_n 0, 1), (4, .iload_n 1, 1), (5, .iload_n 2, 1), (6, .iload_n 3, 1), (7, .invokevirtual 30, 3), (10, .i2l, 1), (11, .lastore, 1), (12, .goto 11, 3), (15, .astore 5, 2), (17, .iconst 1, 1), (18, .ireturn, 1), (19, .astore 5, 2), (21, .iconst 2, 1), (22, .ireturn, 1), (23, .iconst 0, 1), (24, .ireturn, 1)]
theorem D_L_altitude : dkA cL_altitude rows_L_altitude := by
  unfold dkA
  decide +kernel
theorem okD_L_altitude : okD yL_altitude 5 := by
  unfold okD
  decide +kernel
def tb_L_altitude : Tb := [(0, 12, 15, 34), (0, 12, 19, 13)]
def w_L_altitude (p1 : Int32) (p2 : Int32) (p3 : Int32) (h : Hp) (Q : Int32 → Hp → Prop) : Prop :=
  w_X8_altitude p1 p2 p3 h (fun r => wlet (hup h 1457 0 r) (fun h1 => Q 0 h1)) (fun C h1 => (C = "java/lang/IndexOutOfBoundsException" ∧ Q 1 h1) ∨ (C = "java/lang/IllegalArgumentException" ∧ Q 2 h1))
theorem c_L_altitude {X : Cx} (p1 : Int32) (p2 : Int32) (p3 : Int32) (h : Hp) (Q : Int32 → Hp → Prop) (hw : w_L_altitude p1 p2 p3 h Q) : ConH X yL_altitude M_L_altitude tb_L_altitude 8 134 3 [.ref 0, .int p1, .int p2, .int p3, .ref 1457] h (QI Q) := by
  refine conH_of (by decide +kernel) rfl (Nat.le_of_ble_eq_true rfl) ?_
  unfold w_L_altitude at hw
  refine gh_aload 4 (dk D_L_altitude 0 rfl) rfl ?_
  refine gh_iconst (v := 0) (dk D_L_altitude 1 rfl) (by decide +kernel) ?_
  refine gh_aload_n 0 (dk D_L_altitude 2 rfl) rfl rfl ?_
  refine gh_iload_n 1 (dk D_L_altitude 3 rfl) rfl rfl ?_
  refine gh_iload_n 2 (dk D_L_altitude 4 rfl) rfl rfl ?_
  refine gh_iload_n 3 (dk D_L_altitude 5 rfl) rfl rfl ?_
  refine gh_callV (As := [.int p1, .int p2, .int p3]) (st := [.int 0, .ref 1457]) (kc := 0) (fr := 7) (lo := 111) (mc := 3) (My := M_X8_altitude) (dk D_L_altitude 6 rfl) kd_0 rfl rfl w_1047 w_1048 w_1049 w_101 w_1050 okD_X8_altitude (by decide) (Nat.le_of_ble_eq_true rfl) rfl (c_X8_altitude (p1) (p2) (p3) h _ _ hw) (fun C h1 hx => ?_) (fun r h1 hq => ?_)
  · rcases hx with ⟨rfl, hw⟩ | ⟨rfl, hw⟩
    · exact gxh_catch (i := 5) (v := 1) [] 0 12 15 34 [(0, 12, 19, 13)] rfl ⟨by decide, by decide⟩ (by decide) (fun _ h => nomatch h) (by decide) w_1046 w_1057 (by decide) (Or.inl ⟨dk D_L_altitude 10 rfl, rfl⟩) (dk D_L_altitude 11 rfl) (by decide +kernel) (dk D_L_altitude 12 rfl) rfl ⟨_, rfl, hw⟩
    · exact gxh_catch (i := 5) (v := 2) [(0, 12, 15, 34)] 0 12 19 13 [] rfl ⟨by decide, by decide⟩ (by decide) (List.forall_mem_cons.mpr ⟨⟨by decide, "java/lang/IndexOutOfBoundsException", by decide, by decide, w_1046⟩, (fun _ h => nomatch h)⟩) (by decide) w_698 w_708 (by decide) (Or.inl ⟨dk D_L_altitude 13 rfl, rfl⟩) (dk D_L_altitude 14 rfl) (by decide +kernel) (dk D_L_altitude 15 rfl) rfl ⟨_, rfl, hw⟩
  · obtain ⟨v, rfl, rfl, hw⟩ := hq
    refine gh_i2l (x := v) (dk D_L_altitude 7 rfl) ?_
    refine gh_last (i := 0) (x := v) (dk D_L_altitude 8 rfl) kd_1457 (by unfold vp_in; decide) ?_
    refine gh_goto (dk D_L_altitude 9 rfl) rfl ?_
    refine gh_iconst (v := 0) (dk D_L_altitude 16 rfl) (by decide +kernel) ?_
    exact gh_iret (dk D_L_altitude 17 rfl) rfl ⟨_, rfl, hw _ rfl⟩
/-! the law's wrapper of shadow -/
abbrev M_L_shadow : Mi := (R_law, cL_shadow, 7, some .int)
def rows_L_shadow : List (Nat × Instr × Nat) := [(0, .aload 5, 2), (2, .iconst 0, 1), (3, .aload_n 0, 1), (4, .iload_n 1, 1), (5, .iload_n 2, 1), (6, .iload_n 3, 1), (7, .iload 4, 2), (9, .invokevirtual 36, 3), (12, .i2l, 1), (13, .lastore, 1), (14, .goto 11, 3), (17, .astore 6, 2), (19, .iconst 1, 1), (20, .ireturn, 1), (21, .astore 6, 2), (23, .iconst 2, 1), (24, .ireturn, 1), (25, .iconst 0, 1), (26, .ireturn, 1)]
theorem D_L_shadow : dkA cL_shadow rows_L_shadow := by
  unfold dkA
  decide +kernel
theorem okD_L_shadow : okD yL_shadow 6 := by
  unfold okD
  decide +kernel
def tb_L_shadow : Tb := [(0, 14, 17, 34), (0, 14, 21, 13)]
def w_L_shadow (p1 : Int32) (p2 : Int32) (p3 : Int32) (p4 : Int32) (h : Hp) (Q : Int32 → Hp → Prop) : Prop :=
  w_X8_shadow p1 p2 p3 p4 h (fun r => wlet (hup h 1457 0 r) (fun h1 => Q 0 h1)) (fun C h1 => (C = "java/lang/IndexOutOfBoundsException" ∧ Q 1 h1) ∨ (C = "java/lang/IllegalArgumentException" ∧ Q 2 h1))
theorem c_L_shadow {X : Cx} (p1 : Int32) (p2 : Int32) (p3 : Int32) (p4 : Int32) (h : Hp) (Q : Int32 → Hp → Prop) (hw : w_L_shadow p1 p2 p3 p4 h Q) : ConH X yL_shadow M_L_shadow tb_L_shadow 8 136 4 [.ref 0, .int p1, .int p2, .int p3, .int p4, .ref 1457] h (QI Q) := by
  refine conH_of (by decide +kernel) rfl (Nat.le_of_ble_eq_true rfl) ?_
  unfold w_L_shadow at hw
  refine gh_aload 5 (dk D_L_shadow 0 rfl) rfl ?_
  refine gh_iconst (v := 0) (dk D_L_shadow 1 rfl) (by decide +kernel) ?_
  refine gh_aload_n 0 (dk D_L_shadow 2 rfl) rfl rfl ?_
  refine gh_iload_n 1 (dk D_L_shadow 3 rfl) rfl rfl ?_
  refine gh_iload_n 2 (dk D_L_shadow 4 rfl) rfl rfl ?_
  refine gh_iload_n 3 (dk D_L_shadow 5 rfl) rfl rfl ?_
  refine gh_iload 4 (dk D_L_shadow 6 rfl) rfl ?_
  refine gh_callV (As := [.int p1, .int p2, .int p3, .int p4]) (st := [.int 0, .ref 1457]) (kc := 0) (fr := 7) (lo := 112) (mc := 4) (My := M_X8_shadow) (dk D_L_shadow 7 rfl) kd_0 rfl rfl w_1079 w_1080 w_1081 w_101 w_1082 okD_X8_shadow (by decide) (Nat.le_of_ble_eq_true rfl) rfl (c_X8_shadow (p1) (p2) (p3) (p4) h _ _ hw) (fun C h1 hx => ?_) (fun r h1 hq => ?_)
  · rcases hx with ⟨rfl, hw⟩ | ⟨rfl, hw⟩
    · exact gxh_catch (i := 6) (v := 1) [] 0 14 17 34 [(0, 14, 21, 13)] rfl ⟨by decide, by decide⟩ (by decide) (fun _ h => nomatch h) (by decide) w_1046 w_1057 (by decide) (Or.inl ⟨dk D_L_shadow 11 rfl, rfl⟩) (dk D_L_shadow 12 rfl) (by decide +kernel) (dk D_L_shadow 13 rfl) rfl ⟨_, rfl, hw⟩
    · exact gxh_catch (i := 6) (v := 2) [(0, 14, 17, 34)] 0 14 21 13 [] rfl ⟨by decide, by decide⟩ (by decide) (List.forall_mem_cons.mpr ⟨⟨by decide, "java/lang/IndexOutOfBoundsException", by decide, by decide, w_1046⟩, (fun _ h => nomatch h)⟩) (by decide) w_698 w_708 (by decide) (Or.inl ⟨dk D_L_shadow 14 rfl, rfl⟩) (dk D_L_shadow 15 rfl) (by decide +kernel) (dk D_L_shadow 16 rfl) rfl ⟨_, rfl, hw⟩
  · obtain ⟨v, rfl, rfl, hw⟩ := hq
    refine gh_i2l (x := v) (dk D_L_shadow 8 rfl) ?_
    refine gh_last (i := 0) (x := v) (dk D_L_shadow 9 rfl) kd_1457 (by unfold vp_in; decide) ?_
    refine gh_goto (dk D_L_shadow 10 rfl) rfl ?_
    refine gh_iconst (v := 0) (dk D_L_shadow 17 rfl) (by decide +kernel) ?_
    exact gh_iret (dk D_L_shadow 18 rfl) rfl ⟨_, rfl, hw _ rfl⟩
/-! the law's wrapper of law -/
abbrev M_L_law : Mi := (R_law, cL_law, 5, some .int)
def rows_L_law : List (Nat × Instr × Nat) := [(0, .aload_n 3, 1), (1, .iconst 0, 1), (2, .aload_n 0, 1), (3, .iload_n 1, 1), (4, .iload_n 2, 1), (5, .invokevirtual 40, 3), (8, .i2l, 1), (9, .lastore, 1), (10, .goto 11, 3), (13, .astore 4, 2), (15, .iconst 1, 1), (16, .ireturn, 1), (17, .astore 4, 2), (19, .iconst 2, 1), (20, .ireturn, 1), (21, .iconst 0, 1), (22, .ireturn, 1)]
theorem D_L_law : dkA cL_law rows_L_law := by
  unfold dkA
  decide +kernel
theorem okD_L_law : okD yL_law 4 := by
  unfold okD
  decide +kernel
def tb_L_law : Tb := [(0, 10, 13, 34), (0, 10, 17, 13)]
def w_L_law (p1 : Int32) (p2 : Int32) (h : Hp) (Q : Int32 → Hp → Prop) : Prop :=
  w_X8_law p1 p2 h (fun r h1 => wlet (hup h1 1457 0 r) (fun h2 => Q 0 h2)) (fun C h1 => (C = "java/lang/IndexOutOfBoundsException" ∧ Q 1 h1) ∨ (C = "java/lang/IllegalArgumentException" ∧ Q 2 h1))
theorem c_L_law {X : Cx} (p1 : Int32) (p2 : Int32) (h : Hp) (Q : Int32 → Hp → Prop) (hw : w_L_law p1 p2 h Q) : ConH X yL_law M_L_law tb_L_law 8 135 2 [.ref 0, .int p1, .int p2, .ref 1457] h (QI Q) := by
  refine conH_of (by decide +kernel) rfl (Nat.le_of_ble_eq_true rfl) ?_
  unfold w_L_law at hw
  refine gh_aload_n 3 (dk D_L_law 0 rfl) rfl rfl ?_
  refine gh_iconst (v := 0) (dk D_L_law 1 rfl) (by decide +kernel) ?_
  refine gh_aload_n 0 (dk D_L_law 2 rfl) rfl rfl ?_
  refine gh_iload_n 1 (dk D_L_law 3 rfl) rfl rfl ?_
  refine gh_iload_n 2 (dk D_L_law 4 rfl) rfl rfl ?_
  refine gh_callV (As := [.int p1, .int p2]) (st := [.int 0, .ref 1457]) (kc := 0) (fr := 7) (lo := 112) (mc := 2) (My := M_X8_law) (dk D_L_law 5 rfl) kd_0 rfl rfl w_1087 w_1088 w_1089 w_101 w_1090 okD_X8_law (by decide) (Nat.le_of_ble_eq_true rfl) rfl (c_X8_law (p1) (p2) h _ _ hw) (fun C h1 hx => ?_) (fun r h1 hq => ?_)
  · rcases hx with ⟨rfl, hw⟩ | ⟨rfl, hw⟩
    · exact gxh_catch (i := 4) (v := 1) [] 0 10 13 34 [(0, 10, 17, 13)] rfl ⟨by decide, by decide⟩ (by decide) (fun _ h => nomatch h) (by decide) w_1046 w_1057 (by decide) (Or.inl ⟨dk D_L_law 9 rfl, rfl⟩) (dk D_L_law 10 rfl) (by decide +kernel) (dk D_L_law 11 rfl) rfl ⟨_, rfl, hw⟩
    · exact gxh_catch (i := 4) (v := 2) [(0, 10, 13, 34)] 0 10 17 13 [] rfl ⟨by decide, by decide⟩ (by decide) (List.forall_mem_cons.mpr ⟨⟨by decide, "java/lang/IndexOutOfBoundsException", by decide, by decide, w_1046⟩, (fun _ h => nomatch h)⟩) (by decide) w_698 w_708 (by decide) (Or.inl ⟨dk D_L_law 12 rfl, rfl⟩) (dk D_L_law 13 rfl) (by decide +kernel) (dk D_L_law 14 rfl) rfl ⟨_, rfl, hw⟩
  · obtain ⟨v, rfl, hw⟩ := hq
    refine gh_i2l (x := v) (dk D_L_law 6 rfl) ?_
    refine gh_last (i := 0) (x := v) (dk D_L_law 7 rfl) kd_1457 (by unfold vp_in; decide) ?_
    refine gh_goto (dk D_L_law 8 rfl) rfl ?_
    refine gh_iconst (v := 0) (dk D_L_law 15 rfl) (by decide +kernel) ?_
    exact gh_iret (dk D_L_law 16 rfl) rfl ⟨_, rfl, hw _ rfl⟩
/-! the law's wrapper of coins -/
abbrev M_L_coins : Mi := (R_law, cL_coins, 8, some .int)
def rows_L_coins : List (Nat × Instr × Nat) := [(0, .aload 6, 2), (2, .iconst 0, 1), (3, .aload_n 0, 1), (4, .iload_n 1, 1), (5, .iload_n 2, 1), (6, .iload_n 3, 1), (7, .iload 4, 2), (9, .iload 5, 2), (11, .invokevirtual 43, 3), (14, .i2l, 1), (15, .lastore, 1), (16, .goto 15, 3), (19, .astore 7, 2), (21, .iconst 1, 1), (22, .ireturn, 1), (23, .astore 7, 2), (25, .iconst 2, 1), (26, .ireturn, 1), (27, .astore 7, 2), (29, .iconst 3, 1), (30, .ireturn, 1), (31, .iconst 0, 1), (32, .ireturn, 1)]
theorem D_L_coins : dkA cL_coins rows_L_coins := by
  unfold dkA
  decide +kernel
theorem okD_L_coins : okD yL_coins 7 := by
  unfold okD
  decide +kernel
def tb_L_coins : Tb := [(0, 16, 19, 34), (0, 16, 23, 25), (0, 16, 27, 13)]
def w_L_coins (p1 : Int32) (p2 : Int32) (p3 : Int32) (p4 : Int32) (p5 : Int32) (h : Hp) (Q : Int32 → Hp → Prop) : Prop :=
  w_X8_coins p1 p2 p3 p4 p5 h (fun r h1 => wlet (hup h1 1457 0 r) (fun h2 => Q 0 h2)) (fun C h1 => (C = "java/lang/IndexOutOfBoundsException" ∧ Q 1 h1) ∨ (C = "java/util/NoSuchElementException" ∧ Q 2 h1) ∨ (C = "java/lang/IllegalArgumentException" ∧ Q 3 h1))
theorem c_L_coins {X : Cx} (p1 : Int32) (p2 : Int32) (p3 : Int32) (p4 : Int32) (p5 : Int32) (h : Hp) (Q : Int32 → Hp → Prop) (hw : w_L_coins p1 p2 p3 p4 p5 h Q) : ConH X yL_coins M_L_coins tb_L_coins 8 159 4 [.ref 0, .int p1, .int p2, .int p3, .int p4, .int p5, .ref 1457] h (QI Q) := by
  refine conH_of (by decide +kernel) rfl (Nat.le_of_ble_eq_true rfl) ?_
  unfold w_L_coins at hw
  refine gh_aload 6 (dk D_L_coins 0 rfl) rfl ?_
  refine gh_iconst (v := 0) (dk D_L_coins 1 rfl) (by decide +kernel) ?_
  refine gh_aload_n 0 (dk D_L_coins 2 rfl) rfl rfl ?_
  refine gh_iload_n 1 (dk D_L_coins 3 rfl) rfl rfl ?_
  refine gh_iload_n 2 (dk D_L_coins 4 rfl) rfl rfl ?_
  refine gh_iload_n 3 (dk D_L_coins 5 rfl) rfl rfl ?_
  refine gh_iload 4 (dk D_L_coins 6 rfl) rfl ?_
  refine gh_iload 5 (dk D_L_coins 7 rfl) rfl ?_
  refine gh_callV (As := [.int p1, .int p2, .int p3, .int p4, .int p5]) (st := [.int 0, .ref 1457]) (kc := 0) (fr := 7) (lo := 134) (mc := 4) (My := M_X8_coins) (dk D_L_coins 8 rfl) kd_0 rfl rfl w_1095 w_1096 w_1097 w_101 w_1098 okD_X8_coins (by decide) (Nat.le_of_ble_eq_true rfl) rfl (c_X8_coins (p1) (p2) (p3) (p4) (p5) h _ _ hw) (fun C h1 hx => ?_) (fun r h1 hq => ?_)
  · rcases hx with ⟨rfl, hw⟩ | ⟨rfl, hw⟩ | ⟨rfl, hw⟩
    · exact gxh_catch (i := 7) (v := 1) [] 0 16 19 34 [(0, 16, 23, 25), (0, 16, 27, 13)] rfl ⟨by decide, by decide⟩ (by decide) (fun _ h => nomatch h) (by decide) w_1046 w_1057 (by decide) (Or.inl ⟨dk D_L_coins 12 rfl, rfl⟩) (dk D_L_coins 13 rfl) (by decide +kernel) (dk D_L_coins 14 rfl) rfl ⟨_, rfl, hw⟩
    · exact gxh_catch (i := 7) (v := 2) [(0, 16, 19, 34)] 0 16 23 25 [(0, 16, 27, 13)] rfl ⟨by decide, by decide⟩ (by decide) (List.forall_mem_cons.mpr ⟨⟨by decide, "java/lang/IndexOutOfBoundsException", by decide, by decide, w_1046⟩, (fun _ h => nomatch h)⟩) (by decide) w_1006 w_1017 (by decide) (Or.inl ⟨dk D_L_coins 15 rfl, rfl⟩) (dk D_L_coins 16 rfl) (by decide +kernel) (dk D_L_coins 17 rfl) rfl ⟨_, rfl, hw⟩
    · exact gxh_catch (i := 7) (v := 3) [(0, 16, 19, 34), (0, 16, 23, 25)] 0 16 27 13 [] rfl ⟨by decide, by decide⟩ (by decide) (List.forall_mem_cons.mpr ⟨⟨by decide, "java/lang/IndexOutOfBoundsException", by decide, by decide, w_1046⟩, (List.forall_mem_cons.mpr ⟨⟨by decide, "java/util/NoSuchElementException", by decide, by decide, w_1006⟩, (fun _ h => nomatch h)⟩)⟩) (by decide) w_698 w_708 (by decide) (Or.inl ⟨dk D_L_coins 18 rfl, rfl⟩) (dk D_L_coins 19 rfl) (by decide +kernel) (dk D_L_coins 20 rfl) rfl ⟨_, rfl, hw⟩
  · obtain ⟨v, rfl, hw⟩ := hq
    refine gh_i2l (x := v) (dk D_L_coins 9 rfl) ?_
    refine gh_last (i := 0) (x := v) (dk D_L_coins 10 rfl) kd_1457 (by unfold vp_in; decide) ?_
    refine gh_goto (dk D_L_coins 11 rfl) rfl ?_
    refine gh_iconst (v := 0) (dk D_L_coins 21 rfl) (by decide +kernel) ?_
    exact gh_iret (dk D_L_coins 22 rfl) rfl ⟨_, rfl, hw _ rfl⟩
/-! the law's wrapper of best -/
abbrev M_L_best : Mi := (R_law, cL_best, 7, some .int)
def rows_L_best : List (Nat × Instr × Nat) := [(0, .aload 5, 2), (2, .iconst 0, 1), (3, .aload_n 0, 1), (4, .iload_n 1, 1), (5, .iload_n 2, 1), (6, .iload_n 3, 1), (7, .iload 4, 2), (9, .invokevirtual 47, 3), (12, .i2l, 1), (13, .lastore, 1), (14, .goto 15, 3), (17, .astore 6, 2), (19, .iconst 1, 1), (20, .ireturn, 1), (21, .astore 6, 2), (23, .iconst 2, 1), (24, .ireturn, 1), (25, .astore 6, 2), (27, .iconst 3, 1), (28, .ireturn, 1), (29, .iconst 0, 1), (30, .ireturn, 1)]
theorem D_L_best : dkA cL_best rows_L_best := by
  unfold dkA
  decide +kernel
theorem okD_L_best : okD yL_best 6 := by
  unfold okD
  decide +kernel
def tb_L_best : Tb := [(0, 14, 17, 34), (0, 14, 21, 25), (0, 14, 25, 13)]
def w_L_best (p1 : Int32) (p2 : Int32) (p3 : Int32) (p4 : Int32) (h : Hp) (Q : Int32 → Hp → Prop) : Prop :=
  w_X8_best p1 p2 p3 p4 h (fun r h1 => wlet (hup h1 1457 0 r) (fun h2 => Q 0 h2)) (fun C h1 => (C = "java/lang/IndexOutOfBoundsException" ∧ Q 1 h1) ∨ (C = "java/util/NoSuchElementException" ∧ Q 2 h1) ∨ (C = "java/lang/IllegalArgumentException" ∧ Q 3 h1))
theorem c_L_best {X : Cx} (p1 : Int32) (p2 : Int32) (p3 : Int32) (p4 : Int32) (h : Hp) (Q : Int32 → Hp → Prop) (hw : w_L_best p1 p2 p3 p4 h Q) : ConH X yL_best M_L_best tb_L_best 8 228 4 [.ref 0, .int p1, .int p2, .int p3, .int p4, .ref 1457] h (QI Q) := by
  refine conH_of (by decide +kernel) rfl (Nat.le_of_ble_eq_true rfl) ?_
  unfold w_L_best at hw
  refine gh_aload 5 (dk D_L_best 0 rfl) rfl ?_
  refine gh_iconst (v := 0) (dk D_L_best 1 rfl) (by decide +kernel) ?_
  refine gh_aload_n 0 (dk D_L_best 2 rfl) rfl rfl ?_
  refine gh_iload_n 1 (dk D_L_best 3 rfl) rfl rfl ?_
  refine gh_iload_n 2 (dk D_L_best 4 rfl) rfl rfl ?_
  refine gh_iload_n 3 (dk D_L_best 5 rfl) rfl rfl ?_
  refine gh_iload 4 (dk D_L_best 6 rfl) rfl ?_
  refine gh_callV (As := [.int p1, .int p2, .int p3, .int p4]) (st := [.int 0, .ref 1457]) (kc := 0) (fr := 7) (lo := 203) (mc := 4) (My := M_X8_best) (dk D_L_best 7 rfl) kd_0 rfl rfl w_1103 w_1104 w_1105 w_101 w_1106 okD_X8_best (by decide) (Nat.le_of_ble_eq_true rfl) rfl (c_X8_best (p1) (p2) (p3) (p4) h _ _ hw) (fun C h1 hx => ?_) (fun r h1 hq => ?_)
  · rcases hx with ⟨rfl, hw⟩ | ⟨rfl, hw⟩ | ⟨rfl, hw⟩
    · exact gxh_catch (i := 6) (v := 1) [] 0 14 17 34 [(0, 14, 21, 25), (0, 14, 25, 13)] rfl ⟨by decide, by decide⟩ (by decide) (fun _ h => nomatch h) (by decide) w_1046 w_1057 (by decide) (Or.inl ⟨dk D_L_best 11 rfl, rfl⟩) (dk D_L_best 12 rfl) (by decide +kernel) (dk D_L_best 13 rfl) rfl ⟨_, rfl, hw⟩
    · exact gxh_catch (i := 6) (v := 2) [(0, 14, 17, 34)] 0 14 21 25 [(0, 14, 25, 13)] rfl ⟨by decide, by decide⟩ (by decide) (List.forall_mem_cons.mpr ⟨⟨by decide, "java/lang/IndexOutOfBoundsException", by decide, by decide, w_1046⟩, (fun _ h => nomatch h)⟩) (by decide) w_1006 w_1017 (by decide) (Or.inl ⟨dk D_L_best 14 rfl, rfl⟩) (dk D_L_best 15 rfl) (by decide +kernel) (dk D_L_best 16 rfl) rfl ⟨_, rfl, hw⟩
    · exact gxh_catch (i := 6) (v := 3) [(0, 14, 17, 34), (0, 14, 21, 25)] 0 14 25 13 [] rfl ⟨by decide, by decide⟩ (by decide) (List.forall_mem_cons.mpr ⟨⟨by decide, "java/lang/IndexOutOfBoundsException", by decide, by decide, w_1046⟩, (List.forall_mem_cons.mpr ⟨⟨by decide, "java/util/NoSuchElementException", by decide, by decide, w_1006⟩, (fun _ h => nomatch h)⟩)⟩) (by decide) w_698 w_708 (by decide) (Or.inl ⟨dk D_L_best 17 rfl, rfl⟩) (dk D_L_best 18 rfl) (by decide +kernel) (dk D_L_best 19 rfl) rfl ⟨_, rfl, hw⟩
  · obtain ⟨v, rfl, hw⟩ := hq
    refine gh_i2l (x := v) (dk D_L_best 8 rfl) ?_
    refine gh_last (i := 0) (x := v) (dk D_L_best 9 rfl) kd_1457 (by unfold vp_in; decide) ?_
    refine gh_goto (dk D_L_best 10 rfl) rfl ?_
    refine gh_iconst (v := 0) (dk D_L_best 20 rfl) (by decide +kernel) ?_
    exact gh_iret (dk D_L_best 21 rfl) rfl ⟨_, rfl, hw _ rfl⟩
/-! the law's wrapper of week -/
abbrev M_L_week : Mi := (R_law, cL_week, 5, some .int)
def rows_L_week : List (Nat × Instr × Nat) := [(0, .aload_n 3, 1), (1, .iconst 0, 1), (2, .aload_n 0, 1), (3, .iload_n 1, 1), (4, .iload_n 2, 1), (5, .invokevirtual 50, 3), (8, .i2l, 1), (9, .lastore, 1), (10, .goto 11, 3), (13, .astore 4, 2), (15, .iconst 1, 1), (16, .ireturn, 1), (17, .astore 4, 2), (19, .iconst 2, 1), (20, .ireturn, 1), (21, .iconst 0, 1), (22, .ireturn, 1)]
theorem D_L_week : dkA cL_week rows_L_week := by
  unfold dkA
  decide +kernel
theorem okD_L_week : okD yL_week 4 := by
  unfold okD
  decide +kernel
def tb_L_week : Tb := [(0, 10, 13, 34), (0, 10, 17, 25)]
def w_L_week (p1 : Int32) (p2 : Int32) (h : Hp) (Q : Int32 → Hp → Prop) : Prop :=
  w_X8_week p1 p2 h (fun r h1 => wlet (hup h1 1457 0 r) (fun h2 => Q 0 h2)) (fun C h1 => (C = "java/lang/IndexOutOfBoundsException" ∧ Q 1 h1) ∨ (C = "java/util/NoSuchElementException" ∧ Q 2 h1))
theorem c_L_week {X : Cx} (p1 : Int32) (p2 : Int32) (h : Hp) (Q : Int32 → Hp → Prop) (hw : w_L_week p1 p2 h Q) : ConH X yL_week M_L_week tb_L_week 8 230 2 [.ref 0, .int p1, .int p2, .ref 1457] h (QI Q) := by
  refine conH_of (by decide +kernel) rfl (Nat.le_of_ble_eq_true rfl) ?_
  unfold w_L_week at hw
  refine gh_aload_n 3 (dk D_L_week 0 rfl) rfl rfl ?_
  refine gh_iconst (v := 0) (dk D_L_week 1 rfl) (by decide +kernel) ?_
  refine gh_aload_n 0 (dk D_L_week 2 rfl) rfl rfl ?_
  refine gh_iload_n 1 (dk D_L_week 3 rfl) rfl rfl ?_
  refine gh_iload_n 2 (dk D_L_week 4 rfl) rfl rfl ?_
  refine gh_callV (As := [.int p1, .int p2]) (st := [.int 0, .ref 1457]) (kc := 0) (fr := 7) (lo := 203) (mc := 2) (My := M_X8_week) (dk D_L_week 5 rfl) kd_0 rfl rfl w_1122 w_1123 w_1124 w_101 w_1125 okD_X8_week (by decide) (Nat.le_of_ble_eq_true rfl) rfl (c_X8_week (p1) (p2) h _ _ hw) (fun C h1 hx => ?_) (fun r h1 hq => ?_)
  · rcases hx with ⟨rfl, hw⟩ | ⟨rfl, hw⟩
    · exact gxh_catch (i := 4) (v := 1) [] 0 10 13 34 [(0, 10, 17, 25)] rfl ⟨by decide, by decide⟩ (by decide) (fun _ h => nomatch h) (by decide) w_1046 w_1057 (by decide) (Or.inl ⟨dk D_L_week 9 rfl, rfl⟩) (dk D_L_week 10 rfl) (by decide +kernel) (dk D_L_week 11 rfl) rfl ⟨_, rfl, hw⟩
    · exact gxh_catch (i := 4) (v := 2) [(0, 10, 13, 34)] 0 10 17 25 [] rfl ⟨by decide, by decide⟩ (by decide) (List.forall_mem_cons.mpr ⟨⟨by decide, "java/lang/IndexOutOfBoundsException", by decide, by decide, w_1046⟩, (fun _ h => nomatch h)⟩) (by decide) w_1006 w_1017 (by decide) (Or.inl ⟨dk D_L_week 12 rfl, rfl⟩) (dk D_L_week 13 rfl) (by decide +kernel) (dk D_L_week 14 rfl) rfl ⟨_, rfl, hw⟩
  · obtain ⟨v, rfl, hw⟩ := hq
    refine gh_i2l (x := v) (dk D_L_week 6 rfl) ?_
    refine gh_last (i := 0) (x := v) (dk D_L_week 7 rfl) kd_1457 (by unfold vp_in; decide) ?_
    refine gh_goto (dk D_L_week 8 rfl) rfl ?_
    refine gh_iconst (v := 0) (dk D_L_week 15 rfl) (by decide +kernel) ?_
    exact gh_iret (dk D_L_week 16 rfl) rfl ⟨_, rfl, hw _ rfl⟩
/-! the law's wrapper of plan -/
abbrev M_L_plan : Mi := (R_law, cL_plan, 7, some .int)
def rows_L_plan : List (Nat × Instr × Nat) := [(0, .aload 5, 2), (2, .iconst 0, 1), (3, .aload_n 0, 1), (4, .iload_n 1, 1), (5, .iload_n 2, 1), (6, .iload_n 3, 1), (7, .iload 4, 2), (9, .invokevirtual 53, 3), (12, .i2l, 1), (13, .lastore, 1), (14, .goto 7, 3), (17, .astore 6, 2), (19, .iconst 1, 1), (20, .ireturn, 1), (21, .iconst 0, 1), (22, .ireturn, 1)]
theorem D_L_plan : dkA cL_plan rows_L_plan := by
  unfold dkA
  decide +kernel
theorem okD_L_plan : okD yL_plan 6 := by
  unfold okD
  decide +kernel
def tb_L_plan : Tb := [(0, 14, 17, 13)]
def w_L_plan (p1 : Int32) (p2 : Int32) (p3 : Int32) (p4 : Int32) (h : Hp) (Q : Int32 → Hp → Prop) : Prop :=
  w_X8_plan p1 p2 p3 p4 h (fun r h1 => wlet (hup h1 1457 0 r) (fun h2 => Q 0 h2)) (fun C h1 => (C = "java/lang/IllegalArgumentException" ∧ Q 1 h1))
theorem c_L_plan {X : Cx} (p1 : Int32) (p2 : Int32) (p3 : Int32) (p4 : Int32) (h : Hp) (Q : Int32 → Hp → Prop) (hw : w_L_plan p1 p2 p3 p4 h Q) : ConH X yL_plan M_L_plan tb_L_plan 9 243 2 [.ref 0, .int p1, .int p2, .int p3, .int p4, .ref 1457] h (QI Q) := by
  refine conH_of (by decide +kernel) rfl (Nat.le_of_ble_eq_true rfl) ?_
  unfold w_L_plan at hw
  refine gh_aload 5 (dk D_L_plan 0 rfl) rfl ?_
  refine gh_iconst (v := 0) (dk D_L_plan 1 rfl) (by decide +kernel) ?_
  refine gh_aload_n 0 (dk D_L_plan 2 rfl) rfl rfl ?_
  refine gh_iload_n 1 (dk D_L_plan 3 rfl) rfl rfl ?_
  refine gh_iload_n 2 (dk D_L_plan 4 rfl) rfl rfl ?_
  refine gh_iload_n 3 (dk D_L_plan 5 rfl) rfl rfl ?_
  refine gh_iload 4 (dk D_L_plan 6 rfl) rfl ?_
  refine gh_callV (As := [.int p1, .int p2, .int p3, .int p4]) (st := [.int 0, .ref 1457]) (kc := 0) (fr := 8) (lo := 219) (mc := 2) (My := M_X8_plan) (dk D_L_plan 7 rfl) kd_0 rfl rfl w_1129 w_1130 w_1131 w_101 w_1132 okD_X8_plan (by decide) (Nat.le_of_ble_eq_true rfl) rfl (c_X8_plan (p1) (p2) (p3) (p4) h _ _ hw) (fun C h1 hx => ?_) (fun r h1 hq => ?_)
  · obtain ⟨rfl, hw⟩ := hx
    exact gxh_catch (i := 6) (v := 1) [] 0 14 17 13 [] rfl ⟨by decide, by decide⟩ (by decide) (fun _ h => nomatch h) (by decide) w_698 w_708 (by decide) (Or.inl ⟨dk D_L_plan 11 rfl, rfl⟩) (dk D_L_plan 12 rfl) (by decide +kernel) (dk D_L_plan 13 rfl) rfl ⟨_, rfl, hw⟩
  · obtain ⟨v, rfl, hw⟩ := hq
    refine gh_i2l (x := v) (dk D_L_plan 8 rfl) ?_
    refine gh_last (i := 0) (x := v) (dk D_L_plan 9 rfl) kd_1457 (by unfold vp_in; decide) ?_
    refine gh_goto (dk D_L_plan 10 rfl) rfl ?_
    refine gh_iconst (v := 0) (dk D_L_plan 14 rfl) (by decide +kernel) ?_
    exact gh_iret (dk D_L_plan 15 rfl) rfl ⟨_, rfl, hw _ rfl⟩
/-! the law's wrapper of slot -/
abbrev M_L_slot : Mi := (R_law, cL_slot, 7, some .int)
def rows_L_slot : List (Nat × Instr × Nat) := [(0, .aload 5, 2), (2, .iconst 0, 1), (3, .aload_n 0, 1), (4, .iload_n 1, 1), (5, .iload_n 2, 1), (6, .iload_n 3, 1), (7, .iload 4, 2), (9, .invokevirtual 57, 3), (12, .i2l, 1), (13, .lastore, 1), (14, .goto 11, 3), (17, .astore 6, 2), (19, .iconst 1, 1), (20, .ireturn, 1), (21, .astore 6, 2), (23, .iconst 2, 1), (24, .ireturn, 1), (25, .iconst 0, 1), (26, .ireturn, 1)]
theorem D_L_slot : dkA cL_slot rows_L_slot := by
  unfold dkA
  decide +kernel
theorem okD_L_slot : okD yL_slot 6 := by
  unfold okD
  decide +kernel
def tb_L_slot : Tb := [(0, 14, 17, 25), (0, 14, 21, 13)]
def w_L_slot (p1 : Int32) (p2 : Int32) (p3 : Int32) (p4 : Int32) (h : Hp) (Q : Int32 → Hp → Prop) : Prop :=
  w_X8_slot p1 p2 p3 p4 h (fun r h1 => wlet (hup h1 1457 0 r) (fun h2 => Q 0 h2)) (fun C h1 => (C = "java/util/NoSuchElementException" ∧ Q 1 h1) ∨ (C = "java/lang/IllegalArgumentException" ∧ Q 2 h1))
theorem c_L_slot {X : Cx} (p1 : Int32) (p2 : Int32) (p3 : Int32) (p4 : Int32) (h : Hp) (Q : Int32 → Hp → Prop) (hw : w_L_slot p1 p2 p3 p4 h Q) : ConH X yL_slot M_L_slot tb_L_slot 9 243 2 [.ref 0, .int p1, .int p2, .int p3, .int p4, .ref 1457] h (QI Q) := by
  refine conH_of (by decide +kernel) rfl (Nat.le_of_ble_eq_true rfl) ?_
  unfold w_L_slot at hw
  refine gh_aload 5 (dk D_L_slot 0 rfl) rfl ?_
  refine gh_iconst (v := 0) (dk D_L_slot 1 rfl) (by decide +kernel) ?_
  refine gh_aload_n 0 (dk D_L_slot 2 rfl) rfl rfl ?_
  refine gh_iload_n 1 (dk D_L_slot 3 rfl) rfl rfl ?_
  refine gh_iload_n 2 (dk D_L_slot 4 rfl) rfl rfl ?_
  refine gh_iload_n 3 (dk D_L_slot 5 rfl) rfl rfl ?_
  refine gh_iload 4 (dk D_L_slot 6 rfl) rfl ?_
  refine gh_callV (As := [.int p1, .int p2, .int p3, .int p4]) (st := [.int 0, .ref 1457]) (kc := 0) (fr := 8) (lo := 219) (mc := 2) (My := M_X8_slot) (dk D_L_slot 7 rfl) kd_0 rfl rfl w_1179 w_1180 w_1181 w_101 w_1182 okD_X8_slot (by decide) (Nat.le_of_ble_eq_true rfl) rfl (c_X8_slot (p1) (p2) (p3) (p4) h _ _ hw) (fun C h1 hx => ?_) (fun r h1 hq => ?_)
  · rcases hx with ⟨rfl, hw⟩ | ⟨rfl, hw⟩
    · exact gxh_catch (i := 6) (v := 1) [] 0 14 17 25 [(0, 14, 21, 13)] rfl ⟨by decide, by decide⟩ (by decide) (fun _ h => nomatch h) (by decide) w_1006 w_1017 (by decide) (Or.inl ⟨dk D_L_slot 11 rfl, rfl⟩) (dk D_L_slot 12 rfl) (by decide +kernel) (dk D_L_slot 13 rfl) rfl ⟨_, rfl, hw⟩
    · exact gxh_catch (i := 6) (v := 2) [(0, 14, 17, 25)] 0 14 21 13 [] rfl ⟨by decide, by decide⟩ (by decide) (List.forall_mem_cons.mpr ⟨⟨by decide, "java/util/NoSuchElementException", by decide, by decide, w_1006⟩, (fun _ h => nomatch h)⟩) (by decide) w_698 w_708 (by decide) (Or.inl ⟨dk D_L_slot 14 rfl, rfl⟩) (dk D_L_slot 15 rfl) (by decide +kernel) (dk D_L_slot 16 rfl) rfl ⟨_, rfl, hw⟩
  · obtain ⟨v, rfl, hw⟩ := hq
    refine gh_i2l (x := v) (dk D_L_slot 8 rfl) ?_
    refine gh_last (i := 0) (x := v) (dk D_L_slot 9 rfl) kd_1457 (by unfold vp_in; decide) ?_
    refine gh_goto (dk D_L_slot 10 rfl) rfl ?_
    refine gh_iconst (v := 0) (dk D_L_slot 17 rfl) (by decide +kernel) ?_
    exact gh_iret (dk D_L_slot 18 rfl) rfl ⟨_, rfl, hw _ rfl⟩
/-! the law's wrapper of most -/
abbrev M_L_most : Mi := (R_law, cL_most, 4, some .int)
def rows_L_most : List (Nat × Instr × Nat) := [(0, .aload_n 2, 1), (1, .iconst 0, 1), (2, .aload_n 0, 1), (3, .iload_n 1, 1), (4, .invokevirtual 60, 3), (7, .i2l, 1), (8, .lastore, 1), (9, .goto 6, 3), (12, .astore_n 3, 1), (13, .iconst 1, 1), (14, .ireturn, 1), (15, .iconst 0, 1), (16, .ireturn, 1)]
theorem D_L_most : dkA cL_most rows_L_most := by
  unfold dkA
  decide +kernel
theorem okD_L_most : okD yL_most 3 := by
  unfold okD
  decide +kernel
def tb_L_most : Tb := [(0, 9, 12, 13)]
def w_L_most (p1 : Int32) (h : Hp) (Q : Int32 → Hp → Prop) : Prop :=
  w_X8_most p1 h (fun r h1 => wlet (hup h1 1457 0 r) (fun h2 => Q 0 h2)) (fun C h1 => (C = "java/lang/IllegalArgumentException" ∧ Q 1 h1))
theorem c_L_most {X : Cx} (p1 : Int32) (h : Hp) (Q : Int32 → Hp → Prop) (hw : w_L_most p1 h Q) : ConH X yL_most M_L_most tb_L_most 8 239 1 [.ref 0, .int p1, .ref 1457] h (QI Q) := by
  refine conH_of (by decide +kernel) rfl (Nat.le_of_ble_eq_true rfl) ?_
  unfold w_L_most at hw
  refine gh_aload_n 2 (dk D_L_most 0 rfl) rfl rfl ?_
  refine gh_iconst (v := 0) (dk D_L_most 1 rfl) (by decide +kernel) ?_
  refine gh_aload_n 0 (dk D_L_most 2 rfl) rfl rfl ?_
  refine gh_iload_n 1 (dk D_L_most 3 rfl) rfl rfl ?_
  refine gh_callV (As := [.int p1]) (st := [.int 0, .ref 1457]) (kc := 0) (fr := 7) (lo := 218) (mc := 1) (My := M_X8_most) (dk D_L_most 4 rfl) kd_0 rfl rfl w_1190 w_1191 w_1192 w_101 w_1193 okD_X8_most (by decide) (Nat.le_of_ble_eq_true rfl) rfl (c_X8_most (p1) h _ _ hw) (fun C h1 hx => ?_) (fun r h1 hq => ?_)
  · obtain ⟨rfl, hw⟩ := hx
    exact gxh_catch (i := 3) (v := 1) [] 0 9 12 13 [] rfl ⟨by decide, by decide⟩ (by decide) (fun _ h => nomatch h) (by decide) w_698 w_708 (by decide) (Or.inr ⟨3, rfl, dk D_L_most 8 rfl, rfl⟩) (dk D_L_most 9 rfl) (by decide +kernel) (dk D_L_most 10 rfl) rfl ⟨_, rfl, hw⟩
  · obtain ⟨v, rfl, hw⟩ := hq
    refine gh_i2l (x := v) (dk D_L_most 5 rfl) ?_
    refine gh_last (i := 0) (x := v) (dk D_L_most 6 rfl) kd_1457 (by unfold vp_in; decide) ?_
    refine gh_goto (dk D_L_most 7 rfl) rfl ?_
    refine gh_iconst (v := 0) (dk D_L_most 11 rfl) (by decide +kernel) ?_
    exact gh_iret (dk D_L_most 12 rfl) rfl ⟨_, rfl, hw _ rfl⟩
/-! the law's wrapper of cross -/
abbrev M_L_cross : Mi := (R_law, cL_cross, 7, some .int)
def rows_L_cross : List (Nat × Instr × Nat) := [(0, .aload 5, 2), (2, .iconst 0, 1), (3, .aload_n 0, 1), (4, .iload_n 1, 1), (5, .iload_n 2, 1), (6, .iload_n 3, 1), (7, .iload 4, 2), (9, .invokevirtual 63, 3), (12, .i2l, 1), (13, .lastore, 1), (14, .goto 15, 3), (17, .astore 6, 2), (19, .iconst 1, 1), (20, .ireturn, 1), (21, .astore 6, 2), (23, .iconst 2, 1), (24, .ireturn, 1), (25, .astore 6, 2), (27, .iconst 3, 1), (28, .ireturn, 1), (29, .iconst 0, 1), (30, .ireturn, 1)]
theorem D_L_cross : dkA cL_cross rows_L_cross := by
  unfold dkA
  decide +kernel
theorem okD_L_cross : okD yL_cross 6 := by
  unfold okD
  decide +kernel
def tb_L_cross : Tb := [(0, 14, 17, 34), (0, 14, 21, 25), (0, 14, 25, 13)]
def w_L_cross (p1 : Int32) (p2 : Int32) (p3 : Int32) (p4 : Int32) (h : Hp) (Q : Int32 → Hp → Prop) : Prop :=
  w_X8_cross p1 p2 p3 p4 h (fun r h1 => wlet (hup h1 1457 0 r) (fun h2 => Q 0 h2)) (fun C h1 => (C = "java/lang/IndexOutOfBoundsException" ∧ Q 1 h1) ∨ (C = "java/util/NoSuchElementException" ∧ Q 2 h1) ∨ (C = "java/lang/IllegalArgumentException" ∧ Q 3 h1))
theorem c_L_cross {X : Cx} (p1 : Int32) (p2 : Int32) (p3 : Int32) (p4 : Int32) (h : Hp) (Q : Int32 → Hp → Prop) (hw : w_L_cross p1 p2 p3 p4 h Q) : ConH X yL_cross M_L_cross tb_L_cross 8 159 4 [.ref 0, .int p1, .int p2, .int p3, .int p4, .ref 1457] h (QI Q) := by
  refine conH_of (by decide +kernel) rfl (Nat.le_of_ble_eq_true rfl) ?_
  unfold w_L_cross at hw
  refine gh_aload 5 (dk D_L_cross 0 rfl) rfl ?_
  refine gh_iconst (v := 0) (dk D_L_cross 1 rfl) (by decide +kernel) ?_
  refine gh_aload_n 0 (dk D_L_cross 2 rfl) rfl rfl ?_
  refine gh_iload_n 1 (dk D_L_cross 3 rfl) rfl rfl ?_
  refine gh_iload_n 2 (dk D_L_cross 4 rfl) rfl rfl ?_
  refine gh_iload_n 3 (dk D_L_cross 5 rfl) rfl rfl ?_
  refine gh_iload 4 (dk D_L_cross 6 rfl) rfl ?_
  refine gh_callV (As := [.int p1, .int p2, .int p3, .int p4]) (st := [.int 0, .ref 1457]) (kc := 0) (fr := 7) (lo := 134) (mc := 4) (My := M_X8_cross) (dk D_L_cross 7 rfl) kd_0 rfl rfl w_1197 w_1198 w_1199 w_101 w_1200 okD_X8_cross (by decide) (Nat.le_of_ble_eq_true rfl) rfl (c_X8_cross (p1) (p2) (p3) (p4) h _ _ hw) (fun C h1 hx => ?_) (fun r h1 hq => ?_)
  · rcases hx with ⟨rfl, hw⟩ | ⟨rfl, hw⟩ | ⟨rfl, hw⟩
    · exact gxh_catch (i := 6) (v := 1) [] 0 14 17 34 [(0, 14, 21, 25), (0, 14, 25, 13)] rfl ⟨by decide, by decide⟩ (by decide) (fun _ h => nomatch h) (by decide) w_1046 w_1057 (by decide) (Or.inl ⟨dk D_L_cross 11 rfl, rfl⟩) (dk D_L_cross 12 rfl) (by decide +kernel) (dk D_L_cross 13 rfl) rfl ⟨_, rfl, hw⟩
    · exact gxh_catch (i := 6) (v := 2) [(0, 14, 17, 34)] 0 14 21 25 [(0, 14, 25, 13)] rfl ⟨by decide, by decide⟩ (by decide) (List.forall_mem_cons.mpr ⟨⟨by decide, "java/lang/IndexOutOfBoundsException", by decide, by decide, w_1046⟩, (fun _ h => nomatch h)⟩) (by decide) w_1006 w_1017 (by decide) (Or.inl ⟨dk D_L_cross 14 rfl, rfl⟩) (dk D_L_cross 15 rfl) (by decide +kernel) (dk D_L_cross 16 rfl) rfl ⟨_, rfl, hw⟩
    · exact gxh_catch (i := 6) (v := 3) [(0, 14, 17, 34), (0, 14, 21, 25)] 0 14 25 13 [] rfl ⟨by decide, by decide⟩ (by decide) (List.forall_mem_cons.mpr ⟨⟨by decide, "java/lang/IndexOutOfBoundsException", by decide, by decide, w_1046⟩, (List.forall_mem_cons.mpr ⟨⟨by decide, "java/util/NoSuchElementException", by decide, by decide, w_1006⟩, (fun _ h => nomatch h)⟩)⟩) (by decide) w_698 w_708 (by decide) (Or.inl ⟨dk D_L_cross 17 rfl, rfl⟩) (dk D_L_cross 18 rfl) (by decide +kernel) (dk D_L_cross 19 rfl) rfl ⟨_, rfl, hw⟩
  · obtain ⟨v, rfl, hw⟩ := hq
    refine gh_i2l (x := v) (dk D_L_cross 8 rfl) ?_
    refine gh_last (i := 0) (x := v) (dk D_L_cross 9 rfl) kd_1457 (by unfold vp_in; decide) ?_
    refine gh_goto (dk D_L_cross 10 rfl) rfl ?_
    refine gh_iconst (v := 0) (dk D_L_cross 20 rfl) (by decide +kernel) ?_
    exact gh_iret (dk D_L_cross 21 rfl) rfl ⟨_, rfl, hw _ rfl⟩
/-! the law's wrapper of taken -/
abbrev M_L_taken : Mi := (R_law, cL_taken, 4, some .int)
def rows_L_taken : List (Nat × Instr × Nat) := [(0, .aload_n 2, 1), (1, .iconst 0, 1), (2, .aload_n 0, 1), (3, .iload_n 1, 1), (4, .invokevirtual 66, 3), (7, .i2l, 1), (8, .lastore, 1), (9, .goto 6, 3), (12, .astore_n 3, 1), (13, .iconst 1, 1), (14, .ireturn, 1), (15, .iconst 0, 1), (16, .ireturn, 1)]
theorem D_L_taken : dkA cL_taken rows_L_taken := by
  unfold dkA
  decide +kernel
theorem okD_L_taken : okD yL_taken 3 := by
  unfold okD
  decide +kernel
def tb_L_taken : Tb := [(0, 9, 12, 13)]
def w_L_taken (p1 : Int32) (h : Hp) (Q : Int32 → Hp → Prop) : Prop :=
  w_X8_taken p1 h (fun r => wlet (hup h 1457 0 r) (fun h1 => Q 0 h1)) (fun C h1 => (C = "java/lang/IllegalArgumentException" ∧ Q 1 h1))
theorem c_L_taken {X : Cx} (p1 : Int32) (h : Hp) (Q : Int32 → Hp → Prop) (hw : w_L_taken p1 h Q) : ConH X yL_taken M_L_taken tb_L_taken 8 131 1 [.ref 0, .int p1, .ref 1457] h (QI Q) := by
  refine conH_of (by decide +kernel) rfl (Nat.le_of_ble_eq_true rfl) ?_
  unfold w_L_taken at hw
  refine gh_aload_n 2 (dk D_L_taken 0 rfl) rfl rfl ?_
  refine gh_iconst (v := 0) (dk D_L_taken 1 rfl) (by decide +kernel) ?_
  refine gh_aload_n 0 (dk D_L_taken 2 rfl) rfl rfl ?_
  refine gh_iload_n 1 (dk D_L_taken 3 rfl) rfl rfl ?_
  refine gh_callV (As := [.int p1]) (st := [.int 0, .ref 1457]) (kc := 0) (fr := 7) (lo := 110) (mc := 1) (My := M_X8_taken) (dk D_L_taken 4 rfl) kd_0 rfl rfl w_1214 w_1215 w_1216 w_101 w_1217 okD_X8_taken (by decide) (Nat.le_of_ble_eq_true rfl) rfl (c_X8_taken (p1) h _ _ hw) (fun C h1 hx => ?_) (fun r h1 hq => ?_)
  · obtain ⟨rfl, hw⟩ := hx
    exact gxh_catch (i := 3) (v := 1) [] 0 9 12 13 [] rfl ⟨by decide, by decide⟩ (by decide) (fun _ h => nomatch h) (by decide) w_698 w_708 (by decide) (Or.inr ⟨3, rfl, dk D_L_taken 8 rfl, rfl⟩) (dk D_L_taken 9 rfl) (by decide +kernel) (dk D_L_taken 10 rfl) rfl ⟨_, rfl, hw⟩
  · obtain ⟨v, rfl, rfl, hw⟩ := hq
    refine gh_i2l (x := v) (dk D_L_taken 5 rfl) ?_
    refine gh_last (i := 0) (x := v) (dk D_L_taken 6 rfl) kd_1457 (by unfold vp_in; decide) ?_
    refine gh_goto (dk D_L_taken 7 rfl) rfl ?_
    refine gh_iconst (v := 0) (dk D_L_taken 11 rfl) (by decide +kernel) ?_
    exact gh_iret (dk D_L_taken 12 rfl) rfl ⟨_, rfl, hw _ rfl⟩
/-! the law's wrapper of write -/
abbrev M_L_write : Mi := (R_law, cL_write, 5, some .int)
def rows_L_write : List (Nat × Instr × Nat) := [(0, .aload_n 3, 1), (1, .iconst 0, 1), (2, .aload_n 0, 1), (3, .iload_n 1, 1), (4, .iload_n 2, 1), (5, .invokevirtual 69, 3), (8, .i2l, 1), (9, .lastore, 1), (10, .goto 7, 3), (13, .astore 4, 2), (15, .iconst 1, 1), (16, .ireturn, 1), (17, .iconst 0, 1), (18, .ireturn, 1)]
theorem D_L_write : dkA cL_write rows_L_write := by
  unfold dkA
  decide +kernel
theorem okD_L_write : okD yL_write 4 := by
  unfold okD
  decide +kernel
def tb_L_write : Tb := [(0, 10, 13, 13)]
def w_L_write (p1 : Int32) (p2 : Int32) (h : Hp) (Q : Int32 → Hp → Prop) : Prop :=
  w_X8_write p1 p2 h (fun r h1 => wlet (hup h1 1457 0 r) (fun h2 => Q 0 h2)) (fun C h1 => (C = "java/lang/IllegalArgumentException" ∧ Q 1 h1))
theorem c_L_write {X : Cx} (p1 : Int32) (p2 : Int32) (h : Hp) (Q : Int32 → Hp → Prop) (hw : w_L_write p1 p2 h Q) : ConH X yL_write M_L_write tb_L_write 8 135 2 [.ref 0, .int p1, .int p2, .ref 1457] h (QI Q) := by
  refine conH_of (by decide +kernel) rfl (Nat.le_of_ble_eq_true rfl) ?_
  unfold w_L_write at hw
  refine gh_aload_n 3 (dk D_L_write 0 rfl) rfl rfl ?_
  refine gh_iconst (v := 0) (dk D_L_write 1 rfl) (by decide +kernel) ?_
  refine gh_aload_n 0 (dk D_L_write 2 rfl) rfl rfl ?_
  refine gh_iload_n 1 (dk D_L_write 3 rfl) rfl rfl ?_
  refine gh_iload_n 2 (dk D_L_write 4 rfl) rfl rfl ?_
  refine gh_callV (As := [.int p1, .int p2]) (st := [.int 0, .ref 1457]) (kc := 0) (fr := 7) (lo := 112) (mc := 2) (My := M_X8_write) (dk D_L_write 5 rfl) kd_0 rfl rfl w_1225 w_1226 w_1227 w_101 w_1228 okD_X8_write (by decide) (Nat.le_of_ble_eq_true rfl) rfl (c_X8_write (p1) (p2) h _ _ hw) (fun C h1 hx => ?_) (fun r h1 hq => ?_)
  · obtain ⟨rfl, hw⟩ := hx
    exact gxh_catch (i := 4) (v := 1) [] 0 10 13 13 [] rfl ⟨by decide, by decide⟩ (by decide) (fun _ h => nomatch h) (by decide) w_698 w_708 (by decide) (Or.inl ⟨dk D_L_write 9 rfl, rfl⟩) (dk D_L_write 10 rfl) (by decide +kernel) (dk D_L_write 11 rfl) rfl ⟨_, rfl, hw⟩
  · obtain ⟨v, rfl, hw⟩ := hq
    refine gh_i2l (x := v) (dk D_L_write 6 rfl) ?_
    refine gh_last (i := 0) (x := v) (dk D_L_write 7 rfl) kd_1457 (by unfold vp_in; decide) ?_
    refine gh_goto (dk D_L_write 8 rfl) rfl ?_
    refine gh_iconst (v := 0) (dk D_L_write 12 rfl) (by decide +kernel) ?_
    exact gh_iret (dk D_L_write 13 rfl) rfl ⟨_, rfl, hw _ rfl⟩
/-! the law's wrapper of stolen -/
abbrev M_L_stolen : Mi := (R_law, cL_stolen, 4, some .int)
def rows_L_stolen : List (Nat × Instr × Nat) := [(0, .aload_n 2, 1), (1, .iconst 0, 1), (2, .aload_n 0, 1), (3, .iload_n 1, 1), (4, .invokevirtual 72, 3), (7, .i2l, 1), (8, .lastore, 1), (9, .goto 6, 3), (12, .astore_n 3, 1), (13, .iconst 1, 1), (14, .ireturn, 1), (15, .iconst 0, 1), (16, .ireturn, 1)]
theorem D_L_stolen : dkA cL_stolen rows_L_stolen := by
  unfold dkA
  decide +kernel
theorem okD_L_stolen : okD yL_stolen 3 := by
  unfold okD
  decide +kernel
def tb_L_stolen : Tb := [(0, 9, 12, 13)]
def w_L_stolen (p1 : Int32) (h : Hp) (Q : Int32 → Hp → Prop) : Prop :=
  w_X8_stolen p1 h (fun r => wlet (hup h 1457 0 r) (fun h1 => Q 0 h1)) (fun C h1 => (C = "java/lang/IllegalArgumentException" ∧ Q 1 h1))
theorem c_L_stolen {X : Cx} (p1 : Int32) (h : Hp) (Q : Int32 → Hp → Prop) (hw : w_L_stolen p1 h Q) : ConH X yL_stolen M_L_stolen tb_L_stolen 8 132 1 [.ref 0, .int p1, .ref 1457] h (QI Q) := by
  refine conH_of (by decide +kernel) rfl (Nat.le_of_ble_eq_true rfl) ?_
  unfold w_L_stolen at hw
  refine gh_aload_n 2 (dk D_L_stolen 0 rfl) rfl rfl ?_
  refine gh_iconst (v := 0) (dk D_L_stolen 1 rfl) (by decide +kernel) ?_
  refine gh_aload_n 0 (dk D_L_stolen 2 rfl) rfl rfl ?_
  refine gh_iload_n 1 (dk D_L_stolen 3 rfl) rfl rfl ?_
  refine gh_callV (As := [.int p1]) (st := [.int 0, .ref 1457]) (kc := 0) (fr := 7) (lo := 110) (mc := 1) (My := M_X8_stolen) (dk D_L_stolen 4 rfl) kd_0 rfl rfl w_1233 w_1234 w_1235 w_101 w_1236 okD_X8_stolen (by decide) (Nat.le_of_ble_eq_true rfl) rfl (c_X8_stolen (p1) h _ _ hw) (fun C h1 hx => ?_) (fun r h1 hq => ?_)
  · obtain ⟨rfl, hw⟩ := hx
    exact gxh_catch (i := 3) (v := 1) [] 0 9 12 13 [] rfl ⟨by decide, by decide⟩ (by decide) (fun _ h => nomatch h) (by decide) w_698 w_708 (by decide) (Or.inr ⟨3, rfl, dk D_L_stolen 8 rfl, rfl⟩) (dk D_L_stolen 9 rfl) (by decide +kernel) (dk D_L_stolen 10 rfl) rfl ⟨_, rfl, hw⟩
  · obtain ⟨v, rfl, rfl, hw⟩ := hq
    refine gh_i2l (x := v) (dk D_L_stolen 5 rfl) ?_
    refine gh_last (i := 0) (x := v) (dk D_L_stolen 6 rfl) kd_1457 (by unfold vp_in; decide) ?_
    refine gh_goto (dk D_L_stolen 7 rfl) rfl ?_
    refine gh_iconst (v := 0) (dk D_L_stolen 11 rfl) (by decide +kernel) ?_
    exact gh_iret (dk D_L_stolen 12 rfl) rfl ⟨_, rfl, hw _ rfl⟩
/-! the law's wrapper of lines -/
abbrev M_L_lines : Mi := (R_law, cL_lines, 6, some .int)
def rows_L_lines : List (Nat × Instr × Nat) := [(0, .aload 4, 2), (2, .iconst 0, 1), (3, .aload_n 0, 1), (4, .iload_n 1, 1), (5, .iload_n 2, 1), (6, .iload_n 3, 1), (7, .invokevirtual 75, 3), (10, .i2l, 1), (11, .lastore, 1), (12, .goto 7, 3), (15, .astore 5, 2), (17, .iconst 1, 1), (18, .ireturn, 1), (19, .iconst 0, 1), (20, .ireturn, 1)]
theorem D_L_lines : dkA cL_lines rows_L_lines := by
  unfold dkA
  decide +kernel
theorem okD_L_lines : okD yL_lines 5 := by
  unfold okD
  decide +kernel
def tb_L_lines : Tb := [(0, 12, 15, 13)]
def w_L_lines (p1 : Int32) (p2 : Int32) (p3 : Int32) (h : Hp) (Q : Int32 → Hp → Prop) : Prop :=
  w_X8_lines p1 p2 p3 h (fun r h1 => wlet (hup h1 1457 0 r) (fun h2 => Q 0 h2)) (fun C h1 => (C = "java/lang/IllegalArgumentException" ∧ Q 1 h1))
theorem c_L_lines {X : Cx} (p1 : Int32) (p2 : Int32) (p3 : Int32) (h : Hp) (Q : Int32 → Hp → Prop) (hw : w_L_lines p1 p2 p3 h Q) : ConH X yL_lines M_L_lines tb_L_lines 8 247 3 [.ref 0, .int p1, .int p2, .int p3, .ref 1457] h (QI Q) := by
  refine conH_of (by decide +kernel) rfl (Nat.le_of_ble_eq_true rfl) ?_
  unfold w_L_lines at hw
  refine gh_aload 4 (dk D_L_lines 0 rfl) rfl ?_
  refine gh_iconst (v := 0) (dk D_L_lines 1 rfl) (by decide +kernel) ?_
  refine gh_aload_n 0 (dk D_L_lines 2 rfl) rfl rfl ?_
  refine gh_iload_n 1 (dk D_L_lines 3 rfl) rfl rfl ?_
  refine gh_iload_n 2 (dk D_L_lines 4 rfl) rfl rfl ?_
  refine gh_iload_n 3 (dk D_L_lines 5 rfl) rfl rfl ?_
  refine gh_callV (As := [.int p1, .int p2, .int p3]) (st := [.int 0, .ref 1457]) (kc := 0) (fr := 7) (lo := 219) (mc := 3) (My := M_X8_lines) (dk D_L_lines 6 rfl) kd_0 rfl rfl w_1240 w_1241 w_1242 w_101 w_1243 okD_X8_lines (by decide) (Nat.le_of_ble_eq_true rfl) rfl (c_X8_lines (p1) (p2) (p3) h _ _ hw) (fun C h1 hx => ?_) (fun r h1 hq => ?_)
  · obtain ⟨rfl, hw⟩ := hx
    exact gxh_catch (i := 5) (v := 1) [] 0 12 15 13 [] rfl ⟨by decide, by decide⟩ (by decide) (fun _ h => nomatch h) (by decide) w_698 w_708 (by decide) (Or.inl ⟨dk D_L_lines 10 rfl, rfl⟩) (dk D_L_lines 11 rfl) (by decide +kernel) (dk D_L_lines 12 rfl) rfl ⟨_, rfl, hw⟩
  · obtain ⟨v, rfl, hw⟩ := hq
    refine gh_i2l (x := v) (dk D_L_lines 7 rfl) ?_
    refine gh_last (i := 0) (x := v) (dk D_L_lines 8 rfl) kd_1457 (by unfold vp_in; decide) ?_
    refine gh_goto (dk D_L_lines 9 rfl) rfl ?_
    refine gh_iconst (v := 0) (dk D_L_lines 13 rfl) (by decide +kernel) ?_
    exact gh_iret (dk D_L_lines 14 rfl) rfl ⟨_, rfl, hw _ rfl⟩
/-! the law's wrapper of war -/
abbrev M_L_war : Mi := (R_law, cL_war, 6, some .int)
def rows_L_war : List (Nat × Instr × Nat) := [(0, .aload 4, 2), (2, .iconst 0, 1), (3, .aload_n 0, 1), (4, .iload_n 1, 1), (5, .iload_n 2, 1), (6, .iload_n 3, 1), (7, .invokevirtual 78, 3), (10, .i2l, 1), (11, .lastore, 1), (12, .goto 11, 3), (15, .astore 5, 2), (17, .iconst 1, 1), (18, .ireturn, 1), (19, .astore 5, 2), (21, .iconst 2, 1), (22, .ireturn, 1), (23, .iconst 0, 1), (24, .ireturn, 1)]
theorem D_L_war : dkA cL_war rows_L_war := by
  unfold dkA
  decide +kernel
theorem okD_L_war : okD yL_war 5 := by
  unfold okD
  decide +kernel
def tb_L_war : Tb := [(0, 12, 15, 13), (0, 12, 19, 81)]
def w_L_war (p1 : Int32) (p2 : Int32) (p3 : Int32) (h : Hp) (Q : Int32 → Hp → Prop) : Prop :=
  w_X8_war p1 p2 p3 h (fun r h1 => wlet (hup h1 1457 0 r) (fun h2 => Q 0 h2)) (fun C h1 => (C = "java/lang/IllegalArgumentException" ∧ Q 1 h1) ∨ (C = "java/lang/IllegalStateException" ∧ Q 2 h1))
theorem c_L_war {X : Cx} (p1 : Int32) (p2 : Int32) (p3 : Int32) (h : Hp) (Q : Int32 → Hp → Prop) (hw : w_L_war p1 p2 p3 h Q) : ConH X yL_war M_L_war tb_L_war 9 276 4 [.ref 0, .int p1, .int p2, .int p3, .ref 1457] h (QI Q) := by
  refine conH_of (by decide +kernel) rfl (Nat.le_of_ble_eq_true rfl) ?_
  unfold w_L_war at hw
  refine gh_aload 4 (dk D_L_war 0 rfl) rfl ?_
  refine gh_iconst (v := 0) (dk D_L_war 1 rfl) (by decide +kernel) ?_
  refine gh_aload_n 0 (dk D_L_war 2 rfl) rfl rfl ?_
  refine gh_iload_n 1 (dk D_L_war 3 rfl) rfl rfl ?_
  refine gh_iload_n 2 (dk D_L_war 4 rfl) rfl rfl ?_
  refine gh_iload_n 3 (dk D_L_war 5 rfl) rfl rfl ?_
  refine gh_callV (As := [.int p1, .int p2, .int p3]) (st := [.int 0, .ref 1457]) (kc := 0) (fr := 8) (lo := 250) (mc := 4) (My := M_X8_war) (dk D_L_war 6 rfl) kd_0 rfl rfl w_1258 w_1259 w_1260 w_101 w_1261 okD_X8_war (by decide) (Nat.le_of_ble_eq_true rfl) rfl (c_X8_war (p1) (p2) (p3) h _ _ hw) (fun C h1 hx => ?_) (fun r h1 hq => ?_)
  · rcases hx with ⟨rfl, hw⟩ | ⟨rfl, hw⟩
    · exact gxh_catch (i := 5) (v := 1) [] 0 12 15 13 [(0, 12, 19, 81)] rfl ⟨by decide, by decide⟩ (by decide) (fun _ h => nomatch h) (by decide) w_698 w_708 (by decide) (Or.inl ⟨dk D_L_war 10 rfl, rfl⟩) (dk D_L_war 11 rfl) (by decide +kernel) (dk D_L_war 12 rfl) rfl ⟨_, rfl, hw⟩
    · exact gxh_catch (i := 5) (v := 2) [(0, 12, 15, 13)] 0 12 19 81 [] rfl ⟨by decide, by decide⟩ (by decide) (List.forall_mem_cons.mpr ⟨⟨by decide, "java/lang/IllegalArgumentException", by decide, by decide, w_698⟩, (fun _ h => nomatch h)⟩) (by decide) w_1257 w_1264 (by decide) (Or.inl ⟨dk D_L_war 13 rfl, rfl⟩) (dk D_L_war 14 rfl) (by decide +kernel) (dk D_L_war 15 rfl) rfl ⟨_, rfl, hw⟩
  · obtain ⟨v, rfl, hw⟩ := hq
    refine gh_i2l (x := v) (dk D_L_war 7 rfl) ?_
    refine gh_last (i := 0) (x := v) (dk D_L_war 8 rfl) kd_1457 (by unfold vp_in; decide) ?_
    refine gh_goto (dk D_L_war 9 rfl) rfl ?_
    refine gh_iconst (v := 0) (dk D_L_war 16 rfl) (by decide +kernel) ?_
    exact gh_iret (dk D_L_war 17 rfl) rfl ⟨_, rfl, hw _ rfl⟩
/-! the law's wrapper of ledger -/
abbrev M_L_ledger : Mi := (R_law, cL_ledger, 5, some .int)
def rows_L_ledger : List (Nat × Instr × Nat) := [(0, .aload_n 3, 1), (1, .iconst 0, 1), (2, .aload_n 0, 1), (3, .iload_n 1, 1), (4, .iload_n 2, 1), (5, .invokevirtual 83, 3), (8, .i2l, 1), (9, .lastore, 1), (10, .goto 7, 3), (13, .astore 4, 2), (15, .iconst 1, 1), (16, .ireturn, 1), (17, .iconst 0, 1), (18, .ireturn, 1)]
theorem D_L_ledger : dkA cL_ledger rows_L_ledger := by
  unfold dkA
  decide +kernel
theorem okD_L_ledger : okD yL_ledger 4 := by
  unfold okD
  decide +kernel
def tb_L_ledger : Tb := [(0, 10, 13, 13)]
def w_L_ledger (p1 : Int32) (p2 : Int32) (h : Hp) (Q : Int32 → Hp → Prop) : Prop :=
  w_X8_ledger p1 p2 h (fun r h1 => wlet (hup h1 1457 0 r) (fun h2 => Q 0 h2)) (fun C h1 => (C = "java/lang/IllegalArgumentException" ∧ Q 1 h1))
theorem c_L_ledger {X : Cx} (p1 : Int32) (p2 : Int32) (h : Hp) (Q : Int32 → Hp → Prop) (hw : w_L_ledger p1 p2 h Q) : ConH X yL_ledger M_L_ledger tb_L_ledger 8 134 2 [.ref 0, .int p1, .int p2, .ref 1457] h (QI Q) := by
  refine conH_of (by decide +kernel) rfl (Nat.le_of_ble_eq_true rfl) ?_
  unfold w_L_ledger at hw
  refine gh_aload_n 3 (dk D_L_ledger 0 rfl) rfl rfl ?_
  refine gh_iconst (v := 0) (dk D_L_ledger 1 rfl) (by decide +kernel) ?_
  refine gh_aload_n 0 (dk D_L_ledger 2 rfl) rfl rfl ?_
  refine gh_iload_n 1 (dk D_L_ledger 3 rfl) rfl rfl ?_
  refine gh_iload_n 2 (dk D_L_ledger 4 rfl) rfl rfl ?_
  refine gh_callV (As := [.int p1, .int p2]) (st := [.int 0, .ref 1457]) (kc := 0) (fr := 7) (lo := 112) (mc := 2) (My := M_X8_ledger) (dk D_L_ledger 5 rfl) kd_0 rfl rfl w_1292 w_1293 w_1294 w_101 w_1295 okD_X8_ledger (by decide) (Nat.le_of_ble_eq_true rfl) rfl (c_X8_ledger (p1) (p2) h _ _ hw) (fun C h1 hx => ?_) (fun r h1 hq => ?_)
  · obtain ⟨rfl, hw⟩ := hx
    exact gxh_catch (i := 4) (v := 1) [] 0 10 13 13 [] rfl ⟨by decide, by decide⟩ (by decide) (fun _ h => nomatch h) (by decide) w_698 w_708 (by decide) (Or.inl ⟨dk D_L_ledger 9 rfl, rfl⟩) (dk D_L_ledger 10 rfl) (by decide +kernel) (dk D_L_ledger 11 rfl) rfl ⟨_, rfl, hw⟩
  · obtain ⟨v, rfl, hw⟩ := hq
    refine gh_i2l (x := v) (dk D_L_ledger 6 rfl) ?_
    refine gh_last (i := 0) (x := v) (dk D_L_ledger 7 rfl) kd_1457 (by unfold vp_in; decide) ?_
    refine gh_goto (dk D_L_ledger 8 rfl) rfl ?_
    refine gh_iconst (v := 0) (dk D_L_ledger 12 rfl) (by decide +kernel) ?_
    exact gh_iret (dk D_L_ledger 13 rfl) rfl ⟨_, rfl, hw _ rfl⟩
/-! the law's wrapper of fits -/
abbrev M_L_fits : Mi := (R_law, cL_fits, 6, some .int)
def rows_L_fits : List (Nat × Instr × Nat) := [(0, .aload 4, 2), (2, .iconst 0, 1), (3, .aload_n 0, 1), (4, .iload_n 1, 1), (5, .iload_n 2, 1), (6, .iload_n 3, 1), (7, .invokevirtual 86, 3), (10, .i2l, 1), (11, .lastore, 1), (12, .goto 7, 3), (15, .astore 5, 2), (17, .iconst 1, 1), (18, .ireturn, 1), (19, .iconst 0, 1), (20, .ireturn, 1)]
theorem D_L_fits : dkA cL_fits rows_L_fits := by
  unfold dkA
  decide +kernel
theorem okD_L_fits : okD yL_fits 5 := by
  unfold okD
  decide +kernel
def tb_L_fits : Tb := [(0, 12, 15, 13)]
def w_L_fits (p1 : Int32) (p2 : Int32) (p3 : Int32) (h : Hp) (Q : Int32 → Hp → Prop) : Prop :=
  w_X8_fits p1 p2 p3 h (fun r h1 => wlet (hup h1 1457 0 r) (fun h2 => Q 0 h2)) (fun C h1 => (C = "java/lang/IllegalArgumentException" ∧ Q 1 h1))
theorem c_L_fits {X : Cx} (p1 : Int32) (p2 : Int32) (p3 : Int32) (h : Hp) (Q : Int32 → Hp → Prop) (hw : w_L_fits p1 p2 p3 h Q) : ConH X yL_fits M_L_fits tb_L_fits 8 159 3 [.ref 0, .int p1, .int p2, .int p3, .ref 1457] h (QI Q) := by
  refine conH_of (by decide +kernel) rfl (Nat.le_of_ble_eq_true rfl) ?_
  unfold w_L_fits at hw
  refine gh_aload 4 (dk D_L_fits 0 rfl) rfl ?_
  refine gh_iconst (v := 0) (dk D_L_fits 1 rfl) (by decide +kernel) ?_
  refine gh_aload_n 0 (dk D_L_fits 2 rfl) rfl rfl ?_
  refine gh_iload_n 1 (dk D_L_fits 3 rfl) rfl rfl ?_
  refine gh_iload_n 2 (dk D_L_fits 4 rfl) rfl rfl ?_
  refine gh_iload_n 3 (dk D_L_fits 5 rfl) rfl rfl ?_
  refine gh_callV (As := [.int p1, .int p2, .int p3]) (st := [.int 0, .ref 1457]) (kc := 0) (fr := 7) (lo := 132) (mc := 3) (My := M_X8_fits) (dk D_L_fits 6 rfl) kd_0 rfl rfl w_1303 w_1304 w_1305 w_101 w_1306 okD_X8_fits (by decide) (Nat.le_of_ble_eq_true rfl) rfl (c_X8_fits (p1) (p2) (p3) h _ _ hw) (fun C h1 hx => ?_) (fun r h1 hq => ?_)
  · obtain ⟨rfl, hw⟩ := hx
    exact gxh_catch (i := 5) (v := 1) [] 0 12 15 13 [] rfl ⟨by decide, by decide⟩ (by decide) (fun _ h => nomatch h) (by decide) w_698 w_708 (by decide) (Or.inl ⟨dk D_L_fits 10 rfl, rfl⟩) (dk D_L_fits 11 rfl) (by decide +kernel) (dk D_L_fits 12 rfl) rfl ⟨_, rfl, hw⟩
  · obtain ⟨v, rfl, hw⟩ := hq
    refine gh_i2l (x := v) (dk D_L_fits 7 rfl) ?_
    refine gh_last (i := 0) (x := v) (dk D_L_fits 8 rfl) kd_1457 (by unfold vp_in; decide) ?_
    refine gh_goto (dk D_L_fits 9 rfl) rfl ?_
    refine gh_iconst (v := 0) (dk D_L_fits 13 rfl) (by decide +kernel) ?_
    exact gh_iret (dk D_L_fits 14 rfl) rfl ⟨_, rfl, hw _ rfl⟩
/-! the law's wrapper of season -/
abbrev M_L_season : Mi := (R_law, cL_season, 6, some .int)
def rows_L_season : List (Nat × Instr × Nat) := [(0, .aload 4, 2), (2, .iconst 0, 1), (3, .aload_n 0, 1), (4, .iload_n 1, 1), (5, .iload_n 2, 1), (6, .iload_n 3, 1), (7, .invokevirtual 89, 3), (10, .i2l, 1), (11, .lastore, 1), (12, .goto 7, 3), (15, .astore 5, 2), (17, .iconst 1, 1), (18, .ireturn, 1), (19, .iconst 0, 1), (20, .ireturn, 1)]
theorem D_L_season : dkA cL_season rows_L_season := by
  unfold dkA
  decide +kernel
theorem okD_L_season : okD yL_season 5 := by
  unfold okD
  decide +kernel
def tb_L_season : Tb := [(0, 12, 15, 13)]
def w_L_season (p1 : Int32) (p2 : Int32) (p3 : Int32) (h : Hp) (Q : Int32 → Hp → Prop) : Prop :=
  w_X8_season p1 p2 p3 h (fun r h1 => wlet (hup h1 1457 0 r) (fun h2 => Q 0 h2)) (fun C h1 => (C = "java/lang/IllegalArgumentException" ∧ Q 1 h1))
theorem c_L_season {X : Cx} (p1 : Int32) (p2 : Int32) (p3 : Int32) (h : Hp) (Q : Int32 → Hp → Prop) (hw : w_L_season p1 p2 p3 h Q) : ConH X yL_season M_L_season tb_L_season 9 273 2 [.ref 0, .int p1, .int p2, .int p3, .ref 1457] h (QI Q) := by
  refine conH_of (by decide +kernel) rfl (Nat.le_of_ble_eq_true rfl) ?_
  unfold w_L_season at hw
  refine gh_aload 4 (dk D_L_season 0 rfl) rfl ?_
  refine gh_iconst (v := 0) (dk D_L_season 1 rfl) (by decide +kernel) ?_
  refine gh_aload_n 0 (dk D_L_season 2 rfl) rfl rfl ?_
  refine gh_iload_n 1 (dk D_L_season 3 rfl) rfl rfl ?_
  refine gh_iload_n 2 (dk D_L_season 4 rfl) rfl rfl ?_
  refine gh_iload_n 3 (dk D_L_season 5 rfl) rfl rfl ?_
  refine gh_callV (As := [.int p1, .int p2, .int p3]) (st := [.int 0, .ref 1457]) (kc := 0) (fr := 8) (lo := 250) (mc := 2) (My := M_X8_season) (dk D_L_season 6 rfl) kd_0 rfl rfl w_1315 w_1316 w_1317 w_101 w_1318 okD_X8_season (by decide) (Nat.le_of_ble_eq_true rfl) rfl (c_X8_season (p1) (p2) (p3) h _ _ hw) (fun C h1 hx => ?_) (fun r h1 hq => ?_)
  · obtain ⟨rfl, hw⟩ := hx
    exact gxh_catch (i := 5) (v := 1) [] 0 12 15 13 [] rfl ⟨by decide, by decide⟩ (by decide) (fun _ h => nomatch h) (by decide) w_698 w_708 (by decide) (Or.inl ⟨dk D_L_season 10 rfl, rfl⟩) (dk D_L_season 11 rfl) (by decide +kernel) (dk D_L_season 12 rfl) rfl ⟨_, rfl, hw⟩
  · obtain ⟨v, rfl, hw⟩ := hq
    refine gh_i2l (x := v) (dk D_L_season 7 rfl) ?_
    refine gh_last (i := 0) (x := v) (dk D_L_season 8 rfl) kd_1457 (by unfold vp_in; decide) ?_
    refine gh_goto (dk D_L_season 9 rfl) rfl ?_
    refine gh_iconst (v := 0) (dk D_L_season 13 rfl) (by decide +kernel) ?_
    exact gh_iret (dk D_L_season 14 rfl) rfl ⟨_, rfl, hw _ rfl⟩
/-! the law's wrapper of span -/
abbrev M_L_span : Mi := (R_law, cL_span, 8, some .int)
def rows_L_span : List (Nat × Instr × Nat) := [(0, .aload 6, 2), (2, .iconst 0, 1), (3, .aload_n 0, 1), (4, .iload_n 1, 1), (5, .iload_n 2, 1), (6, .iload_n 3, 1), (7, .iload 4, 2), (9, .iload 5, 2), (11, .invokevirtual 92, 3), (14, .i2l, 1), (15, .lastore, 1), (16, .goto 7, 3), (19, .astore 7, 2), (21, .iconst 1, 1), (22, .ireturn, 1), (23, .iconst 0, 1), (24, .ireturn, 1)]
theorem D_L_span : dkA cL_span rows_L_span := by
  unfold dkA
  decide +kernel
theorem okD_L_span : okD yL_span 7 := by
  unfold okD
  decide +kernel
def tb_L_span : Tb := [(0, 16, 19, 13)]
def w_L_span (p1 : Int32) (p2 : Int32) (p3 : Int32) (p4 : Int32) (p5 : Int32) (h : Hp) (Q : Int32 → Hp → Prop) : Prop :=
  w_X8_span p1 p2 p3 p4 p5 h (fun r h1 => wlet (hup h1 1457 0 r) (fun h2 => Q 0 h2)) (fun C h1 => (C = "java/lang/IllegalArgumentException" ∧ Q 1 h1))
theorem c_L_span {X : Cx} (p1 : Int32) (p2 : Int32) (p3 : Int32) (p4 : Int32) (p5 : Int32) (h : Hp) (Q : Int32 → Hp → Prop) (hw : w_L_span p1 p2 p3 p4 p5 h Q) : ConH X yL_span M_L_span tb_L_span 9 278 4 [.ref 0, .int p1, .int p2, .int p3, .int p4, .int p5, .ref 1457] h (QI Q) := by
  refine conH_of (by decide +kernel) rfl (Nat.le_of_ble_eq_true rfl) ?_
  unfold w_L_span at hw
  refine gh_aload 6 (dk D_L_span 0 rfl) rfl ?_
  refine gh_iconst (v := 0) (dk D_L_span 1 rfl) (by decide +kernel) ?_
  refine gh_aload_n 0 (dk D_L_span 2 rfl) rfl rfl ?_
  refine gh_iload_n 1 (dk D_L_span 3 rfl) rfl rfl ?_
  refine gh_iload_n 2 (dk D_L_span 4 rfl) rfl rfl ?_
  refine gh_iload_n 3 (dk D_L_span 5 rfl) rfl rfl ?_
  refine gh_iload 4 (dk D_L_span 6 rfl) rfl ?_
  refine gh_iload 5 (dk D_L_span 7 rfl) rfl ?_
  refine gh_callV (As := [.int p1, .int p2, .int p3, .int p4, .int p5]) (st := [.int 0, .ref 1457]) (kc := 0) (fr := 8) (lo := 250) (mc := 4) (My := M_X8_span) (dk D_L_span 8 rfl) kd_0 rfl rfl w_1338 w_1339 w_1340 w_101 w_1341 okD_X8_span (by decide) (Nat.le_of_ble_eq_true rfl) rfl (c_X8_span (p1) (p2) (p3) (p4) (p5) h _ _ hw) (fun C h1 hx => ?_) (fun r h1 hq => ?_)
  · obtain ⟨rfl, hw⟩ := hx
    exact gxh_catch (i := 7) (v := 1) [] 0 16 19 13 [] rfl ⟨by decide, by decide⟩ (by decide) (fun _ h => nomatch h) (by decide) w_698 w_708 (by decide) (Or.inl ⟨dk D_L_span 12 rfl, rfl⟩) (dk D_L_span 13 rfl) (by decide +kernel) (dk D_L_span 14 rfl) rfl ⟨_, rfl, hw⟩
  · obtain ⟨v, rfl, hw⟩ := hq
    refine gh_i2l (x := v) (dk D_L_span 9 rfl) ?_
    refine gh_last (i := 0) (x := v) (dk D_L_span 10 rfl) kd_1457 (by unfold vp_in; decide) ?_
    refine gh_goto (dk D_L_span 11 rfl) rfl ?_
    refine gh_iconst (v := 0) (dk D_L_span 15 rfl) (by decide +kernel) ?_
    exact gh_iret (dk D_L_span 16 rfl) rfl ⟨_, rfl, hw _ rfl⟩
