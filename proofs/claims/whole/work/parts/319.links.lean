def wsL : List (Nat × Cond) := [(429, .methodLink RX11 81 yX5_hasRoom), (433, .methodLink RX11 87 yX5_put), (441, .methodLink RX11 95 yX7_open), (483, .methodLink RX11 98 yX7_atEnd), (487, .methodLink RX11 101 yX7_readLine), (599, .methodLink RX11 104 yX7_close), (614, .methodLink RX11 107 yX7_exchange), (618, .methodLink RX11 111 yX10_forget), (630, .methodLink RX11 123 yX3_setPart), (640, .methodLink RX11 127 yX3_setShip), (709, .methodLink RX11 130 yX6_hasRow), (1019, .methodLink RX11 153 yX6_rowOrder), (650, .methodLink RX11 157 yX11_isOff), (654, .methodLink RX11 161 yX4_start), (658, .methodLink RX11 164 yX4_goOn), (704, .methodLink RX11 168 yX4_look), (713, .methodLink RX11 172 yX6_orderOfRow), (723, .methodLink RX11 175 yX4_step), (728, .methodLink RX11 179 yX8_follow), (758, .methodLink RX11 195 yX11_farthest), (769, .methodLink RX11 199 yX3_copy), (761, .methodLink RX11 203 yJ9_abs_0f7a4), (764, .methodLink RX11 211 yJ9_max_7cf53), (780, .methodLink RX11 214 yX10_addMark), (793, .methodLink RX11 220 yX11_isDistance), (796, .methodLink RX11 223 yX10_find), (832, .methodLink RX11 239 yX10_suspectAt), (836, .methodLink RX11 242 yX10_look), (841, .methodLink RX11 247 yX1_greatest), (886, .methodLink RX11 251 yX6_gearOf), (891, .methodLink RX11 254 yX6_hasGears), (899, .methodLink RX11 261 yX0_find), (913, .methodLink RX11 267 yX0_gearAt), (921, .methodLink RX11 270 yX9_start), (931, .methodLink RX11 271 yX9_step), (940, .methodLink RX11 275 yX9_takeBack), (903, .methodLink RX0 23 yX0_aheadOf), (910, .methodLink RX0 29 yX0_walk), (906, .methodLink RX0 42 yX0_changed), (845, .methodLink RX1 43 yJ9_min_7cf53), (846, .methodLink RX1 52 yX4_start), (847, .methodLink RX1 56 yX4_packed), (848, .methodLink RX1 60 yJ7_fill_d0a16), (851, .methodLink RX1 66 yJ7_fill_53178), (852, .methodLink RX1 69 yX6_orderOfRow), (853, .methodLink RX1 74 yX1_goOn), (867, .methodLink RX1 78 yX1_partGroups), (878, .methodLink RX1 81 yX1_greatestSize), (856, .methodLink RX1 85 yX3_copy), (857, .methodLink RX1 89 yX10_suspectAt), (858, .methodLink RX1 93 yX10_fail), (859, .methodLink RX1 97 yX4_unpack), (866, .methodLink RX1 101 yX4_step), (871, .methodLink RX1 110 yX1_sameOff), (875, .methodLink RX1 114 yX1_newLeader), (874, .methodLink RX1 117 yX4_offOf), (881, .methodLink RX1 121 yJ9_max_7cf53), (607, .methodLink RX2 35 yX6_gearOf), (674, .methodLink RX2 41 yX4_look), (678, .methodLink RX2 44 yX2_joined), (697, .methodLink RX4 42 yX4_lagging), (700, .methodLink RX4 46 yX4_pull), (662, .methodLink RX4 53 yX4_packed), (666, .methodLink RX4 57 yX6_orderIn), (693, .methodLink RX4 63 yX4_step), (703, .methodLink RX4 67 yJ9_min_7cf53), (863, .methodLink RX4 74 yX4_offOf), (457, .methodLink RX5 17 yJ9_min_7cf53), (460, .methodLink RX5 29 yX5_advance), (464, .methodLink RX5 41 yX5_readWord), (470, .methodLink RX5 44 yX5_readNumber), (473, .methodLink RX5 47 yX5_readSign), (467, .methodLink RX5 51 yX5_isOfLanguage), (476, .methodLink RX5 55 yX5_comparison), (479, .methodLink RX5 60 yX5_singleSign), (449, .methodLink RX6 50 yX2_clear), (717, .methodLink RX6 69 yX6_hasRow), (718, .methodLink RX6 73 yJ9_min_7cf53), (719, .methodLink RX6 79 yX6_rowOrder), (670, .methodLink RX6 82 yX2_workOut), (687, .methodLink RX6 94 yJ9_min_f86c9), (690, .methodLink RX6 97 yJ9_max_f86c9), (445, .methodLink RX7 48 yX6_clear), (453, .methodLink RX7 58 yX5_open), (603, .methodLink RX7 68 yX2_settleGears), (608, .methodLink RX7 79 yX2_tableOf), (491, .methodLink RX7 93 yX7_readWheelLine), (567, .methodLink RX7 97 yX7_readGearLine), (578, .methodLink RX7 100 yX7_readSafeLine), (581, .methodLink RX7 103 yX7_readRowLine), (494, .methodLink RX7 106 yX7_refuse), (516, .methodLink RX7 110 yX7_atSign), (505, .methodLink RX7 113 yX5_advance), (497, .methodLink RX7 122 yX6_startWheelLine), (502, .methodLink RX7 126 yX7_atWord), (506, .methodLink RX7 129 yX7_readExpression), (558, .methodLink RX7 133 yX6_endIf), (563, .methodLink RX7 137 yX6_endWheelLine), (570, .methodLink RX7 140 yX6_gearOf), (574, .methodLink RX7 144 yX6_addGear), (584, .methodLink RX7 153 yX6_addRow), (588, .methodLink RX7 156 yX7_readRowOrder), (591, .methodLink RX7 159 yX6_latestLength), (595, .methodLink RX7 165 yX6_addRowOrder), (509, .methodLink RX7 180 yX5_bytesInAll), (513, .methodLink RX7 183 yX7_goOnBehindOperand), (548, .methodLink RX7 186 yX7_readOperand), (545, .methodLink RX7 189 yX7_putOff), (541, .methodLink RX7 194 yX2_addOne), (552, .methodLink RX7 197 yX7_gearWordHere), (555, .methodLink RX7 200 yX7_valueHere), (528, .methodLink RX7 204 yX2_write), (519, .methodLink RX7 208 yX7_closeOne), (532, .methodLink RX7 211 yX7_signHere), (525, .methodLink RX7 214 yX2_rank), (538, .methodLink RX7 217 yX7_endExpression), (522, .methodLink RX7 220 yX7_writeWaiting), (732, .methodLink RX8 26 yJ7_fill_53178), (735, .methodLink RX8 32 yX4_start), (736, .methodLink RX8 36 yX8_keep), (741, .methodLink RX8 40 yX6_orderIn), (742, .methodLink RX8 46 yX4_step), (743, .methodLink RX8 60 yX8_swingOf), (739, .methodLink RX8 67 yX4_packed), (746, .methodLink RX8 73 yX4_offOf), (750, .methodLink RX8 77 yJ9_min_7cf53), (751, .methodLink RX8 82 yJ9_max_7cf53), (925, .methodLink RX9 26 yX4_start), (926, .methodLink RX9 30 yX4_packed), (935, .methodLink RX9 34 yX4_step), (944, .methodLink RX9 38 yX4_unpack), (784, .methodLink RX10 39 yX10_forget), (808, .methodLink RX10 50 yX10_look), (811, .methodLink RX10 54 yX3_setPart), (800, .methodLink RX10 64 yX3_copy), (802, .methodLink RX10 71 yX10_addIfFits), (815, .methodLink RX10 75 yX10_tryPart), (819, .methodLink RX10 79 yX10_tryPair), (822, .methodLink RX10 83 yX10_sumUp), (805, .methodLink RX10 96 yX10_fail), (812, .methodLink RX10 100 yX4_start), (813, .methodLink RX10 103 yX4_goOn), (814, .methodLink RX10 110 yJ9_abs_0f7a4), (825, .methodLink RX10 122 yX10_bitOf), (957, .methodLink RL 7 yX11_row), (119, .methodLink RL 17 yX11_init), (1022, .methodLink RL 20 yX12_init), (425, .methodLink RL 21 yX11_feed), (1164, .methodLink RL 25 yX12_feed), (437, .methodLink RL 26 yX11_text), (1168, .methodLink RL 30 yX12_text), (622, .methodLink RL 31 yX11_fault), (1311, .methodLink RL 34 yX12_fault), (626, .methodLink RL 35 yX11_part), (1315, .methodLink RL 39 yX12_part), (636, .methodLink RL 40 yX11_ship), (1325, .methodLink RL 43 yX12_ship), (953, .methodLink RL 44 yL_row), (1329, .methodLink RL 49 yX12_row), (1160, .methodLink RL 50 yX12_thrown), (646, .methodLink RL 54 yX11_led), (1333, .methodLink RL 58 yX12_led), (705, .methodLink RL 59 yX11_steer), (1379, .methodLink RL 63 yX12_steer), (724, .methodLink RL 64 yX11_hunt), (1386, .methodLink RL 67 yX12_hunt), (754, .methodLink RL 68 yX11_worst), (1400, .methodLink RL 71 yX12_worst), (765, .methodLink RL 72 yX11_holds), (1407, .methodLink RL 75 yX12_holds), (776, .methodLink RL 76 yX11_mark), (1411, .methodLink RL 79 yX12_mark), (785, .methodLink RL 80 yX11_wipe), (1415, .methodLink RL 83 yX12_wipe), (789, .methodLink RL 84 yX11_fits), (1419, .methodLink RL 87 yX12_fits), (828, .methodLink RL 88 yX11_suspect), (1438, .methodLink RL 91 yX12_suspect), (837, .methodLink RL 92 yX11_parts), (1442, .methodLink RL 95 yX12_parts), (882, .methodLink RL 96 yX11_named), (1455, .methodLink RL 99 yX12_named), (887, .methodLink RL 100 yX11_safe), (1459, .methodLink RL 103 yX12_safe), (895, .methodLink RL 104 yX11_drill), (1472, .methodLink RL 107 yX12_drill), (917, .methodLink RL 108 yX11_begin), (1482, .methodLink RL 112 yX12_begin), (927, .methodLink RL 113 yX11_order), (1489, .methodLink RL 116 yX12_order), (936, .methodLink RL 117 yX11_back), (1496, .methodLink RL 120 yX12_back), (945, .methodLink RL 121 yX11_now), (1500, .methodLink RL 124 yX12_now), (949, .methodLink RL 125 yX11_count), (1504, .methodLink RL 128 yX12_count), (1175, .methodLink RX12 121 yX12_here), (1178, .methodLink RX12 131 yX12_isSmall), (1181, .methodLink RX12 135 yX12_word), (1227, .methodLink RX12 141 yX12_name), (1230, .methodLink RX12 144 yX12_isDigit), (1233, .methodLink RX12 147 yX12_sign), (1184, .methodLink RX12 153 yJ0_length_8abf5), (1193, .methodLink RX12 158 yJ0_charAt_5068e), (1172, .methodLink RX12 168 yX12_next), (1242, .methodLink RX12 171 yX12_wrong), (1239, .methodLink RX12 174 yX12_isWord), (1245, .methodLink RX12 189 yX12_wheelLine), (1281, .methodLink RX12 192 yX12_gearLine), (1287, .methodLink RX12 198 yX12_either), (1302, .methodLink RX12 204 yX12_rowLine), (1275, .methodLink RX12 207 yX12_isSign), (1248, .methodLink RX12 216 yX12_expression), (1260, .methodLink RX12 219 yX12_goOn), (1284, .methodLink RX12 222 yX12_found), (1305, .methodLink RX12 226 yX12_numeral), (1251, .methodLink RX12 233 yX12_conjunction), (1257, .methodLink RX12 236 yX12_knot), (1263, .methodLink RX12 239 yX12_puts), (1254, .methodLink RX12 243 yX12_negation), (1266, .methodLink RX12 246 yX12_sum), (1269, .methodLink RX12 249 yX12_product), (1272, .methodLink RX12 252 yX12_primary), (1278, .methodLink RX12 258 yX12_closes), (1290, .methodLink RX12 264 yX12_both), (1296, .methodLink RX12 267 yX12_bitKnot), (1299, .methodLink RX12 270 yX12_lays), (1293, .methodLink RX12 274 yX12_holding), (1236, .methodLink RX12 277 yX12_line), (1308, .methodLink RX12 283 yX12_laid), (1319, .methodLink RX12 304 yX12_least), (1322, .methodLink RX12 308 yX12_greatest), (1374, .methodLink RX12 311 yJ9_abs_0f7a4), (1375, .methodLink RX12 316 yJ9_min_7cf53), (1371, .methodLink RX12 319 yX12_nearer), (1353, .methodLink RX12 326 yX12_is), (1356, .methodLink RX12 330 yJ9_abs_067f4), (1350, .methodLink RX12 337 yX12_works), (1361, .methodLink RX12 340 yX12_nameOf), (1347, .methodLink RX12 344 yX12_goes), (1366, .methodLink RX12 352 yJ9_min_f86c9), (1367, .methodLink RX12 355 yJ9_max_f86c9), (1337, .methodLink RX12 358 yX12_isOff), (1341, .methodLink RX12 362 yX12_starts), (1344, .methodLink RX12 365 yX12_ordered), (1368, .methodLink RX12 368 yX12_steps), (1376, .methodLink RX12 371 yX12_what), (1383, .methodLink RX12 374 yX12_rowed), (1393, .methodLink RX12 377 yX12_keeps), (1396, .methodLink RX12 386 yX12_isLike), (1390, .methodLink RX12 389 yX12_hunts), (1399, .methodLink RX12 392 yJ9_max_7cf53), (1404, .methodLink RX12 394 yX12_furthest), (1429, .methodLink RX12 406 yX12_isFit), (1432, .methodLink RX12 409 yX12_adds), (1435, .methodLink RX12 413 yX12_pairs), (1423, .methodLink RX12 416 yX12_isDoubt), (1426, .methodLink RX12 419 yX12_seeks), (1449, .methodLink RX12 422 yX12_wake), (1452, .methodLink RX12 425 yX12_isSame), (1446, .methodLink RX12 429 yX12_greatestGroup), (1469, .methodLink RX12 432 yX12_holdsBy), (1463, .methodLink RX12 435 yX12_isGears), (1466, .methodLink RX12 438 yX12_isSafe), (1479, .methodLink RX12 441 yX12_mayChange), (1476, .methodLink RX12 444 yX12_measures), (1486, .methodLink RX12 447 yX12_leaves), (1493, .methodLink RX12 457 yX12_brings), (1188, .methodLink RJ0 335 yJ0_coder_7d493), (1197, .methodLink RJ0 492 yJ0_isLatin1_aae02), (1201, .methodLink RJ0 495 yJ1_charAt_3b067), (1211, .methodLink RJ0 498 yJ2_charAt_3b067), (1208, .methodLink RJ0 1059 yJ3_checkIndex_8e157), (1204, .methodLink RJ1 9 yJ0_checkIndex_df160), (1217, .methodLink RJ2 48 yJ2_length_9d52b), (1214, .methodLink RJ2 67 yJ2_checkIndex_2214a), (1221, .methodLink RJ2 71 yJ2_getChar_3b067), (1220, .methodLink RJ2 414 yJ0_checkIndex_df160)]
set_option maxRecDepth 100000 in
theorem wdL : wsL.all (fun q => pz_gwi q.1 q.2) = true := by decide +kernel
def wsN : List (Nat × Cond) := [(0, .methodLinkNest RX11 11 yX3_init "HuntingRudder"), (1, .methodLinkNest RX11 23 yX4_init "HuntingRudder"), (2, .methodLinkNest RX11 30 yX8_init "HuntingRudder"), (4, .methodLinkNest RX11 37 yX10_init "HuntingRudder"), (7, .methodLinkNest RX11 44 yX1_init "HuntingRudder"), (10, .methodLinkNest RX11 51 yX0_init "HuntingRudder"), (11, .methodLinkNest RX11 58 yX9_init "HuntingRudder"), (13, .methodLinkNest RX11 65 yX7_init "HuntingRudder"), (17, .methodLinkNest RX11 72 yX6_init "HuntingRudder"), (8, .methodLinkNest RX1 9 yX4_init "HuntingRudder"), (9, .methodLinkNest RX1 18 yX3_init "HuntingRudder"), (16, .methodLinkNest RX6 11 yX2_init "HuntingRudder"), (14, .methodLinkNest RX7 11 yX5_init "HuntingRudder"), (15, .methodLinkNest RX7 32 yX6_init "HuntingRudder"), (3, .methodLinkNest RX8 11 yX4_init "HuntingRudder"), (12, .methodLinkNest RX9 11 yX4_init "HuntingRudder"), (5, .methodLinkNest RX10 11 yX4_init "HuntingRudder"), (6, .methodLinkNest RX10 20 yX3_init "HuntingRudder")]
set_option maxRecDepth 100000 in
theorem wdN : wsN.all (fun q => pz_nwi q.1 q.2) = true := by decide +kernel
set_option maxRecDepth 100000 in
theorem lkX11_81 : Cond.methodLink RX11 81 yX5_hasRoom ∈ pz_gw := pz_gwl wdL 0 rfl
set_option maxRecDepth 100000 in
theorem lkX11_87 : Cond.methodLink RX11 87 yX5_put ∈ pz_gw := pz_gwl wdL 1 rfl
set_option maxRecDepth 100000 in
theorem lkX11_95 : Cond.methodLink RX11 95 yX7_open ∈ pz_gw := pz_gwl wdL 2 rfl
set_option maxRecDepth 100000 in
theorem lkX11_98 : Cond.methodLink RX11 98 yX7_atEnd ∈ pz_gw := pz_gwl wdL 3 rfl
set_option maxRecDepth 100000 in
theorem lkX11_101 : Cond.methodLink RX11 101 yX7_readLine ∈ pz_gw := pz_gwl wdL 4 rfl
set_option maxRecDepth 100000 in
theorem lkX11_104 : Cond.methodLink RX11 104 yX7_close ∈ pz_gw := pz_gwl wdL 5 rfl
set_option maxRecDepth 100000 in
theorem lkX11_107 : Cond.methodLink RX11 107 yX7_exchange ∈ pz_gw := pz_gwl wdL 6 rfl
set_option maxRecDepth 100000 in
theorem lkX11_111 : Cond.methodLink RX11 111 yX10_forget ∈ pz_gw := pz_gwl wdL 7 rfl
set_option maxRecDepth 100000 in
theorem lkX11_123 : Cond.methodLink RX11 123 yX3_setPart ∈ pz_gw := pz_gwl wdL 8 rfl
set_option maxRecDepth 100000 in
theorem lkX11_127 : Cond.methodLink RX11 127 yX3_setShip ∈ pz_gw := pz_gwl wdL 9 rfl
set_option maxRecDepth 100000 in
theorem lkX11_130 : Cond.methodLink RX11 130 yX6_hasRow ∈ pz_gw := pz_gwl wdL 10 rfl
set_option maxRecDepth 100000 in
theorem lkX11_153 : Cond.methodLink RX11 153 yX6_rowOrder ∈ pz_gw := pz_gwl wdL 11 rfl
set_option maxRecDepth 100000 in
theorem lkX11_157 : Cond.methodLink RX11 157 yX11_isOff ∈ pz_gw := pz_gwl wdL 12 rfl
set_option maxRecDepth 100000 in
theorem lkX11_161 : Cond.methodLink RX11 161 yX4_start ∈ pz_gw := pz_gwl wdL 13 rfl
set_option maxRecDepth 100000 in
theorem lkX11_164 : Cond.methodLink RX11 164 yX4_goOn ∈ pz_gw := pz_gwl wdL 14 rfl
set_option maxRecDepth 100000 in
theorem lkX11_168 : Cond.methodLink RX11 168 yX4_look ∈ pz_gw := pz_gwl wdL 15 rfl
set_option maxRecDepth 100000 in
theorem lkX11_172 : Cond.methodLink RX11 172 yX6_orderOfRow ∈ pz_gw := pz_gwl wdL 16 rfl
set_option maxRecDepth 100000 in
theorem lkX11_175 : Cond.methodLink RX11 175 yX4_step ∈ pz_gw := pz_gwl wdL 17 rfl
set_option maxRecDepth 100000 in
theorem lkX11_179 : Cond.methodLink RX11 179 yX8_follow ∈ pz_gw := pz_gwl wdL 18 rfl
set_option maxRecDepth 100000 in
theorem lkX11_195 : Cond.methodLink RX11 195 yX11_farthest ∈ pz_gw := pz_gwl wdL 19 rfl
set_option maxRecDepth 100000 in
theorem lkX11_199 : Cond.methodLink RX11 199 yX3_copy ∈ pz_gw := pz_gwl wdL 20 rfl
set_option maxRecDepth 100000 in
theorem lkX11_203 : Cond.methodLink RX11 203 yJ9_abs_0f7a4 ∈ pz_gw := pz_gwl wdL 21 rfl
set_option maxRecDepth 100000 in
theorem lkX11_211 : Cond.methodLink RX11 211 yJ9_max_7cf53 ∈ pz_gw := pz_gwl wdL 22 rfl
set_option maxRecDepth 100000 in
theorem lkX11_214 : Cond.methodLink RX11 214 yX10_addMark ∈ pz_gw := pz_gwl wdL 23 rfl
set_option maxRecDepth 100000 in
theorem lkX11_220 : Cond.methodLink RX11 220 yX11_isDistance ∈ pz_gw := pz_gwl wdL 24 rfl
set_option maxRecDepth 100000 in
theorem lkX11_223 : Cond.methodLink RX11 223 yX10_find ∈ pz_gw := pz_gwl wdL 25 rfl
set_option maxRecDepth 100000 in
theorem lkX11_239 : Cond.methodLink RX11 239 yX10_suspectAt ∈ pz_gw := pz_gwl wdL 26 rfl
set_option maxRecDepth 100000 in
theorem lkX11_242 : Cond.methodLink RX11 242 yX10_look ∈ pz_gw := pz_gwl wdL 27 rfl
set_option maxRecDepth 100000 in
theorem lkX11_247 : Cond.methodLink RX11 247 yX1_greatest ∈ pz_gw := pz_gwl wdL 28 rfl
set_option maxRecDepth 100000 in
theorem lkX11_251 : Cond.methodLink RX11 251 yX6_gearOf ∈ pz_gw := pz_gwl wdL 29 rfl
set_option maxRecDepth 100000 in
theorem lkX11_254 : Cond.methodLink RX11 254 yX6_hasGears ∈ pz_gw := pz_gwl wdL 30 rfl
set_option maxRecDepth 100000 in
theorem lkX11_261 : Cond.methodLink RX11 261 yX0_find ∈ pz_gw := pz_gwl wdL 31 rfl
set_option maxRecDepth 100000 in
theorem lkX11_267 : Cond.methodLink RX11 267 yX0_gearAt ∈ pz_gw := pz_gwl wdL 32 rfl
set_option maxRecDepth 100000 in
theorem lkX11_270 : Cond.methodLink RX11 270 yX9_start ∈ pz_gw := pz_gwl wdL 33 rfl
set_option maxRecDepth 100000 in
theorem lkX11_271 : Cond.methodLink RX11 271 yX9_step ∈ pz_gw := pz_gwl wdL 34 rfl
set_option maxRecDepth 100000 in
theorem lkX11_275 : Cond.methodLink RX11 275 yX9_takeBack ∈ pz_gw := pz_gwl wdL 35 rfl
set_option maxRecDepth 100000 in
theorem lkX0_23 : Cond.methodLink RX0 23 yX0_aheadOf ∈ pz_gw := pz_gwl wdL 36 rfl
set_option maxRecDepth 100000 in
theorem lkX0_29 : Cond.methodLink RX0 29 yX0_walk ∈ pz_gw := pz_gwl wdL 37 rfl
set_option maxRecDepth 100000 in
theorem lkX0_42 : Cond.methodLink RX0 42 yX0_changed ∈ pz_gw := pz_gwl wdL 38 rfl
set_option maxRecDepth 100000 in
theorem lkX1_43 : Cond.methodLink RX1 43 yJ9_min_7cf53 ∈ pz_gw := pz_gwl wdL 39 rfl
set_option maxRecDepth 100000 in
theorem lkX1_52 : Cond.methodLink RX1 52 yX4_start ∈ pz_gw := pz_gwl wdL 40 rfl
set_option maxRecDepth 100000 in
theorem lkX1_56 : Cond.methodLink RX1 56 yX4_packed ∈ pz_gw := pz_gwl wdL 41 rfl
set_option maxRecDepth 100000 in
theorem lkX1_60 : Cond.methodLink RX1 60 yJ7_fill_d0a16 ∈ pz_gw := pz_gwl wdL 42 rfl
set_option maxRecDepth 100000 in
theorem lkX1_66 : Cond.methodLink RX1 66 yJ7_fill_53178 ∈ pz_gw := pz_gwl wdL 43 rfl
set_option maxRecDepth 100000 in
theorem lkX1_69 : Cond.methodLink RX1 69 yX6_orderOfRow ∈ pz_gw := pz_gwl wdL 44 rfl
set_option maxRecDepth 100000 in
theorem lkX1_74 : Cond.methodLink RX1 74 yX1_goOn ∈ pz_gw := pz_gwl wdL 45 rfl
set_option maxRecDepth 100000 in
theorem lkX1_78 : Cond.methodLink RX1 78 yX1_partGroups ∈ pz_gw := pz_gwl wdL 46 rfl
set_option maxRecDepth 100000 in
theorem lkX1_81 : Cond.methodLink RX1 81 yX1_greatestSize ∈ pz_gw := pz_gwl wdL 47 rfl
set_option maxRecDepth 100000 in
theorem lkX1_85 : Cond.methodLink RX1 85 yX3_copy ∈ pz_gw := pz_gwl wdL 48 rfl
set_option maxRecDepth 100000 in
theorem lkX1_89 : Cond.methodLink RX1 89 yX10_suspectAt ∈ pz_gw := pz_gwl wdL 49 rfl
set_option maxRecDepth 100000 in
theorem lkX1_93 : Cond.methodLink RX1 93 yX10_fail ∈ pz_gw := pz_gwl wdL 50 rfl
set_option maxRecDepth 100000 in
theorem lkX1_97 : Cond.methodLink RX1 97 yX4_unpack ∈ pz_gw := pz_gwl wdL 51 rfl
set_option maxRecDepth 100000 in
theorem lkX1_101 : Cond.methodLink RX1 101 yX4_step ∈ pz_gw := pz_gwl wdL 52 rfl
set_option maxRecDepth 100000 in
theorem lkX1_110 : Cond.methodLink RX1 110 yX1_sameOff ∈ pz_gw := pz_gwl wdL 53 rfl
set_option maxRecDepth 100000 in
theorem lkX1_114 : Cond.methodLink RX1 114 yX1_newLeader ∈ pz_gw := pz_gwl wdL 54 rfl
set_option maxRecDepth 100000 in
theorem lkX1_117 : Cond.methodLink RX1 117 yX4_offOf ∈ pz_gw := pz_gwl wdL 55 rfl
set_option maxRecDepth 100000 in
theorem lkX1_121 : Cond.methodLink RX1 121 yJ9_max_7cf53 ∈ pz_gw := pz_gwl wdL 56 rfl
set_option maxRecDepth 100000 in
theorem lkX2_35 : Cond.methodLink RX2 35 yX6_gearOf ∈ pz_gw := pz_gwl wdL 57 rfl
set_option maxRecDepth 100000 in
theorem lkX2_41 : Cond.methodLink RX2 41 yX4_look ∈ pz_gw := pz_gwl wdL 58 rfl
set_option maxRecDepth 100000 in
theorem lkX2_44 : Cond.methodLink RX2 44 yX2_joined ∈ pz_gw := pz_gwl wdL 59 rfl
set_option maxRecDepth 100000 in
theorem lkX4_42 : Cond.methodLink RX4 42 yX4_lagging ∈ pz_gw := pz_gwl wdL 60 rfl
set_option maxRecDepth 100000 in
theorem lkX4_46 : Cond.methodLink RX4 46 yX4_pull ∈ pz_gw := pz_gwl wdL 61 rfl
set_option maxRecDepth 100000 in
theorem lkX4_53 : Cond.methodLink RX4 53 yX4_packed ∈ pz_gw := pz_gwl wdL 62 rfl
set_option maxRecDepth 100000 in
theorem lkX4_57 : Cond.methodLink RX4 57 yX6_orderIn ∈ pz_gw := pz_gwl wdL 63 rfl
set_option maxRecDepth 100000 in
theorem lkX4_63 : Cond.methodLink RX4 63 yX4_step ∈ pz_gw := pz_gwl wdL 64 rfl
set_option maxRecDepth 100000 in
theorem lkX4_67 : Cond.methodLink RX4 67 yJ9_min_7cf53 ∈ pz_gw := pz_gwl wdL 65 rfl
set_option maxRecDepth 100000 in
theorem lkX4_74 : Cond.methodLink RX4 74 yX4_offOf ∈ pz_gw := pz_gwl wdL 66 rfl
set_option maxRecDepth 100000 in
theorem lkX5_17 : Cond.methodLink RX5 17 yJ9_min_7cf53 ∈ pz_gw := pz_gwl wdL 67 rfl
set_option maxRecDepth 100000 in
theorem lkX5_29 : Cond.methodLink RX5 29 yX5_advance ∈ pz_gw := pz_gwl wdL 68 rfl
set_option maxRecDepth 100000 in
theorem lkX5_41 : Cond.methodLink RX5 41 yX5_readWord ∈ pz_gw := pz_gwl wdL 69 rfl
set_option maxRecDepth 100000 in
theorem lkX5_44 : Cond.methodLink RX5 44 yX5_readNumber ∈ pz_gw := pz_gwl wdL 70 rfl
set_option maxRecDepth 100000 in
theorem lkX5_47 : Cond.methodLink RX5 47 yX5_readSign ∈ pz_gw := pz_gwl wdL 71 rfl
set_option maxRecDepth 100000 in
theorem lkX5_51 : Cond.methodLink RX5 51 yX5_isOfLanguage ∈ pz_gw := pz_gwl wdL 72 rfl
set_option maxRecDepth 100000 in
theorem lkX5_55 : Cond.methodLink RX5 55 yX5_comparison ∈ pz_gw := pz_gwl wdL 73 rfl
set_option maxRecDepth 100000 in
theorem lkX5_60 : Cond.methodLink RX5 60 yX5_singleSign ∈ pz_gw := pz_gwl wdL 74 rfl
set_option maxRecDepth 100000 in
theorem lkX6_50 : Cond.methodLink RX6 50 yX2_clear ∈ pz_gw := pz_gwl wdL 75 rfl
set_option maxRecDepth 100000 in
theorem lkX6_69 : Cond.methodLink RX6 69 yX6_hasRow ∈ pz_gw := pz_gwl wdL 76 rfl
set_option maxRecDepth 100000 in
theorem lkX6_73 : Cond.methodLink RX6 73 yJ9_min_7cf53 ∈ pz_gw := pz_gwl wdL 77 rfl
set_option maxRecDepth 100000 in
theorem lkX6_79 : Cond.methodLink RX6 79 yX6_rowOrder ∈ pz_gw := pz_gwl wdL 78 rfl
set_option maxRecDepth 100000 in
theorem lkX6_82 : Cond.methodLink RX6 82 yX2_workOut ∈ pz_gw := pz_gwl wdL 79 rfl
set_option maxRecDepth 100000 in
theorem lkX6_94 : Cond.methodLink RX6 94 yJ9_min_f86c9 ∈ pz_gw := pz_gwl wdL 80 rfl
set_option maxRecDepth 100000 in
theorem lkX6_97 : Cond.methodLink RX6 97 yJ9_max_f86c9 ∈ pz_gw := pz_gwl wdL 81 rfl
set_option maxRecDepth 100000 in
theorem lkX7_48 : Cond.methodLink RX7 48 yX6_clear ∈ pz_gw := pz_gwl wdL 82 rfl
set_option maxRecDepth 100000 in
theorem lkX7_58 : Cond.methodLink RX7 58 yX5_open ∈ pz_gw := pz_gwl wdL 83 rfl
set_option maxRecDepth 100000 in
theorem lkX7_68 : Cond.methodLink RX7 68 yX2_settleGears ∈ pz_gw := pz_gwl wdL 84 rfl
set_option maxRecDepth 100000 in
theorem lkX7_79 : Cond.methodLink RX7 79 yX2_tableOf ∈ pz_gw := pz_gwl wdL 85 rfl
set_option maxRecDepth 100000 in
theorem lkX7_93 : Cond.methodLink RX7 93 yX7_readWheelLine ∈ pz_gw := pz_gwl wdL 86 rfl
set_option maxRecDepth 100000 in
theorem lkX7_97 : Cond.methodLink RX7 97 yX7_readGearLine ∈ pz_gw := pz_gwl wdL 87 rfl
set_option maxRecDepth 100000 in
theorem lkX7_100 : Cond.methodLink RX7 100 yX7_readSafeLine ∈ pz_gw := pz_gwl wdL 88 rfl
set_option maxRecDepth 100000 in
theorem lkX7_103 : Cond.methodLink RX7 103 yX7_readRowLine ∈ pz_gw := pz_gwl wdL 89 rfl
set_option maxRecDepth 100000 in
theorem lkX7_106 : Cond.methodLink RX7 106 yX7_refuse ∈ pz_gw := pz_gwl wdL 90 rfl
set_option maxRecDepth 100000 in
theorem lkX7_110 : Cond.methodLink RX7 110 yX7_atSign ∈ pz_gw := pz_gwl wdL 91 rfl
set_option maxRecDepth 100000 in
theorem lkX7_113 : Cond.methodLink RX7 113 yX5_advance ∈ pz_gw := pz_gwl wdL 92 rfl
set_option maxRecDepth 100000 in
theorem lkX7_122 : Cond.methodLink RX7 122 yX6_startWheelLine ∈ pz_gw := pz_gwl wdL 93 rfl
set_option maxRecDepth 100000 in
theorem lkX7_126 : Cond.methodLink RX7 126 yX7_atWord ∈ pz_gw := pz_gwl wdL 94 rfl
set_option maxRecDepth 100000 in
theorem lkX7_129 : Cond.methodLink RX7 129 yX7_readExpression ∈ pz_gw := pz_gwl wdL 95 rfl
set_option maxRecDepth 100000 in
theorem lkX7_133 : Cond.methodLink RX7 133 yX6_endIf ∈ pz_gw := pz_gwl wdL 96 rfl
set_option maxRecDepth 100000 in
theorem lkX7_137 : Cond.methodLink RX7 137 yX6_endWheelLine ∈ pz_gw := pz_gwl wdL 97 rfl
set_option maxRecDepth 100000 in
theorem lkX7_140 : Cond.methodLink RX7 140 yX6_gearOf ∈ pz_gw := pz_gwl wdL 98 rfl
set_option maxRecDepth 100000 in
theorem lkX7_144 : Cond.methodLink RX7 144 yX6_addGear ∈ pz_gw := pz_gwl wdL 99 rfl
set_option maxRecDepth 100000 in
theorem lkX7_153 : Cond.methodLink RX7 153 yX6_addRow ∈ pz_gw := pz_gwl wdL 100 rfl
set_option maxRecDepth 100000 in
theorem lkX7_156 : Cond.methodLink RX7 156 yX7_readRowOrder ∈ pz_gw := pz_gwl wdL 101 rfl
set_option maxRecDepth 100000 in
theorem lkX7_159 : Cond.methodLink RX7 159 yX6_latestLength ∈ pz_gw := pz_gwl wdL 102 rfl
set_option maxRecDepth 100000 in
theorem lkX7_165 : Cond.methodLink RX7 165 yX6_addRowOrder ∈ pz_gw := pz_gwl wdL 103 rfl
set_option maxRecDepth 100000 in
theorem lkX7_180 : Cond.methodLink RX7 180 yX5_bytesInAll ∈ pz_gw := pz_gwl wdL 104 rfl
set_option maxRecDepth 100000 in
theorem lkX7_183 : Cond.methodLink RX7 183 yX7_goOnBehindOperand ∈ pz_gw := pz_gwl wdL 105 rfl
set_option maxRecDepth 100000 in
theorem lkX7_186 : Cond.methodLink RX7 186 yX7_readOperand ∈ pz_gw := pz_gwl wdL 106 rfl
set_option maxRecDepth 100000 in
theorem lkX7_189 : Cond.methodLink RX7 189 yX7_putOff ∈ pz_gw := pz_gwl wdL 107 rfl
set_option maxRecDepth 100000 in
theorem lkX7_194 : Cond.methodLink RX7 194 yX2_addOne ∈ pz_gw := pz_gwl wdL 108 rfl
set_option maxRecDepth 100000 in
theorem lkX7_197 : Cond.methodLink RX7 197 yX7_gearWordHere ∈ pz_gw := pz_gwl wdL 109 rfl
set_option maxRecDepth 100000 in
theorem lkX7_200 : Cond.methodLink RX7 200 yX7_valueHere ∈ pz_gw := pz_gwl wdL 110 rfl
set_option maxRecDepth 100000 in
theorem lkX7_204 : Cond.methodLink RX7 204 yX2_write ∈ pz_gw := pz_gwl wdL 111 rfl
set_option maxRecDepth 100000 in
theorem lkX7_208 : Cond.methodLink RX7 208 yX7_closeOne ∈ pz_gw := pz_gwl wdL 112 rfl
set_option maxRecDepth 100000 in
theorem lkX7_211 : Cond.methodLink RX7 211 yX7_signHere ∈ pz_gw := pz_gwl wdL 113 rfl
set_option maxRecDepth 100000 in
theorem lkX7_214 : Cond.methodLink RX7 214 yX2_rank ∈ pz_gw := pz_gwl wdL 114 rfl
set_option maxRecDepth 100000 in
theorem lkX7_217 : Cond.methodLink RX7 217 yX7_endExpression ∈ pz_gw := pz_gwl wdL 115 rfl
set_option maxRecDepth 100000 in
theorem lkX7_220 : Cond.methodLink RX7 220 yX7_writeWaiting ∈ pz_gw := pz_gwl wdL 116 rfl
set_option maxRecDepth 100000 in
theorem lkX8_26 : Cond.methodLink RX8 26 yJ7_fill_53178 ∈ pz_gw := pz_gwl wdL 117 rfl
set_option maxRecDepth 100000 in
theorem lkX8_32 : Cond.methodLink RX8 32 yX4_start ∈ pz_gw := pz_gwl wdL 118 rfl
set_option maxRecDepth 100000 in
theorem lkX8_36 : Cond.methodLink RX8 36 yX8_keep ∈ pz_gw := pz_gwl wdL 119 rfl
set_option maxRecDepth 100000 in
theorem lkX8_40 : Cond.methodLink RX8 40 yX6_orderIn ∈ pz_gw := pz_gwl wdL 120 rfl
set_option maxRecDepth 100000 in
theorem lkX8_46 : Cond.methodLink RX8 46 yX4_step ∈ pz_gw := pz_gwl wdL 121 rfl
set_option maxRecDepth 100000 in
theorem lkX8_60 : Cond.methodLink RX8 60 yX8_swingOf ∈ pz_gw := pz_gwl wdL 122 rfl
set_option maxRecDepth 100000 in
theorem lkX8_67 : Cond.methodLink RX8 67 yX4_packed ∈ pz_gw := pz_gwl wdL 123 rfl
set_option maxRecDepth 100000 in
theorem lkX8_73 : Cond.methodLink RX8 73 yX4_offOf ∈ pz_gw := pz_gwl wdL 124 rfl
set_option maxRecDepth 100000 in
theorem lkX8_77 : Cond.methodLink RX8 77 yJ9_min_7cf53 ∈ pz_gw := pz_gwl wdL 125 rfl
set_option maxRecDepth 100000 in
theorem lkX8_82 : Cond.methodLink RX8 82 yJ9_max_7cf53 ∈ pz_gw := pz_gwl wdL 126 rfl
set_option maxRecDepth 100000 in
theorem lkX9_26 : Cond.methodLink RX9 26 yX4_start ∈ pz_gw := pz_gwl wdL 127 rfl
set_option maxRecDepth 100000 in
theorem lkX9_30 : Cond.methodLink RX9 30 yX4_packed ∈ pz_gw := pz_gwl wdL 128 rfl
set_option maxRecDepth 100000 in
theorem lkX9_34 : Cond.methodLink RX9 34 yX4_step ∈ pz_gw := pz_gwl wdL 129 rfl
set_option maxRecDepth 100000 in
theorem lkX9_38 : Cond.methodLink RX9 38 yX4_unpack ∈ pz_gw := pz_gwl wdL 130 rfl
set_option maxRecDepth 100000 in
theorem lkX10_39 : Cond.methodLink RX10 39 yX10_forget ∈ pz_gw := pz_gwl wdL 131 rfl
set_option maxRecDepth 100000 in
theorem lkX10_50 : Cond.methodLink RX10 50 yX10_look ∈ pz_gw := pz_gwl wdL 132 rfl
set_option maxRecDepth 100000 in
theorem lkX10_54 : Cond.methodLink RX10 54 yX3_setPart ∈ pz_gw := pz_gwl wdL 133 rfl
set_option maxRecDepth 100000 in
theorem lkX10_64 : Cond.methodLink RX10 64 yX3_copy ∈ pz_gw := pz_gwl wdL 134 rfl
set_option maxRecDepth 100000 in
theorem lkX10_71 : Cond.methodLink RX10 71 yX10_addIfFits ∈ pz_gw := pz_gwl wdL 135 rfl
set_option maxRecDepth 100000 in
theorem lkX10_75 : Cond.methodLink RX10 75 yX10_tryPart ∈ pz_gw := pz_gwl wdL 136 rfl
set_option maxRecDepth 100000 in
theorem lkX10_79 : Cond.methodLink RX10 79 yX10_tryPair ∈ pz_gw := pz_gwl wdL 137 rfl
set_option maxRecDepth 100000 in
theorem lkX10_83 : Cond.methodLink RX10 83 yX10_sumUp ∈ pz_gw := pz_gwl wdL 138 rfl
set_option maxRecDepth 100000 in
theorem lkX10_96 : Cond.methodLink RX10 96 yX10_fail ∈ pz_gw := pz_gwl wdL 139 rfl
set_option maxRecDepth 100000 in
theorem lkX10_100 : Cond.methodLink RX10 100 yX4_start ∈ pz_gw := pz_gwl wdL 140 rfl
set_option maxRecDepth 100000 in
theorem lkX10_103 : Cond.methodLink RX10 103 yX4_goOn ∈ pz_gw := pz_gwl wdL 141 rfl
set_option maxRecDepth 100000 in
theorem lkX10_110 : Cond.methodLink RX10 110 yJ9_abs_0f7a4 ∈ pz_gw := pz_gwl wdL 142 rfl
set_option maxRecDepth 100000 in
theorem lkX10_122 : Cond.methodLink RX10 122 yX10_bitOf ∈ pz_gw := pz_gwl wdL 143 rfl
set_option maxRecDepth 100000 in
theorem lkL_7 : Cond.methodLink RL 7 yX11_row ∈ pz_gw := pz_gwl wdL 144 rfl
set_option maxRecDepth 100000 in
theorem lkL_17 : Cond.methodLink RL 17 yX11_init ∈ pz_gw := pz_gwl wdL 145 rfl
set_option maxRecDepth 100000 in
theorem lkL_20 : Cond.methodLink RL 20 yX12_init ∈ pz_gw := pz_gwl wdL 146 rfl
set_option maxRecDepth 100000 in
theorem lkL_21 : Cond.methodLink RL 21 yX11_feed ∈ pz_gw := pz_gwl wdL 147 rfl
set_option maxRecDepth 100000 in
theorem lkL_25 : Cond.methodLink RL 25 yX12_feed ∈ pz_gw := pz_gwl wdL 148 rfl
set_option maxRecDepth 100000 in
theorem lkL_26 : Cond.methodLink RL 26 yX11_text ∈ pz_gw := pz_gwl wdL 149 rfl
set_option maxRecDepth 100000 in
theorem lkL_30 : Cond.methodLink RL 30 yX12_text ∈ pz_gw := pz_gwl wdL 150 rfl
set_option maxRecDepth 100000 in
theorem lkL_31 : Cond.methodLink RL 31 yX11_fault ∈ pz_gw := pz_gwl wdL 151 rfl
set_option maxRecDepth 100000 in
theorem lkL_34 : Cond.methodLink RL 34 yX12_fault ∈ pz_gw := pz_gwl wdL 152 rfl
set_option maxRecDepth 100000 in
theorem lkL_35 : Cond.methodLink RL 35 yX11_part ∈ pz_gw := pz_gwl wdL 153 rfl
set_option maxRecDepth 100000 in
theorem lkL_39 : Cond.methodLink RL 39 yX12_part ∈ pz_gw := pz_gwl wdL 154 rfl
set_option maxRecDepth 100000 in
theorem lkL_40 : Cond.methodLink RL 40 yX11_ship ∈ pz_gw := pz_gwl wdL 155 rfl
set_option maxRecDepth 100000 in
theorem lkL_43 : Cond.methodLink RL 43 yX12_ship ∈ pz_gw := pz_gwl wdL 156 rfl
set_option maxRecDepth 100000 in
theorem lkL_44 : Cond.methodLink RL 44 yL_row ∈ pz_gw := pz_gwl wdL 157 rfl
set_option maxRecDepth 100000 in
theorem lkL_49 : Cond.methodLink RL 49 yX12_row ∈ pz_gw := pz_gwl wdL 158 rfl
set_option maxRecDepth 100000 in
theorem lkL_50 : Cond.methodLink RL 50 yX12_thrown ∈ pz_gw := pz_gwl wdL 159 rfl
set_option maxRecDepth 100000 in
theorem lkL_54 : Cond.methodLink RL 54 yX11_led ∈ pz_gw := pz_gwl wdL 160 rfl
set_option maxRecDepth 100000 in
theorem lkL_58 : Cond.methodLink RL 58 yX12_led ∈ pz_gw := pz_gwl wdL 161 rfl
set_option maxRecDepth 100000 in
theorem lkL_59 : Cond.methodLink RL 59 yX11_steer ∈ pz_gw := pz_gwl wdL 162 rfl
set_option maxRecDepth 100000 in
theorem lkL_63 : Cond.methodLink RL 63 yX12_steer ∈ pz_gw := pz_gwl wdL 163 rfl
set_option maxRecDepth 100000 in
theorem lkL_64 : Cond.methodLink RL 64 yX11_hunt ∈ pz_gw := pz_gwl wdL 164 rfl
set_option maxRecDepth 100000 in
theorem lkL_67 : Cond.methodLink RL 67 yX12_hunt ∈ pz_gw := pz_gwl wdL 165 rfl
set_option maxRecDepth 100000 in
theorem lkL_68 : Cond.methodLink RL 68 yX11_worst ∈ pz_gw := pz_gwl wdL 166 rfl
set_option maxRecDepth 100000 in
theorem lkL_71 : Cond.methodLink RL 71 yX12_worst ∈ pz_gw := pz_gwl wdL 167 rfl
set_option maxRecDepth 100000 in
theorem lkL_72 : Cond.methodLink RL 72 yX11_holds ∈ pz_gw := pz_gwl wdL 168 rfl
set_option maxRecDepth 100000 in
theorem lkL_75 : Cond.methodLink RL 75 yX12_holds ∈ pz_gw := pz_gwl wdL 169 rfl
set_option maxRecDepth 100000 in
theorem lkL_76 : Cond.methodLink RL 76 yX11_mark ∈ pz_gw := pz_gwl wdL 170 rfl
set_option maxRecDepth 100000 in
theorem lkL_79 : Cond.methodLink RL 79 yX12_mark ∈ pz_gw := pz_gwl wdL 171 rfl
set_option maxRecDepth 100000 in
theorem lkL_80 : Cond.methodLink RL 80 yX11_wipe ∈ pz_gw := pz_gwl wdL 172 rfl
set_option maxRecDepth 100000 in
theorem lkL_83 : Cond.methodLink RL 83 yX12_wipe ∈ pz_gw := pz_gwl wdL 173 rfl
set_option maxRecDepth 100000 in
theorem lkL_84 : Cond.methodLink RL 84 yX11_fits ∈ pz_gw := pz_gwl wdL 174 rfl
set_option maxRecDepth 100000 in
theorem lkL_87 : Cond.methodLink RL 87 yX12_fits ∈ pz_gw := pz_gwl wdL 175 rfl
set_option maxRecDepth 100000 in
theorem lkL_88 : Cond.methodLink RL 88 yX11_suspect ∈ pz_gw := pz_gwl wdL 176 rfl
set_option maxRecDepth 100000 in
theorem lkL_91 : Cond.methodLink RL 91 yX12_suspect ∈ pz_gw := pz_gwl wdL 177 rfl
set_option maxRecDepth 100000 in
theorem lkL_92 : Cond.methodLink RL 92 yX11_parts ∈ pz_gw := pz_gwl wdL 178 rfl
set_option maxRecDepth 100000 in
theorem lkL_95 : Cond.methodLink RL 95 yX12_parts ∈ pz_gw := pz_gwl wdL 179 rfl
set_option maxRecDepth 100000 in
theorem lkL_96 : Cond.methodLink RL 96 yX11_named ∈ pz_gw := pz_gwl wdL 180 rfl
set_option maxRecDepth 100000 in
theorem lkL_99 : Cond.methodLink RL 99 yX12_named ∈ pz_gw := pz_gwl wdL 181 rfl
set_option maxRecDepth 100000 in
theorem lkL_100 : Cond.methodLink RL 100 yX11_safe ∈ pz_gw := pz_gwl wdL 182 rfl
set_option maxRecDepth 100000 in
theorem lkL_103 : Cond.methodLink RL 103 yX12_safe ∈ pz_gw := pz_gwl wdL 183 rfl
set_option maxRecDepth 100000 in
theorem lkL_104 : Cond.methodLink RL 104 yX11_drill ∈ pz_gw := pz_gwl wdL 184 rfl
set_option maxRecDepth 100000 in
theorem lkL_107 : Cond.methodLink RL 107 yX12_drill ∈ pz_gw := pz_gwl wdL 185 rfl
set_option maxRecDepth 100000 in
theorem lkL_108 : Cond.methodLink RL 108 yX11_begin ∈ pz_gw := pz_gwl wdL 186 rfl
set_option maxRecDepth 100000 in
theorem lkL_112 : Cond.methodLink RL 112 yX12_begin ∈ pz_gw := pz_gwl wdL 187 rfl
set_option maxRecDepth 100000 in
theorem lkL_113 : Cond.methodLink RL 113 yX11_order ∈ pz_gw := pz_gwl wdL 188 rfl
set_option maxRecDepth 100000 in
theorem lkL_116 : Cond.methodLink RL 116 yX12_order ∈ pz_gw := pz_gwl wdL 189 rfl
set_option maxRecDepth 100000 in
theorem lkL_117 : Cond.methodLink RL 117 yX11_back ∈ pz_gw := pz_gwl wdL 190 rfl
set_option maxRecDepth 100000 in
theorem lkL_120 : Cond.methodLink RL 120 yX12_back ∈ pz_gw := pz_gwl wdL 191 rfl
set_option maxRecDepth 100000 in
theorem lkL_121 : Cond.methodLink RL 121 yX11_now ∈ pz_gw := pz_gwl wdL 192 rfl
set_option maxRecDepth 100000 in
theorem lkL_124 : Cond.methodLink RL 124 yX12_now ∈ pz_gw := pz_gwl wdL 193 rfl
set_option maxRecDepth 100000 in
theorem lkL_125 : Cond.methodLink RL 125 yX11_count ∈ pz_gw := pz_gwl wdL 194 rfl
set_option maxRecDepth 100000 in
theorem lkL_128 : Cond.methodLink RL 128 yX12_count ∈ pz_gw := pz_gwl wdL 195 rfl
set_option maxRecDepth 100000 in
theorem lkX12_121 : Cond.methodLink RX12 121 yX12_here ∈ pz_gw := pz_gwl wdL 196 rfl
set_option maxRecDepth 100000 in
theorem lkX12_131 : Cond.methodLink RX12 131 yX12_isSmall ∈ pz_gw := pz_gwl wdL 197 rfl
set_option maxRecDepth 100000 in
theorem lkX12_135 : Cond.methodLink RX12 135 yX12_word ∈ pz_gw := pz_gwl wdL 198 rfl
set_option maxRecDepth 100000 in
theorem lkX12_141 : Cond.methodLink RX12 141 yX12_name ∈ pz_gw := pz_gwl wdL 199 rfl
set_option maxRecDepth 100000 in
theorem lkX12_144 : Cond.methodLink RX12 144 yX12_isDigit ∈ pz_gw := pz_gwl wdL 200 rfl
set_option maxRecDepth 100000 in
theorem lkX12_147 : Cond.methodLink RX12 147 yX12_sign ∈ pz_gw := pz_gwl wdL 201 rfl
set_option maxRecDepth 100000 in
theorem lkX12_153 : Cond.methodLink RX12 153 yJ0_length_8abf5 ∈ pz_gw := pz_gwl wdL 202 rfl
set_option maxRecDepth 100000 in
theorem lkX12_158 : Cond.methodLink RX12 158 yJ0_charAt_5068e ∈ pz_gw := pz_gwl wdL 203 rfl
set_option maxRecDepth 100000 in
theorem lkX12_168 : Cond.methodLink RX12 168 yX12_next ∈ pz_gw := pz_gwl wdL 204 rfl
set_option maxRecDepth 100000 in
theorem lkX12_171 : Cond.methodLink RX12 171 yX12_wrong ∈ pz_gw := pz_gwl wdL 205 rfl
set_option maxRecDepth 100000 in
theorem lkX12_174 : Cond.methodLink RX12 174 yX12_isWord ∈ pz_gw := pz_gwl wdL 206 rfl
set_option maxRecDepth 100000 in
theorem lkX12_189 : Cond.methodLink RX12 189 yX12_wheelLine ∈ pz_gw := pz_gwl wdL 207 rfl
set_option maxRecDepth 100000 in
theorem lkX12_192 : Cond.methodLink RX12 192 yX12_gearLine ∈ pz_gw := pz_gwl wdL 208 rfl
set_option maxRecDepth 100000 in
theorem lkX12_198 : Cond.methodLink RX12 198 yX12_either ∈ pz_gw := pz_gwl wdL 209 rfl
set_option maxRecDepth 100000 in
theorem lkX12_204 : Cond.methodLink RX12 204 yX12_rowLine ∈ pz_gw := pz_gwl wdL 210 rfl
set_option maxRecDepth 100000 in
theorem lkX12_207 : Cond.methodLink RX12 207 yX12_isSign ∈ pz_gw := pz_gwl wdL 211 rfl
set_option maxRecDepth 100000 in
theorem lkX12_216 : Cond.methodLink RX12 216 yX12_expression ∈ pz_gw := pz_gwl wdL 212 rfl
set_option maxRecDepth 100000 in
theorem lkX12_219 : Cond.methodLink RX12 219 yX12_goOn ∈ pz_gw := pz_gwl wdL 213 rfl
set_option maxRecDepth 100000 in
theorem lkX12_222 : Cond.methodLink RX12 222 yX12_found ∈ pz_gw := pz_gwl wdL 214 rfl
set_option maxRecDepth 100000 in
theorem lkX12_226 : Cond.methodLink RX12 226 yX12_numeral ∈ pz_gw := pz_gwl wdL 215 rfl
set_option maxRecDepth 100000 in
theorem lkX12_233 : Cond.methodLink RX12 233 yX12_conjunction ∈ pz_gw := pz_gwl wdL 216 rfl
set_option maxRecDepth 100000 in
theorem lkX12_236 : Cond.methodLink RX12 236 yX12_knot ∈ pz_gw := pz_gwl wdL 217 rfl
set_option maxRecDepth 100000 in
theorem lkX12_239 : Cond.methodLink RX12 239 yX12_puts ∈ pz_gw := pz_gwl wdL 218 rfl
set_option maxRecDepth 100000 in
theorem lkX12_243 : Cond.methodLink RX12 243 yX12_negation ∈ pz_gw := pz_gwl wdL 219 rfl
set_option maxRecDepth 100000 in
theorem lkX12_246 : Cond.methodLink RX12 246 yX12_sum ∈ pz_gw := pz_gwl wdL 220 rfl
set_option maxRecDepth 100000 in
theorem lkX12_249 : Cond.methodLink RX12 249 yX12_product ∈ pz_gw := pz_gwl wdL 221 rfl
set_option maxRecDepth 100000 in
theorem lkX12_252 : Cond.methodLink RX12 252 yX12_primary ∈ pz_gw := pz_gwl wdL 222 rfl
set_option maxRecDepth 100000 in
theorem lkX12_258 : Cond.methodLink RX12 258 yX12_closes ∈ pz_gw := pz_gwl wdL 223 rfl
set_option maxRecDepth 100000 in
theorem lkX12_264 : Cond.methodLink RX12 264 yX12_both ∈ pz_gw := pz_gwl wdL 224 rfl
set_option maxRecDepth 100000 in
theorem lkX12_267 : Cond.methodLink RX12 267 yX12_bitKnot ∈ pz_gw := pz_gwl wdL 225 rfl
set_option maxRecDepth 100000 in
theorem lkX12_270 : Cond.methodLink RX12 270 yX12_lays ∈ pz_gw := pz_gwl wdL 226 rfl
set_option maxRecDepth 100000 in
theorem lkX12_274 : Cond.methodLink RX12 274 yX12_holding ∈ pz_gw := pz_gwl wdL 227 rfl
set_option maxRecDepth 100000 in
theorem lkX12_277 : Cond.methodLink RX12 277 yX12_line ∈ pz_gw := pz_gwl wdL 228 rfl
set_option maxRecDepth 100000 in
theorem lkX12_283 : Cond.methodLink RX12 283 yX12_laid ∈ pz_gw := pz_gwl wdL 229 rfl
set_option maxRecDepth 100000 in
theorem lkX12_304 : Cond.methodLink RX12 304 yX12_least ∈ pz_gw := pz_gwl wdL 230 rfl
set_option maxRecDepth 100000 in
theorem lkX12_308 : Cond.methodLink RX12 308 yX12_greatest ∈ pz_gw := pz_gwl wdL 231 rfl
set_option maxRecDepth 100000 in
theorem lkX12_311 : Cond.methodLink RX12 311 yJ9_abs_0f7a4 ∈ pz_gw := pz_gwl wdL 232 rfl
set_option maxRecDepth 100000 in
theorem lkX12_316 : Cond.methodLink RX12 316 yJ9_min_7cf53 ∈ pz_gw := pz_gwl wdL 233 rfl
set_option maxRecDepth 100000 in
theorem lkX12_319 : Cond.methodLink RX12 319 yX12_nearer ∈ pz_gw := pz_gwl wdL 234 rfl
set_option maxRecDepth 100000 in
theorem lkX12_326 : Cond.methodLink RX12 326 yX12_is ∈ pz_gw := pz_gwl wdL 235 rfl
set_option maxRecDepth 100000 in
theorem lkX12_330 : Cond.methodLink RX12 330 yJ9_abs_067f4 ∈ pz_gw := pz_gwl wdL 236 rfl
set_option maxRecDepth 100000 in
theorem lkX12_337 : Cond.methodLink RX12 337 yX12_works ∈ pz_gw := pz_gwl wdL 237 rfl
set_option maxRecDepth 100000 in
theorem lkX12_340 : Cond.methodLink RX12 340 yX12_nameOf ∈ pz_gw := pz_gwl wdL 238 rfl
set_option maxRecDepth 100000 in
theorem lkX12_344 : Cond.methodLink RX12 344 yX12_goes ∈ pz_gw := pz_gwl wdL 239 rfl
set_option maxRecDepth 100000 in
theorem lkX12_352 : Cond.methodLink RX12 352 yJ9_min_f86c9 ∈ pz_gw := pz_gwl wdL 240 rfl
set_option maxRecDepth 100000 in
theorem lkX12_355 : Cond.methodLink RX12 355 yJ9_max_f86c9 ∈ pz_gw := pz_gwl wdL 241 rfl
set_option maxRecDepth 100000 in
theorem lkX12_358 : Cond.methodLink RX12 358 yX12_isOff ∈ pz_gw := pz_gwl wdL 242 rfl
set_option maxRecDepth 100000 in
theorem lkX12_362 : Cond.methodLink RX12 362 yX12_starts ∈ pz_gw := pz_gwl wdL 243 rfl
set_option maxRecDepth 100000 in
theorem lkX12_365 : Cond.methodLink RX12 365 yX12_ordered ∈ pz_gw := pz_gwl wdL 244 rfl
set_option maxRecDepth 100000 in
theorem lkX12_368 : Cond.methodLink RX12 368 yX12_steps ∈ pz_gw := pz_gwl wdL 245 rfl
set_option maxRecDepth 100000 in
theorem lkX12_371 : Cond.methodLink RX12 371 yX12_what ∈ pz_gw := pz_gwl wdL 246 rfl
set_option maxRecDepth 100000 in
theorem lkX12_374 : Cond.methodLink RX12 374 yX12_rowed ∈ pz_gw := pz_gwl wdL 247 rfl
set_option maxRecDepth 100000 in
theorem lkX12_377 : Cond.methodLink RX12 377 yX12_keeps ∈ pz_gw := pz_gwl wdL 248 rfl
set_option maxRecDepth 100000 in
theorem lkX12_386 : Cond.methodLink RX12 386 yX12_isLike ∈ pz_gw := pz_gwl wdL 249 rfl
set_option maxRecDepth 100000 in
theorem lkX12_389 : Cond.methodLink RX12 389 yX12_hunts ∈ pz_gw := pz_gwl wdL 250 rfl
set_option maxRecDepth 100000 in
theorem lkX12_392 : Cond.methodLink RX12 392 yJ9_max_7cf53 ∈ pz_gw := pz_gwl wdL 251 rfl
set_option maxRecDepth 100000 in
theorem lkX12_394 : Cond.methodLink RX12 394 yX12_furthest ∈ pz_gw := pz_gwl wdL 252 rfl
set_option maxRecDepth 100000 in
theorem lkX12_406 : Cond.methodLink RX12 406 yX12_isFit ∈ pz_gw := pz_gwl wdL 253 rfl
set_option maxRecDepth 100000 in
theorem lkX12_409 : Cond.methodLink RX12 409 yX12_adds ∈ pz_gw := pz_gwl wdL 254 rfl
set_option maxRecDepth 100000 in
theorem lkX12_413 : Cond.methodLink RX12 413 yX12_pairs ∈ pz_gw := pz_gwl wdL 255 rfl
set_option maxRecDepth 100000 in
theorem lkX12_416 : Cond.methodLink RX12 416 yX12_isDoubt ∈ pz_gw := pz_gwl wdL 256 rfl
set_option maxRecDepth 100000 in
theorem lkX12_419 : Cond.methodLink RX12 419 yX12_seeks ∈ pz_gw := pz_gwl wdL 257 rfl
set_option maxRecDepth 100000 in
theorem lkX12_422 : Cond.methodLink RX12 422 yX12_wake ∈ pz_gw := pz_gwl wdL 258 rfl
set_option maxRecDepth 100000 in
theorem lkX12_425 : Cond.methodLink RX12 425 yX12_isSame ∈ pz_gw := pz_gwl wdL 259 rfl
set_option maxRecDepth 100000 in
theorem lkX12_429 : Cond.methodLink RX12 429 yX12_greatestGroup ∈ pz_gw := pz_gwl wdL 260 rfl
set_option maxRecDepth 100000 in
theorem lkX12_432 : Cond.methodLink RX12 432 yX12_holdsBy ∈ pz_gw := pz_gwl wdL 261 rfl
set_option maxRecDepth 100000 in
theorem lkX12_435 : Cond.methodLink RX12 435 yX12_isGears ∈ pz_gw := pz_gwl wdL 262 rfl
set_option maxRecDepth 100000 in
theorem lkX12_438 : Cond.methodLink RX12 438 yX12_isSafe ∈ pz_gw := pz_gwl wdL 263 rfl
set_option maxRecDepth 100000 in
theorem lkX12_441 : Cond.methodLink RX12 441 yX12_mayChange ∈ pz_gw := pz_gwl wdL 264 rfl
set_option maxRecDepth 100000 in
theorem lkX12_444 : Cond.methodLink RX12 444 yX12_measures ∈ pz_gw := pz_gwl wdL 265 rfl
set_option maxRecDepth 100000 in
theorem lkX12_447 : Cond.methodLink RX12 447 yX12_leaves ∈ pz_gw := pz_gwl wdL 266 rfl
set_option maxRecDepth 100000 in
theorem lkX12_457 : Cond.methodLink RX12 457 yX12_brings ∈ pz_gw := pz_gwl wdL 267 rfl
set_option maxRecDepth 100000 in
theorem lkJ0_335 : Cond.methodLink RJ0 335 yJ0_coder_7d493 ∈ pz_gw := pz_gwl wdL 268 rfl
set_option maxRecDepth 100000 in
theorem lkJ0_492 : Cond.methodLink RJ0 492 yJ0_isLatin1_aae02 ∈ pz_gw := pz_gwl wdL 269 rfl
set_option maxRecDepth 100000 in
theorem lkJ0_495 : Cond.methodLink RJ0 495 yJ1_charAt_3b067 ∈ pz_gw := pz_gwl wdL 270 rfl
set_option maxRecDepth 100000 in
theorem lkJ0_498 : Cond.methodLink RJ0 498 yJ2_charAt_3b067 ∈ pz_gw := pz_gwl wdL 271 rfl
set_option maxRecDepth 100000 in
theorem lkJ0_1059 : Cond.methodLink RJ0 1059 yJ3_checkIndex_8e157 ∈ pz_gw := pz_gwl wdL 272 rfl
set_option maxRecDepth 100000 in
theorem lkJ1_9 : Cond.methodLink RJ1 9 yJ0_checkIndex_df160 ∈ pz_gw := pz_gwl wdL 273 rfl
set_option maxRecDepth 100000 in
theorem lkJ2_48 : Cond.methodLink RJ2 48 yJ2_length_9d52b ∈ pz_gw := pz_gwl wdL 274 rfl
set_option maxRecDepth 100000 in
theorem lkJ2_67 : Cond.methodLink RJ2 67 yJ2_checkIndex_2214a ∈ pz_gw := pz_gwl wdL 275 rfl
set_option maxRecDepth 100000 in
theorem lkJ2_71 : Cond.methodLink RJ2 71 yJ2_getChar_3b067 ∈ pz_gw := pz_gwl wdL 276 rfl
set_option maxRecDepth 100000 in
theorem lkJ2_414 : Cond.methodLink RJ2 414 yJ0_checkIndex_df160 ∈ pz_gw := pz_gwl wdL 277 rfl
set_option maxRecDepth 100000 in
theorem lkX11_11 : Cond.methodLinkNest RX11 11 yX3_init "HuntingRudder" ∈ pz_nw := pz_nwl wdN 0 rfl
set_option maxRecDepth 100000 in
theorem lkX11_23 : Cond.methodLinkNest RX11 23 yX4_init "HuntingRudder" ∈ pz_nw := pz_nwl wdN 1 rfl
set_option maxRecDepth 100000 in
theorem lkX11_30 : Cond.methodLinkNest RX11 30 yX8_init "HuntingRudder" ∈ pz_nw := pz_nwl wdN 2 rfl
set_option maxRecDepth 100000 in
theorem lkX11_37 : Cond.methodLinkNest RX11 37 yX10_init "HuntingRudder" ∈ pz_nw := pz_nwl wdN 3 rfl
set_option maxRecDepth 100000 in
theorem lkX11_44 : Cond.methodLinkNest RX11 44 yX1_init "HuntingRudder" ∈ pz_nw := pz_nwl wdN 4 rfl
set_option maxRecDepth 100000 in
theorem lkX11_51 : Cond.methodLinkNest RX11 51 yX0_init "HuntingRudder" ∈ pz_nw := pz_nwl wdN 5 rfl
set_option maxRecDepth 100000 in
theorem lkX11_58 : Cond.methodLinkNest RX11 58 yX9_init "HuntingRudder" ∈ pz_nw := pz_nwl wdN 6 rfl
set_option maxRecDepth 100000 in
theorem lkX11_65 : Cond.methodLinkNest RX11 65 yX7_init "HuntingRudder" ∈ pz_nw := pz_nwl wdN 7 rfl
set_option maxRecDepth 100000 in
theorem lkX11_72 : Cond.methodLinkNest RX11 72 yX6_init "HuntingRudder" ∈ pz_nw := pz_nwl wdN 8 rfl
set_option maxRecDepth 100000 in
theorem lkX1_9 : Cond.methodLinkNest RX1 9 yX4_init "HuntingRudder" ∈ pz_nw := pz_nwl wdN 9 rfl
set_option maxRecDepth 100000 in
theorem lkX1_18 : Cond.methodLinkNest RX1 18 yX3_init "HuntingRudder" ∈ pz_nw := pz_nwl wdN 10 rfl
set_option maxRecDepth 100000 in
theorem lkX6_11 : Cond.methodLinkNest RX6 11 yX2_init "HuntingRudder" ∈ pz_nw := pz_nwl wdN 11 rfl
set_option maxRecDepth 100000 in
theorem lkX7_11 : Cond.methodLinkNest RX7 11 yX5_init "HuntingRudder" ∈ pz_nw := pz_nwl wdN 12 rfl
set_option maxRecDepth 100000 in
theorem lkX7_32 : Cond.methodLinkNest RX7 32 yX6_init "HuntingRudder" ∈ pz_nw := pz_nwl wdN 13 rfl
set_option maxRecDepth 100000 in
theorem lkX8_11 : Cond.methodLinkNest RX8 11 yX4_init "HuntingRudder" ∈ pz_nw := pz_nwl wdN 14 rfl
set_option maxRecDepth 100000 in
theorem lkX9_11 : Cond.methodLinkNest RX9 11 yX4_init "HuntingRudder" ∈ pz_nw := pz_nwl wdN 15 rfl
set_option maxRecDepth 100000 in
theorem lkX10_11 : Cond.methodLinkNest RX10 11 yX4_init "HuntingRudder" ∈ pz_nw := pz_nwl wdN 16 rfl
set_option maxRecDepth 100000 in
theorem lkX10_20 : Cond.methodLinkNest RX10 20 yX3_init "HuntingRudder" ∈ pz_nw := pz_nwl wdN 17 rfl
