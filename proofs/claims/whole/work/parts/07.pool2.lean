theorem iX12 : ∀ w ∈ u_ws RX12 TX12 56, w ∈ TB := tbU [1263, 1265, 1267, 1269, 1271, 1273, 1275, 1277, 1279, 1281, 1283, 1285, 1287, 1289, 1291, 1293, 1295, 1297, 1299, 1301, 1303, 1305, 1307, 1309, 1311, 1313, 1315, 1317, 1319, 1321, 1323, 1325, 1327, 1329, 1331, 1333, 1335, 1337, 1339, 1341, 1343, 1345, 1347, 1349, 1351, 1353, 1355, 1357, 1359, 1361, 1363, 1365, 1367, 1369, 1371, 1373] (by decide +kernel) (by decide +kernel)
theorem code_X12_add : Cond.code yX12_add cX12_add 4 none ∈ TB := tbI 1409 (by decide +kernel) rfl
theorem code_X12_again : Cond.code yX12_again cX12_again 2 none ∈ TB := tbI 1490 (by decide +kernel) rfl
theorem code_X12_amount : Cond.code yX12_amount cX12_amount 1 (some .int) ∈ TB := tbI 1553 (by decide +kernel) rfl
theorem code_X12_apply : Cond.code yX12_apply cX12_apply 4 none ∈ TB := tbI 1494 (by decide +kernel) rfl
theorem code_X12_ask : Cond.code yX12_ask cX12_ask 2 none ∈ TB := tbI 1478 (by decide +kernel) rfl
theorem code_X12_assign : Cond.code yX12_assign cX12_assign 3 none ∈ TB := tbI 1482 (by decide +kernel) rfl
theorem code_X12_atomic : Cond.code yX12_atomic cX12_atomic 1 (some .boolean) ∈ TB := tbI 1387 (by decide +kernel) rfl
theorem code_X12_begin : Cond.code yX12_begin cX12_begin 4 none ∈ TB := tbI 1602 (by decide +kernel) rfl
theorem code_X12_call : Cond.code yX12_call cX12_call 7 none ∈ TB := tbI 1498 (by decide +kernel) rfl
theorem code_X12_car : Cond.code yX12_car cX12_car 2 (some .int) ∈ TB := tbI 1446 (by decide +kernel) rfl
theorem code_X12_cast : Cond.code yX12_cast cX12_cast 5 none ∈ TB := tbI 1530 (by decide +kernel) rfl
theorem code_X12_cdr : Cond.code yX12_cdr cX12_cdr 2 (some .int) ∈ TB := tbI 1450 (by decide +kernel) rfl
theorem code_X12_cell : Cond.code yX12_cell cX12_cell 3 (some .int) ∈ TB := tbI 1414 (by decide +kernel) rfl
theorem code_X12_choose : Cond.code yX12_choose cX12_choose 4 none ∈ TB := tbI 1466 (by decide +kernel) rfl
theorem code_X12_code : Cond.code yX12_code cX12_code 2 (some .int) ∈ TB := tbI 1206 (by decide +kernel) rfl
theorem code_X12_drop : Cond.code yX12_drop cX12_drop 1 (some .int) ∈ TB := tbI 1427 (by decide +kernel) rfl
theorem code_X12_endAtom : Cond.code yX12_endAtom cX12_endAtom 3 (some .boolean) ∈ TB := tbI 1401 (by decide +kernel) rfl
theorem code_X12_evaluate : Cond.code yX12_evaluate cX12_evaluate 3 none ∈ TB := tbI 1598 (by decide +kernel) rfl
theorem code_X12_fail : Cond.code yX12_fail cX12_fail 2 (some .int) ∈ TB := tbI 1542 (by decide +kernel) rfl
theorem code_X12_figures : Cond.code yX12_figures cX12_figures 5 none ∈ TB := tbI 1582 (by decide +kernel) rfl
theorem code_X12_gather : Cond.code yX12_gather cX12_gather 3 none ∈ TB := tbI 1506 (by decide +kernel) rfl
theorem code_X12_get : Cond.code yX12_get cX12_get 3 (some .int) ∈ TB := tbI 1594 (by decide +kernel) rfl
theorem code_X12_letter : Cond.code yX12_letter cX12_letter 3 none ∈ TB := tbI 1391 (by decide +kernel) rfl
theorem code_X12_letters : Cond.code yX12_letters cX12_letters 5 none ∈ TB := tbI 1586 (by decide +kernel) rfl
theorem code_X12_lists : Cond.code yX12_lists cX12_lists 9 (some .int) ∈ TB := tbI 1534 (by decide +kernel) rfl
theorem code_X12_load : Cond.code yX12_load cX12_load 1 (some .int) ∈ TB := tbI 1421 (by decide +kernel) rfl
theorem code_X12_make : Cond.code yX12_make cX12_make 4 (some .int) ∈ TB := tbI 1526 (by decide +kernel) rfl
theorem code_X12_mark : Cond.code yX12_mark cX12_mark 3 none ∈ TB := tbI 1510 (by decide +kernel) rfl
theorem code_X12_markFrame : Cond.code yX12_markFrame cX12_markFrame 2 none ∈ TB := tbI 1514 (by decide +kernel) rfl
theorem code_X12_markWithin : Cond.code yX12_markWithin cX12_markWithin 5 none ∈ TB := tbI 1522 (by decide +kernel) rfl
theorem code_X12_marks : Cond.code yX12_marks cX12_marks 3 (some .int) ∈ TB := tbI 1518 (by decide +kernel) rfl
theorem code_X12_more : Cond.code yX12_more cX12_more 5 none ∈ TB := tbI 1590 (by decide +kernel) rfl
theorem code_X12_next : Cond.code yX12_next cX12_next 2 none ∈ TB := tbI 1474 (by decide +kernel) rfl
theorem code_X12_nothing : Cond.code yX12_nothing cX12_nothing 2 none ∈ TB := tbI 1610 (by decide +kernel) rfl
theorem code_X12_numbers : Cond.code yX12_numbers cX12_numbers 7 (some .int) ∈ TB := tbI 1550 (by decide +kernel) rfl
theorem code_X12_numeral : Cond.code yX12_numeral cX12_numeral 1 (some .int) ∈ TB := tbI 1404 (by decide +kernel) rfl
theorem code_X12_opOf : Cond.code yX12_opOf cX12_opOf 2 (some .int) ∈ TB := tbI 1442 (by decide +kernel) rfl
theorem code_X12_others : Cond.code yX12_others cX12_others 6 (some .int) ∈ TB := tbI 1562 (by decide +kernel) rfl
theorem code_X12_parameters : Cond.code yX12_parameters cX12_parameters 4 (some .boolean) ∈ TB := tbI 1458 (by decide +kernel) rfl
theorem code_X12_parts : Cond.code yX12_parts cX12_parts 4 (some .int) ∈ TB := tbI 1454 (by decide +kernel) rfl
theorem code_X12_place : Cond.code yX12_place cX12_place 6 (some .int) ∈ TB := tbI 1486 (by decide +kernel) rfl
theorem code_X12_pop : Cond.code yX12_pop cX12_pop 2 none ∈ TB := tbI 1470 (by decide +kernel) rfl
theorem code_X12_print : Cond.code yX12_print cX12_print 2 none ∈ TB := tbI 1570 (by decide +kernel) rfl
theorem code_X12_push : Cond.code yX12_push cX12_push 3 none ∈ TB := tbI 1606 (by decide +kernel) rfl
theorem code_X12_put : Cond.code yX12_put cX12_put 2 none ∈ TB := tbI 1578 (by decide +kernel) rfl
theorem code_X12_raise : Cond.code yX12_raise cX12_raise 2 (some .int) ∈ TB := tbI 1397 (by decide +kernel) rfl
theorem code_X12_ranged : Cond.code yX12_ranged cX12_ranged 2 (some .int) ∈ TB := tbI 1557 (by decide +kernel) rfl
theorem code_X12_resume : Cond.code yX12_resume cX12_resume 3 none ∈ TB := tbI 1462 (by decide +kernel) rfl
theorem code_X12_room : Cond.code yX12_room cX12_room 2 (some .boolean) ∈ TB := tbI 1502 (by decide +kernel) rfl
theorem code_X12_run : Cond.code yX12_run cX12_run 2 (some .int) ∈ TB := tbI 1431 (by decide +kernel) rfl
theorem code_X12_setCar : Cond.code yX12_setCar cX12_setCar 3 none ∈ TB := tbI 1546 (by decide +kernel) rfl
theorem code_X12_setCdr : Cond.code yX12_setCdr cX12_setCdr 3 none ∈ TB := tbI 1418 (by decide +kernel) rfl
theorem code_X12_show : Cond.code yX12_show cX12_show 3 none ∈ TB := tbI 1574 (by decide +kernel) rfl
theorem code_X12_sortOf : Cond.code yX12_sortOf cX12_sortOf 1 (some .int) ∈ TB := tbI 1438 (by decide +kernel) rfl
theorem code_X12_symbolOf : Cond.code yX12_symbolOf cX12_symbolOf 4 (some .int) ∈ TB := tbI 1202 (by decide +kernel) rfl
theorem code_X12_truth : Cond.code yX12_truth cX12_truth 2 (some .int) ∈ TB := tbI 1538 (by decide +kernel) rfl
theorem code_X12_vector : Cond.code yX12_vector cX12_vector 6 (some .int) ∈ TB := tbI 1566 (by decide +kernel) rfl
theorem code_X12_wellFormed : Cond.code yX12_wellFormed cX12_wellFormed 8 (some .boolean) ∈ TB := tbI 1435 (by decide +kernel) rfl
theorem kcX12_163 : Cond.constantLong RX12 163 (116 : Int64) ∈ TB := tbI 1198 (by decide +kernel) rfl
theorem kcX12_169 : Cond.constantLong RX12 169 (13556 : Int64) ∈ TB := tbI 1203 (by decide +kernel) rfl
theorem kcX12_178 : Cond.constant RX12 178 (1048575 : Int32) ∈ TB := tbI 1422 (by decide +kernel) rfl
theorem kcX12_179 : Cond.constant RX12 179 (32768 : Int32) ∈ TB := tbI 1405 (by decide +kernel) rfl
theorem kcX12_184 : Cond.constant RX12 184 (1048576 : Int32) ∈ TB := tbI 1410 (by decide +kernel) rfl
theorem kcX12_225 : Cond.constantLong RX12 225 (1815788 : Int64) ∈ TB := tbI 1423 (by decide +kernel) rfl
theorem kcX12_227 : Cond.constant RX12 227 (100000 : Int32) ∈ TB := tbI 1392 (by decide +kernel) rfl
theorem kcX12_228 : Cond.constantLong RX12 228 (128 : Int64) ∈ TB := tbI 1393 (by decide +kernel) rfl
theorem kcX12_24 : Cond.constantLong RX12 24 (30580406885 : Int64) ∈ TB := tbI 1167 (by decide +kernel) rfl
theorem kcX12_26 : Cond.constantLong RX12 26 (13542 : Int64) ∈ TB := tbI 1168 (by decide +kernel) rfl
theorem kcX12_28 : Cond.constantLong RX12 28 (12911 : Int64) ∈ TB := tbI 1169 (by decide +kernel) rfl
theorem kcX12_30 : Cond.constantLong RX12 30 (1897204 : Int64) ∈ TB := tbI 1170 (by decide +kernel) rfl
theorem kcX12_32 : Cond.constantLong RX12 32 (32163657317 : Int64) ∈ TB := tbI 1171 (by decide +kernel) rfl
theorem kcX12_34 : Cond.constantLong RX12 34 (13166 : Int64) ∈ TB := tbI 1172 (by decide +kernel) rfl
theorem kcX12_36 : Cond.constantLong RX12 36 (26780447208 : Int64) ∈ TB := tbI 1173 (by decide +kernel) rfl
theorem kcX12_38 : Cond.constantLong RX12 38 (31358498807 : Int64) ∈ TB := tbI 1174 (by decide +kernel) rfl
theorem kcX12_390 : Cond.constant RX12 390 (65535 : Int32) ∈ TB := tbI 1558 (by decide +kernel) rfl
theorem kcX12_40 : Cond.constantLong RX12 40 (1634546 : Int64) ∈ TB := tbI 1175 (by decide +kernel) rfl
theorem kcX12_42 : Cond.constantLong RX12 42 (1634930 : Int64) ∈ TB := tbI 1176 (by decide +kernel) rfl
theorem kcX12_44 : Cond.constantLong RX12 44 (209450867 : Int64) ∈ TB := tbI 1177 (by decide +kernel) rfl
theorem kcX12_46 : Cond.constantLong RX12 46 (1880545 : Int64) ∈ TB := tbI 1178 (by decide +kernel) rfl
theorem kcX12_48 : Cond.constantLong RX12 48 (1880548 : Int64) ∈ TB := tbI 1179 (by decide +kernel) rfl
theorem kcX12_50 : Cond.constantLong RX12 50 (228227572 : Int64) ∈ TB := tbI 1180 (by decide +kernel) rfl
theorem kcX12_52 : Cond.constantLong RX12 52 (205338605 : Int64) ∈ TB := tbI 1181 (by decide +kernel) rfl
theorem kcX12_54 : Cond.constantLong RX12 54 (13041 : Int64) ∈ TB := tbI 1182 (by decide +kernel) rfl
theorem kcX12_56 : Cond.constantLong RX12 56 (43 : Int64) ∈ TB := tbI 1183 (by decide +kernel) rfl
theorem kcX12_58 : Cond.constantLong RX12 58 (45 : Int64) ∈ TB := tbI 1184 (by decide +kernel) rfl
theorem kcX12_60 : Cond.constantLong RX12 60 (42 : Int64) ∈ TB := tbI 1185 (by decide +kernel) rfl
theorem kcX12_62 : Cond.constantLong RX12 62 (47 : Int64) ∈ TB := tbI 1186 (by decide +kernel) rfl
theorem kcX12_64 : Cond.constantLong RX12 64 (60 : Int64) ∈ TB := tbI 1187 (by decide +kernel) rfl
theorem kcX12_66 : Cond.constantLong RX12 66 (1603428 : Int64) ∈ TB := tbI 1188 (by decide +kernel) rfl
theorem kcX12_68 : Cond.constantLong RX12 68 (14322 : Int64) ∈ TB := tbI 1189 (by decide +kernel) rfl
theorem kcX12_70 : Cond.constantLong RX12 70 (1980402 : Int64) ∈ TB := tbI 1190 (by decide +kernel) rfl
theorem kcX12_72 : Cond.constantLong RX12 72 (14824 : Int64) ∈ TB := tbI 1191 (by decide +kernel) rfl
theorem kcX12_74 : Cond.constantLong RX12 74 (1946339 : Int64) ∈ TB := tbI 1192 (by decide +kernel) rfl
theorem kcX12_76 : Cond.constantLong RX12 76 (1880806 : Int64) ∈ TB := tbI 1193 (by decide +kernel) rfl
theorem kcX12_78 : Cond.constantLong RX12 78 (1850100 : Int64) ∈ TB := tbI 1194 (by decide +kernel) rfl
theorem kcX12_80 : Cond.constantLong RX12 80 (1782510 : Int64) ∈ TB := tbI 1195 (by decide +kernel) rfl
theorem kcX12_82 : Cond.constantLong RX12 82 (30305580916 : Int64) ∈ TB := tbI 1196 (by decide +kernel) rfl
theorem kcX12_84 : Cond.constantLong RX12 84 (1700596 : Int64) ∈ TB := tbI 1197 (by decide +kernel) rfl
theorem kfX12_101 : fld RX12 101 12 13 := ⟨_, _, _, rfl, iX12, Nat.le_of_ble_eq_true rfl, tbI 1220 (by decide +kernel) rfl⟩
theorem kfX12_104 : fld RX12 104 12 14 := ⟨_, _, _, rfl, iX12, Nat.le_of_ble_eq_true rfl, tbI 1221 (by decide +kernel) rfl⟩
theorem kfX12_107 : fld RX12 107 12 15 := ⟨_, _, _, rfl, iX12, Nat.le_of_ble_eq_true rfl, tbI 1222 (by decide +kernel) rfl⟩
theorem kfX12_110 : fld RX12 110 12 16 := ⟨_, _, _, rfl, iX12, Nat.le_of_ble_eq_true rfl, tbI 1223 (by decide +kernel) rfl⟩
theorem kfX12_113 : fld RX12 113 12 20 := ⟨_, _, _, rfl, iX12, Nat.le_of_ble_eq_true rfl, tbI 1227 (by decide +kernel) rfl⟩
theorem kfX12_116 : fld RX12 116 12 21 := ⟨_, _, _, rfl, iX12, Nat.le_of_ble_eq_true rfl, tbI 1228 (by decide +kernel) rfl⟩
theorem kfX12_119 : fld RX12 119 12 22 := ⟨_, _, _, rfl, iX12, Nat.le_of_ble_eq_true rfl, tbI 1229 (by decide +kernel) rfl⟩
theorem kfX12_122 : fld RX12 122 12 29 := ⟨_, _, _, rfl, iX12, Nat.le_of_ble_eq_true rfl, tbI 1236 (by decide +kernel) rfl⟩
theorem kfX12_125 : fld RX12 125 12 30 := ⟨_, _, _, rfl, iX12, Nat.le_of_ble_eq_true rfl, tbI 1237 (by decide +kernel) rfl⟩
theorem kfX12_128 : fld RX12 128 12 31 := ⟨_, _, _, rfl, iX12, Nat.le_of_ble_eq_true rfl, tbI 1238 (by decide +kernel) rfl⟩
theorem kfX12_13 : fld RX12 13 12 3 := ⟨_, _, _, rfl, iX12, Nat.le_of_ble_eq_true rfl, tbI 1210 (by decide +kernel) rfl⟩
theorem kfX12_131 : fld RX12 131 12 32 := ⟨_, _, _, rfl, iX12, Nat.le_of_ble_eq_true rfl, tbI 1239 (by decide +kernel) rfl⟩
theorem kfX12_134 : fld RX12 134 12 33 := ⟨_, _, _, rfl, iX12, Nat.le_of_ble_eq_true rfl, tbI 1240 (by decide +kernel) rfl⟩
theorem kfX12_137 : fld RX12 137 12 34 := ⟨_, _, _, rfl, iX12, Nat.le_of_ble_eq_true rfl, tbI 1241 (by decide +kernel) rfl⟩
theorem kfX12_140 : fld RX12 140 12 35 := ⟨_, _, _, rfl, iX12, Nat.le_of_ble_eq_true rfl, tbI 1242 (by decide +kernel) rfl⟩
theorem kfX12_143 : fld RX12 143 12 48 := ⟨_, _, _, rfl, iX12, Nat.le_of_ble_eq_true rfl, tbI 1255 (by decide +kernel) rfl⟩
theorem kfX12_146 : fld RX12 146 12 49 := ⟨_, _, _, rfl, iX12, Nat.le_of_ble_eq_true rfl, tbI 1256 (by decide +kernel) rfl⟩
theorem kfX12_150 : fld RX12 150 12 51 := ⟨_, _, _, rfl, iX12, Nat.le_of_ble_eq_true rfl, tbI 1258 (by decide +kernel) rfl⟩
theorem kfX12_153 : fld RX12 153 12 53 := ⟨_, _, _, rfl, iX12, Nat.le_of_ble_eq_true rfl, tbI 1260 (by decide +kernel) rfl⟩
theorem kfX12_156 : fld RX12 156 12 54 := ⟨_, _, _, rfl, iX12, Nat.le_of_ble_eq_true rfl, tbI 1261 (by decide +kernel) rfl⟩
theorem kfX12_159 : fld RX12 159 12 1 := ⟨_, _, _, rfl, iX12, Nat.le_of_ble_eq_true rfl, tbI 1208 (by decide +kernel) rfl⟩
theorem kfX12_17 : fld RX12 17 12 4 := ⟨_, _, _, rfl, iX12, Nat.le_of_ble_eq_true rfl, tbI 1211 (by decide +kernel) rfl⟩
theorem kfX12_175 : fld RX12 175 12 0 := ⟨_, _, _, rfl, iX12, Nat.le_of_ble_eq_true rfl, tbI 1207 (by decide +kernel) rfl⟩
theorem kfX12_185 : fld RX12 185 12 6 := ⟨_, _, _, rfl, iX12, Nat.le_of_ble_eq_true rfl, tbI 1213 (by decide +kernel) rfl⟩
theorem kfX12_188 : fld RX12 188 12 12 := ⟨_, _, _, rfl, iX12, Nat.le_of_ble_eq_true rfl, tbI 1219 (by decide +kernel) rfl⟩
theorem kfX12_191 : fld RX12 191 12 23 := ⟨_, _, _, rfl, iX12, Nat.le_of_ble_eq_true rfl, tbI 1230 (by decide +kernel) rfl⟩
theorem kfX12_201 : fld RX12 201 12 24 := ⟨_, _, _, rfl, iX12, Nat.le_of_ble_eq_true rfl, tbI 1231 (by decide +kernel) rfl⟩
theorem kfX12_204 : fld RX12 204 12 26 := ⟨_, _, _, rfl, iX12, Nat.le_of_ble_eq_true rfl, tbI 1233 (by decide +kernel) rfl⟩
theorem kfX12_208 : fld RX12 208 12 27 := ⟨_, _, _, rfl, iX12, Nat.le_of_ble_eq_true rfl, tbI 1234 (by decide +kernel) rfl⟩
theorem kfX12_21 : fld RX12 21 12 5 := ⟨_, _, _, rfl, iX12, Nat.le_of_ble_eq_true rfl, tbI 1212 (by decide +kernel) rfl⟩
theorem kfX12_211 : fld RX12 211 12 28 := ⟨_, _, _, rfl, iX12, Nat.le_of_ble_eq_true rfl, tbI 1235 (by decide +kernel) rfl⟩
theorem kfX12_221 : fld RX12 221 12 25 := ⟨_, _, _, rfl, iX12, Nat.le_of_ble_eq_true rfl, tbI 1232 (by decide +kernel) rfl⟩
theorem kfX12_275 : fld RX12 275 12 37 := ⟨_, _, _, rfl, iX12, Nat.le_of_ble_eq_true rfl, tbI 1244 (by decide +kernel) rfl⟩
theorem kfX12_278 : fld RX12 278 12 36 := ⟨_, _, _, rfl, iX12, Nat.le_of_ble_eq_true rfl, tbI 1243 (by decide +kernel) rfl⟩
theorem kfX12_287 : fld RX12 287 12 17 := ⟨_, _, _, rfl, iX12, Nat.le_of_ble_eq_true rfl, tbI 1224 (by decide +kernel) rfl⟩
theorem kfX12_290 : fld RX12 290 12 18 := ⟨_, _, _, rfl, iX12, Nat.le_of_ble_eq_true rfl, tbI 1225 (by decide +kernel) rfl⟩
theorem kfX12_293 : fld RX12 293 12 19 := ⟨_, _, _, rfl, iX12, Nat.le_of_ble_eq_true rfl, tbI 1226 (by decide +kernel) rfl⟩
theorem kfX12_299 : fld RX12 299 12 42 := ⟨_, _, _, rfl, iX12, Nat.le_of_ble_eq_true rfl, tbI 1249 (by decide +kernel) rfl⟩
theorem kfX12_302 : fld RX12 302 12 38 := ⟨_, _, _, rfl, iX12, Nat.le_of_ble_eq_true rfl, tbI 1245 (by decide +kernel) rfl⟩
theorem kfX12_305 : fld RX12 305 12 39 := ⟨_, _, _, rfl, iX12, Nat.le_of_ble_eq_true rfl, tbI 1246 (by decide +kernel) rfl⟩
theorem kfX12_308 : fld RX12 308 12 44 := ⟨_, _, _, rfl, iX12, Nat.le_of_ble_eq_true rfl, tbI 1251 (by decide +kernel) rfl⟩
theorem kfX12_311 : fld RX12 311 12 40 := ⟨_, _, _, rfl, iX12, Nat.le_of_ble_eq_true rfl, tbI 1247 (by decide +kernel) rfl⟩
theorem kfX12_314 : fld RX12 314 12 41 := ⟨_, _, _, rfl, iX12, Nat.le_of_ble_eq_true rfl, tbI 1248 (by decide +kernel) rfl⟩
theorem kfX12_320 : fld RX12 320 12 43 := ⟨_, _, _, rfl, iX12, Nat.le_of_ble_eq_true rfl, tbI 1250 (by decide +kernel) rfl⟩
theorem kfX12_400 : fld RX12 400 12 52 := ⟨_, _, _, rfl, iX12, Nat.le_of_ble_eq_true rfl, tbI 1259 (by decide +kernel) rfl⟩
theorem kfX12_403 : fld RX12 403 12 45 := ⟨_, _, _, rfl, iX12, Nat.le_of_ble_eq_true rfl, tbI 1252 (by decide +kernel) rfl⟩
theorem kfX12_409 : fld RX12 409 12 47 := ⟨_, _, _, rfl, iX12, Nat.le_of_ble_eq_true rfl, tbI 1254 (by decide +kernel) rfl⟩
theorem kfX12_418 : fld RX12 418 12 46 := ⟨_, _, _, rfl, iX12, Nat.le_of_ble_eq_true rfl, tbI 1253 (by decide +kernel) rfl⟩
theorem kfX12_421 : fld RX12 421 12 50 := ⟨_, _, _, rfl, iX12, Nat.le_of_ble_eq_true rfl, tbI 1257 (by decide +kernel) rfl⟩
theorem kfX12_427 : fld RX12 427 12 55 := ⟨_, _, _, rfl, iX12, Nat.le_of_ble_eq_true rfl, tbI 1262 (by decide +kernel) rfl⟩
theorem kfX12_7 : fld RX12 7 12 2 := ⟨_, _, _, rfl, iX12, Nat.le_of_ble_eq_true rfl, tbI 1209 (by decide +kernel) rfl⟩
theorem kfX12_86 : fld RX12 86 12 7 := ⟨_, _, _, rfl, iX12, Nat.le_of_ble_eq_true rfl, tbI 1214 (by decide +kernel) rfl⟩
theorem kfX12_89 : fld RX12 89 12 8 := ⟨_, _, _, rfl, iX12, Nat.le_of_ble_eq_true rfl, tbI 1215 (by decide +kernel) rfl⟩
theorem kfX12_92 : fld RX12 92 12 9 := ⟨_, _, _, rfl, iX12, Nat.le_of_ble_eq_true rfl, tbI 1216 (by decide +kernel) rfl⟩
theorem kfX12_95 : fld RX12 95 12 10 := ⟨_, _, _, rfl, iX12, Nat.le_of_ble_eq_true rfl, tbI 1217 (by decide +kernel) rfl⟩
theorem kfX12_98 : fld RX12 98 12 11 := ⟨_, _, _, rfl, iX12, Nat.le_of_ble_eq_true rfl, tbI 1218 (by decide +kernel) rfl⟩
theorem kmX12_165 : mlV RX12 165 RX12 yX12_symbolOf cX12_symbolOf 4 (some .int) 1 := mlV_mk (tbI 1199 (by decide +kernel) rfl) (tbI 1201 (by decide +kernel) rfl) (tbS (y := yX12_symbolOf) (k := 56) 71 (by decide +kernel)) (tbI 18 (by decide +kernel) rfl) code_X12_symbolOf (by decide +kernel)
theorem kmX12_194 : mlV RX12 194 RX12 yX12_cell cX12_cell 3 (some .int) 2 := mlV_mk (tbI 1411 (by decide +kernel) rfl) (tbI 1413 (by decide +kernel) rfl) (tbS (y := yX12_cell) (k := 56) 76 (by decide +kernel)) (tbI 18 (by decide +kernel) rfl) code_X12_cell (by decide +kernel)
theorem kmX12_197 : mlV RX12 197 RX12 yX12_setCdr cX12_setCdr 3 none 2 := mlV_mk (tbI 1415 (by decide +kernel) rfl) (tbI 1417 (by decide +kernel) rfl) (tbS (y := yX12_setCdr) (k := 56) 77 (by decide +kernel)) (tbI 18 (by decide +kernel) rfl) code_X12_setCdr (by decide +kernel)
theorem kmX12_217 : mlV RX12 217 RX12 yX12_add cX12_add 4 none 1 := mlV_mk (tbI 1406 (by decide +kernel) rfl) (tbI 1408 (by decide +kernel) rfl) (tbS (y := yX12_add) (k := 56) 75 (by decide +kernel)) (tbI 18 (by decide +kernel) rfl) code_X12_add (by decide +kernel)
theorem kmX12_230 : mlV RX12 230 RX12 yX12_raise cX12_raise 2 (some .int) 1 := mlV_mk (tbI 1394 (by decide +kernel) rfl) (tbI 1396 (by decide +kernel) rfl) (tbS (y := yX12_raise) (k := 56) 73 (by decide +kernel)) (tbI 18 (by decide +kernel) rfl) code_X12_raise (by decide +kernel)
theorem kmX12_237 : mlV RX12 237 RX12 yX12_letter cX12_letter 3 none 1 := mlV_mk (tbI 1388 (by decide +kernel) rfl) (tbI 1390 (by decide +kernel) rfl) (tbS (y := yX12_letter) (k := 56) 72 (by decide +kernel)) (tbI 18 (by decide +kernel) rfl) code_X12_letter (by decide +kernel)
theorem kmX12_240 : mlV RX12 240 RX12 yX12_endAtom cX12_endAtom 3 (some .boolean) 0 := mlV_mk (tbI 1398 (by decide +kernel) rfl) (tbI 1400 (by decide +kernel) rfl) (tbS (y := yX12_endAtom) (k := 56) 74 (by decide +kernel)) (tbI 18 (by decide +kernel) rfl) code_X12_endAtom (by decide +kernel)
theorem kmX12_244 : mlV RX12 244 RX12 yX12_drop cX12_drop 1 (some .int) 0 := mlV_mk (tbI 1424 (by decide +kernel) rfl) (tbI 1426 (by decide +kernel) rfl) (tbS (y := yX12_drop) (k := 56) 78 (by decide +kernel)) (tbI 18 (by decide +kernel) rfl) code_X12_drop (by decide +kernel)
theorem kmX12_248 : mlV RX12 248 RX12 yX12_run cX12_run 2 (some .int) 1 := mlV_mk (tbI 1428 (by decide +kernel) rfl) (tbI 1430 (by decide +kernel) rfl) (tbS (y := yX12_run) (k := 56) 79 (by decide +kernel)) (tbI 18 (by decide +kernel) rfl) code_X12_run (by decide +kernel)
theorem kmX12_251 : mlV RX12 251 RX12 yX12_cdr cX12_cdr 2 (some .int) 1 := mlV_mk (tbI 1447 (by decide +kernel) rfl) (tbI 1449 (by decide +kernel) rfl) (tbS (y := yX12_cdr) (k := 56) 83 (by decide +kernel)) (tbI 18 (by decide +kernel) rfl) code_X12_cdr (by decide +kernel)
theorem kmX12_257 : mlV RX12 257 RX12 yX12_parts cX12_parts 4 (some .int) 1 := mlV_mk (tbI 1451 (by decide +kernel) rfl) (tbI 1453 (by decide +kernel) rfl) (tbS (y := yX12_parts) (k := 56) 84 (by decide +kernel)) (tbI 18 (by decide +kernel) rfl) code_X12_parts (by decide +kernel)
theorem kmX12_260 : mlV RX12 260 RX12 yX12_car cX12_car 2 (some .int) 1 := mlV_mk (tbI 1443 (by decide +kernel) rfl) (tbI 1445 (by decide +kernel) rfl) (tbS (y := yX12_car) (k := 56) 82 (by decide +kernel)) (tbI 18 (by decide +kernel) rfl) code_X12_car (by decide +kernel)
theorem kmX12_263 : mlV RX12 263 RX12 yX12_opOf cX12_opOf 2 (some .int) 1 := mlV_mk (tbI 1439 (by decide +kernel) rfl) (tbI 1441 (by decide +kernel) rfl) (tbS (y := yX12_opOf) (k := 56) 81 (by decide +kernel)) (tbI 18 (by decide +kernel) rfl) code_X12_opOf (by decide +kernel)
theorem kmX12_266 : mlV RX12 266 RX12 yX12_parameters cX12_parameters 4 (some .boolean) 1 := mlV_mk (tbI 1455 (by decide +kernel) rfl) (tbI 1457 (by decide +kernel) rfl) (tbS (y := yX12_parameters) (k := 56) 85 (by decide +kernel)) (tbI 18 (by decide +kernel) rfl) code_X12_parameters (by decide +kernel)
theorem kmX12_269 : mlV RX12 269 RX12 yX12_mark cX12_mark 3 none 1 := mlV_mk (tbI 1507 (by decide +kernel) rfl) (tbI 1509 (by decide +kernel) rfl) (tbS (y := yX12_mark) (k := 56) 98 (by decide +kernel)) (tbI 18 (by decide +kernel) rfl) code_X12_mark (by decide +kernel)
theorem kmX12_272 : mlV RX12 272 RX12 yX12_markFrame cX12_markFrame 2 none 1 := mlV_mk (tbI 1511 (by decide +kernel) rfl) (tbI 1513 (by decide +kernel) rfl) (tbS (y := yX12_markFrame) (k := 56) 99 (by decide +kernel)) (tbI 18 (by decide +kernel) rfl) code_X12_markFrame (by decide +kernel)
theorem kmX12_281 : mlV RX12 281 RX12 yX12_marks cX12_marks 3 (some .int) 0 := mlV_mk (tbI 1515 (by decide +kernel) rfl) (tbI 1517 (by decide +kernel) rfl) (tbS (y := yX12_marks) (k := 56) 100 (by decide +kernel)) (tbI 18 (by decide +kernel) rfl) code_X12_marks (by decide +kernel)
theorem kmX12_284 : mlV RX12 284 RX12 yX12_markWithin cX12_markWithin 5 none 1 := mlV_mk (tbI 1519 (by decide +kernel) rfl) (tbI 1521 (by decide +kernel) rfl) (tbS (y := yX12_markWithin) (k := 56) 101 (by decide +kernel)) (tbI 18 (by decide +kernel) rfl) code_X12_markWithin (by decide +kernel)
theorem kmX12_296 : mlV RX12 296 RX12 yX12_gather cX12_gather 3 none 0 := mlV_mk (tbI 1503 (by decide +kernel) rfl) (tbI 1505 (by decide +kernel) rfl) (tbS (y := yX12_gather) (k := 56) 97 (by decide +kernel)) (tbI 18 (by decide +kernel) rfl) code_X12_gather (by decide +kernel)
theorem kmX12_317 : mlV RX12 317 RX12 yX12_ask cX12_ask 2 none 1 := mlV_mk (tbI 1475 (by decide +kernel) rfl) (tbI 1477 (by decide +kernel) rfl) (tbS (y := yX12_ask) (k := 56) 90 (by decide +kernel)) (tbI 18 (by decide +kernel) rfl) code_X12_ask (by decide +kernel)
theorem kmX12_323 : mlV RX12 323 RX12 yX12_place cX12_place 6 (some .int) 2 := mlV_mk (tbI 1483 (by decide +kernel) rfl) (tbI 1485 (by decide +kernel) rfl) (tbS (y := yX12_place) (k := 56) 92 (by decide +kernel)) (tbI 18 (by decide +kernel) rfl) code_X12_place (by decide +kernel)
theorem kmX12_326 : mlV RX12 326 RX12 yX12_begin cX12_begin 4 none 1 := mlV_mk (tbI 1599 (by decide +kernel) rfl) (tbI 1601 (by decide +kernel) rfl) (tbS (y := yX12_begin) (k := 56) 120 (by decide +kernel)) (tbI 18 (by decide +kernel) rfl) code_X12_begin (by decide +kernel)
theorem kmX12_329 : mlV RX12 329 RX12 yX12_room cX12_room 2 (some .boolean) 1 := mlV_mk (tbI 1499 (by decide +kernel) rfl) (tbI 1501 (by decide +kernel) rfl) (tbS (y := yX12_room) (k := 56) 96 (by decide +kernel)) (tbI 18 (by decide +kernel) rfl) code_X12_room (by decide +kernel)
theorem kmX12_332 : mlV RX12 332 RX12 yX12_make cX12_make 4 (some .int) 2 := mlV_mk (tbI 1523 (by decide +kernel) rfl) (tbI 1525 (by decide +kernel) rfl) (tbS (y := yX12_make) (k := 56) 102 (by decide +kernel)) (tbI 18 (by decide +kernel) rfl) code_X12_make (by decide +kernel)
theorem kmX12_335 : mlV RX12 335 RX12 yX12_push cX12_push 3 none 2 := mlV_mk (tbI 1603 (by decide +kernel) rfl) (tbI 1605 (by decide +kernel) rfl) (tbS (y := yX12_push) (k := 56) 121 (by decide +kernel)) (tbI 18 (by decide +kernel) rfl) code_X12_push (by decide +kernel)
theorem kmX12_338 : mlV RX12 338 RX12 yX12_nothing cX12_nothing 2 none 1 := mlV_mk (tbI 1607 (by decide +kernel) rfl) (tbI 1609 (by decide +kernel) rfl) (tbS (y := yX12_nothing) (k := 56) 122 (by decide +kernel)) (tbI 18 (by decide +kernel) rfl) code_X12_nothing (by decide +kernel)
theorem kmX12_341 : mlV RX12 341 RX12 yX12_next cX12_next 2 none 0 := mlV_mk (tbI 1471 (by decide +kernel) rfl) (tbI 1473 (by decide +kernel) rfl) (tbS (y := yX12_next) (k := 56) 89 (by decide +kernel)) (tbI 18 (by decide +kernel) rfl) code_X12_next (by decide +kernel)
theorem kmX12_344 : mlV RX12 344 RX12 yX12_apply cX12_apply 4 none 1 := mlV_mk (tbI 1491 (by decide +kernel) rfl) (tbI 1493 (by decide +kernel) rfl) (tbS (y := yX12_apply) (k := 56) 94 (by decide +kernel)) (tbI 18 (by decide +kernel) rfl) code_X12_apply (by decide +kernel)
theorem kmX12_347 : mlV RX12 347 RX12 yX12_pop cX12_pop 2 none 1 := mlV_mk (tbI 1467 (by decide +kernel) rfl) (tbI 1469 (by decide +kernel) rfl) (tbS (y := yX12_pop) (k := 56) 88 (by decide +kernel)) (tbI 18 (by decide +kernel) rfl) code_X12_pop (by decide +kernel)
theorem kmX12_350 : mlV RX12 350 RX12 yX12_choose cX12_choose 4 none 0 := mlV_mk (tbI 1463 (by decide +kernel) rfl) (tbI 1465 (by decide +kernel) rfl) (tbS (y := yX12_choose) (k := 56) 87 (by decide +kernel)) (tbI 18 (by decide +kernel) rfl) code_X12_choose (by decide +kernel)
theorem kmX12_353 : mlV RX12 353 RX12 yX12_assign cX12_assign 3 none 0 := mlV_mk (tbI 1479 (by decide +kernel) rfl) (tbI 1481 (by decide +kernel) rfl) (tbS (y := yX12_assign) (k := 56) 91 (by decide +kernel)) (tbI 18 (by decide +kernel) rfl) code_X12_assign (by decide +kernel)
theorem kmX12_356 : mlV RX12 356 RX12 yX12_again cX12_again 2 none 0 := mlV_mk (tbI 1487 (by decide +kernel) rfl) (tbI 1489 (by decide +kernel) rfl) (tbS (y := yX12_again) (k := 56) 93 (by decide +kernel)) (tbI 18 (by decide +kernel) rfl) code_X12_again (by decide +kernel)
theorem kmX12_359 : mlV RX12 359 RX12 yX12_call cX12_call 7 none 1 := mlV_mk (tbI 1495 (by decide +kernel) rfl) (tbI 1497 (by decide +kernel) rfl) (tbS (y := yX12_call) (k := 56) 95 (by decide +kernel)) (tbI 18 (by decide +kernel) rfl) code_X12_call (by decide +kernel)
theorem kmX12_362 : mlV RX12 362 RX12 yX12_cast cX12_cast 5 none 1 := mlV_mk (tbI 1527 (by decide +kernel) rfl) (tbI 1529 (by decide +kernel) rfl) (tbS (y := yX12_cast) (k := 56) 103 (by decide +kernel)) (tbI 18 (by decide +kernel) rfl) code_X12_cast (by decide +kernel)
theorem kmX12_365 : mlV RX12 365 RX12 yX12_lists cX12_lists 9 (some .int) 2 := mlV_mk (tbI 1531 (by decide +kernel) rfl) (tbI 1533 (by decide +kernel) rfl) (tbS (y := yX12_lists) (k := 56) 104 (by decide +kernel)) (tbI 18 (by decide +kernel) rfl) code_X12_lists (by decide +kernel)
theorem kmX12_368 : mlV RX12 368 RX12 yX12_numbers cX12_numbers 7 (some .int) 3 := mlV_mk (tbI 1547 (by decide +kernel) rfl) (tbI 1549 (by decide +kernel) rfl) (tbS (y := yX12_numbers) (k := 56) 108 (by decide +kernel)) (tbI 18 (by decide +kernel) rfl) code_X12_numbers (by decide +kernel)
theorem kmX12_372 : mlV RX12 372 RX12 yX12_others cX12_others 6 (some .int) 2 := mlV_mk (tbI 1559 (by decide +kernel) rfl) (tbI 1561 (by decide +kernel) rfl) (tbS (y := yX12_others) (k := 56) 110 (by decide +kernel)) (tbI 18 (by decide +kernel) rfl) code_X12_others (by decide +kernel)
theorem kmX12_375 : mlV RX12 375 RX12 yX12_truth cX12_truth 2 (some .int) 1 := mlV_mk (tbI 1535 (by decide +kernel) rfl) (tbI 1537 (by decide +kernel) rfl) (tbS (y := yX12_truth) (k := 56) 105 (by decide +kernel)) (tbI 18 (by decide +kernel) rfl) code_X12_truth (by decide +kernel)
theorem kmX12_379 : mlV RX12 379 RX12 yX12_fail cX12_fail 2 (some .int) 1 := mlV_mk (tbI 1539 (by decide +kernel) rfl) (tbI 1541 (by decide +kernel) rfl) (tbS (y := yX12_fail) (k := 56) 106 (by decide +kernel)) (tbI 18 (by decide +kernel) rfl) code_X12_fail (by decide +kernel)
theorem kmX12_382 : mlV RX12 382 RX12 yX12_setCar cX12_setCar 3 none 2 := mlV_mk (tbI 1543 (by decide +kernel) rfl) (tbI 1545 (by decide +kernel) rfl) (tbS (y := yX12_setCar) (k := 56) 107 (by decide +kernel)) (tbI 18 (by decide +kernel) rfl) code_X12_setCar (by decide +kernel)
theorem kmX12_387 : mlV RX12 387 RX12 yX12_ranged cX12_ranged 2 (some .int) 1 := mlV_mk (tbI 1554 (by decide +kernel) rfl) (tbI 1556 (by decide +kernel) rfl) (tbS (y := yX12_ranged) (k := 56) 109 (by decide +kernel)) (tbI 18 (by decide +kernel) rfl) code_X12_ranged (by decide +kernel)
theorem kmX12_391 : mlV RX12 391 RX12 yX12_vector cX12_vector 6 (some .int) 2 := mlV_mk (tbI 1563 (by decide +kernel) rfl) (tbI 1565 (by decide +kernel) rfl) (tbS (y := yX12_vector) (k := 56) 111 (by decide +kernel)) (tbI 18 (by decide +kernel) rfl) code_X12_vector (by decide +kernel)
theorem kmX12_394 : mlV RX12 394 RX12 yX12_print cX12_print 2 none 1 := mlV_mk (tbI 1567 (by decide +kernel) rfl) (tbI 1569 (by decide +kernel) rfl) (tbS (y := yX12_print) (k := 56) 112 (by decide +kernel)) (tbI 18 (by decide +kernel) rfl) code_X12_print (by decide +kernel)
theorem kmX12_397 : mlV RX12 397 RX12 yX12_get cX12_get 3 (some .int) 0 := mlV_mk (tbI 1591 (by decide +kernel) rfl) (tbI 1593 (by decide +kernel) rfl) (tbS (y := yX12_get) (k := 56) 118 (by decide +kernel)) (tbI 18 (by decide +kernel) rfl) code_X12_get (by decide +kernel)
theorem kmX12_406 : mlV RX12 406 RX12 yX12_wellFormed cX12_wellFormed 8 (some .boolean) 1 := mlV_mk (tbI 1432 (by decide +kernel) rfl) (tbI 1434 (by decide +kernel) rfl) (tbS (y := yX12_wellFormed) (k := 56) 80 (by decide +kernel)) (tbI 18 (by decide +kernel) rfl) code_X12_wellFormed (by decide +kernel)
theorem kmX12_412 : mlV RX12 412 RX12 yX12_resume cX12_resume 3 none 0 := mlV_mk (tbI 1459 (by decide +kernel) rfl) (tbI 1461 (by decide +kernel) rfl) (tbS (y := yX12_resume) (k := 56) 86 (by decide +kernel)) (tbI 18 (by decide +kernel) rfl) code_X12_resume (by decide +kernel)
theorem kmX12_415 : mlV RX12 415 RX12 yX12_evaluate cX12_evaluate 3 none 0 := mlV_mk (tbI 1595 (by decide +kernel) rfl) (tbI 1597 (by decide +kernel) rfl) (tbS (y := yX12_evaluate) (k := 56) 119 (by decide +kernel)) (tbI 18 (by decide +kernel) rfl) code_X12_evaluate (by decide +kernel)
theorem kmX12_424 : mlV RX12 424 RX12 yX12_put cX12_put 2 none 1 := mlV_mk (tbI 1575 (by decide +kernel) rfl) (tbI 1577 (by decide +kernel) rfl) (tbS (y := yX12_put) (k := 56) 114 (by decide +kernel)) (tbI 18 (by decide +kernel) rfl) code_X12_put (by decide +kernel)
theorem kmX12_430 : mlV RX12 430 RX12 yX12_figures cX12_figures 5 none 1 := mlV_mk (tbI 1579 (by decide +kernel) rfl) (tbI 1581 (by decide +kernel) rfl) (tbS (y := yX12_figures) (k := 56) 115 (by decide +kernel)) (tbI 18 (by decide +kernel) rfl) code_X12_figures (by decide +kernel)
theorem kmX12_433 : mlV RX12 433 RX12 yX12_letters cX12_letters 5 none 1 := mlV_mk (tbI 1583 (by decide +kernel) rfl) (tbI 1585 (by decide +kernel) rfl) (tbS (y := yX12_letters) (k := 56) 116 (by decide +kernel)) (tbI 18 (by decide +kernel) rfl) code_X12_letters (by decide +kernel)
theorem kmX12_436 : mlV RX12 436 RX12 yX12_show cX12_show 3 none 1 := mlV_mk (tbI 1571 (by decide +kernel) rfl) (tbI 1573 (by decide +kernel) rfl) (tbS (y := yX12_show) (k := 56) 113 (by decide +kernel)) (tbI 18 (by decide +kernel) rfl) code_X12_show (by decide +kernel)
theorem kmX12_439 : mlV RX12 439 RX12 yX12_more cX12_more 5 none 0 := mlV_mk (tbI 1587 (by decide +kernel) rfl) (tbI 1589 (by decide +kernel) rfl) (tbS (y := yX12_more) (k := 56) 117 (by decide +kernel)) (tbI 18 (by decide +kernel) rfl) code_X12_more (by decide +kernel)
theorem kpX12_175 : fldP RX12 175 12 0 .int := ⟨_, _, _, rfl, iX12, Nat.le_of_ble_eq_true rfl, tbI 1207 (by decide +kernel) rfl, rfl, by decide +kernel, ⟨tyX12, tyX12_ok⟩, nmX12⟩
theorem kpX12_185 : fldP RX12 185 12 6 .int := ⟨_, _, _, rfl, iX12, Nat.le_of_ble_eq_true rfl, tbI 1213 (by decide +kernel) rfl, rfl, by decide +kernel, ⟨tyX12, tyX12_ok⟩, nmX12⟩
theorem kpX12_188 : fldP RX12 188 12 12 .int := ⟨_, _, _, rfl, iX12, Nat.le_of_ble_eq_true rfl, tbI 1219 (by decide +kernel) rfl, rfl, by decide +kernel, ⟨tyX12, tyX12_ok⟩, nmX12⟩
theorem kpX12_191 : fldP RX12 191 12 23 .int := ⟨_, _, _, rfl, iX12, Nat.le_of_ble_eq_true rfl, tbI 1230 (by decide +kernel) rfl, rfl, by decide +kernel, ⟨tyX12, tyX12_ok⟩, nmX12⟩
theorem kpX12_201 : fldP RX12 201 12 24 .int := ⟨_, _, _, rfl, iX12, Nat.le_of_ble_eq_true rfl, tbI 1231 (by decide +kernel) rfl, rfl, by decide +kernel, ⟨tyX12, tyX12_ok⟩, nmX12⟩
theorem kpX12_204 : fldP RX12 204 12 26 .boolean := ⟨_, _, _, rfl, iX12, Nat.le_of_ble_eq_true rfl, tbI 1233 (by decide +kernel) rfl, rfl, by decide +kernel, ⟨tyX12, tyX12_ok⟩, nmX12⟩
theorem kpX12_208 : fldP RX12 208 12 27 .boolean := ⟨_, _, _, rfl, iX12, Nat.le_of_ble_eq_true rfl, tbI 1234 (by decide +kernel) rfl, rfl, by decide +kernel, ⟨tyX12, tyX12_ok⟩, nmX12⟩
theorem kpX12_211 : fldP RX12 211 12 28 .int := ⟨_, _, _, rfl, iX12, Nat.le_of_ble_eq_true rfl, tbI 1235 (by decide +kernel) rfl, rfl, by decide +kernel, ⟨tyX12, tyX12_ok⟩, nmX12⟩
theorem kpX12_221 : fldP RX12 221 12 25 .long := ⟨_, _, _, rfl, iX12, Nat.le_of_ble_eq_true rfl, tbI 1232 (by decide +kernel) rfl, rfl, by decide +kernel, ⟨tyX12, tyX12_ok⟩, nmX12⟩
theorem kpX12_275 : fldP RX12 275 12 37 .int := ⟨_, _, _, rfl, iX12, Nat.le_of_ble_eq_true rfl, tbI 1244 (by decide +kernel) rfl, rfl, by decide +kernel, ⟨tyX12, tyX12_ok⟩, nmX12⟩
theorem kpX12_278 : fldP RX12 278 12 36 .int := ⟨_, _, _, rfl, iX12, Nat.le_of_ble_eq_true rfl, tbI 1243 (by decide +kernel) rfl, rfl, by decide +kernel, ⟨tyX12, tyX12_ok⟩, nmX12⟩
theorem kpX12_287 : fldP RX12 287 12 17 .int := ⟨_, _, _, rfl, iX12, Nat.le_of_ble_eq_true rfl, tbI 1224 (by decide +kernel) rfl, rfl, by decide +kernel, ⟨tyX12, tyX12_ok⟩, nmX12⟩
theorem kpX12_290 : fldP RX12 290 12 18 .int := ⟨_, _, _, rfl, iX12, Nat.le_of_ble_eq_true rfl, tbI 1225 (by decide +kernel) rfl, rfl, by decide +kernel, ⟨tyX12, tyX12_ok⟩, nmX12⟩
theorem kpX12_293 : fldP RX12 293 12 19 .int := ⟨_, _, _, rfl, iX12, Nat.le_of_ble_eq_true rfl, tbI 1226 (by decide +kernel) rfl, rfl, by decide +kernel, ⟨tyX12, tyX12_ok⟩, nmX12⟩
theorem kpX12_299 : fldP RX12 299 12 42 .int := ⟨_, _, _, rfl, iX12, Nat.le_of_ble_eq_true rfl, tbI 1249 (by decide +kernel) rfl, rfl, by decide +kernel, ⟨tyX12, tyX12_ok⟩, nmX12⟩
theorem kpX12_302 : fldP RX12 302 12 38 .int := ⟨_, _, _, rfl, iX12, Nat.le_of_ble_eq_true rfl, tbI 1245 (by decide +kernel) rfl, rfl, by decide +kernel, ⟨tyX12, tyX12_ok⟩, nmX12⟩
theorem kpX12_305 : fldP RX12 305 12 39 .int := ⟨_, _, _, rfl, iX12, Nat.le_of_ble_eq_true rfl, tbI 1246 (by decide +kernel) rfl, rfl, by decide +kernel, ⟨tyX12, tyX12_ok⟩, nmX12⟩
theorem kpX12_308 : fldP RX12 308 12 44 .int := ⟨_, _, _, rfl, iX12, Nat.le_of_ble_eq_true rfl, tbI 1251 (by decide +kernel) rfl, rfl, by decide +kernel, ⟨tyX12, tyX12_ok⟩, nmX12⟩
theorem kpX12_311 : fldP RX12 311 12 40 .int := ⟨_, _, _, rfl, iX12, Nat.le_of_ble_eq_true rfl, tbI 1247 (by decide +kernel) rfl, rfl, by decide +kernel, ⟨tyX12, tyX12_ok⟩, nmX12⟩
theorem kpX12_314 : fldP RX12 314 12 41 .boolean := ⟨_, _, _, rfl, iX12, Nat.le_of_ble_eq_true rfl, tbI 1248 (by decide +kernel) rfl, rfl, by decide +kernel, ⟨tyX12, tyX12_ok⟩, nmX12⟩
theorem kpX12_320 : fldP RX12 320 12 43 .int := ⟨_, _, _, rfl, iX12, Nat.le_of_ble_eq_true rfl, tbI 1250 (by decide +kernel) rfl, rfl, by decide +kernel, ⟨tyX12, tyX12_ok⟩, nmX12⟩
theorem kpX12_400 : fldP RX12 400 12 52 .int := ⟨_, _, _, rfl, iX12, Nat.le_of_ble_eq_true rfl, tbI 1259 (by decide +kernel) rfl, rfl, by decide +kernel, ⟨tyX12, tyX12_ok⟩, nmX12⟩
theorem kpX12_403 : fldP RX12 403 12 45 .int := ⟨_, _, _, rfl, iX12, Nat.le_of_ble_eq_true rfl, tbI 1252 (by decide +kernel) rfl, rfl, by decide +kernel, ⟨tyX12, tyX12_ok⟩, nmX12⟩
theorem kpX12_409 : fldP RX12 409 12 47 .int := ⟨_, _, _, rfl, iX12, Nat.le_of_ble_eq_true rfl, tbI 1254 (by decide +kernel) rfl, rfl, by decide +kernel, ⟨tyX12, tyX12_ok⟩, nmX12⟩
theorem kpX12_418 : fldP RX12 418 12 46 .int := ⟨_, _, _, rfl, iX12, Nat.le_of_ble_eq_true rfl, tbI 1253 (by decide +kernel) rfl, rfl, by decide +kernel, ⟨tyX12, tyX12_ok⟩, nmX12⟩
theorem kpX12_421 : fldP RX12 421 12 50 .int := ⟨_, _, _, rfl, iX12, Nat.le_of_ble_eq_true rfl, tbI 1257 (by decide +kernel) rfl, rfl, by decide +kernel, ⟨tyX12, tyX12_ok⟩, nmX12⟩
theorem kpX12_427 : fldP RX12 427 12 55 .int := ⟨_, _, _, rfl, iX12, Nat.le_of_ble_eq_true rfl, tbI 1262 (by decide +kernel) rfl, rfl, by decide +kernel, ⟨tyX12, tyX12_ok⟩, nmX12⟩
theorem ksX12_171 : mlS RX12 171 yX12_code cX12_code 2 (some .int) 2 := mlS_mk (tbI 1204 (by decide +kernel) rfl) (tbI 1205 (by decide +kernel) rfl) (tbI 18 (by decide +kernel) rfl) code_X12_code (by decide +kernel)
theorem ksX12_180 : mlS RX12 180 yX12_load cX12_load 1 (some .int) 1 := mlS_mk (tbI 1419 (by decide +kernel) rfl) (tbI 1420 (by decide +kernel) rfl) (tbI 18 (by decide +kernel) rfl) code_X12_load (by decide +kernel)
theorem ksX12_214 : mlS RX12 214 yX12_numeral cX12_numeral 1 (some .int) 1 := mlS_mk (tbI 1402 (by decide +kernel) rfl) (tbI 1403 (by decide +kernel) rfl) (tbI 18 (by decide +kernel) rfl) code_X12_numeral (by decide +kernel)
theorem ksX12_233 : mlS RX12 233 yX12_atomic cX12_atomic 1 (some .boolean) 1 := mlS_mk (tbI 1385 (by decide +kernel) rfl) (tbI 1386 (by decide +kernel) rfl) (tbI 18 (by decide +kernel) rfl) code_X12_atomic (by decide +kernel)
theorem ksX12_254 : mlS RX12 254 yX12_sortOf cX12_sortOf 1 (some .int) 1 := mlS_mk (tbI 1436 (by decide +kernel) rfl) (tbI 1437 (by decide +kernel) rfl) (tbI 18 (by decide +kernel) rfl) code_X12_sortOf (by decide +kernel)
theorem ksX12_385 : mlS RX12 385 yX12_amount cX12_amount 1 (some .int) 1 := mlS_mk (tbI 1551 (by decide +kernel) rfl) (tbI 1552 (by decide +kernel) rfl) (tbI 18 (by decide +kernel) rfl) code_X12_amount (by decide +kernel)
