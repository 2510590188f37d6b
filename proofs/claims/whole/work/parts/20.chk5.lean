set_option maxRecDepth 20000 in
theorem kX12_spelt : chkM infA (yX12_spelt, cX12_spelt, 9, (some .long), mX12_spelt, []) [[1296], [], [], [1297], [], [], [], [], [], [1297], [], [], [], [], [1296], [], [], [], [], [], [1297], [], [], [], [], [1296], [], [], [], [], [], [1297], [], [], [], [], [1296], [], [], [], [], [], [1297], [], [], [], [], [1296], [], [], [], [], [], [1297], [], [], [], [], [1296], [], [], [], [], [], [1297], [], [], [], []] = true := by decide +kernel
theorem oX12_spelt : chkO (yX12_spelt, cX12_spelt, 9, (some .long), mX12_spelt, []) 1311 102 = true := by decide +kernel
set_option maxRecDepth 20000 in
theorem kX12_wordOf : chkM infA (yX12_wordOf, cX12_wordOf, 1, (some .long), mX12_wordOf, []) [[], [], [], [], [], [], [], [], [], [1309, 1310, 0], [], [], [], [], [], [], [], [], [1309, 1310, 0], [], [], [], [], [], [], [], [], [1309, 1310, 0], [], [], [], [], [], [], [], [], [1309, 1310, 0], [], [], [], [], [], [], [], [], [1309, 1310, 0], [], [], [], [], [], [], [], [], [1309, 1310, 0], [], [], [], [], [], [], [], [], [1309, 1310, 0], [], [], [], [], [], [], [], [], [1309, 1310, 0], [], [], [], [], [], [], [], [], [1309, 1310, 0], [], [], [], [], [], [], [], [], [1309, 1310, 0], [], [], [], [], [], [], [], [], [1309, 1310, 0], [], [], [], [], [], [], [], [], [1309, 1310, 0], [], [], [], [], [], [], [], [], [1309, 1310, 0], [], [], [], [], [], [], [], [], [1309, 1310, 0], [], [], [], [], [], [], [], [], [1309, 1310, 0], [], [], [], [], [], [], [], [], [1309, 1310, 0], [], [], [], [], [], [], [], [], [1309, 1310, 0], [], [], [], [], [], [], [], [], [1309, 1310, 0], [], [], [], [], [], [], [], [], [1309, 1310, 0], [], [], [], [], [], [], [], [], [1309, 1310, 0], [], [], [], [], [], [], [], [], [1309, 1310, 0], [], [], [], [], [], [], [], [], [1309, 1310, 0], [], [], [], [], [], [], [], [], [1309, 1310, 0], []] = true := by decide +kernel
theorem oX12_wordOf : chkO (yX12_wordOf, cX12_wordOf, 1, (some .long), mX12_wordOf, []) 1308 102 = true := by decide +kernel
set_option maxRecDepth 20000 in
theorem kX12_isWord : chkM infA (yX12_isWord, cX12_isWord, 2, (some .boolean), mX12_isWord, []) [[], [1159], [], [], [], [1164], [], [1306, 1307, 0], [], [], [], [], [], []] = true := by decide +kernel
theorem oX12_isWord : chkO (yX12_isWord, cX12_isWord, 2, (some .boolean), mX12_isWord, []) 1305 102 = true := by decide +kernel
set_option maxRecDepth 20000 in
theorem kX12_isSign : chkM infA (yX12_isSign, cX12_isSign, 2, (some .boolean), mX12_isSign, []) [[], [1159], [], [], [], [1161], [], [], [], [], [], []] = true := by decide +kernel
theorem oX12_isSign : chkO (yX12_isSign, cX12_isSign, 2, (some .boolean), mX12_isSign, []) 1357 102 = true := by decide +kernel
set_option maxRecDepth 20000 in
theorem kX12_isName : chkM infA (yX12_isName, cX12_isName, 2, (some .boolean), mX12_isName, []) [[], [1159], [], [], [], [], [], [], [], [], [], [], [1164], [], [1306, 1307, 0], [], [], [], [], [], [], [], []] = true := by decide +kernel
theorem oX12_isName : chkO (yX12_isName, cX12_isName, 2, (some .boolean), mX12_isName, []) 1334 102 = true := by decide +kernel
set_option maxRecDepth 20000 in
theorem kX12_bad : chkM infA (yX12_bad, cX12_bad, 2, (some .boolean), mX12_bad, []) [[], [], [1159], [], [], [], [], [], [1162], [], [], [1158], [1163], [], []] = true := by decide +kernel
theorem oX12_bad : chkO (yX12_bad, cX12_bad, 2, (some .boolean), mX12_bad, []) 1319 102 = true := by decide +kernel
set_option maxRecDepth 20000 in
theorem kX12_readNumber : chkM infA (yX12_readNumber, cX12_readNumber, 3, (some .boolean), mX12_readNumber, []) [[], [1159], [], [], [], [], [1316, 1318, 30], [], [], [1160], [], [], [1324, 1325, 0], [], [], [], [1316, 1318, 30], [], [], [], [1160], [1165], [], [1282, 1284, 25], [], []] = true := by decide +kernel
theorem oX12_readNumber : chkO (yX12_readNumber, cX12_readNumber, 3, (some .boolean), mX12_readNumber, []) 1323 102 = true := by decide +kernel
set_option maxRecDepth 20000 in
theorem kX12_readEnd : chkM infA (yX12_readEnd, cX12_readEnd, 1, (some .boolean), mX12_readEnd, []) [[], [], [1354, 1356, 38], [], [], [], [1316, 1318, 30], [], [], [1282, 1284, 25], [], []] = true := by decide +kernel
theorem oX12_readEnd : chkO (yX12_readEnd, cX12_readEnd, 1, (some .boolean), mX12_readEnd, []) 1353 102 = true := by decide +kernel
set_option maxRecDepth 20000 in
theorem kX12_begin : chkM infA (yX12_begin, cX12_begin, 2, none, mX12_begin, []) [[], [], [1152], [], [], [1278, 1280, 24], [1155], [], [], [1156], [], [], [1162], [], [], [1157], [], [1282, 1284, 25], []] = true := by decide +kernel
theorem oX12_begin : chkO (yX12_begin, cX12_begin, 2, none, mX12_begin, []) 1277 102 = true := by decide +kernel
set_option maxRecDepth 20000 in
theorem kX12_init : chkM infA (yX12_init, cX12_init, 1, none, mX12_init, []) [[], [1151, 120, 121], [], [], [174], [1153], [], [], [174], [1166], [], [], [174], [1167], [], [], [174], [1168], [], [], [174], [1169], [], [], [174], [1170], [], [], [174], [1171], [], [], [198], [1172], [], [], [198], [1173], [], [], [198], [1174], [], [], [278], [1175], [], [], [174], [1179], [], [], [174], [1182], [], [], [174], [1183], [], [], [174], [1186], [], [1166], [], [], [], []] = true := by decide +kernel
theorem oX12_init : chkO (yX12_init, cX12_init, 1, none, mX12_init, []) 1150 102 = true := by decide +kernel
set_option maxRecDepth 20000 in
theorem kX12_startSo : chkM infA (yX12_startSo, cX12_startSo, 3, none, mX12_startSo, []) [[], [], [], [], [], [], [1166], [], [], [], [], [], [], [], [], [], [1166], [], [], [], [], [], [], [], [1166], [], [], [], [], [], [], [], [], [], [1166], [], [], [], [], [], [], [], [], [1362, 1364, 40], [], [], [], [], [], [1166], [], [], [1166], [], [], [], [], [], [], [], [], [], [1166], [], [], [], [], [1166], [], [], [], [], [], [], [], []] = true := by decide +kernel
theorem oX12_startSo : chkO (yX12_startSo, cX12_startSo, 3, none, mX12_startSo, []) 1361 102 = true := by decide +kernel
set_option maxRecDepth 20000 in
theorem kX12_findIn : chkM infA (yX12_findIn, cX12_findIn, 5, (some .int), mX12_findIn, []) [[], [], [], [], [], [], [], [], [], [], [], [], [], [], [], [], []] = true := by decide +kernel
theorem oX12_findIn : chkO (yX12_findIn, cX12_findIn, 5, (some .int), mX12_findIn, []) 1337 102 = true := by decide +kernel
set_option maxRecDepth 20000 in
theorem kX12_readLeaf : chkM infA (yX12_readLeaf, cX12_readLeaf, 2, (some .boolean), mX12_readLeaf, []) [[], [], [], [], [1316, 1318, 30], [], [], [1282, 1284, 25], [], [], [], [1320, 1322, 31], [], [], [], [], [1167], [], [], [1165], [], [], []] = true := by decide +kernel
theorem oX12_readLeaf : chkO (yX12_readLeaf, cX12_readLeaf, 2, (some .boolean), mX12_readLeaf, []) 1315 102 = true := by decide +kernel
set_option maxRecDepth 20000 in
theorem kX12_areOf : chkM infA (yX12_areOf, cX12_areOf, 3, (some .boolean), mX12_areOf, []) [[], [1158], [], [], [], [1157], [], [], [1153], [], [], [], [], [], [], [], [], [], []] = true := by decide +kernel
theorem oX12_areOf : chkO (yX12_areOf, cX12_areOf, 3, (some .boolean), mX12_areOf, []) 1349 102 = true := by decide +kernel
set_option maxRecDepth 20000 in
theorem kX12_areBits : chkM infA (yX12_areBits, cX12_areBits, 2, (some .boolean), mX12_areBits, []) [[], [1158], [], [], [], [1157], [], [], [1153], [], [], [], [], [], [1153], [], [], [], [], [], [], [], [], [], []] = true := by decide +kernel
theorem oX12_areBits : chkO (yX12_areBits, cX12_areBits, 2, (some .boolean), mX12_areBits, []) 1341 102 = true := by decide +kernel
set_option maxRecDepth 20000 in
theorem kX12_readRow : chkM infA (yX12_readRow, cX12_readRow, 3, (some .boolean), mX12_readRow, []) [[], [1167], [], [], [], [], [], [], [1316, 1318, 30], [], [], [1167], [], [], [], [], [1282, 1284, 25], [], [1331, 1333, 33], [], [], [], [1316, 1318, 30], [], [], [1173], [], [], [1164], [1335, 1336, 0], [], [], [], [], [1316, 1318, 30], [], [], [1173], [], [], [1164], [], [], [1167], [], [], [], [], [], [], [], [1282, 1284, 25], [], [1159], [], [], [], [1338, 1340, 34], [], [], [], [1316, 1318, 30], [], [], [1167], [], [], [], [], [], [1157], [], [], [1158], [], [], [], [], [], [1316, 1318, 30], [], [], [1158], [], [], [], [1157], [], [], [1167], [], [], [], [], [], [], [1167], [], [], [], [], [], [], [1153], [], [], [], [], [], [], [], [], [], [1167], [], [], [], [], [], [], [], [], [], [], [], [1282, 1284, 25], [], [], []] = true := by decide +kernel
theorem oX12_readRow : chkO (yX12_readRow, cX12_readRow, 3, (some .boolean), mX12_readRow, []) 1330 102 = true := by decide +kernel
set_option maxRecDepth 20000 in
theorem kX12_readLetters : chkM infA (yX12_readLetters, cX12_readLetters, 2, (some .boolean), mX12_readLetters, []) [[], [1177], [], [], [], [1316, 1318, 30], [], [], [], [1177], [], [1282, 1284, 25], [], [1159], [], [], [], [], [1346, 1348, 36], [], [], [], [1316, 1318, 30], [], [], [1167], [], [], [], [1157], [], [], [1158], [], [], [], [], [], [1316, 1318, 30], [], [], [1158], [], [], [], [1157], [], [], [1167], [], [], [1167], [], [], [], [], [1153], [], [], [], [], [], [], [1167], [], [], [], [], [], [], [], [], [], [1282, 1284, 25], [], [], []] = true := by decide +kernel
theorem oX12_readLetters : chkO (yX12_readLetters, cX12_readLetters, 2, (some .boolean), mX12_readLetters, []) 1345 102 = true := by decide +kernel
set_option maxRecDepth 20000 in
theorem kX12_readLine : chkM infA (yX12_readLine, cX12_readLine, 2, (some .boolean), mX12_readLine, []) [[], [], [1302, 1304, 28], [], [], [], [1312, 1314, 29], [], [], [], [1302, 1304, 28], [], [], [1327, 1329, 32], [], [], [], [1302, 1304, 28], [], [], [1342, 1344, 35], [], [], [], [1316, 1318, 30], []] = true := by decide +kernel
theorem oX12_readLine : chkO (yX12_readLine, cX12_readLine, 2, (some .boolean), mX12_readLine, []) 1301 102 = true := by decide +kernel
set_option maxRecDepth 20000 in
theorem kX12_room : chkM infA (yX12_room, cX12_room, 3, (some .int), mX12_room, []) [[], [], [1274, 1276, 23], [], [], [], [], [], [], [1167], [], [], [], [], [], [], [1167], [], [], [], [], [], [1177], [], [], [], [1159], [], [], [], [1298, 1300, 27], [], [], [1350, 1352, 37], [], [], [], [1163], [], [], [], [], [], [], [], [], [], [], [1166], [], [], [1167], [], [], [], [], [], [], [], [], [], [], [], [1172], [], [], [1173], [], [], [], [], [], [], [1358, 1360, 39], [], [], [1176], [], []] = true := by decide +kernel
theorem oX12_room : chkO (yX12_room, cX12_room, 3, (some .int), mX12_room, []) 1273 102 = true := by decide +kernel
set_option maxRecDepth 20000 in
theorem kX12_fault : chkM infA (yX12_fault, cX12_fault, 1, (some .int), mX12_fault, []) [[], [], [1152], [], [1162], []] = true := by decide +kernel
theorem oX12_fault : chkO (yX12_fault, cX12_fault, 1, (some .int), mX12_fault, []) 1385 102 = true := by decide +kernel
set_option maxRecDepth 20000 in
theorem kX12_sizeOf : chkM infA (yX12_sizeOf, cX12_sizeOf, 2, (some .int), mX12_sizeOf, []) [[], [1166], [], [], [], [], []] = true := by decide +kernel
theorem oX12_sizeOf : chkO (yX12_sizeOf, cX12_sizeOf, 2, (some .int), mX12_sizeOf, []) 1369 102 = true := by decide +kernel
set_option maxRecDepth 20000 in
theorem kX12_bitOf : chkM infA (yX12_bitOf, cX12_bitOf, 3, (some .int), mX12_bitOf, []) [[], [1166], [], [], [], [], [], [], [], [], []] = true := by decide +kernel
theorem oX12_bitOf : chkO (yX12_bitOf, cX12_bitOf, 3, (some .int), mX12_bitOf, []) 1405 102 = true := by decide +kernel
set_option maxRecDepth 20000 in
theorem kX12_leafAt : chkM infA (yX12_leafAt, cX12_leafAt, 3, (some .int), mX12_leafAt, []) [[], [], [], [], [], [], [], []] = true := by decide +kernel
theorem oX12_leafAt : chkO (yX12_leafAt, cX12_leafAt, 3, (some .int), mX12_leafAt, []) 1377 102 = true := by decide +kernel
set_option maxRecDepth 20000 in
theorem kX12_leafOf : chkM infA (yX12_leafOf, cX12_leafOf, 5, (some .int), mX12_leafOf, []) [[], [], [], [1166], [], [], [], [1374, 1376, 43], [], [], [], [], [], [], [], [], [1166], [], [], [], [1374, 1376, 43], [], [], [], [], [], []] = true := by decide +kernel
theorem oX12_leafOf : chkO (yX12_leafOf, cX12_leafOf, 5, (some .int), mX12_leafOf, []) 1373 102 = true := by decide +kernel
set_option maxRecDepth 20000 in
theorem kX12_splitLeaf : chkM infA (yX12_splitLeaf, cX12_splitLeaf, 5, none, mX12_splitLeaf, []) [[], [1166], [], [], [], [1374, 1376, 43], [], [], [], [1166], [], [], [], [], [], [], [], [], [], [], [], [1166], [], [], [], [1374, 1376, 43], [], [1166], [], [], [], [], [], [1374, 1376, 43], [], [], [], [], [], [1166], [], [], [], [1374, 1376, 43], [], [], [], [], [], [], [], [1166], [], [], [], [], [], [1374, 1376, 43], [], [], [], [], [], [1166], [], [], [], [], [], [], [], [], []] = true := by decide +kernel
theorem oX12_splitLeaf : chkO (yX12_splitLeaf, cX12_splitLeaf, 5, none, mX12_splitLeaf, []) 1381 102 = true := by decide +kernel
set_option maxRecDepth 20000 in
theorem kX12_putBit : chkM infA (yX12_putBit, cX12_putBit, 6, none, mX12_putBit, []) [[], [], [], [], [], [], [], [], [1366, 1368, 41], [], [], [], [], [], [1166], [], [], [], [], [1166], [], [], [], [], [], [], [], [], [], [], [1166], [], [], [], [], [], [], [1166], [], [], [], [], [], [], [1166], [], [], [], [], [], [], [], [], [], [], [], [], [], [], [1370, 1372, 42], [], [], [1166], [], [], [], [], [], [], [], [], [], [1166], [], [], [], [1374, 1376, 43], [], [], [], [], [], [], [1166], [], [], [], [1374, 1376, 43], [], [], [], [1166], [], [], [], [], [], [], [], [1378, 1380, 44], []] = true := by decide +kernel
theorem oX12_putBit : chkO (yX12_putBit, cX12_putBit, 6, none, mX12_putBit, []) 1365 102 = true := by decide +kernel
set_option maxRecDepth 20000 in
theorem kX12_joinLeaves : chkM infA (yX12_joinLeaves, cX12_joinLeaves, 4, none, mX12_joinLeaves, []) [[], [1166], [], [], [], [1374, 1376, 43], [], [], [], [1166], [], [], [], [], [], [1374, 1376, 43], [], [], [], [], [1166], [], [], [], [], [], [], [], [], [], [], [], [], [], [], [1166], [], [], [], [], [], [], [1166], [], [], [], [1374, 1376, 43], [], [1166], [], [], [], [], [], [1374, 1376, 43], [], [], [], [], [], [1166], [], [], [], [1166], [], [], [], [], [1374, 1376, 43], [], [], [], [1166], [], [], [], [1374, 1376, 43], [], [], [], [1166], [], [], [], [], [], [], [], [1378, 1380, 44], []] = true := by decide +kernel
theorem oX12_joinLeaves : chkO (yX12_joinLeaves, cX12_joinLeaves, 4, none, mX12_joinLeaves, []) 1600 102 = true := by decide +kernel
set_option maxRecDepth 20000 in
theorem kX12_takeBit : chkM infA (yX12_takeBit, cX12_takeBit, 6, none, mX12_takeBit, []) [[], [], [], [], [], [], [], [], [], [1370, 1372, 42], [], [], [1166], [], [], [], [], [], [], [], [], [], [], [], [], [], [1366, 1368, 41], [], [], [1166], [], [], [], [], [1166], [], [], [], [], [], [], [], [], [], [], [1166], [], [], [], [1366, 1368, 41], [], [], [], [], [1166], [], [], [], [1374, 1376, 43], [], [], [], [], [], [], [1166], [], [], [], [], [], [], [], [1166], [], [], [], [1374, 1376, 43], [], [], [], [1166], [], [], [], [], [], [], [], [1166], [], [], [], [1374, 1376, 43], [], [], [1166], [], [], [], [], [], [], [], [1166], [], [], [], [], [], [], [], [], [], [], [], [], [1597, 1599, 68], []] = true := by decide +kernel
theorem oX12_takeBit : chkO (yX12_takeBit, cX12_takeBit, 6, none, mX12_takeBit, []) 1596 102 = true := by decide +kernel
set_option maxRecDepth 20000 in
theorem kX12_isRow : chkM infA (yX12_isRow, cX12_isRow, 2, (some .boolean), mX12_isRow, []) [[], [], [], [1166], [], [], [], [], [1324, 1325, 0], []] = true := by decide +kernel
theorem oX12_isRow : chkO (yX12_isRow, cX12_isRow, 2, (some .boolean), mX12_isRow, []) 1393 102 = true := by decide +kernel
set_option maxRecDepth 20000 in
theorem kX12_isBit : chkM infA (yX12_isBit, cX12_isBit, 2, (some .boolean), mX12_isBit, []) [[], [], [], [1324, 1325, 0], []] = true := by decide +kernel
theorem oX12_isBit : chkO (yX12_isBit, cX12_isBit, 2, (some .boolean), mX12_isBit, []) 1413 102 = true := by decide +kernel
set_option maxRecDepth 20000 in
theorem kX12_isThere : chkM infA (yX12_isThere, cX12_isThere, 3, (some .boolean), mX12_isThere, []) [[], [], [], [], [1366, 1368, 41], [], [], [1324, 1325, 0], []] = true := by decide +kernel
theorem oX12_isThere : chkO (yX12_isThere, cX12_isThere, 3, (some .boolean), mX12_isThere, []) 1401 102 = true := by decide +kernel
set_option maxRecDepth 20000 in
theorem kX12_onesIn : chkM infA (yX12_onesIn, cX12_onesIn, 6, (some .int), mX12_onesIn, []) [[], [], [], [], [], [], [], [], [], [], [], [1402, 1404, 47], [], [], [], [], [], []] = true := by decide +kernel
theorem oX12_onesIn : chkO (yX12_onesIn, cX12_onesIn, 6, (some .int), mX12_onesIn, []) 1417 102 = true := by decide +kernel
set_option maxRecDepth 20000 in
theorem kX12_size : chkM infA (yX12_size, cX12_size, 2, (some .int), mX12_size, []) [[], [], [1152], [], [], [1390, 1392, 45], [], [], [], [1366, 1368, 41], [], [], []] = true := by decide +kernel
theorem oX12_size : chkO (yX12_size, cX12_size, 2, (some .int), mX12_size, []) 1389 102 = true := by decide +kernel
set_option maxRecDepth 20000 in
theorem kX12_bit : chkM infA (yX12_bit, cX12_bit, 3, (some .int), mX12_bit, []) [[], [], [1152], [], [], [1390, 1392, 45], [], [], [], [], [1398, 1400, 46], [], [], [], [], [1402, 1404, 47], [], [], []] = true := by decide +kernel
theorem oX12_bit : chkO (yX12_bit, cX12_bit, 3, (some .int), mX12_bit, []) 1397 102 = true := by decide +kernel
set_option maxRecDepth 20000 in
theorem kX12_rank : chkM infA (yX12_rank, cX12_rank, 5, (some .int), mX12_rank, []) [[], [], [1152], [], [], [1390, 1392, 45], [], [], [], [1410, 1412, 48], [], [], [], [], [], [1366, 1368, 41], [1324, 1325, 0], [], [], [], [], [], [], [], [1414, 1416, 49], [], [], [], [], [], [], [], [], [], []] = true := by decide +kernel
theorem oX12_rank : chkO (yX12_rank, cX12_rank, 5, (some .int), mX12_rank, []) 1409 102 = true := by decide +kernel
set_option maxRecDepth 20000 in
theorem kX12_select : chkM infA (yX12_select, cX12_select, 6, (some .int), mX12_select, []) [[], [], [1152], [], [], [1390, 1392, 45], [], [], [], [1410, 1412, 48], [], [], [], [], [], [], [], [], [], [], [], [], [1366, 1368, 41], [], [], [], [], [1402, 1404, 47], [], [], [], [], [], [], [], [], [], [], [], [], []] = true := by decide +kernel
theorem oX12_select : chkO (yX12_select, cX12_select, 6, (some .int), mX12_select, []) 1421 102 = true := by decide +kernel
set_option maxRecDepth 20000 in
theorem kX12_find : chkM infA (yX12_find, cX12_find, 5, (some .int), mX12_find, []) [[], [], [1152], [], [], [1390, 1392, 45], [], [], [], [1410, 1412, 48], [], [], [], [], [], [], [], [], [], [], [1366, 1368, 41], [], [], [], [], [1402, 1404, 47], [], [], [], [], [], [], [], []] = true := by decide +kernel
theorem oX12_find : chkO (yX12_find, cX12_find, 5, (some .int), mX12_find, []) 1425 102 = true := by decide +kernel
set_option maxRecDepth 20000 in
theorem kX12_runsOf : chkM infA (yX12_runsOf, cX12_runsOf, 4, (some .int), mX12_runsOf, []) [[], [], [], [], [], [], [], [1366, 1368, 41], [], [], [], [], [], [], [1402, 1404, 47], [], [], [], [], [], [1402, 1404, 47], [], [], [], [], [], []] = true := by decide +kernel
theorem oX12_runsOf : chkO (yX12_runsOf, cX12_runsOf, 4, (some .int), mX12_runsOf, []) 1433 102 = true := by decide +kernel
set_option maxRecDepth 20000 in
theorem kX12_runs : chkM infA (yX12_runs, cX12_runs, 2, (some .int), mX12_runs, []) [[], [], [1152], [], [], [1390, 1392, 45], [], [], [], [1430, 1432, 50], [], [], []] = true := by decide +kernel
theorem oX12_runs : chkO (yX12_runs, cX12_runs, 2, (some .int), mX12_runs, []) 1429 102 = true := by decide +kernel
set_option maxRecDepth 20000 in
theorem kX12_longest : chkM infA (yX12_longest, cX12_longest, 6, (some .int), mX12_longest, []) [[], [], [1152], [], [], [1390, 1392, 45], [], [], [], [1410, 1412, 48], [], [], [], [], [], [], [], [], [], [], [], [], [1366, 1368, 41], [], [], [], [], [1402, 1404, 47], [], [], [], [], [], [], [], [], [], [], [], [], [], [], [], [], []] = true := by decide +kernel
theorem oX12_longest : chkO (yX12_longest, cX12_longest, 6, (some .int), mX12_longest, []) 1437 102 = true := by decide +kernel
