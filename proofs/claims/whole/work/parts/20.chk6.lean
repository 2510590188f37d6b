set_option maxRecDepth 20000 in
theorem kX12_word : chkM infA (yX12_word, cX12_word, 5, (some .int), mX12_word, []) [[], [], [1152], [], [], [1390, 1392, 45], [], [], [], [], [], [1366, 1368, 41], [1324, 1325, 0], [], [], [1442, 1444, 51], [], [], [], [], [], [], [], [], [], [], [], [], [], [], [], [], [1366, 1368, 41], [], [], [], [], [1402, 1404, 47], [], [], [], [], [], [], [], []] = true := by decide +kernel
theorem oX12_word : chkO (yX12_word, cX12_word, 5, (some .int), mX12_word, []) 1441 102 = true := by decide +kernel
set_option maxRecDepth 20000 in
theorem kX12_leaves : chkM infA (yX12_leaves, cX12_leaves, 2, (some .int), mX12_leaves, []) [[], [], [1152], [], [], [1390, 1392, 45], [], [], [1166], [], [], [], [], [], [], []] = true := by decide +kernel
theorem oX12_leaves : chkO (yX12_leaves, cX12_leaves, 2, (some .int), mX12_leaves, []) 1449 102 = true := by decide +kernel
set_option maxRecDepth 20000 in
theorem kX12_leaf : chkM infA (yX12_leaf, cX12_leaf, 6, (some .int), mX12_leaf, []) [[], [], [1152], [], [], [1390, 1392, 45], [], [], [], [], [1166], [], [], [], [], [], [], [1324, 1325, 0], [], [], [], [], [], [], [], [], [], [], [], [], [1166], [], [], [], [1374, 1376, 43], [], [], [], [], [], [], [1166], [], [], [], [1374, 1376, 43], [], [], [], [], [], [], [], [], [], [], [], [], [1414, 1416, 49], [], [], [], [], []] = true := by decide +kernel
theorem oX12_leaf : chkO (yX12_leaf, cX12_leaf, 6, (some .int), mX12_leaf, []) 1453 102 = true := by decide +kernel
set_option maxRecDepth 20000 in
theorem kX12_highOf : chkM infA (yX12_highOf, cX12_highOf, 1, (some .int), mX12_highOf, []) [[], [], [], [], [], [], [], [], [], [], [], [1458, 1459, 0], [], []] = true := by decide +kernel
theorem oX12_highOf : chkO (yX12_highOf, cX12_highOf, 1, (some .int), mX12_highOf, []) 1460 102 = true := by decide +kernel
set_option maxRecDepth 20000 in
theorem kX12_mixedOf : chkM infA (yX12_mixedOf, cX12_mixedOf, 1, (some .int), mX12_mixedOf, []) [[], [], [], [], [], [], [], [], [], [], [1464, 1465, 0], [], [], [], [1464, 1465, 0], [], [], [], [], [], [], [], [], []] = true := by decide +kernel
theorem oX12_mixedOf : chkO (yX12_mixedOf, cX12_mixedOf, 1, (some .int), mX12_mixedOf, []) 1466 102 = true := by decide +kernel
set_option maxRecDepth 20000 in
theorem kX12_innerOf : chkM infA (yX12_innerOf, cX12_innerOf, 1, (some .int), mX12_innerOf, []) [[], [], [], [], [], [], [], [], []] = true := by decide +kernel
theorem oX12_innerOf : chkO (yX12_innerOf, cX12_innerOf, 1, (some .int), mX12_innerOf, []) 1463 102 = true := by decide +kernel
set_option maxRecDepth 20000 in
theorem kX12_costOf : chkM infA (yX12_costOf, cX12_costOf, 4, (some .int), mX12_costOf, []) [[], [], [1166], [], [], [], [], [1461, 1462, 0], [], [], [], [], [], [], [1166], [], [], [], [], [], [], [], [1166], [], [], [], [1374, 1376, 43], [], [], [], [], [], [], [], [], [], [], [], [], []] = true := by decide +kernel
theorem oX12_costOf : chkO (yX12_costOf, cX12_costOf, 4, (some .int), mX12_costOf, []) 1470 102 = true := by decide +kernel
set_option maxRecDepth 20000 in
theorem kX12_tree : chkM infA (yX12_tree, cX12_tree, 4, (some .int), mX12_tree, []) [[], [], [1152], [], [], [1390, 1392, 45], [], [], [], [], [1166], [], [], [], [], [], [], [], [], [1458, 1459, 0], [], [], [1461, 1462, 0], [], [], [1464, 1465, 0], [], [], [], [1467, 1469, 52], [], [], []] = true := by decide +kernel
theorem oX12_tree : chkO (yX12_tree, cX12_tree, 4, (some .int), mX12_tree, []) 1457 102 = true := by decide +kernel
set_option maxRecDepth 20000 in
theorem kX12_firstBits : chkM infA (yX12_firstBits, cX12_firstBits, 13, (some .long), mX12_firstBits, []) [[], [], [], [], [], [], [], [], [1178], [], [1483], [], [], [], [], [], [1483], [], [], [], [], [1178], [], [], [1178], [], [], [], [], [], [], [1483], [], [], [], [], [1178], [], [], [1178], [], [], [], [], [], [], [], [], [], [], [], [], [], [1483], [], [], [], [1483], [], [], [], [], [], [], [], [], [], [], [], [], [], [], [], [], [], [1483], [], [], [], [], [], [1483], [], [], [], [], [], [], [1483], [], [], [], [], [], [], [], [], [], [], [], [], [], [], [], [], [], [], [1178], [], [], [1178], [], [1483], [], []] = true := by decide +kernel
theorem oX12_firstBits : chkO (yX12_firstBits, cX12_firstBits, 13, (some .long), mX12_firstBits, []) 1482 102 = true := by decide +kernel
set_option maxRecDepth 20000 in
theorem kX12_asFloat : chkM infA (yX12_asFloat, cX12_asFloat, 4, (some .int), mX12_asFloat, []) [[], [], [], [], [], [], [], [], [1479, 1481, 54], [], [], [], [1178], [], [], [], [], [], [1484], [], [], []] = true := by decide +kernel
theorem oX12_asFloat : chkO (yX12_asFloat, cX12_asFloat, 4, (some .int), mX12_asFloat, []) 1478 102 = true := by decide +kernel
set_option maxRecDepth 20000 in
theorem kX12_asDouble : chkM infA (yX12_asDouble, cX12_asDouble, 5, (some .long), mX12_asDouble, []) [[], [], [], [], [], [], [], [], [1479, 1481, 54], [], [], [1178], [], [1497], [], [], [], [], [1498], [], [], []] = true := by decide +kernel
theorem oX12_asDouble : chkO (yX12_asDouble, cX12_asDouble, 5, (some .long), mX12_asDouble, []) 1496 102 = true := by decide +kernel
set_option maxRecDepth 20000 in
theorem kX12_dense : chkM infA (yX12_dense, cX12_dense, 4, (some .int), mX12_dense, []) [[], [], [1152], [], [], [1390, 1392, 45], [], [], [], [], [], [], [], [], [], [1366, 1368, 41], [], [], [], [], [1366, 1368, 41], [], [], [], [], [1442, 1444, 51], [], [], [], [], [], [], [], [], [1414, 1416, 49], [], [1475, 1477, 53], []] = true := by decide +kernel
theorem oX12_dense : chkO (yX12_dense, cX12_dense, 4, (some .int), mX12_dense, []) 1474 102 = true := by decide +kernel
set_option maxRecDepth 20000 in
theorem kX12_load : chkM infA (yX12_load, cX12_load, 2, (some .int), mX12_load, []) [[], [], [1152], [], [], [1390, 1392, 45], [], [], [], [1366, 1368, 41], [], [], [], [], [], [1467, 1469, 52], [], [], [], [1366, 1368, 41], [1475, 1477, 53], [], [], [1442, 1444, 51], []] = true := by decide +kernel
theorem oX12_load : chkO (yX12_load, cX12_load, 2, (some .int), mX12_load, []) 1488 102 = true := by decide +kernel
set_option maxRecDepth 20000 in
theorem kX12_centre : chkM infA (yX12_centre, cX12_centre, 7, (some .int), mX12_centre, []) [[], [], [1152], [], [], [1390, 1392, 45], [], [], [], [], [1324, 1325, 0], [], [], [1442, 1444, 51], [], [], [], [], [], [], [], [], [], [], [1366, 1368, 41], [], [], [], [], [1402, 1404, 47], [], [], [], [], [], [], [], [], [], [], [], [], [1442, 1444, 51], [], [], [], [], [1493, 1495, 55], [], [], [], [], [], [], [], [], [], []] = true := by decide +kernel
theorem oX12_centre : chkO (yX12_centre, cX12_centre, 7, (some .int), mX12_centre, []) 1492 102 = true := by decide +kernel
set_option maxRecDepth 20000 in
theorem kX12_firstApart : chkM infA (yX12_firstApart, cX12_firstApart, 4, (some .int), mX12_firstApart, []) [[], [], [], [], [], [1398, 1400, 46], [], [], [], [], [1398, 1400, 46], [], [], [], [], [1402, 1404, 47], [], [], [], [1402, 1404, 47], [], [], [], [], []] = true := by decide +kernel
theorem oX12_firstApart : chkO (yX12_firstApart, cX12_firstApart, 4, (some .int), mX12_firstApart, []) 1514 102 = true := by decide +kernel
set_option maxRecDepth 20000 in
theorem kX12_apart : chkM infA (yX12_apart, cX12_apart, 5, (some .int), mX12_apart, []) [[], [], [1152], [], [], [1390, 1392, 45], [], [], [], [1390, 1392, 45], [], [], [], [], [], [1366, 1368, 41], [], [], [1366, 1368, 41], [], [], [], [1366, 1368, 41], [], [], [1366, 1368, 41], [], [], [], [], [1366, 1368, 41], [], [], [1366, 1368, 41], [], [], [], [], [], [], [], [1398, 1400, 46], [], [], [], [], [1398, 1400, 46], [], [], [], [], [1402, 1404, 47], [], [], [], [1402, 1404, 47], [], [], [], [], [], []] = true := by decide +kernel
theorem oX12_apart : chkO (yX12_apart, cX12_apart, 5, (some .int), mX12_apart, []) 1502 102 = true := by decide +kernel
set_option maxRecDepth 20000 in
theorem kX12_areLike : chkM infA (yX12_areLike, cX12_areLike, 3, (some .boolean), mX12_areLike, []) [[], [], [1366, 1368, 41], [], [], [1366, 1368, 41], [], [], [], [], [1511, 1513, 57], [], [], [1366, 1368, 41], [], [], [], [], []] = true := by decide +kernel
theorem oX12_areLike : chkO (yX12_areLike, cX12_areLike, 3, (some .boolean), mX12_areLike, []) 1510 102 = true := by decide +kernel
set_option maxRecDepth 20000 in
theorem kX12_differ : chkM infA (yX12_differ, cX12_differ, 3, (some .int), mX12_differ, []) [[], [], [1152], [], [], [1390, 1392, 45], [], [], [], [1390, 1392, 45], [], [], [], [], [1507, 1509, 56], [], [], [], [], [1511, 1513, 57], [], [], []] = true := by decide +kernel
theorem oX12_differ : chkO (yX12_differ, cX12_differ, 3, (some .int), mX12_differ, []) 1506 102 = true := by decide +kernel
set_option maxRecDepth 20000 in
theorem kX12_isOnTape : chkM infA (yX12_isOnTape, cX12_isOnTape, 5, (some .boolean), mX12_isOnTape, []) [[], [], [], [], [], [], [], [], [], [], [1402, 1404, 47], [], [1153], [], [], [], [], [], [], [], [], []] = true := by decide +kernel
theorem oX12_isOnTape : chkO (yX12_isOnTape, cX12_isOnTape, 5, (some .boolean), mX12_isOnTape, []) 1526 102 = true := by decide +kernel
set_option maxRecDepth 20000 in
theorem kX12_areTapeBits : chkM infA (yX12_areTapeBits, cX12_areTapeBits, 4, (some .boolean), mX12_areTapeBits, []) [[], [], [], [], [], [], [1153], [], [], [], [], [], [], [], [], [], [], [], [1324, 1325, 0], []] = true := by decide +kernel
theorem oX12_areTapeBits : chkO (yX12_areTapeBits, cX12_areTapeBits, 4, (some .boolean), mX12_areTapeBits, []) 1522 102 = true := by decide +kernel
set_option maxRecDepth 20000 in
theorem kX12_seek : chkM infA (yX12_seek, cX12_seek, 4, (some .int), mX12_seek, []) [[], [], [1152], [], [1278, 1280, 24], [], [], [], [1390, 1392, 45], [], [], [], [], [1519, 1521, 58], [], [], [], [], [], [1180], [], [], [], [], [], [], [], [1366, 1368, 41], [], [], [], [], [], [1523, 1525, 59], [], [], [], [1179], [], [1180], [], [], [], [], [1180], [], [], [1180], [], [], [], [1180], []] = true := by decide +kernel
theorem oX12_seek : chkO (yX12_seek, cX12_seek, 4, (some .int), mX12_seek, []) 1518 102 = true := by decide +kernel
set_option maxRecDepth 20000 in
theorem kX12_seekAt : chkM infA (yX12_seekAt, cX12_seekAt, 2, (some .int), mX12_seekAt, []) [[], [], [1152], [], [], [], [1180], [], [], [1324, 1325, 0], [], [], [1179], [], [], [], [], []] = true := by decide +kernel
theorem oX12_seekAt : chkO (yX12_seekAt, cX12_seekAt, 2, (some .int), mX12_seekAt, []) 1530 102 = true := by decide +kernel
set_option maxRecDepth 20000 in
theorem kX12_isLetterAt : chkM infA (yX12_isLetterAt, cX12_isLetterAt, 2, (some .boolean), mX12_isLetterAt, []) [[], [], [], [1166], [], [], [], [], [1324, 1325, 0], []] = true := by decide +kernel
theorem oX12_isLetterAt : chkO (yX12_isLetterAt, cX12_isLetterAt, 2, (some .boolean), mX12_isLetterAt, []) 1542 102 = true := by decide +kernel
set_option maxRecDepth 20000 in
theorem kX12_letters : chkM infA (yX12_letters, cX12_letters, 1, (some .int), mX12_letters, []) [[], [], [1152], [], [1166], [], [], []] = true := by decide +kernel
theorem oX12_letters : chkO (yX12_letters, cX12_letters, 1, (some .int), mX12_letters, []) 1534 102 = true := by decide +kernel
set_option maxRecDepth 20000 in
theorem kX12_letter : chkM infA (yX12_letter, cX12_letter, 2, (some .int), mX12_letter, []) [[], [], [1152], [], [], [1539, 1541, 60], [], [], [1166], [], [], [], [], [], [], []] = true := by decide +kernel
theorem oX12_letter : chkO (yX12_letter, cX12_letter, 2, (some .int), mX12_letter, []) 1538 102 = true := by decide +kernel
set_option maxRecDepth 20000 in
theorem kX12_count : chkM infA (yX12_count, cX12_count, 5, (some .int), mX12_count, []) [[], [], [1152], [], [], [], [1324, 1325, 0], [], [], [], [], [1166], [], [], [1324, 1325, 0], [], [], [], [], [], [], [], [], [], [], [], [1166], [], [], [], [], [], [], [], [], [], [], []] = true := by decide +kernel
theorem oX12_count : chkO (yX12_count, cX12_count, 5, (some .int), mX12_count, []) 1546 102 = true := by decide +kernel
set_option maxRecDepth 20000 in
theorem kX12_place : chkM infA (yX12_place, cX12_place, 5, (some .int), mX12_place, []) [[], [], [1152], [], [], [], [1324, 1325, 0], [], [], [], [], [], [], [], [], [], [], [], [1166], [], [], [], [], [1166], [], [], [], [], [], [], [], [], [], [], [], [], [], [], [], [], []] = true := by decide +kernel
theorem oX12_place : chkO (yX12_place, cX12_place, 5, (some .int), mX12_place, []) 1550 102 = true := by decide +kernel
set_option maxRecDepth 20000 in
theorem kX12_least : chkM infA (yX12_least, cX12_least, 7, (some .int), mX12_least, []) [[], [], [1152], [], [], [], [], [1166], [], [], [], [], [], [], [], [], [], [], [], [], [], [], [], [], [], [], [], [], [1166], [], [], [], [], [], [], [], [], [], [], [], [], [], [], [], [], [], []] = true := by decide +kernel
theorem oX12_least : chkO (yX12_least, cX12_least, 7, (some .int), mX12_least, []) 1554 102 = true := by decide +kernel
set_option maxRecDepth 20000 in
theorem kX12_isInNode : chkM infA (yX12_isInNode, cX12_isInNode, 2, (some .boolean), mX12_isInNode, []) [[], [], [], [], [], [], [], [], [], [], [], [], [], [], [], [], [], [], [], [], [], [], [], [], [], []] = true := by decide +kernel
theorem oX12_isInNode : chkO (yX12_isInNode, cX12_isInNode, 2, (some .boolean), mX12_isInNode, []) 1561 102 = true := by decide +kernel
set_option maxRecDepth 20000 in
theorem kX12_node : chkM infA (yX12_node, cX12_node, 6, (some .int), mX12_node, []) [[], [], [1152], [], [], [], [1324, 1325, 0], [], [], [], [], [], [], [], [], [], [], [], [1166], [], [], [], [], [1166], [], [], [], [], [], [], [], [1559, 1560, 0], [], [], [], [], [], [], [], [], [], [], [], [], [], [], [], [], [], [], [], [], [], [], [], [], []] = true := by decide +kernel
theorem oX12_node : chkO (yX12_node, cX12_node, 6, (some .int), mX12_node, []) 1558 102 = true := by decide +kernel
set_option maxRecDepth 20000 in
theorem kX12_save : chkM infA (yX12_save, cX12_save, 4, none, mX12_save, []) [[], [], [], [], [], [], [], [], [], [], [1166], [], [], [], [], [], [], [], []] = true := by decide +kernel
theorem oX12_save : chkO (yX12_save, cX12_save, 4, none, mX12_save, []) 1588 102 = true := by decide +kernel
set_option maxRecDepth 20000 in
theorem kX12_comeBack : chkM infA (yX12_comeBack, cX12_comeBack, 4, none, mX12_comeBack, []) [[], [], [], [], [], [], [1166], [], [], [], [], [], [], [], [], [], [], [], []] = true := by decide +kernel
theorem oX12_comeBack : chkO (yX12_comeBack, cX12_comeBack, 4, none, mX12_comeBack, []) 1648 102 = true := by decide +kernel
set_option maxRecDepth 20000 in
theorem kX12_snap : chkM infA (yX12_snap, cX12_snap, 2, none, mX12_snap, []) [[], [1176], [], [], [], [], [], [], [], [], [1169], [], [], [1169], [], [], [], [], [], [], [], [], [], [1176], [], [], [1176], [], [], [1169], [], [], [1176], [], [1585, 1587, 65], [], [], [1176], [], [], [1176], []] = true := by decide +kernel
theorem oX12_snap : chkO (yX12_snap, cX12_snap, 2, none, mX12_snap, []) 1584 102 = true := by decide +kernel
set_option maxRecDepth 20000 in
theorem kX12_areThere : chkM infA (yX12_areThere, cX12_areThere, 3, (some .boolean), mX12_areThere, []) [[], [], [], [], [], [], [], [], [], [], [], [], [], []] = true := by decide +kernel
theorem oX12_areThere : chkO (yX12_areThere, cX12_areThere, 3, (some .boolean), mX12_areThere, []) 1580 102 = true := by decide +kernel
set_option maxRecDepth 20000 in
theorem kX12_whyPut : chkM infA (yX12_whyPut, cX12_whyPut, 4, (some .int), mX12_whyPut, []) [[], [], [], [], [1366, 1368, 41], [1324, 1325, 0], [], [], [], [], [], [1366, 1368, 41], [], [], [], [], [], [], [], []] = true := by decide +kernel
theorem oX12_whyPut : chkO (yX12_whyPut, cX12_whyPut, 4, (some .int), mX12_whyPut, []) 1577 102 = true := by decide +kernel
set_option maxRecDepth 20000 in
theorem kX12_refusal : chkM infA (yX12_refusal, cX12_refusal, 5, (some .int), mX12_refusal, []) [[], [], [], [], [], [], [1574, 1576, 63], [], [], [], [], [1398, 1400, 46], [], [], [], [], [], [], [1402, 1404, 47], [], [], [], [], [], [], [], [], [], [], [1366, 1368, 41], [1578, 1579, 0], [], [], [], [], [], [], [], [1366, 1368, 41], [], [], [], [], [], [1366, 1368, 41], [], [], [1366, 1368, 41], [], [], [], [], [], [], [], [], [], [], [1398, 1400, 46], [], [], [], [], [], [1366, 1368, 41], [], [], [1366, 1368, 41], [], [], [], [], [], [], [], [], [], [], [], [], [1166], [], [], [1324, 1325, 0], [], [], [], [], [1166], [], [], [], [], [], [], [], [], [], [], [], [1166], [], [], [1578, 1579, 0], [], [], [], [], []] = true := by decide +kernel
theorem oX12_refusal : chkO (yX12_refusal, cX12_refusal, 5, (some .int), mX12_refusal, []) 1573 102 = true := by decide +kernel
set_option maxRecDepth 20000 in
theorem kX12_live : chkM infA (yX12_live, cX12_live, 6, none, mX12_live, []) [[], [], [], [], [], [], [1362, 1364, 40], [], [], [1166], [], [], [], [], [], [], [], [], [], [], [], [], [], [], [], [], [], [], [1593, 1595, 67], [], [], [], [], [], [], [], [], [], [], [], [1166], [], [], [], [], [], [], [], [], [], [], [], [1402, 1404, 47], [], [], [], [], [], [], [], [], [], [1601, 1603, 69], [], [], [], [], [], [1601, 1603, 69], [], [], [1166], [], [], [], [], [], [], [], [1166], [], [], [], [], [1166], [], [], [], [], [], [], [], [], [], [], [1166], [], [], [], [], [], [], [1166], [], [], [], [], [], [], [], [], [1166], [], [], [], [], [], [], [], [], [], [], [], [], [1166], [], [], [], [], [], [1166], [], [], [], [], [1166], [], [], [], [], [], [], [], [], [], [], [], []] = true := by decide +kernel
theorem oX12_live : chkO (yX12_live, cX12_live, 6, none, mX12_live, []) 1592 102 = true := by decide +kernel
set_option maxRecDepth 20000 in
theorem kX12_moves : chkM infA (yX12_moves, cX12_moves, 6, none, mX12_moves, []) [[], [], [1366, 1368, 41], [], [], [], [], [], [], [], [], [], [], [], [], [1366, 1368, 41], [], [], [], [], [], [1402, 1404, 47], [1362, 1364, 40], [], [], [], [], [], [], [], [], [], [], [1593, 1595, 67], [], [], []] = true := by decide +kernel
theorem oX12_moves : chkO (yX12_moves, cX12_moves, 6, none, mX12_moves, []) 1604 102 = true := by decide +kernel
set_option maxRecDepth 20000 in
theorem kX12_act : chkM infA (yX12_act, cX12_act, 7, (some .int), mX12_act, []) [[], [], [], [], [], [], [], [], [], [1570, 1572, 62], [], [], [], [], [], [], [1581, 1583, 64], [], [], [], [], [], [1589, 1591, 66], [], []] = true := by decide +kernel
theorem oX12_act : chkO (yX12_act, cX12_act, 7, (some .int), mX12_act, []) 1569 102 = true := by decide +kernel
set_option maxRecDepth 20000 in
theorem kX12_put : chkM infA (yX12_put, cX12_put, 4, (some .int), mX12_put, []) [[], [], [1152], [], [], [], [], [], [], [], [1390, 1392, 45], [], [], [], [1410, 1412, 48], [], [], [], [], [1566, 1568, 61], []] = true := by decide +kernel
theorem oX12_put : chkO (yX12_put, cX12_put, 4, (some .int), mX12_put, []) 1565 102 = true := by decide +kernel
