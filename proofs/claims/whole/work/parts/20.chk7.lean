set_option maxRecDepth 20000 in
theorem kX12_set : chkM infA (yX12_set, cX12_set, 4, (some .int), mX12_set, []) [[], [], [1152], [], [], [], [], [], [], [], [1390, 1392, 45], [], [], [], [1410, 1412, 48], [], [], [], [], [1566, 1568, 61], []] = true := by decide +kernel
theorem oX12_set : chkO (yX12_set, cX12_set, 4, (some .int), mX12_set, []) 1608 102 = true := by decide +kernel
set_option maxRecDepth 20000 in
theorem kX12_cut : chkM infA (yX12_cut, cX12_cut, 4, (some .int), mX12_cut, []) [[], [], [1152], [], [], [], [], [], [], [], [1390, 1392, 45], [], [], [], [], [1324, 1325, 0], [], [], [], [], [1566, 1568, 61], []] = true := by decide +kernel
theorem oX12_cut : chkO (yX12_cut, cX12_cut, 4, (some .int), mX12_cut, []) 1612 102 = true := by decide +kernel
set_option maxRecDepth 20000 in
theorem kX12_turn : chkM infA (yX12_turn, cX12_turn, 4, (some .int), mX12_turn, []) [[], [], [1152], [], [], [], [], [], [], [], [1390, 1392, 45], [], [], [], [], [1324, 1325, 0], [], [], [], [], [1566, 1568, 61], []] = true := by decide +kernel
theorem oX12_turn : chkO (yX12_turn, cX12_turn, 4, (some .int), mX12_turn, []) 1616 102 = true := by decide +kernel
set_option maxRecDepth 20000 in
theorem kX12_paste : chkM infA (yX12_paste, cX12_paste, 6, (some .int), mX12_paste, []) [[], [], [1152], [], [1278, 1280, 24], [], [], [], [1390, 1392, 45], [], [], [], [], [1519, 1521, 58], [], [], [], [], [], [], [], [1574, 1576, 63], [], [], [], [], [], [], [1581, 1583, 64], [], [], [], [], [], [], [], [], [], [], [], [1153], [], [], [1362, 1364, 40], [], [], [], []] = true := by decide +kernel
theorem oX12_paste : chkO (yX12_paste, cX12_paste, 6, (some .int), mX12_paste, []) 1620 102 = true := by decide +kernel
set_option maxRecDepth 20000 in
theorem kX12_areTwo : chkM infA (yX12_areTwo, cX12_areTwo, 3, (some .boolean), mX12_areTwo, []) [[], [], [1390, 1392, 45], [], [], [], [1390, 1392, 45], [], [], [], [], [], [], [], []] = true := by decide +kernel
theorem oX12_areTwo : chkO (yX12_areTwo, cX12_areTwo, 3, (some .boolean), mX12_areTwo, []) 1628 102 = true := by decide +kernel
set_option maxRecDepth 20000 in
theorem kX12_join : chkM infA (yX12_join, cX12_join, 3, (some .int), mX12_join, []) [[], [], [1152], [], [], [], [], [], [], [], [], [1625, 1627, 70], [1566, 1568, 61], []] = true := by decide +kernel
theorem oX12_join : chkO (yX12_join, cX12_join, 3, (some .int), mX12_join, []) 1624 102 = true := by decide +kernel
set_option maxRecDepth 20000 in
theorem kX12_split : chkM infA (yX12_split, cX12_split, 4, (some .int), mX12_split, []) [[], [], [1152], [], [], [], [], [], [], [], [], [1625, 1627, 70], [1566, 1568, 61], []] = true := by decide +kernel
theorem oX12_split : chkO (yX12_split, cX12_split, 4, (some .int), mX12_split, []) 1632 102 = true := by decide +kernel
set_option maxRecDepth 20000 in
theorem kX12_type : chkM infA (yX12_type, cX12_type, 3, (some .int), mX12_type, []) [[], [], [1152], [], [], [], [], [], [], [], [], [1324, 1325, 0], [1566, 1568, 61], []] = true := by decide +kernel
theorem oX12_type : chkO (yX12_type, cX12_type, 3, (some .int), mX12_type, []) 1636 102 = true := by decide +kernel
set_option maxRecDepth 20000 in
theorem kX12_erase : chkM infA (yX12_erase, cX12_erase, 3, (some .int), mX12_erase, []) [[], [], [1152], [], [], [], [], [], [], [], [], [1324, 1325, 0], [1566, 1568, 61], []] = true := by decide +kernel
theorem oX12_erase : chkO (yX12_erase, cX12_erase, 3, (some .int), mX12_erase, []) 1640 102 = true := by decide +kernel
set_option maxRecDepth 20000 in
theorem kX12_undo : chkM infA (yX12_undo, cX12_undo, 1, (some .int), mX12_undo, []) [[], [], [1152], [], [1176], [], [], [], [], [], [1176], [], [], [1176], [], [], [1169], [], [], [1176], [], [1645, 1647, 71], [], [1176], []] = true := by decide +kernel
theorem oX12_undo : chkO (yX12_undo, cX12_undo, 1, (some .int), mX12_undo, []) 1644 102 = true := by decide +kernel
set_option maxRecDepth 20000 in
theorem kX12_draw : chkM infA (yX12_draw, cX12_draw, 2, (some .int), mX12_draw, []) [[], [], [1181], [1661], [], [], [], [1181], [], [1181], [], [], [], [], []] = true := by decide +kernel
theorem oX12_draw : chkO (yX12_draw, cX12_draw, 2, (some .int), mX12_draw, []) 1660 102 = true := by decide +kernel
set_option maxRecDepth 20000 in
theorem kX12_doIf : chkM infA (yX12_doIf, cX12_doIf, 5, (some .boolean), mX12_doIf, []) [[], [], [], [], [], [1570, 1572, 62], [], [], [], [], [], [], [], [], [1589, 1591, 66], [], []] = true := by decide +kernel
theorem oX12_doIf : chkO (yX12_doIf, cX12_doIf, 5, (some .boolean), mX12_doIf, []) 1665 102 = true := by decide +kernel
set_option maxRecDepth 20000 in
theorem kX12_drawsDeed : chkM infA (yX12_drawsDeed, cX12_drawsDeed, 5, (some .boolean), mX12_drawsDeed, []) [[], [], [1657, 1659, 73], [], [], [], [1166], [], [], [1657, 1659, 73], [], [], [], [], [1366, 1368, 41], [], [], [1657, 1659, 73], [], [], [], [], [], [], [], [], [], [], [1657, 1659, 73], [1662, 1664, 74], [], [], [], [], [], [], [], [], [], [], [1657, 1659, 73], [], [], [1662, 1664, 74], [], [], [], [], [], [], [], [], [], [], [1657, 1659, 73], [], [], [1662, 1664, 74], [], [], [], [1166], [], [], [1657, 1659, 73], [], [], [], [], [], [], [], [], [], [], [], [], [], [], [1662, 1664, 74], [], [], [], [], []] = true := by decide +kernel
theorem oX12_drawsDeed : chkO (yX12_drawsDeed, cX12_drawsDeed, 5, (some .boolean), mX12_drawsDeed, []) 1656 102 = true := by decide +kernel
set_option maxRecDepth 20000 in
theorem kX12_drawn : chkM infA (yX12_drawn, cX12_drawn, 5, (some .int), mX12_drawn, []) [[], [], [1152], [], [], [], [1324, 1325, 0], [], [], [], [], [1166], [], [], [], [], [], [], [], [1171], [], [1585, 1587, 65], [], [], [1181], [], [], [], [], [], [], [], [], [1653, 1655, 72], [], [], [], [], [], [], [], [], [], [], [1666, 1668, 75], [], []] = true := by decide +kernel
theorem oX12_drawn : chkO (yX12_drawn, cX12_drawn, 5, (some .int), mX12_drawn, []) 1652 102 = true := by decide +kernel
set_option maxRecDepth 20000 in
theorem kX12_keep : chkM infA (yX12_keep, cX12_keep, 3, (some .boolean), mX12_keep, []) [[], [], [], [1182], [], [], [1165], [], [], []] = true := by decide +kernel
theorem oX12_keep : chkO (yX12_keep, cX12_keep, 3, (some .boolean), mX12_keep, []) 1685 102 = true := by decide +kernel
set_option maxRecDepth 20000 in
theorem kX12_readRowName : chkM infA (yX12_readRowName, cX12_readRowName, 1, (some .boolean), mX12_readRowName, []) [[], [1331, 1333, 33], [], [], [], [1316, 1318, 30], [], [], [], [1172], [], [1166], [], [], [], [1164], [1335, 1336, 0], [1165], [], [1165], [], [], [], [], [1316, 1318, 30], [], [], [1282, 1284, 25], [], []] = true := by decide +kernel
theorem oX12_readRowName : chkO (yX12_readRowName, cX12_readRowName, 1, (some .boolean), mX12_readRowName, []) 1681 102 = true := by decide +kernel
set_option maxRecDepth 20000 in
theorem kX12_readOther : chkM infA (yX12_readOther, cX12_readOther, 2, (some .boolean), mX12_readOther, []) [[], [1331, 1333, 33], [], [], [], [1316, 1318, 30], [], [], [1182], [], [], [], [], [1172], [], [1166], [], [], [], [1164], [1335, 1336, 0], [], [], [1182], [], [], [], [], [], [], [], [1182], [], [], [], [], [], [1182], [], [], [], [], [], [], [], [1316, 1318, 30], [], [], [1282, 1284, 25], [], []] = true := by decide +kernel
theorem oX12_readOther : chkO (yX12_readOther, cX12_readOther, 2, (some .boolean), mX12_readOther, []) 1689 102 = true := by decide +kernel
set_option maxRecDepth 20000 in
theorem kX12_readBookLine : chkM infA (yX12_readBookLine, cX12_readBookLine, 4, (some .boolean), mX12_readBookLine, []) [[], [], [], [], [], [], [], [], [], [], [], [1302, 1304, 28], [], [], [], [], [], [], [], [], [], [], [1316, 1318, 30], [], [], [1184], [], [], [], [], [1316, 1318, 30], [], [], [], [1184], [], [], [], [1182], [], [], [], [], [1182], [], [], [], [], [], [], [1182], [], [], [], [], [], [], [1282, 1284, 25], [], [], [], [], [], [], [], [], [1678, 1680, 77], [1682, 1684, 78], [], [], [], [], [], [], [], [], [], [], [], [], [], [1320, 1322, 31], [1682, 1684, 78], [], [], [], [], [], [], [], [], [], [], [], [1686, 1688, 79], [], [], [1350, 1352, 37], [], [], [], [], [], [], [], [], [], [], [], [], [], [], [], [], [], [], [], [], [], [], [], [], [], [], [], [1320, 1322, 31], [], [], [], [], [], [], [], [], [], [1320, 1322, 31], [1682, 1684, 78], [], [], [1350, 1352, 37], [], [], [], [], []] = true := by decide +kernel
theorem oX12_readBookLine : chkO (yX12_readBookLine, cX12_readBookLine, 4, (some .boolean), mX12_readBookLine, []) 1677 102 = true := by decide +kernel
set_option maxRecDepth 20000 in
theorem kX12_goBy : chkM infA (yX12_goBy, cX12_goBy, 4, (some .int), mX12_goBy, []) [[], [1182], [], [], [], [], [], [], [1182], [], [], [], [], [], [1182], [], [], [], [], [], [1182], [], [], [], [], [1570, 1572, 62], [], [], [], [], [], [], [], [], [], [], [], [], [1182], [], [], [], [], [], [1182], [], [], [], [], [], [1182], [], [], [], [], [1589, 1591, 66], [], []] = true := by decide +kernel
theorem oX12_goBy : chkO (yX12_goBy, cX12_goBy, 4, (some .int), mX12_goBy, []) 1693 102 = true := by decide +kernel
set_option maxRecDepth 20000 in
theorem kX12_allBits : chkM infA (yX12_allBits, cX12_allBits, 3, (some .int), mX12_allBits, []) [[], [], [], [], [], [], [1166], [], [], [], [], [], [], [1366, 1368, 41], [], [], [], [], [], []] = true := by decide +kernel
theorem oX12_allBits : chkO (yX12_allBits, cX12_allBits, 3, (some .int), mX12_allBits, []) 1697 102 = true := by decide +kernel
set_option maxRecDepth 20000 in
theorem kX12_book : chkM infA (yX12_book, cX12_book, 4, (some .int), mX12_book, []) [[], [], [1152], [], [], [], [1324, 1325, 0], [], [], [], [], [], [1274, 1276, 23], [], [], [1184], [], [1159], [], [], [1674, 1676, 76], [], [], [], [1163], [], [], [], [], [1184], [], [], [1184], [], [], [], [1171], [], [1585, 1587, 65], [], [], [], [], [], [], [1184], [], [], [], [], [], [], [], [1690, 1692, 80], [], [], [], [], [], [], [1183], [], [], [], [], [1183], [], [], [], [], [1183], [], [], [1694, 1696, 81], [], [], [1183], [], [], [1166], [], [], [], [], [], [1185], [], [], [], [], [], [], [], [], [], [1666, 1668, 75], [], [], [], [], [], []] = true := by decide +kernel
theorem oX12_book : chkO (yX12_book, cX12_book, 4, (some .int), mX12_book, []) 1673 102 = true := by decide +kernel
set_option maxRecDepth 20000 in
theorem kX12_stay : chkM infA (yX12_stay, cX12_stay, 2, none, mX12_stay, []) [[], [], [1170], [], [1585, 1587, 65], [], [], [1171], [], [1645, 1647, 71], [], [], [], [], [1581, 1583, 64], [], [], [1170], [], [1645, 1647, 71], []] = true := by decide +kernel
theorem oX12_stay : chkO (yX12_stay, cX12_stay, 2, none, mX12_stay, []) 1669 102 = true := by decide +kernel
set_option maxRecDepth 20000 in
theorem kX12_told : chkM infA (yX12_told, cX12_told, 2, (some .int), mX12_told, []) [[], [], [1152], [], [1185], [], [], [], [], [1324, 1325, 0], [], [], [1183], [], [], [], [], []] = true := by decide +kernel
theorem oX12_told : chkO (yX12_told, cX12_told, 2, (some .int), mX12_told, []) 1701 102 = true := by decide +kernel
set_option maxRecDepth 20000 in
theorem kX12_beginsWith : chkM infA (yX12_beginsWith, cX12_beginsWith, 3, (some .boolean), mX12_beginsWith, []) [[], [], [1366, 1368, 41], [], [], [1366, 1368, 41], [], [], [], [], [1511, 1513, 57], [], [], [1366, 1368, 41], [], [], [], [], []] = true := by decide +kernel
theorem oX12_beginsWith : chkO (yX12_beginsWith, cX12_beginsWith, 3, (some .boolean), mX12_beginsWith, []) 1753 102 = true := by decide +kernel
set_option maxRecDepth 20000 in
theorem kX12_onesOf : chkM infA (yX12_onesOf, cX12_onesOf, 2, (some .int), mX12_onesOf, []) [[], [], [], [], [], [1366, 1368, 41], [1414, 1416, 49], []] = true := by decide +kernel
theorem oX12_onesOf : chkO (yX12_onesOf, cX12_onesOf, 2, (some .int), mX12_onesOf, []) 1749 102 = true := by decide +kernel
set_option maxRecDepth 20000 in
theorem kX12_saysOne : chkM infA (yX12_saysOne, cX12_saysOne, 6, (some .int), mX12_saysOne, []) [[], [], [1187], [], [], [], [1186], [], [], [], [], [1186], [], [], [], [], [], [], [1186], [], [], [], [], [], [], [1186], [], [], [], [], [], [], [], [1187], [], [], [1187], [], [1187], [], [], []] = true := by decide +kernel
theorem oX12_saysOne : chkO (yX12_saysOne, cX12_saysOne, 6, (some .int), mX12_saysOne, []) 1729 102 = true := by decide +kernel
set_option maxRecDepth 20000 in
theorem kX12_readOr : chkM infA (yX12_readOr, cX12_readOr, 2, (some .boolean), mX12_readOr, []) [[], [1710, 1712, 83], [], [], [], [], [1190], [], [], [], [1302, 1304, 28], [], [], [1282, 1284, 25], [], [1710, 1712, 83], [], [], [], [], [], [], [], [1190], [], [1726, 1728, 87], [], [], [], [], [1190], [], []] = true := by decide +kernel
theorem oX12_readOr : chkO (yX12_readOr, cX12_readOr, 2, (some .boolean), mX12_readOr, []) 1709 102 = true := by decide +kernel
set_option maxRecDepth 20000 in
theorem kX12_readAnd : chkM infA (yX12_readAnd, cX12_readAnd, 2, (some .boolean), mX12_readAnd, []) [[], [1714, 1716, 84], [], [], [], [], [1190], [], [], [], [1302, 1304, 28], [], [], [1282, 1284, 25], [], [1714, 1716, 84], [], [], [], [], [], [], [], [1190], [], [1726, 1728, 87], [], [], [], [], [1190], [], []] = true := by decide +kernel
theorem oX12_readAnd : chkO (yX12_readAnd, cX12_readAnd, 2, (some .boolean), mX12_readAnd, []) 1713 102 = true := by decide +kernel
set_option maxRecDepth 20000 in
theorem kX12_readSaid : chkM infA (yX12_readSaid, cX12_readSaid, 4, (some .boolean), mX12_readSaid, []) [[], [], [1354, 1356, 38], [], [], [], [], [], [], [], [], [1302, 1304, 28], [], [], [], [], [], [], [], [], [], [], [1316, 1318, 30], [], [], [1188], [], [], [], [1189], [], [], [], [], [1316, 1318, 30], [], [], [], [1188], [], [], [1188], [], [], [1189], [], [], [1189], [], [1282, 1284, 25], [], [], [], [], [], [1718, 1720, 85], [], [], [], [], [], [], [1722, 1724, 86], [], [], [], [], [], [], [], [], [], [], [], [], [], [1726, 1728, 87], [1190], [], [], [], [], [], [], [1730, 1732, 88], [], [], [], [1734, 1736, 89], [], [], [], [1189], [], [], [1189], [], []] = true := by decide +kernel
theorem oX12_readSaid : chkO (yX12_readSaid, cX12_readSaid, 4, (some .boolean), mX12_readSaid, []) 1717 102 = true := by decide +kernel
set_option maxRecDepth 20000 in
theorem kX12_readNot : chkM infA (yX12_readNot, cX12_readNot, 1, (some .boolean), mX12_readNot, []) [[], [1714, 1716, 84], [], [], [], [], [], [], [], [1190], [], [], [1726, 1728, 87], [1190], [], []] = true := by decide +kernel
theorem oX12_readNot : chkO (yX12_readNot, cX12_readNot, 1, (some .boolean), mX12_readNot, []) 1725 102 = true := by decide +kernel
set_option maxRecDepth 20000 in
theorem kX12_readBracket : chkM infA (yX12_readBracket, cX12_readBracket, 1, (some .boolean), mX12_readBracket, []) [[], [1706, 1708, 82], [], [], [], [], [], [1354, 1356, 38], [], [], [], [1316, 1318, 30], [], [], [1282, 1284, 25], [], []] = true := by decide +kernel
theorem oX12_readBracket : chkO (yX12_readBracket, cX12_readBracket, 1, (some .boolean), mX12_readBracket, []) 1721 102 = true := by decide +kernel
set_option maxRecDepth 20000 in
theorem kX12_readOf : chkM infA (yX12_readOf, cX12_readOf, 2, (some .boolean), mX12_readOf, []) [[], [1678, 1680, 77], [], [], [], [], [], [], [], [], [], [1165], [], [], [1726, 1728, 87], [1190], [], []] = true := by decide +kernel
theorem oX12_readOf : chkO (yX12_readOf, cX12_readOf, 2, (some .boolean), mX12_readOf, []) 1733 102 = true := by decide +kernel
set_option maxRecDepth 20000 in
theorem kX12_readCompare : chkM infA (yX12_readCompare, cX12_readCompare, 3, (some .boolean), mX12_readCompare, []) [[], [], [1354, 1356, 38], [], [], [], [1354, 1356, 38], [], [], [], [1354, 1356, 38], [], [], [], [1316, 1318, 30], [], [], [1161], [], [], [1282, 1284, 25], [], [], [], [1320, 1322, 31], [], [], [], [], [], [], [], [], [], [], [1165], [], [1726, 1728, 87], [1190], [], []] = true := by decide +kernel
theorem oX12_readCompare : chkO (yX12_readCompare, cX12_readCompare, 3, (some .boolean), mX12_readCompare, []) 1737 102 = true := by decide +kernel
set_option maxRecDepth 20000 in
theorem kX12_sentence : chkM infA (yX12_sentence, cX12_sentence, 2, (some .int), mX12_sentence, []) [[], [], [1274, 1276, 23], [], [], [1187], [], [], [1188], [], [], [1189], [], [1706, 1708, 82], [], [], [], [1163], [], [], [], [1159], [], [], [], [1316, 1318, 30], [], [], [], [1163], [], [], [], [1166], [], [], [], [], [1166], [], [], [1190], [], [], [], [], [], [], [], [1166], [], [], [], [], [1186], [], [], [], [], [], [], [1188], []] = true := by decide +kernel
theorem oX12_sentence : chkO (yX12_sentence, cX12_sentence, 2, (some .int), mX12_sentence, []) 1705 102 = true := by decide +kernel
set_option maxRecDepth 20000 in
theorem kX12_holds : chkM infA (yX12_holds, cX12_holds, 8, (some .boolean), mX12_holds, []) [[], [], [], [], [], [], [], [1166], [], [], [], [], [], [], [1166], [], [], [], [], [], [], [1166], [], [], [], [], [], [], [1742, 1744, 90], [], [], [], [], [], [], [], [], [1742, 1744, 90], [], [], [], [], [1742, 1744, 90], [], [], [], [], [], [], [], [], [1742, 1744, 90], [], [], [], [], [1742, 1744, 90], [], [], [], [], [], [], [], [1366, 1368, 41], [], [], [], [], [], [], [], [1746, 1748, 91], [], [], [], [], [], [], [], [], [], [], [1507, 1509, 56], [], [], [], [], [1750, 1752, 92], [], [], [1166], [], [], [], [], [], [], [], [], [], [], [1366, 1368, 41], [], [], [], [], [], [], [1746, 1748, 91], [], [], [], [], [], [], [1430, 1432, 50], [], [], [], [], [], [1166], [], [], [], [], [], [], [], [], [1166], [], [], [], [], [], [], [], [], [], [], [], [], [], [], [1166], [], [], [], [], [], [], [], [], [], [], [], [], [], [], [], [], [], [], [], []] = true := by decide +kernel
theorem oX12_holds : chkO (yX12_holds, cX12_holds, 8, (some .boolean), mX12_holds, []) 1745 102 = true := by decide +kernel
set_option maxRecDepth 20000 in
theorem kX12_said : chkM infA (yX12_said, cX12_said, 4, (some .int), mX12_said, []) [[], [], [1152], [], [1166], [], [], [], [], [], [], [], [], [], [], [], [1166], [], [], [], [], [], [1166], [], [], [], [1742, 1744, 90], [], [], [], [], [], [], [], [], [], [], [], [], [], [], [], [], []] = true := by decide +kernel
theorem oX12_said : chkO (yX12_said, cX12_said, 4, (some .int), mX12_said, []) 1741 102 = true := by decide +kernel
set_option maxRecDepth 20000 in
theorem kX12_image : chkM infA (yX12_image, cX12_image, 3, (some .boolean), mX12_image, []) [[], [], [1152], [], [], [], [1324, 1325, 0], [], [], [], [], [], [], [], [], [], [1168], [], [], [], [], [], [], [1166], [], [], [], [], [], [], [], [], [], [], [], [1174], [], [], [], [], [], [], [1172], [], [], [], [], [], [], [1175], [], [], [], [], []] = true := by decide +kernel
theorem oX12_image : chkO (yX12_image, cX12_image, 3, (some .boolean), mX12_image, []) 1757 102 = true := by decide +kernel
set_option maxRecDepth 20000 in
theorem kX12_restore : chkM infA (yX12_restore, cX12_restore, 3, (some .boolean), mX12_restore, []) [[], [], [1152], [], [], [], [1324, 1325, 0], [], [], [1175], [], [], [], [], [], [], [], [], [], [], [], [1166], [], [], [1168], [], [], [], [], [], [], [], [], [], [], [], [], [], [], [], [1172], [], [], [1174], [], [], [], [], [], [], [], [], [], [], [], [1176], [], []] = true := by decide +kernel
theorem oX12_restore : chkO (yX12_restore, cX12_restore, 3, (some .boolean), mX12_restore, []) 1761 102 = true := by decide +kernel
set_option maxRecDepth 20000 in
theorem kX12_total : chkM infA (yX12_total, cX12_total, 2, (some .int), mX12_total, []) [[], [], [1152], [], [], [], [1166], [], [], [], [], [1166], [], [], [], [], [1694, 1696, 81], [], [], [1154], [], [], []] = true := by decide +kernel
theorem oX12_total : chkO (yX12_total, cX12_total, 2, (some .int), mX12_total, []) 1765 102 = true := by decide +kernel
theorem oL_word : chkO (yL_word, cL_word, 5, (some .int), (0, 0, [], []), [(0, 10, 13, 13)]) 1021 93 = true := by decide +kernel
