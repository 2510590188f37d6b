set_option maxRecDepth 20000 in
theorem kX11_seek : chkM infA (yX11_seek, cX11_seek, 5, (some .int), mX11_seek, []) [[], [], [650, 652, 11], [], [], [329], [], [535, 536, 537], [], [], [], [], [], [], [], [], [], [], [338], [], [], [], [], [], [], [212], [], [], [338], [], [], [], [], [], [326], [], [654, 655, 656], [], [], [337], [], [338], [], [], [], [], [338], [], [], [338], [], [], [], [338], []] = true := by decide +kernel
theorem oX11_seek : chkO (yX11_seek, cX11_seek, 5, (some .int), mX11_seek, []) 649 94 = true := by decide +kernel
set_option maxRecDepth 20000 in
theorem kX11_takeBitsOfTape : chkM infA (yX11_takeBitsOfTape, cX11_takeBitsOfTape, 4, (some .int), mX11_takeBitsOfTape, []) [[], [327], [], [], [], [327], [], [], [], [], [], [], [], [], [], [], [], [], [], [], [326], [], [], [551, 552, 0], [], [], [], [], [], [], []] = true := by decide +kernel
theorem oX11_takeBitsOfTape : chkO (yX11_takeBitsOfTape, cX11_takeBitsOfTape, 4, (some .int), mX11_takeBitsOfTape, []) 653 94 = true := by decide +kernel
set_option maxRecDepth 20000 in
theorem kX11_seekAt : chkM infA (yX11_seekAt, cX11_seekAt, 2, (some .int), mX11_seekAt, []) [[], [], [], [], [338], [], [], [], [], [], [], [], [337], [], [], []] = true := by decide +kernel
theorem oX11_seekAt : chkO (yX11_seekAt, cX11_seekAt, 2, (some .int), mX11_seekAt, []) 661 94 = true := by decide +kernel
set_option maxRecDepth 20000 in
theorem kX11_put : chkM infA (yX11_put, cX11_put, 4, (some .int), mX11_put, []) [[], [329], [], [535, 536, 537], [], [], [551, 552, 0], [], [], [], [], [666], [], [], [], [668, 670, 12], []] = true := by decide +kernel
theorem oX11_put : chkO (yX11_put, cX11_put, 4, (some .int), mX11_put, []) 665 94 = true := by decide +kernel
set_option maxRecDepth 20000 in
theorem kX11_does : chkM infA (yX11_does, cX11_does, 6, (some .int), mX11_does, []) [[], [329], [], [], [], [], [672, 673, 674], [], [], [], [], [334], [], [329], [698, 699, 700], [], [329], [], [], [], [], [715, 716, 717], [], []] = true := by decide +kernel
theorem oX11_does : chkO (yX11_does, cX11_does, 6, (some .int), mX11_does, []) 671 94 = true := by decide +kernel
set_option maxRecDepth 20000 in
theorem kX11_set : chkM infA (yX11_set, cX11_set, 4, (some .int), mX11_set, []) [[], [329], [], [535, 536, 537], [], [], [551, 552, 0], [], [], [], [], [749], [], [], [], [668, 670, 12], []] = true := by decide +kernel
theorem oX11_set : chkO (yX11_set, cX11_set, 4, (some .int), mX11_set, []) 748 94 = true := by decide +kernel
set_option maxRecDepth 20000 in
theorem kX11_cut : chkM infA (yX11_cut, cX11_cut, 4, (some .int), mX11_cut, []) [[], [329], [], [535, 536, 537], [], [], [], [], [], [], [], [], [], [], [754], [], [], [], [668, 670, 12], []] = true := by decide +kernel
theorem oX11_cut : chkO (yX11_cut, cX11_cut, 4, (some .int), mX11_cut, []) 753 94 = true := by decide +kernel
set_option maxRecDepth 20000 in
theorem kX11_turn : chkM infA (yX11_turn, cX11_turn, 4, (some .int), mX11_turn, []) [[], [329], [], [535, 536, 537], [], [], [], [], [], [], [], [], [], [], [759], [], [], [], [668, 670, 12], []] = true := by decide +kernel
theorem oX11_turn : chkO (yX11_turn, cX11_turn, 4, (some .int), mX11_turn, []) 758 94 = true := by decide +kernel
set_option maxRecDepth 20000 in
theorem kX11_paste : chkM infA (yX11_paste, cX11_paste, 6, (some .int), mX11_paste, []) [[], [], [650, 652, 11], [], [], [329], [], [535, 536, 537], [], [], [], [], [], [], [], [], [], [], [554, 468, 469], [], [], [], [], [212], [], [], [], [], [], [], [], [334], [], [329], [698, 699, 700], [], [], [], [], [], [], [], [], [], [], [326], [], [], [], [329], [235], [764, 464, 465], [], [], [], []] = true := by decide +kernel
theorem oX11_paste : chkO (yX11_paste, cX11_paste, 6, (some .int), mX11_paste, []) 763 94 = true := by decide +kernel
set_option maxRecDepth 20000 in
theorem kX11_join : chkM infA (yX11_join, cX11_join, 3, (some .int), mX11_join, []) [[], [329], [], [535, 536, 537], [], [], [329], [], [535, 536, 537], [], [], [], [], [], [], [], [769], [], [], [], [668, 670, 12], []] = true := by decide +kernel
theorem oX11_join : chkO (yX11_join, cX11_join, 3, (some .int), mX11_join, []) 768 94 = true := by decide +kernel
set_option maxRecDepth 20000 in
theorem kX11_split : chkM infA (yX11_split, cX11_split, 4, (some .int), mX11_split, []) [[], [329], [], [535, 536, 537], [], [], [329], [], [535, 536, 537], [], [], [], [], [], [], [], [774], [], [], [], [668, 670, 12], []] = true := by decide +kernel
theorem oX11_split : chkO (yX11_split, cX11_split, 4, (some .int), mX11_split, []) 773 94 = true := by decide +kernel
set_option maxRecDepth 20000 in
theorem kX11_letters : chkM infA (yX11_letters, cX11_letters, 1, (some .int), mX11_letters, []) [[], [329], [230], [192], []] = true := by decide +kernel
theorem oX11_letters : chkO (yX11_letters, cX11_letters, 1, (some .int), mX11_letters, []) 778 94 = true := by decide +kernel
set_option maxRecDepth 20000 in
theorem kX11_letter : chkM infA (yX11_letter, cX11_letter, 2, (some .int), mX11_letter, []) [[], [329], [230], [], [783, 784, 785], []] = true := by decide +kernel
theorem oX11_letter : chkO (yX11_letter, cX11_letter, 2, (some .int), mX11_letter, []) 782 94 = true := by decide +kernel
set_option maxRecDepth 20000 in
theorem kX11_count : chkM infA (yX11_count, cX11_count, 3, (some .int), mX11_count, []) [[], [791, 496, 0], [], [], [], [], [], [329], [230], [192], [], [], [], [], [329], [230], [], [], [], [792, 793, 794], []] = true := by decide +kernel
theorem oX11_count : chkO (yX11_count, cX11_count, 3, (some .int), mX11_count, []) 790 94 = true := by decide +kernel
set_option maxRecDepth 20000 in
theorem kX11_isLetter : chkM infA (yX11_isLetter, cX11_isLetter, 1, (some .boolean), mX11_isLetter, []) [[], [], [], [], [], [], [], [], []] = true := by decide +kernel
theorem oX11_isLetter : chkO (yX11_isLetter, cX11_isLetter, 1, (some .boolean), mX11_isLetter, []) 497 94 = true := by decide +kernel
set_option maxRecDepth 20000 in
theorem kX11_place : chkM infA (yX11_place, cX11_place, 3, (some .int), mX11_place, []) [[], [791, 496, 0], [], [], [], [], [], [], [329], [230], [], [], [801, 802, 803], []] = true := by decide +kernel
theorem oX11_place : chkO (yX11_place, cX11_place, 3, (some .int), mX11_place, []) 800 94 = true := by decide +kernel
set_option maxRecDepth 20000 in
theorem kX11_least : chkM infA (yX11_least, cX11_least, 4, (some .int), mX11_least, []) [[], [], [], [], [], [], [], [329], [230], [192], [], [], [], [], [], [], [329], [230], [], [], [], [809, 810, 811], []] = true := by decide +kernel
theorem oX11_least : chkO (yX11_least, cX11_least, 4, (some .int), mX11_least, []) 808 94 = true := by decide +kernel
set_option maxRecDepth 20000 in
theorem kX11_node : chkM infA (yX11_node, cX11_node, 3, (some .int), mX11_node, []) [[], [], [], [], [], [], [], [], [], [], [329], [230], [], [], [818, 819, 820], []] = true := by decide +kernel
theorem oX11_node : chkO (yX11_node, cX11_node, 3, (some .int), mX11_node, []) 817 94 = true := by decide +kernel
set_option maxRecDepth 20000 in
theorem kX11_type : chkM infA (yX11_type, cX11_type, 3, (some .int), mX11_type, []) [[], [791, 496, 0], [], [], [826], [], [], [], [668, 670, 12], [], [], []] = true := by decide +kernel
theorem oX11_type : chkO (yX11_type, cX11_type, 3, (some .int), mX11_type, []) 825 94 = true := by decide +kernel
set_option maxRecDepth 20000 in
theorem kX11_erase : chkM infA (yX11_erase, cX11_erase, 3, (some .int), mX11_erase, []) [[], [], [], [], [], [], [], [], [], [831], [], [], [], [668, 670, 12], []] = true := by decide +kernel
theorem oX11_erase : chkO (yX11_erase, cX11_erase, 3, (some .int), mX11_erase, []) 830 94 = true := by decide +kernel
set_option maxRecDepth 20000 in
theorem kX11_undo : chkM infA (yX11_undo, cX11_undo, 1, (some .int), mX11_undo, []) [[], [334], [], [329], [836, 837, 838], [], [], [334], [317], [], [], []] = true := by decide +kernel
theorem oX11_undo : chkO (yX11_undo, cX11_undo, 1, (some .int), mX11_undo, []) 835 94 = true := by decide +kernel
set_option maxRecDepth 20000 in
theorem kX11_drawn : chkM infA (yX11_drawn, cX11_drawn, 6, (some .int), mX11_drawn, []) [[], [], [], [], [], [], [], [], [], [330], [], [329], [844, 704, 705], [845, 846, 113], [], [], [847, 848, 0], [], [], [], [], [], [], [], [], [], [], [], [329], [855, 856, 857], [], [], [], [], [], [], [], [], [], [], [], [334], [], [330], [698, 699, 700], [], []] = true := by decide +kernel
theorem oX11_drawn : chkO (yX11_drawn, cX11_drawn, 6, (some .int), mX11_drawn, []) 843 94 = true := by decide +kernel
set_option maxRecDepth 20000 in
theorem kX11_book : chkM infA (yX11_book, cX11_book, 3, (some .int), mX11_book, []) [[], [], [], [], [], [], [], [], [328], [], [326], [], [327], [], [388, 389, 390], [], [333], [], [328], [], [329], [879, 880, 881], [], [511, 513, 9], [], [], [], [328], [148], [], [], [], [330], [], [329], [844, 704, 705], [], [333], [], [329], [907, 908, 909], [], [], [340], [], [], [333], [292], [], [], [340], [], [], [], [], [340], [], [], [329], [913, 914, 915], [], [], [340], [], [], [329], [230], [192], [], [], [], [], [515, 517, 10], [], [], [], [], [334], [], [330], [698, 699, 700], [], [333], [292], [], [], [], [], []] = true := by decide +kernel
theorem oX11_book : chkO (yX11_book, cX11_book, 3, (some .int), mX11_book, []) 878 94 = true := by decide +kernel
set_option maxRecDepth 20000 in
theorem kX11_told : chkM infA (yX11_told, cX11_told, 2, (some .int), mX11_told, []) [[], [], [], [], [340], [], [], [], [], [], [340], [], [], []] = true := by decide +kernel
theorem oX11_told : chkO (yX11_told, cX11_told, 2, (some .int), mX11_told, []) 920 94 = true := by decide +kernel
set_option maxRecDepth 20000 in
theorem kX11_sentence : chkM infA (yX11_sentence, cX11_sentence, 2, (some .int), mX11_sentence, []) [[], [328], [], [326], [], [327], [], [388, 389, 390], [], [332], [], [328], [], [329], [925, 926, 927], [], [511, 513, 9], [], [], [], [328], [148], [], [], [], [331], [], [], [], [332], [331], [], [], [332], [], [331], [264], []] = true := by decide +kernel
theorem oX11_sentence : chkO (yX11_sentence, cX11_sentence, 2, (some .int), mX11_sentence, []) 924 94 = true := by decide +kernel
set_option maxRecDepth 20000 in
theorem kX11_said : chkM infA (yX11_said, cX11_said, 4, (some .int), mX11_said, []) [[], [331], [264], [], [], [], [], [], [], [], [], [], [], [], [], [329], [233], [], [], [331], [], [329], [], [975, 976, 977], [], [], [], [], [], [], [], [], [], [], [], [], [], [], [], []] = true := by decide +kernel
theorem oX11_said : chkO (yX11_said, cX11_said, 4, (some .int), mX11_said, []) 974 94 = true := by decide +kernel
set_option maxRecDepth 20000 in
theorem kX11_image : chkM infA (yX11_image, cX11_image, 2, (some .boolean), mX11_image, []) [[], [], [], [], [], [], [], [], [335], [], [], [], [], [335], [], [175, 176, 96], [], [177, 178, 0], [], [], [336], [], [], [], [], [336], [], [250, 251, 99], [], [1, 253, 1], [], [], [335], [], [], [], [329], [844, 704, 705], [], [336], [], [], [], [331], [1007, 1008, 1009], [], []] = true := by decide +kernel
theorem oX11_image : chkO (yX11_image, cX11_image, 2, (some .boolean), mX11_image, []) 1006 94 = true := by decide +kernel
set_option maxRecDepth 20000 in
theorem kX11_restore : chkM infA (yX11_restore, cX11_restore, 2, (some .boolean), mX11_restore, []) [[], [], [], [], [], [], [335], [], [], [], [], [336], [], [], [], [], [], [], [329], [], [335], [], [], [844, 704, 705], [], [331], [], [336], [], [], [1007, 1008, 1009], [], [334], [523, 524, 525], [], []] = true := by decide +kernel
theorem oX11_restore : chkO (yX11_restore, cX11_restore, 2, (some .boolean), mX11_restore, []) 1014 94 = true := by decide +kernel
set_option maxRecDepth 20000 in
theorem kX11_total : chkM infA (yX11_total, cX11_total, 2, (some .int), mX11_total, []) [[], [], [], [329], [233], [], [], [329], [235], [], [], [329], [913, 914, 915], [], [], [327], [], [], []] = true := by decide +kernel
theorem oX11_total : chkO (yX11_total, cX11_total, 2, (some .int), mX11_total, []) 1018 94 = true := by decide +kernel
set_option maxRecDepth 20000 in
theorem kX12_thrown : chkM infA (yX12_thrown, cX12_thrown, 1, (some .int), mX12_thrown, []) [[], [1152], []] = true := by decide +kernel
theorem oX12_thrown : chkO (yX12_thrown, cX12_thrown, 1, (some .int), mX12_thrown, []) 1133 102 = true := by decide +kernel
set_option maxRecDepth 20000 in
theorem kX12_refuse : chkM infA (yX12_refuse, cX12_refuse, 1, (some .int), mX12_refuse, []) [[], [], [1152], [], []] = true := by decide +kernel
theorem oX12_refuse : chkO (yX12_refuse, cX12_refuse, 1, (some .int), mX12_refuse, []) 1445 102 = true := by decide +kernel
set_option maxRecDepth 20000 in
theorem kX12_come : chkM infA (yX12_come, cX12_come, 3, none, mX12_come, []) [[], [], [], [], [], [1153], [], [1154], [], [], [], [], [], [], [], [], [1154], [], [], [1154], [], [], []] = true := by decide +kernel
theorem oX12_come : chkO (yX12_come, cX12_come, 3, none, mX12_come, []) 1142 102 = true := by decide +kernel
set_option maxRecDepth 20000 in
theorem kX12_feed : chkM infA (yX12_feed, cX12_feed, 6, (some .int), mX12_feed, []) [[], [], [1152], [], [1154], [], [], [], [], [], [], [], [], [1138, 1140, 22], [], [], [1138, 1140, 22], [], [], [1138, 1140, 22], [], [], [1138, 1140, 22], [], [], [1138, 1140, 22], [], [1154], []] = true := by decide +kernel
theorem oX12_feed : chkO (yX12_feed, cX12_feed, 6, (some .int), mX12_feed, []) 1137 102 = true := by decide +kernel
set_option maxRecDepth 20000 in
theorem kX12_end : chkM infA (yX12_end, cX12_end, 2, (some .boolean), mX12_end, []) [[], [], [1152], [], [], [], [], [1154], [], [], [], [], [], [1154], [], []] = true := by decide +kernel
theorem oX12_end : chkO (yX12_end, cX12_end, 2, (some .boolean), mX12_end, []) 1146 102 = true := by decide +kernel
set_option maxRecDepth 20000 in
theorem kX12_take : chkM infA (yX12_take, cX12_take, 2, (some .int), mX12_take, []) [[], [1154], [], [], [], [1154], [], []] = true := by decide +kernel
theorem oX12_take : chkO (yX12_take, cX12_take, 2, (some .int), mX12_take, []) 1281 102 = true := by decide +kernel
set_option maxRecDepth 20000 in
theorem kX12_isIn : chkM infA (yX12_isIn, cX12_isIn, 3, (some .boolean), mX12_isIn, []) [[], [], [], [], [], [], [], [], [], []] = true := by decide +kernel
theorem oX12_isIn : chkO (yX12_isIn, cX12_isIn, 3, (some .boolean), mX12_isIn, []) 1326 102 = true := by decide +kernel
set_option maxRecDepth 20000 in
theorem kX12_tapeAt : chkM infA (yX12_tapeAt, cX12_tapeAt, 2, (some .int), mX12_tapeAt, []) [[], [], [1155], [], [], [1153], [], [], [], [], []] = true := by decide +kernel
theorem oX12_tapeAt : chkO (yX12_tapeAt, cX12_tapeAt, 2, (some .int), mX12_tapeAt, []) 1295 102 = true := by decide +kernel
set_option maxRecDepth 20000 in
theorem kX12_isDigit : chkM infA (yX12_isDigit, cX12_isDigit, 1, (some .boolean), mX12_isDigit, []) [[], [], [], [], [], [], [], [], [], []] = true := by decide +kernel
theorem oX12_isDigit : chkO (yX12_isDigit, cX12_isDigit, 1, (some .boolean), mX12_isDigit, []) 1291 102 = true := by decide +kernel
set_option maxRecDepth 20000 in
theorem kX12_isLetter : chkM infA (yX12_isLetter, cX12_isLetter, 1, (some .boolean), mX12_isLetter, []) [[], [], [], [], [], [], [], [], [], []] = true := by decide +kernel
theorem oX12_isLetter : chkO (yX12_isLetter, cX12_isLetter, 1, (some .boolean), mX12_isLetter, []) 1288 102 = true := by decide +kernel
set_option maxRecDepth 20000 in
theorem kX12_go : chkM infA (yX12_go, cX12_go, 5, none, mX12_go, []) [[], [1157], [], [1155], [], [], [1153], [], [1157], [], [], [], [], [1153], [], [1157], [], [], [], [], [], [1157], [], [], [1157], [], [], [], [1157], [1158], [], [1155], [], [1156], [], [], [1158], [], [1156], [], [], [], [1156], [1158], [], [], [1159], [], [], [1157], [], [1155], [], [], [], [1159], [], [], [1153], [], [1157], [], [], [], [1286, 1287, 0], [], [], [1289, 1290, 0], [], [], [], [], [], [], [], [], [], [], [], [], [], [], [], [], [], [], [], [], [], [], [], [1159], [], [], [1161], [], [], [1157], [], [], [1157], [], [], [1286, 1287, 0], [], [], [], [], [], [1164], [], [], [1160], [], [], [1157], [1292, 1294, 26], [1286, 1287, 0], [], [], [], [1157], [1292, 1294, 26], [1289, 1290, 0], [], [], [1153], [], [1157], [], [], [], [], [], [1286, 1287, 0], [], [], [], [], [], [], [], [1157], [], [1158], [], [], [], [], [1296], [], [1164], [], [], [], [], [1297], [], [1164], [], [1157], [], [1158], [], [], [], [], [], [], [1160], [], [], [], [], [], [1160], [], [], [1157], [], [], [1157], [], [], [], [], [], [1157], [], [1158], [], [], [], [], [], [], [], [], [], [], [], [], [], [], [1159], []] = true := by decide +kernel
theorem oX12_go : chkO (yX12_go, cX12_go, 5, none, mX12_go, []) 1285 102 = true := by decide +kernel
