set_option maxRecDepth 20000 in
theorem kX8_readLines : chkM infA (yX8_readLines, cX8_readLines, 4, (some .int), mX8_readLines, []) [[], [], [231], [], [], [234], [], [229], [], [191], [], [], [236], [], [], [], [], [], [], [], [], [413, 414, 415], [], [], [142], [417], [], [], [], [], [], [], [], [], [419, 421, 2], [], [], [142], [433], [], [], [], [435, 437, 3], [], [], [142], [485], [], [], [], [487, 489, 7], [], [], [], [423, 424, 425], [], [], [503, 504, 505], [], [], [], [], []] = true := by decide +kernel
theorem oX8_readLines : chkO (yX8_readLines, cX8_readLines, 4, (some .int), mX8_readLines, []) 412 96 = true := by decide +kernel
set_option maxRecDepth 20000 in
theorem kX8_readLeaf : chkM infA (yX8_readLeaf, cX8_readLeaf, 4, none, mX8_readLeaf, []) [[], [], [], [], [423, 424, 425], [], [], [427, 393, 394], [], [], [], [428, 429, 430], [], [], [], [], [], [], [234], []] = true := by decide +kernel
theorem oX8_readLeaf : chkO (yX8_readLeaf, cX8_readLeaf, 4, none, mX8_readLeaf, []) 422 96 = true := by decide +kernel
set_option maxRecDepth 20000 in
theorem kX8_readRow : chkM infA (yX8_readRow, cX8_readRow, 4, none, mX8_readRow, []) [[], [231], [], [], [], [], [423, 424, 425], [], [], [427, 393, 394], [], [439, 440, 441], [], [], [], [423, 424, 425], [], [], [], [138], [443, 444, 445], [], [], [], [], [423, 424, 425], [], [], [228], [], [231], [], [138], [], [], [227], [], [231], [], [], [], [447, 448, 449], [], [], [231], [], [], [231], [], [427, 393, 394], [], [], [], [], [], [], [146], [], [], [133], [], [], [], [], [], [451, 453, 4], [], [], []] = true := by decide +kernel
theorem oX8_readRow : chkO (yX8_readRow, cX8_readRow, 4, none, mX8_readRow, []) 438 96 = true := by decide +kernel
set_option maxRecDepth 20000 in
theorem kX8_readBits : chkM infA (yX8_readBits, cX8_readBits, 6, none, mX8_readBits, []) [[], [455, 456, 457], [], [], [], [], [], [], [], [], [459, 460, 461], [], [], [], [], [], [], [], [], [], [423, 424, 425], [], [], [], [], [211], [], [], [], [], [], [], [423, 424, 425], [], [], [], [], [], [], [], [], [211], [], [], [459, 460, 461], [], [], [], [], [], [], [234], [463, 464, 465], [], [], [], [427, 393, 394], []] = true := by decide +kernel
theorem oX8_readBits : chkO (yX8_readBits, cX8_readBits, 6, none, mX8_readBits, []) 454 96 = true := by decide +kernel
set_option maxRecDepth 20000 in
theorem kX8_readLetters : chkM infA (yX8_readLetters, cX8_readLetters, 3, none, mX8_readLetters, []) [[], [236], [], [], [], [423, 424, 425], [], [], [], [236], [], [427, 393, 394], [], [], [], [], [], [], [146], [], [], [133], [], [], [], [], [491, 493, 8], [], [], []] = true := by decide +kernel
theorem oX8_readLetters : chkO (yX8_readLetters, cX8_readLetters, 3, none, mX8_readLetters, []) 490 96 = true := by decide +kernel
set_option maxRecDepth 20000 in
theorem kX8_readLettersOfWord : chkM infA (yX8_readLettersOfWord, cX8_readLettersOfWord, 4, none, mX8_readLettersOfWord, []) [[], [455, 456, 457], [], [], [], [], [], [], [], [], [459, 460, 461], [], [], [6, 496, 1], [], [], [], [423, 424, 425], [], [], [], [], [229], [191], [], [], [], [], [], [], [423, 424, 425], [], [], [], [], [], [], [], [229], [], [229], [191], [], [], [459, 460, 461], [], [], [498, 499, 500], [], [], [], [427, 393, 394], []] = true := by decide +kernel
theorem oX8_readLettersOfWord : chkO (yX8_readLettersOfWord, cX8_readLettersOfWord, 4, none, mX8_readLettersOfWord, []) 494 96 = true := by decide +kernel
set_option maxRecDepth 20000 in
theorem kX8_whyNot : chkM infA (yX8_whyNot, cX8_whyNot, 6, (some .int), mX8_whyNot, []) [[], [676], [], [], [], [], [], [229], [191], [], [], [], [], [229], [191], [], [], [], [], [], [], [], [678], [], [], [229], [], [], [680, 681, 682], [], [], [], [], [], [], [], [684, 536, 537], [], [], [], [], [], [], [685], [], [], [], [684, 536, 537], [], [], [687, 688, 0], [], [], [691], [], [], [], [], [], [684, 536, 537], [687, 688, 0], [], [], [693], [], [], [], [694, 468, 469], [], [], [], [], [211], [], [], [], [], [], [], [], [695], [], [], [], [690, 544, 545], [], [], [], [], [], [], [690, 544, 545], [], [], [], [], [], [], [], [], [], [697, 560, 561], [], [], [], [], []] = true := by decide +kernel
theorem oX8_whyNot : chkO (yX8_whyNot, cX8_whyNot, 6, (some .int), mX8_whyNot, []) 675 96 = true := by decide +kernel
set_option maxRecDepth 20000 in
theorem kX8_whyNotMoved : chkM infA (yX8_whyNotMoved, cX8_whyNotMoved, 3, (some .int), mX8_whyNotMoved, []) [[], [], [], [], [], [], [690, 544, 545], [], [], [], [], [], [211], [], [211], [], [], [], [], [], [], [], [], []] = true := by decide +kernel
theorem oX8_whyNotMoved : chkO (yX8_whyNotMoved, cX8_whyNotMoved, 3, (some .int), mX8_whyNotMoved, []) 689 96 = true := by decide +kernel
set_option maxRecDepth 20000 in
theorem kX8_act : chkM infA (yX8_act, cX8_act, 7, none, mX8_act, []) [[], [676], [], [], [229], [], [], [498, 499, 500], [], [], [678], [], [], [229], [], [], [719, 720, 721], [], [], [], [684, 536, 537], [], [], [685], [], [], [], [684, 536, 537], [], [], [691], [], [], [], [684, 536, 537], [], [], [], [], [], [], [], [], [], [693], [], [], [], [], [], [234], [463, 464, 465], [], [], [695], [], [], [], [], [724, 725, 726], [], [], [728], [], [], [], [], [], [234], [730, 731, 732], [], [], [738], [], [], [], [], [724, 725, 726], [], [], [685], [], [], [], [], [], [234], [740, 741, 742], [], [447, 448, 449], [], [], [691], [], [], [], [], [], [234], [740, 741, 742], [], [], [], [211], [], [], [], [234], [730, 731, 732], []] = true := by decide +kernel
theorem oX8_act : chkO (yX8_act, cX8_act, 7, none, mX8_act, []) 718 96 = true := by decide +kernel
set_option maxRecDepth 20000 in
theorem kX9_height : chkM infA (yX9_height, cX9_height, 3, (some .int), mX9_height, []) [[], [], [], [], [], [], [], [], [], [], [], [], [], [], [], [], []] = true := by decide +kernel
theorem oX9_height : chkO (yX9_height, cX9_height, 3, (some .int), mX9_height, []) 613 111 = true := by decide +kernel
set_option maxRecDepth 20000 in
theorem kX9_inner : chkM infA (yX9_inner, cX9_inner, 1, (some .int), mX9_inner, []) [[], [], [], [], [], [], [], [], []] = true := by decide +kernel
theorem oX9_inner : chkO (yX9_inner, cX9_inner, 1, (some .int), mX9_inner, []) 616 111 = true := by decide +kernel
set_option maxRecDepth 20000 in
theorem kX9_mixed : chkM infA (yX9_mixed, cX9_mixed, 1, (some .int), mX9_mixed, []) [[], [], [620, 621, 0], []] = true := by decide +kernel
theorem oX9_mixed : chkO (yX9_mixed, cX9_mixed, 1, (some .int), mX9_mixed, []) 619 111 = true := by decide +kernel
set_option maxRecDepth 20000 in
theorem kX9_triples : chkM infA (yX9_triples, cX9_triples, 3, (some .int), mX9_triples, []) [[], [], [], [], [], [], [], [], [], [], [], [], [], [], [], [], [], [], [], [], [], [], [], [620, 621, 0], [], [], [], [], [620, 621, 0], [], []] = true := by decide +kernel
theorem oX9_triples : chkO (yX9_triples, cX9_triples, 3, (some .int), mX9_triples, []) 622 111 = true := by decide +kernel
set_option maxRecDepth 20000 in
theorem kX9_cost : chkM infA (yX9_cost, cX9_cost, 3, (some .int), mX9_cost, []) [[], [], [215], [626, 615, 0], [], [], [], [], [], [], [215], [], [], [], [207], [], [], [], [], [], [], [], [], [], [], [], [], [], []] = true := by decide +kernel
theorem oX9_cost : chkO (yX9_cost, cX9_cost, 3, (some .int), mX9_cost, []) 625 111 = true := by decide +kernel
set_option maxRecDepth 20000 in
theorem kX10_withCode : chkM infA (yX10_withCode, cX10_withCode, 3, (some (.object "BitRopes$Word")), mX10_withCode, []) [[], [], [], [407], [], [], [407], [], [], [1781], [], [], [], [407], [], [], [], [], [], [], []] = true := by decide +kernel
theorem oX10_withCode : chkO (yX10_withCode, cX10_withCode, 3, (some (.object "BitRopes$Word")), mX10_withCode, []) 406 104 = true := by decide +kernel
set_option maxRecDepth 20000 in
theorem kX11_init : chkM infA (yX11_init, cX11_init, 1, none, mX11_init, []) [[], [119, 120, 121], [], [], [174], [326], [], [122, 123, 95], [], [0, 125, 1], [328], [], [175, 176, 96], [], [177, 178, 0], [329], [], [175, 176, 96], [], [177, 178, 0], [330], [], [250, 251, 99], [], [1, 253, 1], [331], [], [250, 251, 99], [], [1, 253, 1], [332], [], [279, 280, 100], [], [2, 282, 1], [333], [], [306, 307, 101], [], [3, 309, 1], [334], [], [], [175], [335], [], [], [250], [336], [], [], [174], [337], [], [], [174], [], [], [], [], [], [], [], [], [], [], [], [], [], [], [], [], [340], []] = true := by decide +kernel
theorem oX11_init : chkO (yX11_init, cX11_init, 1, none, mX11_init, []) 118 94 = true := by decide +kernel
set_option maxRecDepth 20000 in
theorem kX11_feed : chkM infA (yX11_feed, cX11_feed, 6, (some .int), mX11_feed, []) [[], [327], [], [], [], [], [], [], [], [], [376, 378, 0], [], [], [376, 378, 0], [], [], [376, 378, 0], [], [], [376, 378, 0], [], [], [376, 378, 0], [], [327], []] = true := by decide +kernel
theorem oX11_feed : chkO (yX11_feed, cX11_feed, 6, (some .int), mX11_feed, []) 375 94 = true := by decide +kernel
set_option maxRecDepth 20000 in
theorem kX11_feedBytes : chkM infA (yX11_feedBytes, cX11_feedBytes, 3, none, mX11_feedBytes, []) [[], [], [], [], [], [327], [], [], [], [326], [], [327], [], [], [], [], [], [], [], [], [327], [], [], [327], [], [], []] = true := by decide +kernel
theorem oX11_feedBytes : chkO (yX11_feedBytes, cX11_feedBytes, 3, none, mX11_feedBytes, []) 379 94 = true := by decide +kernel
set_option maxRecDepth 20000 in
theorem kX11_end : chkM infA (yX11_end, cX11_end, 2, (some .boolean), mX11_end, []) [[], [], [], [], [327], [], [], [], [], [], [327], [], []] = true := by decide +kernel
theorem oX11_end : chkO (yX11_end, cX11_end, 2, (some .boolean), mX11_end, []) 383 94 = true := by decide +kernel
set_option maxRecDepth 20000 in
theorem kX11_room : chkM infA (yX11_room, cX11_room, 2, (some .int), mX11_room, []) [[], [328], [], [326], [], [327], [], [388, 389, 390], [], [330], [], [328], [409, 410, 411], [], [], [511, 513, 9], [], [], [], [328], [148], [], [], [], [515, 517, 10], [], [331], [519, 520, 521], [], [334], [523, 524, 525], [], []] = true := by decide +kernel
theorem oX11_room : chkO (yX11_room, cX11_room, 2, (some .int), mX11_room, []) 387 94 = true := by decide +kernel
set_option maxRecDepth 20000 in
theorem kX11_closesWithFault : chkM infA (yX11_closesWithFault, cX11_closesWithFault, 1, (some .boolean), mX11_closesWithFault, []) [[], [], [327], [], [], [328], [145], [339], [], [339], [], [], [], [], []] = true := by decide +kernel
theorem oX11_closesWithFault : chkO (yX11_closesWithFault, cX11_closesWithFault, 1, (some .boolean), mX11_closesWithFault, []) 514 94 = true := by decide +kernel
set_option maxRecDepth 20000 in
theorem kX11_swapStates : chkM infA (yX11_swapStates, cX11_swapStates, 2, none, mX11_swapStates, []) [[], [329], [], [], [], [330], [329], [], [], [330], []] = true := by decide +kernel
theorem oX11_swapStates : chkO (yX11_swapStates, cX11_swapStates, 2, none, mX11_swapStates, []) 518 94 = true := by decide +kernel
set_option maxRecDepth 20000 in
theorem kX11_fault : chkM infA (yX11_fault, cX11_fault, 1, (some .int), mX11_fault, []) [[], [339], []] = true := by decide +kernel
theorem oX11_fault : chkO (yX11_fault, cX11_fault, 1, (some .int), mX11_fault, []) 530 94 = true := by decide +kernel
set_option maxRecDepth 20000 in
theorem kX11_size : chkM infA (yX11_size, cX11_size, 3, (some .int), mX11_size, []) [[], [329], [], [535, 536, 537], [], [], [], [], [], [], [212], []] = true := by decide +kernel
theorem oX11_size : chkO (yX11_size, cX11_size, 3, (some .int), mX11_size, []) 534 94 = true := by decide +kernel
set_option maxRecDepth 20000 in
theorem kX11_bit : chkM infA (yX11_bit, cX11_bit, 4, (some .int), mX11_bit, []) [[], [329], [], [535, 536, 537], [], [], [], [], [], [], [], [543, 544, 545], []] = true := by decide +kernel
theorem oX11_bit : chkO (yX11_bit, cX11_bit, 4, (some .int), mX11_bit, []) 542 94 = true := by decide +kernel
set_option maxRecDepth 20000 in
theorem kX11_rank : chkM infA (yX11_rank, cX11_rank, 5, (some .int), mX11_rank, []) [[], [329], [], [535, 536, 537], [], [], [], [], [551, 552, 0], [], [], [], [554, 468, 469], [], [], [], [], [], [], [], [555, 556, 557], []] = true := by decide +kernel
theorem oX11_rank : chkO (yX11_rank, cX11_rank, 5, (some .int), mX11_rank, []) 550 94 = true := by decide +kernel
set_option maxRecDepth 20000 in
theorem kX11_isBit : chkM infA (yX11_isBit, cX11_isBit, 1, (some .boolean), mX11_isBit, []) [[], [], [], [], [], [], [], [], []] = true := by decide +kernel
theorem oX11_isBit : chkO (yX11_isBit, cX11_isBit, 1, (some .boolean), mX11_isBit, []) 553 94 = true := by decide +kernel
set_option maxRecDepth 20000 in
theorem kX11_select : chkM infA (yX11_select, cX11_select, 5, (some .int), mX11_select, []) [[], [329], [], [535, 536, 537], [], [], [], [], [551, 552, 0], [], [], [], [], [], [], [], [], [567, 568, 569], []] = true := by decide +kernel
theorem oX11_select : chkO (yX11_select, cX11_select, 5, (some .int), mX11_select, []) 566 94 = true := by decide +kernel
set_option maxRecDepth 20000 in
theorem kX11_find : chkM infA (yX11_find, cX11_find, 5, (some .int), mX11_find, []) [[], [329], [], [535, 536, 537], [], [], [], [], [551, 552, 0], [], [], [], [], [], [], [], [], [575, 576, 577], []] = true := by decide +kernel
theorem oX11_find : chkO (yX11_find, cX11_find, 5, (some .int), mX11_find, []) 574 94 = true := by decide +kernel
set_option maxRecDepth 20000 in
theorem kX11_runs : chkM infA (yX11_runs, cX11_runs, 3, (some .int), mX11_runs, []) [[], [329], [], [535, 536, 537], [], [], [], [], [], [], [583, 584, 585], []] = true := by decide +kernel
theorem oX11_runs : chkO (yX11_runs, cX11_runs, 3, (some .int), mX11_runs, []) 582 94 = true := by decide +kernel
set_option maxRecDepth 20000 in
theorem kX11_longest : chkM infA (yX11_longest, cX11_longest, 4, (some .int), mX11_longest, []) [[], [329], [], [535, 536, 537], [], [], [], [], [551, 552, 0], [], [], [], [], [], [591, 592, 593], []] = true := by decide +kernel
theorem oX11_longest : chkO (yX11_longest, cX11_longest, 4, (some .int), mX11_longest, []) 590 94 = true := by decide +kernel
set_option maxRecDepth 20000 in
theorem kX11_word : chkM infA (yX11_word, cX11_word, 4, (some .int), mX11_word, []) [[], [329], [], [535, 536, 537], [], [], [], [], [], [554, 468, 469], [], [], [], [], [], [1092, 1093, 1094], []] = true := by decide +kernel
theorem oX11_word : chkO (yX11_word, cX11_word, 4, (some .int), mX11_word, []) 1026 94 = true := by decide +kernel
set_option maxRecDepth 20000 in
theorem kX11_leaves : chkM infA (yX11_leaves, cX11_leaves, 3, (some .int), mX11_leaves, []) [[], [329], [], [535, 536, 537], [], [], [], [], [], [], [217], []] = true := by decide +kernel
theorem oX11_leaves : chkO (yX11_leaves, cX11_leaves, 3, (some .int), mX11_leaves, []) 598 94 = true := by decide +kernel
set_option maxRecDepth 20000 in
theorem kX11_leaf : chkM infA (yX11_leaf, cX11_leaf, 5, (some .int), mX11_leaf, []) [[], [329], [], [535, 536, 537], [], [], [], [], [], [], [], [217], [], [], [], [], [], [], [], [], [], [208], [], [], [], [], [], [], [603, 604, 605], [], [208], [], [], [], [555, 556, 557], [], [], [], [603, 604, 605], [], [], []] = true := by decide +kernel
theorem oX11_leaf : chkO (yX11_leaf, cX11_leaf, 5, (some .int), mX11_leaf, []) 602 94 = true := by decide +kernel
set_option maxRecDepth 20000 in
theorem kX11_tree : chkM infA (yX11_tree, cX11_tree, 4, (some .int), mX11_tree, []) [[], [329], [], [535, 536, 537], [], [], [], [], [], [], [], [], [217], [611, 612, 0], [], [], [217], [614, 615, 0], [], [], [217], [617, 618, 0], [], [], [623, 624, 0], [], [], []] = true := by decide +kernel
theorem oX11_tree : chkO (yX11_tree, cX11_tree, 4, (some .int), mX11_tree, []) 610 94 = true := by decide +kernel
set_option maxRecDepth 20000 in
theorem kX11_dense : chkM infA (yX11_dense, cX11_dense, 5, (some .int), mX11_dense, []) [[], [329], [], [535, 536, 537], [], [], [], [], [], [], [], [], [], [1104, 560, 561], [], [], [], [], [], [], [], [555, 556, 557], [], [], [], [], [], [1106, 1107, 0], [], []] = true := by decide +kernel
theorem oX11_dense : chkO (yX11_dense, cX11_dense, 5, (some .int), mX11_dense, []) 1103 94 = true := by decide +kernel
set_option maxRecDepth 20000 in
theorem kX11_load : chkM infA (yX11_load, cX11_load, 3, (some .int), mX11_load, []) [[], [329], [], [535, 536, 537], [], [], [], [], [212], [], [], [], [], [], [623, 624, 0], [], [], [], [212], [], [], [], [1106, 1107, 0], [], []] = true := by decide +kernel
theorem oX11_load : chkO (yX11_load, cX11_load, 3, (some .int), mX11_load, []) 1116 94 = true := by decide +kernel
set_option maxRecDepth 20000 in
theorem kX11_centre : chkM infA (yX11_centre, cX11_centre, 7, (some .int), mX11_centre, []) [[], [329], [], [535, 536, 537], [], [], [], [], [], [], [], [], [212], [], [555, 556, 557], [], [], [], [], [], [], [551, 552, 0], [], [], [], [], [1126, 1127, 1128], [], [], [], [], [], [1106, 1107, 0], [], [], [], [], [], [], [], [], [], [], []] = true := by decide +kernel
theorem oX11_centre : chkO (yX11_centre, cX11_centre, 7, (some .int), mX11_centre, []) 1124 94 = true := by decide +kernel
set_option maxRecDepth 20000 in
theorem kX11_apart : chkM infA (yX11_apart, cX11_apart, 5, (some .int), mX11_apart, []) [[], [329], [], [535, 536, 537], [], [], [329], [], [535, 536, 537], [], [], [], [], [], [], [], [], [], [631, 632, 633], []] = true := by decide +kernel
theorem oX11_apart : chkO (yX11_apart, cX11_apart, 5, (some .int), mX11_apart, []) 630 94 = true := by decide +kernel
set_option maxRecDepth 20000 in
theorem kX11_differ : chkM infA (yX11_differ, cX11_differ, 5, (some .int), mX11_differ, []) [[], [329], [], [535, 536, 537], [], [], [329], [], [535, 536, 537], [], [], [], [], [], [], [], [], [], [642, 643, 644], []] = true := by decide +kernel
theorem oX11_differ : chkO (yX11_differ, cX11_differ, 5, (some .int), mX11_differ, []) 641 94 = true := by decide +kernel
