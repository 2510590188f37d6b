set_option maxRecDepth 20000 in
theorem kX5_wordFrom : chkM infA (yX5_wordFrom, cX5_wordFrom, 4, (some .int), mX5_wordFrom, []) [[], [], [], [], [], [], [], [], [], [], [], [], [], [], [1096, 544, 545], [], [], [], [], [], [], [], [], [], [], []] = true := by decide +kernel
theorem oX5_wordFrom : chkO (yX5_wordFrom, cX5_wordFrom, 4, (some .int), mX5_wordFrom, []) 1095 98 = true := by decide +kernel
set_option maxRecDepth 20000 in
theorem kX5_sumOfPlaces : chkM infA (yX5_sumOfPlaces, cX5_sumOfPlaces, 3, (some .int), mX5_sumOfPlaces, []) [[], [], [], [], [], [], [209], [], [], [], [205], [], [], [], [], [], [], [], [], [], [], [], [], []] = true := by decide +kernel
theorem oX5_sumOfPlaces : chkO (yX5_sumOfPlaces, cX5_sumOfPlaces, 3, (some .int), mX5_sumOfPlaces, []) 1129 98 = true := by decide +kernel
set_option maxRecDepth 20000 in
theorem kX5_unlikeBits : chkM infA (yX5_unlikeBits, cX5_unlikeBits, 5, (some .int), mX5_unlikeBits, []) [[], [209], [], [209], [635, 636, 105, 637], [], [], [209], [], [209], [475, 476, 105, 477], [], [], [], [], [], [], [], [], [], [205], [], [], [], [205], [], [], [], [], [], [], [], []] = true := by decide +kernel
theorem oX5_unlikeBits : chkO (yX5_unlikeBits, cX5_unlikeBits, 5, (some .int), mX5_unlikeBits, []) 634 98 = true := by decide +kernel
set_option maxRecDepth 20000 in
theorem kX5_firstUnlike : chkM infA (yX5_firstUnlike, cX5_firstUnlike, 4, (some .int), mX5_firstUnlike, []) [[], [209], [], [209], [635, 636, 105, 637], [], [], [], [], [], [], [], [205], [], [], [], [205], [], [], [], [], [], [], [], [], [209], [], [209], [], [], [], [], []] = true := by decide +kernel
theorem oX5_firstUnlike : chkO (yX5_firstUnlike, cX5_firstUnlike, 4, (some .int), mX5_firstUnlike, []) 645 98 = true := by decide +kernel
set_option maxRecDepth 20000 in
theorem kX5_beginsWith : chkM infA (yX5_beginsWith, cX5_beginsWith, 3, (some .boolean), mX5_beginsWith, []) [[], [], [990, 643, 644], [], [], [], [], [], [], [209], [], [], [], [], []] = true := by decide +kernel
theorem oX5_beginsWith : chkO (yX5_beginsWith, cX5_beginsWith, 3, (some .boolean), mX5_beginsWith, []) 989 98 = true := by decide +kernel
set_option maxRecDepth 20000 in
theorem kX5_hasAt : chkM infA (yX5_hasAt, cX5_hasAt, 5, (some .boolean), mX5_hasAt, []) [[], [], [], [559, 560, 561], [], [], [], [], [], [], [], [], [], [], [], [], [], [205], [], [], [], [], [], [], [], [], [], [], [], [], [], []] = true := by decide +kernel
theorem oX5_hasAt : chkO (yX5_hasAt, cX5_hasAt, 5, (some .boolean), mX5_hasAt, []) 657 98 = true := by decide +kernel
set_option maxRecDepth 20000 in
theorem kX5_leafStart : chkM infA (yX5_leafStart, cX5_leafStart, 4, (some .int), mX5_leafStart, []) [[], [], [], [], [], [], [], [], [], [214], [], [], [], [206], [], [], [], [], [], [], [], []] = true := by decide +kernel
theorem oX5_leafStart : chkO (yX5_leafStart, cX5_leafStart, 4, (some .int), mX5_leafStart, []) 606 98 = true := by decide +kernel
set_option maxRecDepth 20000 in
theorem kX5_leafWith : chkM infA (yX5_leafWith, cX5_leafWith, 5, (some .int), mX5_leafWith, []) [[], [214], [], [], [], [475, 476, 105, 477], [], [], [], [209], [], [206], [], [], [], [], [], [], [], [], [], [], [], [], [], [], [], [206], [], [], [], [], [], [], [], [], [], [], [], [], []] = true := by decide +kernel
theorem oX5_leafWith : chkO (yX5_leafWith, cX5_leafWith, 5, (some .int), mX5_leafWith, []) 474 98 = true := by decide +kernel
set_option maxRecDepth 20000 in
theorem kX5_insert : chkM infA (yX5_insert, cX5_insert, 5, none, mX5_insert, []) [[], [], [467, 468, 469], [], [], [209], [], [], [], [], [214], [], [], [206], [], [], [], [], [], [214], [], [], [], [], [], [], [], [], [471, 473, 5], [], [], [206], [], [], [], [], [], [], [], [], [], [478, 480, 6], [], [205], [], [], [205], [], [], [], [], [209], [], [], [482, 484, 483, 106], [], [205], [], [], [], [], [], [], [209], [], [], [209], []] = true := by decide +kernel
theorem oX5_insert : chkO (yX5_insert, cX5_insert, 5, none, mX5_insert, []) 466 98 = true := by decide +kernel
set_option maxRecDepth 20000 in
theorem kX5_halveIfTooBig : chkM infA (yX5_halveIfTooBig, cX5_halveIfTooBig, 4, none, mX5_halveIfTooBig, []) [[], [206], [], [], [], [], [], [], [], [], [], [214], [], [], [], [], [206], [], [], [], [], [206], [], [], [], [], [214], [], [], [], [], [482, 484, 483, 106], [], [206], [], [], [], [], [], [], [], [], [206], [], [], [], [], [], [], [], [], [], [214], [], [], [214], []] = true := by decide +kernel
theorem oX5_halveIfTooBig : chkO (yX5_halveIfTooBig, cX5_halveIfTooBig, 4, none, mX5_halveIfTooBig, []) 481 98 = true := by decide +kernel
set_option maxRecDepth 20000 in
theorem kX5_remove : chkM infA (yX5_remove, cX5_remove, 6, none, mX5_remove, []) [[], [], [], [559, 560, 561], [], [], [], [205], [], [], [], [], [205], [], [], [209], [], [], [], [], [482, 484, 483, 106], [], [], [], [], [], [], [], [471, 473, 5], [], [], [206], [], [], [], [], [], [], [], [], [209], [], [], [209], [], [206], [], [], [], [], [], [214], [], [], [], [], [], [214], [], [], [635, 636, 105, 637], [], [734, 736, 13], [], [], [], [209], [], [], [], [214], []] = true := by decide +kernel
theorem oX5_remove : chkO (yX5_remove, cX5_remove, 6, none, mX5_remove, []) 733 98 = true := by decide +kernel
set_option maxRecDepth 20000 in
theorem kX5_mergeWithNext : chkM infA (yX5_mergeWithNext, cX5_mergeWithNext, 3, none, mX5_mergeWithNext, []) [[], [206], [], [], [], [], [206], [], [], [], [], [], [], [], [206], [], [], [], [], [206], [], [], [], [], [214], [], [], [], [], [482, 484, 483, 106], [], [], [214], [], [], [214], [], [], [], [478, 480, 6], []] = true := by decide +kernel
theorem oX5_mergeWithNext : chkO (yX5_mergeWithNext, cX5_mergeWithNext, 3, none, mX5_mergeWithNext, []) 737 98 = true := by decide +kernel
set_option maxRecDepth 20000 in
theorem kX5_turnOver : chkM infA (yX5_turnOver, cX5_turnOver, 4, none, mX5_turnOver, []) [[], [], [], [559, 560, 561], [], [], [], [], [], [], [], [], [], [], [205], [], [], [], [205], [], [], [], [], [], [], [], []] = true := by decide +kernel
theorem oX5_turnOver : chkO (yX5_turnOver, cX5_turnOver, 4, none, mX5_turnOver, []) 727 98 = true := by decide +kernel
set_option maxRecDepth 20000 in
theorem kX5_append : chkM infA (yX5_append, cX5_append, 5, none, mX5_append, []) [[], [], [], [], [], [], [209], [], [], [], [209], [], [205], [], [], [], [744, 464, 465], [], [], []] = true := by decide +kernel
theorem oX5_append : chkO (yX5_append, cX5_append, 5, none, mX5_append, []) 743 98 = true := by decide +kernel
set_option maxRecDepth 20000 in
theorem kX6_init : chkM infA (yX6_init, cX6_init, 1, none, mX6_init, []) [[], [188, 120, 121], [], [], [199], [189], []] = true := by decide +kernel
theorem oX6_init : chkO (yX6_init, cX6_init, 1, none, mX6_init, []) 187 97 = true := by decide +kernel
set_option maxRecDepth 20000 in
theorem kX6_copyFrom : chkM infA (yX6_copyFrom, cX6_copyFrom, 2, none, mX6_copyFrom, []) [[], [189], [], [], [189], [], [], [190], [502, 484, 483, 106], [], [], [190], [190], []] = true := by decide +kernel
theorem oX6_copyFrom : chkO (yX6_copyFrom, cX6_copyFrom, 2, none, mX6_copyFrom, []) 714 97 = true := by decide +kernel
set_option maxRecDepth 20000 in
theorem kX6_signAt : chkM infA (yX6_signAt, cX6_signAt, 2, (some .int), mX6_signAt, []) [[], [], [], [], [190], [], [], [], [], [189], [], [], []] = true := by decide +kernel
theorem oX6_signAt : chkO (yX6_signAt, cX6_signAt, 2, (some .int), mX6_signAt, []) 786 97 = true := by decide +kernel
set_option maxRecDepth 20000 in
theorem kX6_hasRange : chkM infA (yX6_hasRange, cX6_hasRange, 3, (some .boolean), mX6_hasRange, []) [[], [], [], [], [], [], [190], [], [], [], [], [], [], []] = true := by decide +kernel
theorem oX6_hasRange : chkO (yX6_hasRange, cX6_hasRange, 3, (some .boolean), mX6_hasRange, []) 683 97 = true := by decide +kernel
set_option maxRecDepth 20000 in
theorem kX6_countIn : chkM infA (yX6_countIn, cX6_countIn, 6, (some .int), mX6_countIn, []) [[], [], [], [], [796, 476, 105, 477], [], [], [], [], [], [], [190], [], [], [189], [], [], [], [], [], [], [], [], []] = true := by decide +kernel
theorem oX6_countIn : chkO (yX6_countIn, cX6_countIn, 6, (some .int), mX6_countIn, []) 795 97 = true := by decide +kernel
set_option maxRecDepth 20000 in
theorem kX6_placeOf : chkM infA (yX6_placeOf, cX6_placeOf, 5, (some .int), mX6_placeOf, []) [[], [], [], [], [], [], [190], [], [], [189], [], [], [], [], [], [], [], [], [], [], [], [], [], []] = true := by decide +kernel
theorem oX6_placeOf : chkO (yX6_placeOf, cX6_placeOf, 5, (some .int), mX6_placeOf, []) 804 97 = true := by decide +kernel
set_option maxRecDepth 20000 in
theorem kX6_leastOf : chkM infA (yX6_leastOf, cX6_leastOf, 6, (some .int), mX6_leastOf, []) [[], [], [], [], [], [], [], [], [], [], [], [], [813, 793, 794], [], [], [], [], [], [], [], [], [], [], []] = true := by decide +kernel
theorem oX6_leastOf : chkO (yX6_leastOf, cX6_leastOf, 6, (some .int), mX6_leastOf, []) 812 97 = true := by decide +kernel
set_option maxRecDepth 20000 in
theorem kX6_nodeBit : chkM infA (yX6_nodeBit, cX6_nodeBit, 7, (some .int), mX6_nodeBit, []) [[], [], [], [], [], [], [], [], [], [], [], [], [], [], [], [], [], [], [], [], [], [], [], [], [], [], [], [], [190], [], [], [189], [], [], [], [], [], [], [], [], [], [], [], [], [], [], [189], [], [], [], [], [], [], [], [], [], [], [], []] = true := by decide +kernel
theorem oX6_nodeBit : chkO (yX6_nodeBit, cX6_nodeBit, 7, (some .int), mX6_nodeBit, []) 821 97 = true := by decide +kernel
set_option maxRecDepth 20000 in
theorem kX6_insert : chkM infA (yX6_insert, cX6_insert, 3, none, mX6_insert, []) [[], [], [], [], [190], [], [], [190], [], [], [], [], [189], [], [], [189], [], [], [], [], [190], [], [], [502, 484, 483, 106], [], [189], [], [], [], [], [], [], [190], [], [], [190], []] = true := by decide +kernel
theorem oX6_insert : chkO (yX6_insert, cX6_insert, 3, none, mX6_insert, []) 501 97 = true := by decide +kernel
set_option maxRecDepth 20000 in
theorem kX6_remove : chkM infA (yX6_remove, cX6_remove, 3, none, mX6_remove, []) [[], [], [], [723, 681, 682], [], [], [], [189], [], [], [], [], [189], [], [], [190], [], [], [], [], [502, 484, 483, 106], [], [], [190], [], [], [190], []] = true := by decide +kernel
theorem oX6_remove : chkO (yX6_remove, cX6_remove, 3, none, mX6_remove, []) 722 97 = true := by decide +kernel
set_option maxRecDepth 20000 in
theorem kX7_init : chkM infA (yX7_init, cX7_init, 1, none, mX7_init, []) [[], [255, 120, 121], [], [], [256], [258], [], [], [174], [259], [], [], [174], [260], [], [], [278], [261], []] = true := by decide +kernel
theorem oX7_init : chkO (yX7_init, cX7_init, 1, none, mX7_init, []) 254 99 = true := by decide +kernel
set_option maxRecDepth 20000 in
theorem kX7_clear : chkM infA (yX7_clear, cX7_clear, 1, none, mX7_clear, []) [[], [], [262], [], [], [263], []] = true := by decide +kernel
theorem oX7_clear : chkO (yX7_clear, cX7_clear, 1, none, mX7_clear, []) 522 99 = true := by decide +kernel
set_option maxRecDepth 20000 in
theorem kX7_copyFrom : chkM infA (yX7_copyFrom, cX7_copyFrom, 3, none, mX7_copyFrom, []) [[], [], [], [], [262], [], [], [], [], [], [258], [], [], [258], [], [], [], [], [259], [], [], [259], [], [], [], [], [260], [], [], [260], [], [], [], [], [], [], [], [262], [262], [], [], [263], [263], []] = true := by decide +kernel
theorem oX7_copyFrom : chkO (yX7_copyFrom, cX7_copyFrom, 3, none, mX7_copyFrom, []) 1010 99 = true := by decide +kernel
set_option maxRecDepth 20000 in
theorem kX7_readAll : chkM infA (yX7_readAll, cX7_readAll, 3, none, mX7_readAll, []) [[], [929, 520, 521], [], [], [], [], [930, 932, 16], [], [970, 414, 415], [], [], [], [939, 424, 425], []] = true := by decide +kernel
theorem oX7_readAll : chkO (yX7_readAll, cX7_readAll, 3, none, mX7_readAll, []) 928 99 = true := by decide +kernel
set_option maxRecDepth 20000 in
theorem kX7_readCond : chkM infA (yX7_readCond, cX7_readCond, 7, none, mX7_readCond, []) [[], [], [], [], [934, 936, 17], [], [], [], [], [], [], [], [], [144], [], [], [141], [966], [], [], [141], [968], [], [], [141], [], [], [940, 393, 394], [], [966], [], [], [], [], [966], [], [], [944, 946, 18], [], [], [], [966], [], [], [], [], [], [], [], [], [], [934, 936, 17], [], [968], [], [], [968], [], [], [944, 946, 18], [], [], [], [], [], [966], [], [], [944, 946, 18], []] = true := by decide +kernel
theorem oX7_readCond : chkO (yX7_readCond, cX7_readCond, 7, none, mX7_readCond, []) 933 99 = true := by decide +kernel
set_option maxRecDepth 20000 in
theorem kX7_readOne : chkM infA (yX7_readOne, cX7_readOne, 6, none, mX7_readOne, []) [[], [], [938, 508, 509], [], [], [144], [], [], [], [], [], [141], [], [], [141], [1784], [], [], [], [], [939, 424, 425], [], [], [263], [], [], [], [], [], [], [], [939, 424, 425], [], [], [], [263], [], [], [263], [], [141], [], [], [940, 393, 394], [], [], [], [], [], [], [], [], [930, 932, 16], [], [], [941, 504, 505], [], [], [942], [], [], [], [], [], [], [], [934, 936, 17], [], [942], [], [], [944, 946, 18], [], [], [], [], [], [948, 950, 19], []] = true := by decide +kernel
theorem oX7_readOne : chkO (yX7_readOne, cX7_readOne, 6, none, mX7_readOne, []) 937 99 = true := by decide +kernel
set_option maxRecDepth 20000 in
theorem kX7_readPlain : chkM infA (yX7_readPlain, cX7_readPlain, 5, none, mX7_readPlain, []) [[], [952], [], [], [954], [], [], [], [], [], [944, 946, 18], [], [], [956], [], [], [958], [], [], [], [], [], [], [], [960, 895, 896], [944, 946, 18], [], [], [961, 962, 963], [], [], [], [], [], [], [], [965, 429, 430], [944, 946, 18], []] = true := by decide +kernel
theorem oX7_readPlain : chkO (yX7_readPlain, cX7_readPlain, 5, none, mX7_readPlain, []) 951 99 = true := by decide +kernel
set_option maxRecDepth 20000 in
theorem kX7_addStep : chkM infA (yX7_addStep, cX7_addStep, 4, none, mX7_addStep, []) [[], [262], [], [], [], [258], [], [262], [], [], [], [259], [], [262], [], [], [], [260], [], [262], [], [], [], [], [262], [], [], [262], []] = true := by decide +kernel
theorem oX7_addStep : chkO (yX7_addStep, cX7_addStep, 4, none, mX7_addStep, []) 947 99 = true := by decide +kernel
set_option maxRecDepth 20000 in
theorem kX7_isTrueOf : chkM infA (yX7_isTrueOf, cX7_isTrueOf, 6, (some .boolean), mX7_isTrueOf, []) [[], [], [], [], [], [], [262], [], [], [], [], [], [258], [], [], [], [], [942], [], [], [], [], [], [261], [], [], [], [], [261], [], [], [], [], [], [], [], [], [], [], [], [968], [], [], [], [], [], [], [261], [], [], [], [], [261], [], [], [], [], [], [], [261], [], [], [], [], [], [], [], [], [], [966], [], [], [], [], [], [], [261], [], [], [], [], [261], [], [], [], [], [], [], [261], [], [], [], [], [], [], [], [], [], [261], [], [], [], [], [], [979, 981, 20], [], [], [], [], [], [], [], [], [261], [], [], [], [], [], [], []] = true := by decide +kernel
theorem oX7_isTrueOf : chkO (yX7_isTrueOf, cX7_isTrueOf, 6, (some .boolean), mX7_isTrueOf, []) 978 99 = true := by decide +kernel
set_option maxRecDepth 20000 in
theorem kX7_isPlainTrue : chkM infA (yX7_isPlainTrue, cX7_isPlainTrue, 7, (some .boolean), mX7_isPlainTrue, []) [[], [], [983, 536, 537], [], [], [], [], [], [], [258], [], [], [], [], [952], [], [], [213], [], [], [], [], [], [], [954], [], [], [], [], [213], [], [984, 556, 557], [], [], [], [], [], [], [], [], [956], [], [], [958], [], [], [], [260], [], [], [983, 536, 537], [], [], [], [], [956], [], [], [], [985, 643, 644], [], [], [], [], [], [986, 987, 988], [], [], [], [], [], [], [], [], [991, 992, 0], [], [], [259], [], [], [], [], [], [], [260], [], [], [], [], [], [], [], [], [259], [], [], [], [], [], [], [260], [], [], [], [], [], [], [], [], [], [260], [], [], [], [], [], [], []] = true := by decide +kernel
theorem oX7_isPlainTrue : chkO (yX7_isPlainTrue, cX7_isPlainTrue, 7, (some .boolean), mX7_isPlainTrue, []) 982 99 = true := by decide +kernel
set_option maxRecDepth 20000 in
theorem kX7_measure : chkM infA (yX7_measure, cX7_measure, 3, (some .int), mX7_measure, []) [[], [994], [], [], [213], [], [], [996], [], [], [], [], [213], [], [984, 556, 557], [], [], [998], [], [], [1000, 584, 585], [], [], [1001], [], [], [216], [], [], []] = true := by decide +kernel
theorem oX7_measure : chkO (yX7_measure, cX7_measure, 3, (some .int), mX7_measure, []) 993 99 = true := by decide +kernel
set_option maxRecDepth 20000 in
theorem kX8_init : chkM infA (yX8_init, cX8_init, 2, none, mX8_init, []) [[], [180, 120, 121], [], [], [181], [227], [], [], [198], [228], [], [183, 184, 97], [], [4, 186, 1], [229], [], [], [234], [], [], [], [], [], [], [227], [], [181, 200, 98], [], [5, 202, 1], [], [], [], []] = true := by decide +kernel
theorem oX8_init : chkO (yX8_init, cX8_init, 2, none, mX8_init, []) 179 96 = true := by decide +kernel
set_option maxRecDepth 20000 in
theorem kX8_copyFrom : chkM infA (yX8_copyFrom, cX8_copyFrom, 3, none, mX8_copyFrom, []) [[], [], [], [], [231], [], [], [], [], [], [227], [], [], [], [227], [], [], [707, 708, 709], [], [228], [], [], [228], [], [], [], [], [], [], [229], [], [229], [711, 712, 713], [], [], [231], [231], [], [], [234], [234], []] = true := by decide +kernel
theorem oX8_copyFrom : chkO (yX8_copyFrom, cX8_copyFrom, 3, none, mX8_copyFrom, []) 706 96 = true := by decide +kernel
set_option maxRecDepth 20000 in
theorem kX8_rowAt : chkM infA (yX8_rowAt, cX8_rowAt, 2, (some (.object "BitRopes$Row")), mX8_rowAt, []) [[], [], [], [], [231], [], [], [], [], [], [], [], [227], [], [], []] = true := by decide +kernel
theorem oX8_rowAt : chkO (yX8_rowAt, cX8_rowAt, 2, (some (.object "BitRopes$Row")), mX8_rowAt, []) 538 96 = true := by decide +kernel
set_option maxRecDepth 20000 in
theorem kX8_numberOf : chkM infA (yX8_numberOf, cX8_numberOf, 4, (some .int), mX8_numberOf, []) [[], [], [], [], [231], [], [], [], [], [], [228], [], [], [], [], [], [], [], [], [], [], []] = true := by decide +kernel
theorem oX8_numberOf : chkO (yX8_numberOf, cX8_numberOf, 4, (some .int), mX8_numberOf, []) 446 96 = true := by decide +kernel
set_option maxRecDepth 20000 in
theorem kX8_allBits : chkM infA (yX8_allBits, cX8_allBits, 3, (some .int), mX8_allBits, []) [[], [], [], [], [], [], [231], [], [], [], [], [], [], [227], [], [], [211], [], [], [], [], [], []] = true := by decide +kernel
theorem oX8_allBits : chkO (yX8_allBits, cX8_allBits, 3, (some .int), mX8_allBits, []) 916 96 = true := by decide +kernel
