set_option maxRecDepth 20000 in
theorem kX0_init : chkM infA (yX0_init, cX0_init, 1, none, mX0_init, []) [[], [284, 120, 121], [], [], [285], [286], [], [], [174], [287], [], [], [174], [288], [], [], [174], [289], []] = true := by decide +kernel
theorem oX0_init : chkO (yX0_init, cX0_init, 1, none, mX0_init, []) 283 100 = true := by decide +kernel
set_option maxRecDepth 20000 in
theorem kX0_readLines : chkM infA (yX0_readLines, cX0_readLines, 4, none, mX0_readLines, []) [[], [], [290], [], [], [], [], [], [], [883, 414, 415], [], [], [139], [], [], [139], [1782], [], [], [], [], [884, 424, 425], [], [], [290], [], [], [], [], [884, 424, 425], [], [], [], [], [885, 887, 15], [], [], [906, 504, 505], [], [], [290], [], [], [290], [], [], []] = true := by decide +kernel
theorem oX0_readLines : chkO (yX0_readLines, cX0_readLines, 4, none, mX0_readLines, []) 882 100 = true := by decide +kernel
set_option maxRecDepth 20000 in
theorem kX0_readLine : chkM infA (yX0_readLine, cX0_readLine, 7, none, mX0_readLine, []) [[], [139], [], [], [], [], [], [], [], [], [889, 393, 394], [], [890], [], [], [891], [], [], [], [], [892, 429, 430], [], [], [890], [], [], [], [], [892, 429, 430], [], [], [], [], [892, 429, 430], [], [], [], [893], [], [], [], [], [894, 895, 896], [], [], [], [], [894, 895, 896], [], [], [], [], [], [894, 895, 896], [], [], [], [], [892, 429, 430], [], [], [], [], [], [900, 901, 0], [], [], [286], [], [290], [], [], [], [287], [], [290], [], [], [], [288], [], [290], [], [], [], [289], [], [290], [], [], []] = true := by decide +kernel
theorem oX0_readLine : chkO (yX0_readLine, cX0_readLine, 7, none, mX0_readLine, []) 888 100 = true := by decide +kernel
set_option maxRecDepth 20000 in
theorem kX0_readThird : chkM infA (yX0_readThird, cX0_readThird, 4, (some .int), mX0_readThird, []) [[], [903], [], [], [], [], [894, 895, 896], [], [], [904], [], [], [905], [], [], [], [], [892, 429, 430], [], [], [], [], [892, 429, 430], []] = true := by decide +kernel
theorem oX0_readThird : chkO (yX0_readThird, cX0_readThird, 4, (some .int), mX0_readThird, []) 902 100 = true := by decide +kernel
set_option maxRecDepth 20000 in
theorem kX0_liveOn : chkM infA (yX0_liveOn, cX0_liveOn, 5, (some .int), mX0_liveOn, []) [[], [], [291], [], [], [], [], [290], [], [], [], [], [], [286], [], [], [], [], [], [], [], [], [], [], [287], [], [], [], [288], [], [], [], [289], [], [], [911, 673, 674], [], [], [], [], [], [1783], [], [], [291], [], [], [], [], [], [287], [], [], [], [288], [], [], [], [289], [], [], [912, 716, 717], [], [], [], [290], []] = true := by decide +kernel
theorem oX0_liveOn : chkO (yX0_liveOn, cX0_liveOn, 5, (some .int), mX0_liveOn, []) 910 100 = true := by decide +kernel
set_option maxRecDepth 20000 in
theorem kX1_init : chkM infA (yX1_init, cX1_init, 2, none, mX1_init, []) [[], [850, 120, 121], [], [], [851], []] = true := by decide +kernel
theorem oX1_init : chkO (yX1_init, cX1_init, 2, none, mX1_init, []) 849 113 = true := by decide +kernel
set_option maxRecDepth 20000 in
theorem kX1_draw : chkM infA (yX1_draw, cX1_draw, 2, (some .int), mX1_draw, []) [[], [], [851], [863], [], [], [], [851], [], [], [], [], [], [], [851], [], [], [], [], []] = true := by decide +kernel
theorem oX1_draw : chkO (yX1_draw, cX1_draw, 2, (some .int), mX1_draw, []) 862 113 = true := by decide +kernel
set_option maxRecDepth 20000 in
theorem kX1_deedOn : chkM infA (yX1_deedOn, cX1_deedOn, 7, (some .boolean), mX1_deedOn, []) [[], [232], [], [], [], [], [], [859, 861, 14], [], [], [], [232], [859, 861, 14], [], [], [], [864, 536, 537], [], [], [], [], [], [], [], [210], [], [], [859, 861, 14], [], [], [], [], [865], [], [], [], [], [859, 861, 14], [], [], [866, 867, 0], [], [], [871], [], [], [], [], [859, 861, 14], [], [], [866, 867, 0], [], [], [], [232], [859, 861, 14], [], [], [], [], [], [872], [], [], [], [866, 867, 0], [], [], [], [], [], [], [], [232], [859, 861, 14], [], [], [], [], [], [873], [], [], [], [866, 867, 0], [], [], [], [], [], [], [874], [], [], [], [], [859, 861, 14], [866, 867, 0], []] = true := by decide +kernel
theorem oX1_deedOn : chkO (yX1_deedOn, cX1_deedOn, 7, (some .boolean), mX1_deedOn, []) 858 113 = true := by decide +kernel
set_option maxRecDepth 20000 in
theorem kX1_done : chkM infA (yX1_done, cX1_done, 5, (some .boolean), mX1_done, []) [[], [], [], [], [], [869, 673, 674], [], [], [], [], [], [], [], [], [870, 716, 717], [], []] = true := by decide +kernel
theorem oX1_done : chkO (yX1_done, cX1_done, 5, (some .boolean), mX1_done, []) 868 113 = true := by decide +kernel
set_option maxRecDepth 20000 in
theorem kX2_asBits : chkM infA (yX2_asBits, cX2_asBits, 14, (some .long), mX2_asBits, []) [[], [], [], [], [], [], [], [], [], [], [], [], [], [], [], [], [], [], [], [], [], [], [1109], [], [], [], [], [], [1109], [], [], [], [], [], [], [], [], [], [], [], [], [], [], [], [1109], [], [], [], [], [], [], [], [], [], [], [], [], [], [1109], [], [], [], [], [], [], [], [], [], [], [], [], [], [], [], [1109], [], [], [], [], [], [], [], [], [], [], [], [], [], [], [], [], [], [], [], [], [], [], [], [], [], [], [], [], [], [], [], [], [], [], []] = true := by decide +kernel
theorem oX2_asBits : chkO (yX2_asBits, cX2_asBits, 14, (some .long), mX2_asBits, []) 1108 112 = true := by decide +kernel
set_option maxRecDepth 20000 in
theorem kX3_init : chkM infA (yX3_init, cX3_init, 1, none, mX3_init, []) [[], [311, 120, 121], [], [], [312], [314], []] = true := by decide +kernel
theorem oX3_init : chkO (yX3_init, cX3_init, 1, none, mX3_init, []) 310 101 = true := by decide +kernel
set_option maxRecDepth 20000 in
theorem kX3_forget : chkM infA (yX3_forget, cX3_forget, 1, none, mX3_forget, []) [[], [], [316], []] = true := by decide +kernel
theorem oX3_forget : chkO (yX3_forget, cX3_forget, 1, none, mX3_forget, []) 526 101 = true := by decide +kernel
set_option maxRecDepth 20000 in
theorem kX3_keep : chkM infA (yX3_keep, cX3_keep, 3, none, mX3_keep, []) [[], [315], [], [316], [], [], [], [], [], [316], [], [], [], [], [315], [], [], [], [], [315], [], [], [], [316], [], [], [316], [], [314], [], [], [], [], [314], [], [312, 176, 96], [], [702, 178, 0], [], [], [314], [], [], [], [703, 704, 705], []] = true := by decide +kernel
theorem oX3_keep : chkO (yX3_keep, cX3_keep, 3, none, mX3_keep, []) 701 101 = true := by decide +kernel
set_option maxRecDepth 20000 in
theorem kX3_bringBack : chkM infA (yX3_bringBack, cX3_bringBack, 3, (some .boolean), mX3_bringBack, []) [[], [316], [], [], [], [], [315], [], [316], [], [], [], [], [], [], [], [314], [], [], [], [], [], [], [], [316], [], [], [316], [], [], [314], [], [], [703, 704, 705], [], []] = true := by decide +kernel
theorem oX3_bringBack : chkO (yX3_bringBack, cX3_bringBack, 3, (some .boolean), mX3_bringBack, []) 839 101 = true := by decide +kernel
set_option maxRecDepth 20000 in
theorem kX4_init : chkM infA (yX4_init, cX4_init, 1, none, mX4_init, []) [[], [127, 120, 121], [], [], [174], [128], []] = true := by decide +kernel
theorem oX4_init : chkO (yX4_init, cX4_init, 1, none, mX4_init, []) 126 95 = true := by decide +kernel
set_option maxRecDepth 20000 in
theorem kX4_open : chkM infA (yX4_open, cX4_open, 4, none, mX4_open, []) [[], [], [128], [], [], [], [], [], [], [], [], [], [129], [], [], [130], [], [], [131], [], [], [143], [], [], [147], [], [392, 393, 394], []] = true := by decide +kernel
theorem oX4_open : chkO (yX4_open, cX4_open, 4, none, mX4_open, []) 391 95 = true := by decide +kernel
set_option maxRecDepth 20000 in
theorem kX4_advance : chkM infA (yX4_advance, cX4_advance, 2, none, mX4_advance, []) [[], [129], [], [130], [], [], [129], [], [], [130], [], [], [131], [], [], [], [128], [], [131], [], [], [], [], [128], [], [131], [], [], [], [], [], [131], [], [], [131], [], [], [], [140], [], [131], [], [], [], [], [134], [], [], [129], [], [130], [], [], [], [], [132], [], [], [], [131], [134], [], [396, 398, 1], [], [131], [], [134], [], [], [], [128], [], [131], [], [136], [], [], [136], [401, 402, 0], [], [], [], [], [132], [], [], [131], [], [], [131], [], [], [132], [], [], [], [137], [404, 405, 0], [], [], [140], []] = true := by decide +kernel
theorem oX4_advance : chkO (yX4_advance, cX4_advance, 2, none, mX4_advance, []) 395 95 = true := by decide +kernel
set_option maxRecDepth 20000 in
theorem kX4_readLettersAndDigits : chkM infA (yX4_readLettersAndDigits, cX4_readLettersAndDigits, 5, none, mX4_readLettersAndDigits, []) [[], [], [], [], [], [], [137], [], [], [135], [], [131], [], [129], [], [], [128], [], [131], [], [], [], [], [], [], [], [], [], [], [], [137], [400], [], [], [], [], [], [], [], [], [137], [], [], [], [], [], [], [], [], [], [], [135], [], [], [], [], [], [], [135], [], [], [131], [], [], [131], [], [], [], [], [], [], [], [], [], [], [], [], [], [], [], [], [], [], [], [], [], [], [], [], [], [], [], [], [], [], [], [], [], [], [], [132], []] = true := by decide +kernel
theorem oX4_readLettersAndDigits : chkO (yX4_readLettersAndDigits, cX4_readLettersAndDigits, 5, none, mX4_readLettersAndDigits, []) 399 95 = true := by decide +kernel
set_option maxRecDepth 20000 in
theorem kX4_isSign : chkM infA (yX4_isSign, cX4_isSign, 1, (some .boolean), mX4_isSign, []) [[], [], [], [], [], [], [], [], [], [], [], [], [], [], [], [], [], [], [], [], [], []] = true := by decide +kernel
theorem oX4_isSign : chkO (yX4_isSign, cX4_isSign, 1, (some .boolean), mX4_isSign, []) 403 95 = true := by decide +kernel
set_option maxRecDepth 20000 in
theorem kX4_goesOn : chkM infA (yX4_goesOn, cX4_goesOn, 1, (some .boolean), mX4_goesOn, []) [[], [143], [], [], [132], [], [], [], [], []] = true := by decide +kernel
theorem oX4_goesOn : chkO (yX4_goesOn, cX4_goesOn, 1, (some .boolean), mX4_goesOn, []) 416 95 = true := by decide +kernel
set_option maxRecDepth 20000 in
theorem kX4_fail : chkM infA (yX4_fail, cX4_fail, 2, none, mX4_fail, []) [[], [143], [], [], [], [143], [], [], [134], [147], []] = true := by decide +kernel
theorem oX4_fail : chkO (yX4_fail, cX4_fail, 2, none, mX4_fail, []) 426 95 = true := by decide +kernel
set_option maxRecDepth 20000 in
theorem kX4_isAtName : chkM infA (yX4_isAtName, cX4_isAtName, 1, (some .boolean), mX4_isAtName, []) [[], [132], [], [], [], [140], [], [], [], [], []] = true := by decide +kernel
theorem oX4_isAtName : chkO (yX4_isAtName, cX4_isAtName, 1, (some .boolean), mX4_isAtName, []) 442 95 = true := by decide +kernel
set_option maxRecDepth 20000 in
theorem kX4_isAtSign : chkM infA (yX4_isAtSign, cX4_isAtSign, 2, (some .boolean), mX4_isAtSign, []) [[], [132], [], [], [], [136], [], [], [], [], [], []] = true := by decide +kernel
theorem oX4_isAtSign : chkO (yX4_isAtSign, cX4_isAtSign, 2, (some .boolean), mX4_isAtSign, []) 510 95 = true := by decide +kernel
set_option maxRecDepth 20000 in
theorem kX4_takeSign : chkM infA (yX4_takeSign, cX4_takeSign, 2, none, mX4_takeSign, []) [[], [143], [], [], [], [], [507, 508, 509], [], [], [392, 393, 394], [], [], [], [432, 424, 425], []] = true := by decide +kernel
theorem oX4_takeSign : chkO (yX4_takeSign, cX4_takeSign, 2, none, mX4_takeSign, []) 506 95 = true := by decide +kernel
set_option maxRecDepth 20000 in
theorem kX4_takeComparison : chkM infA (yX4_takeComparison, cX4_takeComparison, 2, (some .int), mX4_takeComparison, []) [[], [143], [], [], [], [], [], [507, 508, 509], [], [], [], [507, 508, 509], [], [], [], [507, 508, 509], [], [], [], [432, 424, 425], [], [], [], [136], [], [], [392, 393, 394], [], []] = true := by decide +kernel
theorem oX4_takeComparison : chkO (yX4_takeComparison, cX4_takeComparison, 2, (some .int), mX4_takeComparison, []) 964 95 = true := by decide +kernel
set_option maxRecDepth 20000 in
theorem kX4_takeNumber : chkM infA (yX4_takeNumber, cX4_takeNumber, 4, (some .int), mX4_takeNumber, []) [[], [143], [], [], [], [], [132], [], [], [], [], [432, 424, 425], [], [], [], [135], [], [], [], [135], [], [], [], [], [432, 424, 425], [], [], [], [135], [], [], [392, 393, 394], [], []] = true := by decide +kernel
theorem oX4_takeNumber : chkO (yX4_takeNumber, cX4_takeNumber, 4, (some .int), mX4_takeNumber, []) 431 95 = true := by decide +kernel
set_option maxRecDepth 20000 in
theorem kX4_takeRow : chkM infA (yX4_takeRow, cX4_takeRow, 4, (some .int), mX4_takeRow, []) [[], [143], [], [], [], [], [898, 440, 441], [], [], [], [432, 424, 425], [], [], [], [], [137], [899, 444, 445], [], [], [], [], [], [], [], [], [], [432, 424, 425], [], [], [], [392, 393, 394], [], []] = true := by decide +kernel
theorem oX4_takeRow : chkO (yX4_takeRow, cX4_takeRow, 4, (some .int), mX4_takeRow, []) 897 95 = true := by decide +kernel
set_option maxRecDepth 20000 in
theorem kX4_lettersOfWord : chkM infA (yX4_lettersOfWord, cX4_lettersOfWord, 1, (some .int), mX4_lettersOfWord, []) [[], [131], [], [134], [], []] = true := by decide +kernel
theorem oX4_lettersOfWord : chkO (yX4_lettersOfWord, cX4_lettersOfWord, 1, (some .int), mX4_lettersOfWord, []) 458 95 = true := by decide +kernel
set_option maxRecDepth 20000 in
theorem kX4_letterOfWord : chkM infA (yX4_letterOfWord, cX4_letterOfWord, 3, (some .int), mX4_letterOfWord, []) [[], [134], [], [], [], [], [], [], [], [129], [], [], [], [], [128], [], [], []] = true := by decide +kernel
theorem oX4_letterOfWord : chkO (yX4_letterOfWord, cX4_letterOfWord, 3, (some .int), mX4_letterOfWord, []) 462 95 = true := by decide +kernel
set_option maxRecDepth 20000 in
theorem kX5_init : chkM infA (yX5_init, cX5_init, 1, none, mX5_init, []) [[], [204, 120, 121], [], [], [199], [205], [], [], [174], [206], []] = true := by decide +kernel
theorem oX5_init : chkO (yX5_init, cX5_init, 1, none, mX5_init, []) 203 98 = true := by decide +kernel
set_option maxRecDepth 20000 in
theorem kX5_clear : chkM infA (yX5_clear, cX5_clear, 1, none, mX5_clear, []) [[], [], [209], [], [], [214], []] = true := by decide +kernel
theorem oX5_clear : chkO (yX5_clear, cX5_clear, 1, none, mX5_clear, []) 450 98 = true := by decide +kernel
set_option maxRecDepth 20000 in
theorem kX5_copyFrom : chkM infA (yX5_copyFrom, cX5_copyFrom, 2, none, mX5_copyFrom, []) [[], [205], [], [], [205], [], [], [209], [482, 484, 483, 106], [], [206], [], [], [206], [], [], [214], [482, 484, 483, 106], [], [], [209], [209], [], [], [214], [214], []] = true := by decide +kernel
theorem oX5_copyFrom : chkO (yX5_copyFrom, cX5_copyFrom, 2, none, mX5_copyFrom, []) 710 98 = true := by decide +kernel
set_option maxRecDepth 20000 in
theorem kX5_hasGap : chkM infA (yX5_hasGap, cX5_hasGap, 2, (some .boolean), mX5_hasGap, []) [[], [], [], [], [209], [], [], [], [], []] = true := by decide +kernel
theorem oX5_hasGap : chkO (yX5_hasGap, cX5_hasGap, 2, (some .boolean), mX5_hasGap, []) 470 98 = true := by decide +kernel
set_option maxRecDepth 20000 in
theorem kX5_hasRange : chkM infA (yX5_hasRange, cX5_hasRange, 3, (some .boolean), mX5_hasRange, []) [[], [], [], [], [], [], [209], [], [], [], [], [], [], []] = true := by decide +kernel
theorem oX5_hasRange : chkO (yX5_hasRange, cX5_hasRange, 3, (some .boolean), mX5_hasRange, []) 562 98 = true := by decide +kernel
set_option maxRecDepth 20000 in
theorem kX5_bitAt : chkM infA (yX5_bitAt, cX5_bitAt, 2, (some .int), mX5_bitAt, []) [[], [], [], [], [209], [], [], [], [], [205], [], [], []] = true := by decide +kernel
theorem oX5_bitAt : chkO (yX5_bitAt, cX5_bitAt, 2, (some .int), mX5_bitAt, []) 546 98 = true := by decide +kernel
set_option maxRecDepth 20000 in
theorem kX5_countIn : chkM infA (yX5_countIn, cX5_countIn, 6, (some .int), mX5_countIn, []) [[], [], [], [], [], [559, 560, 561], [], [], [], [], [], [], [], [], [], [205], [], [], [], [], [], [], [], [], []] = true := by decide +kernel
theorem oX5_countIn : chkO (yX5_countIn, cX5_countIn, 6, (some .int), mX5_countIn, []) 558 98 = true := by decide +kernel
set_option maxRecDepth 20000 in
theorem kX5_placeOf : chkM infA (yX5_placeOf, cX5_placeOf, 5, (some .int), mX5_placeOf, []) [[], [], [], [], [], [], [209], [], [], [205], [], [], [], [], [], [], [], [], [], [], [], [], [], []] = true := by decide +kernel
theorem oX5_placeOf : chkO (yX5_placeOf, cX5_placeOf, 5, (some .int), mX5_placeOf, []) 570 98 = true := by decide +kernel
set_option maxRecDepth 20000 in
theorem kX5_nextPlace : chkM infA (yX5_nextPlace, cX5_nextPlace, 4, (some .int), mX5_nextPlace, []) [[], [], [], [], [], [], [], [], [209], [], [], [205], [], [], [], [], [], [], [], [], [], []] = true := by decide +kernel
theorem oX5_nextPlace : chkO (yX5_nextPlace, cX5_nextPlace, 4, (some .int), mX5_nextPlace, []) 578 98 = true := by decide +kernel
set_option maxRecDepth 20000 in
theorem kX5_runCount : chkM infA (yX5_runCount, cX5_runCount, 3, (some .int), mX5_runCount, []) [[], [209], [], [], [], [], [], [], [], [], [], [209], [], [], [205], [], [], [], [205], [], [], [], [], [], [], [], [], [], []] = true := by decide +kernel
theorem oX5_runCount : chkO (yX5_runCount, cX5_runCount, 3, (some .int), mX5_runCount, []) 586 98 = true := by decide +kernel
set_option maxRecDepth 20000 in
theorem kX5_longestRun : chkM infA (yX5_longestRun, cX5_longestRun, 5, (some .int), mX5_longestRun, []) [[], [], [], [], [], [], [], [], [209], [], [], [205], [], [], [], [], [], [], [], [], [], [], [], [], [475, 476, 105, 477], [], [], [], [], []] = true := by decide +kernel
theorem oX5_longestRun : chkO (yX5_longestRun, cX5_longestRun, 5, (some .int), mX5_longestRun, []) 594 98 = true := by decide +kernel
