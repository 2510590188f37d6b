theorem oL_dense : chkO (yL_dense, cL_dense, 6, (some .int), (0, 0, [], []), [(0, 12, 15, 13)]) 1099 93 = true := by decide +kernel
theorem oL_load : chkO (yL_load, cL_load, 4, (some .int), (0, 0, [], []), [(0, 9, 12, 13)]) 1112 93 = true := by decide +kernel
theorem oL_centre : chkO (yL_centre, cL_centre, 5, (some .int), (0, 0, [], []), [(0, 10, 13, 13)]) 1120 93 = true := by decide +kernel
