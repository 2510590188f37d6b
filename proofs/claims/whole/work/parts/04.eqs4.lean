set_option maxRecDepth 100000 in
theorem eL_law_0 (C : sC) (w : sW) (a0 : Int) : sg C mL_law 2000 0 [some (rV a0), none, none, none, none, none, none] [] w =
  wl (al w 9 0 15) (fun w1 =>
  if kd w1 (nx w) = 9 then
  bN (C 95 w1 [rV (nx w)]) (fun w2 =>
  wl (al w2 10 0 39) (fun w3 =>
  if kd w3 (nx w2) = 10 then
  bN (C 169 w3 [rV (nx w2)]) (fun w4 =>
  if 0 ≤ (1 : Int) ∧ (1 : Int) ≤ 100000 then
  wl (al w4 22 1 (Int.toNat 1)) (fun w5 =>
  some (.inl (23, [some (rV a0), some (rV (nx w)), some (rV (nx w2)), some (rV (nx w4)), some (iV 0), none, none], [], w5))) else none) else none)) else none) := by
  rfl
set_option maxRecDepth 100000 in
theorem eL_law_23 (C : sC) (w : sW) (a0 a1 a2 a3 a4 : Int) : sg C mL_law 2000 23 [some (rV a0), some (rV a1), some (rV a2), some (rV a3), some (iV a4), none, none] [] w =
  if 20 ≤ kd w a0 ∧ kd w a0 ≤ 27 then
  if (w32 ((ln w a0) - 6)) < a4 then
   (some (.inr (some (iV 1), w)))
  else
  if kd w a0 = 20 ∧ 0 ≤ a4 ∧ a4 < ln w a0 then
  if (f_iand (gv w a0 a4) 63) = 0 then
   (some (.inl (240, [some (rV a0), some (rV a1), some (rV a2), some (rV a3), some (iV a4), none, none], [], w)))
  else if (f_iand (gv w a0 a4) 63) = 1 then
   (some (.inl (313, [some (rV a0), some (rV a1), some (rV a2), some (rV a3), some (iV a4), none, none], [], w)))
  else if (f_iand (gv w a0 a4) 63) = 2 then
   (some (.inl (338, [some (rV a0), some (rV a1), some (rV a2), some (rV a3), some (iV a4), none, none], [], w)))
  else if (f_iand (gv w a0 a4) 63) = 3 then
   (some (.inl (351, [some (rV a0), some (rV a1), some (rV a2), some (rV a3), some (iV a4), none, none], [], w)))
  else if (f_iand (gv w a0 a4) 63) = 4 then
   (some (.inl (364, [some (rV a0), some (rV a1), some (rV a2), some (rV a3), some (iV a4), none, none], [], w)))
  else if (f_iand (gv w a0 a4) 63) = 5 then
   (some (.inl (389, [some (rV a0), some (rV a1), some (rV a2), some (rV a3), some (iV a4), none, none], [], w)))
  else if (f_iand (gv w a0 a4) 63) = 6 then
   (some (.inl (426, [some (rV a0), some (rV a1), some (rV a2), some (rV a3), some (iV a4), none, none], [], w)))
  else if (f_iand (gv w a0 a4) 63) = 7 then
   (some (.inl (475, [some (rV a0), some (rV a1), some (rV a2), some (rV a3), some (iV a4), none, none], [], w)))
  else if (f_iand (gv w a0 a4) 63) = 8 then
   (some (.inl (524, [some (rV a0), some (rV a1), some (rV a2), some (rV a3), some (iV a4), none, none], [], w)))
  else if (f_iand (gv w a0 a4) 63) = 9 then
   (some (.inl (573, [some (rV a0), some (rV a1), some (rV a2), some (rV a3), some (iV a4), none, none], [], w)))
  else if (f_iand (gv w a0 a4) 63) = 10 then
   (some (.inl (598, [some (rV a0), some (rV a1), some (rV a2), some (rV a3), some (iV a4), none, none], [], w)))
  else if (f_iand (gv w a0 a4) 63) = 11 then
   (some (.inl (635, [some (rV a0), some (rV a1), some (rV a2), some (rV a3), some (iV a4), none, none], [], w)))
  else if (f_iand (gv w a0 a4) 63) = 12 then
   (some (.inl (703, [some (rV a0), some (rV a1), some (rV a2), some (rV a3), some (iV a4), none, none], [], w)))
  else if (f_iand (gv w a0 a4) 63) = 13 then
   (some (.inl (728, [some (rV a0), some (rV a1), some (rV a2), some (rV a3), some (iV a4), none, none], [], w)))
  else if (f_iand (gv w a0 a4) 63) = 14 then
   (some (.inl (777, [some (rV a0), some (rV a1), some (rV a2), some (rV a3), some (iV a4), none, none], [], w)))
  else if (f_iand (gv w a0 a4) 63) = 15 then
   (some (.inl (814, [some (rV a0), some (rV a1), some (rV a2), some (rV a3), some (iV a4), none, none], [], w)))
  else if (f_iand (gv w a0 a4) 63) = 16 then
   (some (.inl (894, [some (rV a0), some (rV a1), some (rV a2), some (rV a3), some (iV a4), none, none], [], w)))
  else if (f_iand (gv w a0 a4) 63) = 17 then
   (some (.inl (950, [some (rV a0), some (rV a1), some (rV a2), some (rV a3), some (iV a4), none, none], [], w)))
  else if (f_iand (gv w a0 a4) 63) = 18 then
   (some (.inl (1018, [some (rV a0), some (rV a1), some (rV a2), some (rV a3), some (iV a4), none, none], [], w)))
  else if (f_iand (gv w a0 a4) 63) = 19 then
   (some (.inl (1055, [some (rV a0), some (rV a1), some (rV a2), some (rV a3), some (iV a4), none, none], [], w)))
  else if (f_iand (gv w a0 a4) 63) = 20 then
   (some (.inl (1092, [some (rV a0), some (rV a1), some (rV a2), some (rV a3), some (iV a4), none, none], [], w)))
  else if (f_iand (gv w a0 a4) 63) = 21 then
   (some (.inl (1117, [some (rV a0), some (rV a1), some (rV a2), some (rV a3), some (iV a4), none, none], [], w)))
  else if (f_iand (gv w a0 a4) 63) = 22 then
   (some (.inl (1142, [some (rV a0), some (rV a1), some (rV a2), some (rV a3), some (iV a4), none, none], [], w)))
  else if (f_iand (gv w a0 a4) 63) = 23 then
   (some (.inl (1191, [some (rV a0), some (rV a1), some (rV a2), some (rV a3), some (iV a4), none, none], [], w)))
  else if (f_iand (gv w a0 a4) 63) = 24 then
   (some (.inl (1240, [some (rV a0), some (rV a1), some (rV a2), some (rV a3), some (iV a4), none, none], [], w)))
  else if (f_iand (gv w a0 a4) 63) = 25 then
   (some (.inl (1289, [some (rV a0), some (rV a1), some (rV a2), some (rV a3), some (iV a4), none, none], [], w)))
  else if (f_iand (gv w a0 a4) 63) = 26 then
   (some (.inl (1338, [some (rV a0), some (rV a1), some (rV a2), some (rV a3), some (iV a4), none, none], [], w)))
  else if (f_iand (gv w a0 a4) 63) = 27 then
   (some (.inl (1375, [some (rV a0), some (rV a1), some (rV a2), some (rV a3), some (iV a4), none, none], [], w)))
  else if (f_iand (gv w a0 a4) 63) = 28 then
   (some (.inl (1412, [some (rV a0), some (rV a1), some (rV a2), some (rV a3), some (iV a4), none, none], [], w)))
  else if (f_iand (gv w a0 a4) 63) = 29 then
   (some (.inl (1461, [some (rV a0), some (rV a1), some (rV a2), some (rV a3), some (iV a4), none, none], [], w)))
  else if (f_iand (gv w a0 a4) 63) = 30 then
   (some (.inl (1474, [some (rV a0), some (rV a1), some (rV a2), some (rV a3), some (iV a4), none, none], [], w)))
  else if (f_iand (gv w a0 a4) 63) = 31 then
   (some (.inl (1499, [some (rV a0), some (rV a1), some (rV a2), some (rV a3), some (iV a4), none, none], [], w)))
  else if (f_iand (gv w a0 a4) 63) = 32 then
   (some (.inl (1536, [some (rV a0), some (rV a1), some (rV a2), some (rV a3), some (iV a4), none, none], [], w)))
  else if (f_iand (gv w a0 a4) 63) = 33 then
   (some (.inl (1573, [some (rV a0), some (rV a1), some (rV a2), some (rV a3), some (iV a4), none, none], [], w)))
  else if (f_iand (gv w a0 a4) 63) = 34 then
   (some (.inl (1622, [some (rV a0), some (rV a1), some (rV a2), some (rV a3), some (iV a4), none, none], [], w)))
  else if (f_iand (gv w a0 a4) 63) = 35 then
   (some (.inl (1659, [some (rV a0), some (rV a1), some (rV a2), some (rV a3), some (iV a4), none, none], [], w)))
  else if (f_iand (gv w a0 a4) 63) = 36 then
   (some (.inl (1696, [some (rV a0), some (rV a1), some (rV a2), some (rV a3), some (iV a4), none, none], [], w)))
  else if (f_iand (gv w a0 a4) 63) = 37 then
   (some (.inl (1733, [some (rV a0), some (rV a1), some (rV a2), some (rV a3), some (iV a4), none, none], [], w)))
  else if (f_iand (gv w a0 a4) 63) = 38 then
   (some (.inl (1746, [some (rV a0), some (rV a1), some (rV a2), some (rV a3), some (iV a4), none, none], [], w)))
  else if (f_iand (gv w a0 a4) 63) = 39 then
   (some (.inl (1783, [some (rV a0), some (rV a1), some (rV a2), some (rV a3), some (iV a4), none, none], [], w)))
  else if (f_iand (gv w a0 a4) 63) = 40 then
   (some (.inl (1808, [some (rV a0), some (rV a1), some (rV a2), some (rV a3), some (iV a4), none, none], [], w)))
  else if (f_iand (gv w a0 a4) 63) = 41 then
   (some (.inl (1833, [some (rV a0), some (rV a1), some (rV a2), some (rV a3), some (iV a4), none, none], [], w)))
  else if (f_iand (gv w a0 a4) 63) = 42 then
   (some (.inl (1846, [some (rV a0), some (rV a1), some (rV a2), some (rV a3), some (iV a4), none, none], [], w)))
  else if (f_iand (gv w a0 a4) 63) = 43 then
   (some (.inl (1871, [some (rV a0), some (rV a1), some (rV a2), some (rV a3), some (iV a4), none, none], [], w)))
  else if (f_iand (gv w a0 a4) 63) = 44 then
   (some (.inl (1896, [some (rV a0), some (rV a1), some (rV a2), some (rV a3), some (iV a4), none, none], [], w)))
  else if (f_iand (gv w a0 a4) 63) = 45 then
   (some (.inl (1921, [some (rV a0), some (rV a1), some (rV a2), some (rV a3), some (iV a4), none, none], [], w)))
  else some (.inl (1946, [some (rV a0), some (rV a1), some (rV a2), some (rV a3), some (iV a4), none, none], [], w)) else none else none := by
  rfl
set_option maxRecDepth 100000 in
theorem eL_law_240 (C : sC) (w : sW) (a0 a1 a2 a3 a4 : Int) : sg C mL_law 2000 240 [some (rV a0), some (rV a1), some (rV a2), some (rV a3), some (iV a4), none, none] [] w =
  if kd w a0 = 20 ∧ 0 ≤ (w32 (a4 + 1)) ∧ (w32 (a4 + 1)) < ln w a0 then
  if kd w a0 = 20 ∧ 0 ≤ (w32 (a4 + 2)) ∧ (w32 (a4 + 2)) < ln w a0 then
  if kd w a0 = 20 ∧ 0 ≤ (w32 (a4 + 3)) ∧ (w32 (a4 + 3)) < ln w a0 then
  if kd w a0 = 20 ∧ 0 ≤ (w32 (a4 + 4)) ∧ (w32 (a4 + 4)) < ln w a0 then
  if kd w a0 = 20 ∧ 0 ≤ (w32 (a4 + 5)) ∧ (w32 (a4 + 5)) < ln w a0 then
  if kd w a1 = 9 then
  bI (C 96 w [rV a1, iV (gv w a0 (w32 (a4 + 1))), iV (gv w a0 (w32 (a4 + 2))), iV (gv w a0 (w32 (a4 + 3))), iV (gv w a0 (w32 (a4 + 4))), iV (gv w a0 (w32 (a4 + 5)))]) (fun x2 w1 =>
  if kd w1 a0 = 20 ∧ 0 ≤ (w32 (a4 + 1)) ∧ (w32 (a4 + 1)) < ln w1 a0 then
  if kd w1 a0 = 20 ∧ 0 ≤ (w32 (a4 + 2)) ∧ (w32 (a4 + 2)) < ln w1 a0 then
  if kd w1 a0 = 20 ∧ 0 ≤ (w32 (a4 + 3)) ∧ (w32 (a4 + 3)) < ln w1 a0 then
  if kd w1 a0 = 20 ∧ 0 ≤ (w32 (a4 + 4)) ∧ (w32 (a4 + 4)) < ln w1 a0 then
  if kd w1 a0 = 20 ∧ 0 ≤ (w32 (a4 + 5)) ∧ (w32 (a4 + 5)) < ln w1 a0 then
  if kd w1 a2 = 10 then
  bI (C 152 w1 [rV a2, iV (gv w1 a0 (w32 (a4 + 1))), iV (gv w1 a0 (w32 (a4 + 2))), iV (gv w1 a0 (w32 (a4 + 3))), iV (gv w1 a0 (w32 (a4 + 4))), iV (gv w1 a0 (w32 (a4 + 5)))]) (fun x4 w3 =>
  if x2 = x4 then
   (some (.inl (1946, [some (rV a0), some (rV a1), some (rV a2), some (rV a3), some (iV a4), none, none], [], w3)))
  else
  some (.inr (some (iV 0), w3))) else none else none else none else none else none else none) else none else none else none else none else none else none := by
  rfl
set_option maxRecDepth 100000 in
theorem eL_law_313 (C : sC) (w : sW) (a0 a1 a2 a3 a4 : Int) : sg C mL_law 2000 313 [some (rV a0), some (rV a1), some (rV a2), some (rV a3), some (iV a4), none, none] [] w =
  if kd w a0 = 20 ∧ 0 ≤ (w32 (a4 + 1)) ∧ (w32 (a4 + 1)) < ln w a0 then
  if kd w a1 = 9 then
  bI (C 98 w [rV a1, iV (gv w a0 (w32 (a4 + 1)))]) (fun x2 w1 =>
  if kd w1 a0 = 20 ∧ 0 ≤ (w32 (a4 + 1)) ∧ (w32 (a4 + 1)) < ln w1 a0 then
  if kd w1 a2 = 10 then
  bI (C 153 w1 [rV a2, iV (gv w1 a0 (w32 (a4 + 1)))]) (fun x4 w3 =>
  if x2 = x4 then
   (some (.inl (1946, [some (rV a0), some (rV a1), some (rV a2), some (rV a3), some (iV a4), none, none], [], w3)))
  else
  some (.inr (some (iV 0), w3))) else none else none) else none else none := by
  rfl
set_option maxRecDepth 100000 in
theorem eL_law_338 (C : sC) (w : sW) (a0 a1 a2 a3 a4 : Int) : sg C mL_law 2000 338 [some (rV a0), some (rV a1), some (rV a2), some (rV a3), some (iV a4), none, none] [] w =
  if kd w a1 = 9 then
  bI (C 99 w [rV a1]) (fun x2 w1 =>
  if kd w1 a2 = 10 then
  bI (C 178 w1 [rV a2]) (fun x4 w3 =>
  if x2 = x4 then
   (some (.inl (1946, [some (rV a0), some (rV a1), some (rV a2), some (rV a3), some (iV a4), none, none], [], w3)))
  else
  some (.inr (some (iV 0), w3))) else none) else none := by
  rfl
set_option maxRecDepth 100000 in
theorem eL_law_351 (C : sC) (w : sW) (a0 a1 a2 a3 a4 : Int) : sg C mL_law 2000 351 [some (rV a0), some (rV a1), some (rV a2), some (rV a3), some (iV a4), none, none] [] w =
  if kd w a1 = 9 then
  bI (C 102 w [rV a1]) (fun x2 w1 =>
  if kd w1 a2 = 10 then
  bI (C 179 w1 [rV a2]) (fun x4 w3 =>
  if x2 = x4 then
   (some (.inl (1946, [some (rV a0), some (rV a1), some (rV a2), some (rV a3), some (iV a4), none, none], [], w3)))
  else
  some (.inr (some (iV 0), w3))) else none) else none := by
  rfl
set_option maxRecDepth 100000 in
theorem eL_law_364 (C : sC) (w : sW) (a0 a1 a2 a3 a4 : Int) : sg C mL_law 2000 364 [some (rV a0), some (rV a1), some (rV a2), some (rV a3), some (iV a4), none, none] [] w =
  if kd w a0 = 20 ∧ 0 ≤ (w32 (a4 + 1)) ∧ (w32 (a4 + 1)) < ln w a0 then
  if kd w a1 = 9 then
  bI (C 103 w [rV a1, iV (gv w a0 (w32 (a4 + 1)))]) (fun x2 w1 =>
  if kd w1 a0 = 20 ∧ 0 ≤ (w32 (a4 + 1)) ∧ (w32 (a4 + 1)) < ln w1 a0 then
  if kd w1 a2 = 10 then
  bI (C 192 w1 [rV a2, iV (gv w1 a0 (w32 (a4 + 1)))]) (fun x4 w3 =>
  if x2 = x4 then
   (some (.inl (1946, [some (rV a0), some (rV a1), some (rV a2), some (rV a3), some (iV a4), none, none], [], w3)))
  else
  some (.inr (some (iV 0), w3))) else none else none) else none else none := by
  rfl
set_option maxRecDepth 100000 in
theorem eL_law_389 (C : sC) (w : sW) (a0 a1 a2 a3 a4 : Int) : sg C mL_law 2000 389 [some (rV a0), some (rV a1), some (rV a2), some (rV a3), some (iV a4), none, none] [] w =
  if kd w a0 = 20 ∧ 0 ≤ (w32 (a4 + 1)) ∧ (w32 (a4 + 1)) < ln w a0 then
  if kd w a0 = 20 ∧ 0 ≤ (w32 (a4 + 2)) ∧ (w32 (a4 + 2)) < ln w a0 then
  if kd w a1 = 9 then
  bI (C 104 w [rV a1, iV (gv w a0 (w32 (a4 + 1))), iV (gv w a0 (w32 (a4 + 2)))]) (fun x2 w1 =>
  if kd w1 a0 = 20 ∧ 0 ≤ (w32 (a4 + 1)) ∧ (w32 (a4 + 1)) < ln w1 a0 then
  if kd w1 a0 = 20 ∧ 0 ≤ (w32 (a4 + 2)) ∧ (w32 (a4 + 2)) < ln w1 a0 then
  if kd w1 a2 = 10 then
  bI (C 193 w1 [rV a2, iV (gv w1 a0 (w32 (a4 + 1))), iV (gv w1 a0 (w32 (a4 + 2)))]) (fun x4 w3 =>
  if x2 = x4 then
   (some (.inl (1946, [some (rV a0), some (rV a1), some (rV a2), some (rV a3), some (iV a4), none, none], [], w3)))
  else
  some (.inr (some (iV 0), w3))) else none else none else none) else none else none else none := by
  rfl
set_option maxRecDepth 100000 in
theorem eL_law_426 (C : sC) (w : sW) (a0 a1 a2 a3 a4 : Int) : sg C mL_law 2000 426 [some (rV a0), some (rV a1), some (rV a2), some (rV a3), some (iV a4), none, none] [] w =
  if kd w a0 = 20 ∧ 0 ≤ (w32 (a4 + 1)) ∧ (w32 (a4 + 1)) < ln w a0 then
  if kd w a0 = 20 ∧ 0 ≤ (w32 (a4 + 2)) ∧ (w32 (a4 + 2)) < ln w a0 then
  if kd w a0 = 20 ∧ 0 ≤ (w32 (a4 + 3)) ∧ (w32 (a4 + 3)) < ln w a0 then
  if kd w a1 = 9 then
  bI (C 105 w [rV a1, iV (gv w a0 (w32 (a4 + 1))), iV (gv w a0 (w32 (a4 + 2))), iV (gv w a0 (w32 (a4 + 3)))]) (fun x2 w1 =>
  if kd w1 a0 = 20 ∧ 0 ≤ (w32 (a4 + 1)) ∧ (w32 (a4 + 1)) < ln w1 a0 then
  if kd w1 a0 = 20 ∧ 0 ≤ (w32 (a4 + 2)) ∧ (w32 (a4 + 2)) < ln w1 a0 then
  if kd w1 a0 = 20 ∧ 0 ≤ (w32 (a4 + 3)) ∧ (w32 (a4 + 3)) < ln w1 a0 then
  if kd w1 a2 = 10 then
  bI (C 194 w1 [rV a2, iV (gv w1 a0 (w32 (a4 + 1))), iV (gv w1 a0 (w32 (a4 + 2))), iV (gv w1 a0 (w32 (a4 + 3)))]) (fun x4 w3 =>
  if x2 = x4 then
   (some (.inl (1946, [some (rV a0), some (rV a1), some (rV a2), some (rV a3), some (iV a4), none, none], [], w3)))
  else
  some (.inr (some (iV 0), w3))) else none else none else none else none) else none else none else none else none := by
  rfl
set_option maxRecDepth 100000 in
theorem eL_law_475 (C : sC) (w : sW) (a0 a1 a2 a3 a4 : Int) : sg C mL_law 2000 475 [some (rV a0), some (rV a1), some (rV a2), some (rV a3), some (iV a4), none, none] [] w =
  if kd w a0 = 20 ∧ 0 ≤ (w32 (a4 + 1)) ∧ (w32 (a4 + 1)) < ln w a0 then
  if kd w a0 = 20 ∧ 0 ≤ (w32 (a4 + 2)) ∧ (w32 (a4 + 2)) < ln w a0 then
  if kd w a0 = 20 ∧ 0 ≤ (w32 (a4 + 3)) ∧ (w32 (a4 + 3)) < ln w a0 then
  if kd w a1 = 9 then
  bI (C 107 w [rV a1, iV (gv w a0 (w32 (a4 + 1))), iV (gv w a0 (w32 (a4 + 2))), iV (gv w a0 (w32 (a4 + 3)))]) (fun x2 w1 =>
  if kd w1 a0 = 20 ∧ 0 ≤ (w32 (a4 + 1)) ∧ (w32 (a4 + 1)) < ln w1 a0 then
  if kd w1 a0 = 20 ∧ 0 ≤ (w32 (a4 + 2)) ∧ (w32 (a4 + 2)) < ln w1 a0 then
  if kd w1 a0 = 20 ∧ 0 ≤ (w32 (a4 + 3)) ∧ (w32 (a4 + 3)) < ln w1 a0 then
  if kd w1 a2 = 10 then
  bI (C 195 w1 [rV a2, iV (gv w1 a0 (w32 (a4 + 1))), iV (gv w1 a0 (w32 (a4 + 2))), iV (gv w1 a0 (w32 (a4 + 3)))]) (fun x4 w3 =>
  if x2 = x4 then
   (some (.inl (1946, [some (rV a0), some (rV a1), some (rV a2), some (rV a3), some (iV a4), none, none], [], w3)))
  else
  some (.inr (some (iV 0), w3))) else none else none else none else none) else none else none else none else none := by
  rfl
set_option maxRecDepth 100000 in
theorem eL_law_524 (C : sC) (w : sW) (a0 a1 a2 a3 a4 : Int) : sg C mL_law 2000 524 [some (rV a0), some (rV a1), some (rV a2), some (rV a3), some (iV a4), none, none] [] w =
  if kd w a0 = 20 ∧ 0 ≤ (w32 (a4 + 1)) ∧ (w32 (a4 + 1)) < ln w a0 then
  if kd w a0 = 20 ∧ 0 ≤ (w32 (a4 + 2)) ∧ (w32 (a4 + 2)) < ln w a0 then
  if kd w a0 = 20 ∧ 0 ≤ (w32 (a4 + 3)) ∧ (w32 (a4 + 3)) < ln w a0 then
  if kd w a1 = 9 then
  bI (C 108 w [rV a1, iV (gv w a0 (w32 (a4 + 1))), iV (gv w a0 (w32 (a4 + 2))), iV (gv w a0 (w32 (a4 + 3)))]) (fun x2 w1 =>
  if kd w1 a0 = 20 ∧ 0 ≤ (w32 (a4 + 1)) ∧ (w32 (a4 + 1)) < ln w1 a0 then
  if kd w1 a0 = 20 ∧ 0 ≤ (w32 (a4 + 2)) ∧ (w32 (a4 + 2)) < ln w1 a0 then
  if kd w1 a0 = 20 ∧ 0 ≤ (w32 (a4 + 3)) ∧ (w32 (a4 + 3)) < ln w1 a0 then
  if kd w1 a2 = 10 then
  bI (C 196 w1 [rV a2, iV (gv w1 a0 (w32 (a4 + 1))), iV (gv w1 a0 (w32 (a4 + 2))), iV (gv w1 a0 (w32 (a4 + 3)))]) (fun x4 w3 =>
  if x2 = x4 then
   (some (.inl (1946, [some (rV a0), some (rV a1), some (rV a2), some (rV a3), some (iV a4), none, none], [], w3)))
  else
  some (.inr (some (iV 0), w3))) else none else none else none else none) else none else none else none else none := by
  rfl
set_option maxRecDepth 100000 in
theorem eL_law_573 (C : sC) (w : sW) (a0 a1 a2 a3 a4 : Int) : sg C mL_law 2000 573 [some (rV a0), some (rV a1), some (rV a2), some (rV a3), some (iV a4), none, none] [] w =
  if kd w a0 = 20 ∧ 0 ≤ (w32 (a4 + 1)) ∧ (w32 (a4 + 1)) < ln w a0 then
  if kd w a1 = 9 then
  bI (C 109 w [rV a1, iV (gv w a0 (w32 (a4 + 1)))]) (fun x2 w1 =>
  if kd w1 a0 = 20 ∧ 0 ≤ (w32 (a4 + 1)) ∧ (w32 (a4 + 1)) < ln w1 a0 then
  if kd w1 a2 = 10 then
  bI (C 198 w1 [rV a2, iV (gv w1 a0 (w32 (a4 + 1)))]) (fun x4 w3 =>
  if x2 = x4 then
   (some (.inl (1946, [some (rV a0), some (rV a1), some (rV a2), some (rV a3), some (iV a4), none, none], [], w3)))
  else
  some (.inr (some (iV 0), w3))) else none else none) else none else none := by
  rfl
set_option maxRecDepth 100000 in
theorem eL_law_598 (C : sC) (w : sW) (a0 a1 a2 a3 a4 : Int) : sg C mL_law 2000 598 [some (rV a0), some (rV a1), some (rV a2), some (rV a3), some (iV a4), none, none] [] w =
  if kd w a0 = 20 ∧ 0 ≤ (w32 (a4 + 1)) ∧ (w32 (a4 + 1)) < ln w a0 then
  if kd w a0 = 20 ∧ 0 ≤ (w32 (a4 + 2)) ∧ (w32 (a4 + 2)) < ln w a0 then
  if kd w a1 = 9 then
  bI (C 110 w [rV a1, iV (gv w a0 (w32 (a4 + 1))), iV (gv w a0 (w32 (a4 + 2)))]) (fun x2 w1 =>
  if kd w1 a0 = 20 ∧ 0 ≤ (w32 (a4 + 1)) ∧ (w32 (a4 + 1)) < ln w1 a0 then
  if kd w1 a0 = 20 ∧ 0 ≤ (w32 (a4 + 2)) ∧ (w32 (a4 + 2)) < ln w1 a0 then
  if kd w1 a2 = 10 then
  bI (C 199 w1 [rV a2, iV (gv w1 a0 (w32 (a4 + 1))), iV (gv w1 a0 (w32 (a4 + 2)))]) (fun x4 w3 =>
  if x2 = x4 then
   (some (.inl (1946, [some (rV a0), some (rV a1), some (rV a2), some (rV a3), some (iV a4), none, none], [], w3)))
  else
  some (.inr (some (iV 0), w3))) else none else none else none) else none else none else none := by
  rfl
set_option maxRecDepth 100000 in
theorem eL_law_635 (C : sC) (w : sW) (a0 a1 a2 a3 a4 : Int) : sg C mL_law 2000 635 [some (rV a0), some (rV a1), some (rV a2), some (rV a3), some (iV a4), none, none] [] w =
  if kd w a0 = 20 ∧ 0 ≤ (w32 (a4 + 1)) ∧ (w32 (a4 + 1)) < ln w a0 then
  if kd w a0 = 20 ∧ 0 ≤ (w32 (a4 + 2)) ∧ (w32 (a4 + 2)) < ln w a0 then
  bI (C 279 w [rV a1, iV (gv w a0 (w32 (a4 + 1))), iV (gv w a0 (w32 (a4 + 2))), rV a3]) (fun x2 w1 =>
  if kd w1 a0 = 20 ∧ 0 ≤ (w32 (a4 + 1)) ∧ (w32 (a4 + 1)) < ln w1 a0 then
  if kd w1 a0 = 20 ∧ 0 ≤ (w32 (a4 + 2)) ∧ (w32 (a4 + 2)) < ln w1 a0 then
  if kd w1 a2 = 10 then
  bI (C 200 w1 [rV a2, iV (gv w1 a0 (w32 (a4 + 1))), iV (gv w1 a0 (w32 (a4 + 2)))]) (fun x4 w3 =>
  if kd w3 a2 = 10 then
  bI (C 149 w3 [rV a2]) (fun x6 w5 =>
  if x6 = x2 then
   (if x2 = 0 then
    (if kd w5 a3 = 22 ∧ 0 ≤ (0 : Int) ∧ (0 : Int) < ln w5 a3 then
    if (cmpL (gv w5 a3 0) x4) = 0 then
     (some (.inl (1946, [some (rV a0), some (rV a1), some (rV a2), some (rV a3), some (iV a4), none, none], [], w5)))
    else
    some (.inr (some (iV 0), w5)) else none)
   else
   some (.inl (1946, [some (rV a0), some (rV a1), some (rV a2), some (rV a3), some (iV a4), none, none], [], w5)))
  else
  some (.inr (some (iV 0), w5))) else none) else none else none else none) else none else none := by
  rfl
set_option maxRecDepth 100000 in
theorem eL_law_703 (C : sC) (w : sW) (a0 a1 a2 a3 a4 : Int) : sg C mL_law 2000 703 [some (rV a0), some (rV a1), some (rV a2), some (rV a3), some (iV a4), none, none] [] w =
  if kd w a0 = 20 ∧ 0 ≤ (w32 (a4 + 1)) ∧ (w32 (a4 + 1)) < ln w a0 then
  if kd w a1 = 9 then
  bI (C 112 w [rV a1, iV (gv w a0 (w32 (a4 + 1)))]) (fun x2 w1 =>
  if kd w1 a0 = 20 ∧ 0 ≤ (w32 (a4 + 1)) ∧ (w32 (a4 + 1)) < ln w1 a0 then
  if kd w1 a2 = 10 then
  bI (C 201 w1 [rV a2, iV (gv w1 a0 (w32 (a4 + 1)))]) (fun x4 w3 =>
  if x2 = x4 then
   (some (.inl (1946, [some (rV a0), some (rV a1), some (rV a2), some (rV a3), some (iV a4), none, none], [], w3)))
  else
  some (.inr (some (iV 0), w3))) else none else none) else none else none := by
  rfl
set_option maxRecDepth 100000 in
theorem eL_law_728 (C : sC) (w : sW) (a0 a1 a2 a3 a4 : Int) : sg C mL_law 2000 728 [some (rV a0), some (rV a1), some (rV a2), some (rV a3), some (iV a4), none, none] [] w =
  if kd w a0 = 20 ∧ 0 ≤ (w32 (a4 + 1)) ∧ (w32 (a4 + 1)) < ln w a0 then
  if kd w a0 = 20 ∧ 0 ≤ (w32 (a4 + 2)) ∧ (w32 (a4 + 2)) < ln w a0 then
  if kd w a0 = 20 ∧ 0 ≤ (w32 (a4 + 3)) ∧ (w32 (a4 + 3)) < ln w a0 then
  if kd w a1 = 9 then
  bI (C 113 w [rV a1, iV (gv w a0 (w32 (a4 + 1))), iV (gv w a0 (w32 (a4 + 2))), iV (gv w a0 (w32 (a4 + 3)))]) (fun x2 w1 =>
  if kd w1 a0 = 20 ∧ 0 ≤ (w32 (a4 + 1)) ∧ (w32 (a4 + 1)) < ln w1 a0 then
  if kd w1 a0 = 20 ∧ 0 ≤ (w32 (a4 + 2)) ∧ (w32 (a4 + 2)) < ln w1 a0 then
  if kd w1 a0 = 20 ∧ 0 ≤ (w32 (a4 + 3)) ∧ (w32 (a4 + 3)) < ln w1 a0 then
  if kd w1 a2 = 10 then
  bI (C 202 w1 [rV a2, iV (gv w1 a0 (w32 (a4 + 1))), iV (gv w1 a0 (w32 (a4 + 2))), iV (gv w1 a0 (w32 (a4 + 3)))]) (fun x4 w3 =>
  if x2 = x4 then
   (some (.inl (1946, [some (rV a0), some (rV a1), some (rV a2), some (rV a3), some (iV a4), none, none], [], w3)))
  else
  some (.inr (some (iV 0), w3))) else none else none else none else none) else none else none else none else none := by
  rfl
set_option maxRecDepth 100000 in
theorem eL_law_777 (C : sC) (w : sW) (a0 a1 a2 a3 a4 : Int) : sg C mL_law 2000 777 [some (rV a0), some (rV a1), some (rV a2), some (rV a3), some (iV a4), none, none] [] w =
  if kd w a0 = 20 ∧ 0 ≤ (w32 (a4 + 1)) ∧ (w32 (a4 + 1)) < ln w a0 then
  if kd w a0 = 20 ∧ 0 ≤ (w32 (a4 + 2)) ∧ (w32 (a4 + 2)) < ln w a0 then
  if kd w a1 = 9 then
  bI (C 114 w [rV a1, iV (gv w a0 (w32 (a4 + 1))), iV (gv w a0 (w32 (a4 + 2)))]) (fun x2 w1 =>
  if kd w1 a0 = 20 ∧ 0 ≤ (w32 (a4 + 1)) ∧ (w32 (a4 + 1)) < ln w1 a0 then
  if kd w1 a0 = 20 ∧ 0 ≤ (w32 (a4 + 2)) ∧ (w32 (a4 + 2)) < ln w1 a0 then
  if kd w1 a2 = 10 then
  bI (C 207 w1 [rV a2, iV (gv w1 a0 (w32 (a4 + 1))), iV (gv w1 a0 (w32 (a4 + 2)))]) (fun x4 w3 =>
  if x2 = x4 then
   (some (.inl (1946, [some (rV a0), some (rV a1), some (rV a2), some (rV a3), some (iV a4), none, none], [], w3)))
  else
  some (.inr (some (iV 0), w3))) else none else none else none) else none else none else none := by
  rfl
set_option maxRecDepth 100000 in
theorem eL_law_814 (C : sC) (w : sW) (a0 a1 a2 a3 a4 : Int) : sg C mL_law 2000 814 [some (rV a0), some (rV a1), some (rV a2), some (rV a3), some (iV a4), none, none] [] w =
  if kd w a0 = 20 ∧ 0 ≤ (w32 (a4 + 1)) ∧ (w32 (a4 + 1)) < ln w a0 then
  if kd w a0 = 20 ∧ 0 ≤ (w32 (a4 + 2)) ∧ (w32 (a4 + 2)) < ln w a0 then
  if kd w a0 = 20 ∧ 0 ≤ (w32 (a4 + 3)) ∧ (w32 (a4 + 3)) < ln w a0 then
  bI (C 280 w [rV a1, iV (gv w a0 (w32 (a4 + 1))), iV (gv w a0 (w32 (a4 + 2))), iV (gv w a0 (w32 (a4 + 3))), rV a3]) (fun x2 w1 =>
  if kd w1 a0 = 20 ∧ 0 ≤ (w32 (a4 + 1)) ∧ (w32 (a4 + 1)) < ln w1 a0 then
  if kd w1 a0 = 20 ∧ 0 ≤ (w32 (a4 + 2)) ∧ (w32 (a4 + 2)) < ln w1 a0 then
  if kd w1 a0 = 20 ∧ 0 ≤ (w32 (a4 + 3)) ∧ (w32 (a4 + 3)) < ln w1 a0 then
  if kd w1 a2 = 10 then
  bI (C 211 w1 [rV a2, iV (gv w1 a0 (w32 (a4 + 1))), iV (gv w1 a0 (w32 (a4 + 2))), iV (gv w1 a0 (w32 (a4 + 3)))]) (fun x4 w3 =>
  if kd w3 a2 = 10 then
  bI (C 149 w3 [rV a2]) (fun x6 w5 =>
  if x6 = x2 then
   (if x2 = 0 then
    (if kd w5 a3 = 22 ∧ 0 ≤ (0 : Int) ∧ (0 : Int) < ln w5 a3 then
    if (cmpL (gv w5 a3 0) x4) = 0 then
     (some (.inl (1946, [some (rV a0), some (rV a1), some (rV a2), some (rV a3), some (iV a4), none, none], [], w5)))
    else
    some (.inr (some (iV 0), w5)) else none)
   else
   some (.inl (1946, [some (rV a0), some (rV a1), some (rV a2), some (rV a3), some (iV a4), none, none], [], w5)))
  else
  some (.inr (some (iV 0), w5))) else none) else none else none else none else none) else none else none else none := by
  rfl
set_option maxRecDepth 100000 in
theorem eL_law_894 (C : sC) (w : sW) (a0 a1 a2 a3 a4 : Int) : sg C mL_law 2000 894 [some (rV a0), some (rV a1), some (rV a2), some (rV a3), some (iV a4), none, none] [] w =
  if kd w a0 = 20 ∧ 0 ≤ (w32 (a4 + 1)) ∧ (w32 (a4 + 1)) < ln w a0 then
  bI (C 281 w [rV a1, iV (gv w a0 (w32 (a4 + 1))), rV a3]) (fun x2 w1 =>
  if kd w1 a0 = 20 ∧ 0 ≤ (w32 (a4 + 1)) ∧ (w32 (a4 + 1)) < ln w1 a0 then
  if kd w1 a2 = 10 then
  bI (C 212 w1 [rV a2, iV (gv w1 a0 (w32 (a4 + 1)))]) (fun x4 w3 =>
  if kd w3 a2 = 10 then
  bI (C 149 w3 [rV a2]) (fun x6 w5 =>
  if x6 = x2 then
   (if x2 = 0 then
    (if kd w5 a3 = 22 ∧ 0 ≤ (0 : Int) ∧ (0 : Int) < ln w5 a3 then
    if (cmpL (gv w5 a3 0) x4) = 0 then
     (some (.inl (1946, [some (rV a0), some (rV a1), some (rV a2), some (rV a3), some (iV a4), none, none], [], w5)))
    else
    some (.inr (some (iV 0), w5)) else none)
   else
   some (.inl (1946, [some (rV a0), some (rV a1), some (rV a2), some (rV a3), some (iV a4), none, none], [], w5)))
  else
  some (.inr (some (iV 0), w5))) else none) else none else none) else none := by
  rfl
set_option maxRecDepth 100000 in
theorem eL_law_950 (C : sC) (w : sW) (a0 a1 a2 a3 a4 : Int) : sg C mL_law 2000 950 [some (rV a0), some (rV a1), some (rV a2), some (rV a3), some (iV a4), none, none] [] w =
  if kd w a0 = 20 ∧ 0 ≤ (w32 (a4 + 1)) ∧ (w32 (a4 + 1)) < ln w a0 then
  if kd w a0 = 20 ∧ 0 ≤ (w32 (a4 + 2)) ∧ (w32 (a4 + 2)) < ln w a0 then
  bI (C 282 w [rV a1, iV (gv w a0 (w32 (a4 + 1))), iV (gv w a0 (w32 (a4 + 2))), rV a3]) (fun x2 w1 =>
  if kd w1 a0 = 20 ∧ 0 ≤ (w32 (a4 + 1)) ∧ (w32 (a4 + 1)) < ln w1 a0 then
  if kd w1 a0 = 20 ∧ 0 ≤ (w32 (a4 + 2)) ∧ (w32 (a4 + 2)) < ln w1 a0 then
  if kd w1 a2 = 10 then
  bI (C 213 w1 [rV a2, iV (gv w1 a0 (w32 (a4 + 1))), iV (gv w1 a0 (w32 (a4 + 2)))]) (fun x4 w3 =>
  if kd w3 a2 = 10 then
  bI (C 149 w3 [rV a2]) (fun x6 w5 =>
  if x6 = x2 then
   (if x2 = 0 then
    (if kd w5 a3 = 22 ∧ 0 ≤ (0 : Int) ∧ (0 : Int) < ln w5 a3 then
    if (cmpL (gv w5 a3 0) x4) = 0 then
     (some (.inl (1946, [some (rV a0), some (rV a1), some (rV a2), some (rV a3), some (iV a4), none, none], [], w5)))
    else
    some (.inr (some (iV 0), w5)) else none)
   else
   some (.inl (1946, [some (rV a0), some (rV a1), some (rV a2), some (rV a3), some (iV a4), none, none], [], w5)))
  else
  some (.inr (some (iV 0), w5))) else none) else none else none else none) else none else none := by
  rfl
set_option maxRecDepth 100000 in
theorem eL_law_1018 (C : sC) (w : sW) (a0 a1 a2 a3 a4 : Int) : sg C mL_law 2000 1018 [some (rV a0), some (rV a1), some (rV a2), some (rV a3), some (iV a4), none, none] [] w =
  if kd w a0 = 20 ∧ 0 ≤ (w32 (a4 + 1)) ∧ (w32 (a4 + 1)) < ln w a0 then
  if kd w a0 = 20 ∧ 0 ≤ (w32 (a4 + 2)) ∧ (w32 (a4 + 2)) < ln w a0 then
  if kd w a1 = 9 then
  bI (C 118 w [rV a1, iV (gv w a0 (w32 (a4 + 1))), iV (gv w a0 (w32 (a4 + 2)))]) (fun x2 w1 =>
  if kd w1 a0 = 20 ∧ 0 ≤ (w32 (a4 + 1)) ∧ (w32 (a4 + 1)) < ln w1 a0 then
  if kd w1 a0 = 20 ∧ 0 ≤ (w32 (a4 + 2)) ∧ (w32 (a4 + 2)) < ln w1 a0 then
  if kd w1 a2 = 10 then
  bI (C 215 w1 [rV a2, iV (gv w1 a0 (w32 (a4 + 1))), iV (gv w1 a0 (w32 (a4 + 2)))]) (fun x4 w3 =>
  if x2 = x4 then
   (some (.inl (1946, [some (rV a0), some (rV a1), some (rV a2), some (rV a3), some (iV a4), none, none], [], w3)))
  else
  some (.inr (some (iV 0), w3))) else none else none else none) else none else none else none := by
  rfl
set_option maxRecDepth 100000 in
theorem eL_law_1055 (C : sC) (w : sW) (a0 a1 a2 a3 a4 : Int) : sg C mL_law 2000 1055 [some (rV a0), some (rV a1), some (rV a2), some (rV a3), some (iV a4), none, none] [] w =
  if kd w a0 = 20 ∧ 0 ≤ (w32 (a4 + 1)) ∧ (w32 (a4 + 1)) < ln w a0 then
  if kd w a0 = 20 ∧ 0 ≤ (w32 (a4 + 2)) ∧ (w32 (a4 + 2)) < ln w a0 then
  if kd w a1 = 9 then
  bI (C 119 w [rV a1, iV (gv w a0 (w32 (a4 + 1))), iV (gv w a0 (w32 (a4 + 2)))]) (fun x2 w1 =>
  if kd w1 a0 = 20 ∧ 0 ≤ (w32 (a4 + 1)) ∧ (w32 (a4 + 1)) < ln w1 a0 then
  if kd w1 a0 = 20 ∧ 0 ≤ (w32 (a4 + 2)) ∧ (w32 (a4 + 2)) < ln w1 a0 then
  if kd w1 a2 = 10 then
  bI (C 217 w1 [rV a2, iV (gv w1 a0 (w32 (a4 + 1))), iV (gv w1 a0 (w32 (a4 + 2)))]) (fun x4 w3 =>
  if x2 = x4 then
   (some (.inl (1946, [some (rV a0), some (rV a1), some (rV a2), some (rV a3), some (iV a4), none, none], [], w3)))
  else
  some (.inr (some (iV 0), w3))) else none else none else none) else none else none else none := by
  rfl
set_option maxRecDepth 100000 in
theorem eL_law_1092 (C : sC) (w : sW) (a0 a1 a2 a3 a4 : Int) : sg C mL_law 2000 1092 [some (rV a0), some (rV a1), some (rV a2), some (rV a3), some (iV a4), none, none] [] w =
  if kd w a0 = 20 ∧ 0 ≤ (w32 (a4 + 1)) ∧ (w32 (a4 + 1)) < ln w a0 then
  if kd w a1 = 9 then
  bI (C 120 w [rV a1, iV (gv w a0 (w32 (a4 + 1)))]) (fun x2 w1 =>
  if kd w1 a0 = 20 ∧ 0 ≤ (w32 (a4 + 1)) ∧ (w32 (a4 + 1)) < ln w1 a0 then
  if kd w1 a2 = 10 then
  bI (C 220 w1 [rV a2, iV (gv w1 a0 (w32 (a4 + 1)))]) (fun x4 w3 =>
  if x2 = x4 then
   (some (.inl (1946, [some (rV a0), some (rV a1), some (rV a2), some (rV a3), some (iV a4), none, none], [], w3)))
  else
  some (.inr (some (iV 0), w3))) else none else none) else none else none := by
  rfl
set_option maxRecDepth 100000 in
theorem eL_law_1117 (C : sC) (w : sW) (a0 a1 a2 a3 a4 : Int) : sg C mL_law 2000 1117 [some (rV a0), some (rV a1), some (rV a2), some (rV a3), some (iV a4), none, none] [] w =
  if kd w a0 = 20 ∧ 0 ≤ (w32 (a4 + 1)) ∧ (w32 (a4 + 1)) < ln w a0 then
  if kd w a1 = 9 then
  bI (C 122 w [rV a1, iV (gv w a0 (w32 (a4 + 1)))]) (fun x2 w1 =>
  if kd w1 a0 = 20 ∧ 0 ≤ (w32 (a4 + 1)) ∧ (w32 (a4 + 1)) < ln w1 a0 then
  if kd w1 a2 = 10 then
  bI (C 221 w1 [rV a2, iV (gv w1 a0 (w32 (a4 + 1)))]) (fun x4 w3 =>
  if x2 = x4 then
   (some (.inl (1946, [some (rV a0), some (rV a1), some (rV a2), some (rV a3), some (iV a4), none, none], [], w3)))
  else
  some (.inr (some (iV 0), w3))) else none else none) else none else none := by
  rfl
set_option maxRecDepth 100000 in
theorem eL_law_1142 (C : sC) (w : sW) (a0 a1 a2 a3 a4 : Int) : sg C mL_law 2000 1142 [some (rV a0), some (rV a1), some (rV a2), some (rV a3), some (iV a4), none, none] [] w =
  if kd w a0 = 20 ∧ 0 ≤ (w32 (a4 + 1)) ∧ (w32 (a4 + 1)) < ln w a0 then
  if kd w a0 = 20 ∧ 0 ≤ (w32 (a4 + 2)) ∧ (w32 (a4 + 2)) < ln w a0 then
  if kd w a0 = 20 ∧ 0 ≤ (w32 (a4 + 3)) ∧ (w32 (a4 + 3)) < ln w a0 then
  if kd w a1 = 9 then
  bI (C 123 w [rV a1, iV (gv w a0 (w32 (a4 + 1))), iV (gv w a0 (w32 (a4 + 2))), iV (gv w a0 (w32 (a4 + 3)))]) (fun x2 w1 =>
  if kd w1 a0 = 20 ∧ 0 ≤ (w32 (a4 + 1)) ∧ (w32 (a4 + 1)) < ln w1 a0 then
  if kd w1 a0 = 20 ∧ 0 ≤ (w32 (a4 + 2)) ∧ (w32 (a4 + 2)) < ln w1 a0 then
  if kd w1 a0 = 20 ∧ 0 ≤ (w32 (a4 + 3)) ∧ (w32 (a4 + 3)) < ln w1 a0 then
  if kd w1 a2 = 10 then
  bI (C 239 w1 [rV a2, iV (gv w1 a0 (w32 (a4 + 1))), iV (gv w1 a0 (w32 (a4 + 2))), iV (gv w1 a0 (w32 (a4 + 3)))]) (fun x4 w3 =>
  if x2 = x4 then
   (some (.inl (1946, [some (rV a0), some (rV a1), some (rV a2), some (rV a3), some (iV a4), none, none], [], w3)))
  else
  some (.inr (some (iV 0), w3))) else none else none else none else none) else none else none else none else none := by
  rfl
set_option maxRecDepth 100000 in
theorem eL_law_1191 (C : sC) (w : sW) (a0 a1 a2 a3 a4 : Int) : sg C mL_law 2000 1191 [some (rV a0), some (rV a1), some (rV a2), some (rV a3), some (iV a4), none, none] [] w =
  if kd w a0 = 20 ∧ 0 ≤ (w32 (a4 + 1)) ∧ (w32 (a4 + 1)) < ln w a0 then
  if kd w a0 = 20 ∧ 0 ≤ (w32 (a4 + 2)) ∧ (w32 (a4 + 2)) < ln w a0 then
  if kd w a0 = 20 ∧ 0 ≤ (w32 (a4 + 3)) ∧ (w32 (a4 + 3)) < ln w a0 then
  if kd w a1 = 9 then
  bI (C 125 w [rV a1, iV (gv w a0 (w32 (a4 + 1))), iV (gv w a0 (w32 (a4 + 2))), iV (gv w a0 (w32 (a4 + 3)))]) (fun x2 w1 =>
  if kd w1 a0 = 20 ∧ 0 ≤ (w32 (a4 + 1)) ∧ (w32 (a4 + 1)) < ln w1 a0 then
  if kd w1 a0 = 20 ∧ 0 ≤ (w32 (a4 + 2)) ∧ (w32 (a4 + 2)) < ln w1 a0 then
  if kd w1 a0 = 20 ∧ 0 ≤ (w32 (a4 + 3)) ∧ (w32 (a4 + 3)) < ln w1 a0 then
  if kd w1 a2 = 10 then
  bI (C 240 w1 [rV a2, iV (gv w1 a0 (w32 (a4 + 1))), iV (gv w1 a0 (w32 (a4 + 2))), iV (gv w1 a0 (w32 (a4 + 3)))]) (fun x4 w3 =>
  if x2 = x4 then
   (some (.inl (1946, [some (rV a0), some (rV a1), some (rV a2), some (rV a3), some (iV a4), none, none], [], w3)))
  else
  some (.inr (some (iV 0), w3))) else none else none else none else none) else none else none else none else none := by
  rfl
set_option maxRecDepth 100000 in
theorem eL_law_1240 (C : sC) (w : sW) (a0 a1 a2 a3 a4 : Int) : sg C mL_law 2000 1240 [some (rV a0), some (rV a1), some (rV a2), some (rV a3), some (iV a4), none, none] [] w =
  if kd w a0 = 20 ∧ 0 ≤ (w32 (a4 + 1)) ∧ (w32 (a4 + 1)) < ln w a0 then
  if kd w a0 = 20 ∧ 0 ≤ (w32 (a4 + 2)) ∧ (w32 (a4 + 2)) < ln w a0 then
  if kd w a0 = 20 ∧ 0 ≤ (w32 (a4 + 3)) ∧ (w32 (a4 + 3)) < ln w a0 then
  if kd w a1 = 9 then
  bI (C 126 w [rV a1, iV (gv w a0 (w32 (a4 + 1))), iV (gv w a0 (w32 (a4 + 2))), iV (gv w a0 (w32 (a4 + 3)))]) (fun x2 w1 =>
  if kd w1 a0 = 20 ∧ 0 ≤ (w32 (a4 + 1)) ∧ (w32 (a4 + 1)) < ln w1 a0 then
  if kd w1 a0 = 20 ∧ 0 ≤ (w32 (a4 + 2)) ∧ (w32 (a4 + 2)) < ln w1 a0 then
  if kd w1 a0 = 20 ∧ 0 ≤ (w32 (a4 + 3)) ∧ (w32 (a4 + 3)) < ln w1 a0 then
  if kd w1 a2 = 10 then
  bI (C 241 w1 [rV a2, iV (gv w1 a0 (w32 (a4 + 1))), iV (gv w1 a0 (w32 (a4 + 2))), iV (gv w1 a0 (w32 (a4 + 3)))]) (fun x4 w3 =>
  if x2 = x4 then
   (some (.inl (1946, [some (rV a0), some (rV a1), some (rV a2), some (rV a3), some (iV a4), none, none], [], w3)))
  else
  some (.inr (some (iV 0), w3))) else none else none else none else none) else none else none else none else none := by
  rfl
set_option maxRecDepth 100000 in
theorem eL_law_1289 (C : sC) (w : sW) (a0 a1 a2 a3 a4 : Int) : sg C mL_law 2000 1289 [some (rV a0), some (rV a1), some (rV a2), some (rV a3), some (iV a4), none, none] [] w =
  if kd w a0 = 20 ∧ 0 ≤ (w32 (a4 + 1)) ∧ (w32 (a4 + 1)) < ln w a0 then
  if kd w a0 = 20 ∧ 0 ≤ (w32 (a4 + 2)) ∧ (w32 (a4 + 2)) < ln w a0 then
  if kd w a0 = 20 ∧ 0 ≤ (w32 (a4 + 3)) ∧ (w32 (a4 + 3)) < ln w a0 then
  if kd w a1 = 9 then
  bI (C 127 w [rV a1, iV (gv w a0 (w32 (a4 + 1))), iV (gv w a0 (w32 (a4 + 2))), iV (gv w a0 (w32 (a4 + 3)))]) (fun x2 w1 =>
  if kd w1 a0 = 20 ∧ 0 ≤ (w32 (a4 + 1)) ∧ (w32 (a4 + 1)) < ln w1 a0 then
  if kd w1 a0 = 20 ∧ 0 ≤ (w32 (a4 + 2)) ∧ (w32 (a4 + 2)) < ln w1 a0 then
  if kd w1 a0 = 20 ∧ 0 ≤ (w32 (a4 + 3)) ∧ (w32 (a4 + 3)) < ln w1 a0 then
  if kd w1 a2 = 10 then
  bI (C 242 w1 [rV a2, iV (gv w1 a0 (w32 (a4 + 1))), iV (gv w1 a0 (w32 (a4 + 2))), iV (gv w1 a0 (w32 (a4 + 3)))]) (fun x4 w3 =>
  if x2 = x4 then
   (some (.inl (1946, [some (rV a0), some (rV a1), some (rV a2), some (rV a3), some (iV a4), none, none], [], w3)))
  else
  some (.inr (some (iV 0), w3))) else none else none else none else none) else none else none else none else none := by
  rfl
set_option maxRecDepth 100000 in
theorem eL_law_1338 (C : sC) (w : sW) (a0 a1 a2 a3 a4 : Int) : sg C mL_law 2000 1338 [some (rV a0), some (rV a1), some (rV a2), some (rV a3), some (iV a4), none, none] [] w =
  if kd w a0 = 20 ∧ 0 ≤ (w32 (a4 + 1)) ∧ (w32 (a4 + 1)) < ln w a0 then
  if kd w a0 = 20 ∧ 0 ≤ (w32 (a4 + 2)) ∧ (w32 (a4 + 2)) < ln w a0 then
  if kd w a1 = 9 then
  bI (C 128 w [rV a1, iV (gv w a0 (w32 (a4 + 1))), iV (gv w a0 (w32 (a4 + 2)))]) (fun x2 w1 =>
  if kd w1 a0 = 20 ∧ 0 ≤ (w32 (a4 + 1)) ∧ (w32 (a4 + 1)) < ln w1 a0 then
  if kd w1 a0 = 20 ∧ 0 ≤ (w32 (a4 + 2)) ∧ (w32 (a4 + 2)) < ln w1 a0 then
  if kd w1 a2 = 10 then
  bI (C 243 w1 [rV a2, iV (gv w1 a0 (w32 (a4 + 1))), iV (gv w1 a0 (w32 (a4 + 2)))]) (fun x4 w3 =>
  if x2 = x4 then
   (some (.inl (1946, [some (rV a0), some (rV a1), some (rV a2), some (rV a3), some (iV a4), none, none], [], w3)))
  else
  some (.inr (some (iV 0), w3))) else none else none else none) else none else none else none := by
  rfl
set_option maxRecDepth 100000 in
theorem eL_law_1375 (C : sC) (w : sW) (a0 a1 a2 a3 a4 : Int) : sg C mL_law 2000 1375 [some (rV a0), some (rV a1), some (rV a2), some (rV a3), some (iV a4), none, none] [] w =
  if kd w a0 = 20 ∧ 0 ≤ (w32 (a4 + 1)) ∧ (w32 (a4 + 1)) < ln w a0 then
  if kd w a0 = 20 ∧ 0 ≤ (w32 (a4 + 2)) ∧ (w32 (a4 + 2)) < ln w a0 then
  if kd w a1 = 9 then
  bI (C 129 w [rV a1, iV (gv w a0 (w32 (a4 + 1))), iV (gv w a0 (w32 (a4 + 2)))]) (fun x2 w1 =>
  if kd w1 a0 = 20 ∧ 0 ≤ (w32 (a4 + 1)) ∧ (w32 (a4 + 1)) < ln w1 a0 then
  if kd w1 a0 = 20 ∧ 0 ≤ (w32 (a4 + 2)) ∧ (w32 (a4 + 2)) < ln w1 a0 then
  if kd w1 a2 = 10 then
  bI (C 245 w1 [rV a2, iV (gv w1 a0 (w32 (a4 + 1))), iV (gv w1 a0 (w32 (a4 + 2)))]) (fun x4 w3 =>
  if x2 = x4 then
   (some (.inl (1946, [some (rV a0), some (rV a1), some (rV a2), some (rV a3), some (iV a4), none, none], [], w3)))
  else
  some (.inr (some (iV 0), w3))) else none else none else none) else none else none else none := by
  rfl
set_option maxRecDepth 100000 in
theorem eL_law_1412 (C : sC) (w : sW) (a0 a1 a2 a3 a4 : Int) : sg C mL_law 2000 1412 [some (rV a0), some (rV a1), some (rV a2), some (rV a3), some (iV a4), none, none] [] w =
  if kd w a0 = 20 ∧ 0 ≤ (w32 (a4 + 1)) ∧ (w32 (a4 + 1)) < ln w a0 then
  if kd w a0 = 20 ∧ 0 ≤ (w32 (a4 + 2)) ∧ (w32 (a4 + 2)) < ln w a0 then
  if kd w a0 = 20 ∧ 0 ≤ (w32 (a4 + 3)) ∧ (w32 (a4 + 3)) < ln w a0 then
  if kd w a1 = 9 then
  bI (C 130 w [rV a1, iV (gv w a0 (w32 (a4 + 1))), iV (gv w a0 (w32 (a4 + 2))), iV (gv w a0 (w32 (a4 + 3)))]) (fun x2 w1 =>
  if kd w1 a0 = 20 ∧ 0 ≤ (w32 (a4 + 1)) ∧ (w32 (a4 + 1)) < ln w1 a0 then
  if kd w1 a0 = 20 ∧ 0 ≤ (w32 (a4 + 2)) ∧ (w32 (a4 + 2)) < ln w1 a0 then
  if kd w1 a0 = 20 ∧ 0 ≤ (w32 (a4 + 3)) ∧ (w32 (a4 + 3)) < ln w1 a0 then
  if kd w1 a2 = 10 then
  bI (C 246 w1 [rV a2, iV (gv w1 a0 (w32 (a4 + 1))), iV (gv w1 a0 (w32 (a4 + 2))), iV (gv w1 a0 (w32 (a4 + 3)))]) (fun x4 w3 =>
  if x2 = x4 then
   (some (.inl (1946, [some (rV a0), some (rV a1), some (rV a2), some (rV a3), some (iV a4), none, none], [], w3)))
  else
  some (.inr (some (iV 0), w3))) else none else none else none else none) else none else none else none else none := by
  rfl
set_option maxRecDepth 100000 in
theorem eL_law_1461 (C : sC) (w : sW) (a0 a1 a2 a3 a4 : Int) : sg C mL_law 2000 1461 [some (rV a0), some (rV a1), some (rV a2), some (rV a3), some (iV a4), none, none] [] w =
  if kd w a1 = 9 then
  bI (C 131 w [rV a1]) (fun x2 w1 =>
  if kd w1 a2 = 10 then
  bI (C 223 w1 [rV a2]) (fun x4 w3 =>
  if x2 = x4 then
   (some (.inl (1946, [some (rV a0), some (rV a1), some (rV a2), some (rV a3), some (iV a4), none, none], [], w3)))
  else
  some (.inr (some (iV 0), w3))) else none) else none := by
  rfl
set_option maxRecDepth 100000 in
theorem eL_law_1474 (C : sC) (w : sW) (a0 a1 a2 a3 a4 : Int) : sg C mL_law 2000 1474 [some (rV a0), some (rV a1), some (rV a2), some (rV a3), some (iV a4), none, none] [] w =
  if kd w a0 = 20 ∧ 0 ≤ (w32 (a4 + 1)) ∧ (w32 (a4 + 1)) < ln w a0 then
  if kd w a1 = 9 then
  bI (C 132 w [rV a1, iV (gv w a0 (w32 (a4 + 1)))]) (fun x2 w1 =>
  if kd w1 a0 = 20 ∧ 0 ≤ (w32 (a4 + 1)) ∧ (w32 (a4 + 1)) < ln w1 a0 then
  if kd w1 a2 = 10 then
  bI (C 224 w1 [rV a2, iV (gv w1 a0 (w32 (a4 + 1)))]) (fun x4 w3 =>
  if x2 = x4 then
   (some (.inl (1946, [some (rV a0), some (rV a1), some (rV a2), some (rV a3), some (iV a4), none, none], [], w3)))
  else
  some (.inr (some (iV 0), w3))) else none else none) else none else none := by
  rfl
set_option maxRecDepth 100000 in
theorem eL_law_1499 (C : sC) (w : sW) (a0 a1 a2 a3 a4 : Int) : sg C mL_law 2000 1499 [some (rV a0), some (rV a1), some (rV a2), some (rV a3), some (iV a4), none, none] [] w =
  if kd w a0 = 20 ∧ 0 ≤ (w32 (a4 + 1)) ∧ (w32 (a4 + 1)) < ln w a0 then
  if kd w a0 = 20 ∧ 0 ≤ (w32 (a4 + 2)) ∧ (w32 (a4 + 2)) < ln w a0 then
  if kd w a1 = 9 then
  bI (C 133 w [rV a1, iV (gv w a0 (w32 (a4 + 1))), iV (gv w a0 (w32 (a4 + 2)))]) (fun x2 w1 =>
  if kd w1 a0 = 20 ∧ 0 ≤ (w32 (a4 + 1)) ∧ (w32 (a4 + 1)) < ln w1 a0 then
  if kd w1 a0 = 20 ∧ 0 ≤ (w32 (a4 + 2)) ∧ (w32 (a4 + 2)) < ln w1 a0 then
  if kd w1 a2 = 10 then
  bI (C 225 w1 [rV a2, iV (gv w1 a0 (w32 (a4 + 1))), iV (gv w1 a0 (w32 (a4 + 2)))]) (fun x4 w3 =>
  if x2 = x4 then
   (some (.inl (1946, [some (rV a0), some (rV a1), some (rV a2), some (rV a3), some (iV a4), none, none], [], w3)))
  else
  some (.inr (some (iV 0), w3))) else none else none else none) else none else none else none := by
  rfl
set_option maxRecDepth 100000 in
theorem eL_law_1536 (C : sC) (w : sW) (a0 a1 a2 a3 a4 : Int) : sg C mL_law 2000 1536 [some (rV a0), some (rV a1), some (rV a2), some (rV a3), some (iV a4), none, none] [] w =
  if kd w a0 = 20 ∧ 0 ≤ (w32 (a4 + 1)) ∧ (w32 (a4 + 1)) < ln w a0 then
  if kd w a0 = 20 ∧ 0 ≤ (w32 (a4 + 2)) ∧ (w32 (a4 + 2)) < ln w a0 then
  if kd w a1 = 9 then
  bI (C 135 w [rV a1, iV (gv w a0 (w32 (a4 + 1))), iV (gv w a0 (w32 (a4 + 2)))]) (fun x2 w1 =>
  if kd w1 a0 = 20 ∧ 0 ≤ (w32 (a4 + 1)) ∧ (w32 (a4 + 1)) < ln w1 a0 then
  if kd w1 a0 = 20 ∧ 0 ≤ (w32 (a4 + 2)) ∧ (w32 (a4 + 2)) < ln w1 a0 then
  if kd w1 a2 = 10 then
  bI (C 226 w1 [rV a2, iV (gv w1 a0 (w32 (a4 + 1))), iV (gv w1 a0 (w32 (a4 + 2)))]) (fun x4 w3 =>
  if x2 = x4 then
   (some (.inl (1946, [some (rV a0), some (rV a1), some (rV a2), some (rV a3), some (iV a4), none, none], [], w3)))
  else
  some (.inr (some (iV 0), w3))) else none else none else none) else none else none else none := by
  rfl
set_option maxRecDepth 100000 in
theorem eL_law_1573 (C : sC) (w : sW) (a0 a1 a2 a3 a4 : Int) : sg C mL_law 2000 1573 [some (rV a0), some (rV a1), some (rV a2), some (rV a3), some (iV a4), none, none] [] w =
  if kd w a0 = 20 ∧ 0 ≤ (w32 (a4 + 1)) ∧ (w32 (a4 + 1)) < ln w a0 then
  if kd w a0 = 20 ∧ 0 ≤ (w32 (a4 + 2)) ∧ (w32 (a4 + 2)) < ln w a0 then
  if kd w a0 = 20 ∧ 0 ≤ (w32 (a4 + 3)) ∧ (w32 (a4 + 3)) < ln w a0 then
  if kd w a1 = 9 then
  bI (C 136 w [rV a1, iV (gv w a0 (w32 (a4 + 1))), iV (gv w a0 (w32 (a4 + 2))), iV (gv w a0 (w32 (a4 + 3)))]) (fun x2 w1 =>
  if kd w1 a0 = 20 ∧ 0 ≤ (w32 (a4 + 1)) ∧ (w32 (a4 + 1)) < ln w1 a0 then
  if kd w1 a0 = 20 ∧ 0 ≤ (w32 (a4 + 2)) ∧ (w32 (a4 + 2)) < ln w1 a0 then
  if kd w1 a0 = 20 ∧ 0 ≤ (w32 (a4 + 3)) ∧ (w32 (a4 + 3)) < ln w1 a0 then
  if kd w1 a2 = 10 then
  bI (C 227 w1 [rV a2, iV (gv w1 a0 (w32 (a4 + 1))), iV (gv w1 a0 (w32 (a4 + 2))), iV (gv w1 a0 (w32 (a4 + 3)))]) (fun x4 w3 =>
  if x2 = x4 then
   (some (.inl (1946, [some (rV a0), some (rV a1), some (rV a2), some (rV a3), some (iV a4), none, none], [], w3)))
  else
  some (.inr (some (iV 0), w3))) else none else none else none else none) else none else none else none else none := by
  rfl
set_option maxRecDepth 100000 in
theorem eL_law_1622 (C : sC) (w : sW) (a0 a1 a2 a3 a4 : Int) : sg C mL_law 2000 1622 [some (rV a0), some (rV a1), some (rV a2), some (rV a3), some (iV a4), none, none] [] w =
  if kd w a0 = 20 ∧ 0 ≤ (w32 (a4 + 1)) ∧ (w32 (a4 + 1)) < ln w a0 then
  if kd w a0 = 20 ∧ 0 ≤ (w32 (a4 + 2)) ∧ (w32 (a4 + 2)) < ln w a0 then
  if kd w a1 = 9 then
  bI (C 137 w [rV a1, iV (gv w a0 (w32 (a4 + 1))), iV (gv w a0 (w32 (a4 + 2)))]) (fun x2 w1 =>
  if kd w1 a0 = 20 ∧ 0 ≤ (w32 (a4 + 1)) ∧ (w32 (a4 + 1)) < ln w1 a0 then
  if kd w1 a0 = 20 ∧ 0 ≤ (w32 (a4 + 2)) ∧ (w32 (a4 + 2)) < ln w1 a0 then
  if kd w1 a2 = 10 then
  bI (C 229 w1 [rV a2, iV (gv w1 a0 (w32 (a4 + 1))), iV (gv w1 a0 (w32 (a4 + 2)))]) (fun x4 w3 =>
  if x2 = x4 then
   (some (.inl (1946, [some (rV a0), some (rV a1), some (rV a2), some (rV a3), some (iV a4), none, none], [], w3)))
  else
  some (.inr (some (iV 0), w3))) else none else none else none) else none else none else none := by
  rfl
set_option maxRecDepth 100000 in
theorem eL_law_1659 (C : sC) (w : sW) (a0 a1 a2 a3 a4 : Int) : sg C mL_law 2000 1659 [some (rV a0), some (rV a1), some (rV a2), some (rV a3), some (iV a4), none, none] [] w =
  if kd w a0 = 20 ∧ 0 ≤ (w32 (a4 + 1)) ∧ (w32 (a4 + 1)) < ln w a0 then
  if kd w a0 = 20 ∧ 0 ≤ (w32 (a4 + 2)) ∧ (w32 (a4 + 2)) < ln w a0 then
  if kd w a1 = 9 then
  bI (C 138 w [rV a1, iV (gv w a0 (w32 (a4 + 1))), iV (gv w a0 (w32 (a4 + 2)))]) (fun x2 w1 =>
  if kd w1 a0 = 20 ∧ 0 ≤ (w32 (a4 + 1)) ∧ (w32 (a4 + 1)) < ln w1 a0 then
  if kd w1 a0 = 20 ∧ 0 ≤ (w32 (a4 + 2)) ∧ (w32 (a4 + 2)) < ln w1 a0 then
  if kd w1 a2 = 10 then
  bI (C 247 w1 [rV a2, iV (gv w1 a0 (w32 (a4 + 1))), iV (gv w1 a0 (w32 (a4 + 2)))]) (fun x4 w3 =>
  if x2 = x4 then
   (some (.inl (1946, [some (rV a0), some (rV a1), some (rV a2), some (rV a3), some (iV a4), none, none], [], w3)))
  else
  some (.inr (some (iV 0), w3))) else none else none else none) else none else none else none := by
  rfl
set_option maxRecDepth 100000 in
theorem eL_law_1696 (C : sC) (w : sW) (a0 a1 a2 a3 a4 : Int) : sg C mL_law 2000 1696 [some (rV a0), some (rV a1), some (rV a2), some (rV a3), some (iV a4), none, none] [] w =
  if kd w a0 = 20 ∧ 0 ≤ (w32 (a4 + 1)) ∧ (w32 (a4 + 1)) < ln w a0 then
  if kd w a0 = 20 ∧ 0 ≤ (w32 (a4 + 2)) ∧ (w32 (a4 + 2)) < ln w a0 then
  if kd w a1 = 9 then
  bI (C 139 w [rV a1, iV (gv w a0 (w32 (a4 + 1))), iV (gv w a0 (w32 (a4 + 2)))]) (fun x2 w1 =>
  if kd w1 a0 = 20 ∧ 0 ≤ (w32 (a4 + 1)) ∧ (w32 (a4 + 1)) < ln w1 a0 then
  if kd w1 a0 = 20 ∧ 0 ≤ (w32 (a4 + 2)) ∧ (w32 (a4 + 2)) < ln w1 a0 then
  if kd w1 a2 = 10 then
  bI (C 248 w1 [rV a2, iV (gv w1 a0 (w32 (a4 + 1))), iV (gv w1 a0 (w32 (a4 + 2)))]) (fun x4 w3 =>
  if x2 = x4 then
   (some (.inl (1946, [some (rV a0), some (rV a1), some (rV a2), some (rV a3), some (iV a4), none, none], [], w3)))
  else
  some (.inr (some (iV 0), w3))) else none else none else none) else none else none else none := by
  rfl
set_option maxRecDepth 100000 in
theorem eL_law_1733 (C : sC) (w : sW) (a0 a1 a2 a3 a4 : Int) : sg C mL_law 2000 1733 [some (rV a0), some (rV a1), some (rV a2), some (rV a3), some (iV a4), none, none] [] w =
  if kd w a1 = 9 then
  bI (C 140 w [rV a1]) (fun x2 w1 =>
  if kd w1 a2 = 10 then
  bI (C 249 w1 [rV a2]) (fun x4 w3 =>
  if x2 = x4 then
   (some (.inl (1946, [some (rV a0), some (rV a1), some (rV a2), some (rV a3), some (iV a4), none, none], [], w3)))
  else
  some (.inr (some (iV 0), w3))) else none) else none := by
  rfl
set_option maxRecDepth 100000 in
theorem eL_law_1746 (C : sC) (w : sW) (a0 a1 a2 a3 a4 : Int) : sg C mL_law 2000 1746 [some (rV a0), some (rV a1), some (rV a2), some (rV a3), some (iV a4), none, none] [] w =
  if kd w a0 = 20 ∧ 0 ≤ (w32 (a4 + 1)) ∧ (w32 (a4 + 1)) < ln w a0 then
  if kd w a0 = 20 ∧ 0 ≤ (w32 (a4 + 2)) ∧ (w32 (a4 + 2)) < ln w a0 then
  if kd w a1 = 9 then
  bI (C 141 w [rV a1, iV (gv w a0 (w32 (a4 + 1))), iV (gv w a0 (w32 (a4 + 2)))]) (fun x2 w1 =>
  if kd w1 a0 = 20 ∧ 0 ≤ (w32 (a4 + 1)) ∧ (w32 (a4 + 1)) < ln w1 a0 then
  if kd w1 a0 = 20 ∧ 0 ≤ (w32 (a4 + 2)) ∧ (w32 (a4 + 2)) < ln w1 a0 then
  if kd w1 a2 = 10 then
  bI (C 253 w1 [rV a2, iV (gv w1 a0 (w32 (a4 + 1))), iV (gv w1 a0 (w32 (a4 + 2)))]) (fun x4 w3 =>
  if x2 = x4 then
   (some (.inl (1946, [some (rV a0), some (rV a1), some (rV a2), some (rV a3), some (iV a4), none, none], [], w3)))
  else
  some (.inr (some (iV 0), w3))) else none else none else none) else none else none else none := by
  rfl
set_option maxRecDepth 100000 in
theorem eL_law_1783 (C : sC) (w : sW) (a0 a1 a2 a3 a4 : Int) : sg C mL_law 2000 1783 [some (rV a0), some (rV a1), some (rV a2), some (rV a3), some (iV a4), none, none] [] w =
  if kd w a0 = 20 ∧ 0 ≤ (w32 (a4 + 1)) ∧ (w32 (a4 + 1)) < ln w a0 then
  if kd w a1 = 9 then
  bI (C 142 w [rV a1, iV (gv w a0 (w32 (a4 + 1)))]) (fun x2 w1 =>
  if kd w1 a0 = 20 ∧ 0 ≤ (w32 (a4 + 1)) ∧ (w32 (a4 + 1)) < ln w1 a0 then
  if kd w1 a2 = 10 then
  bI (C 260 w1 [rV a2, iV (gv w1 a0 (w32 (a4 + 1)))]) (fun x4 w3 =>
  if x2 = x4 then
   (some (.inl (1946, [some (rV a0), some (rV a1), some (rV a2), some (rV a3), some (iV a4), none, none], [], w3)))
  else
  some (.inr (some (iV 0), w3))) else none else none) else none else none := by
  rfl
set_option maxRecDepth 100000 in
theorem eL_law_1808 (C : sC) (w : sW) (a0 a1 a2 a3 a4 : Int) : sg C mL_law 2000 1808 [some (rV a0), some (rV a1), some (rV a2), some (rV a3), some (iV a4), none, none] [] w =
  if kd w a0 = 20 ∧ 0 ≤ (w32 (a4 + 1)) ∧ (w32 (a4 + 1)) < ln w a0 then
  if kd w a1 = 9 then
  bI (C 143 w [rV a1, iV (gv w a0 (w32 (a4 + 1)))]) (fun x2 w1 =>
  if kd w1 a0 = 20 ∧ 0 ≤ (w32 (a4 + 1)) ∧ (w32 (a4 + 1)) < ln w1 a0 then
  if kd w1 a2 = 10 then
  bI (C 262 w1 [rV a2, iV (gv w1 a0 (w32 (a4 + 1)))]) (fun x4 w3 =>
  if x2 = x4 then
   (some (.inl (1946, [some (rV a0), some (rV a1), some (rV a2), some (rV a3), some (iV a4), none, none], [], w3)))
  else
  some (.inr (some (iV 0), w3))) else none else none) else none else none := by
  rfl
set_option maxRecDepth 100000 in
theorem eL_law_1833 (C : sC) (w : sW) (a0 a1 a2 a3 a4 : Int) : sg C mL_law 2000 1833 [some (rV a0), some (rV a1), some (rV a2), some (rV a3), some (iV a4), none, none] [] w =
  if kd w a1 = 9 then
  bI (C 144 w [rV a1]) (fun x2 w1 =>
  if kd w1 a2 = 10 then
  bI (C 273 w1 [rV a2]) (fun x4 w3 =>
  if x2 = x4 then
   (some (.inl (1946, [some (rV a0), some (rV a1), some (rV a2), some (rV a3), some (iV a4), none, none], [], w3)))
  else
  some (.inr (some (iV 0), w3))) else none) else none := by
  rfl
set_option maxRecDepth 100000 in
theorem eL_law_1846 (C : sC) (w : sW) (a0 a1 a2 a3 a4 : Int) : sg C mL_law 2000 1846 [some (rV a0), some (rV a1), some (rV a2), some (rV a3), some (iV a4), none, none] [] w =
  if kd w a0 = 20 ∧ 0 ≤ (w32 (a4 + 1)) ∧ (w32 (a4 + 1)) < ln w a0 then
  if kd w a1 = 9 then
  bI (C 145 w [rV a1, iV (gv w a0 (w32 (a4 + 1)))]) (fun x2 w1 =>
  if kd w1 a0 = 20 ∧ 0 ≤ (w32 (a4 + 1)) ∧ (w32 (a4 + 1)) < ln w1 a0 then
  if kd w1 a2 = 10 then
  bI (C 275 w1 [rV a2, iV (gv w1 a0 (w32 (a4 + 1)))]) (fun x4 w3 =>
  if x2 = x4 then
   (some (.inl (1946, [some (rV a0), some (rV a1), some (rV a2), some (rV a3), some (iV a4), none, none], [], w3)))
  else
  some (.inr (some (iV 0), w3))) else none else none) else none else none := by
  rfl
set_option maxRecDepth 100000 in
theorem eL_law_1871 (C : sC) (w : sW) (a0 a1 a2 a3 a4 : Int) : sg C mL_law 2000 1871 [some (rV a0), some (rV a1), some (rV a2), some (rV a3), some (iV a4), none, none] [] w =
  if kd w a0 = 20 ∧ 0 ≤ (w32 (a4 + 1)) ∧ (w32 (a4 + 1)) < ln w a0 then
  if kd w a1 = 9 then
  bI (C 146 w [rV a1, iV (gv w a0 (w32 (a4 + 1)))]) (fun x2 w1 =>
  if kd w1 a0 = 20 ∧ 0 ≤ (w32 (a4 + 1)) ∧ (w32 (a4 + 1)) < ln w1 a0 then
  if kd w1 a2 = 10 then
  bI (C 276 w1 [rV a2, iV (gv w1 a0 (w32 (a4 + 1)))]) (fun x4 w3 =>
  if x2 = x4 then
   (some (.inl (1946, [some (rV a0), some (rV a1), some (rV a2), some (rV a3), some (iV a4), none, none], [], w3)))
  else
  some (.inr (some (iV 0), w3))) else none else none) else none else none := by
  rfl
set_option maxRecDepth 100000 in
theorem eL_law_1896 (C : sC) (w : sW) (a0 a1 a2 a3 a4 : Int) : sg C mL_law 2000 1896 [some (rV a0), some (rV a1), some (rV a2), some (rV a3), some (iV a4), none, none] [] w =
  if kd w a0 = 20 ∧ 0 ≤ (w32 (a4 + 1)) ∧ (w32 (a4 + 1)) < ln w a0 then
  if kd w a1 = 9 then
  bI (C 147 w [rV a1, iV (gv w a0 (w32 (a4 + 1)))]) (fun x2 w1 =>
  if kd w1 a0 = 20 ∧ 0 ≤ (w32 (a4 + 1)) ∧ (w32 (a4 + 1)) < ln w1 a0 then
  if kd w1 a2 = 10 then
  bI (C 277 w1 [rV a2, iV (gv w1 a0 (w32 (a4 + 1)))]) (fun x4 w3 =>
  if x2 = x4 then
   (some (.inl (1946, [some (rV a0), some (rV a1), some (rV a2), some (rV a3), some (iV a4), none, none], [], w3)))
  else
  some (.inr (some (iV 0), w3))) else none else none) else none else none := by
  rfl
set_option maxRecDepth 100000 in
theorem eL_law_1921 (C : sC) (w : sW) (a0 a1 a2 a3 a4 : Int) : sg C mL_law 2000 1921 [some (rV a0), some (rV a1), some (rV a2), some (rV a3), some (iV a4), none, none] [] w =
  if kd w a0 = 20 ∧ 0 ≤ (w32 (a4 + 1)) ∧ (w32 (a4 + 1)) < ln w a0 then
  if kd w a1 = 9 then
  bI (C 148 w [rV a1, iV (gv w a0 (w32 (a4 + 1)))]) (fun x2 w1 =>
  if kd w1 a0 = 20 ∧ 0 ≤ (w32 (a4 + 1)) ∧ (w32 (a4 + 1)) < ln w1 a0 then
  if kd w1 a2 = 10 then
  bI (C 278 w1 [rV a2, iV (gv w1 a0 (w32 (a4 + 1)))]) (fun x4 w3 =>
  if x2 = x4 then
   (some (.inl (1946, [some (rV a0), some (rV a1), some (rV a2), some (rV a3), some (iV a4), none, none], [], w3)))
  else
  some (.inr (some (iV 0), w3))) else none else none) else none else none := by
  rfl
set_option maxRecDepth 100000 in
theorem eL_law_1946 (C : sC) (w : sW) (a0 a1 a2 a3 a4 : Int) : sg C mL_law 2000 1946 [some (rV a0), some (rV a1), some (rV a2), some (rV a3), some (iV a4), none, none] [] w =
  some (.inl (23, [some (rV a0), some (rV a1), some (rV a2), some (rV a3), some (iV (w32 (a4 + 6))), none, none], [], w)) := by
  rfl
