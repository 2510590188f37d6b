set_option maxRecDepth 100000 in
theorem eX0_init_0 (C : sC) (w : sW) (a0 : Int) : sg C mX0_init 2000 0 [some (rV a0)] [] w =
  if kd w a0 = 1 then
  if 0 ≤ (40 : Int) ∧ (40 : Int) ≤ 100000 then
  wl (al w 27 40 (Int.toNat 40)) (fun w1 =>
  if kd w1 a0 = 1 then
  wl (sv w1 a0 0 (nx w)) (fun w2 =>
  if 0 ≤ (40 : Int) ∧ (40 : Int) ≤ 100000 then
  wl (al w2 20 40 (Int.toNat 40)) (fun w3 =>
  if kd w3 a0 = 1 then
  wl (sv w3 a0 1 (nx w2)) (fun w4 =>
  if 0 ≤ (40 : Int) ∧ (40 : Int) ≤ 100000 then
  wl (al w4 20 40 (Int.toNat 40)) (fun w5 =>
  if kd w5 a0 = 1 then
  wl (sv w5 a0 2 (nx w4)) (fun w6 =>
  if 0 ≤ (40 : Int) ∧ (40 : Int) ≤ 100000 then
  wl (al w6 20 40 (Int.toNat 40)) (fun w7 =>
  if kd w7 a0 = 1 then
  wl (sv w7 a0 3 (nx w6)) (fun w8 =>
  some (.inr (none, w8))) else none) else none) else none) else none) else none) else none) else none) else none else none := by
  rfl
set_option maxRecDepth 100000 in
theorem eX0_readLines_0 (C : sC) (w : sW) (a0 a1 a2 : Int) : sg C mX0_readLines 2000 0 [some (rV a0), some (rV a1), some (rV a2), none] [] w =
  if kd w a0 = 1 then
  wl (sv w a0 4 0) (fun w1 =>
  some (.inl (7, [some (rV a0), some (rV a1), some (rV a2), some (iV 0)], [], w1))) else none := by
  rfl
set_option maxRecDepth 100000 in
theorem eX0_readLines_7 (C : sC) (w : sW) (a0 a1 a2 a3 : Int) : sg C mX0_readLines 2000 7 [some (rV a0), some (rV a1), some (rV a2), some (iV a3)] [] w =
  if 40 < a3 then
   (some (.inr (none, w)))
  else
  if kd w a1 = 4 then
  bI (C 19 w [rV a1]) (fun x2 w1 =>
  if x2 = 0 then
   (some (.inr (none, w1)))
  else
  if kd w1 a1 = 4 then
  if (gv w1 a1 9) = 0 then
   (if kd w1 a1 = 4 then
   bN (C 20 w1 [rV a1, iV 1]) (fun w3 =>
   some (.inl (7, [some (rV a0), some (rV a1), some (rV a2), some (iV (w32 (a3 + 1)))], [], w3))) else none)
  else
  if kd w1 a1 = 4 then
  if kd w1 (gv w1 a1 9) = 30 then
  if (gv w1 (gv w1 a1 9) 1) = 1 then
   (if kd w1 a0 = 1 then
   if (gv w1 a0 4) < 40 then
    (if kd w1 a0 = 1 then
    bN (C 2 w1 [rV a0, rV a1, rV a2]) (fun w4 =>
    if kd w4 a1 = 4 then
    bN (C 23 w4 [rV a1, iV 59]) (fun w5 =>
    if kd w5 a0 = 1 then
    if kd w5 a0 = 1 then
    wl (sv w5 a0 4 (w32 ((gv w5 a0 4) + 1))) (fun w6 =>
    some (.inl (7, [some (rV a0), some (rV a1), some (rV a2), some (iV (w32 (a3 + 1)))], [], w6))) else none else none) else none) else none)
   else
   if kd w1 a1 = 4 then
   bN (C 20 w1 [rV a1, iV 4]) (fun w7 =>
   some (.inl (7, [some (rV a0), some (rV a1), some (rV a2), some (iV (w32 (a3 + 1)))], [], w7))) else none else none)
  else
  if kd w1 a1 = 4 then
  bN (C 20 w1 [rV a1, iV 1]) (fun w8 =>
  some (.inl (7, [some (rV a0), some (rV a1), some (rV a2), some (iV (w32 (a3 + 1)))], [], w8))) else none else none else none else none) else none := by
  rfl
set_option maxRecDepth 100000 in
theorem eX0_readLine_0 (C : sC) (w : sW) (a0 a1 a2 : Int) : sg C mX0_readLine 2000 0 [some (rV a0), some (rV a1), some (rV a2), none, none, none, none] [] w =
  if kd w a1 = 4 then
  if kd w a1 = 4 then
  bN (C 16 w [rV a1]) (fun w1 =>
  if (gv w a1 9) ≤ 23 ∧ (10 : Int) ≤ 23 then
  (if (gv w a1 9) = (10 : Int) then
   (if kd w1 a1 = 4 then
   bI (C 25 w1 [rV a1, iV 0, iV 999]) (fun x3 w2 =>
   if (gv w a1 9) ≤ 23 ∧ (10 : Int) ≤ 23 then
   (if (gv w a1 9) = (10 : Int) then
    (if kd w2 a1 = 4 then
    bI (C 25 w2 [rV a1, iV 0, iV 7]) (fun x5 w4 =>
    some (.inl (127, [some (rV a0), none, none, some (rV (gv w a1 9)), some (iV x3), some (iV x5), some (iV 0)], [], w4))) else none)
   else
   if kd w2 a1 = 4 then
   bI (C 25 w2 [rV a1, iV 1, iV 600]) (fun x7 w6 =>
   some (.inl (127, [some (rV a0), none, none, some (rV (gv w a1 9)), some (iV x3), some (iV x7), some (iV 0)], [], w6))) else none) else none) else none)
  else
  if (gv w a1 9) ≤ 23 ∧ (11 : Int) ≤ 23 then
  (if (gv w a1 9) = (11 : Int) then
   (if kd w1 a1 = 4 then
   bI (C 25 w1 [rV a1, iV 0, iV 999]) (fun x9 w8 =>
   if (gv w a1 9) ≤ 23 ∧ (10 : Int) ≤ 23 then
   (if (gv w a1 9) = (10 : Int) then
    (if kd w8 a1 = 4 then
    bI (C 25 w8 [rV a1, iV 0, iV 7]) (fun x11 w10 =>
    some (.inl (127, [some (rV a0), none, none, some (rV (gv w a1 9)), some (iV x9), some (iV x11), some (iV 0)], [], w10))) else none)
   else
   if kd w8 a1 = 4 then
   bI (C 25 w8 [rV a1, iV 1, iV 600]) (fun x13 w12 =>
   some (.inl (127, [some (rV a0), none, none, some (rV (gv w a1 9)), some (iV x9), some (iV x13), some (iV 0)], [], w12))) else none) else none) else none)
  else
  if (gv w a1 9) ≤ 23 ∧ (8 : Int) ≤ 23 then
  (if (gv w a1 9) = (8 : Int) then
   (if kd w1 a1 = 4 then
   bI (C 26 w1 [rV a1, rV a2, iV (-1)]) (fun x15 w14 =>
   if kd w14 a1 = 4 then
   bI (C 26 w14 [rV a1, rV a2, iV x15]) (fun x17 w16 =>
   some (.inl (127, [some (rV a0), none, none, some (rV (gv w a1 9)), some (iV x15), some (iV x17), some (iV 0)], [], w16))) else none) else none)
  else
  if kd w1 a1 = 4 then
  bI (C 26 w1 [rV a1, rV a2, iV (-1)]) (fun x19 w18 =>
  if kd w18 a1 = 4 then
  bI (C 25 w18 [rV a1, iV 0, iV 999]) (fun x21 w20 =>
  bI (C 3 w20 [rV a1, rV a2, rV (gv w a1 9), iV x19]) (fun x23 w22 =>
  some (.inl (127, [some (rV a0), none, none, some (rV (gv w a1 9)), some (iV x19), some (iV x21), some (iV x23)], [], w22)))) else none) else none) else none) else none) else none) else none else none := by
  rfl
set_option maxRecDepth 100000 in
theorem eX0_readLine_127 (C : sC) (w : sW) (a0 a3 a4 a5 a6 : Int) : sg C mX0_readLine 2000 127 [some (rV a0), none, none, some (rV a3), some (iV a4), some (iV a5), some (iV a6)] [] w =
  if kd w a0 = 1 then
  if kd w a0 = 1 then
  if ((kd w (gv w a0 0) = 24 ∧ kd w a3 = 5) ∨ (kd w (gv w a0 0) = 25 ∧ kd w a3 = 8) ∨ (kd w (gv w a0 0) = 26 ∧ kd w a3 = 7) ∨ (kd w (gv w a0 0) = 27 ∧ kd w a3 = 30 ∧ 32 ≤ (gv w a0 0))) ∧ 0 ≤ (gv w a0 4) ∧ (gv w a0 4) < ln w (gv w a0 0) then
  wl (sv w (gv w a0 0) (gv w a0 4) a3) (fun w1 =>
  if kd w1 a0 = 1 then
  if kd w1 a0 = 1 then
  if (kd w1 (gv w1 a0 1) = 20 ∧ 32 ≤ (gv w1 a0 1)) ∧ 0 ≤ (gv w1 a0 4) ∧ (gv w1 a0 4) < ln w1 (gv w1 a0 1) then
  wl (sv w1 (gv w1 a0 1) (gv w1 a0 4) a4) (fun w2 =>
  if kd w2 a0 = 1 then
  if kd w2 a0 = 1 then
  if (kd w2 (gv w2 a0 2) = 20 ∧ 32 ≤ (gv w2 a0 2)) ∧ 0 ≤ (gv w2 a0 4) ∧ (gv w2 a0 4) < ln w2 (gv w2 a0 2) then
  wl (sv w2 (gv w2 a0 2) (gv w2 a0 4) a5) (fun w3 =>
  if kd w3 a0 = 1 then
  if kd w3 a0 = 1 then
  if (kd w3 (gv w3 a0 3) = 20 ∧ 32 ≤ (gv w3 a0 3)) ∧ 0 ≤ (gv w3 a0 4) ∧ (gv w3 a0 4) < ln w3 (gv w3 a0 3) then
  wl (sv w3 (gv w3 a0 3) (gv w3 a0 4) a6) (fun w4 =>
  some (.inr (none, w4))) else none else none else none) else none else none else none) else none else none else none) else none else none else none := by
  rfl
set_option maxRecDepth 100000 in
theorem eX0_readThird_0 (C : sC) (w : sW) (a0 a1 a2 a3 : Int) : sg C mX0_readThird 2000 0 [some (rV a0), some (rV a1), some (rV a2), some (iV a3)] [] w =
  if a2 ≤ 23 ∧ (9 : Int) ≤ 23 then
  (if a2 = (9 : Int) then
   (if kd w a0 = 4 then
   bI (C 26 w [rV a0, rV a1, iV a3]) (fun x2 w1 =>
   some (.inr (some (iV x2), w1))) else none)
  else
  if a2 ≤ 23 ∧ (4 : Int) ≤ 23 then
  (if a2 = (4 : Int) then
   (if kd w a0 = 4 then
   bI (C 25 w [rV a0, iV 0, iV 1]) (fun x4 w3 =>
   some (.inr (some (iV x4), w3))) else none)
  else
  if a2 ≤ 23 ∧ (5 : Int) ≤ 23 then
  (if a2 = (5 : Int) then
   (if kd w a0 = 4 then
   bI (C 25 w [rV a0, iV 0, iV 1]) (fun x6 w5 =>
   some (.inr (some (iV x6), w5))) else none)
  else
  if kd w a0 = 4 then
  bI (C 25 w [rV a0, iV 1, iV 600]) (fun x8 w7 =>
  some (.inr (some (iV x8), w7))) else none) else none) else none) else none := by
  rfl
set_option maxRecDepth 100000 in
theorem eX0_liveOn_0 (C : sC) (w : sW) (a0 a1 : Int) : sg C mX0_liveOn 2000 0 [some (rV a0), some (rV a1), none, none, none] [] w =
  if kd w a0 = 1 then
  wl (sv w a0 5 0) (fun w1 =>
  some (.inl (7, [some (rV a0), some (rV a1), some (iV 0), none, none], [], w1))) else none := by
  rfl
set_option maxRecDepth 100000 in
theorem eX0_liveOn_7 (C : sC) (w : sW) (a0 a1 a2 : Int) : sg C mX0_liveOn 2000 7 [some (rV a0), some (rV a1), some (iV a2), none, none] [] w =
  if kd w a0 = 1 then
  if a2 < (gv w a0 4) then
   (if a2 < 40 then
    (if kd w a0 = 1 then
    if (24 ≤ kd w (gv w a0 0) ∧ kd w (gv w a0 0) ≤ 27) ∧ 0 ≤ a2 ∧ a2 < ln w (gv w a0 0) then
    if (gv w (gv w a0 0) a2) = 0 then
     (some (.inr (some (iV a2), w)))
    else
    if kd w a0 = 1 then
    if kd w (gv w a0 1) = 20 ∧ 0 ≤ a2 ∧ a2 < ln w (gv w a0 1) then
    if kd w a0 = 1 then
    if kd w (gv w a0 2) = 20 ∧ 0 ≤ a2 ∧ a2 < ln w (gv w a0 2) then
    if kd w a0 = 1 then
    if kd w (gv w a0 3) = 20 ∧ 0 ≤ a2 ∧ a2 < ln w (gv w a0 3) then
    if kd w a1 = 8 then
    bI (C 86 w [rV a1, rV (gv w (gv w a0 0) a2), iV (gv w (gv w a0 1) a2), iV (gv w (gv w a0 2) a2), iV (gv w (gv w a0 3) a2)]) (fun x2 w1 =>
    if x2 = 0 then
     (if kd w1 a0 = 1 then
     if kd w1 (gv w1 a0 1) = 20 ∧ 0 ≤ a2 ∧ a2 < ln w1 (gv w1 a0 1) then
     if kd w1 a0 = 1 then
     if kd w1 (gv w1 a0 2) = 20 ∧ 0 ≤ a2 ∧ a2 < ln w1 (gv w1 a0 2) then
     if kd w1 a0 = 1 then
     if kd w1 (gv w1 a0 3) = 20 ∧ 0 ≤ a2 ∧ a2 < ln w1 (gv w1 a0 3) then
     if kd w1 a1 = 8 then
     bN (C 88 w1 [rV a1, rV (gv w (gv w a0 0) a2), iV (gv w1 (gv w1 a0 1) a2), iV (gv w1 (gv w1 a0 2) a2), iV (gv w1 (gv w1 a0 3) a2)]) (fun w3 =>
     some (.inl (7, [some (rV a0), some (rV a1), some (iV (w32 (a2 + 1))), none, none], [], w3))) else none else none else none else none else none else none else none)
    else
    if kd w1 (gv w (gv w a0 0) a2) = 30 then
    if kd w1 a0 = 1 then
    wl (sv w1 a0 5 (w32 ((gv w1 (gv w (gv w a0 0) a2) 2) + x2))) (fun w4 =>
    some (.inr (some (iV a2), w4))) else none else none) else none else none else none else none else none else none else none else none else none)
   else
   if kd w a0 = 1 then
   some (.inr (some (iV (gv w a0 4)), w)) else none)
  else
  if kd w a0 = 1 then
  some (.inr (some (iV (gv w a0 4)), w)) else none else none := by
  rfl
set_option maxRecDepth 100000 in
theorem eX1_init_0 (C : sC) (w : sW) (a0 a1 : Int) : sg C mX1_init 2000 0 [some (rV a0), some (iV a1)] [] w =
  if kd w a0 = 2 then
  if kd w a0 = 2 then
  wl (sv w a0 0 a1) (fun w1 =>
  some (.inr (none, w1))) else none else none := by
  rfl
set_option maxRecDepth 100000 in
theorem eX1_draw_0 (C : sC) (w : sW) (a0 a1 : Int) : sg C mX1_draw 2000 0 [some (rV a0), some (iV a1)] [] w =
  if kd w a0 = 2 then
  if kd w a0 = 2 then
  wl (sv w a0 0 (w32 ((w32 ((gv w a0 0) * 1103515245)) + 12345))) (fun w1 =>
  if a1 < 1 then
   (some (.inr (some (iV 0), w1)))
  else
  if kd w1 a0 = 2 then
  if a1 = 0 then none else
  some (.inr (some (iV (Int.tmod (f_iushr (gv w1 a0 0) 8) a1)), w1)) else none) else none else none := by
  rfl
set_option maxRecDepth 100000 in
theorem eX1_deedOn_0 (C : sC) (w : sW) (a0 a1 : Int) : sg C mX1_deedOn 2000 0 [some (rV a0), some (rV a1), none, none, none, none, none] [] w =
  if kd w a1 = 8 then
  if (gv w a1 3) = 0 then
   (some (.inr (some (iV 0), w)))
  else
  if kd w a0 = 2 then
  bI (C 6 w [rV a0, iV 8]) (fun x2 w1 =>
  if kd w1 a1 = 8 then
  if kd w1 a0 = 2 then
  bI (C 6 w1 [rV a0, iV (gv w1 a1 3)]) (fun x4 w3 =>
  if kd w3 a1 = 8 then
  bR (C 77 w3 [rV a1, iV x4]) (fun r6 w5 =>
  if r6 = 0 then
   (if kd w5 a0 = 2 then
   bI (C 6 w5 [rV a0, iV 1]) (fun x8 w7 =>
   if x2 = 3 then
    (if kd w7 a0 = 2 then
    bI (C 6 w7 [rV a0, iV 8]) (fun x10 w9 =>
    bI (C 8 w9 [rV a1, rV 6, iV x4, iV x8, iV (w32 (x10 + 1))]) (fun x12 w11 =>
    if x12 = 0 ∨ x12 = 1 then some (.inr (some (iV x12), w11)) else none)) else none)
   else if x2 = 4 then
    (if kd w7 a0 = 2 then
    bI (C 6 w7 [rV a0, iV 40]) (fun x14 w13 =>
    bI (C 8 w13 [rV a1, rV 7, iV x4, iV x8, iV (w32 (x14 + 1))]) (fun x16 w15 =>
    if x16 = 0 ∨ x16 = 1 then some (.inr (some (iV x16), w15)) else none)) else none)
   else if x2 = 5 then
    (if kd w7 a0 = 2 then
    bI (C 6 w7 [rV a0, iV 40]) (fun x18 w17 =>
    bI (C 8 w17 [rV a1, rV 7, iV x4, iV x8, iV (w32 (x18 + 1))]) (fun x20 w19 =>
    if x20 = 0 ∨ x20 = 1 then some (.inr (some (iV x20), w19)) else none)) else none)
   else if x2 = 6 then
    (if kd w7 a1 = 8 then
    if kd w7 a0 = 2 then
    bI (C 6 w7 [rV a0, iV (gv w7 a1 3)]) (fun x22 w21 =>
    if x22 = x4 then
     (some (.inr (some (iV 0), w21)))
    else
    bI (C 8 w21 [rV a1, rV 8, iV x4, iV x22, iV 0]) (fun x24 w23 =>
    if x24 = 0 then
     (some (.inr (some (iV 0), w23)))
    else
    some (.inr (some (iV 1), w23)))) else none else none)
   else if x2 = 7 then
    (if kd w7 a1 = 8 then
    if kd w7 a0 = 2 then
    bI (C 6 w7 [rV a0, iV (gv w7 a1 3)]) (fun x26 w25 =>
    if x26 = x4 then
     (some (.inr (some (iV 0), w25)))
    else
    bI (C 8 w25 [rV a1, rV 9, iV x4, iV x8, iV x26]) (fun x28 w27 =>
    if x28 = 0 then
     (some (.inr (some (iV 0), w27)))
    else
    some (.inr (some (iV 1), w27)))) else none else none)
   else if kd w7 a0 = 2 then
   bI (C 6 w7 [rV a0, iV 2]) (fun x30 w29 =>
   bI (C 8 w29 [rV a1, rV 4, iV x4, iV x8, iV x30]) (fun x32 w31 =>
   if x32 = 0 ∨ x32 = 1 then some (.inr (some (iV x32), w31)) else none)) else none) else none)
  else
  if kd w5 r6 = 5 then
  if kd w5 a0 = 2 then
  bI (C 6 w5 [rV a0, iV (w32 ((gv w5 r6 2) + 1))]) (fun x34 w33 =>
  if x2 = 3 then
   (if kd w33 a0 = 2 then
   bI (C 6 w33 [rV a0, iV 8]) (fun x36 w35 =>
   bI (C 8 w35 [rV a1, rV 6, iV x4, iV x34, iV (w32 (x36 + 1))]) (fun x38 w37 =>
   if x38 = 0 ∨ x38 = 1 then some (.inr (some (iV x38), w37)) else none)) else none)
  else if x2 = 4 then
   (if kd w33 a0 = 2 then
   bI (C 6 w33 [rV a0, iV 40]) (fun x40 w39 =>
   bI (C 8 w39 [rV a1, rV 7, iV x4, iV x34, iV (w32 (x40 + 1))]) (fun x42 w41 =>
   if x42 = 0 ∨ x42 = 1 then some (.inr (some (iV x42), w41)) else none)) else none)
  else if x2 = 5 then
   (if kd w33 a0 = 2 then
   bI (C 6 w33 [rV a0, iV 40]) (fun x44 w43 =>
   bI (C 8 w43 [rV a1, rV 7, iV x4, iV x34, iV (w32 (x44 + 1))]) (fun x46 w45 =>
   if x46 = 0 ∨ x46 = 1 then some (.inr (some (iV x46), w45)) else none)) else none)
  else if x2 = 6 then
   (if kd w33 a1 = 8 then
   if kd w33 a0 = 2 then
   bI (C 6 w33 [rV a0, iV (gv w33 a1 3)]) (fun x48 w47 =>
   if x48 = x4 then
    (some (.inr (some (iV 0), w47)))
   else
   bI (C 8 w47 [rV a1, rV 8, iV x4, iV x48, iV 0]) (fun x50 w49 =>
   if x50 = 0 then
    (some (.inr (some (iV 0), w49)))
   else
   some (.inr (some (iV 1), w49)))) else none else none)
  else if x2 = 7 then
   (if kd w33 a1 = 8 then
   if kd w33 a0 = 2 then
   bI (C 6 w33 [rV a0, iV (gv w33 a1 3)]) (fun x52 w51 =>
   if x52 = x4 then
    (some (.inr (some (iV 0), w51)))
   else
   bI (C 8 w51 [rV a1, rV 9, iV x4, iV x34, iV x52]) (fun x54 w53 =>
   if x54 = 0 then
    (some (.inr (some (iV 0), w53)))
   else
   some (.inr (some (iV 1), w53)))) else none else none)
  else if kd w33 a0 = 2 then
  bI (C 6 w33 [rV a0, iV 2]) (fun x56 w55 =>
  bI (C 8 w55 [rV a1, rV 4, iV x4, iV x34, iV x56]) (fun x58 w57 =>
  if x58 = 0 ∨ x58 = 1 then some (.inr (some (iV x58), w57)) else none)) else none) else none else none) else none) else none else none) else none else none := by
  rfl
set_option maxRecDepth 100000 in
theorem eX1_done_0 (C : sC) (w : sW) (a0 a1 a2 a3 a4 : Int) : sg C mX1_done 2000 0 [some (rV a0), some (rV a1), some (iV a2), some (iV a3), some (iV a4)] [] w =
  if kd w a0 = 8 then
  bI (C 86 w [rV a0, rV a1, iV a2, iV a3, iV a4]) (fun x2 w1 =>
  if x2 = 0 then
   (if kd w1 a0 = 8 then
   bN (C 88 w1 [rV a0, rV a1, iV a2, iV a3, iV a4]) (fun w3 =>
   some (.inr (some (iV 1), w3))) else none)
  else
  some (.inr (some (iV 0), w1))) else none := by
  rfl
set_option maxRecDepth 100000 in
theorem eX2_asBits_0 (C : sC) (w : sW) (a0 a2 a4 a5 : Int) : sg C mX2_asBits 2000 0 [some (lV a0), none, some (lV a2), none, some (iV a4), some (iV a5), none, none, none, none, none, none, none, none] [] w =
  if 0 < (cmpL a0 0) then
   (if 0 < (cmpL a2 0) then
    (some (.inl (26, [none, none, none, none, some (iV a4), some (iV a5), some (lV a0), none, some (lV a2), none, some (iV 0), some (iV 0), none, none], [], w)))
   else
   some (.inr (some (lV 0), w)))
  else
  some (.inr (some (lV 0), w)) := by
  rfl
set_option maxRecDepth 100000 in
theorem eX2_asBits_26 (C : sC) (w : sW) (a4 a5 a6 a8 a10 a11 : Int) : sg C mX2_asBits 2000 26 [none, none, none, none, some (iV a4), some (iV a5), some (lV a6), none, some (lV a8), none, some (iV a10), some (iV a11), none, none] [] w =
  if a11 < 40 then
   (if (cmpL a6 (w64 (2 * a8))) < 0 then
    (some (.inl (65, [none, none, none, none, some (iV a4), some (iV a5), some (lV a6), none, some (lV a8), none, some (iV a10), some (iV 0), none, none], [], w)))
   else
   some (.inl (26, [none, none, none, none, some (iV a4), some (iV a5), some (lV a6), none, some (lV (w64 (a8 * 2))), none, some (iV (w32 (a10 + 1))), some (iV (w32 (a11 + 1))), none, none], [], w)))
  else
  some (.inl (65, [none, none, none, none, some (iV a4), some (iV a5), some (lV a6), none, some (lV a8), none, some (iV a10), some (iV 0), none, none], [], w)) := by
  rfl
set_option maxRecDepth 100000 in
theorem eX2_asBits_65 (C : sC) (w : sW) (a4 a5 a6 a8 a10 a11 : Int) : sg C mX2_asBits 2000 65 [none, none, none, none, some (iV a4), some (iV a5), some (lV a6), none, some (lV a8), none, some (iV a10), some (iV a11), none, none] [] w =
  if a11 < 40 then
   (if (cmpL a6 a8) < 0 then
    (some (.inl (65, [none, none, none, none, some (iV a4), some (iV a5), some (lV (w64 (a6 * 2))), none, some (lV a8), none, some (iV (w32 (a10 + (-1)))), some (iV (w32 (a11 + 1))), none, none], [], w)))
   else
   some (.inl (103, [none, none, none, none, some (iV a4), some (iV a5), some (lV a6), none, some (lV a8), none, some (iV a10), some (lV 0), none, some (iV 0)], [], w)))
  else
  some (.inl (103, [none, none, none, none, some (iV a4), some (iV a5), some (lV a6), none, some (lV a8), none, some (iV a10), some (lV 0), none, some (iV 0)], [], w)) := by
  rfl
set_option maxRecDepth 100000 in
theorem eX2_asBits_103 (C : sC) (w : sW) (a4 a5 a6 a8 a10 a11 a13 : Int) : sg C mX2_asBits 2000 103 [none, none, none, none, some (iV a4), some (iV a5), some (lV a6), none, some (lV a8), none, some (iV a10), some (lV a11), none, some (iV a13)] [] w =
  if a13 < a4 then
   (if (cmpL a6 a8) < 0 then
    (some (.inl (103, [none, none, none, none, some (iV a4), some (iV a5), some (lV (w64 (a6 * 2))), none, some (lV a8), none, some (iV a10), some (lV (w64 (a11 * 2))), none, some (iV (w32 (a13 + 1)))], [], w)))
   else
   some (.inl (103, [none, none, none, none, some (iV a4), some (iV a5), some (lV (w64 ((w64 (a6 - a8)) * 2))), none, some (lV a8), none, some (iV a10), some (lV (w64 ((w64 (a11 * 2)) + 1))), none, some (iV (w32 (a13 + 1)))], [], w)))
  else
  if 0 < (cmpL a6 a8) then
   (some (.inr (some (lV (w64 ((f_lshl (w32 ((w32 (a10 + a5)) - 1)) (w32 (a4 - 1))) + (w64 (a11 + 1))))), w)))
  else
  if (cmpL a6 a8) = 0 then
   (if (cmpL (f_land a11 1) 1) = 0 then
    (some (.inr (some (lV (w64 ((f_lshl (w32 ((w32 (a10 + a5)) - 1)) (w32 (a4 - 1))) + (w64 (a11 + 1))))), w)))
   else
   some (.inr (some (lV (w64 ((f_lshl (w32 ((w32 (a10 + a5)) - 1)) (w32 (a4 - 1))) + a11))), w)))
  else
  some (.inr (some (lV (w64 ((f_lshl (w32 ((w32 (a10 + a5)) - 1)) (w32 (a4 - 1))) + a11))), w)) := by
  rfl
set_option maxRecDepth 100000 in
theorem eX3_init_0 (C : sC) (w : sW) (a0 : Int) : sg C mX3_init 2000 0 [some (rV a0)] [] w =
  if kd w a0 = 3 then
  if 0 ≤ (8 : Int) ∧ (8 : Int) ≤ 100000 then
  wl (al w 25 8 (Int.toNat 8)) (fun w1 =>
  if kd w1 a0 = 3 then
  wl (sv w1 a0 0 (nx w)) (fun w2 =>
  some (.inr (none, w2))) else none) else none else none := by
  rfl
set_option maxRecDepth 100000 in
theorem eX3_forget_0 (C : sC) (w : sW) (a0 : Int) : sg C mX3_forget 2000 0 [some (rV a0)] [] w =
  if kd w a0 = 3 then
  wl (sv w a0 2 0) (fun w1 =>
  some (.inr (none, w1))) else none := by
  rfl
set_option maxRecDepth 100000 in
theorem eX3_keep_0 (C : sC) (w : sW) (a0 a1 : Int) : sg C mX3_keep 2000 0 [some (rV a0), some (rV a1), none] [] w =
  if kd w a0 = 3 then
  if kd w a0 = 3 then
  if (8 : Int) = 0 then none else
  if kd w a0 = 3 then
  if (gv w a0 2) = 8 then
   (if kd w a0 = 3 then
   if (8 : Int) = 0 then none else
   if kd w a0 = 3 then
   wl (sv w a0 1 (Int.tmod (w32 ((gv w a0 1) + 1)) 8)) (fun w1 =>
   if kd w1 a0 = 3 then
   if (24 ≤ kd w1 (gv w1 a0 0) ∧ kd w1 (gv w1 a0 0) ≤ 27) ∧ 0 ≤ (Int.tmod (w32 ((gv w a0 1) + (gv w a0 2))) 8) ∧ (Int.tmod (w32 ((gv w a0 1) + (gv w a0 2))) 8) < ln w1 (gv w1 a0 0) then
   if (gv w1 (gv w1 a0 0) (Int.tmod (w32 ((gv w a0 1) + (gv w a0 2))) 8)) = 0 then
    (if kd w1 a0 = 3 then
    wl (al w1 8 0 6) (fun w2 =>
    if kd w2 (nx w1) = 8 then
    bN (C 75 w2 [rV (nx w1)]) (fun w3 =>
    if ((kd w3 (gv w1 a0 0) = 24 ∧ kd w3 (nx w1) = 5) ∨ (kd w3 (gv w1 a0 0) = 25 ∧ kd w3 (nx w1) = 8) ∨ (kd w3 (gv w1 a0 0) = 26 ∧ kd w3 (nx w1) = 7) ∨ (kd w3 (gv w1 a0 0) = 27 ∧ kd w3 (nx w1) = 30 ∧ 32 ≤ (gv w1 a0 0))) ∧ 0 ≤ (Int.tmod (w32 ((gv w a0 1) + (gv w a0 2))) 8) ∧ (Int.tmod (w32 ((gv w a0 1) + (gv w a0 2))) 8) < ln w3 (gv w1 a0 0) then
    wl (sv w3 (gv w1 a0 0) (Int.tmod (w32 ((gv w a0 1) + (gv w a0 2))) 8) (nx w1)) (fun w4 =>
    if kd w4 a0 = 3 then
    if (24 ≤ kd w4 (gv w4 a0 0) ∧ kd w4 (gv w4 a0 0) ≤ 27) ∧ 0 ≤ (Int.tmod (w32 ((gv w a0 1) + (gv w a0 2))) 8) ∧ (Int.tmod (w32 ((gv w a0 1) + (gv w a0 2))) 8) < ln w4 (gv w4 a0 0) then
    if kd w4 (gv w4 (gv w4 a0 0) (Int.tmod (w32 ((gv w a0 1) + (gv w a0 2))) 8)) = 8 then
    bN (C 76 w4 [rV (gv w4 (gv w4 a0 0) (Int.tmod (w32 ((gv w a0 1) + (gv w a0 2))) 8)), rV a1]) (fun w5 =>
    some (.inr (none, w5))) else none else none else none) else none) else none) else none)
   else
   if kd w1 a0 = 3 then
   if (24 ≤ kd w1 (gv w1 a0 0) ∧ kd w1 (gv w1 a0 0) ≤ 27) ∧ 0 ≤ (Int.tmod (w32 ((gv w a0 1) + (gv w a0 2))) 8) ∧ (Int.tmod (w32 ((gv w a0 1) + (gv w a0 2))) 8) < ln w1 (gv w1 a0 0) then
   if kd w1 (gv w1 (gv w1 a0 0) (Int.tmod (w32 ((gv w a0 1) + (gv w a0 2))) 8)) = 8 then
   bN (C 76 w1 [rV (gv w1 (gv w1 a0 0) (Int.tmod (w32 ((gv w a0 1) + (gv w a0 2))) 8)), rV a1]) (fun w6 =>
   some (.inr (none, w6))) else none else none else none else none else none) else none else none)
  else
  if kd w a0 = 3 then
  if kd w a0 = 3 then
  wl (sv w a0 2 (w32 ((gv w a0 2) + 1))) (fun w7 =>
  if kd w7 a0 = 3 then
  if (24 ≤ kd w7 (gv w7 a0 0) ∧ kd w7 (gv w7 a0 0) ≤ 27) ∧ 0 ≤ (Int.tmod (w32 ((gv w a0 1) + (gv w a0 2))) 8) ∧ (Int.tmod (w32 ((gv w a0 1) + (gv w a0 2))) 8) < ln w7 (gv w7 a0 0) then
  if (gv w7 (gv w7 a0 0) (Int.tmod (w32 ((gv w a0 1) + (gv w a0 2))) 8)) = 0 then
   (if kd w7 a0 = 3 then
   wl (al w7 8 0 6) (fun w8 =>
   if kd w8 (nx w7) = 8 then
   bN (C 75 w8 [rV (nx w7)]) (fun w9 =>
   if ((kd w9 (gv w7 a0 0) = 24 ∧ kd w9 (nx w7) = 5) ∨ (kd w9 (gv w7 a0 0) = 25 ∧ kd w9 (nx w7) = 8) ∨ (kd w9 (gv w7 a0 0) = 26 ∧ kd w9 (nx w7) = 7) ∨ (kd w9 (gv w7 a0 0) = 27 ∧ kd w9 (nx w7) = 30 ∧ 32 ≤ (gv w7 a0 0))) ∧ 0 ≤ (Int.tmod (w32 ((gv w a0 1) + (gv w a0 2))) 8) ∧ (Int.tmod (w32 ((gv w a0 1) + (gv w a0 2))) 8) < ln w9 (gv w7 a0 0) then
   wl (sv w9 (gv w7 a0 0) (Int.tmod (w32 ((gv w a0 1) + (gv w a0 2))) 8) (nx w7)) (fun w10 =>
   if kd w10 a0 = 3 then
   if (24 ≤ kd w10 (gv w10 a0 0) ∧ kd w10 (gv w10 a0 0) ≤ 27) ∧ 0 ≤ (Int.tmod (w32 ((gv w a0 1) + (gv w a0 2))) 8) ∧ (Int.tmod (w32 ((gv w a0 1) + (gv w a0 2))) 8) < ln w10 (gv w10 a0 0) then
   if kd w10 (gv w10 (gv w10 a0 0) (Int.tmod (w32 ((gv w a0 1) + (gv w a0 2))) 8)) = 8 then
   bN (C 76 w10 [rV (gv w10 (gv w10 a0 0) (Int.tmod (w32 ((gv w a0 1) + (gv w a0 2))) 8)), rV a1]) (fun w11 =>
   some (.inr (none, w11))) else none else none else none) else none) else none) else none)
  else
  if kd w7 a0 = 3 then
  if (24 ≤ kd w7 (gv w7 a0 0) ∧ kd w7 (gv w7 a0 0) ≤ 27) ∧ 0 ≤ (Int.tmod (w32 ((gv w a0 1) + (gv w a0 2))) 8) ∧ (Int.tmod (w32 ((gv w a0 1) + (gv w a0 2))) 8) < ln w7 (gv w7 a0 0) then
  if kd w7 (gv w7 (gv w7 a0 0) (Int.tmod (w32 ((gv w a0 1) + (gv w a0 2))) 8)) = 8 then
  bN (C 76 w7 [rV (gv w7 (gv w7 a0 0) (Int.tmod (w32 ((gv w a0 1) + (gv w a0 2))) 8)), rV a1]) (fun w12 =>
  some (.inr (none, w12))) else none else none else none else none else none) else none else none else none else none else none := by
  rfl
set_option maxRecDepth 100000 in
theorem eX3_bringBack_0 (C : sC) (w : sW) (a0 a1 : Int) : sg C mX3_bringBack 2000 0 [some (rV a0), some (rV a1), none] [] w =
  if kd w a0 = 3 then
  if (gv w a0 2) = 0 then
   (some (.inr (some (iV 0), w)))
  else
  if kd w a0 = 3 then
  if kd w a0 = 3 then
  if (8 : Int) = 0 then none else
  if kd w a0 = 3 then
  if (24 ≤ kd w (gv w a0 0) ∧ kd w (gv w a0 0) ≤ 27) ∧ 0 ≤ (Int.tmod (w32 ((w32 ((gv w a0 1) + (gv w a0 2))) - 1)) 8) ∧ (Int.tmod (w32 ((w32 ((gv w a0 1) + (gv w a0 2))) - 1)) 8) < ln w (gv w a0 0) then
  if (gv w (gv w a0 0) (Int.tmod (w32 ((w32 ((gv w a0 1) + (gv w a0 2))) - 1)) 8)) = 0 then
   (some (.inr (some (iV 0), w)))
  else
  if kd w a0 = 3 then
  if kd w a0 = 3 then
  wl (sv w a0 2 (w32 ((gv w a0 2) - 1))) (fun w1 =>
  if kd w1 a0 = 3 then
  if (24 ≤ kd w1 (gv w1 a0 0) ∧ kd w1 (gv w1 a0 0) ≤ 27) ∧ 0 ≤ (Int.tmod (w32 ((w32 ((gv w a0 1) + (gv w a0 2))) - 1)) 8) ∧ (Int.tmod (w32 ((w32 ((gv w a0 1) + (gv w a0 2))) - 1)) 8) < ln w1 (gv w1 a0 0) then
  if kd w1 a1 = 8 then
  bN (C 76 w1 [rV a1, rV (gv w1 (gv w1 a0 0) (Int.tmod (w32 ((w32 ((gv w a0 1) + (gv w a0 2))) - 1)) 8))]) (fun w2 =>
  some (.inr (some (iV 1), w2))) else none else none else none) else none else none else none else none else none else none else none := by
  rfl
set_option maxRecDepth 100000 in
theorem eX4_init_0 (C : sC) (w : sW) (a0 : Int) : sg C mX4_init 2000 0 [some (rV a0)] [] w =
  if kd w a0 = 4 then
  if 0 ≤ (0 : Int) ∧ (0 : Int) ≤ 100000 then
  wl (al w 20 0 (Int.toNat 0)) (fun w1 =>
  if kd w1 a0 = 4 then
  wl (sv w1 a0 0 (nx w)) (fun w2 =>
  some (.inr (none, w2))) else none) else none else none := by
  rfl
set_option maxRecDepth 100000 in
theorem eX4_open_0 (C : sC) (w : sW) (a0 a1 a2 a3 : Int) : sg C mX4_open 2000 0 [some (rV a0), some (rV a1), some (iV a2), some (iV a3)] [] w =
  if kd w a0 = 4 then
  wl (sv w a0 0 a1) (fun w1 =>
  if 20 ≤ kd w1 a1 ∧ kd w1 a1 ≤ 27 then
  if a2 < (ln w1 a1) then
   (if kd w1 a0 = 4 then
   wl (sv w1 a0 1 a2) (fun w2 =>
   if kd w2 a0 = 4 then
   wl (sv w2 a0 2 a3) (fun w3 =>
   if kd w3 a0 = 4 then
   wl (sv w3 a0 3 0) (fun w4 =>
   if kd w4 a0 = 4 then
   wl (sv w4 a0 10 0) (fun w5 =>
   if kd w5 a0 = 4 then
   wl (sv w5 a0 11 0) (fun w6 =>
   if kd w6 a0 = 4 then
   bN (C 16 w6 [rV a0]) (fun w7 =>
   some (.inr (none, w7))) else none) else none) else none) else none) else none) else none)
  else
  if 20 ≤ kd w1 a1 ∧ kd w1 a1 ≤ 27 then
  if kd w1 a0 = 4 then
  wl (sv w1 a0 1 (ln w1 a1)) (fun w8 =>
  if kd w8 a0 = 4 then
  wl (sv w8 a0 2 a3) (fun w9 =>
  if kd w9 a0 = 4 then
  wl (sv w9 a0 3 0) (fun w10 =>
  if kd w10 a0 = 4 then
  wl (sv w10 a0 10 0) (fun w11 =>
  if kd w11 a0 = 4 then
  wl (sv w11 a0 11 0) (fun w12 =>
  if kd w12 a0 = 4 then
  bN (C 16 w12 [rV a0]) (fun w13 =>
  some (.inr (none, w13))) else none) else none) else none) else none) else none) else none else none else none) else none := by
  rfl
set_option maxRecDepth 100000 in
theorem eX4_advance_0 (C : sC) (w : sW) (a0 : Int) : sg C mX4_advance 2000 0 [some (rV a0), none] [] w =
  if kd w a0 = 4 then
  if kd w a0 = 4 then
  if (gv w a0 1) < (gv w a0 2) then
   (if kd w a0 = 4 then
   some (.inl (23, [some (rV a0), some (iV (gv w a0 1))], [], w)) else none)
  else
  if kd w a0 = 4 then
  some (.inl (23, [some (rV a0), some (iV (gv w a0 2))], [], w)) else none else none else none := by
  rfl
set_option maxRecDepth 100000 in
theorem eX4_advance_23 (C : sC) (w : sW) (a0 a1 : Int) : sg C mX4_advance 2000 23 [some (rV a0), some (iV a1)] [] w =
  if kd w a0 = 4 then
  if (gv w a0 3) < a1 then
   (if kd w a0 = 4 then
   if kd w a0 = 4 then
   if kd w (gv w a0 0) = 20 ∧ 0 ≤ (gv w a0 3) ∧ (gv w a0 3) < ln w (gv w a0 0) then
   if (gv w (gv w a0 0) (gv w a0 3)) = 32 then
    (if kd w a0 = 4 then
    if kd w a0 = 4 then
    wl (sv w a0 3 (w32 ((gv w a0 3) + 1))) (fun w1 =>
    some (.inl (23, [some (rV a0), some (iV a1)], [], w1))) else none else none)
   else
   if kd w a0 = 4 then
   if kd w a0 = 4 then
   if kd w (gv w a0 0) = 20 ∧ 0 ≤ (gv w a0 3) ∧ (gv w a0 3) < ln w (gv w a0 0) then
   if (gv w (gv w a0 0) (gv w a0 3)) = 10 then
    (if kd w a0 = 4 then
    if kd w a0 = 4 then
    wl (sv w a0 3 (w32 ((gv w a0 3) + 1))) (fun w2 =>
    some (.inl (23, [some (rV a0), some (iV a1)], [], w2))) else none else none)
   else
   some (.inl (72, [some (rV a0), some (iV a1)], [], w)) else none else none else none else none else none else none)
  else
  some (.inl (72, [some (rV a0), some (iV a1)], [], w)) else none := by
  rfl
set_option maxRecDepth 100000 in
theorem eX4_advance_72 (C : sC) (w : sW) (a0 a1 : Int) : sg C mX4_advance 2000 72 [some (rV a0), some (iV a1)] [] w =
  if kd w a0 = 4 then
  wl (sv w a0 9 0) (fun w1 =>
  if kd w1 a0 = 4 then
  if (gv w1 a0 3) < a1 then
   (if kd w1 a0 = 4 then
   if kd w1 a0 = 4 then
   wl (sv w1 a0 5 (gv w1 a0 3)) (fun w2 =>
   if kd w2 a0 = 4 then
   bN (C 17 w2 [rV a0]) (fun w3 =>
   if kd w3 a0 = 4 then
   if kd w3 a0 = 4 then
   if (gv w3 a0 3) = (gv w3 a0 5) then
    (if kd w3 a0 = 4 then
    if kd w3 a0 = 4 then
    if kd w3 (gv w3 a0 0) = 20 ∧ 0 ≤ (gv w3 a0 3) ∧ (gv w3 a0 3) < ln w3 (gv w3 a0 0) then
    if kd w3 a0 = 4 then
    wl (sv w3 a0 7 (gv w3 (gv w3 a0 0) (gv w3 a0 3))) (fun w4 =>
    if kd w4 a0 = 4 then
    bI (C 18 w4 [iV (gv w4 a0 7)]) (fun x6 w5 =>
    if x6 = 0 then
     (if kd w5 a0 = 4 then
     wl (sv w5 a0 4 1) (fun w7 =>
     if kd w7 a0 = 4 then
     if kd w7 a0 = 4 then
     wl (sv w7 a0 3 (w32 ((gv w7 a0 3) + 1))) (fun w8 =>
     if kd w8 a0 = 4 then
     if (gv w8 a0 4) = 2 then
      (if kd w8 a0 = 4 then
      bR (C 94 w8 [lV (gv w8 a0 8)]) (fun r10 w9 =>
      if kd w9 a0 = 4 then
      wl (sv w9 a0 9 r10) (fun w11 =>
      some (.inr (none, w11))) else none) else none)
     else
     if kd w8 a0 = 4 then
     wl (sv w8 a0 9 0) (fun w12 =>
     some (.inr (none, w12))) else none else none) else none else none) else none)
    else
    if kd w5 a0 = 4 then
    wl (sv w5 a0 4 4) (fun w13 =>
    if kd w13 a0 = 4 then
    if kd w13 a0 = 4 then
    wl (sv w13 a0 3 (w32 ((gv w13 a0 3) + 1))) (fun w14 =>
    if kd w14 a0 = 4 then
    if (gv w14 a0 4) = 2 then
     (if kd w14 a0 = 4 then
     bR (C 94 w14 [lV (gv w14 a0 8)]) (fun r16 w15 =>
     if kd w15 a0 = 4 then
     wl (sv w15 a0 9 r16) (fun w17 =>
     some (.inr (none, w17))) else none) else none)
    else
    if kd w14 a0 = 4 then
    wl (sv w14 a0 9 0) (fun w18 =>
    some (.inr (none, w18))) else none else none) else none else none) else none) else none) else none else none else none else none)
   else
   if kd w3 a0 = 4 then
   if (gv w3 a0 4) = 2 then
    (if kd w3 a0 = 4 then
    bR (C 94 w3 [lV (gv w3 a0 8)]) (fun r20 w19 =>
    if kd w19 a0 = 4 then
    wl (sv w19 a0 9 r20) (fun w21 =>
    some (.inr (none, w21))) else none) else none)
   else
   if kd w3 a0 = 4 then
   wl (sv w3 a0 9 0) (fun w22 =>
   some (.inr (none, w22))) else none else none else none else none) else none) else none else none)
  else
  if kd w1 a0 = 4 then
  wl (sv w1 a0 5 a1) (fun w23 =>
  if kd w23 a0 = 4 then
  if kd w23 a0 = 4 then
  if (gv w23 a0 2) < (gv w23 a0 1) then
   (if kd w23 a0 = 4 then
   wl (sv w23 a0 4 1) (fun w24 =>
   some (.inr (none, w24))) else none)
  else
  if kd w23 a0 = 4 then
  wl (sv w23 a0 4 0) (fun w25 =>
  some (.inr (none, w25))) else none else none else none) else none else none) else none := by
  rfl
set_option maxRecDepth 100000 in
theorem eX4_readLettersAndDigits_0 (C : sC) (w : sW) (a0 : Int) : sg C mX4_readLettersAndDigits 2000 0 [some (rV a0), none, none, none, none] [] w =
  if kd w a0 = 4 then
  wl (sv w a0 8 0) (fun w1 =>
  if kd w1 a0 = 4 then
  wl (sv w1 a0 6 0) (fun w2 =>
  some (.inl (14, [some (rV a0), some (iV 0), some (iV 0), none, none], [], w2))) else none) else none := by
  rfl
set_option maxRecDepth 100000 in
theorem eX4_readLettersAndDigits_14 (C : sC) (w : sW) (a0 a1 a2 : Int) : sg C mX4_readLettersAndDigits 2000 14 [some (rV a0), some (iV a1), some (iV a2), none, none] [] w =
  if kd w a0 = 4 then
  if kd w a0 = 4 then
  if (gv w a0 3) < (gv w a0 1) then
   (if kd w a0 = 4 then
   if kd w a0 = 4 then
   if kd w (gv w a0 0) = 20 ∧ 0 ≤ (gv w a0 3) ∧ (gv w a0 3) < ln w (gv w a0 0) then
   if (gv w (gv w a0 0) (gv w a0 3)) < 97 then
    (if (gv w (gv w a0 0) (gv w a0 3)) < 48 then
     (some (.inl (117, [some (rV a0), some (iV a1), some (iV a2), none, none], [], w)))
    else
    if 57 < (gv w (gv w a0 0) (gv w a0 3)) then
     (some (.inl (117, [some (rV a0), some (iV a1), some (iV a2), none, none], [], w)))
    else
    if kd w a0 = 4 then
    if kd w a0 = 4 then
    wl (sv w a0 6 (w32 ((w32 ((gv w a0 6) * 10)) + (w32 ((gv w (gv w a0 0) (gv w a0 3)) - 48))))) (fun w1 =>
    if kd w1 a0 = 4 then
    if kd w1 a0 = 4 then
    wl (sv w1 a0 3 (w32 ((gv w1 a0 3) + 1))) (fun w2 =>
    some (.inl (14, [some (rV a0), some (iV a1), some (iV (w32 (a2 + 1))), none, none], [], w2))) else none else none) else none else none)
   else
   if 122 < (gv w (gv w a0 0) (gv w a0 3)) then
    (if (gv w (gv w a0 0) (gv w a0 3)) < 48 then
     (some (.inl (117, [some (rV a0), some (iV a1), some (iV a2), none, none], [], w)))
    else
    if 57 < (gv w (gv w a0 0) (gv w a0 3)) then
     (some (.inl (117, [some (rV a0), some (iV a1), some (iV a2), none, none], [], w)))
    else
    if kd w a0 = 4 then
    if kd w a0 = 4 then
    wl (sv w a0 6 (w32 ((w32 ((gv w a0 6) * 10)) + (w32 ((gv w (gv w a0 0) (gv w a0 3)) - 48))))) (fun w3 =>
    if kd w3 a0 = 4 then
    if kd w3 a0 = 4 then
    wl (sv w3 a0 3 (w32 ((gv w3 a0 3) + 1))) (fun w4 =>
    some (.inl (14, [some (rV a0), some (iV a1), some (iV (w32 (a2 + 1))), none, none], [], w4))) else none else none) else none else none)
   else
   if kd w a0 = 4 then
   if kd w a0 = 4 then
   wl (sv w a0 8 (w64 ((w64 ((gv w a0 8) * 32)) + (w32 ((w32 ((gv w (gv w a0 0) (gv w a0 3)) - 97)) + 1))))) (fun w5 =>
   if kd w5 a0 = 4 then
   if kd w5 a0 = 4 then
   wl (sv w5 a0 3 (w32 ((gv w5 a0 3) + 1))) (fun w6 =>
   some (.inl (14, [some (rV a0), some (iV (w32 (a1 + 1))), some (iV a2), none, none], [], w6))) else none else none) else none else none else none else none else none)
  else
  some (.inl (117, [some (rV a0), some (iV a1), some (iV a2), none, none], [], w)) else none else none := by
  rfl
set_option maxRecDepth 100000 in
theorem eX4_readLettersAndDigits_117 (C : sC) (w : sW) (a0 a1 a2 : Int) : sg C mX4_readLettersAndDigits 2000 117 [some (rV a0), some (iV a1), some (iV a2), none, none] [] w =
  if a2 = 0 then
   (if a1 < 1 then
    (some (.inl (137, [some (rV a0), some (iV a1), some (iV a2), none, none], [iV 0], w)))
   else
   if 7 < a1 then
    (some (.inl (137, [some (rV a0), some (iV a1), some (iV a2), none, none], [iV 0], w)))
   else
   some (.inl (137, [some (rV a0), some (iV a1), some (iV a2), none, none], [iV 1], w)))
  else
  some (.inl (137, [some (rV a0), some (iV a1), some (iV a2), none, none], [iV 0], w)) := by
  rfl
set_option maxRecDepth 100000 in
theorem eX4_readLettersAndDigits_137 (C : sC) (w : sW) (a0 a1 a2 b0 : Int) : sg C mX4_readLettersAndDigits 2000 137 [some (rV a0), some (iV a1), some (iV a2), none, none] [iV b0] w =
  if a1 = 0 then
   (if a2 < 1 then
    (if b0 = 0 then
     (if (0 : Int) = 0 then
      (if kd w a0 = 4 then
      wl (sv w a0 4 1) (fun w1 =>
      some (.inr (none, w1))) else none)
     else
     if kd w a0 = 4 then
     wl (sv w a0 4 3) (fun w2 =>
     some (.inr (none, w2))) else none)
    else
    if kd w a0 = 4 then
    wl (sv w a0 4 2) (fun w3 =>
    some (.inr (none, w3))) else none)
   else
   if 3 < a2 then
    (if b0 = 0 then
     (if (0 : Int) = 0 then
      (if kd w a0 = 4 then
      wl (sv w a0 4 1) (fun w4 =>
      some (.inr (none, w4))) else none)
     else
     if kd w a0 = 4 then
     wl (sv w a0 4 3) (fun w5 =>
     some (.inr (none, w5))) else none)
    else
    if kd w a0 = 4 then
    wl (sv w a0 4 2) (fun w6 =>
    some (.inr (none, w6))) else none)
   else
   if b0 = 0 then
    (if (1 : Int) = 0 then
     (if kd w a0 = 4 then
     wl (sv w a0 4 1) (fun w7 =>
     some (.inr (none, w7))) else none)
    else
    if kd w a0 = 4 then
    wl (sv w a0 4 3) (fun w8 =>
    some (.inr (none, w8))) else none)
   else
   if kd w a0 = 4 then
   wl (sv w a0 4 2) (fun w9 =>
   some (.inr (none, w9))) else none)
  else
  if b0 = 0 then
   (if (0 : Int) = 0 then
    (if kd w a0 = 4 then
    wl (sv w a0 4 1) (fun w10 =>
    some (.inr (none, w10))) else none)
   else
   if kd w a0 = 4 then
   wl (sv w a0 4 3) (fun w11 =>
   some (.inr (none, w11))) else none)
  else
  if kd w a0 = 4 then
  wl (sv w a0 4 2) (fun w12 =>
  some (.inr (none, w12))) else none := by
  rfl
set_option maxRecDepth 100000 in
theorem eX4_isSign_0 (C : sC) (w : sW) (a0 : Int) : sg C mX4_isSign 2000 0 [some (iV a0)] [] w =
  if a0 = 59 then
   (some (.inr (some (iV 1), w)))
  else
  if a0 = 60 then
   (some (.inr (some (iV 1), w)))
  else
  if a0 = 61 then
   (some (.inr (some (iV 1), w)))
  else
  if a0 = 62 then
   (some (.inr (some (iV 1), w)))
  else
  if a0 = 40 then
   (some (.inr (some (iV 1), w)))
  else
  if a0 = 41 then
   (some (.inr (some (iV 1), w)))
  else
  some (.inr (some (iV 0), w)) := by
  rfl
set_option maxRecDepth 100000 in
theorem eX4_goesOn_0 (C : sC) (w : sW) (a0 : Int) : sg C mX4_goesOn 2000 0 [some (rV a0)] [] w =
  if kd w a0 = 4 then
  if (gv w a0 10) = 0 then
   (if kd w a0 = 4 then
   if (gv w a0 4) = 0 then
    (some (.inr (some (iV 0), w)))
   else
   some (.inr (some (iV 1), w)) else none)
  else
  some (.inr (some (iV 0), w)) else none := by
  rfl
set_option maxRecDepth 100000 in
theorem eX4_fail_0 (C : sC) (w : sW) (a0 a1 : Int) : sg C mX4_fail 2000 0 [some (rV a0), some (iV a1)] [] w =
  if kd w a0 = 4 then
  if (gv w a0 10) = 0 then
   (if kd w a0 = 4 then
   wl (sv w a0 10 a1) (fun w1 =>
   if kd w1 a0 = 4 then
   if kd w1 a0 = 4 then
   wl (sv w1 a0 11 (gv w1 a0 5)) (fun w2 =>
   some (.inr (none, w2))) else none else none) else none)
  else
  some (.inr (none, w)) else none := by
  rfl
set_option maxRecDepth 100000 in
theorem eX4_isAtName_0 (C : sC) (w : sW) (a0 : Int) : sg C mX4_isAtName 2000 0 [some (rV a0)] [] w =
  if kd w a0 = 4 then
  if (gv w a0 4) = 2 then
   (if kd w a0 = 4 then
   if (gv w a0 9) = 0 then
    (some (.inr (some (iV 1), w)))
   else
   some (.inr (some (iV 0), w)) else none)
  else
  some (.inr (some (iV 0), w)) else none := by
  rfl
set_option maxRecDepth 100000 in
theorem eX4_isAtSign_0 (C : sC) (w : sW) (a0 a1 : Int) : sg C mX4_isAtSign 2000 0 [some (rV a0), some (iV a1)] [] w =
  if kd w a0 = 4 then
  if (gv w a0 4) = 4 then
   (if kd w a0 = 4 then
   if (gv w a0 7) = a1 then
    (some (.inr (some (iV 1), w)))
   else
   some (.inr (some (iV 0), w)) else none)
  else
  some (.inr (some (iV 0), w)) else none := by
  rfl
set_option maxRecDepth 100000 in
theorem eX4_takeSign_0 (C : sC) (w : sW) (a0 a1 : Int) : sg C mX4_takeSign 2000 0 [some (rV a0), some (iV a1)] [] w =
  if kd w a0 = 4 then
  if (gv w a0 10) = 0 then
   (if kd w a0 = 4 then
   bI (C 22 w [rV a0, iV a1]) (fun x2 w1 =>
   if x2 = 0 then
    (if kd w1 a0 = 4 then
    bN (C 20 w1 [rV a0, iV 1]) (fun w3 =>
    some (.inr (none, w3))) else none)
   else
   if kd w1 a0 = 4 then
   bN (C 16 w1 [rV a0]) (fun w4 =>
   some (.inr (none, w4))) else none) else none)
  else
  some (.inr (none, w)) else none := by
  rfl
set_option maxRecDepth 100000 in
theorem eX4_takeComparison_0 (C : sC) (w : sW) (a0 : Int) : sg C mX4_takeComparison 2000 0 [some (rV a0), none] [] w =
  if kd w a0 = 4 then
  if (gv w a0 10) = 0 then
   (if kd w a0 = 4 then
   bI (C 22 w [rV a0, iV 60]) (fun x2 w1 =>
   if x2 = 0 then
    (if kd w1 a0 = 4 then
    bI (C 22 w1 [rV a0, iV 61]) (fun x4 w3 =>
    if x4 = 0 then
     (if kd w3 a0 = 4 then
     bI (C 22 w3 [rV a0, iV 62]) (fun x6 w5 =>
     if x6 = 0 then
      (if kd w5 a0 = 4 then
      bN (C 20 w5 [rV a0, iV 1]) (fun w7 =>
      some (.inr (some (iV 0), w7))) else none)
     else
     if kd w5 a0 = 4 then
     if kd w5 a0 = 4 then
     bN (C 16 w5 [rV a0]) (fun w8 =>
     some (.inr (some (iV (gv w5 a0 7)), w8))) else none else none) else none)
    else
    if kd w3 a0 = 4 then
    if kd w3 a0 = 4 then
    bN (C 16 w3 [rV a0]) (fun w9 =>
    some (.inr (some (iV (gv w3 a0 7)), w9))) else none else none) else none)
   else
   if kd w1 a0 = 4 then
   if kd w1 a0 = 4 then
   bN (C 16 w1 [rV a0]) (fun w10 =>
   some (.inr (some (iV (gv w1 a0 7)), w10))) else none else none) else none)
  else
  some (.inr (some (iV 0), w)) else none := by
  rfl
set_option maxRecDepth 100000 in
theorem eX4_takeNumber_0 (C : sC) (w : sW) (a0 a1 a2 : Int) : sg C mX4_takeNumber 2000 0 [some (rV a0), some (iV a1), some (iV a2), none] [] w =
  if kd w a0 = 4 then
  if (gv w a0 10) = 0 then
   (if kd w a0 = 4 then
   if (gv w a0 4) = 3 then
    (if kd w a0 = 4 then
    if (gv w a0 6) < a1 then
     (if kd w a0 = 4 then
     bN (C 20 w [rV a0, iV 2]) (fun w1 =>
     some (.inr (some (iV (-1)), w1))) else none)
    else
    if kd w a0 = 4 then
    if a2 < (gv w a0 6) then
     (if kd w a0 = 4 then
     bN (C 20 w [rV a0, iV 2]) (fun w2 =>
     some (.inr (some (iV (-1)), w2))) else none)
    else
    if kd w a0 = 4 then
    if kd w a0 = 4 then
    bN (C 16 w [rV a0]) (fun w3 =>
    some (.inr (some (iV (gv w a0 6)), w3))) else none else none else none else none)
   else
   if kd w a0 = 4 then
   bN (C 20 w [rV a0, iV 1]) (fun w4 =>
   some (.inr (some (iV (-1)), w4))) else none else none)
  else
  some (.inr (some (iV (-1)), w)) else none := by
  rfl
set_option maxRecDepth 100000 in
theorem eX4_takeRow_0 (C : sC) (w : sW) (a0 a1 a2 : Int) : sg C mX4_takeRow 2000 0 [some (rV a0), some (rV a1), some (iV a2), none] [] w =
  if kd w a0 = 4 then
  if (gv w a0 10) = 0 then
   (if kd w a0 = 4 then
   bI (C 21 w [rV a0]) (fun x2 w1 =>
   if x2 = 0 then
    (if kd w1 a0 = 4 then
    bN (C 20 w1 [rV a0, iV 1]) (fun w3 =>
    some (.inr (some (iV (-1)), w3))) else none)
   else
   if kd w1 a0 = 4 then
   if kd w1 a1 = 8 then
   bI (C 78 w1 [rV a1, lV (gv w1 a0 8)]) (fun x5 w4 =>
   if x5 = (-1) then
    (if kd w4 a0 = 4 then
    bN (C 20 w4 [rV a0, iV 3]) (fun w6 =>
    some (.inr (some (iV (-1)), w6))) else none)
   else
   if x5 = a2 then
    (if kd w4 a0 = 4 then
    bN (C 20 w4 [rV a0, iV 3]) (fun w7 =>
    some (.inr (some (iV (-1)), w7))) else none)
   else
   if kd w4 a0 = 4 then
   bN (C 16 w4 [rV a0]) (fun w8 =>
   some (.inr (some (iV x5), w8))) else none) else none else none) else none)
  else
  some (.inr (some (iV (-1)), w)) else none := by
  rfl
set_option maxRecDepth 100000 in
theorem eX4_lettersOfWord_0 (C : sC) (w : sW) (a0 : Int) : sg C mX4_lettersOfWord 2000 0 [some (rV a0)] [] w =
  if kd w a0 = 4 then
  if kd w a0 = 4 then
  some (.inr (some (iV (w32 ((gv w a0 3) - (gv w a0 5)))), w)) else none else none := by
  rfl
set_option maxRecDepth 100000 in
theorem eX4_letterOfWord_0 (C : sC) (w : sW) (a0 a1 : Int) : sg C mX4_letterOfWord 2000 0 [some (rV a0), some (iV a1), none] [] w =
  if kd w a0 = 4 then
  if (w32 ((gv w a0 5) + a1)) < 0 then
   (some (.inr (some (iV 0), w)))
  else
  if kd w a0 = 4 then
  if (w32 ((gv w a0 5) + a1)) < (gv w a0 1) then
   (if kd w a0 = 4 then
   if kd w (gv w a0 0) = 20 ∧ 0 ≤ (w32 ((gv w a0 5) + a1)) ∧ (w32 ((gv w a0 5) + a1)) < ln w (gv w a0 0) then
   some (.inr (some (iV (gv w (gv w a0 0) (w32 ((gv w a0 5) + a1)))), w)) else none else none)
  else
  some (.inr (some (iV 0), w)) else none else none := by
  rfl
set_option maxRecDepth 100000 in
theorem eX5_init_0 (C : sC) (w : sW) (a0 : Int) : sg C mX5_init 2000 0 [some (rV a0)] [] w =
  if kd w a0 = 5 then
  if 0 ≤ (600 : Int) ∧ (600 : Int) ≤ 100000 then
  wl (al w 21 600 (Int.toNat 600)) (fun w1 =>
  if kd w1 a0 = 5 then
  wl (sv w1 a0 0 (nx w)) (fun w2 =>
  if 0 ≤ (152 : Int) ∧ (152 : Int) ≤ 100000 then
  wl (al w2 20 152 (Int.toNat 152)) (fun w3 =>
  if kd w3 a0 = 5 then
  wl (sv w3 a0 1 (nx w2)) (fun w4 =>
  some (.inr (none, w4))) else none) else none) else none) else none else none := by
  rfl
set_option maxRecDepth 100000 in
theorem eX5_clear_0 (C : sC) (w : sW) (a0 : Int) : sg C mX5_clear 2000 0 [some (rV a0)] [] w =
  if kd w a0 = 5 then
  wl (sv w a0 2 0) (fun w1 =>
  if kd w1 a0 = 5 then
  wl (sv w1 a0 3 0) (fun w2 =>
  some (.inr (none, w2))) else none) else none := by
  rfl
set_option maxRecDepth 100000 in
theorem eX5_copyFrom_0 (C : sC) (w : sW) (a0 a1 : Int) : sg C mX5_copyFrom 2000 0 [some (rV a0), some (rV a1)] [] w =
  if kd w a1 = 5 then
  if kd w a0 = 5 then
  if kd w a1 = 5 then
  if ((kd w (gv w a1 0) = 20 ∧ kd w (gv w a0 0) = 20) ∨ (kd w (gv w a1 0) = 21 ∧ kd w (gv w a0 0) = 21)) ∧ 32 ≤ (gv w a1 0) ∧ 32 ≤ (gv w a0 0) ∧ 0 ≤ (0 : Int) ∧ 0 ≤ (0 : Int) ∧ 0 ≤ (gv w a1 2) ∧ 0 + (gv w a1 2) ≤ ln w (gv w a1 0) ∧ 0 + (gv w a1 2) ≤ ln w (gv w a0 0) then
  wl (cp w (gv w a1 0) 0 (gv w a0 0) 0 (gv w a1 2)) (fun w1 =>
  if kd w1 a1 = 5 then
  if kd w1 a0 = 5 then
  if kd w1 a1 = 5 then
  if ((kd w1 (gv w1 a1 1) = 20 ∧ kd w1 (gv w1 a0 1) = 20) ∨ (kd w1 (gv w1 a1 1) = 21 ∧ kd w1 (gv w1 a0 1) = 21)) ∧ 32 ≤ (gv w1 a1 1) ∧ 32 ≤ (gv w1 a0 1) ∧ 0 ≤ (0 : Int) ∧ 0 ≤ (0 : Int) ∧ 0 ≤ (gv w1 a1 3) ∧ 0 + (gv w1 a1 3) ≤ ln w1 (gv w1 a1 1) ∧ 0 + (gv w1 a1 3) ≤ ln w1 (gv w1 a0 1) then
  wl (cp w1 (gv w1 a1 1) 0 (gv w1 a0 1) 0 (gv w1 a1 3)) (fun w2 =>
  if kd w2 a1 = 5 then
  if kd w2 a0 = 5 then
  wl (sv w2 a0 2 (gv w2 a1 2)) (fun w3 =>
  if kd w3 a1 = 5 then
  if kd w3 a0 = 5 then
  wl (sv w3 a0 3 (gv w3 a1 3)) (fun w4 =>
  some (.inr (none, w4))) else none else none) else none else none) else none else none else none else none) else none else none else none else none := by
  rfl
set_option maxRecDepth 100000 in
theorem eX5_hasGap_0 (C : sC) (w : sW) (a0 a1 : Int) : sg C mX5_hasGap 2000 0 [some (rV a0), some (iV a1)] [] w =
  if a1 < 0 then
   (some (.inr (some (iV 0), w)))
  else
  if kd w a0 = 5 then
  if (gv w a0 2) < a1 then
   (some (.inr (some (iV 0), w)))
  else
  some (.inr (some (iV 1), w)) else none := by
  rfl
set_option maxRecDepth 100000 in
theorem eX5_hasRange_0 (C : sC) (w : sW) (a0 a1 a2 : Int) : sg C mX5_hasRange 2000 0 [some (rV a0), some (iV a1), some (iV a2)] [] w =
  if a1 < 0 then
   (some (.inr (some (iV 0), w)))
  else
  if a2 < 0 then
   (some (.inr (some (iV 0), w)))
  else
  if kd w a0 = 5 then
  if (w32 ((gv w a0 2) - a2)) < a1 then
   (some (.inr (some (iV 0), w)))
  else
  some (.inr (some (iV 1), w)) else none := by
  rfl
set_option maxRecDepth 100000 in
theorem eX5_bitAt_0 (C : sC) (w : sW) (a0 a1 : Int) : sg C mX5_bitAt 2000 0 [some (rV a0), some (iV a1)] [] w =
  if a1 < 0 then
   (some (.inr (some (iV (-1)), w)))
  else
  if kd w a0 = 5 then
  if a1 < (gv w a0 2) then
   (if kd w a0 = 5 then
   if (kd w (gv w a0 0) = 21 ∨ kd w (gv w a0 0) = 23) ∧ 0 ≤ a1 ∧ a1 < ln w (gv w a0 0) then
   some (.inr (some (iV (gv w (gv w a0 0) a1)), w)) else none else none)
  else
  some (.inr (some (iV (-1)), w)) else none := by
  rfl
set_option maxRecDepth 100000 in
theorem eX5_countIn_0 (C : sC) (w : sW) (a0 a1 a2 a3 : Int) : sg C mX5_countIn 2000 0 [some (rV a0), some (iV a1), some (iV a2), some (iV a3), none, none] [] w =
  if kd w a0 = 5 then
  bI (C 33 w [rV a0, iV a1, iV a2]) (fun x2 w1 =>
  if x2 = 0 then
   (some (.inr (some (iV 0), w1)))
  else
  some (.inl (15, [some (rV a0), some (iV a1), some (iV a2), some (iV a3), some (iV 0), some (iV a1)], [], w1))) else none := by
  rfl
set_option maxRecDepth 100000 in
theorem eX5_countIn_15 (C : sC) (w : sW) (a0 a1 a2 a3 a4 a5 : Int) : sg C mX5_countIn 2000 15 [some (rV a0), some (iV a1), some (iV a2), some (iV a3), some (iV a4), some (iV a5)] [] w =
  if a5 < (w32 (a1 + a2)) then
   (if kd w a0 = 5 then
   if (kd w (gv w a0 0) = 21 ∨ kd w (gv w a0 0) = 23) ∧ 0 ≤ a5 ∧ a5 < ln w (gv w a0 0) then
   if (gv w (gv w a0 0) a5) = a3 then
    (some (.inl (15, [some (rV a0), some (iV a1), some (iV a2), some (iV a3), some (iV (w32 (a4 + 1))), some (iV (w32 (a5 + 1)))], [], w)))
   else
   some (.inl (15, [some (rV a0), some (iV a1), some (iV a2), some (iV a3), some (iV a4), some (iV (w32 (a5 + 1)))], [], w)) else none else none)
  else
  some (.inr (some (iV a4), w)) := by
  rfl
set_option maxRecDepth 100000 in
theorem eX5_placeOf_0 (C : sC) (w : sW) (a0 a1 a2 : Int) : sg C mX5_placeOf 2000 0 [some (rV a0), some (iV a1), some (iV a2), none, none] [] w =
  some (.inl (5, [some (rV a0), some (iV a1), some (iV a2), some (iV 0), some (iV 0)], [], w)) := by
  rfl
set_option maxRecDepth 100000 in
theorem eX5_placeOf_5 (C : sC) (w : sW) (a0 a1 a2 a3 a4 : Int) : sg C mX5_placeOf 2000 5 [some (rV a0), some (iV a1), some (iV a2), some (iV a3), some (iV a4)] [] w =
  if kd w a0 = 5 then
  if a4 < (gv w a0 2) then
   (if kd w a0 = 5 then
   if (kd w (gv w a0 0) = 21 ∨ kd w (gv w a0 0) = 23) ∧ 0 ≤ a4 ∧ a4 < ln w (gv w a0 0) then
   if (gv w (gv w a0 0) a4) = a2 then
    (if a3 = a1 then
     (some (.inr (some (iV a4), w)))
    else
    some (.inl (5, [some (rV a0), some (iV a1), some (iV a2), some (iV (w32 (a3 + 1))), some (iV (w32 (a4 + 1)))], [], w)))
   else
   some (.inl (5, [some (rV a0), some (iV a1), some (iV a2), some (iV a3), some (iV (w32 (a4 + 1)))], [], w)) else none else none)
  else
  some (.inr (some (iV (-1)), w)) else none := by
  rfl
set_option maxRecDepth 100000 in
theorem eX5_nextPlace_0 (C : sC) (w : sW) (a0 a1 a2 : Int) : sg C mX5_nextPlace 2000 0 [some (rV a0), some (iV a1), some (iV a2), none] [] w =
  if a1 < 0 then
   (some (.inr (some (iV (-1)), w)))
  else
  some (.inl (8, [some (rV a0), none, some (iV a2), some (iV a1)], [], w)) := by
  rfl
set_option maxRecDepth 100000 in
theorem eX5_nextPlace_8 (C : sC) (w : sW) (a0 a2 a3 : Int) : sg C mX5_nextPlace 2000 8 [some (rV a0), none, some (iV a2), some (iV a3)] [] w =
  if kd w a0 = 5 then
  if a3 < (gv w a0 2) then
   (if kd w a0 = 5 then
   if (kd w (gv w a0 0) = 21 ∨ kd w (gv w a0 0) = 23) ∧ 0 ≤ a3 ∧ a3 < ln w (gv w a0 0) then
   if (gv w (gv w a0 0) a3) = a2 then
    (some (.inr (some (iV a3), w)))
   else
   some (.inl (8, [some (rV a0), none, some (iV a2), some (iV (w32 (a3 + 1)))], [], w)) else none else none)
  else
  some (.inr (some (iV (-1)), w)) else none := by
  rfl
set_option maxRecDepth 100000 in
theorem eX5_runCount_0 (C : sC) (w : sW) (a0 : Int) : sg C mX5_runCount 2000 0 [some (rV a0), none, none] [] w =
  if kd w a0 = 5 then
  if 0 < (gv w a0 2) then
   (some (.inl (15, [some (rV a0), some (iV 1), some (iV 1)], [], w)))
  else
  some (.inl (15, [some (rV a0), some (iV 0), some (iV 1)], [], w)) else none := by
  rfl
set_option maxRecDepth 100000 in
theorem eX5_runCount_15 (C : sC) (w : sW) (a0 a1 a2 : Int) : sg C mX5_runCount 2000 15 [some (rV a0), some (iV a1), some (iV a2)] [] w =
  if kd w a0 = 5 then
  if a2 < (gv w a0 2) then
   (if kd w a0 = 5 then
   if (kd w (gv w a0 0) = 21 ∨ kd w (gv w a0 0) = 23) ∧ 0 ≤ a2 ∧ a2 < ln w (gv w a0 0) then
   if kd w a0 = 5 then
   if (kd w (gv w a0 0) = 21 ∨ kd w (gv w a0 0) = 23) ∧ 0 ≤ (w32 (a2 - 1)) ∧ (w32 (a2 - 1)) < ln w (gv w a0 0) then
   if (gv w (gv w a0 0) a2) = (gv w (gv w a0 0) (w32 (a2 - 1))) then
    (some (.inl (15, [some (rV a0), some (iV a1), some (iV (w32 (a2 + 1)))], [], w)))
   else
   some (.inl (15, [some (rV a0), some (iV (w32 (a1 + 1))), some (iV (w32 (a2 + 1)))], [], w)) else none else none else none else none)
  else
  some (.inr (some (iV a1), w)) else none := by
  rfl
set_option maxRecDepth 100000 in
theorem eX5_longestRun_0 (C : sC) (w : sW) (a0 a1 : Int) : sg C mX5_longestRun 2000 0 [some (rV a0), some (iV a1), none, none, none] [] w =
  some (.inl (7, [some (rV a0), some (iV a1), some (iV 0), some (iV 0), some (iV 0)], [], w)) := by
  rfl
set_option maxRecDepth 100000 in
theorem eX5_longestRun_7 (C : sC) (w : sW) (a0 a1 a2 a3 a4 : Int) : sg C mX5_longestRun 2000 7 [some (rV a0), some (iV a1), some (iV a2), some (iV a3), some (iV a4)] [] w =
  if kd w a0 = 5 then
  if a4 < (gv w a0 2) then
   (if kd w a0 = 5 then
   if (kd w (gv w a0 0) = 21 ∨ kd w (gv w a0 0) = 23) ∧ 0 ≤ a4 ∧ a4 < ln w (gv w a0 0) then
   if (gv w (gv w a0 0) a4) = a1 then
    (some (.inl (7, [some (rV a0), some (iV a1), some (iV (if a2 < (w32 (a3 + 1)) then (w32 (a3 + 1)) else a2)), some (iV (w32 (a3 + 1))), some (iV (w32 (a4 + 1)))], [], w)))
   else
   some (.inl (7, [some (rV a0), some (iV a1), some (iV (if a2 < 0 then 0 else a2)), some (iV 0), some (iV (w32 (a4 + 1)))], [], w)) else none else none)
  else
  some (.inr (some (iV a2), w)) else none := by
  rfl
set_option maxRecDepth 100000 in
theorem eX5_wordFrom_0 (C : sC) (w : sW) (a0 a1 : Int) : sg C mX5_wordFrom 2000 0 [some (rV a0), some (iV a1), none, none] [] w =
  some (.inl (4, [some (rV a0), some (iV a1), some (iV 0), some (iV a1)], [], w)) := by
  rfl
set_option maxRecDepth 100000 in
theorem eX5_wordFrom_4 (C : sC) (w : sW) (a0 a1 a2 a3 : Int) : sg C mX5_wordFrom 2000 4 [some (rV a0), some (iV a1), some (iV a2), some (iV a3)] [] w =
  if a3 < (w32 (a1 + 32)) then
   (if kd w a0 = 5 then
   bI (C 34 w [rV a0, iV a3]) (fun x2 w1 =>
   if x2 = 1 then
    (some (.inl (4, [some (rV a0), some (iV a1), some (iV (f_ior (f_ishl a2 1) 1)), some (iV (w32 (a3 + 1)))], [], w1)))
   else
   some (.inl (4, [some (rV a0), some (iV a1), some (iV (f_ior (f_ishl a2 1) 0)), some (iV (w32 (a3 + 1)))], [], w1))) else none)
  else
  some (.inr (some (iV a2), w)) := by
  rfl
set_option maxRecDepth 100000 in
theorem eX5_sumOfPlaces_0 (C : sC) (w : sW) (a0 : Int) : sg C mX5_sumOfPlaces 2000 0 [some (rV a0), none, none] [] w =
  some (.inl (4, [some (rV a0), some (iV 0), some (iV 0)], [], w)) := by
  rfl
set_option maxRecDepth 100000 in
theorem eX5_sumOfPlaces_4 (C : sC) (w : sW) (a0 a1 a2 : Int) : sg C mX5_sumOfPlaces 2000 4 [some (rV a0), some (iV a1), some (iV a2)] [] w =
  if kd w a0 = 5 then
  if a2 < (gv w a0 2) then
   (if kd w a0 = 5 then
   if (kd w (gv w a0 0) = 21 ∨ kd w (gv w a0 0) = 23) ∧ 0 ≤ a2 ∧ a2 < ln w (gv w a0 0) then
   if (gv w (gv w a0 0) a2) = 1 then
    (some (.inl (4, [some (rV a0), some (iV (w32 (a1 + a2))), some (iV (w32 (a2 + 1)))], [], w)))
   else
   some (.inl (4, [some (rV a0), some (iV (w32 (a1 + 0))), some (iV (w32 (a2 + 1)))], [], w)) else none else none)
  else
  some (.inr (some (iV a1), w)) else none := by
  rfl
set_option maxRecDepth 100000 in
theorem eX5_unlikeBits_0 (C : sC) (w : sW) (a0 a1 : Int) : sg C mX5_unlikeBits 2000 0 [some (rV a0), some (rV a1), none, none, none] [] w =
  if kd w a0 = 5 then
  if kd w a1 = 5 then
  if kd w a0 = 5 then
  if kd w a1 = 5 then
  some (.inl (29, [some (rV a0), some (rV a1), some (iV (if (gv w a1 2) < (gv w a0 2) then (gv w a1 2) else (gv w a0 2))), some (iV (w32 ((if (gv w a0 2) < (gv w a1 2) then (gv w a1 2) else (gv w a0 2)) - (if (gv w a1 2) < (gv w a0 2) then (gv w a1 2) else (gv w a0 2))))), some (iV 0)], [], w)) else none else none else none else none := by
  rfl
set_option maxRecDepth 100000 in
theorem eX5_unlikeBits_29 (C : sC) (w : sW) (a0 a1 a2 a3 a4 : Int) : sg C mX5_unlikeBits 2000 29 [some (rV a0), some (rV a1), some (iV a2), some (iV a3), some (iV a4)] [] w =
  if a4 < a2 then
   (if kd w a0 = 5 then
   if (kd w (gv w a0 0) = 21 ∨ kd w (gv w a0 0) = 23) ∧ 0 ≤ a4 ∧ a4 < ln w (gv w a0 0) then
   if kd w a1 = 5 then
   if (kd w (gv w a1 0) = 21 ∨ kd w (gv w a1 0) = 23) ∧ 0 ≤ a4 ∧ a4 < ln w (gv w a1 0) then
   if (gv w (gv w a0 0) a4) = (gv w (gv w a1 0) a4) then
    (some (.inl (29, [some (rV a0), some (rV a1), some (iV a2), some (iV a3), some (iV (w32 (a4 + 1)))], [], w)))
   else
   some (.inl (29, [some (rV a0), some (rV a1), some (iV a2), some (iV (w32 (a3 + 1))), some (iV (w32 (a4 + 1)))], [], w)) else none else none else none else none)
  else
  some (.inr (some (iV a3), w)) := by
  rfl
set_option maxRecDepth 100000 in
theorem eX5_firstUnlike_0 (C : sC) (w : sW) (a0 a1 : Int) : sg C mX5_firstUnlike 2000 0 [some (rV a0), some (rV a1), none, none] [] w =
  if kd w a0 = 5 then
  if kd w a1 = 5 then
  some (.inl (14, [some (rV a0), some (rV a1), some (iV (if (gv w a1 2) < (gv w a0 2) then (gv w a1 2) else (gv w a0 2))), some (iV 0)], [], w)) else none else none := by
  rfl
set_option maxRecDepth 100000 in
theorem eX5_firstUnlike_14 (C : sC) (w : sW) (a0 a1 a2 a3 : Int) : sg C mX5_firstUnlike 2000 14 [some (rV a0), some (rV a1), some (iV a2), some (iV a3)] [] w =
  if a3 < a2 then
   (if kd w a0 = 5 then
   if (kd w (gv w a0 0) = 21 ∨ kd w (gv w a0 0) = 23) ∧ 0 ≤ a3 ∧ a3 < ln w (gv w a0 0) then
   if kd w a1 = 5 then
   if (kd w (gv w a1 0) = 21 ∨ kd w (gv w a1 0) = 23) ∧ 0 ≤ a3 ∧ a3 < ln w (gv w a1 0) then
   if (gv w (gv w a0 0) a3) = (gv w (gv w a1 0) a3) then
    (some (.inl (14, [some (rV a0), some (rV a1), some (iV a2), some (iV (w32 (a3 + 1)))], [], w)))
   else
   some (.inr (some (iV a3), w)) else none else none else none else none)
  else
  if kd w a0 = 5 then
  if kd w a1 = 5 then
  if (gv w a0 2) = (gv w a1 2) then
   (some (.inr (some (iV (-1)), w)))
  else
  some (.inr (some (iV a2), w)) else none else none := by
  rfl
set_option maxRecDepth 100000 in
theorem eX5_beginsWith_0 (C : sC) (w : sW) (a0 a1 : Int) : sg C mX5_beginsWith 2000 0 [some (rV a0), some (rV a1), none] [] w =
  if kd w a0 = 5 then
  bI (C 43 w [rV a0, rV a1]) (fun x2 w1 =>
  if x2 = (-1) then
   (some (.inr (some (iV 1), w1)))
  else
  if kd w1 a1 = 5 then
  if x2 = (gv w1 a1 2) then
   (some (.inr (some (iV 1), w1)))
  else
  some (.inr (some (iV 0), w1)) else none) else none := by
  rfl
set_option maxRecDepth 100000 in
theorem eX5_hasAt_0 (C : sC) (w : sW) (a0 a1 a2 a3 : Int) : sg C mX5_hasAt 2000 0 [some (rV a0), some (iV a1), some (rV a2), some (iV a3), none] [] w =
  if kd w a0 = 5 then
  bI (C 33 w [rV a0, iV a1, iV a3]) (fun x2 w1 =>
  if x2 = 0 then
   (some (.inr (some (iV 0), w1)))
  else
  if 20 ≤ kd w1 a2 ∧ kd w1 a2 ≤ 27 then
  if (ln w1 a2) < a3 then
   (some (.inr (some (iV 0), w1)))
  else
  some (.inl (20, [some (rV a0), some (iV a1), some (rV a2), some (iV a3), some (iV 0)], [], w1)) else none) else none := by
  rfl
set_option maxRecDepth 100000 in
theorem eX5_hasAt_20 (C : sC) (w : sW) (a0 a1 a2 a3 a4 : Int) : sg C mX5_hasAt 2000 20 [some (rV a0), some (iV a1), some (rV a2), some (iV a3), some (iV a4)] [] w =
  if a4 < a3 then
   (if kd w a0 = 5 then
   if (kd w (gv w a0 0) = 21 ∨ kd w (gv w a0 0) = 23) ∧ 0 ≤ (w32 (a1 + a4)) ∧ (w32 (a1 + a4)) < ln w (gv w a0 0) then
   if kd w a2 = 20 ∧ 0 ≤ a4 ∧ a4 < ln w a2 then
   if (gv w (gv w a0 0) (w32 (a1 + a4))) = (gv w a2 a4) then
    (some (.inl (20, [some (rV a0), some (iV a1), some (rV a2), some (iV a3), some (iV (w32 (a4 + 1)))], [], w)))
   else
   some (.inr (some (iV 0), w)) else none else none else none)
  else
  some (.inr (some (iV 1), w)) := by
  rfl
set_option maxRecDepth 100000 in
theorem eX5_leafStart_0 (C : sC) (w : sW) (a0 a1 : Int) : sg C mX5_leafStart 2000 0 [some (rV a0), some (iV a1), none, none] [] w =
  some (.inl (4, [some (rV a0), some (iV a1), some (iV 0), some (iV 0)], [], w)) := by
  rfl
set_option maxRecDepth 100000 in
theorem eX5_leafStart_4 (C : sC) (w : sW) (a0 a1 a2 a3 : Int) : sg C mX5_leafStart 2000 4 [some (rV a0), some (iV a1), some (iV a2), some (iV a3)] [] w =
  if a3 < a1 then
   (if kd w a0 = 5 then
   if a3 < (gv w a0 3) then
    (if kd w a0 = 5 then
    if kd w (gv w a0 1) = 20 ∧ 0 ≤ a3 ∧ a3 < ln w (gv w a0 1) then
    some (.inl (4, [some (rV a0), some (iV a1), some (iV (w32 (a2 + (gv w (gv w a0 1) a3)))), some (iV (w32 (a3 + 1)))], [], w)) else none else none)
   else
   some (.inr (some (iV a2), w)) else none)
  else
  some (.inr (some (iV a2), w)) := by
  rfl
set_option maxRecDepth 100000 in
theorem eX5_leafWith_0 (C : sC) (w : sW) (a0 a1 : Int) : sg C mX5_leafWith 2000 0 [some (rV a0), some (iV a1), none, none, none] [] w =
  if kd w a0 = 5 then
  if kd w a0 = 5 then
  if kd w a0 = 5 then
  if kd w (gv w a0 1) = 20 ∧ 0 ≤ (if (w32 ((gv w a0 3) - 1)) < 0 then 0 else (w32 ((gv w a0 3) - 1))) ∧ (if (w32 ((gv w a0 3) - 1)) < 0 then 0 else (w32 ((gv w a0 3) - 1))) < ln w (gv w a0 1) then
  if a1 < (w32 ((gv w a0 2) - (gv w (gv w a0 1) (if (w32 ((gv w a0 3) - 1)) < 0 then 0 else (w32 ((gv w a0 3) - 1)))))) then
   (some (.inl (33, [some (rV a0), some (iV a1), some (iV (if (w32 ((gv w a0 3) - 1)) < 0 then 0 else (w32 ((gv w a0 3) - 1)))), some (iV 0), some (iV 0)], [], w)))
  else
  some (.inr (some (iV (if (w32 ((gv w a0 3) - 1)) < 0 then 0 else (w32 ((gv w a0 3) - 1)))), w)) else none else none else none else none := by
  rfl
set_option maxRecDepth 100000 in
theorem eX5_leafWith_33 (C : sC) (w : sW) (a0 a1 a2 a3 a4 : Int) : sg C mX5_leafWith 2000 33 [some (rV a0), some (iV a1), some (iV a2), some (iV a3), some (iV a4)] [] w =
  if a4 < a2 then
   (if kd w a0 = 5 then
   if kd w (gv w a0 1) = 20 ∧ 0 ≤ a4 ∧ a4 < ln w (gv w a0 1) then
   if a1 < (w32 (a3 + (gv w (gv w a0 1) a4))) then
    (some (.inr (some (iV a4), w)))
   else
   some (.inl (33, [some (rV a0), some (iV a1), some (iV a2), some (iV (w32 (a3 + (gv w (gv w a0 1) a4)))), some (iV (w32 (a4 + 1)))], [], w)) else none else none)
  else
  some (.inr (some (iV a2), w)) := by
  rfl
set_option maxRecDepth 100000 in
theorem eX5_insert_0 (C : sC) (w : sW) (a0 a1 a2 a3 : Int) : sg C mX5_insert 2000 0 [some (rV a0), some (iV a1), some (iV a2), some (iV a3), none] [] w =
  if kd w a0 = 5 then
  bI (C 32 w [rV a0, iV a1]) (fun x2 w1 =>
  if x2 = 0 then
   (some (.inr (none, w1)))
  else
  if kd w1 a0 = 5 then
  if (gv w1 a0 2) < 600 then
   (if kd w1 a0 = 5 then
   if (gv w1 a0 3) = 0 then
    (if kd w1 a0 = 5 then
    if (kd w1 (gv w1 a0 1) = 20 ∧ 32 ≤ (gv w1 a0 1)) ∧ 0 ≤ (0 : Int) ∧ (0 : Int) < ln w1 (gv w1 a0 1) then
    wl (sv w1 (gv w1 a0 1) 0 0) (fun w3 =>
    if kd w3 a0 = 5 then
    wl (sv w3 a0 3 1) (fun w4 =>
    if a1 = 0 then
     (some (.inl (50, [some (rV a0), some (iV a1), some (iV a2), some (iV a3), none], [iV 0, rV a0], w4)))
    else
    some (.inl (50, [some (rV a0), some (iV a1), some (iV a2), some (iV a3), none], [iV (w32 (a1 - 1)), rV a0], w4))) else none) else none else none)
   else
   if a1 = 0 then
    (some (.inl (50, [some (rV a0), some (iV a1), some (iV a2), some (iV a3), none], [iV 0, rV a0], w1)))
   else
   some (.inl (50, [some (rV a0), some (iV a1), some (iV a2), some (iV a3), none], [iV (w32 (a1 - 1)), rV a0], w1)) else none)
  else
  some (.inr (none, w1)) else none) else none := by
  rfl
set_option maxRecDepth 100000 in
theorem eX5_insert_50 (C : sC) (w : sW) (a0 a1 a2 a3 b0 b1 : Int) : sg C mX5_insert 2000 50 [some (rV a0), some (iV a1), some (iV a2), some (iV a3), none] [iV b0, rV b1] w =
  if kd w b1 = 5 then
  bI (C 47 w [rV b1, iV b0]) (fun x2 w1 =>
  if kd w1 a0 = 5 then
  if kd w1 (gv w1 a0 1) = 20 ∧ 0 ≤ x2 ∧ x2 < ln w1 (gv w1 a0 1) then
  if (kd w1 (gv w1 a0 1) = 20 ∧ 32 ≤ (gv w1 a0 1)) ∧ 0 ≤ x2 ∧ x2 < ln w1 (gv w1 a0 1) then
  wl (sv w1 (gv w1 a0 1) x2 (w32 ((gv w1 (gv w1 a0 1) x2) + 1))) (fun w3 =>
  if kd w3 a0 = 5 then
  bN (C 49 w3 [rV a0, iV x2, iV a3]) (fun w4 =>
  if kd w4 a0 = 5 then
  if kd w4 a0 = 5 then
  if kd w4 a0 = 5 then
  if ((kd w4 (gv w4 a0 0) = 20 ∧ kd w4 (gv w4 a0 0) = 20) ∨ (kd w4 (gv w4 a0 0) = 21 ∧ kd w4 (gv w4 a0 0) = 21)) ∧ 32 ≤ (gv w4 a0 0) ∧ 32 ≤ (gv w4 a0 0) ∧ 0 ≤ a1 ∧ 0 ≤ (w32 (a1 + 1)) ∧ 0 ≤ (w32 ((gv w4 a0 2) - a1)) ∧ a1 + (w32 ((gv w4 a0 2) - a1)) ≤ ln w4 (gv w4 a0 0) ∧ (w32 (a1 + 1)) + (w32 ((gv w4 a0 2) - a1)) ≤ ln w4 (gv w4 a0 0) then
  wl (cp w4 (gv w4 a0 0) a1 (gv w4 a0 0) (w32 (a1 + 1)) (w32 ((gv w4 a0 2) - a1))) (fun w5 =>
  if kd w5 a0 = 5 then
  if -128 ≤ a2 ∧ a2 < 128 then
  if ((kd w5 (gv w5 a0 0) = 21 ∧ -128 ≤ a2 ∧ a2 < 128) ∨ (kd w5 (gv w5 a0 0) = 23 ∧ (a2 = 0 ∨ a2 = 1))) ∧ 0 ≤ a1 ∧ a1 < ln w5 (gv w5 a0 0) then
  wl (sv w5 (gv w5 a0 0) a1 a2) (fun w6 =>
  if kd w6 a0 = 5 then
  if kd w6 a0 = 5 then
  wl (sv w6 a0 2 (w32 ((gv w6 a0 2) + 1))) (fun w7 =>
  some (.inr (none, w7))) else none else none) else none else none else none) else none else none else none else none) else none) else none else none else none) else none := by
  rfl
set_option maxRecDepth 100000 in
theorem eX5_halveIfTooBig_0 (C : sC) (w : sW) (a0 a1 a2 : Int) : sg C mX5_halveIfTooBig 2000 0 [some (rV a0), some (iV a1), some (iV a2), none] [] w =
  if kd w a0 = 5 then
  if kd w (gv w a0 1) = 20 ∧ 0 ≤ a1 ∧ a1 < ln w (gv w a0 1) then
  if (w32 (2 * a2)) < (gv w (gv w a0 1) a1) then
   (if kd w a0 = 5 then
   if (gv w a0 3) < 152 then
    (if kd w a0 = 5 then
    if kd w a0 = 5 then
    if kd w a0 = 5 then
    if ((kd w (gv w a0 1) = 20 ∧ kd w (gv w a0 1) = 20) ∨ (kd w (gv w a0 1) = 21 ∧ kd w (gv w a0 1) = 21)) ∧ 32 ≤ (gv w a0 1) ∧ 32 ≤ (gv w a0 1) ∧ 0 ≤ (w32 (a1 + 1)) ∧ 0 ≤ (w32 (a1 + 2)) ∧ 0 ≤ (w32 ((w32 ((gv w a0 3) - a1)) - 1)) ∧ (w32 (a1 + 1)) + (w32 ((w32 ((gv w a0 3) - a1)) - 1)) ≤ ln w (gv w a0 1) ∧ (w32 (a1 + 2)) + (w32 ((w32 ((gv w a0 3) - a1)) - 1)) ≤ ln w (gv w a0 1) then
    wl (cp w (gv w a0 1) (w32 (a1 + 1)) (gv w a0 1) (w32 (a1 + 2)) (w32 ((w32 ((gv w a0 3) - a1)) - 1))) (fun w1 =>
    if kd w1 a0 = 5 then
    if (2 : Int) = 0 then none else
    if (kd w1 (gv w1 a0 1) = 20 ∧ 32 ≤ (gv w1 a0 1)) ∧ 0 ≤ a1 ∧ a1 < ln w1 (gv w1 a0 1) then
    wl (sv w1 (gv w1 a0 1) a1 (w32 ((gv w (gv w a0 1) a1) - (w32 (Int.tdiv (gv w (gv w a0 1) a1) 2))))) (fun w2 =>
    if kd w2 a0 = 5 then
    if (2 : Int) = 0 then none else
    if (kd w2 (gv w2 a0 1) = 20 ∧ 32 ≤ (gv w2 a0 1)) ∧ 0 ≤ (w32 (a1 + 1)) ∧ (w32 (a1 + 1)) < ln w2 (gv w2 a0 1) then
    wl (sv w2 (gv w2 a0 1) (w32 (a1 + 1)) (w32 (Int.tdiv (gv w (gv w a0 1) a1) 2))) (fun w3 =>
    if kd w3 a0 = 5 then
    if kd w3 a0 = 5 then
    wl (sv w3 a0 3 (w32 ((gv w3 a0 3) + 1))) (fun w4 =>
    some (.inr (none, w4))) else none else none) else none else none) else none else none) else none else none else none else none)
   else
   some (.inr (none, w)) else none)
  else
  some (.inr (none, w)) else none else none := by
  rfl
set_option maxRecDepth 100000 in
theorem eX5_remove_0 (C : sC) (w : sW) (a0 a1 a2 a3 : Int) : sg C mX5_remove 2000 0 [some (rV a0), some (iV a1), some (iV a2), some (iV a3), none, none] [] w =
  if kd w a0 = 5 then
  bI (C 33 w [rV a0, iV a1, iV a2]) (fun x2 w1 =>
  if x2 = 0 then
   (some (.inr (none, w1)))
  else
  if kd w1 a0 = 5 then
  if kd w1 a0 = 5 then
  if kd w1 a0 = 5 then
  if ((kd w1 (gv w1 a0 0) = 20 ∧ kd w1 (gv w1 a0 0) = 20) ∨ (kd w1 (gv w1 a0 0) = 21 ∧ kd w1 (gv w1 a0 0) = 21)) ∧ 32 ≤ (gv w1 a0 0) ∧ 32 ≤ (gv w1 a0 0) ∧ 0 ≤ (w32 (a1 + a2)) ∧ 0 ≤ a1 ∧ 0 ≤ (w32 ((w32 ((gv w1 a0 2) - a1)) - a2)) ∧ (w32 (a1 + a2)) + (w32 ((w32 ((gv w1 a0 2) - a1)) - a2)) ≤ ln w1 (gv w1 a0 0) ∧ a1 + (w32 ((w32 ((gv w1 a0 2) - a1)) - a2)) ≤ ln w1 (gv w1 a0 0) then
  wl (cp w1 (gv w1 a0 0) (w32 (a1 + a2)) (gv w1 a0 0) a1 (w32 ((w32 ((gv w1 a0 2) - a1)) - a2))) (fun w3 =>
  some (.inl (36, [some (rV a0), some (iV a1), some (iV a2), some (iV a3), some (iV 0), none], [], w3))) else none else none else none else none) else none := by
  rfl
set_option maxRecDepth 100000 in
theorem eX5_remove_36 (C : sC) (w : sW) (a0 a1 a2 a3 a4 : Int) : sg C mX5_remove 2000 36 [some (rV a0), some (iV a1), some (iV a2), some (iV a3), some (iV a4), none] [] w =
  if a4 < a2 then
   (if kd w a0 = 5 then
   bI (C 47 w [rV a0, iV a1]) (fun x2 w1 =>
   if kd w1 a0 = 5 then
   if kd w1 (gv w1 a0 1) = 20 ∧ 0 ≤ x2 ∧ x2 < ln w1 (gv w1 a0 1) then
   if (kd w1 (gv w1 a0 1) = 20 ∧ 32 ≤ (gv w1 a0 1)) ∧ 0 ≤ x2 ∧ x2 < ln w1 (gv w1 a0 1) then
   wl (sv w1 (gv w1 a0 1) x2 (w32 ((gv w1 (gv w1 a0 1) x2) - 1))) (fun w3 =>
   if kd w3 a0 = 5 then
   if kd w3 a0 = 5 then
   wl (sv w3 a0 2 (w32 ((gv w3 a0 2) - 1))) (fun w4 =>
   if kd w4 a0 = 5 then
   if kd w4 (gv w4 a0 1) = 20 ∧ 0 ≤ x2 ∧ x2 < ln w4 (gv w4 a0 1) then
   if (gv w4 (gv w4 a0 1) x2) < a3 then
    (if kd w4 a0 = 5 then
    if 1 < (gv w4 a0 3) then
     (if kd w4 a0 = 5 then
     if kd w4 a0 = 5 then
     bN (C 51 w4 [rV a0, iV (if (w32 ((gv w4 a0 3) - 2)) < x2 then (w32 ((gv w4 a0 3) - 2)) else x2), iV a3]) (fun w5 =>
     some (.inl (36, [some (rV a0), some (iV a1), some (iV a2), some (iV a3), some (iV (w32 (a4 + 1))), none], [], w5))) else none else none)
    else
    some (.inl (36, [some (rV a0), some (iV a1), some (iV a2), some (iV a3), some (iV (w32 (a4 + 1))), none], [], w4)) else none)
   else
   some (.inl (36, [some (rV a0), some (iV a1), some (iV a2), some (iV a3), some (iV (w32 (a4 + 1))), none], [], w4)) else none else none) else none else none) else none else none else none) else none)
  else
  if kd w a0 = 5 then
  if (gv w a0 2) = 0 then
   (if kd w a0 = 5 then
   wl (sv w a0 3 0) (fun w6 =>
   some (.inr (none, w6))) else none)
  else
  some (.inr (none, w)) else none := by
  rfl
set_option maxRecDepth 100000 in
theorem eX5_mergeWithNext_0 (C : sC) (w : sW) (a0 a1 a2 : Int) : sg C mX5_mergeWithNext 2000 0 [some (rV a0), some (iV a1), some (iV a2)] [] w =
  if kd w a0 = 5 then
  if kd w (gv w a0 1) = 20 ∧ 0 ≤ a1 ∧ a1 < ln w (gv w a0 1) then
  if kd w a0 = 5 then
  if kd w (gv w a0 1) = 20 ∧ 0 ≤ (w32 (a1 + 1)) ∧ (w32 (a1 + 1)) < ln w (gv w a0 1) then
  if (kd w (gv w a0 1) = 20 ∧ 32 ≤ (gv w a0 1)) ∧ 0 ≤ a1 ∧ a1 < ln w (gv w a0 1) then
  wl (sv w (gv w a0 1) a1 (w32 ((gv w (gv w a0 1) a1) + (gv w (gv w a0 1) (w32 (a1 + 1)))))) (fun w1 =>
  if kd w1 a0 = 5 then
  if kd w1 a0 = 5 then
  if kd w1 a0 = 5 then
  if ((kd w1 (gv w1 a0 1) = 20 ∧ kd w1 (gv w1 a0 1) = 20) ∨ (kd w1 (gv w1 a0 1) = 21 ∧ kd w1 (gv w1 a0 1) = 21)) ∧ 32 ≤ (gv w1 a0 1) ∧ 32 ≤ (gv w1 a0 1) ∧ 0 ≤ (w32 (a1 + 2)) ∧ 0 ≤ (w32 (a1 + 1)) ∧ 0 ≤ (w32 ((w32 ((gv w1 a0 3) - a1)) - 2)) ∧ (w32 (a1 + 2)) + (w32 ((w32 ((gv w1 a0 3) - a1)) - 2)) ≤ ln w1 (gv w1 a0 1) ∧ (w32 (a1 + 1)) + (w32 ((w32 ((gv w1 a0 3) - a1)) - 2)) ≤ ln w1 (gv w1 a0 1) then
  wl (cp w1 (gv w1 a0 1) (w32 (a1 + 2)) (gv w1 a0 1) (w32 (a1 + 1)) (w32 ((w32 ((gv w1 a0 3) - a1)) - 2))) (fun w2 =>
  if kd w2 a0 = 5 then
  if kd w2 a0 = 5 then
  wl (sv w2 a0 3 (w32 ((gv w2 a0 3) - 1))) (fun w3 =>
  if kd w3 a0 = 5 then
  bN (C 49 w3 [rV a0, iV a1, iV a2]) (fun w4 =>
  some (.inr (none, w4))) else none) else none else none) else none else none else none else none) else none else none else none else none else none := by
  rfl
set_option maxRecDepth 100000 in
theorem eX5_turnOver_0 (C : sC) (w : sW) (a0 a1 a2 : Int) : sg C mX5_turnOver 2000 0 [some (rV a0), some (iV a1), some (iV a2), none] [] w =
  if kd w a0 = 5 then
  bI (C 33 w [rV a0, iV a1, iV a2]) (fun x2 w1 =>
  if x2 = 0 then
   (some (.inr (none, w1)))
  else
  some (.inl (12, [some (rV a0), some (iV a1), some (iV a2), some (iV a1)], [], w1))) else none := by
  rfl
set_option maxRecDepth 100000 in
theorem eX5_turnOver_12 (C : sC) (w : sW) (a0 a1 a2 a3 : Int) : sg C mX5_turnOver 2000 12 [some (rV a0), some (iV a1), some (iV a2), some (iV a3)] [] w =
  if a3 < (w32 (a1 + a2)) then
   (if kd w a0 = 5 then
   if kd w a0 = 5 then
   if (kd w (gv w a0 0) = 21 ∨ kd w (gv w a0 0) = 23) ∧ 0 ≤ a3 ∧ a3 < ln w (gv w a0 0) then
   if -128 ≤ (w32 (1 - (gv w (gv w a0 0) a3))) ∧ (w32 (1 - (gv w (gv w a0 0) a3))) < 128 then
   if ((kd w (gv w a0 0) = 21 ∧ -128 ≤ (w32 (1 - (gv w (gv w a0 0) a3))) ∧ (w32 (1 - (gv w (gv w a0 0) a3))) < 128) ∨ (kd w (gv w a0 0) = 23 ∧ ((w32 (1 - (gv w (gv w a0 0) a3))) = 0 ∨ (w32 (1 - (gv w (gv w a0 0) a3))) = 1))) ∧ 0 ≤ a3 ∧ a3 < ln w (gv w a0 0) then
   wl (sv w (gv w a0 0) a3 (w32 (1 - (gv w (gv w a0 0) a3)))) (fun w1 =>
   some (.inl (12, [some (rV a0), some (iV a1), some (iV a2), some (iV (w32 (a3 + 1)))], [], w1))) else none else none else none else none else none)
  else
  some (.inr (none, w)) := by
  rfl
set_option maxRecDepth 100000 in
theorem eX5_append_0 (C : sC) (w : sW) (a0 a1 a2 a3 : Int) : sg C mX5_append 2000 0 [some (rV a0), some (rV a1), some (iV a2), some (iV a3), none] [] w =
  some (.inl (3, [some (rV a0), some (rV a1), none, some (iV a3), some (iV a2)], [], w)) := by
  rfl
set_option maxRecDepth 100000 in
theorem eX5_append_3 (C : sC) (w : sW) (a0 a1 a3 a4 : Int) : sg C mX5_append 2000 3 [some (rV a0), some (rV a1), none, some (iV a3), some (iV a4)] [] w =
  if a4 < 0 then
   (some (.inr (none, w)))
  else
  if kd w a1 = 5 then
  if a4 < (gv w a1 2) then
   (if kd w a0 = 5 then
   if kd w a1 = 5 then
   if (kd w (gv w a1 0) = 21 ∨ kd w (gv w a1 0) = 23) ∧ 0 ≤ a4 ∧ a4 < ln w (gv w a1 0) then
   if kd w a0 = 5 then
   bN (C 48 w [rV a0, iV (gv w a0 2), iV (gv w (gv w a1 0) a4), iV a3]) (fun w1 =>
   some (.inl (3, [some (rV a0), some (rV a1), none, some (iV a3), some (iV (w32 (a4 + 1)))], [], w1))) else none else none else none else none)
  else
  some (.inr (none, w)) else none := by
  rfl
set_option maxRecDepth 100000 in
theorem eX6_init_0 (C : sC) (w : sW) (a0 : Int) : sg C mX6_init 2000 0 [some (rV a0)] [] w =
  if kd w a0 = 6 then
  if 0 ≤ (200 : Int) ∧ (200 : Int) ≤ 100000 then
  wl (al w 21 200 (Int.toNat 200)) (fun w1 =>
  if kd w1 a0 = 6 then
  wl (sv w1 a0 0 (nx w)) (fun w2 =>
  some (.inr (none, w2))) else none) else none else none := by
  rfl
set_option maxRecDepth 100000 in
theorem eX6_copyFrom_0 (C : sC) (w : sW) (a0 a1 : Int) : sg C mX6_copyFrom 2000 0 [some (rV a0), some (rV a1)] [] w =
  if kd w a1 = 6 then
  if kd w a0 = 6 then
  if kd w a1 = 6 then
  if ((kd w (gv w a1 0) = 20 ∧ kd w (gv w a0 0) = 20) ∨ (kd w (gv w a1 0) = 21 ∧ kd w (gv w a0 0) = 21)) ∧ 32 ≤ (gv w a1 0) ∧ 32 ≤ (gv w a0 0) ∧ 0 ≤ (0 : Int) ∧ 0 ≤ (0 : Int) ∧ 0 ≤ (gv w a1 1) ∧ 0 + (gv w a1 1) ≤ ln w (gv w a1 0) ∧ 0 + (gv w a1 1) ≤ ln w (gv w a0 0) then
  wl (cp w (gv w a1 0) 0 (gv w a0 0) 0 (gv w a1 1)) (fun w1 =>
  if kd w1 a1 = 6 then
  if kd w1 a0 = 6 then
  wl (sv w1 a0 1 (gv w1 a1 1)) (fun w2 =>
  some (.inr (none, w2))) else none else none) else none else none else none else none := by
  rfl
set_option maxRecDepth 100000 in
theorem eX6_signAt_0 (C : sC) (w : sW) (a0 a1 : Int) : sg C mX6_signAt 2000 0 [some (rV a0), some (iV a1)] [] w =
  if a1 < 0 then
   (some (.inr (some (iV (-1)), w)))
  else
  if kd w a0 = 6 then
  if a1 < (gv w a0 1) then
   (if kd w a0 = 6 then
   if (kd w (gv w a0 0) = 21 ∨ kd w (gv w a0 0) = 23) ∧ 0 ≤ a1 ∧ a1 < ln w (gv w a0 0) then
   some (.inr (some (iV (gv w (gv w a0 0) a1)), w)) else none else none)
  else
  some (.inr (some (iV (-1)), w)) else none := by
  rfl
set_option maxRecDepth 100000 in
theorem eX6_hasRange_0 (C : sC) (w : sW) (a0 a1 a2 : Int) : sg C mX6_hasRange 2000 0 [some (rV a0), some (iV a1), some (iV a2)] [] w =
  if a1 < 0 then
   (some (.inr (some (iV 0), w)))
  else
  if a2 < 0 then
   (some (.inr (some (iV 0), w)))
  else
  if kd w a0 = 6 then
  if (w32 ((gv w a0 1) - a2)) < a1 then
   (some (.inr (some (iV 0), w)))
  else
  some (.inr (some (iV 1), w)) else none := by
  rfl
set_option maxRecDepth 100000 in
theorem eX6_countIn_0 (C : sC) (w : sW) (a0 a1 a2 a3 : Int) : sg C mX6_countIn 2000 0 [some (rV a0), some (iV a1), some (iV a2), some (iV a3), none, none] [] w =
  some (.inl (10, [some (rV a0), none, some (iV a2), some (iV a3), some (iV 0), some (iV (if a1 < 0 then 0 else a1))], [], w)) := by
  rfl
set_option maxRecDepth 100000 in
theorem eX6_countIn_10 (C : sC) (w : sW) (a0 a2 a3 a4 a5 : Int) : sg C mX6_countIn 2000 10 [some (rV a0), none, some (iV a2), some (iV a3), some (iV a4), some (iV a5)] [] w =
  if a5 < a2 then
   (if kd w a0 = 6 then
   if a5 < (gv w a0 1) then
    (if kd w a0 = 6 then
    if (kd w (gv w a0 0) = 21 ∨ kd w (gv w a0 0) = 23) ∧ 0 ≤ a5 ∧ a5 < ln w (gv w a0 0) then
    if (gv w (gv w a0 0) a5) = a3 then
     (some (.inl (10, [some (rV a0), none, some (iV a2), some (iV a3), some (iV (w32 (a4 + 1))), some (iV (w32 (a5 + 1)))], [], w)))
    else
    some (.inl (10, [some (rV a0), none, some (iV a2), some (iV a3), some (iV a4), some (iV (w32 (a5 + 1)))], [], w)) else none else none)
   else
   some (.inr (some (iV a4), w)) else none)
  else
  some (.inr (some (iV a4), w)) := by
  rfl
set_option maxRecDepth 100000 in
theorem eX6_placeOf_0 (C : sC) (w : sW) (a0 a1 a2 : Int) : sg C mX6_placeOf 2000 0 [some (rV a0), some (iV a1), some (iV a2), none, none] [] w =
  some (.inl (5, [some (rV a0), some (iV a1), some (iV a2), some (iV 0), some (iV 0)], [], w)) := by
  rfl
set_option maxRecDepth 100000 in
theorem eX6_placeOf_5 (C : sC) (w : sW) (a0 a1 a2 a3 a4 : Int) : sg C mX6_placeOf 2000 5 [some (rV a0), some (iV a1), some (iV a2), some (iV a3), some (iV a4)] [] w =
  if kd w a0 = 6 then
  if a4 < (gv w a0 1) then
   (if kd w a0 = 6 then
   if (kd w (gv w a0 0) = 21 ∨ kd w (gv w a0 0) = 23) ∧ 0 ≤ a4 ∧ a4 < ln w (gv w a0 0) then
   if (gv w (gv w a0 0) a4) = a1 then
    (if a3 = a2 then
     (some (.inr (some (iV a4), w)))
    else
    some (.inl (5, [some (rV a0), some (iV a1), some (iV a2), some (iV (w32 (a3 + 1))), some (iV (w32 (a4 + 1)))], [], w)))
   else
   some (.inl (5, [some (rV a0), some (iV a1), some (iV a2), some (iV a3), some (iV (w32 (a4 + 1)))], [], w)) else none else none)
  else
  some (.inr (some (iV (-1)), w)) else none := by
  rfl
set_option maxRecDepth 100000 in
theorem eX6_leastOf_0 (C : sC) (w : sW) (a0 a1 a2 a3 : Int) : sg C mX6_leastOf 2000 0 [some (rV a0), some (iV a1), some (iV a2), some (iV a3), none, none] [] w =
  some (.inl (6, [some (rV a0), some (iV a1), some (iV a2), some (iV a3), some (iV 0), some (iV 0)], [], w)) := by
  rfl
set_option maxRecDepth 100000 in
theorem eX6_leastOf_6 (C : sC) (w : sW) (a0 a1 a2 a3 a4 a5 : Int) : sg C mX6_leastOf 2000 6 [some (rV a0), some (iV a1), some (iV a2), some (iV a3), some (iV a4), some (iV a5)] [] w =
  if a5 < 8 then
   (if kd w a0 = 6 then
   bI (C 58 w [rV a0, iV a1, iV a2, iV a5]) (fun x2 w1 =>
   if a3 < (w32 (a4 + x2)) then
    (some (.inr (some (iV a5), w1)))
   else
   some (.inl (6, [some (rV a0), some (iV a1), some (iV a2), some (iV a3), some (iV (w32 (a4 + x2))), some (iV (w32 (a5 + 1)))], [], w1))) else none)
  else
  some (.inr (some (iV (-1)), w)) := by
  rfl
set_option maxRecDepth 100000 in
theorem eX6_nodeBit_0 (C : sC) (w : sW) (a0 a1 a2 : Int) : sg C mX6_nodeBit 2000 0 [some (rV a0), some (iV a1), some (iV a2), none, none, none, none] [] w =
  if a1 = 0 then
   (some (.inl (18, [some (rV a0), some (iV a1), some (iV a2), none, none, none, none], [iV 0], w)))
  else
  if a1 < 3 then
   (some (.inl (18, [some (rV a0), some (iV a1), some (iV a2), none, none, none, none], [iV 1], w)))
  else
  some (.inl (18, [some (rV a0), some (iV a1), some (iV a2), none, none, none, none], [iV 3], w)) := by
  rfl
set_option maxRecDepth 100000 in
theorem eX6_nodeBit_18 (C : sC) (w : sW) (a0 a1 a2 b0 : Int) : sg C mX6_nodeBit 2000 18 [some (rV a0), some (iV a1), some (iV a2), none, none, none, none] [iV b0] w =
  if a1 = 0 then
   (some (.inl (45, [some (rV a0), some (iV a1), some (iV a2), some (iV b0), some (iV 2), some (iV 0), some (iV 0)], [], w)))
  else
  if a1 < 3 then
   (some (.inl (45, [some (rV a0), some (iV a1), some (iV a2), some (iV b0), some (iV 1), some (iV 0), some (iV 0)], [], w)))
  else
  some (.inl (45, [some (rV a0), some (iV a1), some (iV a2), some (iV b0), some (iV 0), some (iV 0), some (iV 0)], [], w)) := by
  rfl
set_option maxRecDepth 100000 in
theorem eX6_nodeBit_45 (C : sC) (w : sW) (a0 a1 a2 a3 a4 a5 a6 : Int) : sg C mX6_nodeBit 2000 45 [some (rV a0), some (iV a1), some (iV a2), some (iV a3), some (iV a4), some (iV a5), some (iV a6)] [] w =
  if kd w a0 = 6 then
  if a6 < (gv w a0 1) then
   (if kd w a0 = 6 then
   if (kd w (gv w a0 0) = 21 ∨ kd w (gv w a0 0) = 23) ∧ 0 ≤ a6 ∧ a6 < ln w (gv w a0 0) then
   if (f_ishr (gv w (gv w a0 0) a6) (w32 (a4 + 1))) = (w32 (a1 - a3)) then
    (if a5 = a2 then
     (if kd w a0 = 6 then
     if (kd w (gv w a0 0) = 21 ∨ kd w (gv w a0 0) = 23) ∧ 0 ≤ a6 ∧ a6 < ln w (gv w a0 0) then
     some (.inr (some (iV (f_iand (f_ishr (gv w (gv w a0 0) a6) a4) 1)), w)) else none else none)
    else
    some (.inl (45, [some (rV a0), some (iV a1), some (iV a2), some (iV a3), some (iV a4), some (iV (w32 (a5 + 1))), some (iV (w32 (a6 + 1)))], [], w)))
   else
   some (.inl (45, [some (rV a0), some (iV a1), some (iV a2), some (iV a3), some (iV a4), some (iV a5), some (iV (w32 (a6 + 1)))], [], w)) else none else none)
  else
  some (.inr (some (iV (-1)), w)) else none := by
  rfl
set_option maxRecDepth 100000 in
theorem eX6_insert_0 (C : sC) (w : sW) (a0 a1 a2 : Int) : sg C mX6_insert 2000 0 [some (rV a0), some (iV a1), some (iV a2)] [] w =
  if a1 < 0 then
   (some (.inr (none, w)))
  else
  if kd w a0 = 6 then
  if (gv w a0 1) < a1 then
   (some (.inr (none, w)))
  else
  if kd w a0 = 6 then
  if (gv w a0 1) < 200 then
   (if kd w a0 = 6 then
   if kd w a0 = 6 then
   if kd w a0 = 6 then
   if ((kd w (gv w a0 0) = 20 ∧ kd w (gv w a0 0) = 20) ∨ (kd w (gv w a0 0) = 21 ∧ kd w (gv w a0 0) = 21)) ∧ 32 ≤ (gv w a0 0) ∧ 32 ≤ (gv w a0 0) ∧ 0 ≤ a1 ∧ 0 ≤ (w32 (a1 + 1)) ∧ 0 ≤ (w32 ((gv w a0 1) - a1)) ∧ a1 + (w32 ((gv w a0 1) - a1)) ≤ ln w (gv w a0 0) ∧ (w32 (a1 + 1)) + (w32 ((gv w a0 1) - a1)) ≤ ln w (gv w a0 0) then
   wl (cp w (gv w a0 0) a1 (gv w a0 0) (w32 (a1 + 1)) (w32 ((gv w a0 1) - a1))) (fun w1 =>
   if kd w1 a0 = 6 then
   if -128 ≤ a2 ∧ a2 < 128 then
   if ((kd w1 (gv w1 a0 0) = 21 ∧ -128 ≤ a2 ∧ a2 < 128) ∨ (kd w1 (gv w1 a0 0) = 23 ∧ (a2 = 0 ∨ a2 = 1))) ∧ 0 ≤ a1 ∧ a1 < ln w1 (gv w1 a0 0) then
   wl (sv w1 (gv w1 a0 0) a1 a2) (fun w2 =>
   if kd w2 a0 = 6 then
   if kd w2 a0 = 6 then
   wl (sv w2 a0 1 (w32 ((gv w2 a0 1) + 1))) (fun w3 =>
   some (.inr (none, w3))) else none else none) else none else none else none) else none else none else none else none)
  else
  some (.inr (none, w)) else none else none := by
  rfl
set_option maxRecDepth 100000 in
theorem eX6_remove_0 (C : sC) (w : sW) (a0 a1 a2 : Int) : sg C mX6_remove 2000 0 [some (rV a0), some (iV a1), some (iV a2)] [] w =
  if kd w a0 = 6 then
  bI (C 57 w [rV a0, iV a1, iV a2]) (fun x2 w1 =>
  if x2 = 0 then
   (some (.inr (none, w1)))
  else
  if kd w1 a0 = 6 then
  if kd w1 a0 = 6 then
  if kd w1 a0 = 6 then
  if ((kd w1 (gv w1 a0 0) = 20 ∧ kd w1 (gv w1 a0 0) = 20) ∨ (kd w1 (gv w1 a0 0) = 21 ∧ kd w1 (gv w1 a0 0) = 21)) ∧ 32 ≤ (gv w1 a0 0) ∧ 32 ≤ (gv w1 a0 0) ∧ 0 ≤ (w32 (a1 + a2)) ∧ 0 ≤ a1 ∧ 0 ≤ (w32 ((w32 ((gv w1 a0 1) - a1)) - a2)) ∧ (w32 (a1 + a2)) + (w32 ((w32 ((gv w1 a0 1) - a1)) - a2)) ≤ ln w1 (gv w1 a0 0) ∧ a1 + (w32 ((w32 ((gv w1 a0 1) - a1)) - a2)) ≤ ln w1 (gv w1 a0 0) then
  wl (cp w1 (gv w1 a0 0) (w32 (a1 + a2)) (gv w1 a0 0) a1 (w32 ((w32 ((gv w1 a0 1) - a1)) - a2))) (fun w3 =>
  if kd w3 a0 = 6 then
  if kd w3 a0 = 6 then
  wl (sv w3 a0 1 (w32 ((gv w3 a0 1) - a2))) (fun w4 =>
  some (.inr (none, w4))) else none else none) else none else none else none else none) else none := by
  rfl
set_option maxRecDepth 100000 in
theorem eX7_init_0 (C : sC) (w : sW) (a0 : Int) : sg C mX7_init 2000 0 [some (rV a0)] [] w =
  if kd w a0 = 7 then
  if 0 ≤ (40 : Int) ∧ (40 : Int) ≤ 100000 then
  wl (al w 27 40 (Int.toNat 40)) (fun w1 =>
  if kd w1 a0 = 7 then
  wl (sv w1 a0 0 (nx w)) (fun w2 =>
  if 0 ≤ (40 : Int) ∧ (40 : Int) ≤ 100000 then
  wl (al w2 20 40 (Int.toNat 40)) (fun w3 =>
  if kd w3 a0 = 7 then
  wl (sv w3 a0 1 (nx w2)) (fun w4 =>
  if 0 ≤ (40 : Int) ∧ (40 : Int) ≤ 100000 then
  wl (al w4 20 40 (Int.toNat 40)) (fun w5 =>
  if kd w5 a0 = 7 then
  wl (sv w5 a0 2 (nx w4)) (fun w6 =>
  if 0 ≤ (40 : Int) ∧ (40 : Int) ≤ 100000 then
  wl (al w6 23 40 (Int.toNat 40)) (fun w7 =>
  if kd w7 a0 = 7 then
  wl (sv w7 a0 3 (nx w6)) (fun w8 =>
  some (.inr (none, w8))) else none) else none) else none) else none) else none) else none) else none) else none else none := by
  rfl
set_option maxRecDepth 100000 in
theorem eX7_clear_0 (C : sC) (w : sW) (a0 : Int) : sg C mX7_clear 2000 0 [some (rV a0)] [] w =
  if kd w a0 = 7 then
  wl (sv w a0 4 0) (fun w1 =>
  if kd w1 a0 = 7 then
  wl (sv w1 a0 5 0) (fun w2 =>
  some (.inr (none, w2))) else none) else none := by
  rfl
set_option maxRecDepth 100000 in
theorem eX7_copyFrom_0 (C : sC) (w : sW) (a0 a1 : Int) : sg C mX7_copyFrom 2000 0 [some (rV a0), some (rV a1), none] [] w =
  some (.inl (2, [some (rV a0), some (rV a1), some (iV 0)], [], w)) := by
  rfl
set_option maxRecDepth 100000 in
theorem eX7_copyFrom_2 (C : sC) (w : sW) (a0 a1 a2 : Int) : sg C mX7_copyFrom 2000 2 [some (rV a0), some (rV a1), some (iV a2)] [] w =
  if kd w a1 = 7 then
  if a2 < (gv w a1 4) then
   (if a2 < 40 then
    (if kd w a0 = 7 then
    if kd w a1 = 7 then
    if (24 ≤ kd w (gv w a1 0) ∧ kd w (gv w a1 0) ≤ 27) ∧ 0 ≤ a2 ∧ a2 < ln w (gv w a1 0) then
    if ((kd w (gv w a0 0) = 24 ∧ kd w (gv w (gv w a1 0) a2) = 5) ∨ (kd w (gv w a0 0) = 25 ∧ kd w (gv w (gv w a1 0) a2) = 8) ∨ (kd w (gv w a0 0) = 26 ∧ kd w (gv w (gv w a1 0) a2) = 7) ∨ (kd w (gv w a0 0) = 27 ∧ kd w (gv w (gv w a1 0) a2) = 30 ∧ 32 ≤ (gv w a0 0))) ∧ 0 ≤ a2 ∧ a2 < ln w (gv w a0 0) then
    wl (sv w (gv w a0 0) a2 (gv w (gv w a1 0) a2)) (fun w1 =>
    if kd w1 a0 = 7 then
    if kd w1 a1 = 7 then
    if kd w1 (gv w1 a1 1) = 20 ∧ 0 ≤ a2 ∧ a2 < ln w1 (gv w1 a1 1) then
    if (kd w1 (gv w1 a0 1) = 20 ∧ 32 ≤ (gv w1 a0 1)) ∧ 0 ≤ a2 ∧ a2 < ln w1 (gv w1 a0 1) then
    wl (sv w1 (gv w1 a0 1) a2 (gv w1 (gv w1 a1 1) a2)) (fun w2 =>
    if kd w2 a0 = 7 then
    if kd w2 a1 = 7 then
    if kd w2 (gv w2 a1 2) = 20 ∧ 0 ≤ a2 ∧ a2 < ln w2 (gv w2 a1 2) then
    if (kd w2 (gv w2 a0 2) = 20 ∧ 32 ≤ (gv w2 a0 2)) ∧ 0 ≤ a2 ∧ a2 < ln w2 (gv w2 a0 2) then
    wl (sv w2 (gv w2 a0 2) a2 (gv w2 (gv w2 a1 2) a2)) (fun w3 =>
    some (.inl (2, [some (rV a0), some (rV a1), some (iV (w32 (a2 + 1)))], [], w3))) else none else none else none else none) else none else none else none else none) else none else none else none else none)
   else
   if kd w a1 = 7 then
   if kd w a0 = 7 then
   wl (sv w a0 4 (gv w a1 4)) (fun w4 =>
   if kd w4 a1 = 7 then
   if kd w4 a0 = 7 then
   wl (sv w4 a0 5 (gv w4 a1 5)) (fun w5 =>
   some (.inr (none, w5))) else none else none) else none else none)
  else
  if kd w a1 = 7 then
  if kd w a0 = 7 then
  wl (sv w a0 4 (gv w a1 4)) (fun w6 =>
  if kd w6 a1 = 7 then
  if kd w6 a0 = 7 then
  wl (sv w6 a0 5 (gv w6 a1 5)) (fun w7 =>
  some (.inr (none, w7))) else none else none) else none else none else none := by
  rfl
set_option maxRecDepth 100000 in
theorem eX7_readAll_0 (C : sC) (w : sW) (a0 a1 a2 : Int) : sg C mX7_readAll 2000 0 [some (rV a0), some (rV a1), some (rV a2)] [] w =
  if kd w a0 = 7 then
  bN (C 65 w [rV a0]) (fun w1 =>
  if kd w1 a0 = 7 then
  bN (C 68 w1 [rV a0, rV a1, rV a2, iV 1]) (fun w2 =>
  if kd w2 a1 = 4 then
  bI (C 19 w2 [rV a1]) (fun x4 w3 =>
  if x4 = 0 then
   (some (.inr (none, w3)))
  else
  if kd w3 a1 = 4 then
  bN (C 20 w3 [rV a1, iV 1]) (fun w5 =>
  some (.inr (none, w5))) else none) else none) else none) else none := by
  rfl
set_option maxRecDepth 100000 in
theorem eX7_readCond_0 (C : sC) (w : sW) (a0 a1 a2 a3 : Int) : sg C mX7_readCond 2000 0 [some (rV a0), some (rV a1), some (rV a2), some (iV a3), none, none, none] [] w =
  if kd w a0 = 7 then
  bN (C 69 w [rV a0, rV a1, rV a2, iV a3]) (fun w1 =>
  some (.inl (13, [some (rV a0), some (rV a1), some (rV a2), some (iV a3), some (iV 0), some (iV 0), none], [], w1))) else none := by
  rfl
set_option maxRecDepth 100000 in
theorem eX7_readCond_13 (C : sC) (w : sW) (a0 a1 a2 a3 a4 a5 : Int) : sg C mX7_readCond 2000 13 [some (rV a0), some (rV a1), some (rV a2), some (iV a3), some (iV a4), some (iV a5), none] [] w =
  if a5 < 20 then
   (if kd w a1 = 4 then
   if (gv w a1 10) = 0 then
    (if kd w a1 = 4 then
    if (gv w a1 9) ≤ 23 ∧ (12 : Int) ≤ 23 then
    (if (gv w a1 9) = (12 : Int) then
     (if kd w a1 = 4 then
     if kd w a1 = 4 then
     bN (C 16 w [rV a1]) (fun w1 =>
     if (gv w a1 9) ≤ 23 ∧ (12 : Int) ≤ 23 then
     (if (gv w a1 9) = (12 : Int) then
      (if a4 = 0 then
       (some (.inl (79, [some (rV a0), some (rV a1), some (rV a2), some (iV a3), some (iV a4), some (iV a5), some (rV (gv w a1 9))], [], w1)))
      else
      if kd w1 a0 = 7 then
      bN (C 71 w1 [rV a0, rV 12, iV 0, iV 0]) (fun w2 =>
      some (.inl (79, [some (rV a0), some (rV a1), some (rV a2), some (iV a3), some (iV a4), some (iV a5), some (rV (gv w a1 9))], [], w2))) else none)
     else
     some (.inl (79, [some (rV a0), some (rV a1), some (rV a2), some (iV a3), some (iV a4), some (iV a5), some (rV (gv w a1 9))], [], w1))) else none) else none else none)
    else
    if kd w a1 = 4 then
    if (gv w a1 9) ≤ 23 ∧ (13 : Int) ≤ 23 then
    (if (gv w a1 9) = (13 : Int) then
     (if kd w a1 = 4 then
     if kd w a1 = 4 then
     bN (C 16 w [rV a1]) (fun w3 =>
     if (gv w a1 9) ≤ 23 ∧ (12 : Int) ≤ 23 then
     (if (gv w a1 9) = (12 : Int) then
      (if a4 = 0 then
       (some (.inl (79, [some (rV a0), some (rV a1), some (rV a2), some (iV a3), some (iV a4), some (iV a5), some (rV (gv w a1 9))], [], w3)))
      else
      if kd w3 a0 = 7 then
      bN (C 71 w3 [rV a0, rV 12, iV 0, iV 0]) (fun w4 =>
      some (.inl (79, [some (rV a0), some (rV a1), some (rV a2), some (iV a3), some (iV a4), some (iV a5), some (rV (gv w a1 9))], [], w4))) else none)
     else
     some (.inl (79, [some (rV a0), some (rV a1), some (rV a2), some (iV a3), some (iV a4), some (iV a5), some (rV (gv w a1 9))], [], w3))) else none) else none else none)
    else
    if a4 = 0 then
     (some (.inr (none, w)))
    else
    if kd w a0 = 7 then
    bN (C 71 w [rV a0, rV 12, iV 0, iV 0]) (fun w5 =>
    some (.inr (none, w5))) else none) else none else none) else none else none)
   else
   if a4 = 0 then
    (some (.inr (none, w)))
   else
   if kd w a0 = 7 then
   bN (C 71 w [rV a0, rV 12, iV 0, iV 0]) (fun w6 =>
   some (.inr (none, w6))) else none else none)
  else
  if a4 = 0 then
   (some (.inr (none, w)))
  else
  if kd w a0 = 7 then
  bN (C 71 w [rV a0, rV 12, iV 0, iV 0]) (fun w7 =>
  some (.inr (none, w7))) else none := by
  rfl
set_option maxRecDepth 100000 in
theorem eX7_readCond_79 (C : sC) (w : sW) (a0 a1 a2 a3 a4 a5 a6 : Int) : sg C mX7_readCond 2000 79 [some (rV a0), some (rV a1), some (rV a2), some (iV a3), some (iV a4), some (iV a5), some (rV a6)] [] w =
  if a4 = 0 then
   (if a6 ≤ 23 ∧ (12 : Int) ≤ 23 then
   (if a6 = (12 : Int) then
    (some (.inl (97, [some (rV a0), some (rV a1), some (rV a2), some (iV a3), none, some (iV a5), some (rV a6)], [iV 1], w)))
   else
   some (.inl (97, [some (rV a0), some (rV a1), some (rV a2), some (iV a3), none, some (iV a5), some (rV a6)], [iV 0], w))) else none)
  else
  some (.inl (97, [some (rV a0), some (rV a1), some (rV a2), some (iV a3), none, some (iV a5), some (rV a6)], [iV 1], w)) := by
  rfl
set_option maxRecDepth 100000 in
theorem eX7_readCond_97 (C : sC) (w : sW) (a0 a1 a2 a3 a5 a6 b0 : Int) : sg C mX7_readCond 2000 97 [some (rV a0), some (rV a1), some (rV a2), some (iV a3), none, some (iV a5), some (rV a6)] [iV b0] w =
  if kd w a0 = 7 then
  bN (C 69 w [rV a0, rV a1, rV a2, iV a3]) (fun w1 =>
  if a6 ≤ 23 ∧ (13 : Int) ≤ 23 then
  (if a6 = (13 : Int) then
   (if kd w1 a0 = 7 then
   bN (C 71 w1 [rV a0, rV 13, iV 0, iV 0]) (fun w2 =>
   some (.inl (13, [some (rV a0), some (rV a1), some (rV a2), some (iV a3), some (iV b0), some (iV (w32 (a5 + 1))), none], [], w2))) else none)
  else
  some (.inl (13, [some (rV a0), some (rV a1), some (rV a2), some (iV a3), some (iV b0), some (iV (w32 (a5 + 1))), none], [], w1))) else none) else none := by
  rfl
set_option maxRecDepth 100000 in
theorem eX7_readOne_0 (C : sC) (w : sW) (a0 a1 a2 a3 : Int) : sg C mX7_readOne 2000 0 [some (rV a0), some (rV a1), some (rV a2), some (iV a3), none, none] [] w =
  if kd w a1 = 4 then
  bI (C 22 w [rV a1, iV 40]) (fun x2 w1 =>
  if kd w1 a1 = 4 then
  if (gv w1 a1 10) = 0 then
   (if x2 = 0 then
    (if kd w1 a1 = 4 then
    if (gv w1 a1 9) = 0 then
     (if kd w1 a1 = 4 then
     bN (C 20 w1 [rV a1, iV 1]) (fun w3 =>
     some (.inr (none, w3))) else none)
    else
    if kd w1 a1 = 4 then
    if kd w1 (gv w1 a1 9) = 30 then
    if (gv w1 (gv w1 a1 9) 1) = 2 then
     (if kd w1 a0 = 7 then
     if (gv w1 a0 5) < 20 then
      (if 8 < a3 then
       (if kd w1 a1 = 4 then
       bN (C 20 w1 [rV a1, iV 4]) (fun w4 =>
       some (.inr (none, w4))) else none)
      else
      if kd w1 a0 = 7 then
      if kd w1 a0 = 7 then
      wl (sv w1 a0 5 (w32 ((gv w1 a0 5) + 1))) (fun w5 =>
      if kd w5 a1 = 4 then
      if kd w5 a1 = 4 then
      bN (C 16 w5 [rV a1]) (fun w6 =>
      if x2 = 0 then
       (if (gv w5 a1 9) ≤ 23 ∧ (14 : Int) ≤ 23 then
       (if (gv w5 a1 9) = (14 : Int) then
        (if kd w6 a0 = 7 then
        bN (C 69 w6 [rV a0, rV a1, rV a2, iV (w32 (a3 + 1))]) (fun w7 =>
        if kd w7 a0 = 7 then
        bN (C 71 w7 [rV a0, rV 14, iV 0, iV 0]) (fun w8 =>
        some (.inr (none, w8))) else none) else none)
       else
       if kd w6 a0 = 7 then
       bN (C 70 w6 [rV a0, rV a1, rV a2, rV (gv w5 a1 9)]) (fun w9 =>
       some (.inr (none, w9))) else none) else none)
      else
      if kd w6 a0 = 7 then
      bN (C 68 w6 [rV a0, rV a1, rV a2, iV (w32 (a3 + 1))]) (fun w10 =>
      if kd w10 a1 = 4 then
      bN (C 23 w10 [rV a1, iV 41]) (fun w11 =>
      some (.inr (none, w11))) else none) else none) else none else none) else none else none)
     else
     if kd w1 a1 = 4 then
     bN (C 20 w1 [rV a1, iV 4]) (fun w12 =>
     some (.inr (none, w12))) else none else none)
    else
    if kd w1 a1 = 4 then
    bN (C 20 w1 [rV a1, iV 1]) (fun w13 =>
    some (.inr (none, w13))) else none else none else none else none)
   else
   if kd w1 a0 = 7 then
   if (gv w1 a0 5) < 20 then
    (if 8 < a3 then
     (if kd w1 a1 = 4 then
     bN (C 20 w1 [rV a1, iV 4]) (fun w14 =>
     some (.inr (none, w14))) else none)
    else
    if kd w1 a0 = 7 then
    if kd w1 a0 = 7 then
    wl (sv w1 a0 5 (w32 ((gv w1 a0 5) + 1))) (fun w15 =>
    if kd w15 a1 = 4 then
    if kd w15 a1 = 4 then
    bN (C 16 w15 [rV a1]) (fun w16 =>
    if x2 = 0 then
     (if (gv w15 a1 9) ≤ 23 ∧ (14 : Int) ≤ 23 then
     (if (gv w15 a1 9) = (14 : Int) then
      (if kd w16 a0 = 7 then
      bN (C 69 w16 [rV a0, rV a1, rV a2, iV (w32 (a3 + 1))]) (fun w17 =>
      if kd w17 a0 = 7 then
      bN (C 71 w17 [rV a0, rV 14, iV 0, iV 0]) (fun w18 =>
      some (.inr (none, w18))) else none) else none)
     else
     if kd w16 a0 = 7 then
     bN (C 70 w16 [rV a0, rV a1, rV a2, rV (gv w15 a1 9)]) (fun w19 =>
     some (.inr (none, w19))) else none) else none)
    else
    if kd w16 a0 = 7 then
    bN (C 68 w16 [rV a0, rV a1, rV a2, iV (w32 (a3 + 1))]) (fun w20 =>
    if kd w20 a1 = 4 then
    bN (C 23 w20 [rV a1, iV 41]) (fun w21 =>
    some (.inr (none, w21))) else none) else none) else none else none) else none else none)
   else
   if kd w1 a1 = 4 then
   bN (C 20 w1 [rV a1, iV 4]) (fun w22 =>
   some (.inr (none, w22))) else none else none)
  else
  some (.inr (none, w1)) else none) else none := by
  rfl
set_option maxRecDepth 100000 in
theorem eX7_readPlain_0 (C : sC) (w : sW) (a0 a1 a2 a3 : Int) : sg C mX7_readPlain 2000 0 [some (rV a0), some (rV a1), some (rV a2), some (rV a3), none] [] w =
  if a3 ≤ 23 ∧ (15 : Int) ≤ 23 then
  (if a3 = (15 : Int) then
   (if kd w a0 = 7 then
   bN (C 71 w [rV a0, rV a3, iV 0, iV 0]) (fun w1 =>
   some (.inr (none, w1))) else none)
  else
  if a3 ≤ 23 ∧ (16 : Int) ≤ 23 then
  (if a3 = (16 : Int) then
   (if kd w a0 = 7 then
   bN (C 71 w [rV a0, rV a3, iV 0, iV 0]) (fun w2 =>
   some (.inr (none, w2))) else none)
  else
  if a3 ≤ 23 ∧ (17 : Int) ≤ 23 then
  (if a3 = (17 : Int) then
   (if kd w a1 = 4 then
   bI (C 26 w [rV a1, rV a2, iV (-1)]) (fun x4 w3 =>
   if kd w3 a0 = 7 then
   bN (C 71 w3 [rV a0, rV a3, iV 0, iV x4]) (fun w5 =>
   some (.inr (none, w5))) else none) else none)
  else
  if a3 ≤ 23 ∧ (18 : Int) ≤ 23 then
  (if a3 = (18 : Int) then
   (if kd w a1 = 4 then
   bI (C 26 w [rV a1, rV a2, iV (-1)]) (fun x7 w6 =>
   if kd w6 a0 = 7 then
   bN (C 71 w6 [rV a0, rV a3, iV 0, iV x7]) (fun w8 =>
   some (.inr (none, w8))) else none) else none)
  else
  if kd w a1 = 4 then
  bI (C 24 w [rV a1]) (fun x10 w9 =>
  if kd w9 a1 = 4 then
  bI (C 25 w9 [rV a1, iV 0, iV 999]) (fun x12 w11 =>
  if kd w11 a0 = 7 then
  bN (C 71 w11 [rV a0, rV a3, iV x10, iV x12]) (fun w13 =>
  some (.inr (none, w13))) else none) else none) else none) else none) else none) else none) else none := by
  rfl
set_option maxRecDepth 100000 in
theorem eX7_addStep_0 (C : sC) (w : sW) (a0 a1 a2 a3 : Int) : sg C mX7_addStep 2000 0 [some (rV a0), some (rV a1), some (iV a2), some (iV a3)] [] w =
  if kd w a0 = 7 then
  if (gv w a0 4) < 40 then
   (if kd w a0 = 7 then
   if kd w a0 = 7 then
   if ((kd w (gv w a0 0) = 24 ∧ kd w a1 = 5) ∨ (kd w (gv w a0 0) = 25 ∧ kd w a1 = 8) ∨ (kd w (gv w a0 0) = 26 ∧ kd w a1 = 7) ∨ (kd w (gv w a0 0) = 27 ∧ kd w a1 = 30 ∧ 32 ≤ (gv w a0 0))) ∧ 0 ≤ (gv w a0 4) ∧ (gv w a0 4) < ln w (gv w a0 0) then
   wl (sv w (gv w a0 0) (gv w a0 4) a1) (fun w1 =>
   if kd w1 a0 = 7 then
   if kd w1 a0 = 7 then
   if (kd w1 (gv w1 a0 1) = 20 ∧ 32 ≤ (gv w1 a0 1)) ∧ 0 ≤ (gv w1 a0 4) ∧ (gv w1 a0 4) < ln w1 (gv w1 a0 1) then
   wl (sv w1 (gv w1 a0 1) (gv w1 a0 4) a2) (fun w2 =>
   if kd w2 a0 = 7 then
   if kd w2 a0 = 7 then
   if (kd w2 (gv w2 a0 2) = 20 ∧ 32 ≤ (gv w2 a0 2)) ∧ 0 ≤ (gv w2 a0 4) ∧ (gv w2 a0 4) < ln w2 (gv w2 a0 2) then
   wl (sv w2 (gv w2 a0 2) (gv w2 a0 4) a3) (fun w3 =>
   if kd w3 a0 = 7 then
   if kd w3 a0 = 7 then
   wl (sv w3 a0 4 (w32 ((gv w3 a0 4) + 1))) (fun w4 =>
   some (.inr (none, w4))) else none else none) else none else none else none) else none else none else none) else none else none else none)
  else
  some (.inr (none, w)) else none := by
  rfl
set_option maxRecDepth 100000 in
theorem eX7_isTrueOf_0 (C : sC) (w : sW) (a0 a1 a2 : Int) : sg C mX7_isTrueOf 2000 0 [some (rV a0), some (rV a1), some (iV a2), none, none, none] [] w =
  some (.inl (5, [some (rV a0), some (rV a1), some (iV a2), some (iV 0), some (iV 0), none], [], w)) := by
  rfl
set_option maxRecDepth 100000 in
theorem eX7_isTrueOf_5 (C : sC) (w : sW) (a0 a1 a2 a3 a4 : Int) : sg C mX7_isTrueOf 2000 5 [some (rV a0), some (rV a1), some (iV a2), some (iV a3), some (iV a4), none] [] w =
  if kd w a0 = 7 then
  if a4 < (gv w a0 4) then
   (if a4 < 40 then
    (if kd w a0 = 7 then
    if (24 ≤ kd w (gv w a0 0) ∧ kd w (gv w a0 0) ≤ 27) ∧ 0 ≤ a4 ∧ a4 < ln w (gv w a0 0) then
    if (gv w (gv w a0 0) a4) ≤ 23 ∧ (14 : Int) ≤ 23 then
    (if (gv w (gv w a0 0) a4) = (14 : Int) then
     (if a3 < 1 then
      (if (gv w (gv w a0 0) a4) ≤ 23 ∧ (13 : Int) ≤ 23 then
      (if (gv w (gv w a0 0) a4) = (13 : Int) then
       (if a3 < 2 then
        (some (.inl (122, [some (rV a0), some (rV a1), some (iV a2), some (iV a3), some (iV a4), some (rV (gv w (gv w a0 0) a4))], [], w)))
       else
       if kd w a0 = 7 then
       if kd w a0 = 7 then
       if (kd w (gv w a0 3) = 21 ∨ kd w (gv w a0 3) = 23) ∧ 0 ≤ (w32 ((w32 (a3 + (-1))) - 1)) ∧ (w32 ((w32 (a3 + (-1))) - 1)) < ln w (gv w a0 3) then
       if (gv w (gv w a0 3) (w32 ((w32 (a3 + (-1))) - 1))) = 0 then
        (if ((kd w (gv w a0 3) = 21 ∧ -128 ≤ (0 : Int) ∧ (0 : Int) < 128) ∨ (kd w (gv w a0 3) = 23 ∧ ((0 : Int) = 0 ∨ (0 : Int) = 1))) ∧ 0 ≤ (w32 ((w32 (a3 + (-1))) - 1)) ∧ (w32 ((w32 (a3 + (-1))) - 1)) < ln w (gv w a0 3) then
        wl (sv w (gv w a0 3) (w32 ((w32 (a3 + (-1))) - 1)) 0) (fun w1 =>
        some (.inl (5, [some (rV a0), some (rV a1), some (iV a2), some (iV (w32 (a3 + (-1)))), some (iV (w32 (a4 + 1))), none], [], w1))) else none)
       else
       if kd w a0 = 7 then
       if (kd w (gv w a0 3) = 21 ∨ kd w (gv w a0 3) = 23) ∧ 0 ≤ (w32 (a3 + (-1))) ∧ (w32 (a3 + (-1))) < ln w (gv w a0 3) then
       if (gv w (gv w a0 3) (w32 (a3 + (-1)))) = 0 then
        (if ((kd w (gv w a0 3) = 21 ∧ -128 ≤ (0 : Int) ∧ (0 : Int) < 128) ∨ (kd w (gv w a0 3) = 23 ∧ ((0 : Int) = 0 ∨ (0 : Int) = 1))) ∧ 0 ≤ (w32 ((w32 (a3 + (-1))) - 1)) ∧ (w32 ((w32 (a3 + (-1))) - 1)) < ln w (gv w a0 3) then
        wl (sv w (gv w a0 3) (w32 ((w32 (a3 + (-1))) - 1)) 0) (fun w2 =>
        some (.inl (5, [some (rV a0), some (rV a1), some (iV a2), some (iV (w32 (a3 + (-1)))), some (iV (w32 (a4 + 1))), none], [], w2))) else none)
       else
       if ((kd w (gv w a0 3) = 21 ∧ -128 ≤ (1 : Int) ∧ (1 : Int) < 128) ∨ (kd w (gv w a0 3) = 23 ∧ ((1 : Int) = 0 ∨ (1 : Int) = 1))) ∧ 0 ≤ (w32 ((w32 (a3 + (-1))) - 1)) ∧ (w32 ((w32 (a3 + (-1))) - 1)) < ln w (gv w a0 3) then
       wl (sv w (gv w a0 3) (w32 ((w32 (a3 + (-1))) - 1)) 1) (fun w3 =>
       some (.inl (5, [some (rV a0), some (rV a1), some (iV a2), some (iV (w32 (a3 + (-1)))), some (iV (w32 (a4 + 1))), none], [], w3))) else none else none else none else none else none else none)
      else
      some (.inl (122, [some (rV a0), some (rV a1), some (iV a2), some (iV a3), some (iV a4), some (rV (gv w (gv w a0 0) a4))], [], w))) else none)
     else
     if kd w a0 = 7 then
     if kd w a0 = 7 then
     if (kd w (gv w a0 3) = 21 ∨ kd w (gv w a0 3) = 23) ∧ 0 ≤ (w32 (a3 - 1)) ∧ (w32 (a3 - 1)) < ln w (gv w a0 3) then
     if (gv w (gv w a0 3) (w32 (a3 - 1))) = 0 then
      (if ((kd w (gv w a0 3) = 21 ∧ -128 ≤ (1 : Int) ∧ (1 : Int) < 128) ∨ (kd w (gv w a0 3) = 23 ∧ ((1 : Int) = 0 ∨ (1 : Int) = 1))) ∧ 0 ≤ (w32 (a3 - 1)) ∧ (w32 (a3 - 1)) < ln w (gv w a0 3) then
      wl (sv w (gv w a0 3) (w32 (a3 - 1)) 1) (fun w4 =>
      some (.inl (5, [some (rV a0), some (rV a1), some (iV a2), some (iV a3), some (iV (w32 (a4 + 1))), none], [], w4))) else none)
     else
     if ((kd w (gv w a0 3) = 21 ∧ -128 ≤ (0 : Int) ∧ (0 : Int) < 128) ∨ (kd w (gv w a0 3) = 23 ∧ ((0 : Int) = 0 ∨ (0 : Int) = 1))) ∧ 0 ≤ (w32 (a3 - 1)) ∧ (w32 (a3 - 1)) < ln w (gv w a0 3) then
     wl (sv w (gv w a0 3) (w32 (a3 - 1)) 0) (fun w5 =>
     some (.inl (5, [some (rV a0), some (rV a1), some (iV a2), some (iV a3), some (iV (w32 (a4 + 1))), none], [], w5))) else none else none else none else none)
    else
    if (gv w (gv w a0 0) a4) ≤ 23 ∧ (13 : Int) ≤ 23 then
    (if (gv w (gv w a0 0) a4) = (13 : Int) then
     (if a3 < 2 then
      (some (.inl (122, [some (rV a0), some (rV a1), some (iV a2), some (iV a3), some (iV a4), some (rV (gv w (gv w a0 0) a4))], [], w)))
     else
     if kd w a0 = 7 then
     if kd w a0 = 7 then
     if (kd w (gv w a0 3) = 21 ∨ kd w (gv w a0 3) = 23) ∧ 0 ≤ (w32 ((w32 (a3 + (-1))) - 1)) ∧ (w32 ((w32 (a3 + (-1))) - 1)) < ln w (gv w a0 3) then
     if (gv w (gv w a0 3) (w32 ((w32 (a3 + (-1))) - 1))) = 0 then
      (if ((kd w (gv w a0 3) = 21 ∧ -128 ≤ (0 : Int) ∧ (0 : Int) < 128) ∨ (kd w (gv w a0 3) = 23 ∧ ((0 : Int) = 0 ∨ (0 : Int) = 1))) ∧ 0 ≤ (w32 ((w32 (a3 + (-1))) - 1)) ∧ (w32 ((w32 (a3 + (-1))) - 1)) < ln w (gv w a0 3) then
      wl (sv w (gv w a0 3) (w32 ((w32 (a3 + (-1))) - 1)) 0) (fun w6 =>
      some (.inl (5, [some (rV a0), some (rV a1), some (iV a2), some (iV (w32 (a3 + (-1)))), some (iV (w32 (a4 + 1))), none], [], w6))) else none)
     else
     if kd w a0 = 7 then
     if (kd w (gv w a0 3) = 21 ∨ kd w (gv w a0 3) = 23) ∧ 0 ≤ (w32 (a3 + (-1))) ∧ (w32 (a3 + (-1))) < ln w (gv w a0 3) then
     if (gv w (gv w a0 3) (w32 (a3 + (-1)))) = 0 then
      (if ((kd w (gv w a0 3) = 21 ∧ -128 ≤ (0 : Int) ∧ (0 : Int) < 128) ∨ (kd w (gv w a0 3) = 23 ∧ ((0 : Int) = 0 ∨ (0 : Int) = 1))) ∧ 0 ≤ (w32 ((w32 (a3 + (-1))) - 1)) ∧ (w32 ((w32 (a3 + (-1))) - 1)) < ln w (gv w a0 3) then
      wl (sv w (gv w a0 3) (w32 ((w32 (a3 + (-1))) - 1)) 0) (fun w7 =>
      some (.inl (5, [some (rV a0), some (rV a1), some (iV a2), some (iV (w32 (a3 + (-1)))), some (iV (w32 (a4 + 1))), none], [], w7))) else none)
     else
     if ((kd w (gv w a0 3) = 21 ∧ -128 ≤ (1 : Int) ∧ (1 : Int) < 128) ∨ (kd w (gv w a0 3) = 23 ∧ ((1 : Int) = 0 ∨ (1 : Int) = 1))) ∧ 0 ≤ (w32 ((w32 (a3 + (-1))) - 1)) ∧ (w32 ((w32 (a3 + (-1))) - 1)) < ln w (gv w a0 3) then
     wl (sv w (gv w a0 3) (w32 ((w32 (a3 + (-1))) - 1)) 1) (fun w8 =>
     some (.inl (5, [some (rV a0), some (rV a1), some (iV a2), some (iV (w32 (a3 + (-1)))), some (iV (w32 (a4 + 1))), none], [], w8))) else none else none else none else none else none else none)
    else
    some (.inl (122, [some (rV a0), some (rV a1), some (iV a2), some (iV a3), some (iV a4), some (rV (gv w (gv w a0 0) a4))], [], w))) else none) else none else none else none)
   else
   if a3 = 1 then
    (if kd w a0 = 7 then
    if (kd w (gv w a0 3) = 21 ∨ kd w (gv w a0 3) = 23) ∧ 0 ≤ (0 : Int) ∧ (0 : Int) < ln w (gv w a0 3) then
    if (gv w (gv w a0 3) 0) = 0 then
     (some (.inr (some (iV 0), w)))
    else
    some (.inr (some (iV 1), w)) else none else none)
   else
   some (.inr (some (iV 0), w)))
  else
  if a3 = 1 then
   (if kd w a0 = 7 then
   if (kd w (gv w a0 3) = 21 ∨ kd w (gv w a0 3) = 23) ∧ 0 ≤ (0 : Int) ∧ (0 : Int) < ln w (gv w a0 3) then
   if (gv w (gv w a0 3) 0) = 0 then
    (some (.inr (some (iV 0), w)))
   else
   some (.inr (some (iV 1), w)) else none else none)
  else
  some (.inr (some (iV 0), w)) else none := by
  rfl
set_option maxRecDepth 100000 in
theorem eX7_isTrueOf_122 (C : sC) (w : sW) (a0 a1 a2 a3 a4 a5 : Int) : sg C mX7_isTrueOf 2000 122 [some (rV a0), some (rV a1), some (iV a2), some (iV a3), some (iV a4), some (rV a5)] [] w =
  if a5 ≤ 23 ∧ (12 : Int) ≤ 23 then
  (if a5 = (12 : Int) then
   (if a3 < 2 then
    (if kd w a0 = 7 then
    if kd w a0 = 7 then
    bI (C 73 w [rV a0, iV a4, rV a1, iV a2]) (fun x2 w1 =>
    if ((kd w1 (gv w a0 3) = 21 ∧ -128 ≤ x2 ∧ x2 < 128) ∨ (kd w1 (gv w a0 3) = 23 ∧ (x2 = 0 ∨ x2 = 1))) ∧ 0 ≤ a3 ∧ a3 < ln w1 (gv w a0 3) then
    wl (sv w1 (gv w a0 3) a3 x2) (fun w3 =>
    some (.inl (5, [some (rV a0), some (rV a1), some (iV a2), some (iV (w32 (a3 + 1))), some (iV (w32 (a4 + 1))), none], [], w3))) else none) else none else none)
   else
   if kd w a0 = 7 then
   if kd w a0 = 7 then
   if (kd w (gv w a0 3) = 21 ∨ kd w (gv w a0 3) = 23) ∧ 0 ≤ (w32 ((w32 (a3 + (-1))) - 1)) ∧ (w32 ((w32 (a3 + (-1))) - 1)) < ln w (gv w a0 3) then
   if (gv w (gv w a0 3) (w32 ((w32 (a3 + (-1))) - 1))) = 0 then
    (if kd w a0 = 7 then
    if (kd w (gv w a0 3) = 21 ∨ kd w (gv w a0 3) = 23) ∧ 0 ≤ (w32 (a3 + (-1))) ∧ (w32 (a3 + (-1))) < ln w (gv w a0 3) then
    if (gv w (gv w a0 3) (w32 (a3 + (-1)))) = 0 then
     (if ((kd w (gv w a0 3) = 21 ∧ -128 ≤ (0 : Int) ∧ (0 : Int) < 128) ∨ (kd w (gv w a0 3) = 23 ∧ ((0 : Int) = 0 ∨ (0 : Int) = 1))) ∧ 0 ≤ (w32 ((w32 (a3 + (-1))) - 1)) ∧ (w32 ((w32 (a3 + (-1))) - 1)) < ln w (gv w a0 3) then
     wl (sv w (gv w a0 3) (w32 ((w32 (a3 + (-1))) - 1)) 0) (fun w4 =>
     some (.inl (5, [some (rV a0), some (rV a1), some (iV a2), some (iV (w32 (a3 + (-1)))), some (iV (w32 (a4 + 1))), none], [], w4))) else none)
    else
    if ((kd w (gv w a0 3) = 21 ∧ -128 ≤ (1 : Int) ∧ (1 : Int) < 128) ∨ (kd w (gv w a0 3) = 23 ∧ ((1 : Int) = 0 ∨ (1 : Int) = 1))) ∧ 0 ≤ (w32 ((w32 (a3 + (-1))) - 1)) ∧ (w32 ((w32 (a3 + (-1))) - 1)) < ln w (gv w a0 3) then
    wl (sv w (gv w a0 3) (w32 ((w32 (a3 + (-1))) - 1)) 1) (fun w5 =>
    some (.inl (5, [some (rV a0), some (rV a1), some (iV a2), some (iV (w32 (a3 + (-1)))), some (iV (w32 (a4 + 1))), none], [], w5))) else none else none else none)
   else
   if ((kd w (gv w a0 3) = 21 ∧ -128 ≤ (1 : Int) ∧ (1 : Int) < 128) ∨ (kd w (gv w a0 3) = 23 ∧ ((1 : Int) = 0 ∨ (1 : Int) = 1))) ∧ 0 ≤ (w32 ((w32 (a3 + (-1))) - 1)) ∧ (w32 ((w32 (a3 + (-1))) - 1)) < ln w (gv w a0 3) then
   wl (sv w (gv w a0 3) (w32 ((w32 (a3 + (-1))) - 1)) 1) (fun w6 =>
   some (.inl (5, [some (rV a0), some (rV a1), some (iV a2), some (iV (w32 (a3 + (-1)))), some (iV (w32 (a4 + 1))), none], [], w6))) else none else none else none else none)
  else
  if kd w a0 = 7 then
  if kd w a0 = 7 then
  bI (C 73 w [rV a0, iV a4, rV a1, iV a2]) (fun x8 w7 =>
  if ((kd w7 (gv w a0 3) = 21 ∧ -128 ≤ x8 ∧ x8 < 128) ∨ (kd w7 (gv w a0 3) = 23 ∧ (x8 = 0 ∨ x8 = 1))) ∧ 0 ≤ a3 ∧ a3 < ln w7 (gv w a0 3) then
  wl (sv w7 (gv w a0 3) a3 x8) (fun w9 =>
  some (.inl (5, [some (rV a0), some (rV a1), some (iV a2), some (iV (w32 (a3 + 1))), some (iV (w32 (a4 + 1))), none], [], w9))) else none) else none else none) else none := by
  rfl
set_option maxRecDepth 100000 in
theorem eX7_isPlainTrue_0 (C : sC) (w : sW) (a0 a1 a2 a3 : Int) : sg C mX7_isPlainTrue 2000 0 [some (rV a0), some (iV a1), some (rV a2), some (iV a3), none, none, none] [] w =
  if kd w a2 = 8 then
  bR (C 77 w [rV a2, iV a3]) (fun r2 w1 =>
  if r2 = 0 then
   (some (.inr (some (iV 0), w1)))
  else
  if kd w1 a0 = 7 then
  if (24 ≤ kd w1 (gv w1 a0 0) ∧ kd w1 (gv w1 a0 0) ≤ 27) ∧ 0 ≤ a1 ∧ a1 < ln w1 (gv w1 a0 0) then
  if (gv w1 (gv w1 a0 0) a1) ≤ 23 ∧ (15 : Int) ≤ 23 then
  (if (gv w1 (gv w1 a0 0) a1) = (15 : Int) then
   (if kd w1 r2 = 5 then
   if (gv w1 r2 2) = 0 then
    (some (.inr (some (iV 1), w1)))
   else
   some (.inr (some (iV 0), w1)) else none)
  else
  if (gv w1 (gv w1 a0 0) a1) ≤ 23 ∧ (16 : Int) ≤ 23 then
  (if (gv w1 (gv w1 a0 0) a1) = (16 : Int) then
   (if kd w1 r2 = 5 then
   if kd w1 r2 = 5 then
   bI (C 35 w1 [rV r2, iV 0, iV (gv w1 r2 2), iV 1]) (fun x4 w3 =>
   if (2 : Int) = 0 then none else
   if (Int.tmod x4 2) = 0 then
    (some (.inr (some (iV 1), w3)))
   else
   some (.inr (some (iV 0), w3))) else none else none)
  else
  if (gv w1 (gv w1 a0 0) a1) ≤ 23 ∧ (17 : Int) ≤ 23 then
  (if (gv w1 (gv w1 a0 0) a1) = (17 : Int) then
   (if kd w1 a0 = 7 then
   if kd w1 (gv w1 a0 2) = 20 ∧ 0 ≤ a1 ∧ a1 < ln w1 (gv w1 a0 2) then
   if kd w1 a2 = 8 then
   bR (C 77 w1 [rV a2, iV (gv w1 (gv w1 a0 2) a1)]) (fun r6 w5 =>
   if r6 = 0 then
    (some (.inr (some (iV 0), w5)))
   else
   if (gv w1 (gv w1 a0 0) a1) ≤ 23 ∧ (17 : Int) ≤ 23 then
   (if (gv w1 (gv w1 a0 0) a1) = (17 : Int) then
    (if kd w5 r2 = 5 then
    bI (C 43 w5 [rV r2, rV r6]) (fun x8 w7 =>
    if x8 = (-1) then
     (some (.inr (some (iV 1), w7)))
    else
    some (.inr (some (iV 0), w7))) else none)
   else
   if kd w5 r2 = 5 then
   bI (C 44 w5 [rV r2, rV r6]) (fun x10 w9 =>
   if x10 = 0 then
    (some (.inr (some (iV 0), w9)))
   else
   some (.inr (some (iV 1), w9))) else none) else none) else none else none else none)
  else
  if (gv w1 (gv w1 a0 0) a1) ≤ 23 ∧ (18 : Int) ≤ 23 then
  (if (gv w1 (gv w1 a0 0) a1) = (18 : Int) then
   (if kd w1 a0 = 7 then
   if kd w1 (gv w1 a0 2) = 20 ∧ 0 ≤ a1 ∧ a1 < ln w1 (gv w1 a0 2) then
   if kd w1 a2 = 8 then
   bR (C 77 w1 [rV a2, iV (gv w1 (gv w1 a0 2) a1)]) (fun r12 w11 =>
   if r12 = 0 then
    (some (.inr (some (iV 0), w11)))
   else
   if (gv w1 (gv w1 a0 0) a1) ≤ 23 ∧ (17 : Int) ≤ 23 then
   (if (gv w1 (gv w1 a0 0) a1) = (17 : Int) then
    (if kd w11 r2 = 5 then
    bI (C 43 w11 [rV r2, rV r12]) (fun x14 w13 =>
    if x14 = (-1) then
     (some (.inr (some (iV 1), w13)))
    else
    some (.inr (some (iV 0), w13))) else none)
   else
   if kd w11 r2 = 5 then
   bI (C 44 w11 [rV r2, rV r12]) (fun x16 w15 =>
   if x16 = 0 then
    (some (.inr (some (iV 0), w15)))
   else
   some (.inr (some (iV 1), w15))) else none) else none) else none else none else none)
  else
  bI (C 74 w1 [rV (gv w1 (gv w1 a0 0) a1), rV r2, iV a3]) (fun x18 w17 =>
  if kd w17 a0 = 7 then
  if kd w17 (gv w17 a0 1) = 20 ∧ 0 ≤ a1 ∧ a1 < ln w17 (gv w17 a0 1) then
  if (gv w17 (gv w17 a0 1) a1) = 60 then
   (if kd w17 a0 = 7 then
   if kd w17 (gv w17 a0 2) = 20 ∧ 0 ≤ a1 ∧ a1 < ln w17 (gv w17 a0 2) then
   if x18 < (gv w17 (gv w17 a0 2) a1) then
    (some (.inr (some (iV 1), w17)))
   else
   some (.inr (some (iV 0), w17)) else none else none)
  else
  if kd w17 a0 = 7 then
  if kd w17 (gv w17 a0 1) = 20 ∧ 0 ≤ a1 ∧ a1 < ln w17 (gv w17 a0 1) then
  if (gv w17 (gv w17 a0 1) a1) = 61 then
   (if kd w17 a0 = 7 then
   if kd w17 (gv w17 a0 2) = 20 ∧ 0 ≤ a1 ∧ a1 < ln w17 (gv w17 a0 2) then
   if x18 = (gv w17 (gv w17 a0 2) a1) then
    (some (.inr (some (iV 1), w17)))
   else
   some (.inr (some (iV 0), w17)) else none else none)
  else
  if kd w17 a0 = 7 then
  if kd w17 (gv w17 a0 2) = 20 ∧ 0 ≤ a1 ∧ a1 < ln w17 (gv w17 a0 2) then
  if (gv w17 (gv w17 a0 2) a1) < x18 then
   (some (.inr (some (iV 1), w17)))
  else
  some (.inr (some (iV 0), w17)) else none else none else none else none else none else none)) else none) else none) else none) else none else none else none) else none := by
  rfl
set_option maxRecDepth 100000 in
theorem eX7_measure_0 (C : sC) (w : sW) (a0 a1 a2 : Int) : sg C mX7_measure 2000 0 [some (rV a0), some (rV a1), some (iV a2)] [] w =
  if a0 ≤ 23 ∧ (19 : Int) ≤ 23 then
  (if a0 = (19 : Int) then
   (if kd w a1 = 5 then
   some (.inr (some (iV (gv w a1 2)), w)) else none)
  else
  if a0 ≤ 23 ∧ (20 : Int) ≤ 23 then
  (if a0 = (20 : Int) then
   (if kd w a1 = 5 then
   if kd w a1 = 5 then
   bI (C 35 w [rV a1, iV 0, iV (gv w a1 2), iV 1]) (fun x2 w1 =>
   some (.inr (some (iV x2), w1))) else none else none)
  else
  if a0 ≤ 23 ∧ (21 : Int) ≤ 23 then
  (if a0 = (21 : Int) then
   (if kd w a1 = 5 then
   bI (C 38 w [rV a1]) (fun x4 w3 =>
   some (.inr (some (iV x4), w3))) else none)
  else
  if a0 ≤ 23 ∧ (22 : Int) ≤ 23 then
  (if a0 = (22 : Int) then
   (if kd w a1 = 5 then
   some (.inr (some (iV (gv w a1 3)), w)) else none)
  else
  some (.inr (some (iV a2), w))) else none) else none) else none) else none := by
  rfl
set_option maxRecDepth 100000 in
theorem eX8_init_0 (C : sC) (w : sW) (a0 : Int) : sg C mX8_init 2000 0 [some (rV a0), none] [] w =
  if kd w a0 = 8 then
  if 0 ≤ (4 : Int) ∧ (4 : Int) ≤ 100000 then
  wl (al w 24 4 (Int.toNat 4)) (fun w1 =>
  if kd w1 a0 = 8 then
  wl (sv w1 a0 0 (nx w)) (fun w2 =>
  if 0 ≤ (4 : Int) ∧ (4 : Int) ≤ 100000 then
  wl (al w2 22 4 (Int.toNat 4)) (fun w3 =>
  if kd w3 a0 = 8 then
  wl (sv w3 a0 1 (nx w2)) (fun w4 =>
  wl (al w4 6 0 2) (fun w5 =>
  if kd w5 (nx w4) = 6 then
  bN (C 54 w5 [rV (nx w4)]) (fun w6 =>
  if kd w6 a0 = 8 then
  wl (sv w6 a0 2 (nx w4)) (fun w7 =>
  if kd w7 a0 = 8 then
  wl (sv w7 a0 4 8) (fun w8 =>
  some (.inl (38, [some (rV a0), some (iV 0)], [], w8))) else none) else none) else none)) else none) else none) else none) else none else none := by
  rfl
set_option maxRecDepth 100000 in
theorem eX8_init_38 (C : sC) (w : sW) (a0 a1 : Int) : sg C mX8_init 2000 38 [some (rV a0), some (iV a1)] [] w =
  if a1 < 4 then
   (if kd w a0 = 8 then
   wl (al w 5 0 4) (fun w1 =>
   if kd w1 (nx w) = 5 then
   bN (C 29 w1 [rV (nx w)]) (fun w2 =>
   if ((kd w2 (gv w a0 0) = 24 ∧ kd w2 (nx w) = 5) ∨ (kd w2 (gv w a0 0) = 25 ∧ kd w2 (nx w) = 8) ∨ (kd w2 (gv w a0 0) = 26 ∧ kd w2 (nx w) = 7) ∨ (kd w2 (gv w a0 0) = 27 ∧ kd w2 (nx w) = 30 ∧ 32 ≤ (gv w a0 0))) ∧ 0 ≤ a1 ∧ a1 < ln w2 (gv w a0 0) then
   wl (sv w2 (gv w a0 0) a1 (nx w)) (fun w3 =>
   some (.inl (38, [some (rV a0), some (iV (w32 (a1 + 1)))], [], w3))) else none) else none) else none)
  else
  some (.inr (none, w)) := by
  rfl
set_option maxRecDepth 100000 in
theorem eX8_copyFrom_0 (C : sC) (w : sW) (a0 a1 : Int) : sg C mX8_copyFrom 2000 0 [some (rV a0), some (rV a1), none] [] w =
  some (.inl (2, [some (rV a0), some (rV a1), some (iV 0)], [], w)) := by
  rfl
set_option maxRecDepth 100000 in
theorem eX8_copyFrom_2 (C : sC) (w : sW) (a0 a1 a2 : Int) : sg C mX8_copyFrom 2000 2 [some (rV a0), some (rV a1), some (iV a2)] [] w =
  if kd w a1 = 8 then
  if a2 < (gv w a1 3) then
   (if a2 < 4 then
    (if kd w a0 = 8 then
    if (24 ≤ kd w (gv w a0 0) ∧ kd w (gv w a0 0) ≤ 27) ∧ 0 ≤ a2 ∧ a2 < ln w (gv w a0 0) then
    if kd w a1 = 8 then
    if (24 ≤ kd w (gv w a1 0) ∧ kd w (gv w a1 0) ≤ 27) ∧ 0 ≤ a2 ∧ a2 < ln w (gv w a1 0) then
    if kd w (gv w (gv w a0 0) a2) = 5 then
    bN (C 31 w [rV (gv w (gv w a0 0) a2), rV (gv w (gv w a1 0) a2)]) (fun w1 =>
    if kd w1 a0 = 8 then
    if kd w1 a1 = 8 then
    if kd w1 (gv w1 a1 1) = 22 ∧ 0 ≤ a2 ∧ a2 < ln w1 (gv w1 a1 1) then
    if kd w1 (gv w1 a0 1) = 22 ∧ 0 ≤ a2 ∧ a2 < ln w1 (gv w1 a0 1) then
    wl (sv w1 (gv w1 a0 1) a2 (gv w1 (gv w1 a1 1) a2)) (fun w2 =>
    some (.inl (2, [some (rV a0), some (rV a1), some (iV (w32 (a2 + 1)))], [], w2))) else none else none else none else none) else none else none else none else none else none)
   else
   if kd w a0 = 8 then
   if kd w a1 = 8 then
   if kd w (gv w a0 2) = 6 then
   bN (C 55 w [rV (gv w a0 2), rV (gv w a1 2)]) (fun w3 =>
   if kd w3 a1 = 8 then
   if kd w3 a0 = 8 then
   wl (sv w3 a0 3 (gv w3 a1 3)) (fun w4 =>
   if kd w4 a1 = 8 then
   if kd w4 a0 = 8 then
   wl (sv w4 a0 4 (gv w4 a1 4)) (fun w5 =>
   some (.inr (none, w5))) else none else none) else none else none) else none else none else none)
  else
  if kd w a0 = 8 then
  if kd w a1 = 8 then
  if kd w (gv w a0 2) = 6 then
  bN (C 55 w [rV (gv w a0 2), rV (gv w a1 2)]) (fun w6 =>
  if kd w6 a1 = 8 then
  if kd w6 a0 = 8 then
  wl (sv w6 a0 3 (gv w6 a1 3)) (fun w7 =>
  if kd w7 a1 = 8 then
  if kd w7 a0 = 8 then
  wl (sv w7 a0 4 (gv w7 a1 4)) (fun w8 =>
  some (.inr (none, w8))) else none else none) else none else none) else none else none else none else none := by
  rfl
set_option maxRecDepth 100000 in
theorem eX8_rowAt_0 (C : sC) (w : sW) (a0 a1 : Int) : sg C mX8_rowAt 2000 0 [some (rV a0), some (iV a1)] [] w =
  if a1 < 0 then
   (some (.inr (some (rV 0), w)))
  else
  if kd w a0 = 8 then
  if a1 < (gv w a0 3) then
   (if a1 < 4 then
    (if kd w a0 = 8 then
    if (24 ≤ kd w (gv w a0 0) ∧ kd w (gv w a0 0) ≤ 27) ∧ 0 ≤ a1 ∧ a1 < ln w (gv w a0 0) then
    some (.inr (some (rV (gv w (gv w a0 0) a1)), w)) else none else none)
   else
   some (.inr (some (rV 0), w)))
  else
  some (.inr (some (rV 0), w)) else none := by
  rfl
set_option maxRecDepth 100000 in
theorem eX8_numberOf_0 (C : sC) (w : sW) (a0 a1 : Int) : sg C mX8_numberOf 2000 0 [some (rV a0), some (lV a1), none, none] [] w =
  some (.inl (2, [some (rV a0), some (lV a1), none, some (iV 0)], [], w)) := by
  rfl
set_option maxRecDepth 100000 in
theorem eX8_numberOf_2 (C : sC) (w : sW) (a0 a1 a3 : Int) : sg C mX8_numberOf 2000 2 [some (rV a0), some (lV a1), none, some (iV a3)] [] w =
  if kd w a0 = 8 then
  if a3 < (gv w a0 3) then
   (if a3 < 4 then
    (if kd w a0 = 8 then
    if kd w (gv w a0 1) = 22 ∧ 0 ≤ a3 ∧ a3 < ln w (gv w a0 1) then
    if (cmpL (gv w (gv w a0 1) a3) a1) = 0 then
     (some (.inr (some (iV a3), w)))
    else
    some (.inl (2, [some (rV a0), some (lV a1), none, some (iV (w32 (a3 + 1)))], [], w)) else none else none)
   else
   some (.inr (some (iV (-1)), w)))
  else
  some (.inr (some (iV (-1)), w)) else none := by
  rfl
set_option maxRecDepth 100000 in
theorem eX8_allBits_0 (C : sC) (w : sW) (a0 : Int) : sg C mX8_allBits 2000 0 [some (rV a0), none, none] [] w =
  some (.inl (4, [some (rV a0), some (iV 0), some (iV 0)], [], w)) := by
  rfl
set_option maxRecDepth 100000 in
theorem eX8_allBits_4 (C : sC) (w : sW) (a0 a1 a2 : Int) : sg C mX8_allBits 2000 4 [some (rV a0), some (iV a1), some (iV a2)] [] w =
  if kd w a0 = 8 then
  if a2 < (gv w a0 3) then
   (if a2 < 4 then
    (if kd w a0 = 8 then
    if (24 ≤ kd w (gv w a0 0) ∧ kd w (gv w a0 0) ≤ 27) ∧ 0 ≤ a2 ∧ a2 < ln w (gv w a0 0) then
    if kd w (gv w (gv w a0 0) a2) = 5 then
    some (.inl (4, [some (rV a0), some (iV (w32 (a1 + (gv w (gv w (gv w a0 0) a2) 2)))), some (iV (w32 (a2 + 1)))], [], w)) else none else none else none)
   else
   some (.inr (some (iV a1), w)))
  else
  some (.inr (some (iV a1), w)) else none := by
  rfl
set_option maxRecDepth 100000 in
theorem eX8_readLines_0 (C : sC) (w : sW) (a0 a1 : Int) : sg C mX8_readLines 2000 0 [some (rV a0), some (rV a1), none, none] [] w =
  if kd w a0 = 8 then
  wl (sv w a0 3 0) (fun w1 =>
  if kd w1 a0 = 8 then
  wl (sv w1 a0 4 8) (fun w2 =>
  if kd w2 a0 = 8 then
  if kd w2 (gv w2 a0 2) = 6 then
  wl (sv w2 (gv w2 a0 2) 1 0) (fun w3 =>
  if kd w3 a0 = 8 ∧ ((0 : Int) = 0 ∨ (0 : Int) = 1) then
  wl (sv w3 a0 5 0) (fun w4 =>
  some (.inl (28, [some (rV a0), some (rV a1), some (iV 0), some (iV 0)], [], w4))) else none) else none else none) else none) else none := by
  rfl
set_option maxRecDepth 100000 in
theorem eX8_readLines_28 (C : sC) (w : sW) (a0 a1 a2 a3 : Int) : sg C mX8_readLines 2000 28 [some (rV a0), some (rV a1), some (iV a2), some (iV a3)] [] w =
  if a3 < 940 then
   (if kd w a1 = 4 then
   bI (C 19 w [rV a1]) (fun x2 w1 =>
   if x2 = 0 then
    (some (.inr (some (iV a2), w1)))
   else
   if kd w1 a1 = 4 then
   if (gv w1 a1 9) ≤ 23 ∧ (1 : Int) ≤ 23 then
   (if (gv w1 a1 9) = (1 : Int) then
    (if a2 = 0 then
     (if kd w1 a0 = 8 then
     bN (C 81 w1 [rV a0, rV a1, iV 1]) (fun w3 =>
     if kd w3 a1 = 4 then
     bN (C 23 w3 [rV a1, iV 59]) (fun w4 =>
     some (.inl (28, [some (rV a0), some (rV a1), some (iV (w32 (a2 + 1))), some (iV (w32 (a3 + 1)))], [], w4))) else none) else none)
    else
    if kd w1 a0 = 8 then
    bN (C 81 w1 [rV a0, rV a1, iV 0]) (fun w5 =>
    if kd w5 a1 = 4 then
    bN (C 23 w5 [rV a1, iV 59]) (fun w6 =>
    some (.inl (28, [some (rV a0), some (rV a1), some (iV (w32 (a2 + 1))), some (iV (w32 (a3 + 1)))], [], w6))) else none) else none)
   else
   if kd w1 a1 = 4 then
   if (gv w1 a1 9) ≤ 23 ∧ (2 : Int) ≤ 23 then
   (if (gv w1 a1 9) = (2 : Int) then
    (if kd w1 a0 = 8 then
    bN (C 82 w1 [rV a0, rV a1]) (fun w7 =>
    if kd w7 a1 = 4 then
    bN (C 23 w7 [rV a1, iV 59]) (fun w8 =>
    some (.inl (28, [some (rV a0), some (rV a1), some (iV (w32 (a2 + 1))), some (iV (w32 (a3 + 1)))], [], w8))) else none) else none)
   else
   if kd w1 a1 = 4 then
   if (gv w1 a1 9) ≤ 23 ∧ (3 : Int) ≤ 23 then
   (if (gv w1 a1 9) = (3 : Int) then
    (if kd w1 a0 = 8 then
    bN (C 84 w1 [rV a0, rV a1]) (fun w9 =>
    if kd w9 a1 = 4 then
    bN (C 23 w9 [rV a1, iV 59]) (fun w10 =>
    some (.inl (28, [some (rV a0), some (rV a1), some (iV (w32 (a2 + 1))), some (iV (w32 (a3 + 1)))], [], w10))) else none) else none)
   else
   if kd w1 a1 = 4 then
   bN (C 20 w1 [rV a1, iV 1]) (fun w11 =>
   if kd w11 a1 = 4 then
   bN (C 23 w11 [rV a1, iV 59]) (fun w12 =>
   some (.inl (28, [some (rV a0), some (rV a1), some (iV (w32 (a2 + 1))), some (iV (w32 (a3 + 1)))], [], w12))) else none) else none) else none else none) else none else none) else none else none) else none)
  else
  some (.inr (some (iV a2), w)) := by
  rfl
set_option maxRecDepth 100000 in
theorem eX8_readLeaf_0 (C : sC) (w : sW) (a0 a1 a2 : Int) : sg C mX8_readLeaf 2000 0 [some (rV a0), some (rV a1), some (iV a2), none] [] w =
  if a2 = 0 then
   (if kd w a1 = 4 then
   bN (C 20 w [rV a1, iV 3]) (fun w1 =>
   some (.inr (none, w1))) else none)
  else
  if kd w a1 = 4 then
  bN (C 16 w [rV a1]) (fun w2 =>
  if kd w2 a1 = 4 then
  bI (C 25 w2 [rV a1, iV 4, iV 32]) (fun x4 w3 =>
  if x4 = (-1) then
   (some (.inr (none, w3)))
  else
  if kd w3 a0 = 8 then
  wl (sv w3 a0 4 x4) (fun w5 =>
  some (.inr (none, w5))) else none) else none) else none := by
  rfl
set_option maxRecDepth 100000 in
theorem eX8_readRow_0 (C : sC) (w : sW) (a0 a1 : Int) : sg C mX8_readRow 2000 0 [some (rV a0), some (rV a1), none, none] [] w =
  if kd w a0 = 8 then
  if (gv w a0 3) < 4 then
   (if kd w a1 = 4 then
   bN (C 16 w [rV a1]) (fun w1 =>
   if kd w1 a1 = 4 then
   bI (C 21 w1 [rV a1]) (fun x3 w2 =>
   if x3 = 0 then
    (if kd w2 a1 = 4 then
    bN (C 20 w2 [rV a1, iV 1]) (fun w4 =>
    some (.inr (none, w4))) else none)
   else
   if kd w2 a1 = 4 then
   if kd w2 a0 = 8 then
   bI (C 78 w2 [rV a0, lV (gv w2 a1 8)]) (fun x6 w5 =>
   if x6 = (-1) then
    (if kd w5 a0 = 8 then
    if kd w5 a0 = 8 then
    if kd w5 a1 = 4 then
    if kd w5 (gv w5 a0 1) = 22 ∧ 0 ≤ (gv w5 a0 3) ∧ (gv w5 a0 3) < ln w5 (gv w5 a0 1) then
    wl (sv w5 (gv w5 a0 1) (gv w5 a0 3) (gv w5 a1 8)) (fun w7 =>
    if kd w7 a0 = 8 then
    if kd w7 a0 = 8 then
    if (24 ≤ kd w7 (gv w7 a0 0) ∧ kd w7 (gv w7 a0 0) ≤ 27) ∧ 0 ≤ (gv w7 a0 3) ∧ (gv w7 a0 3) < ln w7 (gv w7 a0 0) then
    if kd w7 (gv w7 (gv w7 a0 0) (gv w7 a0 3)) = 5 then
    bN (C 30 w7 [rV (gv w7 (gv w7 a0 0) (gv w7 a0 3))]) (fun w8 =>
    if kd w8 a0 = 8 then
    if kd w8 a0 = 8 then
    wl (sv w8 a0 3 (w32 ((gv w8 a0 3) + 1))) (fun w9 =>
    if kd w9 a1 = 4 then
    bN (C 16 w9 [rV a1]) (fun w10 =>
    some (.inl (92, [some (rV a0), some (rV a1), some (rV (gv w7 (gv w7 a0 0) (gv w7 a0 3))), some (iV 0)], [], w10))) else none) else none else none) else none else none else none else none) else none else none else none else none)
   else
   if kd w5 a1 = 4 then
   bN (C 20 w5 [rV a1, iV 3]) (fun w11 =>
   some (.inr (none, w11))) else none) else none else none) else none) else none)
  else
  if kd w a1 = 4 then
  bN (C 20 w [rV a1, iV 4]) (fun w12 =>
  some (.inr (none, w12))) else none else none := by
  rfl
set_option maxRecDepth 100000 in
theorem eX8_readRow_92 (C : sC) (w : sW) (a0 a1 a2 a3 : Int) : sg C mX8_readRow 2000 92 [some (rV a0), some (rV a1), some (rV a2), some (iV a3)] [] w =
  if a3 < 940 then
   (if kd w a1 = 4 then
   if (gv w a1 10) = 0 then
    (if kd w a1 = 4 then
    if (gv w a1 4) = 2 then
     (if kd w a0 = 8 then
     bN (C 83 w [rV a0, rV a1, rV a2]) (fun w1 =>
     some (.inl (92, [some (rV a0), some (rV a1), some (rV a2), some (iV (w32 (a3 + 1)))], [], w1))) else none)
    else
    some (.inr (none, w)) else none)
   else
   some (.inr (none, w)) else none)
  else
  some (.inr (none, w)) := by
  rfl
set_option maxRecDepth 100000 in
theorem eX8_readBits_0 (C : sC) (w : sW) (a0 a1 a2 : Int) : sg C mX8_readBits 2000 0 [some (rV a0), some (rV a1), some (rV a2), none, none, none] [] w =
  if kd w a1 = 4 then
  bI (C 27 w [rV a1]) (fun x2 w1 =>
  some (.inl (8, [some (rV a0), some (rV a1), some (rV a2), some (iV x2), some (iV 0), none], [], w1))) else none := by
  rfl
set_option maxRecDepth 100000 in
theorem eX8_readBits_8 (C : sC) (w : sW) (a0 a1 a2 a3 a4 : Int) : sg C mX8_readBits 2000 8 [some (rV a0), some (rV a1), some (rV a2), some (iV a3), some (iV a4), none] [] w =
  if a4 < a3 then
   (if kd w a1 = 4 then
   bI (C 28 w [rV a1, iV a4]) (fun x2 w1 =>
   if x2 = 105 then
    (some (.inl (8, [some (rV a0), some (rV a1), some (rV a2), some (iV a3), some (iV (w32 (a4 + 1))), none], [], w1)))
   else
   if x2 = 111 then
    (some (.inl (8, [some (rV a0), some (rV a1), some (rV a2), some (iV a3), some (iV (w32 (a4 + 1))), none], [], w1)))
   else
   if kd w1 a1 = 4 then
   bN (C 20 w1 [rV a1, iV 2]) (fun w3 =>
   some (.inr (none, w3))) else none) else none)
  else
  if kd w a2 = 5 then
  if 600 < (w32 ((gv w a2 2) + a3)) then
   (if kd w a1 = 4 then
   bN (C 20 w [rV a1, iV 4]) (fun w4 =>
   some (.inr (none, w4))) else none)
  else
  some (.inl (69, [some (rV a0), some (rV a1), some (rV a2), some (iV a3), some (iV 0), none], [], w)) else none := by
  rfl
set_option maxRecDepth 100000 in
theorem eX8_readBits_69 (C : sC) (w : sW) (a0 a1 a2 a3 a4 : Int) : sg C mX8_readBits 2000 69 [some (rV a0), some (rV a1), some (rV a2), some (iV a3), some (iV a4), none] [] w =
  if a4 < a3 then
   (if kd w a2 = 5 then
   if kd w a1 = 4 then
   bI (C 28 w [rV a1, iV a4]) (fun x2 w1 =>
   if x2 = 105 then
    (if kd w1 a0 = 8 then
    if kd w1 a2 = 5 then
    bN (C 48 w1 [rV a2, iV (gv w a2 2), iV 1, iV (gv w1 a0 4)]) (fun w3 =>
    some (.inl (69, [some (rV a0), some (rV a1), some (rV a2), some (iV a3), some (iV (w32 (a4 + 1))), none], [], w3))) else none else none)
   else
   if kd w1 a0 = 8 then
   if kd w1 a2 = 5 then
   bN (C 48 w1 [rV a2, iV (gv w a2 2), iV 0, iV (gv w1 a0 4)]) (fun w4 =>
   some (.inl (69, [some (rV a0), some (rV a1), some (rV a2), some (iV a3), some (iV (w32 (a4 + 1))), none], [], w4))) else none else none) else none else none)
  else
  if kd w a1 = 4 then
  bN (C 16 w [rV a1]) (fun w5 =>
  some (.inr (none, w5))) else none := by
  rfl
set_option maxRecDepth 100000 in
theorem eX8_readLetters_0 (C : sC) (w : sW) (a0 a1 : Int) : sg C mX8_readLetters 2000 0 [some (rV a0), some (rV a1), none] [] w =
  if kd w a0 = 8 then
  if (gv w a0 5) = 0 then
   (if kd w a0 = 8 ∧ ((1 : Int) = 0 ∨ (1 : Int) = 1) then
   wl (sv w a0 5 1) (fun w1 =>
   if kd w1 a1 = 4 then
   bN (C 16 w1 [rV a1]) (fun w2 =>
   some (.inl (24, [some (rV a0), some (rV a1), some (iV 0)], [], w2))) else none) else none)
  else
  if kd w a1 = 4 then
  bN (C 20 w [rV a1, iV 3]) (fun w3 =>
  some (.inr (none, w3))) else none else none := by
  rfl
set_option maxRecDepth 100000 in
theorem eX8_readLetters_24 (C : sC) (w : sW) (a0 a1 a2 : Int) : sg C mX8_readLetters 2000 24 [some (rV a0), some (rV a1), some (iV a2)] [] w =
  if a2 < 940 then
   (if kd w a1 = 4 then
   if (gv w a1 10) = 0 then
    (if kd w a1 = 4 then
    if (gv w a1 4) = 2 then
     (if kd w a0 = 8 then
     bN (C 85 w [rV a0, rV a1]) (fun w1 =>
     some (.inl (24, [some (rV a0), some (rV a1), some (iV (w32 (a2 + 1)))], [], w1))) else none)
    else
    some (.inr (none, w)) else none)
   else
   some (.inr (none, w)) else none)
  else
  some (.inr (none, w)) := by
  rfl
set_option maxRecDepth 100000 in
theorem eX8_readLettersOfWord_0 (C : sC) (w : sW) (a0 a1 : Int) : sg C mX8_readLettersOfWord 2000 0 [some (rV a0), some (rV a1), none, none] [] w =
  if kd w a1 = 4 then
  bI (C 27 w [rV a1]) (fun x2 w1 =>
  some (.inl (7, [some (rV a0), some (rV a1), some (iV x2), some (iV 0)], [], w1))) else none := by
  rfl
set_option maxRecDepth 100000 in
theorem eX8_readLettersOfWord_7 (C : sC) (w : sW) (a0 a1 a2 a3 : Int) : sg C mX8_readLettersOfWord 2000 7 [some (rV a0), some (rV a1), some (iV a2), some (iV a3)] [] w =
  if a3 < a2 then
   (if kd w a1 = 4 then
   bI (C 28 w [rV a1, iV a3]) (fun x2 w1 =>
   bI (C 134 w1 [iV (w32 (x2 - 97))]) (fun x4 w3 =>
   if x4 = 0 then
    (if kd w3 a1 = 4 then
    bN (C 20 w3 [rV a1, iV 2]) (fun w5 =>
    some (.inr (none, w5))) else none)
   else
   some (.inl (7, [some (rV a0), some (rV a1), some (iV a2), some (iV (w32 (a3 + 1)))], [], w3)))) else none)
  else
  if kd w a0 = 8 then
  if kd w (gv w a0 2) = 6 then
  if 200 < (w32 ((gv w (gv w a0 2) 1) + a2)) then
   (if kd w a1 = 4 then
   bN (C 20 w [rV a1, iV 4]) (fun w6 =>
   some (.inr (none, w6))) else none)
  else
  some (.inl (61, [some (rV a0), some (rV a1), some (iV a2), some (iV 0)], [], w)) else none else none := by
  rfl
set_option maxRecDepth 100000 in
theorem eX8_readLettersOfWord_61 (C : sC) (w : sW) (a0 a1 a2 a3 : Int) : sg C mX8_readLettersOfWord 2000 61 [some (rV a0), some (rV a1), some (iV a2), some (iV a3)] [] w =
  if a3 < a2 then
   (if kd w a0 = 8 then
   if kd w a0 = 8 then
   if kd w (gv w a0 2) = 6 then
   if kd w a1 = 4 then
   bI (C 28 w [rV a1, iV a3]) (fun x2 w1 =>
   if kd w1 (gv w a0 2) = 6 then
   bN (C 62 w1 [rV (gv w a0 2), iV (gv w (gv w a0 2) 1), iV (w32 (x2 - 97))]) (fun w3 =>
   some (.inl (61, [some (rV a0), some (rV a1), some (iV a2), some (iV (w32 (a3 + 1)))], [], w3))) else none) else none else none else none else none)
  else
  if kd w a1 = 4 then
  bN (C 16 w [rV a1]) (fun w4 =>
  some (.inr (none, w4))) else none := by
  rfl
set_option maxRecDepth 100000 in
theorem eX8_whyNot_0 (C : sC) (w : sW) (a0 a1 a2 a3 a4 : Int) : sg C mX8_whyNot 2000 0 [some (rV a0), some (rV a1), some (iV a2), some (iV a3), some (iV a4), none] [] w =
  if a1 ≤ 23 ∧ (10 : Int) ≤ 23 then
  (if a1 = (10 : Int) then
   (if a2 < 0 then
    (some (.inr (some (iV 1), w)))
   else
   if kd w a0 = 8 then
   if kd w (gv w a0 2) = 6 then
   if (gv w (gv w a0 2) 1) < a2 then
    (some (.inr (some (iV 1), w)))
   else
   if kd w a0 = 8 then
   if kd w (gv w a0 2) = 6 then
   if (gv w (gv w a0 2) 1) < 200 then
    (some (.inr (some (iV 0), w)))
   else
   some (.inr (some (iV 2), w)) else none else none else none else none)
  else
  if a1 ≤ 23 ∧ (11 : Int) ≤ 23 then
  (if a1 = (11 : Int) then
   (if kd w a0 = 8 then
   if kd w (gv w a0 2) = 6 then
   bI (C 57 w [rV (gv w a0 2), iV a2, iV a3]) (fun x2 w1 =>
   if x2 = 0 then
    (some (.inr (some (iV 1), w1)))
   else
   some (.inr (some (iV 0), w1))) else none else none)
  else
  if kd w a0 = 8 then
  bR (C 77 w [rV a0, iV a2]) (fun r4 w3 =>
  if r4 = 0 then
   (some (.inr (some (iV 1), w3)))
  else
  if a1 ≤ 23 ∧ (8 : Int) ≤ 23 then
  (if a1 = (8 : Int) then
   (if kd w3 a0 = 8 then
   bR (C 77 w3 [rV a0, iV a3]) (fun r6 w5 =>
   bI (C 87 w5 [rV r6, iV 0, rV r4]) (fun x8 w7 =>
   some (.inr (some (iV x8), w7)))) else none)
  else
  if a1 ≤ 23 ∧ (9 : Int) ≤ 23 then
  (if a1 = (9 : Int) then
   (if kd w3 a0 = 8 then
   bR (C 77 w3 [rV a0, iV a4]) (fun r10 w9 =>
   bI (C 87 w9 [rV r4, iV a3, rV r10]) (fun x12 w11 =>
   some (.inr (some (iV x12), w11)))) else none)
  else
  if a1 ≤ 23 ∧ (4 : Int) ≤ 23 then
  (if a1 = (4 : Int) then
   (if kd w3 r4 = 5 then
   bI (C 32 w3 [rV r4, iV a3]) (fun x14 w13 =>
   if x14 = 0 then
    (some (.inr (some (iV 1), w13)))
   else
   if kd w13 r4 = 5 then
   if (gv w13 r4 2) < 600 then
    (some (.inr (some (iV 0), w13)))
   else
   some (.inr (some (iV 2), w13)) else none) else none)
  else
  if a1 ≤ 23 ∧ (5 : Int) ≤ 23 then
  (if a1 = (5 : Int) then
   (if kd w3 r4 = 5 then
   bI (C 34 w3 [rV r4, iV a3]) (fun x16 w15 =>
   if x16 = (-1) then
    (some (.inr (some (iV 1), w15)))
   else
   if kd w15 r4 = 5 then
   bI (C 34 w15 [rV r4, iV a3]) (fun x18 w17 =>
   if x18 = a4 then
    (some (.inr (some (iV 2), w17)))
   else
   some (.inr (some (iV 0), w17))) else none) else none)
  else
  if kd w3 r4 = 5 then
  bI (C 33 w3 [rV r4, iV a3, iV a4]) (fun x20 w19 =>
  if x20 = 0 then
   (some (.inr (some (iV 1), w19)))
  else
  some (.inr (some (iV 0), w19))) else none) else none) else none) else none) else none) else none) else none) else none := by
  rfl
set_option maxRecDepth 100000 in
theorem eX8_whyNotMoved_0 (C : sC) (w : sW) (a0 a1 a2 : Int) : sg C mX8_whyNotMoved 2000 0 [some (rV a0), some (iV a1), some (rV a2)] [] w =
  if a0 = 0 then
   (some (.inr (some (iV 1), w)))
  else
  if a2 = 0 then
   (some (.inr (some (iV 1), w)))
  else
  if kd w a0 = 5 then
  bI (C 34 w [rV a0, iV a1]) (fun x2 w1 =>
  if x2 = (-1) then
   (some (.inr (some (iV 1), w1)))
  else
  if kd w1 a2 = 5 then
  if kd w1 a0 = 5 then
  if 600 < (w32 ((w32 ((gv w1 a2 2) + (gv w1 a0 2))) - a1)) then
   (some (.inr (some (iV 2), w1)))
  else
  some (.inr (some (iV 0), w1)) else none else none) else none := by
  rfl
set_option maxRecDepth 100000 in
theorem eX8_act_0 (C : sC) (w : sW) (a0 a1 a2 a3 a4 : Int) : sg C mX8_act 2000 0 [some (rV a0), some (rV a1), some (iV a2), some (iV a3), some (iV a4), none, none] [] w =
  if a1 ≤ 23 ∧ (10 : Int) ≤ 23 then
  (if a1 = (10 : Int) then
   (if kd w a0 = 8 then
   if kd w (gv w a0 2) = 6 then
   bN (C 62 w [rV (gv w a0 2), iV a2, iV a3]) (fun w1 =>
   some (.inr (none, w1))) else none else none)
  else
  if a1 ≤ 23 ∧ (11 : Int) ≤ 23 then
  (if a1 = (11 : Int) then
   (if kd w a0 = 8 then
   if kd w (gv w a0 2) = 6 then
   bN (C 63 w [rV (gv w a0 2), iV a2, iV a3]) (fun w2 =>
   some (.inr (none, w2))) else none else none)
  else
  if kd w a0 = 8 then
  bR (C 77 w [rV a0, iV a2]) (fun r4 w3 =>
  if a1 ≤ 23 ∧ (8 : Int) ≤ 23 then
  (if a1 = (8 : Int) then
   (if kd w3 a0 = 8 then
   bR (C 77 w3 [rV a0, iV a3]) (fun r6 w5 =>
   some (.inl (74, [some (rV a0), some (rV a1), none, some (iV a3), some (iV a4), some (rV r4), none], [rV r6], w5))) else none)
  else
  if a1 ≤ 23 ∧ (9 : Int) ≤ 23 then
  (if a1 = (9 : Int) then
   (if kd w3 a0 = 8 then
   bR (C 77 w3 [rV a0, iV a4]) (fun r8 w7 =>
   some (.inl (74, [some (rV a0), some (rV a1), none, some (iV a3), some (iV a4), some (rV r4), none], [rV r8], w7))) else none)
  else
  some (.inl (74, [some (rV a0), some (rV a1), none, some (iV a3), some (iV a4), some (rV r4), none], [rV r4], w3))) else none) else none) else none) else none) else none := by
  rfl
set_option maxRecDepth 100000 in
theorem eX8_act_74 (C : sC) (w : sW) (a0 a1 a3 a4 a5 b0 : Int) : sg C mX8_act 2000 74 [some (rV a0), some (rV a1), none, some (iV a3), some (iV a4), some (rV a5), none] [rV b0] w =
  if a5 = 0 then
   (some (.inr (none, w)))
  else
  if b0 = 0 then
   (some (.inr (none, w)))
  else
  if a1 ≤ 23 ∧ (4 : Int) ≤ 23 then
  (if a1 = (4 : Int) then
   (if kd w a0 = 8 then
   if kd w a5 = 5 then
   bN (C 48 w [rV a5, iV a3, iV a4, iV (gv w a0 4)]) (fun w1 =>
   some (.inr (none, w1))) else none else none)
  else
  if a1 ≤ 23 ∧ (5 : Int) ≤ 23 then
  (if a1 = (5 : Int) then
   (if kd w a5 = 5 then
   bN (C 52 w [rV a5, iV a3, iV 1]) (fun w2 =>
   some (.inr (none, w2))) else none)
  else
  if a1 ≤ 23 ∧ (6 : Int) ≤ 23 then
  (if a1 = (6 : Int) then
   (if kd w a0 = 8 then
   if kd w a5 = 5 then
   bN (C 50 w [rV a5, iV a3, iV a4, iV (gv w a0 4)]) (fun w3 =>
   some (.inr (none, w3))) else none else none)
  else
  if a1 ≤ 23 ∧ (7 : Int) ≤ 23 then
  (if a1 = (7 : Int) then
   (if kd w a5 = 5 then
   bN (C 52 w [rV a5, iV a3, iV a4]) (fun w4 =>
   some (.inr (none, w4))) else none)
  else
  if a1 ≤ 23 ∧ (8 : Int) ≤ 23 then
  (if a1 = (8 : Int) then
   (if kd w a0 = 8 then
   if kd w a5 = 5 then
   bN (C 53 w [rV a5, rV b0, iV 0, iV (gv w a0 4)]) (fun w5 =>
   if kd w5 b0 = 5 then
   bN (C 30 w5 [rV b0]) (fun w6 =>
   some (.inr (none, w6))) else none) else none else none)
  else
  if a1 ≤ 23 ∧ (9 : Int) ≤ 23 then
  (if a1 = (9 : Int) then
   (if kd w a0 = 8 then
   if kd w b0 = 5 then
   bN (C 53 w [rV b0, rV a5, iV a3, iV (gv w a0 4)]) (fun w7 =>
   if kd w7 a5 = 5 then
   if kd w7 a0 = 8 then
   if kd w7 a5 = 5 then
   bN (C 50 w7 [rV a5, iV a3, iV (w32 ((gv w7 a5 2) - a3)), iV (gv w7 a0 4)]) (fun w8 =>
   some (.inr (none, w8))) else none else none else none) else none else none)
  else
  some (.inr (none, w))) else none) else none) else none) else none) else none) else none := by
  rfl
set_option maxRecDepth 100000 in
theorem eX9_height_0 (C : sC) (w : sW) (a0 : Int) : sg C mX9_height 2000 0 [some (iV a0), none, none] [] w =
  some (.inl (4, [none, some (iV 0), some (iV a0)], [], w)) := by
  rfl
set_option maxRecDepth 100000 in
theorem eX9_height_4 (C : sC) (w : sW) (a1 a2 : Int) : sg C mX9_height 2000 4 [none, some (iV a1), some (iV a2)] [] w =
  if 1 < a2 then
   (if (2 : Int) = 0 then none else
   some (.inl (4, [none, some (iV (w32 (a1 + 1))), some (iV (w32 (a2 - (w32 (Int.tdiv a2 2)))))], [], w)))
  else
  some (.inr (some (iV a1), w)) := by
  rfl
set_option maxRecDepth 100000 in
theorem eX9_inner_0 (C : sC) (w : sW) (a0 : Int) : sg C mX9_inner 2000 0 [some (iV a0)] [] w =
  if 1 < a0 then
   (some (.inr (some (iV (w32 (a0 - 1))), w)))
  else
  some (.inr (some (iV 0), w)) := by
  rfl
set_option maxRecDepth 100000 in
theorem eX9_mixed_0 (C : sC) (w : sW) (a0 : Int) : sg C mX9_mixed 2000 0 [some (iV a0)] [] w =
  bI (C 92 w [iV a0, iV 0]) (fun x2 w1 =>
  some (.inr (some (iV x2), w1))) := by
  rfl
set_option maxRecDepth 100000 in
theorem eX9_triples_0 (C : sC) (w : sW) (a0 a1 : Int) : sg C mX9_triples 2000 0 [some (iV a0), some (iV a1), none] [] w =
  if 3 < a0 then
   (if 20 < a1 then
    (if a0 = 3 then
     (some (.inr (some (iV 1), w)))
    else
    some (.inr (some (iV 0), w)))
   else
   if (2 : Int) = 0 then none else
   bI (C 92 w [iV (w32 (a0 - (w32 (Int.tdiv a0 2)))), iV (w32 (a1 + 1))]) (fun x2 w1 =>
   bI (C 92 w1 [iV (w32 (Int.tdiv a0 2)), iV (w32 (a1 + 1))]) (fun x4 w3 =>
   some (.inr (some (iV (w32 (x2 + x4))), w3)))))
  else
  if a0 = 3 then
   (some (.inr (some (iV 1), w)))
  else
  some (.inr (some (iV 0), w)) := by
  rfl
set_option maxRecDepth 100000 in
theorem eX9_cost_0 (C : sC) (w : sW) (a0 : Int) : sg C mX9_cost 2000 0 [some (rV a0), none, none] [] w =
  if kd w a0 = 5 then
  bI (C 90 w [iV (gv w a0 3)]) (fun x2 w1 =>
  some (.inl (12, [some (rV a0), some (iV (w32 (5 * x2))), some (iV 0)], [], w1))) else none := by
  rfl
set_option maxRecDepth 100000 in
theorem eX9_cost_12 (C : sC) (w : sW) (a0 a1 a2 : Int) : sg C mX9_cost 2000 12 [some (rV a0), some (iV a1), some (iV a2)] [] w =
  if kd w a0 = 5 then
  if a2 < (gv w a0 3) then
   (if kd w a0 = 5 then
   if kd w (gv w a0 1) = 20 ∧ 0 ≤ a2 ∧ a2 < ln w (gv w a0 1) then
   if (32 : Int) = 0 then none else
   some (.inl (12, [some (rV a0), some (iV (w32 (a1 + (w32 ((w32 (Int.tdiv (w32 ((gv w (gv w a0 1) a2) + 31)) 32)) + 4))))), some (iV (w32 (a2 + 1)))], [], w)) else none else none)
  else
  some (.inr (some (iV a1), w)) else none := by
  rfl
set_option maxRecDepth 100000 in
theorem eX10_withCode_0 (C : sC) (w : sW) (a0 : Int) : sg C mX10_withCode 2000 0 [some (lV a0), none, none] [] w =
  some (.inl (2, [some (lV a0), none, some (iV 0)], [], w)) := by
  rfl
set_option maxRecDepth 100000 in
theorem eX10_withCode_2 (C : sC) (w : sW) (a0 a2 : Int) : sg C mX10_withCode 2000 2 [some (lV a0), none, some (iV a2)] [] w =
  if 20 ≤ kd w 24 ∧ kd w 24 ≤ 27 then
  if a2 < (ln w 24) then
   (if (24 ≤ kd w 24 ∧ kd w 24 ≤ 27) ∧ 0 ≤ a2 ∧ a2 < ln w 24 then
   if kd w (gv w 24 a2) = 30 then
   if (cmpL (gv w (gv w 24 a2) 0) a0) = 0 then
    (if (24 ≤ kd w 24 ∧ kd w 24 ≤ 27) ∧ 0 ≤ a2 ∧ a2 < ln w 24 then
    some (.inr (some (rV (gv w 24 a2)), w)) else none)
   else
   some (.inl (2, [some (lV a0), none, some (iV (w32 (a2 + 1)))], [], w)) else none else none)
  else
  some (.inr (some (rV 0), w)) else none := by
  rfl
